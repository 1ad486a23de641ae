section
/-! SOONEST: both come to an end, and leave the two sides alike -/
/-- a row of ways as one number: it grows from way to way -/
def wval (wy : Nat → Nat) : Nat := wy 0 * 1000 + wy 1 * 100 + wy 2 * 10 + wy 3
set_option maxRecDepth 100000 in
theorem wv_c1 {N a b c d n : Nat} (h : N ≤ a * 1000 + b * 100 + c * 10 + d + n) (hb : b ≤ 9) : N ≤ (a + 1) * 1000 + 0 * 100 + c * 10 + d + n := by
  have e : (a + 1) * 1000 = a * 1000 + 1000 := Nat.succ_mul a 1000
  rw [e]; simp only [Nat.zero_mul]
  omega
set_option maxRecDepth 100000 in
theorem wv_c2 {N a b c d n : Nat} (h : N ≤ a * 1000 + b * 100 + c * 10 + d + n) (hb : c ≤ 9) : N ≤ a * 1000 + (b + 1) * 100 + 0 * 10 + d + n := by
  have e : (b + 1) * 100 = b * 100 + 100 := Nat.succ_mul b 100
  rw [e]; simp only [Nat.zero_mul]
  omega
set_option maxRecDepth 100000 in
theorem wv_c3 {N a b c d n : Nat} (h : N ≤ a * 1000 + b * 100 + c * 10 + d + n) (hb : d ≤ 9) : N ≤ a * 1000 + b * 100 + (c + 1) * 10 + 0 + n := by
  have e : (c + 1) * 10 = c * 10 + 10 := Nat.succ_mul c 10
  rw [e]
  omega
set_option maxRecDepth 100000 in
theorem wv_0 {N a b c d n : Nat} (h : N ≤ a * 1000 + b * 100 + c * 10 + d + (n + 1)) (hb : b ≤ 8) (hc : c ≤ 8) (hd : d ≤ 8) : N ≤ (a + 1) * 1000 + 0 * 100 + 0 * 10 + 0 + n := by
  have e : (a + 1) * 1000 = a * 1000 + 1000 := Nat.succ_mul a 1000
  rw [e]; simp only [Nat.zero_mul]
  omega
set_option maxRecDepth 100000 in
theorem wv_1 {N a b c d n : Nat} (h : N ≤ a * 1000 + b * 100 + c * 10 + d + (n + 1)) (hc : c ≤ 8) (hd : d ≤ 8) : N ≤ a * 1000 + (b + 1) * 100 + 0 * 10 + 0 + n := by
  have e : (b + 1) * 100 = b * 100 + 100 := Nat.succ_mul b 100
  rw [e]; simp only [Nat.zero_mul]
  omega
set_option maxRecDepth 100000 in
theorem wv_2 {N a b c d n : Nat} (h : N ≤ a * 1000 + b * 100 + c * 10 + d + (n + 1)) (hd : d ≤ 8) : N ≤ a * 1000 + b * 100 + (c + 1) * 10 + 0 + n := by
  have e : (c + 1) * 10 = c * 10 + 10 := Nat.succ_mul c 10
  rw [e]
  omega
set_option maxRecDepth 100000 in
theorem wv_3 {N a b c d n : Nat} (h : N ≤ a * 1000 + b * 100 + c * 10 + d + (n + 1)) : N ≤ a * 1000 + b * 100 + c * 10 + (d + 1) + n := by omega
section jSoon3
variable {E : jEnv} {d : Nat} {S S' : jM} {x sz M : Nat} {v : Nat → Int32}
def updN (f : Nat → Nat) (n w : Nat) : Nat → Nat := fun j => if j = n then w else f j
theorem updN_at (f : Nat → Nat) (n w : Nat) : updN f n w n = w := by unfold updN; rw [if_pos rfl]
theorem updN_ne (f : Nat → Nat) {n j : Nat} (w : Nat) (h : j ≠ n) : updN f n w j = f j := by unfold updN; rw [if_neg h]
/-- what holds on the reference's side between two ways -/
def WY (S S1 : jM) (x : Nat) (v : Nat → Int32) (wy : Nat → Nat) : Prop := gsf S S1 x ∧ MR S1 (x + 94) v ∧ (∀ j, j < 135 → ji S1 (x + 107) j = v j) ∧ ∀ i, i < 4 → ji S1 (x + 108) i = nI (wy i)
theorem WY.put {S1 : jM} {wy : Nat → Nat} {i w : Nat} (h : WY S S1 x v wy) (hi : i < 4) : WY S (jput S1 (x + 108) i (nI w)) x v (updN wy i w) := by
  obtain ⟨h1, h2, h3, h4⟩ := h
  have c : jch S1 (jput S1 (x + 108) i (nI w)) (x + 108) (x + 109) := jch.put (by omega) (by omega)
  refine ⟨h1.trans (gsf.way (jch.put (by omega) (by omega))), h2.keep c (by omega), fun j hj => by rw [c.2 _ (by omega)]; exact h3 j hj, fun j hj => ?_⟩
  rw [ji_put]
  by_cases e : j = i
  · rw [if_pos ⟨rfl, e⟩, e, updN_at]
  · rw [if_neg (fun q => e q.2), updN_ne _ _ e]; exact h4 j hj
theorem WY.cong {S1 : jM} {wy wy' : Nat → Nat} (h : WY S S1 x v wy) (he : ∀ i, i < 4 → wy' i = wy i) : WY S S1 x v wy' := ⟨h.1, h.2.1, h.2.2.1, fun i hi => by rw [he i hi]; exact h.2.2.2 i hi⟩
theorem c_X11_findSoonest {Q : jM → Prop} (hM : MR S (x + 94) v) (hg : Rg sz v) (hT : TXS S x (x + 20) M v) (hv0 : v 0 = nI sz) (hz : sz ≤ 9) (hq : ∀ S', gsf S S' x → MR S' (x + 94) v → Q S') : jFv E mX11_findSoonest (d + 5) 0 0 [.ref (x + 94)] S Q := by
  have main : ∀ (n : Nat) (S1 : jM) (wy : Nat → Nat), 10000 ≤ wval wy + n → WY S S1 x v wy → wy 0 ≤ sz → (∀ j, 1 ≤ j → j < 4 → wy j < sz ∨ wy j = 0) → L_X11_findSoonest_33 E (d + 4) Q (x + 94) S1 := by
    intro n
    induction n with
    | zero =>
      intro S1 wy hn h1 h0 hd
      exfalso
      unfold wval at hn
      have := hd 1 (by omega) (by omega)
      have := hd 2 (by omega) (by omega)
      have := hd 3 (by omega) (by omega)
      omega
    | succ n ih =>
      intro S1 wy hn h1 h0 hd
      obtain ⟨g1, m1, cl1, w1⟩ := id h1
      have i0 := m1.at (i := 0) 0 rfl (by omega)
      have l1 := m1.1
      have j0 : vp_in 0 (jl S1 (x + 108)) := by rw [l1.r14.2.2]; exact jin_nI (n := 0) (by omega) (by omega)
      refine T_X11_findSoonest_33 ⟨m1.k, _, m1.r, m1.k1, i0.1, ?_⟩
      rw [i0.2, hv0]
      refine ⟨fun _ => hq S1 g1 m1, fun c0 => ⟨_, l1.r14.1, l1.r14.2.1, j0, ?_⟩⟩
      have s0 : 0 < sz := by
        rcases Nat.eq_zero_or_pos sz with e | e
        · rw [e] at c0; exact absurd (by decide) c0
        · exact e
      have ej0 : ji S1 (x + 108) (Int32.toNatClampNeg 0) = nI (wy 0) := w1 0 (by omega)
      rw [ej0]
      refine ⟨fun _ => hq S1 g1 m1, fun c1 => T_X11_goesWay ?_⟩
      have hlt : wy 0 < sz := by
        rcases Nat.lt_or_ge (wy 0) sz with q | q
        · exact q
        · exact absurd (nI_le q (by omega)) c1
      have hall : ∀ j, j < 4 → wy j < sz := fun j hj => by
        rcases Nat.eq_zero_or_pos j with e | e
        · rw [e]; exact hlt
        · rcases hd j e hj with q | q
          · exact q
          · rw [q]; exact s0
      have hT1 : TXS S1 x (x + 20) M v := hT.same g1.1 (fun y p _ => g1.2.1 y (by omega) (by omega) (by omega) (by omega)) (fun _ _ _ => rfl)
      -- the carry
      have carry : ∀ (i : Nat) (S2 : jM) (wz : Nat → Nat), i < 4 → WY S S2 x v wz → (∀ j, j < i → wz j < sz) → (∀ j, i < j → j < 4 → wz j < sz) → wz i ≤ sz → 10000 ≤ wval wz + n → L_X11_findSoonest_100 E (d + 4) Q (x + 94) (nI i) S2 := by
        intro i
        induction i with
        | zero =>
          intro S2 wz _ h2 _ b2 b3 b4
          exact T_X11_findSoonest_100 ⟨fun _ => ih S2 wz b4 h2 b3 (fun j p q => Or.inl (b2 j (by omega) q)), fun cc => absurd (by decide) cc⟩
        | succ i ihi =>
          intro S2 wz hi4 h2 b1 b2 b3 b4
          obtain ⟨g2, m2, cl2, w2⟩ := id h2
          have l2 := m2.1
          have k0 := m2.at (i := 0) 0 rfl (by omega)
          have e1 : nI (i + 1) - 1 = nI i := nI_pred i
          have e2 : nI (i + 1) + (-1) = nI i := by rw [← nI_pred i]; exact (Int32.sub_eq_add_neg _ _).symm
          refine T_X11_findSoonest_100 ⟨fun cc => absurd cc (nI_ge (a := 0) (b := i + 1) (by omega) (by omega)), fun _ => ⟨m2.k, _, l2.r14.1, l2.r14.2.1, by rw [l2.r14.2.2]; exact jin_nI hi4 (by omega), _, m2.r, m2.k1, k0.1, ?_⟩⟩
          rw [jcl (n := i + 1) (by omega), w2 (i + 1) hi4, k0.2, hv0]
          refine ⟨fun ce => ⟨by rw [e1, l2.r14.2.2]; exact jin_nI (by omega) (by omega), ?_⟩, fun ce => ?_⟩
          · have ez : wz (i + 1) = sz := nI_inj (by omega) (by omega) ce
            rw [e1, e2, jcl (n := i) (by omega), ji_put, if_neg (by omega), w2 i (by omega), nI_1]
            have h3 := (h2.put (i := i + 1) (w := 0) hi4).put (i := i) (w := wz i + 1) (by omega)
            have bi := b1 i (by omega)
            refine ihi _ _ (by omega) h3 (fun j hj => ?_) (fun j p q => ?_) ?_ ?_
            · rw [updN_ne _ _ (by omega), updN_ne _ _ (by omega)]; exact b1 j (by omega)
            · rw [updN_ne _ _ (by omega)]
              by_cases ej : j = i + 1
              · rw [ej, updN_at]; omega
              · rw [updN_ne _ _ ej]; exact b2 j (by omega) q
            · rw [updN_at]; omega
            · have hi3 : i = 0 ∨ i = 1 ∨ i = 2 := by omega
              unfold wval at b4 ⊢
              rcases hi3 with rfl | rfl | rfl
              · rw [updN_at, updN_ne _ _ (by omega), updN_at, updN_ne _ _ (by omega), updN_ne _ _ (by omega), updN_ne _ _ (by omega), updN_ne _ _ (by omega)]
                have ez1 : wz 1 = sz := ez
                exact wv_c1 b4 (by omega)
              · rw [updN_ne _ _ (by omega), updN_ne _ _ (by omega), updN_at, updN_ne _ _ (by omega), updN_at, updN_ne _ _ (by omega), updN_ne _ _ (by omega)]
                have ez1 : wz 2 = sz := ez
                exact wv_c2 b4 (by omega)
              · rw [updN_ne _ _ (by omega), updN_ne _ _ (by omega), updN_ne _ _ (by omega), updN_ne _ _ (by omega), updN_at, updN_ne _ _ (by omega), updN_at]
                have ez1 : wz 3 = sz := ez
                exact wv_c3 b4 (by omega)
          · have hne : wz (i + 1) < sz := by
              rcases Nat.lt_or_ge (wz (i + 1)) sz with q | q
              · exact q
              · exact absurd (by rw [show wz (i + 1) = sz by omega]) ce
            refine ih S2 wz b4 h2 (Nat.le_of_lt (b1 0 (by omega))) (fun j p q => Or.inl ?_)
            rcases Nat.lt_trichotomy j (i + 1) with t | t | t
            · exact b1 j t
            · rw [t]; exact hne
            · exact b2 j t q
      -- zeros behind
      have zeros : ∀ (c i a : Nat) (S2 : jM) (wz : Nat → Nat), i + c = 4 → a < i → WY S S2 x v wz → (∀ S3 wu, WY S S3 x v wu → (∀ j, j < i → wu j = wz j) → (∀ j, i ≤ j → j < 4 → wu j = 0) → L_X11_findSoonest_100 E (d + 4) Q (x + 94) (nI a) S3) → L_X11_findSoonest_80 E (d + 4) Q (x + 94) (nI a) (nI i) S2 := by
        intro c
        induction c with
        | zero =>
          intro i a S2 wz hi ha h2 k
          obtain rfl : i = 4 := by omega
          exact T_X11_findSoonest_80 ⟨fun _ => k S2 wz h2 (fun _ _ => rfl) (fun j p q => absurd p (by omega)), fun cc => absurd (by decide) cc⟩
        | succ c ihc =>
          intro i a S2 wz hi ha h2 k
          have l2 := h2.2.1.1
          refine T_X11_findSoonest_80 ⟨fun cc => absurd cc (nI_ge (b := 4) (by omega) (by omega)), fun _ => ⟨l2.1, _, l2.r14.1, l2.r14.2.1, by rw [l2.r14.2.2]; exact jin_nI (by omega) (by omega), ?_⟩⟩
          rw [nI_1, jcl (by omega)]
          refine ihc (i + 1) a _ _ (by omega) (by omega) (h2.put (i := i) (w := 0) (by omega)) (fun S3 wu h3 p q => k S3 wu h3 (fun j hj => ?_) (fun j p1 q1 => ?_))
          · rw [p j (by omega), updN_ne _ _ (by omega)]
          · by_cases e : j = i
            · rw [e, p i (by omega), updN_at]
            · exact q j (by omega) q1
      refine l_X11_goesWay (S0 := S1) (wy := wy) hT1 hv0 hz (fun i hi => ⟨hall i hi, w1 i hi⟩) (fun a ha S2 u g2 h2 a2 => ⟨h2.k, ?_⟩) 4 0 v 0 S1 (by omega) gwf.rfl m1 hg (fun _ _ => rfl)
      have o107 : ji S2 (x + 107) = ji S1 (x + 107) := g2.2.1 _ (by omega) (by omega) (by omega)
      have o108 : ji S2 (x + 108) = ji S1 (x + 108) := g2.2.1 _ (by omega) (by omega) (by omega)
      refine c_X11_laysBack (v := v) h2 (fun j hj => ?_) (fun S3 c3 h3 => ?_)
      · show ji S2 (x + 94 + 13) j = v j
        rw [show x + 94 + 13 = x + 107 by omega, o107]; exact cl1 j hj
      have h3' : MR S3 (x + 94) v := ⟨h3.1, fun j => (h3.2 j).trans (by
        show (if j < 135 then v j else u j) = v j
        by_cases hj : j < 135
        · rw [if_pos hj]
        · rw [if_neg hj]; exact a2 j (by omega))⟩
      have l3 := h3.1
      have o3 : ji S3 (x + 108) = ji S1 (x + 108) := (c3.2 _ (by omega)).trans o108
      have y3 : WY S S3 x v wy := ⟨g1.trans ((g2.trans (gwf.row c3)).sf), h3', fun j hj => by rw [c3.2 _ (by omega), o107]; exact cl1 j hj, fun i hi => by rw [o3]; exact w1 i hi⟩
      refine ⟨l3.1, _, l3.r14.1, l3.r14.2.1, by rw [l3.r14.2.2]; exact jin_nI ha (by omega), ?_⟩
      rw [jcl (by omega), y3.2.2.2 a ha, nI_1, nI_1]
      have y4 := y3.put (i := a) (w := wy a + 1) ha
      refine zeros (4 - (a + 1)) (a + 1) a _ _ (by omega) (by omega) y4 (fun S5 wu h5 p q => ?_)
      have ea : wu a = wy a + 1 := by rw [p a (by omega), updN_at]
      have eb : ∀ j, j < a → wu j = wy j := fun j hj => by rw [p j (by omega), updN_ne _ _ (by omega)]
      have ha' := hall a ha
      refine carry a S5 wu ha h5 (fun j hj => by rw [eb j hj]; exact hall j (by omega)) (fun j p1 q1 => by rw [q j (by omega) q1]; exact s0) (by omega) ?_
      have q0 := hall 0 (by omega)
      have q1 := hall 1 (by omega)
      have q2 := hall 2 (by omega)
      have q3 := hall 3 (by omega)
      unfold wval at hn ⊢
      have hac : a = 0 ∨ a = 1 ∨ a = 2 ∨ a = 3 := by omega
      rcases hac with rfl | rfl | rfl | rfl
      · rw [ea, q 1 (by omega) (by omega), q 2 (by omega) (by omega), q 3 (by omega) (by omega)]; exact wv_0 hn (by omega) (by omega) (by omega)
      · rw [ea, eb 0 (by omega), q 2 (by omega) (by omega), q 3 (by omega) (by omega)]; exact wv_1 hn (by omega) (by omega)
      · rw [ea, eb 0 (by omega), eb 1 (by omega), q 3 (by omega) (by omega)]; exact wv_2 hn (by omega)
      · rw [ea, eb 0 (by omega), eb 1 (by omega), eb 2 (by omega)]; exact wv_3 hn
  -- the start
  have start : ∀ (c i : Nat) (S1 : jM), i + c = 4 → gsf S S1 x → MR S1 (x + 94) v → (∀ j, j < 135 → ji S1 (x + 107) j = v j) → (∀ j, j < i → ji S1 (x + 108) j = 0) → L_X11_findSoonest_15 E (d + 4) Q (x + 94) (nI i) S1 := by
    intro c
    induction c with
    | zero =>
      intro i S1 hi g1 m1 cl1 w1
      obtain rfl : i = 4 := by omega
      refine T_X11_findSoonest_15 ⟨fun _ => main 10000 S1 (fun _ => 0) (by unfold wval; omega) ⟨g1, m1, cl1, fun i hi => w1 i hi⟩ (by omega) (fun j _ _ => Or.inr rfl), fun cc => absurd (by decide) cc⟩
    | succ c ih =>
      intro i S1 hi g1 m1 cl1 w1
      have l1 := m1.1
      refine T_X11_findSoonest_15 ⟨fun cc => absurd cc (nI_ge (b := 4) (by omega) (by omega)), fun _ => ⟨m1.k, _, l1.r14.1, l1.r14.2.1, by rw [l1.r14.2.2]; exact jin_nI (by omega) (by omega), ?_⟩⟩
      rw [nI_1, jcl (by omega)]
      have c1 : jch S1 (jput S1 (x + 108) i 0) (x + 108) (x + 109) := jch.put (by omega) (by omega)
      refine ih (i + 1) _ (by omega) (g1.trans (gsf.way (jch.put (by omega) (by omega)))) (m1.keep c1 (by omega)) (fun j hj => by rw [c1.2 _ (by omega)]; exact cl1 j hj) (fun j hj => ?_)
      rw [ji_put]
      by_cases e : j = i
      · rw [if_pos ⟨rfl, e⟩]
      · rw [if_neg (fun q => e q.2)]; exact w1 j (by omega)
  have g0 : gsf S (jput S (x + 94) 15 (-1)) x := (gwf.fld (by omega) (by omega)).sf
  have h0 : MR (jput S (x + 94) 15 (-1)) (x + 94) v := hM.fld
  refine T_X11_findSoonest ⟨hM.k, c_X11_findFar h0 (fun S1 c1 _ => ?_)⟩
  have h1 := h0.keep c1 (by omega)
  refine ⟨h1.k, c_X11_laysBy h1 (fun S2 c2 h2 r2 => ?_)⟩
  exact start 4 0 S2 (by omega) ((g0.trans (gsf.way ⟨c1.1, fun y hy => c1.2 y (by omega)⟩)).trans (gsf.way ⟨c2.1, fun y hy => c2.2 y (by omega)⟩)) h2 (fun j hj => r2 j hj) (fun j hj => absurd hj (Nat.not_lt_zero _))
theorem IV.sf (h : IV S x sz M v) (g : gsf S S' x) (hM : MR S' (x + 94) v) : INV S' x M := by
  obtain ⟨⟨hX, hM0, hg⟩, hC, hGL, hjn, hT, hI, hS, hSl, hW, hTp⟩ := id h
  have o : ∀ y, (y < x + 94 ∨ (x + 96 ≤ y ∧ y < x + 106) ∨ y = x + 109 ∨ x + 112 ≤ y) → ji S' y = ji S y := fun y hy => g.2.1 y (by omega) (by omega) (by omega) (by omega)
  have o95 : ji S' (x + 95) = ji S (x + 95) := funext (fun j => (hM.2 j).trans (hM0.2 j).symm)
  refine h.rst g.1 (fun y hy => ?_) ⟨hI.keep g.1 (by rw [o x (by omega)]) (g.2.2 3 (by omega)) (fun y hy => o y (by omega)), hS.keep (fun y hy => o y (by omega)), hSl.keep (fun y hy => o y (by omega)), hW.keep (by rw [o x (by omega)]) (g.2.2 34 (by omega)) (o _ (by omega)) (o _ (by omega)), hTp.keep (by rw [o (x + 60) (by omega)]) (g.2.2 19 (by omega)) (o _ (by omega)) (o _ (by omega))⟩
  by_cases e : y = x + 95
  · rw [e]; exact o95
  · exact o y (by omega)
theorem c_X5_finds {Q : Int32 → jM → Prop} (h : IV S x sz M v) (hq : ∀ r S', jse S S' x → Q r S') : jFi E mX5_finds (d + 17) 0 0 [.ref (x + 52), .ref (x + 1)] S Q := by
  have put : ∀ {S0 : jM} {y j : Nat} {w : Int32}, jse S S0 x → x + 52 ≤ y → y < x + 60 → jse S (jput S0 y j w) x := fun p a b => p.trans (jse.put a b)
  have wish : ∀ (S1 : jM) (Q' : Int32 → jM → Prop), jse S S1 x → (∀ r, Q' r S1) → jFi E mX3_wishedSet (d + 16) 0 0 [.ref (x + 1)] S1 Q' := by
    intro S1 Q' p1 q
    have hR := (h.se p1).1.1.2.2
    have key : ∀ (n i : Nat) (y : Int32), i + n = 6 → L_X3_wishedSet_4 E (d + 16) Q' (x + 1) y (nI i) S1 := by
      intro n
      induction n with
      | zero =>
        intro i y hi
        obtain rfl : i = 6 := by omega
        exact T_X3_wishedSet_4 ⟨hR.1.1, fun _ => q _, fun _ => ⟨fun _ => q _, fun cc => absurd (by decide) cc⟩⟩
      | succ n ih =>
        intro i y hi
        refine T_X3_wishedSet_4 ⟨hR.1.1, fun _ => q _, fun _ => ⟨fun _ => q _, fun _ => ⟨_, hR.1.2.2.2.2.1, hR.1.2.2.2.2.2.2.1, ?_, ?_⟩⟩⟩
        · rw [hR.1.2.2.2.2.2.2.2.1]; exact jin_nI (by omega) (by omega)
        · rw [nI_1]; exact ih (i + 1) _ (by omega)
    exact T_X3_wishedSet (key 6 0 0 (by omega))
  have hs := h.2.1.2.2.1
  have hX := h.1.1
  have l63 : ∀ (n i : Nat) (S1 : jM), i + n = 10 → jse S S1 x → L_X5_finds_63 E (d + 16) Q (x + 52) (x + 1) (nI i) S1 := by
    intro n
    induction n with
    | zero =>
      intro i S1 hi p1
      obtain rfl : i = 10 := by omega
      have h1 := h.se p1
      have s1 := h1.2.1.2.2.1
      have X1 := h1.1.1
      have in0 : ∀ k, k < 5 → vp_in 0 (jl S1 (x + 52 + 1 + k)) := fun k hk => by rw [s1.2.2.1 k hk]; exact jin_nI (n := 0) (by omega) (by omega)
      refine T_X5_finds_63 ⟨fun _ => ⟨s1.1, _, (s1.2.1 0 (by omega)).1, X1.k3, _, X1.r2, X1.l.1.1, (s1.2.1 0 (by omega)).2, in0 0 (by omega), _, (s1.2.1 1 (by omega)).1, (s1.2.1 1 (by omega)).2, in0 1 (by omega), _, (s1.2.1 2 (by omega)).1, (s1.2.1 2 (by omega)).2, in0 2 (by omega), _, (s1.2.1 3 (by omega)).1, (s1.2.1 3 (by omega)).2, in0 3 (by omega), _, (s1.2.1 4 (by omega)).1, (s1.2.1 4 (by omega)).2, in0 4 (by omega), ?_⟩, fun cc => absurd (by decide) cc⟩
      have p2 := put (put (put (put (put p1 (y := x + 52 + 1 + 0) (j := Int32.toNatClampNeg 0) (w := ji S1 (x + 16) 0) (by omega) (by omega)) (y := x + 52 + 1 + 1) (j := Int32.toNatClampNeg 0) (w := ji S1 (x + 16) 1) (by omega) (by omega)) (y := x + 52 + 1 + 2) (j := Int32.toNatClampNeg 0) (w := 0) (by omega) (by omega)) (y := x + 52 + 1 + 3) (j := Int32.toNatClampNeg 0) (w := 0) (by omega) (by omega)) (y := x + 52 + 1 + 4) (j := Int32.toNatClampNeg 0) (w := -1000000005) (by omega) (by omega)
      refine c_X5_goOn 5 0 (d + 16) _ _ (by omega) (by omega) (h.se p2) (fun S3 p3 => ?_)
      have p23 := p2.trans p3
      exact ⟨(h.se p23).2.1.2.2.1.1, fun _ => hq _ S3 p23, fun _ => hq _ S3 p23⟩
    | succ n ih =>
      intro i S1 hi p1
      have h1 := h.se p1
      have s1 := h1.2.1.2.2.1
      have X1 := h1.1.1
      refine T_X5_finds_63 ⟨fun cc => absurd cc (nI_ge (b := 10) (by omega) (by omega)), fun _ => ⟨s1.1, _, (s1.2.1 5 (by omega)).1, X1.k3, _, X1.r2, X1.l.1.1, _, X1.l.1.2.2.1, X1.l.1.2.2.2.2.2.1, ?_, (s1.2.1 5 (by omega)).2, ?_, ?_⟩⟩
      · rw [X1.l.1.2.2.2.2.2.2]; exact jin_nI (by omega) (by omega)
      · rw [show x + 52 + 1 + 5 = x + 52 + 6 by omega, s1.2.2.2.1]; exact jin_nI (by omega) (by omega)
      · rw [nI_1]; exact ih (i + 1) _ (by omega) (put p1 (by omega) (by omega))
  have l39 : ∀ (n i : Nat) (S1 : jM), i + n = 99 → jse S S1 x → L_X5_finds_39 E (d + 16) Q (x + 52) (x + 1) (nI i) S1 := by
    intro n
    induction n with
    | zero =>
      intro i S1 hi p1
      obtain rfl : i = 99 := by omega
      have s1 := (h.se p1).2.1.2.2.1
      have e99 : jl S1 (x + 52 + 1 + 6) = 99 := s1.2.2.2.2
      refine T_X5_finds_39 ⟨s1.1, _, (s1.2.1 6 (by omega)).1, (s1.2.1 6 (by omega)).2, ?_⟩
      rw [e99]
      exact ⟨fun _ => l63 10 0 S1 (by omega) p1, fun cc => absurd Int32.le_rfl cc⟩
    | succ n ih =>
      intro i S1 hi p1
      have s1 := (h.se p1).2.1.2.2.1
      have e99 : jl S1 (x + 52 + 1 + 6) = 99 := s1.2.2.2.2
      refine T_X5_finds_39 ⟨s1.1, _, (s1.2.1 6 (by omega)).1, (s1.2.1 6 (by omega)).2, ?_⟩
      rw [e99]
      refine ⟨fun cc => absurd cc (nI_ge (by omega) (by omega)), fun _ => ⟨jin_nI (by omega) (by omega), ?_⟩⟩
      rw [nI_1]; exact ih (i + 1) _ (by omega) (put p1 (by omega) (by omega))
  refine T_X5_finds ⟨hs.1, hX.k3, ?_⟩
  have p3 := put (put (put (jse.rfl (S := S) (x := x)) (y := x + 52) (j := 9) (w := 1000000000) (by omega) (by omega)) (y := x + 52) (j := 10) (w := 1000000000) (by omega) (by omega)) (y := x + 52) (j := 11) (w := 1000000000) (by omega) (by omega)
  refine wish _ _ p3 (fun r => ⟨hs.1, hX.k3, _, hX.r0, hX.g.1.1, ?_⟩)
  have p4 := put p3 (y := x + 52) (j := 7) (w := r) (by omega) (by omega)
  exact c_X0_taught (h.se p4).1.1.g hX.sz9 ⟨hs.1, l39 99 0 _ (by omega) (put p4 (by omega) (by omega))⟩
theorem Q_soonest {w : Int32} (h : IV S x sz M v) : jFi E mX10_soonest (d + 18) 0 0 [.ref x, .int w] S (fun _ S1 => jFm E mX11_soonest (d + 6) (x + 94) [.int w] S1 (fun _ S2 => INV S2 x M)) := by
  have ref : ∀ S1, jse S S1 x → jFm E mX11_soonest (d + 6) (x + 94) [.int w] S1 (fun _ S2 => INV S2 x M) := by
    intro S1 p1
    have h1 := h.se p1
    obtain ⟨⟨hX, hM, hg⟩, hC, hGL, hjn, hT, -⟩ := id h1
    obtain ⟨wi, hwi, ewi⟩ := hg.wi
    refine U_X11_soonest hM.k ⟨fun _ => h1.inv, fun _ => ⟨hM.k, c_X11_can hM hg hwi ewi ⟨fun _ => ⟨hM.k, ?_⟩, fun _ => ⟨fun _ => h1.inv, fun _ => h1.inv⟩⟩⟩⟩
    refine c_X11_findSoonest hM hg hT hX.v0 hX.sz9 (fun S2 g2 h2 => ?_)
    have v2 := h1.sf g2 h2
    exact ⟨h2.k, fun _ => ⟨fun _ => v2, fun _ => ⟨fun _ => v2, fun _ => v2⟩⟩, fun _ => v2⟩
  have hC := h.2.1
  refine T_X10_soonest ⟨fun _ => ref S jse.rfl, fun _ => ⟨hC.1, _, hC.2.1.2.2.2.1, _, h.1.1.2.1, hC.2.2.1.1, c_X5_finds h (fun r S1 p1 => ⟨fun _ => ref S1 p1, fun _ => ?_⟩)⟩⟩
  have c1 := (h.se p1).2.1
  exact ⟨fun _ => ⟨c1.1, _, c1.2.1.2.2.2.1, c1.2.2.1.1, ref S1 p1⟩, fun _ => ⟨c1.1, _, c1.2.1.2.2.2.1, c1.2.2.1.1, ref S1 p1⟩, fun _ _ => ⟨c1.1, _, c1.2.1.2.2.2.1, c1.2.2.1.1, ref S1 p1⟩⟩
end jSoon3
end
