section
/-! CHECK on both sides -/
/-- the guild after k years -/
def ykk (sz : Nat) (p : gst) : Nat → gst
  | 0 => p
  | k + 1 => yyear sz (ykk sz p k)
/-- number j of the row due -/
def ydue (sz : Nat) (p : gst) (j : Nat) : Int32 := if j % 2 = 0 then mdead (ykk sz p (j / 2 + 1)).2 sz else mages (ykk sz p (j / 2 + 1)).2 sz
theorem ydue_e (sz : Nat) (p : gst) (k : Nat) : ydue sz p (2 * k) = mdead (ykk sz p (k + 1)).2 sz := by
  unfold ydue
  rw [if_pos (by omega), show 2 * k / 2 + 1 = k + 1 by omega]
theorem ydue_o (sz : Nat) (p : gst) (k : Nat) : ydue sz p (2 * k + 1) = mages (ykk sz p (k + 1)).2 sz := by
  unfold ydue
  rw [if_neg (by omega), show (2 * k + 1) / 2 + 1 = k + 1 by omega]
/-- what check answers: the first place that is not as due -/
def CKR (n w : Nat) (f g : Nat → Int32) (r : Int32) : Prop := ∃ j, j ≤ 2 * n ∧ (∀ i, i < j → i < w ∧ f i = g i) ∧ (j = 2 * n ∨ ¬ (j < w ∧ f j = g j)) ∧ r = if j = 2 * n ∧ w = 2 * n then 0 else nI (1 + j)
theorem CKR.one {n w : Nat} {f g : Nat → Int32} {r r' : Int32} (h : CKR n w f g r) (h' : CKR n w f g r') : r = r' := by
  obtain ⟨j, a1, a2, a3, a4⟩ := h
  obtain ⟨k, b1, b2, b3, b4⟩ := h'
  have e : j = k := by
    rcases Nat.lt_trichotomy j k with c | c | c
    · rcases a3 with a3 | a3
      · omega
      · exact absurd (b2 j c) a3
    · exact c
    · rcases b3 with b3 | b3
      · omega
      · exact absurd (a2 k c) b3
  subst e
  rw [a4, b4]
section jCheck
variable {E : jEnv} {d : Nat} {S S' : jM} {x sz M : Nat} {v : Nat → Int32}
theorem c_X11_allOf {Q : Int32 → jM → Prop} {m f : Nat} (hM : MR S m v) (h0 : v 0 = nI sz) (hz : sz ≤ 9) (hf : f < 7) (h : Q (jfold (fun i a => a + mfv v i f) sz 0 (0 : Int32)) S) : jFi E mX11_allOf (d + 1) 0 0 [.ref m, .int (nI f)] S Q := by
  obtain ⟨a1, a2⟩ := hM.at (i := 0) 0 rfl (by omega)
  have key : ∀ (n i : Nat) (a : Int32), i + n = sz → Q (jfold (fun i a => a + mfv v i f) n i a) S → L_X11_allOf_4 E d Q m (nI f) a (nI i) S := by
    intro n
    induction n with
    | zero =>
      intro i a hi hq
      obtain rfl : i = sz := by omega
      refine T_X11_allOf_4 ⟨hM.k, _, hM.r, hM.k1, a1, ?_⟩
      rw [a2, h0]
      exact ⟨fun _ => hq, fun c => absurd (nI_le (Nat.le_refl _) (by omega)) c⟩
    | succ n ih =>
      intro i a hi hq
      refine T_X11_allOf_4 ⟨hM.k, _, hM.r, hM.k1, a1, ?_⟩
      rw [a2, h0]
      refine ⟨fun c => absurd c (nI_ge (by omega) (by omega)), fun _ => c_X11_of hM (by omega) hf ?_⟩
      rw [nI_1]
      exact ih (i + 1) _ (by omega) hq
  exact T_X11_allOf (key sz 0 0 (by omega) h)
theorem mages_v (p : gst) : ∀ (n i : Nat) (a : Int32), i + n ≤ 9 → jfold (fun i a => a + mfv (vg v p) i 5) n i a = jfold (fun i a => a + p.2 i 5) n i a
  | 0, _, _, _ => rfl
  | n + 1, i, a, h => by
    show jfold _ n (i + 1) (a + mfv (vg v p) i 5) = jfold _ n (i + 1) (a + p.2 i 5)
    rw [show mfv (vg v p) i 5 = p.2 i 5 from vg_m p (by omega) (by omega)]
    exact mages_v p n (i + 1) _ (by omega)
theorem mdead_v (p : gst) (hd : ∀ i, i < 9 → p.2 i 6 = 0 ∨ p.2 i 6 = 1) : ∀ (n i : Nat) (a : Int32), i + n ≤ 9 → jfold (fun i a => a + mfv (vg v p) i 6) n i a = jfold (fun i a => if p.2 i 6 = 0 then a + 0 else a + 1) n i a
  | 0, _, _, _ => rfl
  | n + 1, i, a, h => by
    show jfold _ n (i + 1) (a + mfv (vg v p) i 6) = jfold _ n (i + 1) (if p.2 i 6 = 0 then a + 0 else a + 1)
    rw [show mfv (vg v p) i 6 = p.2 i 6 from vg_m p (by omega) (by omega)]
    have e : a + p.2 i 6 = if p.2 i 6 = 0 then a + 0 else a + 1 := by
      rcases hd i (by omega) with e | e
      · rw [if_pos e, e]
      · rw [if_neg (by rw [e]; decide), e]
    rw [e]
    exact mdead_v p hd n (i + 1) _ (by omega)
theorem c_X10_isWaiting {Q : Int32 → jM → Prop} {j w : Nat} {t : Int32} (hC : CL S x) (hj : j < 60) (hw : w ≤ 60) (h1 : j < w → ji S (x + 65) j = t → Q 1 S) (h0 : ¬ (j < w ∧ ji S (x + 65) j = t) → Q 0 S) : jFi E mX10_isWaiting (d + 1) 0 0 [.ref x, .int (nI j), .int (nI w), .int t] S Q := by
  refine T_X10_isWaiting ⟨fun c => h0 (fun q => ?_), fun c => ⟨fun c2 => ?_, fun _ => ⟨hC.1, _, hC.2.1.2.2.2.2.2.2.2, hC.2.2.2.2.2.2.1.1, by rw [hC.2.2.2.2.2.2.1.2]; exact jin_nI hj (by omega), ?_⟩⟩⟩
  · have := (nI_leI (by omega) (by omega)).mp c
    omega
  · rw [show (60 : Int32) = nI 60 from rfl, jwi_at hj (by omega)] at c2
    exact absurd c2 (by decide)
  · have hjw : j < w := by
      rcases Nat.lt_or_ge j w with q | q
      · exact q
      · exact absurd (nI_le q (by omega)) c
    rw [jcl (by omega)]
    exact ⟨fun e => h1 hjw e, fun e => h0 (fun q => e q.2)⟩
theorem nI_2 (k : Nat) : (2 : Int32) * nI k = nI (2 * k) := by rw [show (2 : Int32) = nI 2 from rfl, nI_mul]
theorem Q_check {u : Int32} (h : IV S x sz M v) : jFi E mX10_check (d + 3) 0 0 [.ref x, .int u] S (fun r S1 => jFm E mX11_check (d + 3) (x + 94) [.int u] S1 (fun r' S2 => r = r' ∧ INV S2 x M)) := by
  obtain ⟨⟨hX, hM, hg⟩, hC, hGL, hjn, hT, hI, hS, hSl, hW, hTp⟩ := id h
  obtain ⟨szi, vi, i1, i2, i3⟩ := id hI
  obtain ⟨w, w60, w1, w2, w3⟩ := id hW
  have m := hM.1
  -- what both leave
  have fin : ∀ (S2 : jM), jsame S S2 → (∀ y, y ≠ x → (y < x + 41 ∨ x + 52 ≤ y) → y ≠ x + 94 → y ≠ x + 97 → y ≠ x + 114 → ji S2 y = ji S y) → (∀ j, ji S2 x j = if j = 9 then 0 else ji S x j) → (∀ j, ji S2 (x + 94) j = if j = 34 then 0 else ji S (x + 94) j) → INV S2 x M := by
    intro S2 s o ox om
    refine h.rst s (fun y hy => o y (by omega) (by omega) (by omega) (by omega) (by omega)) ⟨hI.keep s (by rw [ox, if_neg (by omega)]) (by rw [om, if_neg (by omega)]) (fun y hy => o y (by omega) (by omega) (by omega) (by omega) (by omega)), hS.keep (fun y hy => o y (by omega) (by omega) (by omega) (by omega) (by omega)), hSl.keep (fun y hy => o y (by omega) (by omega) (by omega) (by omega) (by omega)), ⟨0, by omega, by rw [ox, if_pos rfl]; rfl, by rw [om, if_pos rfl]; rfl, fun j hj => absurd hj (Nat.not_lt_zero _)⟩, hTp.keep (by rw [o _ (by omega) (by omega) (by omega) (by omega) (by omega)]) (by rw [om, if_neg (by omega)]) (o _ (by omega) (by omega) (by omega) (by omega) (by omega)) (o _ (by omega) (by omega) (by omega) (by omega) (by omega))⟩
  have putx : ∀ j, ji (jput S x 9 0) x j = if j = 9 then 0 else ji S x j := fun j => by
    rw [ji_put]
    by_cases e : j = 9
    · rw [if_pos ⟨rfl, e⟩, if_pos e]
    · rw [if_neg (fun c => e c.2), if_neg e]
  have putm : ∀ (S1 : jM) (j : Nat), ji S1 (x + 94) = ji S (x + 94) → ji (jput S1 (x + 94) 34 0) (x + 94) j = if j = 34 then 0 else ji S (x + 94) j := fun S1 j e1 => by
    rw [ji_put]
    by_cases e : j = 34
    · rw [if_pos ⟨rfl, e⟩, if_pos e]
    · rw [if_neg (fun c => e c.2), if_neg e, e1]
  have fin0 : INV (jput (jput S x 9 0) (x + 94) 34 0) x M := by
    refine fin _ ⟨rfl, rfl, rfl, rfl⟩ (fun y a b c _ _ => by rw [ji_put_ne _ _ _ _ c, ji_put_ne _ _ _ _ a]) (fun j => by rw [ji_put_ne _ _ _ _ (by omega), putx]) (fun j => putm _ j (ji_put_ne _ _ _ _ (by omega)))
  have ej : jisin (Int32.toInt64 u) 1 30 = if u < 1 then 0 else if 30 < u then 0 else 1 := jisin_int u 1 30
  refine T_X10_check ⟨hX.1, fun c => ?_, fun c => ⟨fun c1 => ⟨fun c2 => ?_, fun c2 => ?_⟩, fun c1 => ?_⟩⟩
  · refine U_X11_check m.1 ⟨m.1, fun _ => ⟨rfl, fin0⟩, fun c3 => absurd (by rw [ej, if_pos c]) c3⟩
  · refine U_X11_check m.1 ⟨m.1, fun c3 => ?_, fun _ => ⟨fun _ => ⟨rfl, fin0⟩, fun c3 => ?_⟩⟩
    · rw [ej, if_neg c, if_neg (Int32.not_lt.mpr c1)] at c3; exact absurd c3 (by decide)
    · rw [ji_put_ne _ _ _ _ (by omega)] at c3
      rcases i3 with ⟨-, j2⟩ | ⟨j1, -⟩
      · exact absurd j2 c3
      · rw [j1] at c2; exact absurd c2 (by decide)
  · rcases i3 with ⟨j1, -⟩ | ⟨j1, j2, j3, j4, j5⟩
    · exact absurd j1 c2
    have hu : ¬ u < 0 := fun q => c (Int32.lt_of_lt_of_le q (by decide))
    obtain ⟨n, hn, rfl⟩ := nI_of hu
    have n30 : n ≤ 30 := (nI_leI (b := 30) (by omega) (by omega)).mp c1
    have e2935 : ∀ j, j < 2935 → (fun j => if j < 2935 then vi j else v j) j = vi j := fun j hj => if_pos hj
    have hR := i1.cong (v' := fun j => if j < 2935 then vi j else v j) (fun j hj => e2935 j (by omega))
    have hgr := j3.cong (v' := fun j => if j < 2935 then vi j else v j) (fun j hj => e2935 j (by omega))
    have hv0 : (fun j => if j < 2935 then vi j else v j) 0 = nI szi := hR.2.2.1
    have vrow : ∀ j, (if j < 2935 then vi j else v j) = (fun j => if j < 2935 then vi j else v j) j := fun _ => rfl
    generalize (fun j => if j < 2935 then vi j else v j) = vr at hR hgr hv0 vrow
    have hz : szi ≤ 9 := hR.2.1
    -- the class
    have c0 : jch S (jput S x 9 0) x (x + 1) := jch.put (by omega) (by omega)
    have hC0 := hC.same c0.1
    refine ⟨_, hC.2.1.2.2.1, _, hC.2.1.2.1, i1.1.1, _, i1.1.2.1, hGL.1, ?_⟩
    refine c_X0_become (g := x + 41) (sz := (ji S (x + 41) 1).toBitVec.toNat) (z := ji S (x + 41) 2) (mf := fun i f => ji S (x + 41 + 2 + i) f) ⟨hGL.same c0.1, by rw [c0.2 _ (by omega)]; exact nI_bv _, by rw [c0.2 _ (by omega)], fun i _ f _ => by rw [c0.2 _ (by omega)]⟩ (hR.keep c0 (by omega)).2.2.2.1 (by omega) (fun i hi => ?_) (fun S1 c1 g1 => ?_)
    · exact hgr.de hi
    have key : ∀ (r : Int32) (S2 : jM), CKR n w (ji S (x + 65)) (ydue szi (vr 8, mfv vr)) r → jch (jput S x 9 0) S2 (x + 41) (x + 41 + 11) → jFm E mX11_check (d + 3) (x + 94) [.int (nI n)] S2 (fun r' S2 => r = r' ∧ INV S2 x M) := by
      intro r S2 hr c2'
      have o2 : ∀ y, y ≠ x → (y < x + 41 ∨ x + 52 ≤ y) → ji S2 y = ji S y := fun y a b => by rw [c2'.2 y (by omega), c0.2 y (by omega)]
      have s2 : jsame S S2 := c0.1.trans c2'.1
      have m2 := m.same s2
      refine U_X11_check m2.1 ⟨m2.1, fun c3 => ?_, fun _ => ⟨fun c3 => ?_, fun _ => ⟨_, m2.rr0, _, m2.r2.1, ?_⟩⟩⟩
      · rw [ej, if_neg c, if_neg (Int32.not_lt.mpr ‹nI n ≤ 30›)] at c3; exact absurd c3 (by decide)
      · rw [o2 _ (by omega) (by omega), j2] at c3; exact absurd c3 (by decide)
      have m3 : ML (jput S2 (x + 94) 34 0) (x + 94) := m2
      refine c_X11_setAside m3.kk1 m3.ll1 m3.r2.2.1 m3.r2.2.2 (by omega) (fun S4 c4 b4 => ?_)
      have m4 := m3.same c4.1
      refine ⟨m4.1, _, m4.r1.1, _, m4.rr0, ?_⟩
      refine c_X11_setAside m4.r1.2.1 m4.r1.2.2 m4.kk1 m4.ll1 (by omega) (fun S5 c5 b5 => ?_)
      have m5 := m4.same c5.1
      have o5 : ∀ y, y ≠ x → (y < x + 41 ∨ x + 52 ≤ y) → y ≠ x + 94 → y ≠ x + 95 → y ≠ x + 97 → ji S5 y = ji S y := fun y a b c e f => by
        rw [c5.2 y (by omega), c4.2 y (by omega), ji_put_ne _ _ _ _ c]; exact o2 y a b
      have s5 : jsame S S5 := s2.trans ((show jsame S2 (jput S2 (x + 94) 34 0) from ⟨rfl, rfl, rfl, rfl⟩).trans (c4.1.trans c5.1))
      have r95 : ∀ j, ji S5 (x + 95) j = vr j := fun j => by
        have b5' : ji S5 (x + 95) j = if j < 2935 then ji S4 (x + 96) j else ji S4 (x + 95) j := b5 j
        rw [b5', c4.2 _ (by omega), c4.2 _ (by omega), ji_put_ne _ _ _ _ (by omega), ji_put_ne _ _ _ _ (by omega), o2 _ (by omega) (by omega), o2 _ (by omega) (by omega), ← vrow]
        by_cases hj : j < 2935
        · rw [if_pos hj, if_pos hj]; exact j4 j hj
        · rw [if_neg hj, if_neg hj]; exact hM.2 j
      have r97 : ∀ j, j < 2935 → ji S5 (x + 97) j = v j := fun j hj => by
        rw [c5.2 _ (by omega)]
        have b4' : ji S4 (x + 97) j = if j < 2935 then ji (jput S2 (x + 94) 34 0) (x + 95) j else ji (jput S2 (x + 94) 34 0) (x + 97) j := b4 j
        rw [b4', if_pos hj, ji_put_ne _ _ _ _ (by omega), o2 _ (by omega) (by omega)]; exact hM.2 j
      have hi95 : ∀ j, 2935 ≤ j → vr j = v j := fun j hj => by rw [← vrow, if_neg (by omega)]
      have q34 : ji S2 (x + 94) 34 = nI w := by rw [o2 _ (by omega) (by omega)]; exact w2
      rw [q34]
      -- the comparing
      have cmp : ∀ (S6 : jM), ML S6 (x + 94) → INV S6 x M → (∀ j, j < 2 * n → ji S6 (x + 114) j = ydue szi (vr 8, mfv vr) j) → (∀ j, j < w → ji S6 (x + 113) j = ji S (x + 65) j) → ∀ (c e : Nat), e + c = 2 * n → e ≤ w → (∀ i, i < e → i < w ∧ ji S (x + 65) i = ydue szi (vr 8, mfv vr) i) → L_X11_check_125 E (d + 2) (fun r' S2 => r = r' ∧ INV S2 x M) (x + 94) (nI w) (nI (2 * n)) (nI e) S6 := by
        intro S6 m6 v6 h114 h113 c
        induction c with
        | zero =>
          intro e he hew hall
          obtain rfl : e = 2 * n := by omega
          have en : ∀ q : Prop, (nI (2 * n) = nI w → w = 2 * n → q) → nI (2 * n) = nI w → q := fun q f e => f e (nI_inj (by omega) (by omega) e).symm
          have stop : (nI (2 * n) = nI w → (nI (2 * n) = nI (2 * n) → r = 0 ∧ INV S6 x M) ∧ (¬ nI (2 * n) = nI (2 * n) → r = 1 + nI (2 * n) ∧ INV S6 x M)) ∧ (¬ nI (2 * n) = nI w → r = 1 + nI (2 * n) ∧ INV S6 x M) := by
            refine ⟨fun e1 => ⟨fun _ => ⟨hr.one ⟨2 * n, by omega, hall, Or.inl rfl, ?_⟩, v6⟩, fun c => absurd rfl c⟩, fun e1 => ⟨hr.one ⟨2 * n, by omega, hall, Or.inl rfl, ?_⟩, v6⟩⟩
            · rw [if_pos ⟨rfl, (nI_inj (by omega) (by omega) e1).symm⟩]
            · rw [if_neg (fun q => e1 (by rw [q.2])), show (1 : Int32) = nI 1 from rfl, nI_add]
          exact T_X11_check_125 ⟨fun _ => stop, fun _ => ⟨fun _ => stop, fun c => absurd Int32.le_rfl c⟩⟩
        | succ c ih =>
          intro e he hew hall
          have ne : ¬ nI (2 * n) ≤ nI e := nI_ge (by omega) (by omega)
          have n2 : ¬ nI e = nI (2 * n) := fun q => by have := nI_inj (by omega) (by omega) q; omega
          have stop : ¬ (e < w ∧ ji S (x + 65) e = ydue szi (vr 8, mfv vr) e) → (nI e = nI w → (nI e = nI (2 * n) → r = 0 ∧ INV S6 x M) ∧ (¬ nI e = nI (2 * n) → r = 1 + nI e ∧ INV S6 x M)) ∧ (¬ nI e = nI w → r = 1 + nI e ∧ INV S6 x M) := by
            intro hno
            have hq : r = 1 + nI e := hr.one ⟨e, by omega, hall, Or.inr hno, by rw [if_neg (fun q => by omega), show (1 : Int32) = nI 1 from rfl, nI_add]⟩
            exact ⟨fun _ => ⟨fun q => absurd q n2, fun _ => ⟨hq, v6⟩⟩, fun _ => ⟨hq, v6⟩⟩
          refine T_X11_check_125 ⟨fun c1 => stop (fun q => ?_), fun c1 => ⟨fun c2 => absurd c2 ne, fun _ => ⟨m6.1, _, m6.r33.1, m6.r33.2.1, ?_, _, m6.r35.1, m6.r35.2.1, ?_, ?_⟩⟩⟩
          · have := (nI_leI (by omega) (by omega)).mp c1
            omega
          · rw [m6.r33.2.2]; exact jin_nI (by omega) (by omega)
          · rw [m6.r35.2.2]; exact jin_nI (by omega) (by omega)
          · have hlt : e < w := by
              rcases Nat.lt_or_ge e w with q | q
              · exact q
              · exact absurd (nI_le q (by omega)) c1
            rw [jcl (by omega), h114 e (by omega), h113 e hlt, nI_1]
            refine ⟨fun q => ih (e + 1) (by omega) (by omega) (fun i hi => ?_), fun q => stop (fun z => q z.2)⟩
            by_cases hie : i = e
            · rw [hie]; exact ⟨hlt, q⟩
            · exact hall i (by omega)
      -- the years
      have lR : ∀ (c k : Nat) (S6 : jM), k + c = n → jsame S5 S6 → (∀ y, y ≠ x + 95 → y ≠ x + 114 → ji S6 y = ji S5 y) → MR S6 (x + 94) (vg vr (ykk szi (vr 8, mfv vr) k)) → Rg szi (vg vr (ykk szi (vr 8, mfv vr) k)) → (∀ j, j < 2 * k → ji S6 (x + 114) j = ydue szi (vr 8, mfv vr) j) → L_X11_check_64 E (d + 2) (fun r' S2 => r = r' ∧ INV S2 x M) (x + 94) (nI n) (nI w) (nI (2 * k)) (nI k) S6 := by
        intro c
        induction c with
        | zero =>
          intro k S6 hk s6 o6 h6 g6 d6
          obtain rfl : k = n := by omega
          have m6 := h6.1
          refine T_X11_check_64 ⟨fun _ => ⟨m6.1, _, m6.r2.1, _, m6.rr0, ?_⟩, fun cc => absurd Int32.le_rfl cc⟩
          refine c_X11_setAside m6.r2.2.1 m6.r2.2.2 m6.kk1 m6.ll1 (by omega) (fun S7 c7 b7 => ?_)
          have m7 := m6.same c7.1
          have o7 : ∀ y, y ≠ x + 95 → y ≠ x + 114 → ji S7 y = ji S5 y := fun y a b => by rw [c7.2 y (by omega)]; exact o6 y a b
          have r7 : ∀ j, ji S7 (x + 95) j = v j := fun j => by
            have b7' : ji S7 (x + 95) j = if j < 2935 then ji S6 (x + 97) j else ji S6 (x + 95) j := b7 j
            rw [b7']
            by_cases hj : j < 2935
            · rw [if_pos hj, o6 _ (by omega) (by omega)]; exact r97 j hj
            · rw [if_neg hj]
              have := h6.2 j
              rw [show x + 94 + 1 = x + 95 by omega] at this
              rw [this, vg_o _ (by omega) (by omega)]
              exact hi95 j (by omega)
          refine cmp S7 m7 (fin S7 (s5.trans (s6.trans c7.1)) (fun y a b c e f => ?_) (fun j => ?_) (fun j => ?_)) (fun j hj => ?_) (fun j hj => ?_) (2 * k) 0 (by omega) (by omega) (fun i hi => absurd hi (Nat.not_lt_zero _))
          · by_cases hy : y = x + 95
            · subst hy
              funext j
              rw [r7 j]; exact (hM.2 j).symm
            · rw [o7 y hy f]; exact o5 y a b c hy e
          · rw [o7 _ (by omega) (by omega), c5.2 _ (by omega), c4.2 _ (by omega), ji_put_ne _ _ _ _ (by omega), c2'.2 _ (by omega)]; exact putx j
          · rw [o7 _ (by omega) (by omega), c5.2 _ (by omega), c4.2 _ (by omega)]
            exact putm S2 j (o2 _ (by omega) (by omega))
          · rw [c7.2 _ (by omega)]; exact d6 j hj
          · rw [o7 _ (by omega) (by omega), o5 _ (by omega) (by omega) (by omega) (by omega) (by omega)]
            exact (w3 j hj).symm
        | succ c ih =>
          intro k S6 hk s6 o6 h6 g6 d6
          refine T_X11_check_64 ⟨fun cc => absurd cc (nI_ge (by omega) (by omega)), fun _ => ⟨h6.k, ?_⟩⟩
          refine c_X11_year hv0 hz h6 g6 (fun S7 c7 h7 g7 => ?_)
          have m7 := h7.1
          have dd : ∀ i, i < 9 → (ykk szi (vr 8, mfv vr) (k + 1)).2 i 6 = 0 ∨ (ykk szi (vr 8, mfv vr) (k + 1)).2 i 6 = 1 := fun i hi => by
            have := g7.de (i := i) hi
            rw [show mfv (vg vr (yyear szi (ykk szi (vr 8, mfv vr) k))) i 6 = (ykk szi (vr 8, mfv vr) (k + 1)).2 i 6 from vg_m _ hi (by omega)] at this
            exact this
          have h8 : vg vr (yyear szi (ykk szi (vr 8, mfv vr) k)) 0 = nI szi := by rw [vg_o _ (by omega) (by omega)]; exact hv0
          refine ⟨m7.1, _, m7.r35.1, c_X11_allOf (f := 6) h7 h8 hz (by omega) ⟨m7.r35.2.1, ?_, m7.1, _, m7.r35.1, ?_⟩⟩
          · rw [m7.r35.2.2]; exact jin_nI (by omega) (by omega)
          rw [jcl (n := 2 * k) (by omega), mdead_v (yyear szi (ykk szi (vr 8, mfv vr) k)) dd szi 0 0 (by omega)]
          have e6 : jfold (fun i a => if (yyear szi (ykk szi (vr 8, mfv vr) k)).2 i 6 = 0 then a + 0 else a + 1) szi 0 (0 : Int32) = ydue szi (vr 8, mfv vr) (2 * k) := (ydue_e szi (vr 8, mfv vr) k).symm
          rw [e6]
          have c8 : jch S7 (jput S7 (x + 114) (2 * k) (ydue szi (vr 8, mfv vr) (2 * k))) (x + 114) (x + 115) := jch.put (by omega) (by omega)
          have h9 := h7.keep c8 (by omega)
          refine c_X11_allOf (f := 5) h9 h8 hz (by omega) ⟨h9.1.r35.2.1, ?_, ?_⟩
          · rw [nI_1, h9.1.r35.2.2]; exact jin_nI (by omega) (by omega)
          rw [nI_1 k, nI_1 (2 * k), jcl (n := 2 * k + 1) (by omega), mages_v (yyear szi (ykk szi (vr 8, mfv vr) k)) szi 0 0 (by omega)]
          have e5 : jfold (fun i a => a + (yyear szi (ykk szi (vr 8, mfv vr) k)).2 i 5) szi 0 (0 : Int32) = ydue szi (vr 8, mfv vr) (2 * k + 1) := (ydue_o szi (vr 8, mfv vr) k).symm
          rw [e5, show nI (2 * k) + 2 = nI (2 * (k + 1)) from (by rw [show (2 : Int32) = nI 2 from rfl, nI_add]; congr 1)]
          have c9 : jch (jput S7 (x + 114) (2 * k) (ydue szi (vr 8, mfv vr) (2 * k))) (jput (jput S7 (x + 114) (2 * k) (ydue szi (vr 8, mfv vr) (2 * k))) (x + 114) (2 * k + 1) (ydue szi (vr 8, mfv vr) (2 * k + 1))) (x + 114) (x + 115) := jch.put (by omega) (by omega)
          refine ih (k + 1) _ (by omega) (s6.trans (c7.1.trans (c8.1.trans c9.1))) (fun y a b => by rw [c9.2 y (by omega), c8.2 y (by omega), c7.2 y (by omega)]; exact o6 y a b) (h9.keep c9 (by omega)) g7 (fun j hj => ?_)
          rw [ji_put, ji_put]
          by_cases q1 : j = 2 * k + 1
          · rw [if_pos ⟨rfl, q1⟩, q1]
          · rw [if_neg (fun q => q1 q.2)]
            by_cases q2 : j = 2 * k
            · rw [if_pos ⟨rfl, q2⟩, q2]
            · rw [if_neg (fun q => q2 q.2), c7.2 _ (by omega)]
              exact d6 j (by omega)
      refine lR n 0 S5 (by omega) jsame.rfl (fun _ _ _ => rfl) ⟨m5, fun j => ?_⟩ (hgr.cong (fun j _ => vg_self j)) (fun j hj => absurd hj (Nat.not_lt_zero _))
      show ji S5 (x + 94 + 1) j = vg vr (vr 8, mfv vr) j
      rw [vg_self]; exact r95 j
    rw [w1]
    have w65 : ∀ (S2 : jM), jch (jput S x 9 0) S2 (x + 41) (x + 41 + 11) → ji S2 (x + 65) = ji S (x + 65) := fun S2 c => by rw [c.2 _ (by omega), c0.2 _ (by omega)]
    have lC : ∀ (c k : Nat) (S2 : jM), k + c = n → 2 * k ≤ w → (∀ i, i < 2 * k → i < w ∧ ji S (x + 65) i = ydue szi (vr 8, mfv vr) i) → jch (jput S x 9 0) S2 (x + 41) (x + 41 + 11) → GR S2 (x + 41) szi (ykk szi (vr 8, mfv vr) k).1 (ykk szi (vr 8, mfv vr) k).2 → L_X10_check_50 E (d + 2) (fun r S1 => jFm E mX11_check (d + 3) (x + 94) [.int (nI n)] S1 (fun r' S2 => r = r' ∧ INV S2 x M)) x (nI n) (nI w) (nI k) S2 := by
      intro c
      induction c with
      | zero =>
        intro k S2 hk hkw hall c2' g2
        obtain rfl : k = n := by omega
        refine T_X10_check_50 ⟨fun _ => ⟨fun e => key _ S2 ⟨2 * k, by omega, hall, Or.inl rfl, ?_⟩ c2', fun e => key _ S2 ⟨2 * k, by omega, hall, Or.inl rfl, ?_⟩ c2'⟩, fun cc => absurd Int32.le_rfl cc⟩
        · rw [nI_2] at e
          rw [if_pos ⟨rfl, nI_inj (by omega) (by omega) e⟩]
        · rw [nI_2] at e
          rw [if_neg (fun q => e (by rw [q.2])), nI_2, show (1 : Int32) = nI 1 from rfl, nI_add]
      | succ c ih =>
        intro k S2 hk hkw hall c2' g2
        have hC2 := (hC0.same c2'.1)
        refine T_X10_check_50 ⟨fun cc => absurd cc (nI_ge (by omega) (by omega)), fun _ => ⟨hC2.1, _, hC2.2.1.2.2.1, g2.1.1, c_X0_liveYear g2 hz (fun S3 c3 g3 => ?_)⟩⟩
        have c23 := c2'.trans c3
        have hC3 := hC0.same c23.1
        refine ⟨hC3.1, _, hC3.2.1.2.2.1, g3.1.1, c_X0_countDead g3 hz ⟨hC3.1, ?_⟩⟩
        rw [nI_2]
        refine c_X10_isWaiting hC3 (by omega) w60 (fun q1 q2 => ⟨fun c => absurd c (by decide), fun _ => ⟨hC3.1, _, hC3.2.1.2.2.1, g3.1.1, c_X0_agesTogether g3 hz ⟨hC3.1, ?_⟩⟩⟩) (fun q => ⟨fun _ => key _ S3 ⟨2 * k, by omega, hall, Or.inr (fun z => q ⟨z.1, ?_⟩), ?_⟩ c23, fun c => absurd rfl c⟩)
        · rw [w65 S3 c23] at q2
          have q2' : ji S (x + 65) (2 * k) = ydue szi (vr 8, mfv vr) (2 * k) := q2.trans (ydue_e szi (vr 8, mfv vr) k).symm
          have all1 : ∀ i, i < 2 * k + 1 → i < w ∧ ji S (x + 65) i = ydue szi (vr 8, mfv vr) i := fun i hi => by
            by_cases e : i = 2 * k
            · rw [e]; exact ⟨q1, q2'⟩
            · exact hall i (by omega)
          rw [nI_1]
          refine c_X10_isWaiting hC3 (by omega) w60 (fun q3 q4 => ⟨fun c => absurd c (by decide), fun _ => ?_⟩) (fun q => ⟨fun _ => key _ S3 ⟨2 * k + 1, by omega, all1, Or.inr (fun z => q ⟨z.1, ?_⟩), ?_⟩ c23, fun c => absurd rfl c⟩)
          · rw [nI_1]
            rw [w65 S3 c23] at q4
            have q4' : ji S (x + 65) (2 * k + 1) = ydue szi (vr 8, mfv vr) (2 * k + 1) := q4.trans (ydue_o szi (vr 8, mfv vr) k).symm
            refine ih (k + 1) S3 (by omega) (by omega) (fun i hi => ?_) c23 g3
            by_cases e : i = 2 * k + 1
            · rw [e]; exact ⟨q3, q4'⟩
            · exact all1 i (by omega)
          · rw [w65 S3 c23, z.2]; exact ydue_o szi (vr 8, mfv vr) k
          · rw [if_neg (fun z => by omega), show (2 : Int32) = nI 2 from rfl, nI_add, show 2 + 2 * k = 1 + (2 * k + 1) by omega]
        · rw [w65 S3 c23, z.2]; exact ydue_e szi (vr 8, mfv vr) k
        · rw [if_neg (fun z => by omega), show (1 : Int32) = nI 1 from rfl, nI_add]
    exact lC n 0 S1 (by omega) (by omega) (fun i hi => absurd hi (Nat.not_lt_zero _)) c1 g1
  · refine U_X11_check m.1 ⟨m.1, fun _ => ⟨rfl, fin0⟩, fun c3 => absurd (by rw [ej, if_neg c, if_pos (Int32.not_le.mp c1)]) c3⟩
end jCheck
end
section
/-! CUT on both sides -/
theorem i32sub {a b : Int32} (h1 : -2147483648 ≤ a.toInt - b.toInt) (h2 : a.toInt - b.toInt < 2147483648) : (a - b).toInt = a.toInt - b.toInt := by
  rw [Int32.toInt_sub]
  exact Int.bmod_eq_of_le (by omega) (by omega)
/-- how far a number of days is from a number of the sheet -/
def apn (t : Nat) (y : Int32) : Nat := Int.natAbs ((t : Int) - y.toInt)
theorem apn_is {t : Nat} {y : Int32} (ht : t ≤ 207) (hy : -99999 ≤ y ∧ y ≤ 99999) : jabs (nI t - y) = nI (apn t y) ∧ joff y (nI t) = nI (apn t y) ∧ apn t y ≤ 100206 := by
  obtain ⟨y1, y2⟩ := hy
  rw [Int32.le_iff_toInt_le] at y1 y2
  have f1 : (-99999 : Int32).toInt = -99999 := by decide
  have f2 : (99999 : Int32).toInt = 99999 := by decide
  have f0 : (0 : Int32).toInt = 0 := by decide
  rw [f1] at y1
  rw [f2] at y2
  have et : (nI t).toInt = (t : Int) := nI_toInt (by omega)
  have e1 : (nI t - y).toInt = (t : Int) - y.toInt := by rw [i32sub (by omega) (by omega), et]
  have e2 : (y - nI t).toInt = y.toInt - (t : Int) := by rw [i32sub (by omega) (by omega), et]
  have e3 : (0 - (nI t - y)).toInt = y.toInt - (t : Int) := by rw [i32sub (by omega) (by omega), e1, f0]; omega
  have hb : apn t y ≤ 100206 := by unfold apn; omega
  have en : (nI (apn t y)).toInt = (apn t y : Int) := nI_toInt (by omega)
  refine ⟨?_, ?_, hb⟩
  · apply Int32.toInt_inj.mp
    rw [en]
    unfold jabs apn
    by_cases c : 0 ≤ nI t - y
    · rw [if_pos c, e1]
      rw [Int32.le_iff_toInt_le, e1, f0] at c
      omega
    · rw [if_neg c, e3]
      rw [Int32.le_iff_toInt_le, e1, f0] at c
      omega
  · apply Int32.toInt_inj.mp
    rw [en]
    unfold joff apn
    by_cases c : nI t ≤ y
    · rw [if_pos c, e2]
      rw [Int32.le_iff_toInt_le, et] at c
      omega
    · rw [if_neg c, e1]
      rw [Int32.le_iff_toInt_le, et] at c
      omega
def aps (f : Nat → Nat) : Nat → Nat → Nat → Nat
  | 0, _, a => a
  | n + 1, k, a => aps f n (k + 1) (a + f k)
theorem aps_le {f : Nat → Nat} {b : Nat} (hf : ∀ k, f k ≤ b) : ∀ (n k a : Nat), aps f n k a ≤ a + n * b
  | 0, _, a => by show a ≤ a + 0 * b; omega
  | n + 1, k, a => by
    have := aps_le hf n (k + 1) (a + f k)
    have := hf k
    show aps f n (k + 1) (a + f k) ≤ a + (n + 1) * b
    have e : (n + 1) * b = n * b + b := Nat.succ_mul n b
    omega
/-- the best, and how far -/
def cbst (A : Nat → Nat) : Nat → Nat → Option (Nat × Nat) → Option (Nat × Nat)
  | 0, _, o => o
  | c + 1, i, none => cbst A c (i + 1) (some (i, A i))
  | c + 1, i, some (b, l) => cbst A c (i + 1) (if A i < l then some (i, A i) else some (b, l))
def cans (o : Option (Nat × Nat)) (u : Int32) : Int32 := match o with
  | none => kNONE
  | some (b, l) => if u = 0 then nI b else nI l
section jCut
variable {E : jEnv} {d : Nat} {S S' : jM} {x sz M : Nat} {v : Nat → Int32}
theorem IV.pil {S1 : jM} (h : IV S x sz M v) (p : jpi S S1 x) : IV S1 x sz M v := h.next p.fq (p.pi h.1) (fun _ _ _ => rfl)
theorem tkd_le {o : lwt} {k kd tg ag : Nat} (ha : ag < 100) : tkd o k kd tg ag ≤ 207 := tdays_le ha (jcl99_is _).2.1
theorem c_X3_apart {Q : Int32 → jM → Prop} {o : lwt} {i n j kd tg ag : Nat} {F : Nat → Nat} (h : IV S x sz M v) (hi : i < 4) (hn : n ≤ 24) (e1 : ji S (x + 66 + 2 * i) 1 = nI n) (hy : ∀ k, k < 24 → jpl (ji S (x + 67 + 2 * i) k)) (hL : LWD S x (x + 20) v 0 o) (hj : j < 9) (e0 : mfv v j 0 = nI kd) (e2 : mfv v j 2 = nI tg) (e5 : mfv v j 5 = nI ag) (hkd : kd < 6) (hag : ag < 100)
    (hF : ∀ k, k < n → F k = if ji S (x + 67 + 2 * i) k = kNONE then 0 else apn (tkd o k kd tg ag) (ji S (x + 67 + 2 * i) k)) (hq : ∀ S', jpi S S' x → Q (nI (aps F n 0 0)) S') : jFi E mX3_apart (d + 4) 0 0 [.ref (x + 1), .ref (x + 2 + 2 + j), .ref (x + 66 + 2 * i)] S Q := by
  have key : ∀ (c k a : Nat) (S1 : jM), k + c = n → jpi S S1 x → (∀ S', jpi S S' x → Q (nI (aps F c k a)) S') → L_X3_apart_5 E (d + 3) Q (x + 1) (x + 2 + 2 + j) (x + 66 + 2 * i) (nI a) (nI k) S1 := by
    intro c
    induction c with
    | zero =>
      intro k a S1 hk p1 hq1
      obtain rfl : k = n := by omega
      have hC1 := (h.pil p1).2.1
      refine T_X3_apart_5 ⟨(hC1.sh i hi).1, ?_⟩
      rw [p1.2 _ (by omega), e1]
      exact ⟨fun _ => hq1 S1 p1, fun cc => absurd Int32.le_rfl cc⟩
    | succ c ih =>
      intro k a S1 hk p1 hq1
      have h1 := h.pil p1
      have hC1 := h1.2.1
      have hX1 := h1.1.1
      have hs := hC1.sh i hi
      have e1' : ji S1 (x + 66 + 2 * i) 1 = nI n := by rw [p1.2 _ (by omega)]; exact e1
      have y1 : ji S1 (x + 67 + 2 * i) = ji S (x + 67 + 2 * i) := p1.2 _ (by omega)
      refine T_X3_apart_5 ⟨hs.1, ?_⟩
      rw [e1']
      refine ⟨fun cc => absurd cc (nI_ge (by omega) (by omega)), fun _ => c_X6_isNumber hs hn e1' (by omega) (fun c0 => ⟨fun _ => ?_, fun cc => absurd rfl cc⟩) (fun c0 => ⟨fun cc => absurd cc (by decide), fun _ => ⟨hX1.k3, ?_⟩⟩)⟩
      · rw [nI_1]
        rw [y1] at c0
        refine ih (k + 1) a S1 (by omega) p1 (fun S' p' => ?_)
        have e : aps F (c + 1) k a = aps F c (k + 1) a := by
          show aps F c (k + 1) (a + F k) = _
          rw [hF k (by omega), if_pos c0]; rfl
        rw [← e]; exact hq1 S' p'
      · rw [y1] at c0
        refine c_X3_daysTaken (M := M) hX1.2.2 h1.2.2.2.2.1 (hL.keep p1.fq) (hX1.mk hj) (by omega) ((hX1.ms hj (by omega)).trans e0) ((hX1.ms hj (by omega)).trans e2) ((hX1.ms hj (by omega)).trans e5) hkd hag (fun S2 p2 => ?_)
        have p12 := p1.trans p2
        have hs2 := (h.pil p12).2.1.sh i hi
        refine ⟨hs2.1, _, hs2.2.1, hs2.2.2.1, by rw [hs2.2.2.2]; exact jin_nI (by omega) (by omega), ?_⟩
        rw [nI_1, jcl (by omega), p12.2 (x + 67 + 2 * i) (by omega)]
        have hyk : -99999 ≤ ji S (x + 67 + 2 * i) k ∧ ji S (x + 67 + 2 * i) k ≤ 99999 := (hy k (by omega)).elim (fun q => absurd q c0) id
        rw [(apn_is (tkd_le hag) hyk).1, nI_add]
        refine ih (k + 1) _ S2 (by omega) p12 (fun S' p' => ?_)
        have e : aps F (c + 1) k a = aps F c (k + 1) (a + apn (tkd o k kd tg ag) (ji S (x + 67 + 2 * i) k)) := by
          show aps F c (k + 1) (a + F k) = _
          rw [hF k (by omega), if_neg c0]
        rw [← e]; exact hq1 S' p'
  exact T_X3_apart (key n 0 0 S (by omega) jpi.rfl hq)
theorem Q_cut {w u : Int32} (h : IV S x sz M v) : jFi E mX10_cut (d + 5) 0 0 [.ref x, .int w, .int u] S (fun r S1 => jFm E mX11_cut (d + 3) (x + 94) [.int w, .int u] S1 (fun r' S2 => r = r' ∧ INV S2 x M)) := by
  obtain ⟨⟨hX, hM, hg⟩, hC, hGL, hjn, hT, hI, hS, hSl, hW, hTp⟩ := id h
  have m := hM.1
  have hz := hX.sz9
  have eu : jisin (Int32.toInt64 u) 0 1 = jwi u 2 := jisin_wi u 2 1 rfl (jle_lt (by decide))
  refine T_X10_cut ⟨hX.1, c_X10_findSheet hC (fun c => ⟨fun _ => U_X11_cut m.1 ⟨fun _ => ⟨rfl, h.inv⟩, fun c2 => absurd ((jissheet_wi w).trans c) c2⟩, fun b e => absurd e (by simp)⟩) (fun i hi e e1 => ⟨fun c => absurd c (by simp), fun b eb => ?_⟩)⟩
  obtain rfl : x + 66 + 2 * i = b := Option.some.inj eb
  subst e
  have hs1 : ¬ jissheet (nI i) = 0 := by rw [jissheet_wi, e1]; decide
  obtain ⟨k6, r2, k12, l24⟩ := hC.sh i hi
  obtain ⟨so, n, a1, a2, a3, a4, a5, a6, a7⟩ := hS i hi
  have ms := SH1.miss (i := i) a2
  have ci : Int32.toNatClampNeg (nI i) = i := jcl (by omega)
  refine ⟨fun c => U_X11_cut m.1 ⟨fun c => absurd c hs1, fun _ => ⟨fun _ => ⟨rfl, h.inv⟩, fun c2 => absurd (eu.trans c) c2⟩⟩, fun cu => ⟨k6, ?_⟩⟩
  have cu' : ¬ jisin (Int32.toInt64 u) 0 1 = 0 := by rw [eu]; exact cu
  rw [a3]
  refine ⟨fun c => U_X11_cut m.1 ⟨fun c => absurd c hs1, fun _ => ⟨fun c => absurd c cu', fun _ => ⟨m.1, _, m.r4.1, m.r4.2.1, by rw [m.r4.2.2]; exact jin_nI hi (by omega), fun c0 => absurd c0 (by rw [ci, a4]; exact ms.mp c), fun _ => ⟨rfl, h.inv⟩⟩⟩⟩, fun c => ?_⟩
  obtain ⟨o, hL⟩ := LWD_ex (key := 0) (by omega) hT
  -- the masters' numbers
  obtain ⟨kd, hkd⟩ := Classical.axiomOfChoice (r := fun (j : Nat) (k : Nat) => j < 9 → k < 6 ∧ mfv v j 0 = nI k) (fun j => (Classical.em (j < 9)).elim (fun hj => (hg.kd hj).elim (fun k hk => ⟨k, fun _ => hk⟩)) (fun hj => ⟨0, fun q => absurd q hj⟩))
  obtain ⟨tg, htg⟩ := Classical.axiomOfChoice (r := fun (j : Nat) (k : Nat) => j < 9 → k < 10 ∧ mfv v j 2 = nI k) (fun j => (Classical.em (j < 9)).elim (fun hj => (hg.ge hj).elim (fun k hk => ⟨k, fun _ => hk⟩)) (fun hj => ⟨0, fun q => absurd q hj⟩))
  obtain ⟨ag, hag⟩ := Classical.axiomOfChoice (r := fun (j : Nat) (k : Nat) => j < 9 → k < 100 ∧ mfv v j 5 = nI k) (fun j => (Classical.em (j < 9)).elim (fun hj => (hg.ag hj).elim (fun k hk => ⟨k, fun _ => hk⟩)) (fun hj => ⟨0, fun q => absurd q hj⟩))
  obtain ⟨F, hF⟩ : ∃ F : Nat → Nat → Nat, ∀ j k, F j k = if k < 24 then (if ji S (x + 67 + 2 * i) k = kNONE then 0 else apn (tkd o k (kd j) (tg j) (ag j)) (ji S (x + 67 + 2 * i) k)) else 0 := ⟨_, fun _ _ => rfl⟩
  have Fb : ∀ j, j < 9 → ∀ k, F j k ≤ 100206 := fun j hj k => by
    rw [hF]
    by_cases hk : k < 24
    · rw [if_pos hk]
      by_cases c0 : ji S (x + 67 + 2 * i) k = kNONE
      · rw [if_pos c0]; omega
      · rw [if_neg c0]
        exact (apn_is (tkd_le (hag j hj).1) ((a7 k hk).2.elim (fun q => absurd q c0) id)).2.2
    · rw [if_neg hk]; omega
  obtain ⟨A, hA⟩ : ∃ A : Nat → Nat, ∀ j, A j = aps (F j) n 0 0 := ⟨_, fun _ => rfl⟩
  have Ab : ∀ j, j < 9 → A j ≤ 2404944 := fun j hj => by
    rw [hA]
    have q1 := aps_le (Fb j hj) n 0 0
    have q2 : n * 100206 ≤ 24 * 100206 := Nat.mul_le_mul_right _ a1
    omega
  -- the reference
  have ref : ∀ S1, jpi S S1 x → ∀ r, r = cans (cbst A sz 0 none) u → jFm E mX11_cut (d + 3) (x + 94) [.int (nI i), .int u] S1 (fun r' S2 => r = r' ∧ INV S2 x M) := by
    intro S1 p1 r hr
    have h1 := h.pil p1
    have hM1 := h1.1.2.1
    have m1 := hM1.1
    have b6 : ∀ S2, jch S1 S2 (x + 94 + 16) (x + 94 + 18) → ji S2 (x + 99) i = nI n := fun S2 c2 => by rw [c2.2 _ (by omega), p1.2 _ (by omega)]; exact a6
    have b7 : ∀ S2, jch S1 S2 (x + 94 + 16) (x + 94 + 18) → ∀ k, k < 24 → ji S2 (x + 100) (24 * i + k) = ji S (x + 67 + 2 * i) k := fun S2 c2 k hk => by rw [c2.2 _ (by omega), p1.2 _ (by omega)]; exact (a7 k hk).1.symm
    have inner : ∀ (j : Nat) (x3 x4 : Int32), j < 9 → ∀ (c k a : Nat) (S2 : jM), k + c = n → a + c * 100206 ≤ 2404944 → jch S1 S2 (x + 94 + 16) (x + 94 + 18) → (∀ S3, jch S1 S3 (x + 94 + 16) (x + 94 + 18) → (x3 < 0 → L_X11_cut_41 E (d + 1) (fun r' S2 => r = r' ∧ INV S2 x M) (x + 94) (nI i) u (nI j) (nI (aps (F j) c k a)) (nI (j + 1)) S3) ∧ (¬ x3 < 0 → (x4 ≤ nI (aps (F j) c k a) → L_X11_cut_41 E (d + 1) (fun r' S2 => r = r' ∧ INV S2 x M) (x + 94) (nI i) u x3 x4 (nI (j + 1)) S3) ∧ (¬ x4 ≤ nI (aps (F j) c k a) → L_X11_cut_41 E (d + 1) (fun r' S2 => r = r' ∧ INV S2 x M) (x + 94) (nI i) u (nI j) (nI (aps (F j) c k a)) (nI (j + 1)) S3))) → L_X11_cut_58 E (d + 1) (fun r' S2 => r = r' ∧ INV S2 x M) (x + 94) (nI i) u x3 x4 (nI j) (nI a) (nI k) S2 := by
      intro j x3 x4 hj c
      induction c with
      | zero =>
        intro k a S2 hk hb c2 hq
        obtain rfl : k = n := by omega
        have m2 := m1.same c2.1
        refine T_X11_cut_58 ⟨m2.1, _, m2.r5.1, m2.r5.2.1, by rw [m2.r5.2.2]; exact jin_nI hi (by omega), ?_⟩
        rw [ci, b6 S2 c2, nI_1]
        exact ⟨fun _ => hq S2 c2, fun cc => absurd Int32.le_rfl cc⟩
      | succ c ih =>
        intro k a S2 hk hb c2 hq
        have m2 := m1.same c2.1
        have hM2 : MR S2 (x + 94) v := hM1.keep c2 (by omega)
        refine T_X11_cut_58 ⟨m2.1, _, m2.r5.1, m2.r5.2.1, by rw [m2.r5.2.2]; exact jin_nI hi (by omega), ?_⟩
        rw [ci, b6 S2 c2, nI_1 k]
        refine ⟨fun cc => absurd cc (nI_ge (by omega) (by omega)), fun _ => ⟨_, m2.r6.1, m2.r6.2.1, by rw [nI_24, m2.r6.2.2]; exact jin_nI (by omega) (by omega), ?_⟩⟩
        rw [nI_24, jcl (n := 24 * i + k) (by omega), b7 S2 c2 k (by omega)]
        have hFk := hF j k
        rw [if_pos (by omega)] at hFk
        have e : aps (F j) (c + 1) k a = aps (F j) c (k + 1) (a + F j k) := rfl
        have fb := Fb j hj k
        have hsm : (c + 1) * 100206 = c * 100206 + 100206 := Nat.succ_mul c 100206
        refine ⟨fun c0 => ?_, fun c0 => ?_⟩
        · rw [if_pos c0] at hFk
          rw [show nI a + 0 = nI (a + F j k) by rw [hFk]; exact nI_add a 0]
          exact ih (k + 1) (a + F j k) S2 (by omega) (by omega) c2 (by rw [← e]; exact hq)
        · rw [if_neg c0] at hFk
          refine c_X11_takes (o := o) hM2 ((hL.keep p1.fq).keep (jch.fq97 c2)) hj (hkd j hj).2 (htg j hj).2 (hag j hj).2 (hkd j hj).1 (hag j hj).1 (by omega) (fun S3 c3 _ => ?_)
          have hyk : -99999 ≤ ji S (x + 67 + 2 * i) k ∧ ji S (x + 67 + 2 * i) k ≤ 99999 := (a7 k (by omega)).2.elim (fun q => absurd q c0) id
          rw [(apn_is (tkd_le (hag j hj).1) hyk).2.1, ← hFk, nI_add]
          exact ih (k + 1) (a + F j k) S3 (by omega) (by omega) (c2.trans c3) (by rw [← e]; exact hq)
    have outer : ∀ (c j : Nat) (ob : Option (Nat × Nat)) (x3 x4 : Int32) (S2 : jM), j + c = sz → jch S1 S2 (x + 94 + 16) (x + 94 + 18) → ((ob = none ∧ x3 = -1) ∨ ∃ b l, ob = some (b, l) ∧ b < 9 ∧ l ≤ 2404944 ∧ x3 = nI b ∧ x4 = nI l) → r = cans (cbst A c j ob) u → L_X11_cut_41 E (d + 1) (fun r' S2 => r = r' ∧ INV S2 x M) (x + 94) (nI i) u x3 x4 (nI j) S2 := by
      intro c
      induction c with
      | zero =>
        intro j ob x3 x4 S2 hj c2 hob hr
        obtain rfl : j = sz := by omega
        have hM2 : MR S2 (x + 94) v := hM1.keep c2 (by omega)
        have i0 := hM2.at (i := 0) 0 rfl (by omega)
        refine T_X11_cut_41 ⟨hM2.k, _, hM2.r, hM2.k1, i0.1, ?_⟩
        rw [i0.2, hX.v0]
        have inv : INV S2 x M := h.still p1 c2
        refine ⟨fun _ => ?_, fun cc => absurd Int32.le_rfl cc⟩
        rcases hob with ⟨rfl, rfl⟩ | ⟨b, l, rfl, hb, hl, rfl, rfl⟩
        · exact ⟨fun cc => absurd cc (by decide), fun _ => ⟨hr, inv⟩⟩
        · refine ⟨fun _ => ⟨fun u0 => ⟨?_, inv⟩, fun u0 => ⟨?_, inv⟩⟩, fun cc => absurd (Int32.not_lt.mp (nI_pos (by omega))) cc⟩
          · rw [hr]; show (if u = 0 then nI b else nI l) = nI b; rw [if_pos u0]
          · rw [hr]; show (if u = 0 then nI b else nI l) = nI l; rw [if_neg u0]
      | succ c ih =>
        intro j ob x3 x4 S2 hj c2 hob hr
        have hM2 : MR S2 (x + 94) v := hM1.keep c2 (by omega)
        have i0 := hM2.at (i := 0) 0 rfl (by omega)
        refine T_X11_cut_41 ⟨hM2.k, _, hM2.r, hM2.k1, i0.1, ?_⟩
        rw [i0.2, hX.v0]
        have aj := Ab j (by omega)
        have nb : n * 100206 ≤ 24 * 100206 := Nat.mul_le_mul_right _ a1
        refine ⟨fun cc => absurd cc (nI_ge (by omega) (by omega)), fun _ => inner j x3 x4 (by omega) n 0 0 S2 (by omega) (by omega) c2 (fun S3 c3 => ?_)⟩
        rw [← hA]
        rcases hob with ⟨rfl, rfl⟩ | ⟨b, l, rfl, hb, hl, rfl, rfl⟩
        · exact ⟨fun _ => ih (j + 1) (some (j, A j)) _ _ S3 (by omega) c3 (Or.inr ⟨j, A j, rfl, by omega, aj, rfl, rfl⟩) hr, fun cc => absurd (by decide) cc⟩
        · have hr' : r = cans (cbst A c (j + 1) (if A j < l then some (j, A j) else some (b, l))) u := hr
          refine ⟨fun cc => absurd cc (nI_pos (by omega)), fun _ => ⟨fun q => ih (j + 1) (some (b, l)) _ _ S3 (by omega) c3 (Or.inr ⟨b, l, rfl, hb, hl, rfl, rfl⟩) ?_, fun q => ih (j + 1) (some (j, A j)) _ _ S3 (by omega) c3 (Or.inr ⟨j, A j, rfl, by omega, aj, rfl, rfl⟩) ?_⟩⟩
          · have := (nI_leI (by omega) (by omega)).mp q
            rw [if_neg (by omega)] at hr'; exact hr'
          · have : ¬ l ≤ A j := fun z => q (nI_le z (by omega))
            rw [if_pos (by omega)] at hr'; exact hr'
    refine U_X11_cut m1.1 ⟨fun c => absurd c hs1, fun _ => ⟨fun c => absurd c cu', fun _ => ⟨m1.1, _, m1.r4.1, m1.r4.2.1, by rw [m1.r4.2.2]; exact jin_nI hi (by omega), fun _ => outer sz 0 none _ _ S1 (by omega) jch.rfl (Or.inl ⟨rfl, rfl⟩) hr, fun c0 => ?_⟩⟩⟩
    rw [ci, p1.2 _ (by omega), a4] at c0
    exact absurd (ms.mpr c0) c
  -- the class
  have loop : ∀ (c j : Nat) (ob : Option (Nat × Nat)) (x4 x5 : Int32) (S1 : jM), j + c = 9 → jpi S S1 x → ((ob = none ∧ x4 = -1000000005 ∧ x5 = 1000000000) ∨ ∃ b l, ob = some (b, l) ∧ b < 9 ∧ l ≤ 2404944 ∧ x4 = nI b ∧ x5 = nI l) → cbst A sz 0 none = cbst A (sz - j) j ob → L_X10_cut_45 E (d + 4) (fun r S1 => jFm E mX11_cut (d + 3) (x + 94) [.int (nI i), .int u] S1 (fun r' S2 => r = r' ∧ INV S2 x M)) x u (x + 66 + 2 * i) x4 x5 (nI j) S1 := by
    intro c
    induction c with
    | zero =>
      intro j ob x4 x5 S1 hj p1 hob hb
      obtain rfl : j = 9 := by omega
      have hb' : cbst A sz 0 none = ob := by rw [hb, show sz - 9 = 0 by omega]; rfl
      refine T_X10_cut_45 ⟨fun _ => ?_, fun cc => absurd (by decide) cc⟩
      rcases hob with ⟨rfl, rfl, rfl⟩ | ⟨b, l, rfl, hb9, hl, rfl, rfl⟩
      · exact ⟨fun _ => ref S1 p1 _ (by rw [hb']; rfl), fun _ => ⟨fun _ => ref S1 p1 _ (by rw [hb']; rfl), fun cc => absurd rfl cc⟩⟩
      · have nn : ¬ nI b = -1000000005 := fun q => by
          have := nI_pos (n := b) (by omega)
          rw [q] at this; exact absurd (by decide) this
        refine ⟨fun u0 => ref S1 p1 _ ?_, fun u0 => ⟨fun q => absurd q nn, fun _ => ref S1 p1 _ ?_⟩⟩
        · rw [hb']; show nI b = if u = 0 then nI b else nI l; rw [if_pos u0]
        · rw [hb']; show nI l = if u = 0 then nI b else nI l; rw [if_neg u0]
    | succ c ih =>
      intro j ob x4 x5 S1 hj p1 hob hb
      have h1 := h.pil p1
      have hX1 := h1.1.1
      refine T_X10_cut_45 ⟨fun cc => absurd cc (nI_ge (b := 9) (by omega) (by omega)), fun _ => ⟨hX1.1, _, hX1.2.1, hX1.k3, _, hX1.r0, hX1.g.1.1, c_X0_find hX1.g.1 hX1.g.2.1 hz (fun n' hn' en => ⟨fun cc => absurd cc (by simp), fun b2 eb2 => ⟨hX1.1, _, hX1.2.1, hX1.k3, ?_⟩⟩) (fun hno => ⟨fun _ => ⟨fun _ => ?_, fun cc => absurd Int32.le_rfl cc⟩, fun b2 e2 => absurd e2 (by simp)⟩)⟩⟩
      · obtain rfl : x + 2 + 2 + n' = b2 := Option.some.inj eb2
        obtain rfl : j = n' := nI_inj (by omega) (by omega) en
        refine c_X3_apart (o := o) (n := n) (F := F j) h1 hi a1 (by rw [p1.2 _ (by omega)]; exact a5) (fun k hk => by rw [p1.2 _ (by omega)]; exact (a7 k hk).2) (hL.keep p1.fq) (by omega) (hkd j (by omega)).2 (htg j (by omega)).2 (hag j (by omega)).2 (hkd j (by omega)).1 (hag j (by omega)).1 ?_ (fun S2 p2 => ?_)
        · intro k hk
          rw [hF, if_pos (by omega), p1.2 (x + 67 + 2 * i) (by omega)]
        · rw [← hA, nI_1]
          have p12 := p1.trans p2
          have aj := Ab j (by omega)
          have es : sz - j = (sz - (j + 1)) + 1 := by omega
          rw [es] at hb
          rcases hob with ⟨rfl, rfl, rfl⟩ | ⟨b, l, rfl, hb9, hl, rfl, rfl⟩
          · refine ⟨fun q => ?_, fun _ => ih (j + 1) (some (j, A j)) _ _ S2 (by omega) p12 (Or.inr ⟨j, A j, rfl, by omega, aj, rfl, rfl⟩) hb⟩
            have := (nI_leI (a := 1000000000) (by omega) (by omega)).mp q
            omega
          · have hb2 : cbst A sz 0 none = cbst A (sz - (j + 1)) (j + 1) (if A j < l then some (j, A j) else some (b, l)) := hb
            refine ⟨fun q => ih (j + 1) (some (b, l)) _ _ S2 (by omega) p12 (Or.inr ⟨b, l, rfl, hb9, hl, rfl, rfl⟩) ?_, fun q => ih (j + 1) (some (j, A j)) _ _ S2 (by omega) p12 (Or.inr ⟨j, A j, rfl, by omega, aj, rfl, rfl⟩) ?_⟩
            · have := (nI_leI (by omega) (by omega)).mp q
              rw [if_neg (by omega)] at hb2; exact hb2
            · have : ¬ l ≤ A j := fun z => q (nI_le z (by omega))
              rw [if_pos (by omega)] at hb2; exact hb2
      · have hjs : sz ≤ j := by
          rcases Nat.lt_or_ge j sz with q | q
          · exact absurd rfl (hno j q)
          · exact q
        rw [nI_1]
        refine ih (j + 1) ob _ _ S1 (by omega) p1 hob ?_
        rw [hb, show sz - j = 0 by omega, show sz - (j + 1) = 0 by omega]
        rfl
  exact loop 9 0 none _ _ S (by omega) jpi.rfl (Or.inl ⟨rfl, rfl, rfl⟩) rfl
end jCut
end
section
/-! TOGETHER, NEVER on both sides -/
def tb (a : Int32) (k : Nat) : Bool := a.toBitVec.getLsbD k
theorem tb_ext {a b : Int32} (h : ∀ k, k < 32 → tb a k = tb b k) : a = b := by
  apply Int32.toBitVec_inj.mp
  apply BitVec.eq_of_getLsbD_eq
  exact h
theorem tb_and (a b : Int32) (k : Nat) : tb (a &&& b) k = (tb a k && tb b k) := by
  show (a.toBitVec &&& b.toBitVec).getLsbD k = _
  rw [BitVec.getLsbD_and]; rfl
theorem tb_or (a b : Int32) (k : Nat) : tb (a ||| b) k = (tb a k || tb b k) := by
  show (a.toBitVec ||| b.toBitVec).getLsbD k = _
  rw [BitVec.getLsbD_or]; rfl
theorem tb_not (a : Int32) {k : Nat} (h : k < 32) : tb (a ^^^ (-1)) k = !tb a k := by
  show (a.toBitVec ^^^ BitVec.allOnes 32).getLsbD k = _
  rw [BitVec.getLsbD_xor, BitVec.getLsbD_allOnes]
  simp [h, tb]
theorem tb_0 (k : Nat) : tb 0 k = false := by
  show (0#32).getLsbD k = false
  simp
theorem tb_bitF : ∀ g : Fin 10, ∀ k : Fin 32, tb (jshl 1 (nI g.val)) k.val = decide (k.val = g.val) := by decide
theorem tb_bit {g k : Nat} (hg : g < 10) (hk : k < 32) : tb (jshl 1 (nI g)) k = decide (k = g) := tb_bitF ⟨g, hg⟩ ⟨k, hk⟩
theorem tb_z {a : Int32} : a = 0 ↔ ∀ k, k < 32 → tb a k = false := ⟨fun h k _ => by rw [h]; exact tb_0 k, fun h => tb_ext (fun k hk => by rw [h k hk, tb_0])⟩
theorem tb_nz {a : Int32} (h : ¬ a = 0) : ∃ k, k < 32 ∧ tb a k = true := by
  refine Classical.byContradiction (fun hn => h (tb_z.mpr (fun k hk => ?_)))
  cases e : tb a k
  · rfl
  · exact absurd ⟨k, hk, e⟩ hn
/-- a bit is in, or not -/
theorem tb_in {a : Int32} {g : Nat} (hg : g < 10) : (a &&& jshl 1 (nI g) = 0) ↔ tb a g = false := by
  rw [tb_z]
  constructor
  · intro h
    have := h g (by omega)
    rw [tb_and, tb_bit hg (by omega)] at this
    simpa using this
  · intro h k hk
    rw [tb_and, tb_bit hg hk]
    by_cases e : k = g
    · subst e; rw [h]; rfl
    · simp [e]
theorem tb_in1 {a : Int32} {g : Nat} (hg : g < 10) : (¬ a &&& jshl 1 (nI g) = 0) ↔ tb a g = true := by
  rw [tb_in hg]; simp
def tsub (a b : Int32) : Prop := ∀ k, k < 32 → tb a k = true → tb b k = true
theorem tsub_and {a b : Int32} (h : tsub a b) : b &&& a = a := tb_ext (fun k hk => by
  rw [tb_and]
  cases e : tb a k
  · simp
  · rw [h k hk e]; rfl)
theorem tsub_lt {a : Int32} {k : Nat} (hk : k < 1024) (h : tsub a (nI k)) : ∃ j, j < 1024 ∧ a = nI j := by
  obtain ⟨j, hj, e⟩ := nI_andle hk a
  rw [tsub_and h] at e
  exact ⟨j, hj, e⟩
theorem jbc_z : ∀ k : Fin 1024, jbc (nI k.val) = 0 → nI k.val = 0 := by decide +kernel
theorem jbc_s : ∀ k : Fin 1024, ∀ g : Fin 10, ¬ (nI k.val &&& jshl 1 (nI g.val) = 0) → jbc (nI k.val &&& (jshl 1 (nI g.val) ^^^ (-1))) + 1 = jbc (nI k.val) := by decide +kernel
theorem j_new (w kn b : Int32) : w &&& ((kn ||| b) ^^^ (-1)) = (w &&& (kn ^^^ (-1))) &&& (b ^^^ (-1)) := tb_ext (fun k hk => by
  rw [tb_and, tb_not _ hk, tb_or, tb_and, tb_and, tb_not _ hk, tb_not _ hk]
  cases tb w k <;> cases tb kn k <;> cases tb b k <;> rfl)
section jTog
variable {E : jEnv} {d : Nat} {S S' : jM} {x sz M : Nat} {v : Nat → Int32}
/-- a lesson that brings on -/
def tOK (v : Nat → Int32) (w kn : Int32) (i : Nat) : Prop := ¬ ((w &&& (kn ^^^ (-1))) &&& jshl 1 (mfv v i 2)) = 0 ∧ mfv v i 6 = 0 ∧ ¬ jteach (mfv v i 0) (mfv v i 3) kn = 0 ∧ junl (mfv v i 0) (mfv v i 3) &&& kn = 0
def tRe (v : Nat → Int32) (sz : Nat) (w : Int32) : Nat → Int32 → Prop
  | 0, kn => kn = w
  | n + 1, kn => ∃ i, i < sz ∧ tOK v w kn i ∧ tRe v sz w n (kn ||| jshl 1 (mfv v i 2))
theorem tOK.bits {w kn : Int32} {i g : Nat} (h : tOK v w kn i) (hg : g < 10) (e : mfv v i 2 = nI g) : tb w g = true ∧ tb kn g = false := by
  have h1 := h.1
  rw [e, tb_in1 hg, tb_and, tb_not _ (by omega)] at h1
  cases p : tb w g <;> cases q : tb kn g <;> simp_all
theorem c_X0_helps {Q : Int32 → jM → Prop} {w kn : Int32} {i : Nat} (hX : XR S x sz v) (hi : i < 9) (h1 : tOK v w kn i → Q 1 S) (h0 : ¬ tOK v w kn i → Q 0 S) : jFi E mX0_helps (d + 2) 0 0 [.ref (x + 2 + 2 + i), .int kn, .int w] S Q := by
  have k2 := hX.mk hi
  refine T_X0_helps ⟨k2, ?_⟩
  rw [hX.ms hi (by omega), hX.ms hi (by omega)]
  refine ⟨fun c => h0 (fun t => t.1 c), fun c => ⟨fun c1 => c_X2_teaches k2 ?_, fun c1 => h0 (fun t => c1 t.2.1)⟩⟩
  rw [hX.ms hi (by omega), hX.ms hi (by omega)]
  refine ⟨fun c2 => h0 (fun t => t.2.2.1 c2), fun c2 => ⟨k2, c_X2_unlearnt k2 ?_⟩⟩
  rw [hX.ms hi (by omega), hX.ms hi (by omega)]
  exact ⟨fun c3 => h1 ⟨c, c1, c2, c3⟩, fun c3 => h0 (fun t => c3 t.2.2.2)⟩
theorem c_X0_leadsTo {w : Int32} {k0 : Nat} (hX : XR S x sz v) (hg : Rg sz v) (hw : w = nI k0) (hk0 : k0 < 1024) : ∀ (n D : Nat) (kn : Int32) (Q : Int32 → jM → Prop), n + 3 ≤ D → n ≤ 3 → tsub kn w → jbc (w &&& (kn ^^^ (-1))) = nI n → (tRe v sz w n kn → Q 1 S) → (¬ tRe v sz w n kn → Q 0 S) → jFi E mX0_leadsTo D 0 0 [.ref (x + 2), .int kn, .int w] S Q := by
  intro n
  induction n with
  | zero =>
    intro D kn Q hD _ hs hc h1 h0
    obtain ⟨e, rfl⟩ : ∃ e, D = e + 1 := ⟨D - 1, by omega⟩
    obtain ⟨j, hj, ej⟩ := nI_andle hk0 (kn ^^^ (-1))
    rw [hw, ej] at hc
    have z := jbc_z ⟨j, hj⟩ hc
    have ekw : kn = w := tb_ext (fun k hk => by
      have u0 : tb (w &&& (kn ^^^ (-1))) k = false := by rw [hw, ej, show nI j = 0 from z, tb_0]
      rw [tb_and, tb_not _ hk] at u0
      have := hs k hk
      cases p : tb w k <;> cases q : tb kn k <;> simp_all)
    exact T_X0_leadsTo ⟨fun _ => h1 ekw, fun c => absurd ekw c⟩
  | succ n ih =>
    intro D kn Q hD hn3 hs hc h1 h0
    obtain ⟨e, rfl⟩ : ∃ e, D = e + 2 + 1 := ⟨D - 3, by omega⟩
    have hne : ¬ kn = w := fun c => by
      rw [c] at hc
      have z : w &&& (w ^^^ (-1)) = 0 := tb_z.mpr (fun k hk => by rw [tb_and, tb_not _ hk]; simp)
      rw [z] at hc
      have := nI_inj (by omega) (by omega) (show nI 0 = nI (n + 1) from hc)
      omega
    have loop : ∀ (c i : Nat), i + c = sz → (∀ j, j < i → ¬ (tOK v w kn j ∧ tRe v sz w n (kn ||| jshl 1 (mfv v j 2)))) → L_X0_leadsTo_23 E (e + 2) Q (x + 2) kn w (nI i) S := by
      have hz := hX.sz9
      intro c
      induction c with
      | zero =>
        intro i hi hno
        obtain rfl : i = sz := by omega
        refine T_X0_leadsTo_23 ⟨hX.g.1.1, ?_⟩
        rw [hX.g.2.1]
        exact ⟨fun _ => h0 (fun ⟨j, hj, t⟩ => hno j hj t), fun cc => absurd Int32.le_rfl cc⟩
      | succ c ihc =>
        intro i hi hno
        refine T_X0_leadsTo_23 ⟨hX.g.1.1, ?_⟩
        rw [hX.g.2.1]
        refine ⟨fun cc => absurd cc (nI_ge (by omega) (by omega)), fun _ => c_X0_findAt hX.g.1 hX.g.2.1 hz (by omega) ⟨fun cc => absurd cc (by simp), fun b eb => ?_⟩⟩
        obtain rfl : x + 2 + 2 + i = b := Option.some.inj eb
        have nxt : ¬ (tOK v w kn i ∧ tRe v sz w n (kn ||| jshl 1 (mfv v i 2))) → L_X0_leadsTo_23 E (e + 2) Q (x + 2) kn w (nI i + 1) S := fun hn => by
          rw [nI_1]
          refine ihc (i + 1) (by omega) (fun j hj => ?_)
          by_cases ej : j = i
          · rw [ej]; exact hn
          · exact hno j (by omega)
        refine c_X0_helps hX (by omega) (fun t => ⟨fun cc => absurd cc (by decide), fun _ => ⟨hX.mk (by omega), ?_⟩⟩) (fun t => ⟨fun _ => nxt (fun q => t q.1), fun cc => absurd rfl cc⟩)
        rw [hX.ms (by omega) (by omega)]
        obtain ⟨g, hg10, eg⟩ := hg.ge (i := i) (by omega)
        have tt := t.bits hg10 eg
        refine ih (e + 2) (kn ||| jshl 1 (mfv v i 2)) _ (by omega) (by omega) (fun k hk hb => ?_) ?_ (fun r => ⟨fun cc => absurd cc (by decide), fun _ => h1 ⟨i, by omega, t, r⟩⟩) (fun r => ⟨fun _ => nxt (fun q => r q.2), fun cc => absurd rfl cc⟩)
        · rw [eg, tb_or, tb_bit hg10 hk] at hb
          by_cases ek : k = g
          · rw [ek]; exact tt.1
          · simp only [ek, decide_false, Bool.or_false] at hb
            exact hs k hk hb
        · obtain ⟨j, hj, ej⟩ := nI_andle hk0 (kn ^^^ (-1))
          have t1 := t.1
          rw [hw, ej] at hc t1
          rw [eg] at t1 ⊢
          have q := jbc_s ⟨j, hj⟩ ⟨g, hg10⟩ t1
          rw [j_new, hw, ej]
          have q2 : jbc (nI j &&& (jshl 1 (nI g) ^^^ (-1))) + 1 = nI n + 1 := by rw [nI_1]; exact q.trans hc
          have q3 := congrArg (fun z => z - 1) q2
          simpa [Int32.add_sub_cancel] using q3
    refine T_X0_leadsTo ⟨fun c => absurd c hne, fun _ => ⟨fun _ => loop sz 0 (by omega) (fun j hj => absurd hj (Nat.not_lt_zero _)), fun c => absurd ?_ c⟩⟩
    rw [hc]; exact nI_le (b := 3) (by omega) (by omega)
/-! the reference counts all rows of masters through -/
def rGo (v : Nat → Int32) (w had kn : Int32) (i : Nat) : Prop := mfv v i 6 = 0 ∧ ¬ w &&& jshl 1 (mfv v i 2) = 0 ∧ had &&& jshl 1 (mfv v i 2) = 0 ∧ ¬ jteach (mfv v i 0) (mfv v i 3) kn = 0
def rS (v : Nat → Int32) (sz : Nat) (w : Int32) : Nat → Nat → Int32 → Int32 → Prop
  | 0, _, kn, had => had = w ∧ kn = w
  | c + 1, left, kn, had => rGo v w had kn (left % sz) ∧ rS v sz w c (left / sz) (jbl (mfv v (left % sz) 0) (mfv v (left % sz) 3) (mfv v (left % sz) 2) kn) (had ||| jshl 1 (mfv v (left % sz) 2))
def tSq (v : Nat → Int32) (sz : Nat) (w : Int32) : Nat → Nat → Int32 → Prop
  | 0, _, kn => kn = w
  | c + 1, left, kn => tOK v w kn (left % sz) ∧ tSq v sz w c (left / sz) (kn ||| jshl 1 (mfv v (left % sz) 2))
theorem rS_lossy (hg : Rg sz v) (hz : sz ≤ 9) (h0 : 0 < sz) {w : Int32} : ∀ (c left : Nat) (kn had : Int32), (∃ k, k < 32 ∧ tb had k = true ∧ tb kn k = false) → ¬ rS v sz w c left kn had
  | 0, _, kn, had, ⟨k, _, a, b⟩, ⟨e1, e2⟩ => by rw [e1] at a; rw [e2, a] at b; exact absurd b (by decide)
  | c + 1, left, kn, had, ⟨k, hk, a, b⟩, ⟨r1, r2⟩ => by
    have hlt : left % sz < 9 := Nat.lt_of_lt_of_le (Nat.mod_lt _ h0) hz
    obtain ⟨g, hg10, eg⟩ := hg.ge hlt
    have hh := r1.2.2.1
    rw [eg, tb_in hg10] at hh
    have hkg : ¬ k = g := fun e => by rw [e, hh] at a; exact absurd a (by decide)
    refine rS_lossy hg hz h0 c (left / sz) _ _ ⟨k, hk, ?_, ?_⟩ r2
    · rw [tb_or, a]; rfl
    · unfold jbl
      rw [tb_or, tb_and, b, eg, tb_bit hg10 hk]
      simp [hkg]
theorem rS_eq (hg : Rg sz v) (hz : sz ≤ 9) (h0 : 0 < sz) {w : Int32} : ∀ (c left : Nat) (kn : Int32), rS v sz w c left kn kn ↔ tSq v sz w c left kn
  | 0, _, kn => ⟨fun h => h.1, fun h => ⟨h, h⟩⟩
  | c + 1, left, kn => by
    have hlt : left % sz < 9 := Nat.lt_of_lt_of_le (Nat.mod_lt _ h0) hz
    obtain ⟨g, hg10, eg⟩ := hg.ge hlt
    have new : (¬ w &&& jshl 1 (nI g) = 0 ∧ kn &&& jshl 1 (nI g) = 0) ↔ ¬ ((w &&& (kn ^^^ (-1))) &&& jshl 1 (nI g)) = 0 := by
      rw [tb_in1 hg10, tb_in hg10, tb_in1 hg10, tb_and, tb_not _ (by omega)]
      cases tb w g <;> cases tb kn g <;> simp
    have keep : junl (mfv v (left % sz) 0) (mfv v (left % sz) 3) &&& kn = 0 → jbl (mfv v (left % sz) 0) (mfv v (left % sz) 3) (mfv v (left % sz) 2) kn = kn ||| jshl 1 (mfv v (left % sz) 2) := fun hu => tb_ext (fun k hk => by
      unfold jbl
      have := tb_z.mp hu k hk
      rw [tb_and] at this
      rw [tb_or, tb_or, tb_and, tb_not _ hk]
      cases p : tb kn k <;> cases q : tb (junl (mfv v (left % sz) 0) (mfv v (left % sz) 3)) k <;> simp_all)
    constructor
    · rintro ⟨⟨r1, r2, r3, r4⟩, r5⟩
      by_cases hu : junl (mfv v (left % sz) 0) (mfv v (left % sz) 3) &&& kn = 0
      · rw [keep hu] at r5
        rw [eg] at r2 r3
        exact ⟨⟨by rw [eg]; exact new.mp ⟨r2, r3⟩, r1, r4, hu⟩, (rS_eq hg hz h0 c _ _).mp r5⟩
      · exfalso
        obtain ⟨k, hk, ek⟩ := tb_nz hu
        rw [tb_and] at ek
        have p := (Bool.and_eq_true_iff.mp ek)
        rw [eg, tb_in hg10] at r3
        have hkg : ¬ k = g := fun e => by rw [← e, p.2] at r3; exact absurd r3 (by decide)
        refine rS_lossy hg hz h0 c _ _ _ ⟨k, hk, ?_, ?_⟩ r5
        · rw [tb_or, p.2]; rfl
        · unfold jbl
          rw [tb_or, tb_and, tb_not _ hk, p.1, eg, tb_bit hg10 hk]
          simp [hkg]
    · rintro ⟨⟨t1, t2, t3, t4⟩, t5⟩
      rw [eg] at t1
      have n := new.mpr t1
      refine ⟨⟨t2, by rw [eg]; exact n.1, by rw [eg]; exact n.2, t3⟩, ?_⟩
      rw [keep t4]
      exact (rS_eq hg hz h0 c _ _).mpr t5
theorem tSq_ex {w : Int32} : ∀ (n : Nat) (kn : Int32), (∃ code, code < sz ^ n ∧ tSq v sz w n code kn) ↔ tRe v sz w n kn
  | 0, kn => ⟨fun ⟨_, _, h⟩ => h, fun h => ⟨0, by simp, h⟩⟩
  | n + 1, kn => by
    constructor
    · rintro ⟨code, hc, t1, t2⟩
      have h0 : 0 < sz := by
        rcases Nat.eq_zero_or_pos sz with e | e
        · rw [e, Nat.pow_succ, Nat.mul_zero] at hc; omega
        · exact e
      refine ⟨code % sz, Nat.mod_lt _ h0, t1, (tSq_ex n _).mp ⟨code / sz, ?_, t2⟩⟩
      rw [Nat.pow_succ] at hc
      exact Nat.div_lt_of_lt_mul (by rw [Nat.mul_comm]; exact hc)
    · rintro ⟨i, hi, t1, t2⟩
      obtain ⟨code, hc, t3⟩ := (tSq_ex n _).mpr t2
      have e1 : (i + sz * code) % sz = i := by rw [Nat.add_mul_mod_self_left, Nat.mod_eq_of_lt hi]
      have e2 : (i + sz * code) / sz = code := by rw [Nat.add_mul_div_left _ _ (by omega), Nat.div_eq_of_lt hi, Nat.zero_add]
      refine ⟨i + sz * code, ?_, ?_⟩
      · have : sz * (code + 1) ≤ sz * sz ^ n := Nat.mul_le_mul_left _ hc
        rw [Nat.pow_succ, Nat.mul_comm (sz ^ n)]
        rw [Nat.mul_add, Nat.mul_one] at this
        omega
      · show tOK v w kn ((i + sz * code) % sz) ∧ tSq v sz w n ((i + sz * code) / sz) (kn ||| jshl 1 (mfv v ((i + sz * code) % sz) 2))
        rw [e1, e2]; exact ⟨t1, t3⟩
end jTog
end
section
/-! TOGETHER, NEVER on both sides, second part -/
section jTog2
variable {E : jEnv} {d : Nat} {S S' : jM} {x sz M : Nat} {v : Nat → Int32}
theorem nI_dv {i s : Nat} (h : i < 2 ^ 31) (h0 : 0 < s) (hs : s < 2 ^ 31) : nI i / nI s = nI (i / s) := pk_div (d := s) h h0 hs
theorem nI_rm {i s : Nat} (h : i < 2 ^ 31) (h0 : 0 < s) (hs : s < 2 ^ 31) : jrem (nI i) (nI s) = nI (i % s) := pk_rem (d := s) h h0 hs
theorem pw9 {n : Nat} (hz : sz ≤ 9) (hn : n ≤ 3) : sz ^ n ≤ 729 := by
  have h1 : sz ^ n ≤ 9 ^ n := Nat.pow_le_pow_left hz n
  have h2 : 9 ^ n ≤ 9 ^ 3 := Nat.pow_le_pow_right (by omega) hn
  have h3 : 9 ^ 3 = 729 := by decide
  omega
theorem c_X11_areTogether {Q : Int32 → jM → Prop} {w : Int32} {k0 n : Nat} (hM : MR S (x + 94) v) (hg : Rg sz v) (hv0 : v 0 = nI sz) (hz : sz ≤ 9) (hw : w = nI k0) (hk0 : k0 < 1024) (hn : jmany w = nI n) (hn3 : n ≤ 3) (h1 : tRe v sz w n 0 → Q 1 S) (h0 : ¬ tRe v sz w n 0 → Q 0 S) : jFi E mX11_areTogether (d + 2) 0 0 [.ref (x + 94), .int w] S Q := by
  have i0 := hM.at (i := 0) 0 rfl (by omega)
  have all9 := pw9 (n := n) hz hn3
  have wneg : ¬ (-1 : Int32) = w := fun e => by
    have := nI_pos (n := k0) (by omega)
    rw [← hw, ← e] at this; exact absurd (by decide) this
  -- a row that is spoilt
  have dead : ∀ (c i left code : Nat) (x6 : Int32), i + c = n → 0 < sz → left < 1000 → L_X11_areTogether_34 E (d + 1) Q (x + 94) w (nI n) (nI (sz ^ n)) (nI (code + 1)) S → L_X11_areTogether_53 E (d + 1) Q (x + 94) w (nI n) (nI (sz ^ n)) (nI code) (nI left) x6 (-1) (nI i) S := by
    intro c
    induction c with
    | zero =>
      intro i left code x6 hi hs hl hk
      obtain rfl : i = n := by omega
      refine T_X11_areTogether_53 ⟨fun _ => ⟨fun c => absurd c wneg, fun _ => by rw [nI_1]; exact hk⟩, fun cc => absurd Int32.le_rfl cc⟩
    | succ c ih =>
      intro i left code x6 hi hs hl hk
      refine T_X11_areTogether_53 ⟨fun cc => absurd cc (nI_ge (by omega) (by omega)), fun _ => ⟨hM.k, _, hM.r, hM.k1, i0.1, ?_⟩⟩
      have nz : ¬ nI sz = 0 := fun e => by have := nI_inj (by omega) (by omega) (show nI sz = nI 0 from e); omega
      rw [i0.2, hv0, nI_rm (by omega) hs (by omega), nI_dv (by omega) hs (by omega), nI_1]
      have hm9 : left % sz < 9 := Nat.lt_of_lt_of_le (Nat.mod_lt _ hs) hz
      have hd : left / sz ≤ left := Nat.div_le_self _ _
      refine ⟨nz, nz, c_X11_of (f := 2) hM hm9 (by omega) ⟨fun _ => ih (i + 1) _ code _ (by omega) hs (by omega) hk, fun cc => absurd (by decide) cc⟩⟩
  -- a row that is good so far
  have good : ∀ (c i left code : Nat) (kn had : Int32), i + c = n → 0 < sz → left < 1000 → tsub kn w → tsub had w → (rS v sz w c left kn had → Q 1 S) → (¬ rS v sz w c left kn had → L_X11_areTogether_34 E (d + 1) Q (x + 94) w (nI n) (nI (sz ^ n)) (nI (code + 1)) S) → L_X11_areTogether_53 E (d + 1) Q (x + 94) w (nI n) (nI (sz ^ n)) (nI code) (nI left) kn had (nI i) S := by
    intro c
    induction c with
    | zero =>
      intro i left code kn had hi hs hl s1 s2 q1 q0
      obtain rfl : i = n := by omega
      rw [← nI_1] at q0
      exact T_X11_areTogether_53 ⟨fun _ => ⟨fun c => ⟨fun c2 => q1 ⟨c, c2⟩, fun c2 => q0 (fun r => c2 r.2)⟩, fun c => q0 (fun r => c r.1)⟩, fun cc => absurd Int32.le_rfl cc⟩
    | succ c ih =>
      intro i left code kn had hi hs hl s1 s2 q1 q0
      refine T_X11_areTogether_53 ⟨fun cc => absurd cc (nI_ge (by omega) (by omega)), fun _ => ⟨hM.k, _, hM.r, hM.k1, i0.1, ?_⟩⟩
      have nz : ¬ nI sz = 0 := fun e => by have := nI_inj (by omega) (by omega) (show nI sz = nI 0 from e); omega
      rw [i0.2, hv0, nI_rm (by omega) hs (by omega), nI_dv (by omega) hs (by omega), nI_1]
      have hm9 : left % sz < 9 := Nat.lt_of_lt_of_le (Nat.mod_lt _ hs) hz
      have hd : left / sz ≤ left := Nat.div_le_self _ _
      rw [hw] at s1 s2
      obtain ⟨kh, hkh, ekh⟩ := tsub_lt hk0 s2
      obtain ⟨kk, hkk, ekk⟩ := tsub_lt hk0 s1
      rw [← hw] at s1 s2
      obtain ⟨g, hg10, eg⟩ := hg.ge hm9
      have no : ¬ rGo v w had kn (left % sz) → L_X11_areTogether_53 E (d + 1) Q (x + 94) w (nI n) (nI (sz ^ n)) (nI code) (nI (left / sz)) 0 (-1) (nI (i + 1)) S := fun hno => dead c (i + 1) _ code _ (by omega) hs (by omega) (q0 (fun r => hno r.1))
      refine ⟨nz, nz, c_X11_of (f := 2) hM hm9 (by omega) ⟨fun cc => absurd cc (by rw [ekh]; exact nI_pos (by omega)), fun _ => ⟨hM.k, c_X11_of (f := 6) hM hm9 (by omega) ⟨fun c6 => ⟨fun cw => no (fun r => r.2.1 cw), fun cw => ⟨fun ch => ⟨hM.k, ?_⟩, fun ch => no (fun r => ch r.2.2.1)⟩⟩, fun c6 => no (fun r => c6 r.1)⟩⟩⟩⟩
      rw [ekk]
      refine c_X11_teaches hM hg hm9 hkk ⟨fun ct => no (fun r => r.2.2.2 (by rw [ekk]; exact ct)), fun ct => ⟨hM.k, c_X11_behindLesson hM hm9 ?_⟩⟩
      rw [← ekk]
      rw [← ekk] at ct
      have hwg : tb w g = true := by rw [eg, tb_in1 hg10] at cw; exact cw
      refine ih (i + 1) (left / sz) code _ _ (by omega) hs (by omega) (fun k hk hb => ?_) (fun k hk hb => ?_) (fun r => q1 ⟨⟨c6, cw, ch, ct⟩, r⟩) (fun r => q0 (fun z => r z.2))
      · unfold jbl at hb
        rw [tb_or, tb_and, eg, tb_bit hg10 hk] at hb
        by_cases ek : k = g
        · rw [ek]; exact hwg
        · simp only [ek, decide_false, Bool.or_false, Bool.and_eq_true] at hb
          exact s1 k hk hb.1
      · rw [tb_or, eg, tb_bit hg10 hk] at hb
        by_cases ek : k = g
        · rw [ek]; exact hwg
        · simp only [ek, decide_false, Bool.or_false] at hb
          exact s2 k hk hb
  have sub0 : tsub 0 w := fun k _ hb => by rw [tb_0] at hb; exact absurd hb (by decide)
  have codes : ∀ (c code : Nat), code + c = sz ^ n → (∀ e, e < code → ¬ tSq v sz w n e 0) → L_X11_areTogether_34 E (d + 1) Q (x + 94) w (nI n) (nI (sz ^ n)) (nI code) S := by
    intro c
    induction c with
    | zero =>
      intro code hc hno
      obtain rfl : code = sz ^ n := by omega
      refine T_X11_areTogether_34 ⟨fun _ => h0 (fun t => ?_), fun cc => absurd Int32.le_rfl cc⟩
      obtain ⟨e, he, te⟩ := (tSq_ex n 0).mpr t
      exact hno e he te
    | succ c ih =>
      intro code hc hno
      refine T_X11_areTogether_34 ⟨fun cc => absurd cc (nI_ge (by omega) (by omega)), fun _ => ?_⟩
      cases n with
      | zero =>
        have hc1 : code + (c + 1) = 1 := by simpa using hc
        refine T_X11_areTogether_53 ⟨fun _ => ?_, fun cc => absurd (by exact Int32.le_rfl) cc⟩
        have yes : tRe v sz w 0 0 → Q 1 S := h1
        refine ⟨fun e => ⟨fun _ => yes e, fun q => absurd e q⟩, fun e => ?_⟩
        rw [nI_1]
        refine ih (code + 1) (by omega) (fun e' he' => ?_)
        exact fun t => e t
      | succ n' =>
        have hs : 0 < sz := by
          rcases Nat.eq_zero_or_pos sz with e | e
          · rw [e, Nat.pow_succ, Nat.mul_zero] at hc; omega
          · exact e
        refine good (n' + 1) 0 code code 0 0 (by omega) hs (by omega) sub0 sub0 (fun r => h1 ((tSq_ex (n' + 1) 0).mp ⟨code, by omega, (rS_eq hg hz hs _ _ _).mp r⟩)) (fun r => ih (code + 1) (by omega) (fun e he => ?_))
        by_cases ee : e = code
        · rw [ee]; exact fun t => r ((rS_eq hg hz hs _ _ _).mpr t)
        · exact hno e (by omega)
  have pows : ∀ (c i : Nat), i + c = n → L_X11_areTogether_10 E (d + 1) Q (x + 94) w (nI n) (nI (sz ^ i)) (nI i) S := by
    intro c
    induction c with
    | zero =>
      intro i hi
      obtain rfl : i = n := by omega
      exact T_X11_areTogether_10 ⟨fun _ => codes (sz ^ i) 0 (by omega) (fun e he => absurd he (Nat.not_lt_zero _)), fun cc => absurd Int32.le_rfl cc⟩
    | succ c ih =>
      intro i hi
      refine T_X11_areTogether_10 ⟨fun cc => absurd cc (nI_ge (by omega) (by omega)), fun _ => ⟨hM.k, _, hM.r, hM.k1, i0.1, ?_⟩⟩
      rw [i0.2, hv0, nI_mul, ← Nat.pow_succ, nI_1]
      exact ih (i + 1) (by omega)
  refine T_X11_areTogether ?_
  rw [hn]
  exact pows n 0 (by omega)
/-- the class's question, from nothing -/
theorem c_X0_canBringTogether {Q : Int32 → jM → Prop} {w : Int32} {k0 n : Nat} (hX : XR S x sz v) (hg : Rg sz v) (hw : w = nI k0) (hk0 : k0 < 1024) (hn : jbc w = nI n) (hn3 : n ≤ 3) (h1 : tRe v sz w n 0 → Q 1 S) (h0 : ¬ tRe v sz w n 0 → Q 0 S) : jFi E mX0_canBringTogether (d + 7) 0 0 [.ref (x + 2), .int w] S Q := by
  have e0 : w &&& (0 ^^^ (-1)) = w := tb_ext (fun k hk => by rw [tb_and, tb_not _ hk, tb_0]; simp)
  exact T_X0_canBringTogether (c_X0_leadsTo hX hg hw hk0 n (d + 6) 0 _ (by omega) hn3 (fun k _ hb => by rw [tb_0] at hb; exact absurd hb (by decide)) (by rw [e0]; exact hn) (fun t => ⟨Or.inr rfl, h1 t⟩) (fun t => ⟨Or.inl rfl, h0 t⟩))
theorem Q_together {w : Int32} (h : IV S x sz M v) : jFi E mX10_together (d + 8) 0 0 [.ref x, .int w] S (fun r S1 => jFm E mX11_together (d + 3) (x + 94) [.int w] S1 (fun r' S2 => r = r' ∧ INV S2 x M)) := by
  obtain ⟨hX, hM, hg⟩ := id h.1
  have hz := hX.sz9
  have e0 : jisin (Int32.toInt64 w) 0 1023 = jwi w 1024 := jisin_wi w 1024 1023 rfl (jle_lt (by decide))
  refine T_X10_together ⟨fun c => U_X11_together hM.k ⟨fun _ => ⟨rfl, h.inv⟩, fun c2 => absurd (e0.trans c) c2⟩, fun c => ?_⟩
  have c' : ¬ jisin (Int32.toInt64 w) 0 1023 = 0 := by rw [e0]; exact c
  rcases jwi_cases w (b := 1024) 1024 rfl (by omega) with ⟨k0, hk0, hw, -⟩ | ⟨-, e⟩
  · have ebm : jbc w = jmany w := by rw [hw]; exact jbm hk0
    refine ⟨fun c3 => ?_, fun c3 => U_X11_together hM.k ⟨fun q => absurd q c', fun _ => ⟨fun q => absurd (by rw [ebm]; exact q) c3, fun _ => ⟨rfl, h.inv⟩⟩⟩⟩
    obtain ⟨⟨n, hn11⟩, hn⟩ := jmany_le ⟨k0, hk0⟩
    have hmn : jmany w = nI n := by rw [hw]; exact hn
    have hn3 : n ≤ 3 := by
      rw [ebm, hmn] at c3
      exact (nI_leI (b := 3) (by omega) (by omega)).mp c3
    have ref : ∀ r : Int32, (tRe v sz w n 0 → r = 1) → (¬ tRe v sz w n 0 → r = 0) → jFm E mX11_together (d + 3) (x + 94) [.int w] S (fun r' S2 => r = r' ∧ INV S2 x M) := fun r p1 p0 =>
      U_X11_together hM.k ⟨fun q => absurd q c', fun _ => ⟨fun _ => ⟨hM.k, c_X11_areTogether hM hg hX.v0 hz hw hk0 hmn hn3 (fun t => ⟨fun q => absurd q (by decide), fun _ => ⟨p1 t, h.inv⟩⟩) (fun t => ⟨fun _ => ⟨p0 t, h.inv⟩, fun q => absurd rfl q⟩)⟩, fun q => absurd (by rw [← ebm]; exact c3) q⟩⟩
    exact ⟨hX.1, _, hX.2.1, hX.k3, _, hX.r0, hX.g.1.1, c_X0_canBringTogether hX hg hw hk0 (ebm.trans hmn) hn3 (fun t => ⟨fun q => absurd q (by decide), fun _ => ref 1 (fun _ => rfl) (fun q => absurd t q)⟩) (fun t => ⟨fun _ => ref 0 (fun q => absurd q t) (fun _ => rfl), fun q => absurd rfl q⟩)⟩
  · exact absurd e c
/-! never -/
/-- the first pair a, b that is taught and does not come together -/
def nvB (P : Nat → Nat → Prop) (a : Nat) : Nat → Nat → Int32 → Prop
  | 0, _, _ => False
  | c + 1, b, r => (P a b ∧ r = nI (10 * a + b)) ∨ (¬ P a b ∧ nvB P a c (b + 1) r)
def nvN (P : Nat → Nat → Prop) (a : Nat) : Nat → Nat → Prop
  | 0, _ => True
  | c + 1, b => ¬ P a b ∧ nvN P a c (b + 1)
def nvA (P : Nat → Nat → Prop) : Nat → Nat → Int32 → Prop
  | 0, _, r => r = kNONE
  | c + 1, a, r => nvB P a (9 - a) (a + 1) r ∨ (nvN P a (9 - a) (a + 1) ∧ nvA P c (a + 1) r)
theorem nvB_one {P : Nat → Nat → Prop} {a : Nat} {r r' : Int32} : ∀ (c b : Nat), nvB P a c b r → nvB P a c b r' → r = r'
  | 0, _, h, _ => h.elim
  | c + 1, b, h, h' => by
    rcases h with ⟨p, e⟩ | ⟨p, e⟩ <;> rcases h' with ⟨p', e'⟩ | ⟨p', e'⟩
    · rw [e, e']
    · exact absurd p p'
    · exact absurd p' p
    · exact nvB_one c (b + 1) e e'
theorem nvB_no {P : Nat → Nat → Prop} {a : Nat} {r : Int32} : ∀ (c b : Nat), nvB P a c b r → nvN P a c b → False
  | 0, _, h, _ => h
  | c + 1, b, h, n => by
    rcases h with ⟨p, _⟩ | ⟨_, e⟩
    · exact n.1 p
    · exact nvB_no c (b + 1) e n.2
theorem nvA_one {P : Nat → Nat → Prop} {r r' : Int32} : ∀ (c a : Nat), nvA P c a r → nvA P c a r' → r = r'
  | 0, _, h, h' => h.trans h'.symm
  | c + 1, a, h, h' => by
    rcases h with e | ⟨n, e⟩ <;> rcases h' with e' | ⟨n', e'⟩
    · exact nvB_one _ _ e e'
    · exact (nvB_no _ _ e n').elim
    · exact (nvB_no _ _ e' n).elim
    · exact nvA_one c (a + 1) e e'
/-- the two bits of a pair -/
theorem pair_b : ∀ a : Fin 10, ∀ b : Fin 10, a.val < b.val → (∃ k : Fin 1024, jshl 1 (nI a.val) ||| jshl 1 (nI b.val) = nI k.val) ∧ jbc (jshl 1 (nI a.val) ||| jshl 1 (nI b.val)) = nI 2 ∧ jmany (jshl 1 (nI a.val) ||| jshl 1 (nI b.val)) = nI 2 := by
  have h : ∀ a : Fin 10, ∀ b : Fin 10, a.val < b.val → (jshl 1 (nI a.val) ||| jshl 1 (nI b.val) = nI (2 ^ a.val + 2 ^ b.val) ∧ 2 ^ a.val + 2 ^ b.val < 1024) ∧ jbc (jshl 1 (nI a.val) ||| jshl 1 (nI b.val)) = nI 2 ∧ jmany (jshl 1 (nI a.val) ||| jshl 1 (nI b.val)) = nI 2 := by decide +kernel
  intro a b hab
  obtain ⟨⟨h1, h2⟩, h3⟩ := h a b hab
  exact ⟨⟨⟨_, h2⟩, h1⟩, h3⟩
def nvP (v : Nat → Int32) (sz : Nat) (ta : Int32) (a b : Nat) : Prop := ta &&& (jshl 1 (nI a) ||| jshl 1 (nI b)) = (jshl 1 (nI a) ||| jshl 1 (nI b)) ∧ ¬ tRe v sz (jshl 1 (nI a) ||| jshl 1 (nI b)) 2 0
theorem l_X10_never {Q : Int32 → jM → Prop} {ta : Int32} (hX : XR S x sz v) (hg : Rg sz v) (h : ∀ r, nvA (nvP v sz ta) 10 0 r → Q r S) : L_X10_never_13 E (d + 7) Q x ta 0 S := by
  have inner : ∀ (c b a : Nat), a < b → b + c = 10 → a < 10 → (∀ r, nvB (nvP v sz ta) a c b r → Q r S) → (nvN (nvP v sz ta) a c b → L_X10_never_13 E (d + 7) Q x ta (nI (a + 1)) S) → L_X10_never_23 E (d + 7) Q x ta (nI a) (nI b) S := by
    intro c
    induction c with
    | zero =>
      intro b a hab hb ha q n
      obtain rfl : b = 10 := by omega
      exact T_X10_never_23 ⟨fun _ => by rw [nI_1]; exact n trivial, fun cc => absurd (by decide) cc⟩
    | succ c ih =>
      intro b a hab hb ha q n
      obtain ⟨⟨⟨k, hk⟩, ek⟩, e2, -⟩ := pair_b ⟨a, ha⟩ ⟨b, by omega⟩ hab
      have nxt : ¬ nvP v sz ta a b → L_X10_never_23 E (d + 7) Q x ta (nI a) (nI b + 1) S := fun hp => by
        rw [nI_1]
        exact ih (b + 1) a (by omega) (by omega) ha (fun r hr => q r (Or.inr ⟨hp, hr⟩)) (fun hn => n ⟨hp, hn⟩)
      refine T_X10_never_23 ⟨fun cc => absurd cc (nI_ge (b := 10) (by omega) (by omega)), fun _ => ⟨fun c1 => ⟨hX.1, _, hX.2.1, hX.k3, _, hX.r0, hX.g.1.1, c_X0_canBringTogether hX hg ek hk e2 (by omega) (fun t => ⟨fun cc => absurd cc (by decide), fun _ => nxt (fun p => p.2 t)⟩) (fun t => ⟨fun _ => ?_, fun cc => absurd rfl cc⟩)⟩, fun c1 => nxt (fun p => c1 p.1)⟩⟩
      rw [show (10 : Int32) = nI 10 from rfl, nI_mul, nI_add]
      exact q _ (Or.inl ⟨⟨c1, t⟩, rfl⟩)
  have outer : ∀ (c a : Nat), a + c = 10 → (∀ r, nvA (nvP v sz ta) c a r → Q r S) → L_X10_never_13 E (d + 7) Q x ta (nI a) S := by
    intro c
    induction c with
    | zero =>
      intro a ha q
      obtain rfl : a = 10 := by omega
      exact T_X10_never_13 ⟨fun _ => q _ rfl, fun cc => absurd (by decide) cc⟩
    | succ c ih =>
      intro a ha q
      refine T_X10_never_13 ⟨fun cc => absurd cc (nI_ge (b := 10) (by omega) (by omega)), fun _ => ?_⟩
      rw [nI_1]
      exact inner (9 - a) (a + 1) a (by omega) (by omega) (by omega) (fun r hr => q r (Or.inl hr)) (fun hn => ih (a + 1) (by omega) (fun r hr => q r (Or.inr ⟨hn, hr⟩)))
  exact outer 10 0 (by omega) h
theorem l_X11_never {Q : Int32 → jM → Prop} {ta : Int32} (hM : MR S (x + 94) v) (hv0 : v 0 = nI sz) (hz : sz ≤ 9) (hg : Rg sz v) (h : ∀ r, nvA (nvP v sz ta) 10 0 r → Q r S) : L_X11_never_7 E (d + 2) Q (x + 94) ta 0 S := by
  have inner : ∀ (c b a : Nat), a < b → b + c = 10 → a < 10 → (∀ r, nvB (nvP v sz ta) a c b r → Q r S) → (nvN (nvP v sz ta) a c b → L_X11_never_7 E (d + 2) Q (x + 94) ta (nI (a + 1)) S) → L_X11_never_17 E (d + 2) Q (x + 94) ta (nI a) (nI b) S := by
    intro c
    induction c with
    | zero =>
      intro b a hab hb ha q n
      obtain rfl : b = 10 := by omega
      exact T_X11_never_17 ⟨fun _ => by rw [nI_1]; exact n trivial, fun cc => absurd (by decide) cc⟩
    | succ c ih =>
      intro b a hab hb ha q n
      obtain ⟨⟨⟨k, hk⟩, ek⟩, -, e2⟩ := pair_b ⟨a, ha⟩ ⟨b, by omega⟩ hab
      have nxt : ¬ nvP v sz ta a b → L_X11_never_17 E (d + 2) Q (x + 94) ta (nI a) (nI b + 1) S := fun hp => by
        rw [nI_1]
        exact ih (b + 1) a (by omega) (by omega) ha (fun r hr => q r (Or.inr ⟨hp, hr⟩)) (fun hn => n ⟨hp, hn⟩)
      refine T_X11_never_17 ⟨fun cc => absurd cc (nI_ge (b := 10) (by omega) (by omega)), fun _ => ⟨fun c1 => ⟨hM.k, c_X11_areTogether hM hg hv0 hz ek hk e2 (by omega) (fun t => ⟨fun cc => absurd cc (by decide), fun _ => nxt (fun p => p.2 t)⟩) (fun t => ⟨fun _ => ?_, fun cc => absurd rfl cc⟩)⟩, fun c1 => nxt (fun p => c1 p.1)⟩⟩
      rw [show (10 : Int32) = nI 10 from rfl, nI_mul, nI_add]
      exact q _ (Or.inl ⟨⟨c1, t⟩, rfl⟩)
  have outer : ∀ (c a : Nat), a + c = 10 → (∀ r, nvA (nvP v sz ta) c a r → Q r S) → L_X11_never_7 E (d + 2) Q (x + 94) ta (nI a) S := by
    intro c
    induction c with
    | zero =>
      intro a ha q
      obtain rfl : a = 10 := by omega
      exact T_X11_never_7 ⟨fun _ => q _ rfl, fun cc => absurd (by decide) cc⟩
    | succ c ih =>
      intro a ha q
      refine T_X11_never_7 ⟨fun cc => absurd cc (nI_ge (b := 10) (by omega) (by omega)), fun _ => ?_⟩
      rw [nI_1]
      exact inner (9 - a) (a + 1) a (by omega) (by omega) (by omega) (fun r hr => q r (Or.inl hr)) (fun hn => ih (a + 1) (by omega) (fun r hr => q r (Or.inr ⟨hn, hr⟩)))
  exact outer 10 0 (by omega) h
theorem Q_never (h : IV S x sz M v) : jFi E mX10_never (d + 8) 0 0 [.ref x] S (fun r S1 => jFm E mX11_never (d + 3) (x + 94) [] S1 (fun r' S2 => r = r' ∧ INV S2 x M)) := by
  obtain ⟨hX, hM, hg⟩ := id h.1
  have hz := hX.sz9
  refine T_X10_never ⟨hX.1, _, hX.2.1, hX.k3, _, hX.r0, hX.g.1.1, c_X0_taught hX.g hz (l_X10_never hX hg (fun r hr => ?_))⟩
  exact U_X11_never hM.k ⟨hM.k, c_X11_taughtNow hM hX.v0 hz (l_X11_never hM hX.v0 hz hg (fun r' hr' => ⟨nvA_one 10 0 hr hr', h.inv⟩))⟩
end jTog2
end
section
/-! SOONEST: the class's search comes to its end and leaves all else -/
/-- what the search changes -/
def jse (S S' : jM) (x : Nat) : Prop := jsame S S' ∧ ∀ y, (y < x + 52 ∨ x + 60 ≤ y) → (y < x + 115 ∨ (y - x) % 3 ≠ 0) → ji S' y = ji S y
section jSoon1
variable {E : jEnv} {d : Nat} {S S' : jM} {x sz M : Nat} {v : Nat → Int32}
theorem jse.rfl : jse S S x := ⟨jsame.rfl, fun _ _ _ => _root_.rfl⟩
theorem jse.trans {S1 S2 : jM} (h1 : jse S S1 x) (h2 : jse S1 S2 x) : jse S S2 x := ⟨h1.1.trans h2.1, fun y a b => (h2.2 y a b).trans (h1.2 y a b)⟩
theorem jse.put {y j : Nat} {w : Int32} (h1 : x + 52 ≤ y) (h2 : y < x + 60) : jse S (jput S y j w) x := ⟨⟨_root_.rfl, _root_.rfl, _root_.rfl, _root_.rfl⟩, fun z _ _ => ji_put_ne _ _ _ _ (by omega)⟩
theorem jse.of (h : jpi S S' x) : jse S S' x := ⟨h.1, fun y _ b => h.2 y b⟩
theorem jse.fq (h : jse S S' x) : jfq S S' x := ⟨h.1, fun y _ _ _ _ _ _ _ g => h.2 y (by omega) g⟩
theorem IV.se (h : IV S x sz M v) (p : jse S S' x) : IV S' x sz M v := by
  obtain ⟨hX, hM, hg⟩ := id h.1
  have g : ∀ y, (y < x + 52 ∨ (x + 60 ≤ y ∧ y < x + 115)) → ji S' y = ji S y := fun y hy => p.2 y (by omega) (by omega)
  exact h.next p.fq ⟨hX.of p.1 (hX.2.2.grow (fun y a b => ⟨by rw [p.1.1], by rw [p.1.2.1], g y (by omega), by rw [p.1.2.2.1]⟩)), ⟨hM.1.same p.1, fun j => by rw [g (x + 94 + 1) (by omega)]; exact hM.2 j⟩, hg⟩ (fun _ _ _ => _root_.rfl)
theorem jwi_in {w : Int32} {n : Nat} (hn : n < 2 ^ 31) (h : ¬ jwi w (nI n) = 0) : vp_in w n := by
  rcases jwi_cases w (b := nI n) n _root_.rfl hn with ⟨j, hj, e, -⟩ | ⟨-, e⟩
  · rw [e]; exact jin_nI hj hn
  · exact absurd e h
theorem c_X5_keptOf {Q : Int32 → jM → Prop} {a b c : Int32} (hs : SrL S (x + 52)) (h : ∀ r, Q r S) : jFi E mX5_keptOf d 0 0 [.ref (x + 52), .int a, .int b, .int c] S Q := by
  have key : ∀ (n i : Nat) (y : Int32), i + n = 10 → L_X5_keptOf_12 E d Q (x + 52) b c y (nI i) S := by
    intro n
    induction n with
    | zero =>
      intro i y hi
      obtain rfl : i = 10 := by omega
      exact T_X5_keptOf_12 ⟨fun _ => h _, fun cc => absurd (by decide) cc⟩
    | succ n ih =>
      intro i y hi
      refine T_X5_keptOf_12 ⟨fun cc => absurd cc (nI_ge (b := 10) (by omega) (by omega)), fun _ => ⟨hs.1, _, (hs.2.1 5 (by omega)).1, (hs.2.1 5 (by omega)).2, ?_, ?_⟩⟩
      · show vp_in (nI i) (jl S (x + 52 + 6))
        rw [hs.2.2.2.1]; exact jin_nI (by omega) (by omega)
      · rw [nI_1]
        exact ⟨fun _ => ih (i + 1) _ (by omega), fun _ => ih (i + 1) _ (by omega)⟩
  exact T_X5_keptOf ⟨fun _ => h _, fun _ => key 10 0 a (by omega)⟩
theorem c_X5_daysTaken {Q : Int32 → jM → Prop} {j : Nat} {a k : Int32} (h : IV S x sz M v) (hj : j < 9) (hq : ∀ r S', jse S S' x → Q r S') : jFi E mX5_daysTaken (d + 4) 0 0 [.ref (x + 52), .ref (x + 1), .int a, .ref (x + 2 + 2 + j), .int k] S Q := by
  obtain ⟨⟨hX, hM, hg⟩, hC, -, -, hT, -⟩ := id h
  have hs := hC.2.2.1
  have r6 := hs.2.1 6 (by omega)
  have l99 : jl S (x + 52 + 1 + 6) = 99 := hs.2.2.2.2
  obtain ⟨o, hL⟩ := LWD_ex (key := 0) (by omega) hT
  obtain ⟨kd, hkd, ekd⟩ := hg.kd hj
  obtain ⟨tg, htg, etg⟩ := hg.ge hj
  obtain ⟨ag, hag, eag⟩ := hg.ag hj
  have days : ∀ Q' : Int32 → jM → Prop, (∀ r S', jse S S' x → Q' r S') → jFi E mX3_daysTaken (d + 3) 0 0 [.ref (x + 1), .ref (x + 2 + 2 + j), .int k] S Q' := by
    intro Q' q
    rw [nI_bv k]
    exact c_X3_daysTaken (M := M) hX.2.2 hT hL (hX.mk hj) (by omega) ((hX.ms hj (by omega)).trans ekd) ((hX.ms hj (by omega)).trans etg) ((hX.ms hj (by omega)).trans eag) hkd hag (fun S' p => q _ S' (jse.of p))
  refine T_X5_daysTaken ⟨hs.1, _, r6.1, r6.2, ?_⟩
  rw [l99]
  refine ⟨fun _ => ⟨hX.k3, days _ (fun r S' p => hq r S' p)⟩, fun c => ?_⟩
  have hin := jwi_in (by omega) c
  refine ⟨hin, fun _ => ⟨hX.k3, days _ (fun r S' p => ?_)⟩, fun _ => hq _ S jse.rfl⟩
  have hs1 := (h.se p).2.1.2.2.1
  have q6 := hs1.2.1 6 (by omega)
  have m99 : jl S' (x + 52 + 1 + 6) = 99 := hs1.2.2.2.2
  rw [m99]
  exact ⟨q6.2, hin, hs1.1, _, q6.1, q6.2, by rw [m99]; exact hin, hq _ _ (p.trans (jse.put (by omega) (by omega)))⟩
theorem c_X5_offer {Q : jM → Prop} {w : Int32} (hs : SrL S (x + 52)) (hq : ∀ S', jse S S' x → Q S') : jFv E mX5_offer (d + 1) 0 0 [.ref (x + 52), .int w] S Q := by
  have r2 := hs.2.1 2 (by omega)
  have r3 := hs.2.1 3 (by omega)
  have r4 := hs.2.1 4 (by omega)
  refine T_X5_offer ⟨fun _ => hq S jse.rfl, fun c => ?_⟩
  have hin : vp_in w 5 := jwi_in (n := 5) (by omega) c
  have i2 : vp_in w (jl S (x + 52 + 1 + 2)) := by rw [hs.2.2.1 2 (by omega)]; exact hin
  have i3 : vp_in w (jl S (x + 52 + 1 + 3)) := by rw [hs.2.2.1 3 (by omega)]; exact hin
  have i4 : vp_in w (jl S (x + 52 + 1 + 4)) := by rw [hs.2.2.1 4 (by omega)]; exact hin
  have fin : ∀ r : Int32, (r = 0 → Q S) ∧ (¬ r = 0 → jk S (x + 52) = 5 ∧ ∃ b19, jr S (x + 52) 2 = some b19 ∧ (jk S b19 = 12 ∧ vp_in w (jl S b19) ∧ (∃ b22, jr S (x + 52) 3 = some b22 ∧ (jk S b22 = 12 ∧ vp_in w (jl S b22) ∧ (∃ b25, jr S (x + 52) 4 = some b25 ∧ (jk S b25 = 12 ∧ vp_in w (jl S b25) ∧ (Q (jput (jput (jput S (x + 52) 9 (ji S b19 (Int32.toNatClampNeg w))) (x + 52) 10 (ji S b22 (Int32.toNatClampNeg w))) (x + 52) 11 (ji S b25 (Int32.toNatClampNeg w)))))))))) := fun r => ⟨fun _ => hq S jse.rfl, fun _ => ⟨hs.1, _, r2.1, r2.2, i2, _, r3.1, r3.2, i3, _, r4.1, r4.2, i4, hq _ (((jse.put (by omega) (by omega)).trans (jse.put (by omega) (by omega))).trans (jse.put (by omega) (by omega)))⟩⟩
  exact ⟨hs.1, _, r2.1, r2.2, i2, _, r3.1, r3.2, i3, _, r4.1, r4.2, i4, T_X5_isBetter ⟨hs.1, fun _ => ⟨fun _ => ⟨fun _ => fin _, fun _ => fin _⟩, fun _ => ⟨fun _ => fin _, fun _ => fin _⟩⟩, fun _ => ⟨fun _ => fin _, fun _ => fin _⟩⟩⟩
/-- from the lesson on -/
theorem t_X5_try {Q : jM → Prop} {D st j : Nat} {x3 kn ar pr fo gt : Int32} {a4 : Nat} (h : IV S x sz M v) (hD : 4 ≤ D) (hj : j < 9) (ha : a4 = x + 2 + 2 + j) (hst : st + 1 < 5) (hgt : vp_in gt 10) (G : ∀ S', jse S S' x → ∀ Q' : jM → Prop, (∀ S'', jse S' S'' x → Q' S'') → jFv E mX5_goOn D 0 0 [.ref (x + 52), .ref (x + 1), .int (nI (st + 1))] S' Q') (hq : ∀ S', jse S S' x → Q S') : jFi E mX2_teaches D 0 0 [.ref a4, .int kn] S (fun r49 S48 => (r49 = 0 → Q S48) ∧ (¬ r49 = 0 → jk S48 (x + 52) = 5 ∧ jFi E mX5_daysTaken D 0 0 [.ref (x + 52), .ref (x + 1), .int x3, .ref a4, .int (jbc kn)] S48 (fun r56 S55 => jk S55 (x + 52) = 5 ∧ ((ar + r56) ≤ (ji S55 (x + 52) 9) → ∃ b59, jr S55 (x + 52) 0 = some b59 ∧ (jk S55 a4 = 2 ∧ jk S55 b59 = 12 ∧ vp_in (nI st + 1) (jl S55 b59) ∧ (∃ b63, jr S55 (x + 52) 1 = some b63 ∧ (jFi E mX5_keptOf D 0 0 [.ref (x + 52), .int kn, .int (ar + r56), .int fo] (jput S55 b59 (Int32.toNatClampNeg (nI st + 1)) (ji S55 a4 1)) (fun r65 S64 => jk S64 a4 = 2 ∧ jFi E mX2_unlearnt D 0 0 [.ref a4] S64 (fun r68 S67 => jk S67 b63 = 12 ∧ vp_in (nI st + 1) (jl S67 b63) ∧ (jk S67 (x + 52) = 5 ∧ ∃ b72, jr S67 (x + 52) 2 = some b72 ∧ (jk S67 b72 = 12 ∧ vp_in (nI st + 1) (jl S67 b72) ∧ (∃ b75, jr S67 (x + 52) 3 = some b75 ∧ (jk S67 b75 = 12 ∧ vp_in (nI st + 1) (jl S67 b75) ∧ (∃ b78, jr S67 (x + 52) 4 = some b78 ∧ (((nI st) = 0 → jk S67 b78 = 12 ∧ vp_in (nI st + 1) (jl S67 b78) ∧ (∃ b94, jr S67 (x + 52) 5 = some b94 ∧ (jk S67 b94 = 12 ∧ vp_in gt (jl S67 b94) ∧ (∀ y97 : Int32, y97 = (ji (jput (jput (jput (jput S67 b63 (Int32.toNatClampNeg (nI st + 1)) ((r65 &&& (r68 ^^^ (-1))) ||| (jshl 1 gt))) b72 (Int32.toNatClampNeg (nI st + 1)) (ar + r56)) b75 (Int32.toNatClampNeg (nI st + 1)) pr) b78 (Int32.toNatClampNeg (nI st + 1)) x3) b94 (Int32.toNatClampNeg gt)) → (jFv E mX5_goOn D 0 0 [.ref (x + 52), .ref (x + 1), .int (nI st + 1)] (jput (jput (jput (jput (jput S67 b63 (Int32.toNatClampNeg (nI st + 1)) ((r65 &&& (r68 ^^^ (-1))) ||| (jshl 1 gt))) b72 (Int32.toNatClampNeg (nI st + 1)) (ar + r56)) b75 (Int32.toNatClampNeg (nI st + 1)) pr) b78 (Int32.toNatClampNeg (nI st + 1)) x3) b94 (Int32.toNatClampNeg gt) (ar + r56)) (fun S98 => jk S98 (x + 52) = 5 ∧ ∃ b100, jr S98 (x + 52) 5 = some b100 ∧ (jk S98 b100 = 12 ∧ vp_in gt (jl S98 b100) ∧ (Q (jput S98 b100 (Int32.toNatClampNeg gt) y97))))))))) ∧ (¬ (nI st) = 0 → jk S67 b78 = 12 ∧ vp_in (nI st) (jl S67 b78) ∧ (vp_in (nI st + 1) (jl S67 b78) ∧ (∃ b83, jr S67 (x + 52) 5 = some b83 ∧ (jk S67 b83 = 12 ∧ vp_in gt (jl S67 b83) ∧ (∀ y86 : Int32, y86 = (ji (jput (jput (jput (jput S67 b63 (Int32.toNatClampNeg (nI st + 1)) ((r65 &&& (r68 ^^^ (-1))) ||| (jshl 1 gt))) b72 (Int32.toNatClampNeg (nI st + 1)) (ar + r56)) b75 (Int32.toNatClampNeg (nI st + 1)) pr) b78 (Int32.toNatClampNeg (nI st + 1)) (ji (jput (jput (jput S67 b63 (Int32.toNatClampNeg (nI st + 1)) ((r65 &&& (r68 ^^^ (-1))) ||| (jshl 1 gt))) b72 (Int32.toNatClampNeg (nI st + 1)) (ar + r56)) b75 (Int32.toNatClampNeg (nI st + 1)) pr) b78 (Int32.toNatClampNeg (nI st)))) b83 (Int32.toNatClampNeg gt)) → (jFv E mX5_goOn D 0 0 [.ref (x + 52), .ref (x + 1), .int (nI st + 1)] (jput (jput (jput (jput (jput S67 b63 (Int32.toNatClampNeg (nI st + 1)) ((r65 &&& (r68 ^^^ (-1))) ||| (jshl 1 gt))) b72 (Int32.toNatClampNeg (nI st + 1)) (ar + r56)) b75 (Int32.toNatClampNeg (nI st + 1)) pr) b78 (Int32.toNatClampNeg (nI st + 1)) (ji (jput (jput (jput S67 b63 (Int32.toNatClampNeg (nI st + 1)) ((r65 &&& (r68 ^^^ (-1))) ||| (jshl 1 gt))) b72 (Int32.toNatClampNeg (nI st + 1)) (ar + r56)) b75 (Int32.toNatClampNeg (nI st + 1)) pr) b78 (Int32.toNatClampNeg (nI st)))) b83 (Int32.toNatClampNeg gt) (ar + r56)) (fun S87 => jk S87 (x + 52) = 5 ∧ ∃ b89, jr S87 (x + 52) 5 = some b89 ∧ (jk S87 b89 = 12 ∧ vp_in gt (jl S87 b89) ∧ (Q (jput S87 b89 (Int32.toNatClampNeg gt) y86)))))))))))))))))))))) ∧ (¬ (ar + r56) ≤ (ji S55 (x + 52) 9) → Q S55)))) := by
  subst ha
  obtain ⟨e, rfl⟩ : ∃ e, D = e + 4 := ⟨D - 4, by omega⟩
  rw [nI_1]
  have hX := h.1.1
  have k2 := hX.mk hj
  have hs := h.2.1.2.2.1
  refine c_X2_teaches (d := e + 3) k2 ⟨fun _ => hq S jse.rfl, fun _ => ⟨hs.1, c_X5_daysTaken h hj (fun r S1 p1 => ?_)⟩⟩
  have h1 := h.se p1
  have s1 := h1.2.1.2.2.1
  have l1 : ∀ k, k < 5 → ∀ i, i < 5 → vp_in (nI i) (jl S1 (x + 52 + 1 + k)) := fun k hk i hi => by rw [s1.2.2.1 k hk]; exact jin_nI hi (by omega)
  have l10 : vp_in gt (jl S1 (x + 52 + 1 + 5)) := by rw [show x + 52 + 1 + 5 = x + 52 + 6 by omega, s1.2.2.2.1]; exact hgt
  refine ⟨s1.1, fun _ => ⟨_, (s1.2.1 0 (by omega)).1, h1.1.1.mk hj, (s1.2.1 0 (by omega)).2, l1 0 (by omega) _ (by omega), _, (s1.2.1 1 (by omega)).1, c_X5_keptOf s1 (fun r2 => ⟨h1.1.1.mk hj, c_X2_unlearnt (h1.1.1.mk hj) ⟨(s1.2.1 1 (by omega)).2, l1 1 (by omega) _ (by omega), s1.1, _, (s1.2.1 2 (by omega)).1, (s1.2.1 2 (by omega)).2, l1 2 (by omega) _ (by omega), _, (s1.2.1 3 (by omega)).1, (s1.2.1 3 (by omega)).2, l1 3 (by omega) _ (by omega), _, (s1.2.1 4 (by omega)).1, fun _ => ⟨(s1.2.1 4 (by omega)).2, l1 4 (by omega) _ (by omega), _, (s1.2.1 5 (by omega)).1, (s1.2.1 5 (by omega)).2, l10, fun y _ => ?_⟩, fun _ => ⟨(s1.2.1 4 (by omega)).2, l1 4 (by omega) _ (by omega), l1 4 (by omega) _ (by omega), _, (s1.2.1 5 (by omega)).1, (s1.2.1 5 (by omega)).2, l10, fun y _ => ?_⟩⟩⟩)⟩, fun _ => hq S1 p1⟩
  all_goals
    have pp : ∀ {S0 : jM} {y j : Nat} {w : Int32}, jse S S0 x → x + 52 ≤ y → y < x + 60 → jse S (jput S0 y j w) x := fun p a b => p.trans (jse.put a b)
    refine G _ ?_ _ (fun S3 p3 => ?_)
    · exact pp (pp (pp (pp (pp (pp p1 (by omega) (by omega)) (by omega) (by omega)) (by omega) (by omega)) (by omega) (by omega)) (by omega) (by omega)) (by omega) (by omega)
    · have q3 := (pp (pp (pp (pp (pp (pp p1 (by omega) (by omega)) (by omega) (by omega)) (by omega) (by omega)) (by omega) (by omega)) (by omega) (by omega)) (by omega) (by omega)).trans p3
      have s3 := (h.se q3).2.1.2.2.1
      exact ⟨s3.1, _, (s3.2.1 5 (by omega)).1, (s3.2.1 5 (by omega)).2, by rw [show x + 52 + 1 + 5 = x + 52 + 6 by omega, s3.2.2.2.1]; exact hgt, hq _ (q3.trans (jse.put (by omega) (by omega)))⟩
theorem c_X5_tryMaster {Q : jM → Prop} {D st j : Nat} {x3 : Int32} (h : IV S x sz M v) (hD : 4 ≤ D) (hj : j < 9) (hst : st < 5) (G : st + 1 < 5 → ∀ S', jse S S' x → ∀ Q' : jM → Prop, (∀ S'', jse S' S'' x → Q' S'') → jFv E mX5_goOn D 0 0 [.ref (x + 52), .ref (x + 1), .int (nI (st + 1))] S' Q') (hq : ∀ S', jse S S' x → Q S') : jFv E mX5_tryMaster (D + 1) 0 0 [.ref (x + 52), .ref (x + 1), .int (nI st), .int x3, .ref (x + 2 + 2 + j)] S Q := by
  have hX := h.1.1
  have k2 := hX.mk hj
  have hs := h.2.1.2.2.1
  have l1 : ∀ k, k < 5 → vp_in (nI st) (jl S (x + 52 + 1 + k)) := fun k hk => by rw [hs.2.2.1 k hk]; exact jin_nI hst (by omega)
  refine T_X5_tryMaster ⟨k2, fun _ => hq S jse.rfl, fun _ => ⟨fun _ => hq S jse.rfl, fun c1 => ⟨fun _ => hq S jse.rfl, fun c2 => ⟨hX.k3, _, hX.r1, hs.1, _, (hs.2.1 0 (by omega)).1, (hs.2.1 0 (by omega)).2, l1 0 (by omega), hX.q.1.1, ?_⟩⟩⟩⟩
  have hst1 : st + 1 < 5 := by
    rw [nI_1] at c1
    rcases jwi_cases (nI (st + 1)) (b := 5) 5 _root_.rfl (by omega) with ⟨i, hi, e, -⟩ | ⟨-, e⟩
    · have := nI_inj (by omega) (by omega) e
      omega
    · exact absurd e c1
  have hgt : vp_in (ji S (x + 2 + 2 + j) 2) 10 := jwi_in (n := 10) (by omega) c2
  obtain ⟨e, rfl⟩ : ∃ e, D = e + 4 := ⟨D - 4, by omega⟩
  have few : ∀ (w u : Int32) (Q' : Int32 → jM → Prop), (∀ r, Q' r S) → jFi E mX4_fewest (e + 4) 0 0 [.ref (x + 13), .int w, .int u] S Q' := by
    intro w u Q' q
    refine T_X4_fewest ⟨fun _ => q _, fun c => ⟨fun _ => q _, fun c3 => ?_⟩⟩
    rcases jwi_cases w (b := 6) 6 _root_.rfl (by omega) with ⟨a, ha, ea, -⟩ | ⟨-, ea⟩
    · rcases jwi_cases u (b := 6) 6 _root_.rfl (by omega) with ⟨b, hb, eb, -⟩ | ⟨-, eb⟩
      · have hh : jFi E mX4_fewest (e + 4) 0 0 [.ref (x + 13), .int (nI a), .int (nI b)] S Q' := c_X4_fewest hX.q ha hb (q _)
        obtain ⟨z1, z2, z3, z4, z5, z6, z7⟩ := hX.q.1
        refine ⟨z1, _, z3, z6, ?_, q _⟩
        rw [z7, ea, eb, show (6 : Int32) = nI 6 from _root_.rfl, nI_mul, nI_add]; exact jin_nI (by omega) (by omega)
      · exact absurd eb c3
    · exact absurd ea c
  refine few _ _ _ (fun r => ⟨hs.1, _, (hs.2.1 2 (by omega)).1, (hs.2.1 2 (by omega)).2, l1 2 (by omega), hX.k3, _, hX.r2, hX.l.1.1, fun _ => ⟨_, (hs.2.1 1 (by omega)).1, (hs.2.1 1 (by omega)).2, l1 1 (by omega), _, (hs.2.1 3 (by omega)).1, (hs.2.1 3 (by omega)).2, l1 3 (by omega), k2, fun _ => ⟨fun _ => hq S jse.rfl, fun _ => ⟨fun _ => hq S jse.rfl, fun _ => ⟨fun _ => ?_, fun _ => hq S jse.rfl⟩⟩⟩, fun _ => hq S jse.rfl⟩, fun _ => ⟨_, (hs.2.1 1 (by omega)).1, (hs.2.1 1 (by omega)).2, l1 1 (by omega), c_X5_keptOf hs (fun r2 => ⟨hs.1, _, (hs.2.1 3 (by omega)).1, (hs.2.1 3 (by omega)).2, l1 3 (by omega), k2, fun _ => ⟨fun _ => hq S jse.rfl, fun _ => ⟨hX.k3, _, hX.r2, hX.l.1.1, fun _ => hq S jse.rfl, fun _ => ⟨fun _ => ?_, fun _ => hq S jse.rfl⟩⟩⟩, fun _ => hq S jse.rfl⟩)⟩⟩)
  · exact t_X5_try h (by omega) hj _root_.rfl hst1 hgt (G hst1) hq
  · exact t_X5_try h (by omega) hj _root_.rfl hst1 hgt (G hst1) hq
theorem c_X5_goOn : ∀ (c st D : Nat) (S : jM) (Q : jM → Prop), st + c = 5 → 6 + 2 * c ≤ D → IV S x sz M v → (∀ S', jse S S' x → Q S') → jFv E mX5_goOn D 0 0 [.ref (x + 52), .ref (x + 1), .int (nI st)] S Q := by
  intro c
  induction c with
  | zero =>
    intro st D S Q hst hD h hq
    obtain rfl : st = 5 := by omega
    obtain ⟨e, rfl⟩ : ∃ e, D = e + 1 := ⟨D - 1, by omega⟩
    exact T_X5_goOn ⟨fun _ => hq S jse.rfl, fun cc => absurd (by decide) cc⟩
  | succ c ih =>
    intro st D S Q hst hD h hq
    obtain ⟨e, rfl⟩ : ∃ e, D = e + 1 + 1 := ⟨D - 2, by omega⟩
    have hX := h.1.1
    have hz := hX.sz9
    have hs := h.2.1.2.2.1
    have loop : ∀ (n i : Nat) (x3 x4 : Int32) (S1 : jM), i + n = sz → jse S S1 x → L_X5_goOn_63 E (e + 1) Q (x + 52) (x + 1) (nI st) x3 x4 (nI i) S1 := by
      intro n
      induction n with
      | zero =>
        intro i x3 x4 S1 hi p1
        obtain rfl : i = sz := by omega
        have hX1 := (h.se p1).1.1
        refine T_X5_goOn_63 ⟨hX1.k3, _, hX1.r0, hX1.g.1.1, ?_⟩
        rw [hX1.g.2.1]
        exact ⟨fun _ => hq S1 p1, fun cc => absurd Int32.le_rfl cc⟩
      | succ n ihn =>
        intro i x3 x4 S1 hi p1
        have h1 := h.se p1
        have hX1 := h1.1.1
        refine T_X5_goOn_63 ⟨hX1.k3, _, hX1.r0, hX1.g.1.1, ?_⟩
        rw [hX1.g.2.1]
        refine ⟨fun cc => absurd cc (nI_ge (by omega) (by omega)), fun _ => c_X0_findAt hX1.g.1 hX1.g.2.1 hz (by omega) ⟨fun cc => absurd cc (by simp), fun b eb => ?_⟩⟩
        obtain rfl : x + 2 + 2 + i = b := Option.some.inj eb
        rw [nI_1]
        have tr : ∀ y : Int32, jFv E mX5_tryMaster (e + 1) 0 0 [.ref (x + 52), .ref (x + 1), .int (nI st), .int y, .ref (x + 2 + 2 + i)] S1 (fun S25 => L_X5_goOn_63 E (e + 1) Q (x + 52) (x + 1) (nI st) x3 x4 (nI (i + 1)) S25) := fun y =>
          c_X5_tryMaster h1 (by omega) (by omega) (by omega) (fun hst1 S2 p2 Q' q' => ih (st + 1) e S2 Q' (by omega) (by omega) (h1.se p2) q') (fun S2 p2 => ihn (i + 1) x3 x4 S2 (by omega) (p1.trans p2))
        exact ⟨fun _ => ⟨(h1.2.1.2.2.1).1, tr _⟩, fun _ => ⟨hX1.mk (by omega), fun _ => ihn (i + 1) x3 x4 S1 (by omega) p1, fun _ => ⟨(h1.2.1.2.2.1).1, tr _⟩⟩⟩
    refine T_X5_goOn ⟨fun _ => hq S jse.rfl, fun _ => ⟨hs.1, _, (hs.2.1 1 (by omega)).1, (hs.2.1 1 (by omega)).2, by rw [hs.2.2.1 1 (by omega)]; exact jin_nI (by omega) (by omega), fun _ => c_X5_offer hs (fun S' p => hq S' p), fun _ => ⟨fun _ => hq S jse.rfl, fun _ => ⟨fun _ => loop sz 0 _ _ S (by omega) jse.rfl, fun _ => hq S jse.rfl⟩⟩⟩⟩
end jSoon1
end
section
/-! SOONEST: the reference counts all ways through -/
theorem jcl9999 (y : Int32) : ∃ k, k < 10000 ∧ jclamp y 0 9999 = nI k := by
  rw [show jclamp y 0 9999 = (if 0 ≤ y then (if y ≤ 9999 then y else 9999) else 0) from rfl]
  by_cases h1 : (0 : Int32) ≤ y
  · rw [if_pos h1]
    by_cases h2 : y ≤ 9999
    · rw [if_pos h2]
      have hlt : y < nI 10000 := Int32.lt_of_le_of_lt h2 (by decide)
      obtain ⟨j, hj, e⟩ := jofI (x := y) (n := 10000) (by omega) h1 hlt
      exact ⟨j, hj, e⟩
    · rw [if_neg h2]; exact ⟨9999, by omega, rfl⟩
  · rw [if_neg h1]; exact ⟨0, by omega, rfl⟩
/-- what the reference changes on its ways -/
def gwf (S S' : jM) (x : Nat) : Prop := jsame S S' ∧ (∀ y, y ≠ x + 94 → y ≠ x + 95 → (y < x + 110 ∨ x + 112 ≤ y) → ji S' y = ji S y) ∧ ∀ j, (j < 15 ∨ 18 ≤ j) → ji S' (x + 94) j = ji S (x + 94) j
/-- and in all -/
def gsf (S S' : jM) (x : Nat) : Prop := jsame S S' ∧ (∀ y, y ≠ x + 94 → y ≠ x + 95 → (y < x + 106 ∨ x + 109 ≤ y) → (y < x + 110 ∨ x + 112 ≤ y) → ji S' y = ji S y) ∧ ∀ j, (j < 15 ∨ 18 ≤ j) → ji S' (x + 94) j = ji S (x + 94) j
section jSoon2
variable {E : jEnv} {d : Nat} {S S' : jM} {x sz M : Nat} {v : Nat → Int32}
theorem Rg.day2 {n : Int32} (hg : Rg sz v) : Rg sz (vday n v) := by
  intro j hj hr
  obtain ⟨a1, a2, a3, a4⟩ := vday_at n v
  by_cases j2 : j = 2
  · subst j2
    rw [a1]; exact jcl9999 _
  · by_cases j4 : j = 4
    · subst j4; rw [a2]; exact pfold_kn 10 0 _ hg.kn
    · by_cases jr : j < 26 ∨ 36 ≤ j
      · rw [a4 j j2 j4 jr]; exact hg j hj hr
      · exfalso
        have := rgb_from (j - 16) (by omega)
        rw [show 16 + (j - 16) = j by omega] at this
        exact hr this
theorem gwf.rfl : gwf S S x := ⟨jsame.rfl, fun _ _ _ _ => _root_.rfl, fun _ _ => _root_.rfl⟩
theorem gwf.trans {S1 S2 : jM} (h1 : gwf S S1 x) (h2 : gwf S1 S2 x) : gwf S S2 x := ⟨h1.1.trans h2.1, fun y a b c => (h2.2.1 y a b c).trans (h1.2.1 y a b c), fun j hj => (h2.2.2 j hj).trans (h1.2.2 j hj)⟩
theorem gsf.rfl : gsf S S x := ⟨jsame.rfl, fun _ _ _ _ _ => _root_.rfl, fun _ _ => _root_.rfl⟩
theorem gsf.trans {S1 S2 : jM} (h1 : gsf S S1 x) (h2 : gsf S1 S2 x) : gsf S S2 x := ⟨h1.1.trans h2.1, fun y a b c e => (h2.2.1 y a b c e).trans (h1.2.1 y a b c e), fun j hj => (h2.2.2 j hj).trans (h1.2.2 j hj)⟩
theorem gwf.sf (h : gwf S S' x) : gsf S S' x := ⟨h.1, fun y a b _ e => h.2.1 y a b e, h.2.2⟩
theorem gwf.row (h : jch S S' (x + 95) (x + 96)) : gwf S S' x := ⟨h.1, fun y _ b _ => h.2 y (by omega), fun j _ => by rw [h.2 _ (by omega)]⟩
theorem gsf.way (h : jch S S' (x + 106) (x + 109)) : gsf S S' x := ⟨h.1, fun y _ _ b _ => h.2 y (by omega), fun j _ => by rw [h.2 _ (by omega)]⟩
theorem gwf.fld {j : Nat} {w : Int32} (h1 : 15 ≤ j) (h2 : j < 18) : gwf S (jput S (x + 94) j w) x := ⟨⟨_root_.rfl, _root_.rfl, _root_.rfl, _root_.rfl⟩, fun y a _ _ => ji_put_ne _ _ _ _ a, fun k hk => by rw [ji_put, if_neg (by omega)]⟩
theorem MR.fld {j : Nat} {w : Int32} {u : Nat → Int32} (h : MR S (x + 94) u) : MR (jput S (x + 94) j w) (x + 94) u := ⟨h.1, fun k => by rw [ji_put_ne _ _ _ _ (by omega)]; exact h.2 k⟩
theorem ML.r12 (h : ML S (x + 94)) : jr S (x + 94) 12 = some (x + 106) ∧ jk S (x + 106) = 12 ∧ jl S (x + 106) = 36 := h.row 11 36 (f := 12) _root_.rfl
theorem ML.r13 (h : ML S (x + 94)) : jr S (x + 94) 13 = some (x + 107) ∧ jk S (x + 107) = 12 ∧ jl S (x + 107) = 135 := h.row 12 135 (f := 13) _root_.rfl
theorem ML.r14 (h : ML S (x + 94)) : jr S (x + 94) 14 = some (x + 108) ∧ jk S (x + 108) = 12 ∧ jl S (x + 108) = 4 := h.row 13 4 (f := 14) _root_.rfl
/-- one way is gone -/
theorem l_X11_goesWay {Q : Int32 → jM → Prop} {S0 : jM} {wy : Nat → Nat} (hT : TXS S0 x (x + 20) M v) (hv0 : v 0 = nI sz) (hz : sz ≤ 9) (hwy : ∀ i, i < 4 → wy i < sz ∧ ji S0 (x + 108) i = nI (wy i))
    (hq : ∀ i, i < 4 → ∀ S' u, gwf S0 S' x → MR S' (x + 94) u → (∀ j, 135 ≤ j → u j = v j) → Q (nI i) S') : ∀ (c i : Nat) (u : Nat → Int32) (x1 : Int32) (S1 : jM), i + c = 4 → gwf S0 S1 x → MR S1 (x + 94) u → Rg sz u → (∀ j, (j < 2 ∨ 36 ≤ j) → u j = v j) → L_X11_goesWay_4 E (d + 3) Q (x + 94) x1 (nI i) S1 := by
  intro c
  induction c with
  | zero =>
    intro i u x1 S1 hi g1 h1 r1 a1
    obtain rfl : i = 4 := by omega
    exact T_X11_goesWay_4 ⟨fun _ => hq 3 (by omega) S1 u g1 h1 (fun j hj => a1 j (by omega)), fun cc => absurd (by decide) cc⟩
  | succ c ih =>
    intro i u x1 S1 hi g1 h1 r1 a1
    have i4 : i < 4 := by omega
    have au : ∀ j, 135 ≤ j → u j = v j := fun j hj => a1 j (by omega)
    have m1 := h1.1
    obtain ⟨ws, ew⟩ := hwy i i4
    have w9 : wy i < 9 := by omega
    have ew1 : ji S1 (x + 108) i = nI (wy i) := by rw [g1.2.1 _ (by omega) (by omega) (by omega)]; exact ew
    have t3 := h1.at (i := 3) 3 rfl (by omega)
    obtain ⟨at_, hat, eat⟩ := r1.at_
    obtain ⟨tw, htw, etw⟩ := r1.tw w9
    refine T_X11_goesWay_4 ⟨fun cc => absurd cc (nI_ge (b := 4) (by omega) (by omega)), fun _ => ⟨m1.1, _, m1.r14.1, m1.r14.2.1, by rw [m1.r14.2.2]; exact jin_nI i4 (by omega), _, m1.r12.1, _, h1.r, h1.k1, t3.1, ?_⟩⟩
    rw [jcl (n := i) (by omega), ew1, t3.2, eat]
    refine c_X11_of (f := 1) h1 w9 (by omega) ⟨m1.r12.2.1, ?_, ?_⟩
    · rw [etw, show (6 : Int32) = nI 6 from rfl, nI_mul, nI_add, m1.r12.2.2]; exact jin_nI (by omega) (by omega)
    generalize ji S1 (x + 106) (Int32.toNatClampNeg (6 * nI at_ + mfv u (wy i) 1)) = road
    refine ⟨fun _ => hq i i4 S1 u g1 h1 au, fun _ => ⟨h1.k, c_X11_goesBy h1 r1 (fun S2 c2 h2 => ⟨h2.k, _, h2.r, ?_⟩)⟩⟩
    have r2 : Rg sz (vday road u) := r1.day2
    have a2 : ∀ j, (j < 2 ∨ 36 ≤ j) → vday road u j = v j := fun j hj => ((vday_at road u).2.2.2 j (by omega) (by omega) (by omega)).trans (a1 j hj)
    have g2 := g1.trans (gwf.row c2)
    have em2 : mfv (vday road u) (wy i) 1 = mfv u (wy i) 1 := mfv_o (fun j hj => vday_m _ _ j (by omega))
    refine c_X11_of (f := 1) h2 w9 (by omega) ⟨h2.k1, (h2.at (i := 3) 3 rfl (by omega)).1, h2.k, ?_⟩
    rw [em2]
    have h3 := h2.puts (i := 3) (w := mfv u (wy i) 1) 3 rfl (by omega)
    have c3 : jch S2 (jput S2 (x + 94 + 1) (Int32.toNatClampNeg 3) (mfv u (wy i) 1)) (x + 95) (x + 96) := jch.put (by omega) (by omega)
    have r3 : Rg sz (upd (vday road u) 3 (mfv u (wy i) 1)) := r2.put (fun _ => ⟨tw, htw, etw⟩)
    have a3 : ∀ j, (j < 2 ∨ 36 ≤ j) → upd (vday road u) 3 (mfv u (wy i) 1) j = v j := fun j hj => by rw [upd_ne _ (by omega)]; exact a2 j hj
    have g3 := g2.trans (gwf.row c3)
    generalize jput S2 (x + 94 + 1) (Int32.toNatClampNeg 3) (mfv u (wy i) 1) = S3 at h3 c3 g3 ⊢
    generalize upd (vday road u) 3 (mfv u (wy i) 1) = u3 at h3 r3 a3
    refine c_X11_canLearn h3 r3 w9 ⟨fun _ => hq i i4 S3 u3 g3 h3 (fun j hj => a3 j (by omega)), fun cc => ⟨h3.k, ?_⟩⟩
    obtain ⟨kd, hkd, ekd⟩ := r3.kd w9
    obtain ⟨g, hg10, eg⟩ := r3.ge w9
    obtain ⟨ag, hag, eag⟩ := r3.ag w9
    obtain ⟨fe, hfe, efe⟩ := r3.fe w9
    obtain ⟨kk, hkk, ekk⟩ := r3.kn
    obtain ⟨co, hco, eco⟩ := r3 5 (by omega) (by decide)
    have hfee : ∃ k, k < 10000 ∧ u3 5 - mfv u3 (wy i) 4 = nI k := by
      have hf := jcan_fee cc
      rw [eco, efe] at hf ⊢
      exact jfee hco hf hfe
    have hT3 : TXS S3 x (x + 20) M u3 := hT.same g3.1 (fun y p _ => g3.2.1 y (by omega) (by omega) (by omega)) (fun j hj _ => a3 j (by omega))
    obtain ⟨o, hL⟩ := LWD_ex (key := 0) (by omega) hT3
    obtain ⟨⟨c9, hc9⟩, ec9⟩ := jmany_le ⟨kk, hkk⟩
    have em : jmany (u3 4) = nI c9 := by rw [ekk]; exact ec9
    have tb := tdays_le (kd := kd) (ag := ag) (j := jcl99 (lwv o (3 + nI c9) (nI c9) (nI g) (nI ag))) hag (jcl99_is _).2.1
    refine c_X11_learns (o := o) h3 r3 hL w9 ekd eg eag hkd hag hg10 (by omega) em rfl hfee (fun S4 f4 o4 h4 y _ => ⟨h4.k, ?_⟩)
    have r4 : Rg sz (vle u3 (wy i) g (nI (tkd o c9 kd g ag))) := r3.le w9 hg10 (b := tkd o c9 kd g ag) rfl (Nat.lt_of_le_of_lt tb (by omega)) hfee
    have a4 : ∀ j, (j < 2 ∨ 36 ≤ j) → vle u3 (wy i) g (nI (tkd o c9 kd g ag)) j = v j := fun j hj => (vle_o hg10 (by omega)).trans (a3 j hj)
    have g4 : gwf S0 S4 x := g3.trans ⟨f4.1, fun z z1 z2 z3 => o4 z (by omega) (by omega) (by omega), fun j _ => by rw [o4 (x + 94) (by omega) (by omega) (by omega)]⟩
    generalize vle u3 (wy i) g (nI (tkd o c9 kd g ag)) = u4 at h4 r4 a4
    obtain ⟨wi, hwi, ewi⟩ := r4.wi
    refine c_X11_can h4 r4 hwi ewi ⟨fun _ => ?_, fun _ => ?_⟩
    · rw [nI_1]
      exact ih (i + 1) u4 _ S4 (by omega) g4 h4 r4 a4
    · have m4 := h4.1
      have i5 : vp_in 5 (jl S4 (x + 107)) := by rw [m4.r13.2.2]; exact jin_nI (n := 5) (by omega) (by omega)
      have j5 := (h4.at (i := 5) 5 rfl (by omega)).1
      have i0 : vp_in 0 (jl S4 (x + 108)) := by rw [m4.r14.2.2]; exact jin_nI (n := 0) (by omega) (by omega)
      have fin : ∀ a b c : Int32, Q (nI i) (jput (jput (jput S4 (x + 94) 15 a) (x + 94) 16 b) (x + 94) 17 c) := fun a b c =>
        hq i i4 _ u4 (((g4.trans (gwf.fld (by omega) (by omega))).trans (gwf.fld (by omega) (by omega))).trans (gwf.fld (by omega) (by omega))) ((h4.fld).fld).fld (fun j hj => a4 j (by omega))
      exact ⟨m4.1, _, m4.r13.1, m4.r13.2.1, i5, _, h4.r, h4.k1, j5, fun _ => ⟨_, m4.r14.1, m4.r14.2.1, i0, fin _ _ _⟩, fun _ => ⟨fun _ => ⟨_, m4.r14.1, m4.r14.2.1, i0, fin _ _ _⟩, fun _ => ⟨fun _ => ⟨fun _ => ⟨_, m4.r14.1, m4.r14.2.1, i0, fin _ _ _⟩, fun _ => ⟨fun _ => ⟨_, m4.r14.1, m4.r14.2.1, i0, fun _ => fin _ _ _, fun _ => fin _ _ _⟩, fun _ => fin _ _ _⟩⟩, fun _ => fin _ _ _⟩⟩⟩
end jSoon2
end
section
/-! SOONEST: both come to an end, and leave the two sides alike -/
/-- a row of ways as one number: it grows from way to way -/
def wval (wy : Nat → Nat) : Nat := wy 0 * 1000 + wy 1 * 100 + wy 2 * 10 + wy 3
set_option maxRecDepth 100000 in
theorem wv_c1 {N a b c d n : Nat} (h : N ≤ a * 1000 + b * 100 + c * 10 + d + n) (hb : b ≤ 9) : N ≤ (a + 1) * 1000 + 0 * 100 + c * 10 + d + n := by
  have e : (a + 1) * 1000 = a * 1000 + 1000 := Nat.succ_mul a 1000
  rw [e]; simp only [Nat.zero_mul]
  omega
set_option maxRecDepth 100000 in
theorem wv_c2 {N a b c d n : Nat} (h : N ≤ a * 1000 + b * 100 + c * 10 + d + n) (hb : c ≤ 9) : N ≤ a * 1000 + (b + 1) * 100 + 0 * 10 + d + n := by
  have e : (b + 1) * 100 = b * 100 + 100 := Nat.succ_mul b 100
  rw [e]; simp only [Nat.zero_mul]
  omega
set_option maxRecDepth 100000 in
theorem wv_c3 {N a b c d n : Nat} (h : N ≤ a * 1000 + b * 100 + c * 10 + d + n) (hb : d ≤ 9) : N ≤ a * 1000 + b * 100 + (c + 1) * 10 + 0 + n := by
  have e : (c + 1) * 10 = c * 10 + 10 := Nat.succ_mul c 10
  rw [e]
  omega
set_option maxRecDepth 100000 in
theorem wv_0 {N a b c d n : Nat} (h : N ≤ a * 1000 + b * 100 + c * 10 + d + (n + 1)) (hb : b ≤ 8) (hc : c ≤ 8) (hd : d ≤ 8) : N ≤ (a + 1) * 1000 + 0 * 100 + 0 * 10 + 0 + n := by
  have e : (a + 1) * 1000 = a * 1000 + 1000 := Nat.succ_mul a 1000
  rw [e]; simp only [Nat.zero_mul]
  omega
set_option maxRecDepth 100000 in
theorem wv_1 {N a b c d n : Nat} (h : N ≤ a * 1000 + b * 100 + c * 10 + d + (n + 1)) (hc : c ≤ 8) (hd : d ≤ 8) : N ≤ a * 1000 + (b + 1) * 100 + 0 * 10 + 0 + n := by
  have e : (b + 1) * 100 = b * 100 + 100 := Nat.succ_mul b 100
  rw [e]; simp only [Nat.zero_mul]
  omega
set_option maxRecDepth 100000 in
theorem wv_2 {N a b c d n : Nat} (h : N ≤ a * 1000 + b * 100 + c * 10 + d + (n + 1)) (hd : d ≤ 8) : N ≤ a * 1000 + b * 100 + (c + 1) * 10 + 0 + n := by
  have e : (c + 1) * 10 = c * 10 + 10 := Nat.succ_mul c 10
  rw [e]
  omega
set_option maxRecDepth 100000 in
theorem wv_3 {N a b c d n : Nat} (h : N ≤ a * 1000 + b * 100 + c * 10 + d + (n + 1)) : N ≤ a * 1000 + b * 100 + c * 10 + (d + 1) + n := by omega
section jSoon3
variable {E : jEnv} {d : Nat} {S S' : jM} {x sz M : Nat} {v : Nat → Int32}
def updN (f : Nat → Nat) (n w : Nat) : Nat → Nat := fun j => if j = n then w else f j
theorem updN_at (f : Nat → Nat) (n w : Nat) : updN f n w n = w := by unfold updN; rw [if_pos rfl]
theorem updN_ne (f : Nat → Nat) {n j : Nat} (w : Nat) (h : j ≠ n) : updN f n w j = f j := by unfold updN; rw [if_neg h]
/-- what holds on the reference's side between two ways -/
def WY (S S1 : jM) (x : Nat) (v : Nat → Int32) (wy : Nat → Nat) : Prop := gsf S S1 x ∧ MR S1 (x + 94) v ∧ (∀ j, j < 135 → ji S1 (x + 107) j = v j) ∧ ∀ i, i < 4 → ji S1 (x + 108) i = nI (wy i)
theorem WY.put {S1 : jM} {wy : Nat → Nat} {i w : Nat} (h : WY S S1 x v wy) (hi : i < 4) : WY S (jput S1 (x + 108) i (nI w)) x v (updN wy i w) := by
  obtain ⟨h1, h2, h3, h4⟩ := h
  have c : jch S1 (jput S1 (x + 108) i (nI w)) (x + 108) (x + 109) := jch.put (by omega) (by omega)
  refine ⟨h1.trans (gsf.way (jch.put (by omega) (by omega))), h2.keep c (by omega), fun j hj => by rw [c.2 _ (by omega)]; exact h3 j hj, fun j hj => ?_⟩
  rw [ji_put]
  by_cases e : j = i
  · rw [if_pos ⟨rfl, e⟩, e, updN_at]
  · rw [if_neg (fun q => e q.2), updN_ne _ _ e]; exact h4 j hj
theorem WY.cong {S1 : jM} {wy wy' : Nat → Nat} (h : WY S S1 x v wy) (he : ∀ i, i < 4 → wy' i = wy i) : WY S S1 x v wy' := ⟨h.1, h.2.1, h.2.2.1, fun i hi => by rw [he i hi]; exact h.2.2.2 i hi⟩
theorem c_X11_findSoonest {Q : jM → Prop} (hM : MR S (x + 94) v) (hg : Rg sz v) (hT : TXS S x (x + 20) M v) (hv0 : v 0 = nI sz) (hz : sz ≤ 9) (hq : ∀ S', gsf S S' x → MR S' (x + 94) v → Q S') : jFv E mX11_findSoonest (d + 5) 0 0 [.ref (x + 94)] S Q := by
  have main : ∀ (n : Nat) (S1 : jM) (wy : Nat → Nat), 10000 ≤ wval wy + n → WY S S1 x v wy → wy 0 ≤ sz → (∀ j, 1 ≤ j → j < 4 → wy j < sz ∨ wy j = 0) → L_X11_findSoonest_33 E (d + 4) Q (x + 94) S1 := by
    intro n
    induction n with
    | zero =>
      intro S1 wy hn h1 h0 hd
      exfalso
      unfold wval at hn
      have := hd 1 (by omega) (by omega)
      have := hd 2 (by omega) (by omega)
      have := hd 3 (by omega) (by omega)
      omega
    | succ n ih =>
      intro S1 wy hn h1 h0 hd
      obtain ⟨g1, m1, cl1, w1⟩ := id h1
      have i0 := m1.at (i := 0) 0 rfl (by omega)
      have l1 := m1.1
      have j0 : vp_in 0 (jl S1 (x + 108)) := by rw [l1.r14.2.2]; exact jin_nI (n := 0) (by omega) (by omega)
      refine T_X11_findSoonest_33 ⟨m1.k, _, m1.r, m1.k1, i0.1, ?_⟩
      rw [i0.2, hv0]
      refine ⟨fun _ => hq S1 g1 m1, fun c0 => ⟨_, l1.r14.1, l1.r14.2.1, j0, ?_⟩⟩
      have s0 : 0 < sz := by
        rcases Nat.eq_zero_or_pos sz with e | e
        · rw [e] at c0; exact absurd (by decide) c0
        · exact e
      have ej0 : ji S1 (x + 108) (Int32.toNatClampNeg 0) = nI (wy 0) := w1 0 (by omega)
      rw [ej0]
      refine ⟨fun _ => hq S1 g1 m1, fun c1 => T_X11_goesWay ?_⟩
      have hlt : wy 0 < sz := by
        rcases Nat.lt_or_ge (wy 0) sz with q | q
        · exact q
        · exact absurd (nI_le q (by omega)) c1
      have hall : ∀ j, j < 4 → wy j < sz := fun j hj => by
        rcases Nat.eq_zero_or_pos j with e | e
        · rw [e]; exact hlt
        · rcases hd j e hj with q | q
          · exact q
          · rw [q]; exact s0
      have hT1 : TXS S1 x (x + 20) M v := hT.same g1.1 (fun y p _ => g1.2.1 y (by omega) (by omega) (by omega) (by omega)) (fun _ _ _ => rfl)
      -- the carry
      have carry : ∀ (i : Nat) (S2 : jM) (wz : Nat → Nat), i < 4 → WY S S2 x v wz → (∀ j, j < i → wz j < sz) → (∀ j, i < j → j < 4 → wz j < sz) → wz i ≤ sz → 10000 ≤ wval wz + n → L_X11_findSoonest_100 E (d + 4) Q (x + 94) (nI i) S2 := by
        intro i
        induction i with
        | zero =>
          intro S2 wz _ h2 _ b2 b3 b4
          exact T_X11_findSoonest_100 ⟨fun _ => ih S2 wz b4 h2 b3 (fun j p q => Or.inl (b2 j (by omega) q)), fun cc => absurd (by decide) cc⟩
        | succ i ihi =>
          intro S2 wz hi4 h2 b1 b2 b3 b4
          obtain ⟨g2, m2, cl2, w2⟩ := id h2
          have l2 := m2.1
          have k0 := m2.at (i := 0) 0 rfl (by omega)
          have e1 : nI (i + 1) - 1 = nI i := nI_pred i
          have e2 : nI (i + 1) + (-1) = nI i := by rw [← nI_pred i]; exact (Int32.sub_eq_add_neg _ _).symm
          refine T_X11_findSoonest_100 ⟨fun cc => absurd cc (nI_ge (a := 0) (b := i + 1) (by omega) (by omega)), fun _ => ⟨m2.k, _, l2.r14.1, l2.r14.2.1, by rw [l2.r14.2.2]; exact jin_nI hi4 (by omega), _, m2.r, m2.k1, k0.1, ?_⟩⟩
          rw [jcl (n := i + 1) (by omega), w2 (i + 1) hi4, k0.2, hv0]
          refine ⟨fun ce => ⟨by rw [e1, l2.r14.2.2]; exact jin_nI (by omega) (by omega), ?_⟩, fun ce => ?_⟩
          · have ez : wz (i + 1) = sz := nI_inj (by omega) (by omega) ce
            rw [e1, e2, jcl (n := i) (by omega), ji_put, if_neg (by omega), w2 i (by omega), nI_1]
            have h3 := (h2.put (i := i + 1) (w := 0) hi4).put (i := i) (w := wz i + 1) (by omega)
            have bi := b1 i (by omega)
            refine ihi _ _ (by omega) h3 (fun j hj => ?_) (fun j p q => ?_) ?_ ?_
            · rw [updN_ne _ _ (by omega), updN_ne _ _ (by omega)]; exact b1 j (by omega)
            · rw [updN_ne _ _ (by omega)]
              by_cases ej : j = i + 1
              · rw [ej, updN_at]; omega
              · rw [updN_ne _ _ ej]; exact b2 j (by omega) q
            · rw [updN_at]; omega
            · have hi3 : i = 0 ∨ i = 1 ∨ i = 2 := by omega
              unfold wval at b4 ⊢
              rcases hi3 with rfl | rfl | rfl
              · rw [updN_at, updN_ne _ _ (by omega), updN_at, updN_ne _ _ (by omega), updN_ne _ _ (by omega), updN_ne _ _ (by omega), updN_ne _ _ (by omega)]
                have ez1 : wz 1 = sz := ez
                exact wv_c1 b4 (by omega)
              · rw [updN_ne _ _ (by omega), updN_ne _ _ (by omega), updN_at, updN_ne _ _ (by omega), updN_at, updN_ne _ _ (by omega), updN_ne _ _ (by omega)]
                have ez1 : wz 2 = sz := ez
                exact wv_c2 b4 (by omega)
              · rw [updN_ne _ _ (by omega), updN_ne _ _ (by omega), updN_ne _ _ (by omega), updN_ne _ _ (by omega), updN_at, updN_ne _ _ (by omega), updN_at]
                have ez1 : wz 3 = sz := ez
                exact wv_c3 b4 (by omega)
          · have hne : wz (i + 1) < sz := by
              rcases Nat.lt_or_ge (wz (i + 1)) sz with q | q
              · exact q
              · exact absurd (by rw [show wz (i + 1) = sz by omega]) ce
            refine ih S2 wz b4 h2 (Nat.le_of_lt (b1 0 (by omega))) (fun j p q => Or.inl ?_)
            rcases Nat.lt_trichotomy j (i + 1) with t | t | t
            · exact b1 j t
            · rw [t]; exact hne
            · exact b2 j t q
      -- zeros behind
      have zeros : ∀ (c i a : Nat) (S2 : jM) (wz : Nat → Nat), i + c = 4 → a < i → WY S S2 x v wz → (∀ S3 wu, WY S S3 x v wu → (∀ j, j < i → wu j = wz j) → (∀ j, i ≤ j → j < 4 → wu j = 0) → L_X11_findSoonest_100 E (d + 4) Q (x + 94) (nI a) S3) → L_X11_findSoonest_80 E (d + 4) Q (x + 94) (nI a) (nI i) S2 := by
        intro c
        induction c with
        | zero =>
          intro i a S2 wz hi ha h2 k
          obtain rfl : i = 4 := by omega
          exact T_X11_findSoonest_80 ⟨fun _ => k S2 wz h2 (fun _ _ => rfl) (fun j p q => absurd p (by omega)), fun cc => absurd (by decide) cc⟩
        | succ c ihc =>
          intro i a S2 wz hi ha h2 k
          have l2 := h2.2.1.1
          refine T_X11_findSoonest_80 ⟨fun cc => absurd cc (nI_ge (b := 4) (by omega) (by omega)), fun _ => ⟨l2.1, _, l2.r14.1, l2.r14.2.1, by rw [l2.r14.2.2]; exact jin_nI (by omega) (by omega), ?_⟩⟩
          rw [nI_1, jcl (by omega)]
          refine ihc (i + 1) a _ _ (by omega) (by omega) (h2.put (i := i) (w := 0) (by omega)) (fun S3 wu h3 p q => k S3 wu h3 (fun j hj => ?_) (fun j p1 q1 => ?_))
          · rw [p j (by omega), updN_ne _ _ (by omega)]
          · by_cases e : j = i
            · rw [e, p i (by omega), updN_at]
            · exact q j (by omega) q1
      refine l_X11_goesWay (S0 := S1) (wy := wy) hT1 hv0 hz (fun i hi => ⟨hall i hi, w1 i hi⟩) (fun a ha S2 u g2 h2 a2 => ⟨h2.k, ?_⟩) 4 0 v 0 S1 (by omega) gwf.rfl m1 hg (fun _ _ => rfl)
      have o107 : ji S2 (x + 107) = ji S1 (x + 107) := g2.2.1 _ (by omega) (by omega) (by omega)
      have o108 : ji S2 (x + 108) = ji S1 (x + 108) := g2.2.1 _ (by omega) (by omega) (by omega)
      refine c_X11_laysBack (v := v) h2 (fun j hj => ?_) (fun S3 c3 h3 => ?_)
      · show ji S2 (x + 94 + 13) j = v j
        rw [show x + 94 + 13 = x + 107 by omega, o107]; exact cl1 j hj
      have h3' : MR S3 (x + 94) v := ⟨h3.1, fun j => (h3.2 j).trans (by
        show (if j < 135 then v j else u j) = v j
        by_cases hj : j < 135
        · rw [if_pos hj]
        · rw [if_neg hj]; exact a2 j (by omega))⟩
      have l3 := h3.1
      have o3 : ji S3 (x + 108) = ji S1 (x + 108) := (c3.2 _ (by omega)).trans o108
      have y3 : WY S S3 x v wy := ⟨g1.trans ((g2.trans (gwf.row c3)).sf), h3', fun j hj => by rw [c3.2 _ (by omega), o107]; exact cl1 j hj, fun i hi => by rw [o3]; exact w1 i hi⟩
      refine ⟨l3.1, _, l3.r14.1, l3.r14.2.1, by rw [l3.r14.2.2]; exact jin_nI ha (by omega), ?_⟩
      rw [jcl (by omega), y3.2.2.2 a ha, nI_1, nI_1]
      have y4 := y3.put (i := a) (w := wy a + 1) ha
      refine zeros (4 - (a + 1)) (a + 1) a _ _ (by omega) (by omega) y4 (fun S5 wu h5 p q => ?_)
      have ea : wu a = wy a + 1 := by rw [p a (by omega), updN_at]
      have eb : ∀ j, j < a → wu j = wy j := fun j hj => by rw [p j (by omega), updN_ne _ _ (by omega)]
      have ha' := hall a ha
      refine carry a S5 wu ha h5 (fun j hj => by rw [eb j hj]; exact hall j (by omega)) (fun j p1 q1 => by rw [q j (by omega) q1]; exact s0) (by omega) ?_
      have q0 := hall 0 (by omega)
      have q1 := hall 1 (by omega)
      have q2 := hall 2 (by omega)
      have q3 := hall 3 (by omega)
      unfold wval at hn ⊢
      have hac : a = 0 ∨ a = 1 ∨ a = 2 ∨ a = 3 := by omega
      rcases hac with rfl | rfl | rfl | rfl
      · rw [ea, q 1 (by omega) (by omega), q 2 (by omega) (by omega), q 3 (by omega) (by omega)]; exact wv_0 hn (by omega) (by omega) (by omega)
      · rw [ea, eb 0 (by omega), q 2 (by omega) (by omega), q 3 (by omega) (by omega)]; exact wv_1 hn (by omega) (by omega)
      · rw [ea, eb 0 (by omega), eb 1 (by omega), q 3 (by omega) (by omega)]; exact wv_2 hn (by omega)
      · rw [ea, eb 0 (by omega), eb 1 (by omega), eb 2 (by omega)]; exact wv_3 hn
  -- the start
  have start : ∀ (c i : Nat) (S1 : jM), i + c = 4 → gsf S S1 x → MR S1 (x + 94) v → (∀ j, j < 135 → ji S1 (x + 107) j = v j) → (∀ j, j < i → ji S1 (x + 108) j = 0) → L_X11_findSoonest_15 E (d + 4) Q (x + 94) (nI i) S1 := by
    intro c
    induction c with
    | zero =>
      intro i S1 hi g1 m1 cl1 w1
      obtain rfl : i = 4 := by omega
      refine T_X11_findSoonest_15 ⟨fun _ => main 10000 S1 (fun _ => 0) (by unfold wval; omega) ⟨g1, m1, cl1, fun i hi => w1 i hi⟩ (by omega) (fun j _ _ => Or.inr rfl), fun cc => absurd (by decide) cc⟩
    | succ c ih =>
      intro i S1 hi g1 m1 cl1 w1
      have l1 := m1.1
      refine T_X11_findSoonest_15 ⟨fun cc => absurd cc (nI_ge (b := 4) (by omega) (by omega)), fun _ => ⟨m1.k, _, l1.r14.1, l1.r14.2.1, by rw [l1.r14.2.2]; exact jin_nI (by omega) (by omega), ?_⟩⟩
      rw [nI_1, jcl (by omega)]
      have c1 : jch S1 (jput S1 (x + 108) i 0) (x + 108) (x + 109) := jch.put (by omega) (by omega)
      refine ih (i + 1) _ (by omega) (g1.trans (gsf.way (jch.put (by omega) (by omega)))) (m1.keep c1 (by omega)) (fun j hj => by rw [c1.2 _ (by omega)]; exact cl1 j hj) (fun j hj => ?_)
      rw [ji_put]
      by_cases e : j = i
      · rw [if_pos ⟨rfl, e⟩]
      · rw [if_neg (fun q => e q.2)]; exact w1 j (by omega)
  have g0 : gsf S (jput S (x + 94) 15 (-1)) x := (gwf.fld (by omega) (by omega)).sf
  have h0 : MR (jput S (x + 94) 15 (-1)) (x + 94) v := hM.fld
  refine T_X11_findSoonest ⟨hM.k, c_X11_findFar h0 (fun S1 c1 _ => ?_)⟩
  have h1 := h0.keep c1 (by omega)
  refine ⟨h1.k, c_X11_laysBy h1 (fun S2 c2 h2 r2 => ?_)⟩
  exact start 4 0 S2 (by omega) ((g0.trans (gsf.way ⟨c1.1, fun y hy => c1.2 y (by omega)⟩)).trans (gsf.way ⟨c2.1, fun y hy => c2.2 y (by omega)⟩)) h2 (fun j hj => r2 j hj) (fun j hj => absurd hj (Nat.not_lt_zero _))
theorem IV.sf (h : IV S x sz M v) (g : gsf S S' x) (hM : MR S' (x + 94) v) : INV S' x M := by
  obtain ⟨⟨hX, hM0, hg⟩, hC, hGL, hjn, hT, hI, hS, hSl, hW, hTp⟩ := id h
  have o : ∀ y, (y < x + 94 ∨ (x + 96 ≤ y ∧ y < x + 106) ∨ y = x + 109 ∨ x + 112 ≤ y) → ji S' y = ji S y := fun y hy => g.2.1 y (by omega) (by omega) (by omega) (by omega)
  have o95 : ji S' (x + 95) = ji S (x + 95) := funext (fun j => (hM.2 j).trans (hM0.2 j).symm)
  refine h.rst g.1 (fun y hy => ?_) ⟨hI.keep g.1 (by rw [o x (by omega)]) (g.2.2 3 (by omega)) (fun y hy => o y (by omega)), hS.keep (fun y hy => o y (by omega)), hSl.keep (fun y hy => o y (by omega)), hW.keep (by rw [o x (by omega)]) (g.2.2 34 (by omega)) (o _ (by omega)) (o _ (by omega)), hTp.keep (by rw [o (x + 60) (by omega)]) (g.2.2 19 (by omega)) (o _ (by omega)) (o _ (by omega))⟩
  by_cases e : y = x + 95
  · rw [e]; exact o95
  · exact o y (by omega)
theorem c_X5_finds {Q : Int32 → jM → Prop} (h : IV S x sz M v) (hq : ∀ r S', jse S S' x → Q r S') : jFi E mX5_finds (d + 17) 0 0 [.ref (x + 52), .ref (x + 1)] S Q := by
  have put : ∀ {S0 : jM} {y j : Nat} {w : Int32}, jse S S0 x → x + 52 ≤ y → y < x + 60 → jse S (jput S0 y j w) x := fun p a b => p.trans (jse.put a b)
  have wish : ∀ (S1 : jM) (Q' : Int32 → jM → Prop), jse S S1 x → (∀ r, Q' r S1) → jFi E mX3_wishedSet (d + 16) 0 0 [.ref (x + 1)] S1 Q' := by
    intro S1 Q' p1 q
    have hR := (h.se p1).1.1.2.2
    have key : ∀ (n i : Nat) (y : Int32), i + n = 6 → L_X3_wishedSet_4 E (d + 16) Q' (x + 1) y (nI i) S1 := by
      intro n
      induction n with
      | zero =>
        intro i y hi
        obtain rfl : i = 6 := by omega
        exact T_X3_wishedSet_4 ⟨hR.1.1, fun _ => q _, fun _ => ⟨fun _ => q _, fun cc => absurd (by decide) cc⟩⟩
      | succ n ih =>
        intro i y hi
        refine T_X3_wishedSet_4 ⟨hR.1.1, fun _ => q _, fun _ => ⟨fun _ => q _, fun _ => ⟨_, hR.1.2.2.2.2.1, hR.1.2.2.2.2.2.2.1, ?_, ?_⟩⟩⟩
        · rw [hR.1.2.2.2.2.2.2.2.1]; exact jin_nI (by omega) (by omega)
        · rw [nI_1]; exact ih (i + 1) _ (by omega)
    exact T_X3_wishedSet (key 6 0 0 (by omega))
  have hs := h.2.1.2.2.1
  have hX := h.1.1
  have l63 : ∀ (n i : Nat) (S1 : jM), i + n = 10 → jse S S1 x → L_X5_finds_63 E (d + 16) Q (x + 52) (x + 1) (nI i) S1 := by
    intro n
    induction n with
    | zero =>
      intro i S1 hi p1
      obtain rfl : i = 10 := by omega
      have h1 := h.se p1
      have s1 := h1.2.1.2.2.1
      have X1 := h1.1.1
      have in0 : ∀ k, k < 5 → vp_in 0 (jl S1 (x + 52 + 1 + k)) := fun k hk => by rw [s1.2.2.1 k hk]; exact jin_nI (n := 0) (by omega) (by omega)
      refine T_X5_finds_63 ⟨fun _ => ⟨s1.1, _, (s1.2.1 0 (by omega)).1, X1.k3, _, X1.r2, X1.l.1.1, (s1.2.1 0 (by omega)).2, in0 0 (by omega), _, (s1.2.1 1 (by omega)).1, (s1.2.1 1 (by omega)).2, in0 1 (by omega), _, (s1.2.1 2 (by omega)).1, (s1.2.1 2 (by omega)).2, in0 2 (by omega), _, (s1.2.1 3 (by omega)).1, (s1.2.1 3 (by omega)).2, in0 3 (by omega), _, (s1.2.1 4 (by omega)).1, (s1.2.1 4 (by omega)).2, in0 4 (by omega), ?_⟩, fun cc => absurd (by decide) cc⟩
      have p2 := put (put (put (put (put p1 (y := x + 52 + 1 + 0) (j := Int32.toNatClampNeg 0) (w := ji S1 (x + 16) 0) (by omega) (by omega)) (y := x + 52 + 1 + 1) (j := Int32.toNatClampNeg 0) (w := ji S1 (x + 16) 1) (by omega) (by omega)) (y := x + 52 + 1 + 2) (j := Int32.toNatClampNeg 0) (w := 0) (by omega) (by omega)) (y := x + 52 + 1 + 3) (j := Int32.toNatClampNeg 0) (w := 0) (by omega) (by omega)) (y := x + 52 + 1 + 4) (j := Int32.toNatClampNeg 0) (w := -1000000005) (by omega) (by omega)
      refine c_X5_goOn 5 0 (d + 16) _ _ (by omega) (by omega) (h.se p2) (fun S3 p3 => ?_)
      have p23 := p2.trans p3
      exact ⟨(h.se p23).2.1.2.2.1.1, fun _ => hq _ S3 p23, fun _ => hq _ S3 p23⟩
    | succ n ih =>
      intro i S1 hi p1
      have h1 := h.se p1
      have s1 := h1.2.1.2.2.1
      have X1 := h1.1.1
      refine T_X5_finds_63 ⟨fun cc => absurd cc (nI_ge (b := 10) (by omega) (by omega)), fun _ => ⟨s1.1, _, (s1.2.1 5 (by omega)).1, X1.k3, _, X1.r2, X1.l.1.1, _, X1.l.1.2.2.1, X1.l.1.2.2.2.2.2.1, ?_, (s1.2.1 5 (by omega)).2, ?_, ?_⟩⟩
      · rw [X1.l.1.2.2.2.2.2.2]; exact jin_nI (by omega) (by omega)
      · rw [show x + 52 + 1 + 5 = x + 52 + 6 by omega, s1.2.2.2.1]; exact jin_nI (by omega) (by omega)
      · rw [nI_1]; exact ih (i + 1) _ (by omega) (put p1 (by omega) (by omega))
  have l39 : ∀ (n i : Nat) (S1 : jM), i + n = 99 → jse S S1 x → L_X5_finds_39 E (d + 16) Q (x + 52) (x + 1) (nI i) S1 := by
    intro n
    induction n with
    | zero =>
      intro i S1 hi p1
      obtain rfl : i = 99 := by omega
      have s1 := (h.se p1).2.1.2.2.1
      have e99 : jl S1 (x + 52 + 1 + 6) = 99 := s1.2.2.2.2
      refine T_X5_finds_39 ⟨s1.1, _, (s1.2.1 6 (by omega)).1, (s1.2.1 6 (by omega)).2, ?_⟩
      rw [e99]
      exact ⟨fun _ => l63 10 0 S1 (by omega) p1, fun cc => absurd Int32.le_rfl cc⟩
    | succ n ih =>
      intro i S1 hi p1
      have s1 := (h.se p1).2.1.2.2.1
      have e99 : jl S1 (x + 52 + 1 + 6) = 99 := s1.2.2.2.2
      refine T_X5_finds_39 ⟨s1.1, _, (s1.2.1 6 (by omega)).1, (s1.2.1 6 (by omega)).2, ?_⟩
      rw [e99]
      refine ⟨fun cc => absurd cc (nI_ge (by omega) (by omega)), fun _ => ⟨jin_nI (by omega) (by omega), ?_⟩⟩
      rw [nI_1]; exact ih (i + 1) _ (by omega) (put p1 (by omega) (by omega))
  refine T_X5_finds ⟨hs.1, hX.k3, ?_⟩
  have p3 := put (put (put (jse.rfl (S := S) (x := x)) (y := x + 52) (j := 9) (w := 1000000000) (by omega) (by omega)) (y := x + 52) (j := 10) (w := 1000000000) (by omega) (by omega)) (y := x + 52) (j := 11) (w := 1000000000) (by omega) (by omega)
  refine wish _ _ p3 (fun r => ⟨hs.1, hX.k3, _, hX.r0, hX.g.1.1, ?_⟩)
  have p4 := put p3 (y := x + 52) (j := 7) (w := r) (by omega) (by omega)
  exact c_X0_taught (h.se p4).1.1.g hX.sz9 ⟨hs.1, l39 99 0 _ (by omega) (put p4 (by omega) (by omega))⟩
theorem Q_soonest {w : Int32} (h : IV S x sz M v) : jFi E mX10_soonest (d + 18) 0 0 [.ref x, .int w] S (fun _ S1 => jFm E mX11_soonest (d + 6) (x + 94) [.int w] S1 (fun _ S2 => INV S2 x M)) := by
  have ref : ∀ S1, jse S S1 x → jFm E mX11_soonest (d + 6) (x + 94) [.int w] S1 (fun _ S2 => INV S2 x M) := by
    intro S1 p1
    have h1 := h.se p1
    obtain ⟨⟨hX, hM, hg⟩, hC, hGL, hjn, hT, -⟩ := id h1
    obtain ⟨wi, hwi, ewi⟩ := hg.wi
    refine U_X11_soonest hM.k ⟨fun _ => h1.inv, fun _ => ⟨hM.k, c_X11_can hM hg hwi ewi ⟨fun _ => ⟨hM.k, ?_⟩, fun _ => ⟨fun _ => h1.inv, fun _ => h1.inv⟩⟩⟩⟩
    refine c_X11_findSoonest hM hg hT hX.v0 hX.sz9 (fun S2 g2 h2 => ?_)
    have v2 := h1.sf g2 h2
    exact ⟨h2.k, fun _ => ⟨fun _ => v2, fun _ => ⟨fun _ => v2, fun _ => v2⟩⟩, fun _ => v2⟩
  have hC := h.2.1
  refine T_X10_soonest ⟨fun _ => ref S jse.rfl, fun _ => ⟨hC.1, _, hC.2.1.2.2.2.1, _, h.1.1.2.1, hC.2.2.1.1, c_X5_finds h (fun r S1 p1 => ⟨fun _ => ref S1 p1, fun _ => ?_⟩)⟩⟩
  have c1 := (h.se p1).2.1
  exact ⟨fun _ => ⟨c1.1, _, c1.2.1.2.2.2.1, c1.2.2.1.1, ref S1 p1⟩, fun _ => ⟨c1.1, _, c1.2.1.2.2.2.1, c1.2.2.1.1, ref S1 p1⟩, fun _ _ => ⟨c1.1, _, c1.2.1.2.2.2.1, c1.2.2.1.1, ref S1 p1⟩⟩
end jSoon3
end
