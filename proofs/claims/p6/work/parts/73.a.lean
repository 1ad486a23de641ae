section
/-! CHECK on both sides -/
/-- the guild after k years -/
def ykk (sz : Nat) (p : gst) : Nat → gst
  | 0 => p
  | k + 1 => yyear sz (ykk sz p k)
/-- number j of the row due -/
def ydue (sz : Nat) (p : gst) (j : Nat) : Int32 := if j % 2 = 0 then mdead (ykk sz p (j / 2 + 1)).2 sz else mages (ykk sz p (j / 2 + 1)).2 sz
theorem ydue_e (sz : Nat) (p : gst) (k : Nat) : ydue sz p (2 * k) = mdead (ykk sz p (k + 1)).2 sz := by
  unfold ydue
  rw [if_pos (by omega), show 2 * k / 2 + 1 = k + 1 by omega]
theorem ydue_o (sz : Nat) (p : gst) (k : Nat) : ydue sz p (2 * k + 1) = mages (ykk sz p (k + 1)).2 sz := by
  unfold ydue
  rw [if_neg (by omega), show (2 * k + 1) / 2 + 1 = k + 1 by omega]
/-- what check answers: the first place that is not as due -/
def CKR (n w : Nat) (f g : Nat → Int32) (r : Int32) : Prop := ∃ j, j ≤ 2 * n ∧ (∀ i, i < j → i < w ∧ f i = g i) ∧ (j = 2 * n ∨ ¬ (j < w ∧ f j = g j)) ∧ r = if j = 2 * n ∧ w = 2 * n then 0 else nI (1 + j)
theorem CKR.one {n w : Nat} {f g : Nat → Int32} {r r' : Int32} (h : CKR n w f g r) (h' : CKR n w f g r') : r = r' := by
  obtain ⟨j, a1, a2, a3, a4⟩ := h
  obtain ⟨k, b1, b2, b3, b4⟩ := h'
  have e : j = k := by
    rcases Nat.lt_trichotomy j k with c | c | c
    · rcases a3 with a3 | a3
      · omega
      · exact absurd (b2 j c) a3
    · exact c
    · rcases b3 with b3 | b3
      · omega
      · exact absurd (a2 k c) b3
  subst e
  rw [a4, b4]
section jCheck
variable {E : jEnv} {d : Nat} {S S' : jM} {x sz M : Nat} {v : Nat → Int32}
theorem c_X11_allOf {Q : Int32 → jM → Prop} {m f : Nat} (hM : MR S m v) (h0 : v 0 = nI sz) (hz : sz ≤ 9) (hf : f < 7) (h : Q (jfold (fun i a => a + mfv v i f) sz 0 (0 : Int32)) S) : jFi E mX11_allOf (d + 1) 0 0 [.ref m, .int (nI f)] S Q := by
  obtain ⟨a1, a2⟩ := hM.at (i := 0) 0 rfl (by omega)
  have key : ∀ (n i : Nat) (a : Int32), i + n = sz → Q (jfold (fun i a => a + mfv v i f) n i a) S → L_X11_allOf_4 E d Q m (nI f) a (nI i) S := by
    intro n
    induction n with
    | zero =>
      intro i a hi hq
      obtain rfl : i = sz := by omega
      refine T_X11_allOf_4 ⟨hM.k, _, hM.r, hM.k1, a1, ?_⟩
      rw [a2, h0]
      exact ⟨fun _ => hq, fun c => absurd (nI_le (Nat.le_refl _) (by omega)) c⟩
    | succ n ih =>
      intro i a hi hq
      refine T_X11_allOf_4 ⟨hM.k, _, hM.r, hM.k1, a1, ?_⟩
      rw [a2, h0]
      refine ⟨fun c => absurd c (nI_ge (by omega) (by omega)), fun _ => c_X11_of hM (by omega) hf ?_⟩
      rw [nI_1]
      exact ih (i + 1) _ (by omega) hq
  exact T_X11_allOf (key sz 0 0 (by omega) h)
theorem mages_v (p : gst) : ∀ (n i : Nat) (a : Int32), i + n ≤ 9 → jfold (fun i a => a + mfv (vg v p) i 5) n i a = jfold (fun i a => a + p.2 i 5) n i a
  | 0, _, _, _ => rfl
  | n + 1, i, a, h => by
    show jfold _ n (i + 1) (a + mfv (vg v p) i 5) = jfold _ n (i + 1) (a + p.2 i 5)
    rw [show mfv (vg v p) i 5 = p.2 i 5 from vg_m p (by omega) (by omega)]
    exact mages_v p n (i + 1) _ (by omega)
theorem mdead_v (p : gst) (hd : ∀ i, i < 9 → p.2 i 6 = 0 ∨ p.2 i 6 = 1) : ∀ (n i : Nat) (a : Int32), i + n ≤ 9 → jfold (fun i a => a + mfv (vg v p) i 6) n i a = jfold (fun i a => if p.2 i 6 = 0 then a + 0 else a + 1) n i a
  | 0, _, _, _ => rfl
  | n + 1, i, a, h => by
    show jfold _ n (i + 1) (a + mfv (vg v p) i 6) = jfold _ n (i + 1) (if p.2 i 6 = 0 then a + 0 else a + 1)
    rw [show mfv (vg v p) i 6 = p.2 i 6 from vg_m p (by omega) (by omega)]
    have e : a + p.2 i 6 = if p.2 i 6 = 0 then a + 0 else a + 1 := by
      rcases hd i (by omega) with e | e
      · rw [if_pos e, e]
      · rw [if_neg (by rw [e]; decide), e]
    rw [e]
    exact mdead_v p hd n (i + 1) _ (by omega)
theorem c_X10_isWaiting {Q : Int32 → jM → Prop} {j w : Nat} {t : Int32} (hC : CL S x) (hj : j < 60) (hw : w ≤ 60) (h1 : j < w → ji S (x + 65) j = t → Q 1 S) (h0 : ¬ (j < w ∧ ji S (x + 65) j = t) → Q 0 S) : jFi E mX10_isWaiting (d + 1) 0 0 [.ref x, .int (nI j), .int (nI w), .int t] S Q := by
  refine T_X10_isWaiting ⟨fun c => h0 (fun q => ?_), fun c => ⟨fun c2 => ?_, fun _ => ⟨hC.1, _, hC.2.1.2.2.2.2.2.2.2, hC.2.2.2.2.2.2.1.1, by rw [hC.2.2.2.2.2.2.1.2]; exact jin_nI hj (by omega), ?_⟩⟩⟩
  · have := (nI_leI (by omega) (by omega)).mp c
    omega
  · rw [show (60 : Int32) = nI 60 from rfl, jwi_at hj (by omega)] at c2
    exact absurd c2 (by decide)
  · have hjw : j < w := by
      rcases Nat.lt_or_ge j w with q | q
      · exact q
      · exact absurd (nI_le q (by omega)) c
    rw [jcl (by omega)]
    exact ⟨fun e => h1 hjw e, fun e => h0 (fun q => e q.2)⟩
theorem nI_2 (k : Nat) : (2 : Int32) * nI k = nI (2 * k) := by rw [show (2 : Int32) = nI 2 from rfl, nI_mul]
theorem Q_check {u : Int32} (h : IV S x sz M v) : jFi E mX10_check (d + 3) 0 0 [.ref x, .int u] S (fun r S1 => jFm E mX11_check (d + 3) (x + 94) [.int u] S1 (fun r' S2 => r = r' ∧ INV S2 x M)) := by
  obtain ⟨⟨hX, hM, hg⟩, hC, hGL, hjn, hT, hI, hS, hSl, hW, hTp⟩ := id h
  obtain ⟨szi, vi, i1, i2, i3⟩ := id hI
  obtain ⟨w, w60, w1, w2, w3⟩ := id hW
  have m := hM.1
  -- what both leave
  have fin : ∀ (S2 : jM), jsame S S2 → (∀ y, y ≠ x → (y < x + 41 ∨ x + 52 ≤ y) → y ≠ x + 94 → y ≠ x + 97 → y ≠ x + 114 → ji S2 y = ji S y) → (∀ j, ji S2 x j = if j = 9 then 0 else ji S x j) → (∀ j, ji S2 (x + 94) j = if j = 34 then 0 else ji S (x + 94) j) → INV S2 x M := by
    intro S2 s o ox om
    refine h.rst s (fun y hy => o y (by omega) (by omega) (by omega) (by omega) (by omega)) ⟨hI.keep s (by rw [ox, if_neg (by omega)]) (by rw [om, if_neg (by omega)]) (fun y hy => o y (by omega) (by omega) (by omega) (by omega) (by omega)), hS.keep (fun y hy => o y (by omega) (by omega) (by omega) (by omega) (by omega)), hSl.keep (fun y hy => o y (by omega) (by omega) (by omega) (by omega) (by omega)), ⟨0, by omega, by rw [ox, if_pos rfl]; rfl, by rw [om, if_pos rfl]; rfl, fun j hj => absurd hj (Nat.not_lt_zero _)⟩, hTp.keep (by rw [o _ (by omega) (by omega) (by omega) (by omega) (by omega)]) (by rw [om, if_neg (by omega)]) (o _ (by omega) (by omega) (by omega) (by omega) (by omega)) (o _ (by omega) (by omega) (by omega) (by omega) (by omega))⟩
  have putx : ∀ j, ji (jput S x 9 0) x j = if j = 9 then 0 else ji S x j := fun j => by
    rw [ji_put]
    by_cases e : j = 9
    · rw [if_pos ⟨rfl, e⟩, if_pos e]
    · rw [if_neg (fun c => e c.2), if_neg e]
  have putm : ∀ (S1 : jM) (j : Nat), ji S1 (x + 94) = ji S (x + 94) → ji (jput S1 (x + 94) 34 0) (x + 94) j = if j = 34 then 0 else ji S (x + 94) j := fun S1 j e1 => by
    rw [ji_put]
    by_cases e : j = 34
    · rw [if_pos ⟨rfl, e⟩, if_pos e]
    · rw [if_neg (fun c => e c.2), if_neg e, e1]
  have fin0 : INV (jput (jput S x 9 0) (x + 94) 34 0) x M := by
    refine fin _ ⟨rfl, rfl, rfl, rfl⟩ (fun y a b c _ _ => by rw [ji_put_ne _ _ _ _ c, ji_put_ne _ _ _ _ a]) (fun j => by rw [ji_put_ne _ _ _ _ (by omega), putx]) (fun j => putm _ j (ji_put_ne _ _ _ _ (by omega)))
  have ej : jisin (Int32.toInt64 u) 1 30 = if u < 1 then 0 else if 30 < u then 0 else 1 := jisin_int u 1 30
  refine T_X10_check ⟨hX.1, fun c => ?_, fun c => ⟨fun c1 => ⟨fun c2 => ?_, fun c2 => ?_⟩, fun c1 => ?_⟩⟩
  · refine U_X11_check m.1 ⟨m.1, fun _ => ⟨rfl, fin0⟩, fun c3 => absurd (by rw [ej, if_pos c]) c3⟩
  · refine U_X11_check m.1 ⟨m.1, fun c3 => ?_, fun _ => ⟨fun _ => ⟨rfl, fin0⟩, fun c3 => ?_⟩⟩
    · rw [ej, if_neg c, if_neg (Int32.not_lt.mpr c1)] at c3; exact absurd c3 (by decide)
    · rw [ji_put_ne _ _ _ _ (by omega)] at c3
      rcases i3 with ⟨-, j2⟩ | ⟨j1, -⟩
      · exact absurd j2 c3
      · rw [j1] at c2; exact absurd c2 (by decide)
  · rcases i3 with ⟨j1, -⟩ | ⟨j1, j2, j3, j4, j5⟩
    · exact absurd j1 c2
    have hu : ¬ u < 0 := fun q => c (Int32.lt_of_lt_of_le q (by decide))
    obtain ⟨n, hn, rfl⟩ := nI_of hu
    have n30 : n ≤ 30 := (nI_leI (b := 30) (by omega) (by omega)).mp c1
    have e2935 : ∀ j, j < 2935 → (fun j => if j < 2935 then vi j else v j) j = vi j := fun j hj => if_pos hj
    have hR := i1.cong (v' := fun j => if j < 2935 then vi j else v j) (fun j hj => e2935 j (by omega))
    have hgr := j3.cong (v' := fun j => if j < 2935 then vi j else v j) (fun j hj => e2935 j (by omega))
    have hv0 : (fun j => if j < 2935 then vi j else v j) 0 = nI szi := hR.2.2.1
    have vrow : ∀ j, (if j < 2935 then vi j else v j) = (fun j => if j < 2935 then vi j else v j) j := fun _ => rfl
    generalize (fun j => if j < 2935 then vi j else v j) = vr at hR hgr hv0 vrow
    have hz : szi ≤ 9 := hR.2.1
    -- the class
    have c0 : jch S (jput S x 9 0) x (x + 1) := jch.put (by omega) (by omega)
    have hC0 := hC.same c0.1
    refine ⟨_, hC.2.1.2.2.1, _, hC.2.1.2.1, i1.1.1, _, i1.1.2.1, hGL.1, ?_⟩
    refine c_X0_become (g := x + 41) (sz := (ji S (x + 41) 1).toBitVec.toNat) (z := ji S (x + 41) 2) (mf := fun i f => ji S (x + 41 + 2 + i) f) ⟨hGL.same c0.1, by rw [c0.2 _ (by omega)]; exact nI_bv _, by rw [c0.2 _ (by omega)], fun i _ f _ => by rw [c0.2 _ (by omega)]⟩ (hR.keep c0 (by omega)).2.2.2.1 (by omega) (fun i hi => ?_) (fun S1 c1 g1 => ?_)
    · exact hgr.de hi
    have key : ∀ (r : Int32) (S2 : jM), CKR n w (ji S (x + 65)) (ydue szi (vr 8, mfv vr)) r → jch (jput S x 9 0) S2 (x + 41) (x + 41 + 11) → jFm E mX11_check (d + 3) (x + 94) [.int (nI n)] S2 (fun r' S2 => r = r' ∧ INV S2 x M) := by
      intro r S2 hr c2'
      have o2 : ∀ y, y ≠ x → (y < x + 41 ∨ x + 52 ≤ y) → ji S2 y = ji S y := fun y a b => by rw [c2'.2 y (by omega), c0.2 y (by omega)]
      have s2 : jsame S S2 := c0.1.trans c2'.1
      have m2 := m.same s2
      refine U_X11_check m2.1 ⟨m2.1, fun c3 => ?_, fun _ => ⟨fun c3 => ?_, fun _ => ⟨_, m2.rr0, _, m2.r2.1, ?_⟩⟩⟩
      · rw [ej, if_neg c, if_neg (Int32.not_lt.mpr ‹nI n ≤ 30›)] at c3; exact absurd c3 (by decide)
      · rw [o2 _ (by omega) (by omega), j2] at c3; exact absurd c3 (by decide)
      have m3 : ML (jput S2 (x + 94) 34 0) (x + 94) := m2
      refine c_X11_setAside m3.kk1 m3.ll1 m3.r2.2.1 m3.r2.2.2 (by omega) (fun S4 c4 b4 => ?_)
      have m4 := m3.same c4.1
      refine ⟨m4.1, _, m4.r1.1, _, m4.rr0, ?_⟩
      refine c_X11_setAside m4.r1.2.1 m4.r1.2.2 m4.kk1 m4.ll1 (by omega) (fun S5 c5 b5 => ?_)
      have m5 := m4.same c5.1
      have o5 : ∀ y, y ≠ x → (y < x + 41 ∨ x + 52 ≤ y) → y ≠ x + 94 → y ≠ x + 95 → y ≠ x + 97 → ji S5 y = ji S y := fun y a b c e f => by
        rw [c5.2 y (by omega), c4.2 y (by omega), ji_put_ne _ _ _ _ c]; exact o2 y a b
      have s5 : jsame S S5 := s2.trans ((show jsame S2 (jput S2 (x + 94) 34 0) from ⟨rfl, rfl, rfl, rfl⟩).trans (c4.1.trans c5.1))
      have r95 : ∀ j, ji S5 (x + 95) j = vr j := fun j => by
        have b5' : ji S5 (x + 95) j = if j < 2935 then ji S4 (x + 96) j else ji S4 (x + 95) j := b5 j
        rw [b5', c4.2 _ (by omega), c4.2 _ (by omega), ji_put_ne _ _ _ _ (by omega), ji_put_ne _ _ _ _ (by omega), o2 _ (by omega) (by omega), o2 _ (by omega) (by omega), ← vrow]
        by_cases hj : j < 2935
        · rw [if_pos hj, if_pos hj]; exact j4 j hj
        · rw [if_neg hj, if_neg hj]; exact hM.2 j
      have r97 : ∀ j, j < 2935 → ji S5 (x + 97) j = v j := fun j hj => by
        rw [c5.2 _ (by omega)]
        have b4' : ji S4 (x + 97) j = if j < 2935 then ji (jput S2 (x + 94) 34 0) (x + 95) j else ji (jput S2 (x + 94) 34 0) (x + 97) j := b4 j
        rw [b4', if_pos hj, ji_put_ne _ _ _ _ (by omega), o2 _ (by omega) (by omega)]; exact hM.2 j
      have hi95 : ∀ j, 2935 ≤ j → vr j = v j := fun j hj => by rw [← vrow, if_neg (by omega)]
      have q34 : ji S2 (x + 94) 34 = nI w := by rw [o2 _ (by omega) (by omega)]; exact w2
      rw [q34]
      -- the comparing
      have cmp : ∀ (S6 : jM), ML S6 (x + 94) → INV S6 x M → (∀ j, j < 2 * n → ji S6 (x + 114) j = ydue szi (vr 8, mfv vr) j) → (∀ j, j < w → ji S6 (x + 113) j = ji S (x + 65) j) → ∀ (c e : Nat), e + c = 2 * n → e ≤ w → (∀ i, i < e → i < w ∧ ji S (x + 65) i = ydue szi (vr 8, mfv vr) i) → L_X11_check_125 E (d + 2) (fun r' S2 => r = r' ∧ INV S2 x M) (x + 94) (nI w) (nI (2 * n)) (nI e) S6 := by
        intro S6 m6 v6 h114 h113 c
        induction c with
        | zero =>
          intro e he hew hall
          obtain rfl : e = 2 * n := by omega
          have en : ∀ q : Prop, (nI (2 * n) = nI w → w = 2 * n → q) → nI (2 * n) = nI w → q := fun q f e => f e (nI_inj (by omega) (by omega) e).symm
          have stop : (nI (2 * n) = nI w → (nI (2 * n) = nI (2 * n) → r = 0 ∧ INV S6 x M) ∧ (¬ nI (2 * n) = nI (2 * n) → r = 1 + nI (2 * n) ∧ INV S6 x M)) ∧ (¬ nI (2 * n) = nI w → r = 1 + nI (2 * n) ∧ INV S6 x M) := by
            refine ⟨fun e1 => ⟨fun _ => ⟨hr.one ⟨2 * n, by omega, hall, Or.inl rfl, ?_⟩, v6⟩, fun c => absurd rfl c⟩, fun e1 => ⟨hr.one ⟨2 * n, by omega, hall, Or.inl rfl, ?_⟩, v6⟩⟩
            · rw [if_pos ⟨rfl, (nI_inj (by omega) (by omega) e1).symm⟩]
            · rw [if_neg (fun q => e1 (by rw [q.2])), show (1 : Int32) = nI 1 from rfl, nI_add]
          exact T_X11_check_125 ⟨fun _ => stop, fun _ => ⟨fun _ => stop, fun c => absurd Int32.le_rfl c⟩⟩
        | succ c ih =>
          intro e he hew hall
          have ne : ¬ nI (2 * n) ≤ nI e := nI_ge (by omega) (by omega)
          have n2 : ¬ nI e = nI (2 * n) := fun q => by have := nI_inj (by omega) (by omega) q; omega
          have stop : ¬ (e < w ∧ ji S (x + 65) e = ydue szi (vr 8, mfv vr) e) → (nI e = nI w → (nI e = nI (2 * n) → r = 0 ∧ INV S6 x M) ∧ (¬ nI e = nI (2 * n) → r = 1 + nI e ∧ INV S6 x M)) ∧ (¬ nI e = nI w → r = 1 + nI e ∧ INV S6 x M) := by
            intro hno
            have hq : r = 1 + nI e := hr.one ⟨e, by omega, hall, Or.inr hno, by rw [if_neg (fun q => by omega), show (1 : Int32) = nI 1 from rfl, nI_add]⟩
            exact ⟨fun _ => ⟨fun q => absurd q n2, fun _ => ⟨hq, v6⟩⟩, fun _ => ⟨hq, v6⟩⟩
          refine T_X11_check_125 ⟨fun c1 => stop (fun q => ?_), fun c1 => ⟨fun c2 => absurd c2 ne, fun _ => ⟨m6.1, _, m6.r33.1, m6.r33.2.1, ?_, _, m6.r35.1, m6.r35.2.1, ?_, ?_⟩⟩⟩
          · have := (nI_leI (by omega) (by omega)).mp c1
            omega
          · rw [m6.r33.2.2]; exact jin_nI (by omega) (by omega)
          · rw [m6.r35.2.2]; exact jin_nI (by omega) (by omega)
          · have hlt : e < w := by
              rcases Nat.lt_or_ge e w with q | q
              · exact q
              · exact absurd (nI_le q (by omega)) c1
            rw [jcl (by omega), h114 e (by omega), h113 e hlt, nI_1]
            refine ⟨fun q => ih (e + 1) (by omega) (by omega) (fun i hi => ?_), fun q => stop (fun z => q z.2)⟩
            by_cases hie : i = e
            · rw [hie]; exact ⟨hlt, q⟩
            · exact hall i (by omega)
      -- the years
      have lR : ∀ (c k : Nat) (S6 : jM), k + c = n → jsame S5 S6 → (∀ y, y ≠ x + 95 → y ≠ x + 114 → ji S6 y = ji S5 y) → MR S6 (x + 94) (vg vr (ykk szi (vr 8, mfv vr) k)) → Rg szi (vg vr (ykk szi (vr 8, mfv vr) k)) → (∀ j, j < 2 * k → ji S6 (x + 114) j = ydue szi (vr 8, mfv vr) j) → L_X11_check_64 E (d + 2) (fun r' S2 => r = r' ∧ INV S2 x M) (x + 94) (nI n) (nI w) (nI (2 * k)) (nI k) S6 := by
        intro c
        induction c with
        | zero =>
          intro k S6 hk s6 o6 h6 g6 d6
          obtain rfl : k = n := by omega
          have m6 := h6.1
          refine T_X11_check_64 ⟨fun _ => ⟨m6.1, _, m6.r2.1, _, m6.rr0, ?_⟩, fun cc => absurd Int32.le_rfl cc⟩
          refine c_X11_setAside m6.r2.2.1 m6.r2.2.2 m6.kk1 m6.ll1 (by omega) (fun S7 c7 b7 => ?_)
          have m7 := m6.same c7.1
          have o7 : ∀ y, y ≠ x + 95 → y ≠ x + 114 → ji S7 y = ji S5 y := fun y a b => by rw [c7.2 y (by omega)]; exact o6 y a b
          have r7 : ∀ j, ji S7 (x + 95) j = v j := fun j => by
            have b7' : ji S7 (x + 95) j = if j < 2935 then ji S6 (x + 97) j else ji S6 (x + 95) j := b7 j
            rw [b7']
            by_cases hj : j < 2935
            · rw [if_pos hj, o6 _ (by omega) (by omega)]; exact r97 j hj
            · rw [if_neg hj]
              have := h6.2 j
              rw [show x + 94 + 1 = x + 95 by omega] at this
              rw [this, vg_o _ (by omega) (by omega)]
              exact hi95 j (by omega)
          refine cmp S7 m7 (fin S7 (s5.trans (s6.trans c7.1)) (fun y a b c e f => ?_) (fun j => ?_) (fun j => ?_)) (fun j hj => ?_) (fun j hj => ?_) (2 * k) 0 (by omega) (by omega) (fun i hi => absurd hi (Nat.not_lt_zero _))
          · by_cases hy : y = x + 95
            · subst hy
              funext j
              rw [r7 j]; exact (hM.2 j).symm
            · rw [o7 y hy f]; exact o5 y a b c hy e
          · rw [o7 _ (by omega) (by omega), c5.2 _ (by omega), c4.2 _ (by omega), ji_put_ne _ _ _ _ (by omega), c2'.2 _ (by omega)]; exact putx j
          · rw [o7 _ (by omega) (by omega), c5.2 _ (by omega), c4.2 _ (by omega)]
            exact putm S2 j (o2 _ (by omega) (by omega))
          · rw [c7.2 _ (by omega)]; exact d6 j hj
          · rw [o7 _ (by omega) (by omega), o5 _ (by omega) (by omega) (by omega) (by omega) (by omega)]
            exact (w3 j hj).symm
        | succ c ih =>
          intro k S6 hk s6 o6 h6 g6 d6
          refine T_X11_check_64 ⟨fun cc => absurd cc (nI_ge (by omega) (by omega)), fun _ => ⟨h6.k, ?_⟩⟩
          refine c_X11_year hv0 hz h6 g6 (fun S7 c7 h7 g7 => ?_)
          have m7 := h7.1
          have dd : ∀ i, i < 9 → (ykk szi (vr 8, mfv vr) (k + 1)).2 i 6 = 0 ∨ (ykk szi (vr 8, mfv vr) (k + 1)).2 i 6 = 1 := fun i hi => by
            have := g7.de (i := i) hi
            rw [show mfv (vg vr (yyear szi (ykk szi (vr 8, mfv vr) k))) i 6 = (ykk szi (vr 8, mfv vr) (k + 1)).2 i 6 from vg_m _ hi (by omega)] at this
            exact this
          have h8 : vg vr (yyear szi (ykk szi (vr 8, mfv vr) k)) 0 = nI szi := by rw [vg_o _ (by omega) (by omega)]; exact hv0
          refine ⟨m7.1, _, m7.r35.1, c_X11_allOf (f := 6) h7 h8 hz (by omega) ⟨m7.r35.2.1, ?_, m7.1, _, m7.r35.1, ?_⟩⟩
          · rw [m7.r35.2.2]; exact jin_nI (by omega) (by omega)
          rw [jcl (n := 2 * k) (by omega), mdead_v (yyear szi (ykk szi (vr 8, mfv vr) k)) dd szi 0 0 (by omega)]
          have e6 : jfold (fun i a => if (yyear szi (ykk szi (vr 8, mfv vr) k)).2 i 6 = 0 then a + 0 else a + 1) szi 0 (0 : Int32) = ydue szi (vr 8, mfv vr) (2 * k) := (ydue_e szi (vr 8, mfv vr) k).symm
          rw [e6]
          have c8 : jch S7 (jput S7 (x + 114) (2 * k) (ydue szi (vr 8, mfv vr) (2 * k))) (x + 114) (x + 115) := jch.put (by omega) (by omega)
          have h9 := h7.keep c8 (by omega)
          refine c_X11_allOf (f := 5) h9 h8 hz (by omega) ⟨h9.1.r35.2.1, ?_, ?_⟩
          · rw [nI_1, h9.1.r35.2.2]; exact jin_nI (by omega) (by omega)
          rw [nI_1 k, nI_1 (2 * k), jcl (n := 2 * k + 1) (by omega), mages_v (yyear szi (ykk szi (vr 8, mfv vr) k)) szi 0 0 (by omega)]
          have e5 : jfold (fun i a => a + (yyear szi (ykk szi (vr 8, mfv vr) k)).2 i 5) szi 0 (0 : Int32) = ydue szi (vr 8, mfv vr) (2 * k + 1) := (ydue_o szi (vr 8, mfv vr) k).symm
          rw [e5, show nI (2 * k) + 2 = nI (2 * (k + 1)) from (by rw [show (2 : Int32) = nI 2 from rfl, nI_add]; congr 1)]
          have c9 : jch (jput S7 (x + 114) (2 * k) (ydue szi (vr 8, mfv vr) (2 * k))) (jput (jput S7 (x + 114) (2 * k) (ydue szi (vr 8, mfv vr) (2 * k))) (x + 114) (2 * k + 1) (ydue szi (vr 8, mfv vr) (2 * k + 1))) (x + 114) (x + 115) := jch.put (by omega) (by omega)
          refine ih (k + 1) _ (by omega) (s6.trans (c7.1.trans (c8.1.trans c9.1))) (fun y a b => by rw [c9.2 y (by omega), c8.2 y (by omega), c7.2 y (by omega)]; exact o6 y a b) (h9.keep c9 (by omega)) g7 (fun j hj => ?_)
          rw [ji_put, ji_put]
          by_cases q1 : j = 2 * k + 1
          · rw [if_pos ⟨rfl, q1⟩, q1]
          · rw [if_neg (fun q => q1 q.2)]
            by_cases q2 : j = 2 * k
            · rw [if_pos ⟨rfl, q2⟩, q2]
            · rw [if_neg (fun q => q2 q.2), c7.2 _ (by omega)]
              exact d6 j (by omega)
      refine lR n 0 S5 (by omega) jsame.rfl (fun _ _ _ => rfl) ⟨m5, fun j => ?_⟩ (hgr.cong (fun j _ => vg_self j)) (fun j hj => absurd hj (Nat.not_lt_zero _))
      show ji S5 (x + 94 + 1) j = vg vr (vr 8, mfv vr) j
      rw [vg_self]; exact r95 j
    rw [w1]
    have w65 : ∀ (S2 : jM), jch (jput S x 9 0) S2 (x + 41) (x + 41 + 11) → ji S2 (x + 65) = ji S (x + 65) := fun S2 c => by rw [c.2 _ (by omega), c0.2 _ (by omega)]
    have lC : ∀ (c k : Nat) (S2 : jM), k + c = n → 2 * k ≤ w → (∀ i, i < 2 * k → i < w ∧ ji S (x + 65) i = ydue szi (vr 8, mfv vr) i) → jch (jput S x 9 0) S2 (x + 41) (x + 41 + 11) → GR S2 (x + 41) szi (ykk szi (vr 8, mfv vr) k).1 (ykk szi (vr 8, mfv vr) k).2 → L_X10_check_50 E (d + 2) (fun r S1 => jFm E mX11_check (d + 3) (x + 94) [.int (nI n)] S1 (fun r' S2 => r = r' ∧ INV S2 x M)) x (nI n) (nI w) (nI k) S2 := by
      intro c
      induction c with
      | zero =>
        intro k S2 hk hkw hall c2' g2
        obtain rfl : k = n := by omega
        refine T_X10_check_50 ⟨fun _ => ⟨fun e => key _ S2 ⟨2 * k, by omega, hall, Or.inl rfl, ?_⟩ c2', fun e => key _ S2 ⟨2 * k, by omega, hall, Or.inl rfl, ?_⟩ c2'⟩, fun cc => absurd Int32.le_rfl cc⟩
        · rw [nI_2] at e
          rw [if_pos ⟨rfl, nI_inj (by omega) (by omega) e⟩]
        · rw [nI_2] at e
          rw [if_neg (fun q => e (by rw [q.2])), nI_2, show (1 : Int32) = nI 1 from rfl, nI_add]
      | succ c ih =>
        intro k S2 hk hkw hall c2' g2
        have hC2 := (hC0.same c2'.1)
        refine T_X10_check_50 ⟨fun cc => absurd cc (nI_ge (by omega) (by omega)), fun _ => ⟨hC2.1, _, hC2.2.1.2.2.1, g2.1.1, c_X0_liveYear g2 hz (fun S3 c3 g3 => ?_)⟩⟩
        have c23 := c2'.trans c3
        have hC3 := hC0.same c23.1
        refine ⟨hC3.1, _, hC3.2.1.2.2.1, g3.1.1, c_X0_countDead g3 hz ⟨hC3.1, ?_⟩⟩
        rw [nI_2]
        refine c_X10_isWaiting hC3 (by omega) w60 (fun q1 q2 => ⟨fun c => absurd c (by decide), fun _ => ⟨hC3.1, _, hC3.2.1.2.2.1, g3.1.1, c_X0_agesTogether g3 hz ⟨hC3.1, ?_⟩⟩⟩) (fun q => ⟨fun _ => key _ S3 ⟨2 * k, by omega, hall, Or.inr (fun z => q ⟨z.1, ?_⟩), ?_⟩ c23, fun c => absurd rfl c⟩)
        · rw [w65 S3 c23] at q2
          have q2' : ji S (x + 65) (2 * k) = ydue szi (vr 8, mfv vr) (2 * k) := q2.trans (ydue_e szi (vr 8, mfv vr) k).symm
          have all1 : ∀ i, i < 2 * k + 1 → i < w ∧ ji S (x + 65) i = ydue szi (vr 8, mfv vr) i := fun i hi => by
            by_cases e : i = 2 * k
            · rw [e]; exact ⟨q1, q2'⟩
            · exact hall i (by omega)
          rw [nI_1]
          refine c_X10_isWaiting hC3 (by omega) w60 (fun q3 q4 => ⟨fun c => absurd c (by decide), fun _ => ?_⟩) (fun q => ⟨fun _ => key _ S3 ⟨2 * k + 1, by omega, all1, Or.inr (fun z => q ⟨z.1, ?_⟩), ?_⟩ c23, fun c => absurd rfl c⟩)
          · rw [nI_1]
            rw [w65 S3 c23] at q4
            have q4' : ji S (x + 65) (2 * k + 1) = ydue szi (vr 8, mfv vr) (2 * k + 1) := q4.trans (ydue_o szi (vr 8, mfv vr) k).symm
            refine ih (k + 1) S3 (by omega) (by omega) (fun i hi => ?_) c23 g3
            by_cases e : i = 2 * k + 1
            · rw [e]; exact ⟨q3, q4'⟩
            · exact all1 i (by omega)
          · rw [w65 S3 c23, z.2]; exact ydue_o szi (vr 8, mfv vr) k
          · rw [if_neg (fun z => by omega), show (2 : Int32) = nI 2 from rfl, nI_add, show 2 + 2 * k = 1 + (2 * k + 1) by omega]
        · rw [w65 S3 c23, z.2]; exact ydue_e szi (vr 8, mfv vr) k
        · rw [if_neg (fun z => by omega), show (1 : Int32) = nI 1 from rfl, nI_add]
    exact lC n 0 S1 (by omega) (by omega) (fun i hi => absurd hi (Nat.not_lt_zero _)) c1 g1
  · refine U_X11_check m.1 ⟨m.1, fun _ => ⟨rfl, fin0⟩, fun c3 => absurd (by rw [ej, if_neg c, if_pos (Int32.not_le.mp c1)]) c3⟩
end jCheck
end
