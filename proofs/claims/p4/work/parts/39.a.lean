section
/-! FAR on both sides -/
theorem nI_d6 {i : Nat} (h : i < 2 ^ 31) : nI i / 6 = nI (i / 6) := pk_div (d := 6) h (by decide) (by decide)
theorem nI_r6 {i : Nat} (h : i < 2 ^ 31) : jrem (nI i) 6 = nI (i % 6) := pk_rem (d := 6) h (by decide) (by decide)
theorem nI_6x (a c : Nat) : 6 * nI a + nI c = nI (a * 6 + c) := by
  rw [show (6 : Int32) = nI 6 from rfl, pk_mul, nI_add, Nat.mul_comm]
section jFar
variable {E : jEnv} {d : Nat} {S : jM} {x m sz : Nat} {v : Nat → Int32}
theorem ML.far (h : ML S m) : jr S m 12 = some (m + 12) ∧ jk S (m + 12) = 12 ∧ jl S (m + 12) = 36 := by
  have := h.2 11 (12, 36) rfl
  rw [show m + 1 + 11 = m + 12 by omega] at this
  exact this
theorem l_X11_far2 {Q : jM → Prop} (hL : ML S m) (h : Q (jrow S (m + 12) (jfold w1 6 0 (ji S (m + 12))))) : L_X11_findFar_64 E d Q m 0 S := by
  obtain ⟨f1, f2, f3⟩ := hL.far
  have stepI : ∀ (o : Nat), o < 6 → ∀ (wz : Nat → Int32), L_X11_findFar_64 E d Q m (nI (o + 1)) (jrow S (m + 12) wz) → ∀ (n i : Nat) (w : Nat → Int32), i + n = 36 → jfold (w1step o) n i w = wz → L_X11_findFar_72 E d Q m (nI o) (nI i) (jrow S (m + 12) w) := by
    intro o ho wz hend n
    induction n with
    | zero =>
      intro i w hi hw
      obtain rfl : i = 36 := by omega
      have hw' : w = wz := hw
      subst hw'
      exact T_X11_findFar_72 ⟨fun _ => by rw [nI_1]; exact hend, fun c => absurd (by decide) c⟩
    | succ n ih =>
      intro i w hi hw
      have hrow : ji (jrow S (m + 12) w) (m + 12) = w := ji_row_same _ _ _
      have hl : jl (jrow S (m + 12) w) (m + 12) = 36 := f3
      have e1 : (nI i / 6) * 6 + nI o = nI (i / 6 * 6 + o) := by rw [nI_d6 (by omega), nI_ix6]
      have e2 : 6 * nI o + jrem (nI i) 6 = nI (o * 6 + i % 6) := by rw [nI_r6 (by omega), nI_6x]
      refine T_X11_findFar_72 ⟨fun c => absurd c (nI_ge (b := 36) (by omega) (by omega)), fun _ => ⟨hL.1, m + 12, f1, f2, ?_, ?_, fun y hy => ⟨?_, ?_⟩⟩⟩
      · rw [hl, e1]; exact jin_nI (by omega) (by omega)
      · rw [hl, e2]; exact jin_nI (by omega) (by omega)
      · rw [hl]; exact jin_nI (by omega) (by omega)
      · rw [e1, e2, jcl (by omega), jcl (by omega), hrow] at hy
        rw [jcl (by omega), hrow, nI_1, jput_eq, jrow_row, jput_eq, jrow_row, hrow]
        have hs : upd w i (jmin (w i) y) = w1step o i w := by rw [hy]; rfl
        have hnext := ih (i + 1) (w1step o i w) (by omega) hw
        rw [← hs] at hnext
        unfold jmin at hnext
        refine ⟨fun c => ?_, fun c => ?_⟩
        · rw [if_neg (Int32.not_lt.mpr c)] at hnext; exact hnext
        · rw [if_pos (Int32.not_le.mp c)] at hnext; exact hnext
  have stepO : ∀ (n o : Nat) (w : Nat → Int32), o + n = 6 → jfold w1 n o w = jfold w1 6 0 (ji S (m + 12)) → L_X11_findFar_64 E d Q m (nI o) (jrow S (m + 12) w) := by
    intro n
    induction n with
    | zero =>
      intro o w ho hw
      obtain rfl : o = 6 := by omega
      have hw' : w = jfold w1 6 0 (ji S (m + 12)) := hw
      rw [hw']
      exact T_X11_findFar_64 ⟨fun _ => h, fun c => absurd (by decide) c⟩
    | succ n ih =>
      intro o w ho hw
      exact T_X11_findFar_64 ⟨fun c => absurd c (nI_ge (b := 6) (by omega) (by omega)), fun _ => stepI o (by omega) (w1 o w) (ih (o + 1) (w1 o w) (by omega) hw) 36 0 w (by omega) rfl⟩
  have h0 := stepO 6 0 (ji S (m + 12)) (by omega) rfl
  rw [jrow_self] at h0
  exact h0
theorem c_X11_findFar {Q : jM → Prop} (hM : MR S m v) (h : ∀ S', jch S S' (m + 12) (m + 13) → (∀ i, i < 36 → ji S' (m + 12) i = vfar v i) → Q S') : jFv E mX11_findFar d 0 0 [.ref m] S Q := by
  obtain ⟨f1, f2, f3⟩ := hM.1.far
  have hend : L_X11_findFar_64 E d Q m 0 (jrow S (m + 12) (jfold (w0step (fun i => v (36 + i))) 36 0 (ji S (m + 12)))) := by
    refine l_X11_far2 (S := jrow S (m + 12) (jfold (w0step (fun i => v (36 + i))) 36 0 (ji S (m + 12)))) hM.1 ?_
    rw [jrow_row, ji_row_same]
    refine h _ (jch.row (by omega) (by omega)) (fun i hi => ?_)
    rw [ji_row_same]
    exact wfar_agr (dy := fun i => v (36 + i)) (dy' := fun i => v (36 + i)) (w := ji S (m + 12)) (w' := fun _ => 0) (fun _ _ => rfl) i hi
  have stepI : ∀ (n i : Nat) (w : Nat → Int32), i + n = 36 → jfold (w0step (fun i => v (36 + i))) n i w = jfold (w0step (fun i => v (36 + i))) 36 0 (ji S (m + 12)) → L_X11_findFar_2 E d Q m (nI i) (jrow S (m + 12) w) := by
    intro n
    induction n with
    | zero =>
      intro i w hi hw
      obtain rfl : i = 36 := by omega
      have hw' : w = jfold (w0step (fun i => v (36 + i))) 36 0 (ji S (m + 12)) := hw
      rw [hw']
      exact T_X11_findFar_2 ⟨fun _ => hend, fun c => absurd (by decide) c⟩
    | succ n ih =>
      intro i w hi hw
      have hnext := ih (i + 1) (w0step (fun i => v (36 + i)) i w) (by omega) hw
      have hM1 : MR (jrow S (m + 12) w) m v := hM.keep (jch.row (lo := m + 12) (hi := m + 13) (by omega) (by omega)) (by omega)
      have hrow : ji (jrow S (m + 12) w) (m + 12) = w := ji_row_same _ _ _
      have hl : jl (jrow S (m + 12) w) (m + 12) = 36 := f3
      have hin : vp_in (nI i) (jl (jrow S (m + 12) w) (m + 12)) := by rw [hl]; exact jin_nI (by omega) (by omega)
      obtain ⟨a1, a2⟩ := hM1.at (i := 36 + nI i) (36 + i) (nI_add 36 i) (by omega)
      unfold w0step at hnext
      refine T_X11_findFar_2 ⟨fun c => absurd c (nI_ge (b := 36) (by omega) (by omega)), fun _ => ⟨hM1.k, m + 12, f1, fun c => ⟨f2, hin, ?_⟩, fun c => ⟨m + 1, hM1.r, hM1.k1, a1, ?_⟩⟩⟩
      · rw [nI_d6 (by omega), nI_r6 (by omega)] at c
        rw [if_pos (nI_inj (by omega) (by omega) c)] at hnext
        rw [jcl (by omega), nI_1, jput_eq, jrow_row, hrow]
        exact hnext
      · rw [nI_d6 (by omega), nI_r6 (by omega)] at c
        rw [if_neg (fun e => c (by rw [e]))] at hnext
        rw [a2, jcl (by omega), nI_1, jput_eq, jrow_row, jput_eq, jrow_row, hrow]
        refine ⟨fun c0 => ⟨f2, hin, ?_⟩, fun c0 => ⟨f2, hin, ?_⟩⟩
        · rw [if_pos c0] at hnext; exact hnext
        · rw [if_neg c0] at hnext; exact hnext
  have h0 := stepI 36 0 (ji S (m + 12)) (by omega) rfl
  rw [jrow_self] at h0
  exact T_X11_findFar h0
theorem jfr.far {S1 : jM} (h : jch S S1 (x + 106) (x + 107)) : jfr S S1 x := ⟨h.1, fun y _ _ _ _ c _ => h.2 y (by omega)⟩
theorem P_far {w u : Int32} (hP : PI S x sz v) : jFi E mX10_far (d + 2) 0 0 [.ref x, .int w, .int u] S (fun r S1 => jFm E mX11_far (d + 1) (x + 94) [.int w, .int u] S1 (fun r' S2 => PO S x r r' S2)) := by
  have hX := hP.1
  have hM := hP.2.1
  refine T_X10_far ⟨fun c => U_X11_far (by first | exact hM.k | exact hM1.k | exact hP.2.1.k | exact h.2.2.1.1 | exact h.1.1 | exact g1.1.1 | exact g3.1.1 | exact gm.1.1 | exact h2.1.1 | exact hM2.k | (rw [c1.1.1]; exact hP.2.1.k)) ⟨fun _ => hP.same, fun c' => absurd c c'⟩, fun cw => ⟨fun c => U_X11_far (by first | exact hM.k | exact hM1.k | exact hP.2.1.k | exact h.2.2.1.1 | exact h.1.1 | exact g1.1.1 | exact g3.1.1 | exact gm.1.1 | exact h2.1.1 | exact hM2.k | (rw [c1.1.1]; exact hP.2.1.k)) ⟨fun c' => absurd c' cw, fun _ => ⟨fun _ => hP.same, fun c' => absurd c c'⟩⟩, fun cu => ⟨hX.1, x + 1, hX.2.1, hX.k3, x + 13, hX.r1, hX.q.1.1, ?_⟩⟩⟩
  obtain ⟨a, ha, rfl⟩ := jist_of cw
  obtain ⟨b, hb, rfl⟩ := jist_of cu
  have ref : ∀ r, (vfar v (a * 6 + b) = 9999 → r = kNONE) → (vfar v (a * 6 + b) ≠ 9999 → r = vfar v (a * 6 + b)) → jFm E mX11_far (d + 1) (x + 94) [.int (nI a), .int (nI b)] S (fun r' S2 => PO S x r r' S2) := by
    intro r h1 h2
    refine U_X11_far (by first | exact hM.k | exact hM1.k | exact hP.2.1.k | exact h.2.2.1.1 | exact h.1.1 | exact g1.1.1 | exact g3.1.1 | exact gm.1.1 | exact h2.1.1 | exact hM2.k | (rw [c1.1.1]; exact hP.2.1.k)) ⟨fun c => absurd c cw, fun _ => ⟨fun c => absurd c cu, fun _ => ⟨hM.k, c_X11_findFar hM (fun S1 c1 hf => ?_)⟩⟩⟩
    have hM1 := hM.keep c1 (by omega)
    have hX1 := hX.of c1.1 (hX.2.2.keep c1 (by omega))
    obtain ⟨f1, f2, f3⟩ := hM1.1.far
    have po : ∀ q, r = q → PO S x r q S1 := fun q e => ⟨e, jfr.far (c1.wide (by omega) (by omega)), tkOf hM hM1 (fun _ _ => rfl), sz, v, hX1, hM1, hP.2.2⟩
    refine ⟨hM1.k, _, f1, f2, by rw [f3, nI_6x]; exact jin_nI (by omega) (by omega), ?_⟩
    rw [nI_6x, jcl (by omega), hf _ (by omega)]
    exact ⟨fun c => po _ (h1 c), fun c => po _ (h2 c)⟩
  exact c_X4_fewest hX.q ha hb ⟨fun c => ref _ (fun _ => rfl) (fun c' => absurd c c'), fun c => ref _ (fun c' => absurd c' c) (fun _ => rfl)⟩
end jFar
end
section
/-! DEAL on both sides -/
theorem jushr8 (z : Int32) : ∃ n, n < 2 ^ 31 ∧ jushr z 8 = nI n := by
  refine ⟨(jushr z 8).toBitVec.toNat, ?_, nI_bv _⟩
  have e : (jushr z 8).toBitVec = z.toBitVec >>> 8 := rfl
  rw [e, BitVec.toNat_ushiftRight, Nat.shiftRight_eq_div_pow]
  have := z.toBitVec.isLt
  omega
theorem jdrawn (z : Int32) {b : Int32} (k : Nat) (hb : b = nI k) (h0 : 0 < k) (hk : k < 2 ^ 31) : ∃ n, n < k ∧ jrem (jushr z 8) b = nI n := by
  obtain ⟨n, hn, e⟩ := jushr8 z
  subst hb
  exact ⟨n % k, Nat.mod_lt _ h0, by rw [e]; exact pk_rem hn h0 hk⟩
/-- a master comes by lot, on the row -/
def vlot (v : Nat → Int32) (sz : Nat) : Nat → Int32 := vjoin (upd v 8 (jz4 (v 8))) sz (mdraw (v 8))
def vlots : Nat → Nat → (Nat → Int32) → Nat → Int32
  | 0, _, v => v
  | c + 1, sz, v => vlots c (sz + 1) (vlot v sz)
section jDeal
variable {E : jEnv} {d : Nat} {S : jM} {x m sz : Nat} {v : Nat → Int32}
theorem vlot_0 : vlot v sz 0 = nI (sz + 1) := vjoin_0
theorem Rg.lot (h : Rg sz v) : Rg (sz + 1) (vlot v sz) := by
  obtain ⟨k, hk, e1⟩ := jdrawn (jlot (v 8)) (b := 6) 6 rfl (by omega) (by omega)
  obtain ⟨t, ht, e2⟩ := jdrawn (jlot (jlot (v 8))) (b := 6) 6 rfl (by omega) (by omega)
  obtain ⟨g, hg, e3⟩ := jdrawn (jlot (jlot (jlot (v 8)))) (b := 10) 10 rfl (by omega) (by omega)
  obtain ⟨f, hf, e4⟩ := jdrawn (jz4 (v 8)) (b := 40) 40 rfl (by omega) (by omega)
  unfold vlot mdraw
  rw [e1, e2, e3, e4]
  exact (h.put (n := 8) (w := jz4 (v 8)) (fun c => absurd rfl c)).join hk ht hg (by omega)
theorem Rg.lots : ∀ (c sz : Nat) (v : Nat → Int32), Rg sz v → Rg (sz + c) (vlots c sz v)
  | 0, _, _, h => h
  | c + 1, sz, v, h => by
    have := Rg.lots c (sz + 1) (vlot v sz) h.lot
    rw [show sz + 1 + c = sz + (c + 1) by omega] at this
    exact this
theorem vlots_o : ∀ (c sz : Nat) (v : Nat → Int32), sz + c ≤ 9 → ∀ j, (j = 1 ∨ 135 ≤ j) → vlots c sz v j = v j
  | 0, _, _, _, _, _ => rfl
  | c + 1, sz, v, h, j, hj => by
    show vlots c (sz + 1) (vlot v sz) j = v j
    rw [vlots_o c (sz + 1) _ (by omega) j hj]
    unfold vlot vjoin
    rw [if_neg (by omega), if_neg (by omega), upd_ne _ (by omega)]
theorem XR.lot {S' : jM} (h : XR S x sz v) (hz : sz < 9) (hc : jch S S' (x + 2) (x + 13)) (hg : GR S' (x + 2) (sz + 1) (jz4 (v 8)) (mall (mfv v) sz (mdraw (v 8)))) : XR S' x (sz + 1) (vlot v sz) := by
  have e8 : vlot v sz 8 = jz4 (v 8) := by unfold vlot vjoin; rw [if_neg (by omega), if_neg (by omega), upd_at]
  refine h.of hc.1 (h.2.2.guild hc ?_ (by omega) vlot_0 (fun j p0 p8 pj => ?_))
  · rw [e8]
    refine hg.cong (fun a ha b hb => ?_)
    rw [mall_join hz a ha b hb]
    unfold mfv vlot vjoin
    rw [upd_ne _ (by omega)]
  · unfold vlot vjoin
    rw [if_neg p0, if_neg (by omega), upd_ne _ p8]
theorem l_X10_deal {Q : Int32 → jM → Prop} : ∀ (c i sz : Nat) (v : Nat → Int32) (S : jM), i + c ≤ 9 → sz + c ≤ 9 → XR S x sz v → (∀ S', jch S S' (x + 2) (x + 13) → XR S' x (sz + c) (vlots c sz v) → Q (nI (i + c)) S') → L_X10_deal_34 E (d + 2) Q x (nI (i + c)) (nI i) S := by
  intro c
  induction c with
  | zero =>
    intro i sz v S hi hz hX h
    exact T_X10_deal_34 ⟨fun _ => h S jch.rfl hX, fun c => absurd Int32.le_rfl c⟩
  | succ c ih =>
    intro i sz v S hi hz hX h
    refine T_X10_deal_34 ⟨fun c' => absurd c' ?_, fun _ => ⟨hX.1, x + 1, hX.2.1, hX.k3, x + 2, hX.r0, hX.g.1.1, c_X0_joinByLot hX.g (by omega) (fun S1 c1 g1 => ?_)⟩⟩
    · rw [Int32.le_iff_toInt_le, nI_toInt (by omega), nI_toInt (by omega)]; omega
    · have h1 := hX.lot (by omega) c1 g1
      rw [nI_1]
      have e : i + (c + 1) = i + 1 + c := by omega
      rw [e] at h ⊢
      refine ih (i + 1) (sz + 1) (vlot v sz) S1 (by omega) (by omega) h1 (fun S' c' h' => h S' (c1.trans c') ?_)
      rw [show sz + (c + 1) = sz + 1 + c by omega]
      exact h'
theorem c_X11_drawn {Q : Int32 → jM → Prop} (hM : MR S m v) (h : ∀ S', jch S S' (m + 1) (m + 2) → MR S' m (upd v 8 (jlot (v 8))) → Q (jushr (jlot (v 8)) 8) S') : jFi E mX11_drawn d 0 0 [.ref m] S Q := by
  obtain ⟨a1, a2⟩ := hM.at (i := 8) 8 rfl (by omega)
  refine T_X11_drawn ⟨hM.k, m + 1, hM.r, hM.k1, a1, ?_⟩
  rw [a2]
  exact h _ (jch.put (by omega) (by omega)) (hM.puts 8 rfl (by omega))
theorem l_X11_deal {Q : Int32 → jM → Prop} {n : Nat} (hn : n ≤ 9) : ∀ (c i sz : Nat) (v : Nat → Int32) (S : jM), i + c ≤ n → sz + c ≤ 9 → (i + c = n ∨ sz + c = 9) → v 0 = nI sz → MR S m v → (∀ S', jch S S' (m + 1) (m + 2) → MR S' m (vlots c sz v) → Q (nI (i + c)) S') → L_X11_deal_17 E (d + 1) Q m (nI n) (nI i) S := by
  intro c
  induction c with
  | zero =>
    intro i sz v S hi hz hs h0 hM h
    have i0 := hM.at (i := 0) 0 rfl (by omega)
    refine T_X11_deal_17 ⟨fun _ => h S jch.rfl hM, fun c => ⟨hM.k, _, hM.r, hM.k1, i0.1, fun _ => h S jch.rfl hM, fun c9 => absurd ?_ c9⟩⟩
    rw [i0.2, h0]
    rcases hs with hs | hs
    · exfalso
      rw [Int32.le_iff_toInt_le, nI_toInt (by omega), nI_toInt (by omega)] at c
      omega
    · obtain rfl : sz = 9 := by omega
      decide
  | succ c ih =>
    intro i sz v S hi hz hs h0 hM h
    have i0 := hM.at (i := 0) 0 rfl (by omega)
    refine T_X11_deal_17 ⟨fun c' => absurd c' ?_, fun _ => ⟨hM.k, _, hM.r, hM.k1, i0.1, fun c9 => absurd c9 ?_, fun _ => ?_⟩⟩
    · rw [Int32.le_iff_toInt_le, nI_toInt (by omega), nI_toInt (by omega)]; omega
    · rw [i0.2, h0]; exact nI_ge (b := 9) (by omega) (by omega)
    · refine c_X11_drawn hM (fun S1 c1 h1 => ⟨h1.k, c_X11_drawn h1 (fun S2 c2 h2 => ⟨h2.k, c_X11_drawn h2 (fun S3 c3 h3 => ⟨h3.k, c_X11_drawn h3 (fun S4 c4 h4 => ⟨h4.k, ?_⟩)⟩)⟩)⟩)
      rw [upd_at, upd_at, upd_at] at *
      have hM4 : MR S4 m (upd v 8 (jz4 (v 8))) := ⟨h4.1, fun j => (h4.2 j).trans (by
        by_cases j8 : j = 8
        · subst j8; rw [upd_at, upd_at]; rfl
        · rw [upd_ne _ j8, upd_ne _ j8, upd_ne _ j8, upd_ne _ j8, upd_ne _ j8])⟩
      refine c_X11_comes hM4 (by rw [upd_ne _ (by omega)]; exact h0) (by omega) (fun S5 c5 h5 => ?_)
      rw [nI_1]
      have e : i + (c + 1) = i + 1 + c := by omega
      rw [e] at h
      exact ih (i + 1) (sz + 1) (vlot v sz) S5 (by omega) (by omega) (by omega) vlot_0 h5 (fun S' c' h' => h S' ((((c1.trans c2).trans (c3.trans c4)).trans c5).trans c') h')
theorem P_deal {w : Int32} (hP : PI S x sz v) : jFi E mX10_deal (d + 3) 0 0 [.ref x, .int w] S (fun r S1 => jFm E mX11_deal (d + 2) (x + 94) [.int w] S1 (fun r' S2 => PO S x r r' S2)) := by
  have hX := hP.1
  have hz := hX.sz9
  rcases jisin_ab w (lo := 1) (hi := 9) 1 9 rfl rfl (by omega) (by omega) with ⟨n, n1, n9, rfl, hj⟩ | ⟨hw, hj⟩
  · refine T_X10_deal ⟨fun c => absurd c (by rw [show (1 : Int32) = nI 1 from rfl, Int32.lt_iff_toInt_lt, nI_toInt (by omega), nI_toInt (by omega)]; omega), fun _ => ⟨fun _ => ⟨hX.1, x + 1, hX.2.1, hX.k3, x + 2, hX.r0, hX.g.1.1, ?_⟩, fun c => absurd (by rw [show (9 : Int32) = nI 9 from rfl, Int32.le_iff_toInt_le, nI_toInt (by omega), nI_toInt (by omega)]; omega) c⟩⟩
    have ec : ∃ c, c ≤ n ∧ sz + c ≤ 9 ∧ (c = n ∨ sz + c = 9) ∧ jmin (nI n) (9 - ji S (x + 2) 1) = nI (0 + c) := by
      rw [hX.g.2.1, show (9 : Int32) = nI 9 from rfl, pk_sub hz]
      unfold jmin
      by_cases hl : 9 - sz < n
      · refine ⟨9 - sz, by omega, by omega, Or.inr (by omega), ?_⟩
        rw [if_pos (by rw [Int32.lt_iff_toInt_lt, nI_toInt (by omega), nI_toInt (by omega)]; omega), Nat.zero_add]
      · refine ⟨n, by omega, by omega, Or.inl rfl, ?_⟩
        rw [if_neg (by rw [Int32.lt_iff_toInt_lt, nI_toInt (by omega), nI_toInt (by omega)]; omega), Nat.zero_add]
    obtain ⟨c, h1, h2, h3, e⟩ := ec
    rw [e]
    refine l_X10_deal c 0 sz v S (by omega) h2 hX (fun S1 c1 hX1 => ?_)
    have hM := hP.2.1.keep c1 (by omega)
    refine U_X11_deal (by first | exact hM.k | exact hM1.k | exact hP.2.1.k | exact h.2.2.1.1 | exact h.1.1 | exact g1.1.1 | exact g3.1.1 | exact gm.1.1 | exact h2.1.1 | exact hM2.k | (rw [c1.1.1]; exact hP.2.1.k)) ⟨fun c => absurd (hj.symm.trans c) (by decide), fun _ => l_X11_deal n9 c 0 sz v S1 (by omega) h2 (by omega) hX.v0 hM (fun S2 c2 hM2 => ?_)⟩
    exact ⟨rfl, (jfr.realm c1 (by omega) (by omega)).trans (jfr.row c2), tkOf hP.2.1 hM2 (fun j hj => vlots_o c sz v (by omega) j hj), sz + c, _, hX1.of c2.1 (hX1.2.2.keep c2 (by omega)), hM2, Rg.lots c sz v hP.2.2⟩
  · have bad : jFm E mX11_deal (d + 2) (x + 94) [.int w] S (fun r' S2 => PO S x kBAD r' S2) := U_X11_deal (by first | exact hM.k | exact hM1.k | exact hP.2.1.k | exact h.2.2.1.1 | exact h.1.1 | exact g1.1.1 | exact g3.1.1 | exact gm.1.1 | exact h2.1.1 | exact hM2.k | (rw [c1.1.1]; exact hP.2.1.k)) ⟨fun _ => hP.same, fun c => absurd hj c⟩
    refine T_X10_deal ⟨fun _ => bad, fun c1 => ⟨fun c2 => ?_, fun _ => bad⟩⟩
    exfalso
    rw [show (1 : Int32) = nI 1 from rfl, Int32.lt_iff_toInt_lt, nI_toInt (by omega)] at c1
    obtain ⟨j, hj, e⟩ := jofI (x := w) (n := 10) (by omega) (by rw [Int32.le_iff_toInt_le]; show (0 : Int) ≤ _; omega) (by rw [show (9 : Int32) = nI 9 from rfl, Int32.le_iff_toInt_le, nI_toInt (by omega)] at c2; rw [Int32.lt_iff_toInt_lt, nI_toInt (by omega)]; omega)
    rw [e, nI_toInt (by omega)] at c1
    exact hw j (by omega) (by omega) e
end jDeal
end
section
/-! LAST on both sides; the dead, counted by the reference -/
section jLast
variable {E : jEnv} {d : Nat} {S : jM} {x m sz : Nat} {v : Nat → Int32}
def jlres (mf : Nat → Nat → Int32) (ge : Int32) (c : Nat) (one : Int32) (n i : Nat) : Int32 := if c = 0 then monly mf ge n i kNONE else if c = 1 then monly mf ge n i one else kNONE
theorem l_X11_last {Q : Int32 → jM → Prop} {ge : Int32} (hM : MR S m v) (h0 : v 0 = nI sz) (hz : sz ≤ 9) : ∀ (n i c : Nat) (one : Int32), i + n = sz → c ≤ i → (c = 1 → one ≠ kNONE) → Q (jlres (mfv v) ge c one n i) S → L_X11_last_17 E d Q m ge one (nI c) (nI i) S := by
  have i0 := hM.at (i := 0) 0 rfl (by omega)
  intro n
  induction n with
  | zero =>
    intro i c one hi hc ho h
    obtain rfl : i = sz := by omega
    refine T_X11_last_17 ⟨hM.k, _, hM.r, hM.k1, i0.1, fun _ => ⟨fun c1 => ?_, fun c1 => ?_⟩, fun cc => absurd (by rw [i0.2, h0]; exact Int32.le_rfl) cc⟩
    · have : c = 1 := nI_inj (by omega) (by omega) (show nI c = nI 1 from c1)
      subst this
      exact h
    · have hc1 : c ≠ 1 := fun e => c1 (by rw [e]; rfl)
      unfold jlres at h
      by_cases hc0 : c = 0
      · rw [if_pos hc0] at h; exact h
      · rw [if_neg hc0, if_neg hc1] at h; exact h
  | succ n ih =>
    intro i c one hi hc ho h
    refine T_X11_last_17 ⟨hM.k, _, hM.r, hM.k1, i0.1, fun cc => absurd cc ?_, fun _ => c_X11_of (f := 6) hM (by omega) (by omega) ⟨fun c6 => ⟨hM.k, c_X11_of (f := 2) hM (by omega) (by omega) ⟨fun c2 => ?_, fun c2 => ?_⟩⟩, fun c6 => ?_⟩⟩
    · rw [i0.2, h0, Int32.le_iff_toInt_le, nI_toInt (by omega), nI_toInt (by omega)]; omega
    · rw [nI_1, nI_1]
      refine ih (i + 1) (c + 1) (nI i) (by omega) (by omega) (fun _ => ?_) ?_
      · intro e
        have := congrArg Int32.toInt e
        rw [nI_toInt (by omega)] at this
        have e2 : (kNONE : Int32).toInt = -1000000005 := by decide
        omega
      · unfold jlres at h ⊢
        rw [if_neg (by omega)]
        by_cases hc0 : c = 0
        · subst hc0
          rw [if_pos rfl] at h
          rw [if_pos rfl]
          unfold monly at h
          rw [if_pos c6, if_pos c2, if_pos rfl] at h
          exact h
        · rw [if_neg hc0] at h
          rw [if_neg (by omega)]
          by_cases hc1 : c = 1
          · rw [if_pos hc1] at h
            unfold monly at h
            rw [if_pos c6, if_pos c2, if_neg (ho hc1)] at h
            exact h
          · rw [if_neg hc1] at h; exact h
    · rw [nI_1]
      refine ih (i + 1) c one (by omega) (by omega) ho ?_
      unfold jlres at h ⊢
      unfold monly at h
      rw [if_pos c6, if_neg c2, if_pos c6, if_neg c2] at h
      exact h
    · rw [nI_1]
      refine ih (i + 1) c one (by omega) (by omega) ho ?_
      unfold jlres at h ⊢
      unfold monly at h
      rw [if_neg c6, if_neg c6] at h
      exact h
theorem P_last {w : Int32} (hP : PI S x sz v) : jFi E mX10_last (d + 3) 0 0 [.ref x, .int w] S (fun r S1 => jFm E mX11_last (d + 1) (x + 94) [.int w] S1 (fun r' S2 => PO S x r r' S2)) := by
  have hX := hP.1
  refine T_X10_last ⟨fun c => U_X11_last (by first | exact hM.k | exact hM1.k | exact hP.2.1.k | exact h.2.2.1.1 | exact h.1.1 | exact g1.1.1 | exact g3.1.1 | exact gm.1.1 | exact h2.1.1 | exact hM2.k | (rw [c1.1.1]; exact hP.2.1.k)) ⟨fun _ => hP.same, fun c' => absurd c c'⟩, fun cw => ⟨hX.1, x + 1, hX.2.1, hX.k3, x + 2, hX.r0, hX.g.1.1, c_X0_onlyTeacher hX.g hX.sz9 ?_⟩⟩
  exact U_X11_last (by first | exact hM.k | exact hM1.k | exact hP.2.1.k | exact h.2.2.1.1 | exact h.1.1 | exact g1.1.1 | exact g3.1.1 | exact gm.1.1 | exact h2.1.1 | exact hM2.k | (rw [c1.1.1]; exact hP.2.1.k)) ⟨fun c' => absurd c' cw, fun _ => l_X11_last hP.2.1 hX.v0 hX.sz9 sz 0 0 (-1) (by omega) (by omega) (fun c => absurd c (by omega)) hP.same⟩
/-- the dead -/
theorem c_X11_dead {Q : Int32 → jM → Prop} (hM : MR S m v) (h0 : v 0 = nI sz) (hz : sz ≤ 9) (hg : Rg sz v) (h : Q (mdead (mfv v) sz) S) : jFi E mX11_allOf (d + 1) 0 0 [.ref m, .int 6] S Q := by
  have i0 := hM.at (i := 0) 0 rfl (by omega)
  have key : ∀ (n i : Nat) (a : Int32), i + n = sz → Q (jfold (fun i a => if mfv v i 6 = 0 then a + 0 else a + 1) n i a) S → L_X11_allOf_4 E d Q m 6 a (nI i) S := by
    intro n
    induction n with
    | zero =>
      intro i a hi hh
      obtain rfl : i = sz := by omega
      exact T_X11_allOf_4 ⟨hM.k, _, hM.r, hM.k1, i0.1, fun _ => hh, fun cc => absurd (by rw [i0.2, h0]; exact Int32.le_rfl) cc⟩
    | succ n ih =>
      intro i a hi h
      refine T_X11_allOf_4 ⟨hM.k, _, hM.r, hM.k1, i0.1, fun cc => absurd cc ?_, fun _ => c_X11_of (f := 6) hM (by omega) (by omega) ?_⟩
      · rw [i0.2, h0, Int32.le_iff_toInt_le, nI_toInt (by omega), nI_toInt (by omega)]; omega
      · rw [nI_1]
        refine ih (i + 1) _ (by omega) ?_
        unfold jfold at h
        obtain ⟨k, hk, e⟩ := hg.ms (i := i) (f := 6) (by omega) (by omega)
        rw [rgb_m i 6 (by omega)] at hk
        have hk : k < 2 := hk
        rcases (show k = 0 ∨ k = 1 by omega) with rfl | rfl
        · rw [if_pos (by rw [e]; rfl)] at h
          rw [e]; exact h
        · rw [if_neg (by rw [e]; decide)] at h
          rw [e]; exact h
  exact T_X11_allOf (key sz 0 0 (by omega) h)
end jLast
end
section
/-! A YEAR, by the reference -/
/-- the row with lot and masters otherwise -/
def vg (v : Nat → Int32) (p : gst) : Nat → Int32 := fun j => if j = 8 then p.1 else if 72 ≤ j ∧ j < 135 then p.2 ((j - 72) / 7) ((j - 72) % 7) else v j
/-- a year with the dead counted -/
def yoneC (i : Nat) (q : gst × Int32) : gst × Int32 := (yone i q.1, if q.1.2 i 6 = 0 then (if q.1.2 i 5 - 50 ≤ jrem (jushr (jlot q.1.1) 8) 100 then q.2 else q.2 + 1) else q.2)
section jYear
variable {E : jEnv} {d : Nat} {S : jM} {x m sz : Nat} {v : Nat → Int32}
theorem vg_8 (p : gst) : vg v p 8 = p.1 := by unfold vg; rw [if_pos rfl]
theorem vg_m (p : gst) {i f : Nat} (hi : i < 9) (hf : f < 7) : vg v p (72 + 7 * i + f) = p.2 i f := by
  unfold vg
  rw [if_neg (by omega), if_pos (by omega), show (72 + 7 * i + f - 72) / 7 = i by omega, show (72 + 7 * i + f - 72) % 7 = f by omega]
theorem vg_o (p : gst) {j : Nat} (h8 : j ≠ 8) (h : j < 72 ∨ 135 ≤ j) : vg v p j = v j := by
  unfold vg
  rw [if_neg h8, if_neg (by omega)]
theorem vg_set (p : gst) (z w : Int32) {i f : Nat} (hi : i < 9) (hf : f < 7) (j : Nat) : upd (upd (vg v p) 8 z) (72 + 7 * i + f) w j = vg v (z, mset p.2 i f w) j := by
  by_cases h1 : j = 72 + 7 * i + f
  · subst h1; rw [upd_at, vg_m _ hi hf]; unfold mset; show w = if i = i ∧ f = f then w else _; rw [if_pos ⟨rfl, rfl⟩]
  · rw [upd_ne _ h1]
    by_cases h8 : j = 8
    · subst h8; rw [upd_at, vg_8]
    · rw [upd_ne _ h8]
      unfold vg mset
      rw [if_neg h8, if_neg h8]
      by_cases hr : 72 ≤ j ∧ j < 135
      · rw [if_pos hr, if_pos hr]
        show _ = if (j - 72) / 7 = i ∧ (j - 72) % 7 = f then w else _
        rw [if_neg (by omega)]
      · rw [if_neg hr, if_neg hr]
theorem jage {k : Nat} (hk : k < 100) : jclamp (nI k + 1) 0 99 = jmin 99 (nI k + 1) ∧ ∃ n, n < 100 ∧ jmin 99 (nI k + 1) = nI n := by
  have e : ∀ k : Fin 100, jclamp (nI k.val + 1) 0 99 = jmin 99 (nI k.val + 1) ∧ ∃ n : Fin 100, jmin 99 (nI k.val + 1) = nI n.val := by decide +kernel
  obtain ⟨h1, n, h2⟩ := e ⟨k, hk⟩
  exact ⟨h1, n.val, n.isLt, h2⟩
theorem l_X11_year {Q : Int32 → jM → Prop} (h0 : v 0 = nI sz) (hz : sz ≤ 9) : ∀ (n i : Nat) (p : gst) (a : Int32) (S : jM), i + n = sz → MR S m (vg v p) → Rg sz (vg v p) → (∀ S', jch S S' (m + 1) (m + 2) → MR S' m (vg v (jfold yoneC n i (p, a)).1) → Rg sz (vg v (jfold yoneC n i (p, a)).1) → Q (jfold yoneC n i (p, a)).2 S') → L_X11_year_4 E (d + 1) Q m a (nI i) S := by
  intro n
  induction n with
  | zero =>
    intro i p a S hi hM hg h
    have i0 := hM.at (i := 0) 0 rfl (by omega)
    rw [vg_o p (by omega) (by omega), h0] at i0
    obtain rfl : i = sz := by omega
    exact T_X11_year_4 ⟨hM.k, _, hM.r, hM.k1, i0.1, fun _ => h S jch.rfl hM hg, fun cc => absurd (by rw [i0.2]; exact Int32.le_rfl) cc⟩
  | succ n ih =>
    intro i p a S hi hM hg h
    have i0 := hM.at (i := 0) 0 rfl (by omega)
    rw [vg_o p (by omega) (by omega), h0] at i0
    have b5 : (72 + 7 * nI i + 5 : Int32) = nI (72 + 7 * i + 5) := nI_mst i 5
    have b6 : (72 + 7 * nI i + 6 : Int32) = nI (72 + 7 * i + 6) := nI_mst i 6
    obtain ⟨d1, d2⟩ := hM.at _ b6 (by omega)
    rw [vg_m p (by omega) (by omega)] at d2
    have ihn := ih (i + 1)
    have hstep : jfold yoneC (n + 1) i (p, a) = jfold yoneC n (i + 1) (yoneC i (p, a)) := rfl
    rw [hstep] at h
    refine T_X11_year_4 ⟨hM.k, _, hM.r, hM.k1, i0.1, fun cc => absurd cc ?_, fun _ => ⟨d1, ?_⟩⟩
    · rw [i0.2, Int32.le_iff_toInt_le, nI_toInt (by omega), nI_toInt (by omega)]; omega
    · rw [d2, nI_1]
      refine ⟨fun c6 => c_X11_drawn hM (fun S1 c1 h1 => ?_), fun c6 => ?_⟩
      · rw [vg_8] at h1 ⊢
        obtain ⟨a1, a2⟩ := h1.at _ b5 (by omega)
        rw [upd_ne _ (by omega), vg_m p (by omega) (by omega)] at a2
        obtain ⟨k, hk, ek⟩ := hg (72 + 7 * i + 5) (by omega) (by rw [rgb_m i 5 (by omega)]; decide)
        rw [vg_m p (by omega) (by omega)] at ek
        rw [rgb_m i 5 (by omega)] at hk
        have hk : k < 100 := hk
        obtain ⟨g1, g2⟩ := jage hk
        rw [← ek] at g1 g2
        refine ⟨h1.k, _, h1.r, h1.k1, a1, ?_⟩
        rw [a2, g1]
        refine ⟨fun c5 => ?_, fun c5 => ⟨(h1.at _ b6 (by omega)).1, ?_⟩⟩
        · have ey : yoneC i (p, a) = ((jlot p.1, mset p.2 i 5 (jmin 99 (p.2 i 5 + 1))), a) := by unfold yoneC yone; simp only [if_pos c6, if_pos c5]
          have h2 := h1.puts (w := jmin 99 (p.2 i 5 + 1)) _ b5 (by omega)
          have hM2 : MR (jput S1 (m + 1) (Int32.toNatClampNeg (72 + 7 * nI i + 5)) (jmin 99 (p.2 i 5 + 1))) m (vg v (jlot p.1, mset p.2 i 5 (jmin 99 (p.2 i 5 + 1)))) := ⟨h2.1, fun j => (h2.2 j).trans (vg_set p _ _ (by omega) (by omega) j)⟩
          have hg2 : Rg sz (vg v (jlot p.1, mset p.2 i 5 (jmin 99 (p.2 i 5 + 1)))) := by
            intro j hj hb
            rw [← vg_set p _ _ (by omega) (by omega) j]
            exact ((hg.put (n := 8) (w := jlot p.1) (fun c => absurd rfl c)).put (n := 72 + 7 * i + 5) (w := jmin 99 (p.2 i 5 + 1)) (fun _ => by obtain ⟨q, hq, eq⟩ := g2; exact ⟨q, by rw [rgb_m i 5 (by omega)]; exact hq, eq⟩)) j hj hb
          rw [ey] at h
          exact ihn _ a _ (by omega) hM2 hg2 (fun S' c' h' g' => h S' ((c1.trans (jch.put (by omega) (by omega))).trans c') h' g')
        · have ey : yoneC i (p, a) = ((jlot p.1, mset p.2 i 6 1), a + 1) := by unfold yoneC yone; simp only [if_pos c6, if_neg c5]
          have h2 := h1.puts (w := 1) _ b6 (by omega)
          have hM2 : MR (jput S1 (m + 1) (Int32.toNatClampNeg (72 + 7 * nI i + 6)) 1) m (vg v (jlot p.1, mset p.2 i 6 1)) := ⟨h2.1, fun j => (h2.2 j).trans (vg_set p _ _ (by omega) (by omega) j)⟩
          have hg2 : Rg sz (vg v (jlot p.1, mset p.2 i 6 1)) := by
            intro j hj hb
            rw [← vg_set p _ _ (by omega) (by omega) j]
            exact ((hg.put (n := 8) (w := jlot p.1) (fun c => absurd rfl c)).put (n := 72 + 7 * i + 6) (w := 1) (fun _ => ⟨1, by rw [rgb_m i 6 (by omega)]; decide, rfl⟩)) j hj hb
          rw [ey] at h
          exact ihn _ (a + 1) _ (by omega) hM2 hg2 (fun S' c' h' g' => h S' ((c1.trans (jch.put (by omega) (by omega))).trans c') h' g')
      · have ey : yoneC i (p, a) = (p, a) := by unfold yoneC yone; simp only [if_neg c6]
        rw [ey] at h
        exact ihn p a S (by omega) hM hg h
end jYear
end
section
/-! YEARS on both sides -/
theorem j_tele (a x y z : Int32) : a + (y - x) + (z - y) = a + (z - x) := by
  apply Int32.toBitVec_inj.mp
  show a.toBitVec + (y.toBitVec - x.toBitVec) + (z.toBitVec - y.toBitVec) = a.toBitVec + (z.toBitVec - x.toBitVec)
  apply BitVec.eq_of_toNat_eq
  simp only [BitVec.toNat_add, BitVec.toNat_sub]
  have h1 := a.toBitVec.isLt
  have h2 := x.toBitVec.isLt
  have h3 := y.toBitVec.isLt
  have h4 := z.toBitVec.isLt
  omega
theorem j_swap (a : Int32) : a + 1 + 0 = a + 0 + 1 := by rw [Int32.add_zero, Int32.add_zero]
def dst (mf : Nat → Nat → Int32) (i : Nat) (a : Int32) : Int32 := if mf i 6 = 0 then a + 0 else a + 1
theorem dsh (mf : Nat → Nat → Int32) : ∀ (n k : Nat) (a : Int32), jfold (dst mf) n k (a + 1) = jfold (dst mf) n k a + 1
  | 0, _, _ => rfl
  | n + 1, k, a => by
    show jfold (dst mf) n (k + 1) (dst mf k (a + 1)) = jfold (dst mf) n (k + 1) (dst mf k a) + 1
    rw [← dsh mf n (k + 1)]
    congr 1
    unfold dst
    split
    · exact j_swap a
    · rfl
theorem dset {mf : Nat → Nat → Int32} {i : Nat} (h0 : mf i 6 = 0) : ∀ (n k : Nat) (a : Int32), jfold (dst (mset mf i 6 1)) n k a = if k ≤ i ∧ i < k + n then jfold (dst mf) n k a + 1 else jfold (dst mf) n k a
  | 0, k, a => by rw [if_neg (by omega)]; rfl
  | n + 1, k, a => by
    show jfold (dst (mset mf i 6 1)) n (k + 1) (dst (mset mf i 6 1) k a) = _
    rw [dset h0 n (k + 1)]
    by_cases hk : k = i
    · subst hk
      rw [if_neg (by omega), if_pos (by omega)]
      have e1 : dst (mset mf k 6 1) k a = a + 1 := by
        have hm : mset mf k 6 1 k 6 = 1 := by unfold mset; rw [if_pos ⟨rfl, rfl⟩]
        unfold dst; rw [hm, if_neg (by decide)]
      have e2 : dst mf k a = a := by unfold dst; rw [if_pos h0, Int32.add_zero]
      show jfold (dst mf) n (k + 1) (dst (mset mf k 6 1) k a) = jfold (dst mf) n (k + 1) (dst mf k a) + 1
      rw [e1, e2, dsh]
    · have e1 : dst (mset mf i 6 1) k a = dst mf k a := by
        have hm : mset mf i 6 1 k 6 = mf k 6 := by unfold mset; rw [if_neg (fun c => hk c.1)]
        unfold dst; rw [hm]
      rw [e1]
      show (if k + 1 ≤ i ∧ i < k + 1 + n then jfold (dst mf) n (k + 1) (dst mf k a) + 1 else jfold (dst mf) n (k + 1) (dst mf k a)) = if k ≤ i ∧ i < k + (n + 1) then jfold (dst mf) n (k + 1) (dst mf k a) + 1 else jfold (dst mf) n (k + 1) (dst mf k a)
      by_cases hi : k + 1 ≤ i ∧ i < k + 1 + n
      · rw [if_pos hi, if_pos (by omega)]
      · rw [if_neg hi, if_neg (by omega)]
theorem dset5 {mf : Nat → Nat → Int32} {i : Nat} {w : Int32} : dst (mset mf i 5 w) = dst mf := by
  funext k a
  have hm : mset mf i 5 w k 6 = mf k 6 := by unfold mset; rw [if_neg (fun c => absurd c.2 (by omega))]
  unfold dst; rw [hm]
theorem yoneC_dead {sz i : Nat} (hi : i < sz) (p : gst) (a : Int32) : (yoneC i (p, a)).2 = a + (mdead (yoneC i (p, a)).1.2 sz - mdead p.2 sz) := by
  have z : ∀ y : Int32, a = a + (y - y) := fun y => by rw [Int32.sub_self, Int32.add_zero]
  unfold yoneC yone
  simp only
  by_cases c6 : p.2 i 6 = 0
  · rw [if_pos c6, if_pos c6]
    by_cases c5 : p.2 i 5 - 50 ≤ jrem (jushr (jlot p.1) 8) 100
    · rw [if_pos c5, if_pos c5]
      have e : mdead (mset p.2 i 5 (jmin 99 (p.2 i 5 + 1))) sz = mdead p.2 sz := by
        show jfold (dst (mset p.2 i 5 (jmin 99 (p.2 i 5 + 1)))) sz 0 0 = jfold (dst p.2) sz 0 0
        rw [dset5]
      show a = a + (mdead (mset p.2 i 5 (jmin 99 (p.2 i 5 + 1))) sz - mdead p.2 sz)
      rw [e]; exact z _
    · rw [if_neg c5, if_neg c5]
      have e : mdead (mset p.2 i 6 1) sz = mdead p.2 sz + 1 := by
        show jfold (dst (mset p.2 i 6 1)) sz 0 0 = jfold (dst p.2) sz 0 0 + 1
        rw [dset c6, if_pos (by omega)]
      show a + 1 = a + (mdead (mset p.2 i 6 1) sz - mdead p.2 sz)
      rw [e]
      congr 1
      rw [Int32.add_comm]
      exact (Int32.add_sub_cancel 1 _).symm
  · rw [if_neg c6, if_neg c6]; exact z _
theorem yfold_dead {sz : Nat} : ∀ (n i : Nat) (p : gst) (a : Int32), i + n ≤ sz → (jfold yoneC n i (p, a)).2 = a + (mdead (jfold yoneC n i (p, a)).1.2 sz - mdead p.2 sz)
  | 0, i, p, a, _ => by
    show a = a + (mdead p.2 sz - mdead p.2 sz)
    rw [Int32.sub_self, Int32.add_zero]
  | n + 1, i, p, a, h => by
    have e := yoneC_dead (sz := sz) (i := i) (by omega) p a
    have r := yfold_dead (sz := sz) n (i + 1) (yoneC i (p, a)).1 (yoneC i (p, a)).2 (by omega)
    show (jfold yoneC n (i + 1) (yoneC i (p, a))).2 = a + (mdead (jfold yoneC n (i + 1) (yoneC i (p, a))).1.2 sz - mdead p.2 sz)
    have r2 : (jfold yoneC n (i + 1) (yoneC i (p, a))).2 = (yoneC i (p, a)).2 + (mdead (jfold yoneC n (i + 1) (yoneC i (p, a))).1.2 sz - mdead (yoneC i (p, a)).1.2 sz) := r
    rw [r2, e]
    exact j_tele _ _ _ _
theorem yfold_fst : ∀ (n i : Nat) (p : gst) (a : Int32), (jfold yoneC n i (p, a)).1 = jfold yone n i p
  | 0, _, _, _ => rfl
  | n + 1, i, p, a => yfold_fst n (i + 1) (yone i p) (yoneC i (p, a)).2
section jYears
variable {E : jEnv} {d : Nat} {S : jM} {x m sz : Nat} {v : Nat → Int32}
theorem c_X11_year {Q : Int32 → jM → Prop} {p : gst} (h0 : v 0 = nI sz) (hz : sz ≤ 9) (hM : MR S m (vg v p)) (hg : Rg sz (vg v p)) (h : ∀ S', jch S S' (m + 1) (m + 2) → MR S' m (vg v (yyear sz p)) → Rg sz (vg v (yyear sz p)) → Q (0 + (mdead (yyear sz p).2 sz - mdead p.2 sz)) S') : jFi E mX11_year (d + 2) 0 0 [.ref m] S Q := by
  refine T_X11_year (l_X11_year h0 hz sz 0 p 0 S (by omega) hM hg (fun S' c' h' g' => ?_))
  rw [yfold_dead (sz := sz) sz 0 p 0 (by omega)]
  rw [yfold_fst] at h' g' ⊢
  exact h S' c' h' g'
theorem l_X11_years {Q : Int32 → jM → Prop} {n : Nat} (hn : n < 1000) (h0 : v 0 = nI sz) (hz : sz ≤ 9) : ∀ (c j : Nat) (p : gst) (a : Int32) (S : jM), j + c = n → MR S m (vg v p) → Rg sz (vg v p) → (∀ S', jch S S' (m + 1) (m + 2) → MR S' m (vg v (yyears sz c p)) → Rg sz (vg v (yyears sz c p)) → Q (a + (mdead (yyears sz c p).2 sz - mdead p.2 sz)) S') → L_X11_years_19 E (d + 2) Q m (nI n) a (nI j) S := by
  intro c
  induction c with
  | zero =>
    intro j p a S hj hM hg h
    obtain rfl : j = n := by omega
    have h1 := h S jch.rfl hM hg
    have e : a + (mdead (yyears sz 0 p).2 sz - mdead p.2 sz) = a := by
      show a + (mdead p.2 sz - mdead p.2 sz) = a
      rw [Int32.sub_self, Int32.add_zero]
    rw [e] at h1
    exact T_X11_years_19 ⟨fun _ => h1, fun cc => absurd Int32.le_rfl cc⟩
  | succ c ih =>
    intro j p a S hj hM hg h
    refine T_X11_years_19 ⟨fun cc => absurd cc ?_, fun _ => ⟨hM.k, c_X11_year h0 hz hM hg (fun S1 c1 h1 g1 => ?_)⟩⟩
    · rw [Int32.le_iff_toInt_le, nI_toInt (by omega), nI_toInt (by omega)]; omega
    · rw [nI_1]
      refine ih (j + 1) (yyear sz p) _ S1 (by omega) h1 g1 (fun S' c' h' g' => ?_)
      have h2 := h S' (c1.trans c') h' g'
      rw [Int32.zero_add, j_tele]
      exact h2
theorem vg_self (j : Nat) : vg v (v 8, mfv v) j = v j := by
  unfold vg
  by_cases h8 : j = 8
  · subst h8; rw [if_pos rfl]
  · rw [if_neg h8]
    by_cases hr : 72 ≤ j ∧ j < 135
    · rw [if_pos hr]
      show v (72 + 7 * ((j - 72) / 7) + (j - 72) % 7) = v j
      congr 1; omega
    · rw [if_neg hr]
theorem P_years {w : Int32} (hP : PI S x sz v) : jFi E mX10_years (d + 4) 0 0 [.ref x, .int w] S (fun r S1 => jFm E mX11_years (d + 3) (x + 94) [.int w] S1 (fun r' S2 => PO S x r r' S2)) := by
  have hX := hP.1
  have hz := hX.sz9
  rcases jisin_ab w (lo := 1) (hi := 60) 1 60 rfl rfl (by omega) (by omega) with ⟨n, n1, n9, rfl, hj⟩ | ⟨hw, hj⟩
  · refine T_X10_years ⟨fun c => absurd c (by rw [show (1 : Int32) = nI 1 from rfl, Int32.lt_iff_toInt_lt, nI_toInt (by omega), nI_toInt (by omega)]; omega), fun _ => ⟨fun _ => ⟨hX.1, x + 1, hX.2.1, hX.k3, x + 2, hX.r0, hX.g.1.1, c_X0_countDead hX.g hz ⟨hX.1, x + 1, hX.2.1, hX.k3, x + 2, hX.r0, hX.g.1.1, c_X0_liveYears hX.g hz (by omega) (fun S1 c1 g1 => ?_)⟩⟩, fun c => absurd (by rw [show (60 : Int32) = nI 60 from rfl, Int32.le_iff_toInt_le, nI_toInt (by omega), nI_toInt (by omega)]; omega) c⟩⟩
    have h1 : XR S1 x sz (vg v (yyears sz n (v 8, mfv v))) := by
      refine hX.of c1.1 (hX.2.2.guild c1 ?_ hz (by rw [vg_o _ (by omega) (by omega)]; exact hX.v0) (fun j p0 p8 pj => vg_o _ p8 pj))
      rw [vg_8]
      exact g1.cong (fun i hi f hf => (vg_m _ hi hf).symm)
    refine ⟨h1.1, x + 1, h1.2.1, h1.k3, x + 2, h1.r0, h1.g.1.1, c_X0_countDead g1 hz ?_⟩
    have hM := hP.2.1.keep c1 (by omega)
    refine U_X11_years (by first | exact hM.k | exact hM1.k | exact hP.2.1.k | exact h.2.2.1.1 | exact h.1.1 | exact g1.1.1 | exact g3.1.1 | exact gm.1.1 | exact h2.1.1 | exact hM2.k | (rw [c1.1.1]; exact hP.2.1.k)) ⟨fun c => absurd (hj.symm.trans c) (by decide), fun _ => l_X11_years (n := n) (v := v) (by omega) hX.v0 hz n 0 (v 8, mfv v) 0 S1 (by omega) ⟨hM.1, fun j => (hM.2 j).trans (vg_self j).symm⟩ (fun j hj hb => by rw [vg_self]; exact hP.2.2 j hj hb) (fun S2 c2 h2 g2 => ?_)⟩
    exact ⟨(Int32.zero_add _).symm, (jfr.realm c1 (by omega) (by omega)).trans (jfr.row c2), tkOf hP.2.1 h2 (fun j hj => vg_o _ (by omega) (by omega)), sz, _, h1.of c2.1 (h1.2.2.keep c2 (by omega)), h2, g2⟩
  · have bad : jFm E mX11_years (d + 3) (x + 94) [.int w] S (fun r' S2 => PO S x kBAD r' S2) := U_X11_years (by first | exact hM.k | exact hM1.k | exact hP.2.1.k | exact h.2.2.1.1 | exact h.1.1 | exact g1.1.1 | exact g3.1.1 | exact gm.1.1 | exact h2.1.1 | exact hM2.k | (rw [c1.1.1]; exact hP.2.1.k)) ⟨fun _ => hP.same, fun c => absurd hj c⟩
    refine T_X10_years ⟨fun _ => bad, fun c1 => ⟨fun c2 => ?_, fun _ => bad⟩⟩
    exfalso
    rw [show (1 : Int32) = nI 1 from rfl, Int32.lt_iff_toInt_lt, nI_toInt (by omega)] at c1
    obtain ⟨j, hj, e⟩ := jofI (x := w) (n := 61) (by omega) (by rw [Int32.le_iff_toInt_le]; show (0 : Int) ≤ _; omega) (by rw [show (60 : Int32) = nI 60 from rfl, Int32.le_iff_toInt_le, nI_toInt (by omega)] at c2; rw [Int32.lt_iff_toInt_lt, nI_toInt (by omega)]; omega)
    rw [e, nI_toInt (by omega)] at c1
    exact hw j (by omega) (by omega) e
end jYears
end
section
/-! THE START: both sides stand alike when they are made -/
section jStart
variable {S : jM} {x : Nat}
theorem Rg_start : Rg 0 v0 := by
  intro j _ hb
  unfold v0
  by_cases h5 : j = 5
  · subst h5; exact ⟨100, by decide, rfl⟩
  · rw [if_neg h5]
    by_cases h8 : j = 8
    · subst h8; exact absurd rfl hb
    · rw [if_neg h8]; exact ⟨0, Nat.pos_of_ne_zero hb, rfl⟩
theorem PI_start (h1 : CL S x) (h2 : CN S x) (h3 : ML S (x + 94)) (h4 : MN S (x + 94)) : PI S x 0 v0 :=
  ⟨⟨h1.1, h1.2.1.1, h2.1⟩, ⟨h3, h4.2.1⟩, Rg_start⟩
/-- what is fresh stays while later objects are made -/
theorem CL.grow {S' : jM} (h : CL S x) (hc : ∀ y, x ≤ y → y < x + 94 → jcs S S' y) : CL S' x := by
  obtain ⟨a1, ⟨r0, r1, r3, r4, r5, r6, r7, r8⟩, a2, a3, ⟨b1, b2, b3⟩, ⟨c1, c2, c3⟩, ⟨d1, d2⟩, e1, e2⟩ := h
  have cx := hc x (by omega) (by omega)
  have c63 := hc (x + 63) (by omega) (by omega)
  have c64 := hc (x + 64) (by omega) (by omega)
  have c65 := hc (x + 65) (by omega) (by omega)
  have rr := cx.2.2.2
  refine ⟨by rw [cx.1]; exact a1, ⟨by rw [rr]; exact r0, by rw [rr]; exact r1, by rw [rr]; exact r3, by rw [rr]; exact r4, by rw [rr]; exact r5, by rw [rr]; exact r6, by rw [rr]; exact r7, by rw [rr]; exact r8⟩, a2.grow (fun y p q => hc y (by omega) (by omega)), a3.grow (fun y p q => hc y (by omega) (by omega)), ⟨by rw [c63.1]; exact b1, by rw [c63.2.1]; exact b2, fun i hi => by rw [c63.2.2.2]; exact b3 i hi⟩, ⟨by rw [c64.1]; exact c1, by rw [c64.2.1]; exact c2, fun i hi => by rw [c64.2.2.2]; exact c3 i hi⟩, ⟨by rw [c65.1]; exact d1, by rw [c65.2.1]; exact d2⟩, fun i hi => ?_, fun i hi => (e2 i hi).grow (fun y p q => hc y (by omega) (by omega))⟩
  obtain ⟨s1, s2, s3, s4⟩ := e1 i hi
  have p1 := hc (x + 66 + 2 * i) (by omega) (by omega)
  have p2 := hc (x + 67 + 2 * i) (by omega) (by omega)
  exact ⟨by rw [p1.1]; exact s1, by rw [p1.2.2.2]; exact s2, by rw [p2.1]; exact s3, by rw [p2.2.1]; exact s4⟩
theorem CN.grow {S' : jM} (h : CN S x) (hc : ∀ y, x ≤ y → y < x + 94 → jcs S S' y) : CN S' x := by
  obtain ⟨a1, a2, a3, a4, a5, a6, a7, a8, a9, a10⟩ := h
  refine ⟨a1.grow (fun y p q => hc y (by omega) (by omega)), a2.grow (fun y p q => hc y (by omega) (by omega)), fun i hi => ?_, fun i hi => ?_, a5.grow (fun y p q => hc y (by omega) (by omega)), fun j => ?_, fun j => ?_, fun i hi => ?_, fun i hi => ?_, ?_⟩
  · rw [(hc (x + 20) (by omega) (by omega)).2.2.2]; exact a3 i hi
  · rw [(hc (x + 40) (by omega) (by omega)).2.2.2]; exact a4 i hi
  · rw [(hc (x + 60) (by omega) (by omega)).2.2.1]; exact a6 j
  · rw [(hc (x + 61) (by omega) (by omega)).2.2.1]; exact a7 j
  · rw [(hc (x + 66 + 2 * i) (by omega) (by omega)).2.2.1, (hc (x + 67 + 2 * i) (by omega) (by omega)).2.2.1]; exact a8 i hi
  · rw [(hc (x + 74 + 4 * i) (by omega) (by omega)).2.2.1]; exact a9 i hi
  · rw [(hc x (by omega) (by omega)).2.2.1]; exact a10
end jStart
end
section
/-! WHAT IS TAUGHT, and the row laid by and back, by the reference -/
section jClose
variable {E : jEnv} {d : Nat} {S : jM} {x m sz : Nat} {v : Nat → Int32}
theorem c_X11_taughtNow {Q : Int32 → jM → Prop} (hM : MR S m v) (h0 : v 0 = nI sz) (hz : sz ≤ 9) (h : Q (mtaught (mfv v) sz) S) : jFi E mX11_taughtNow (d + 1) 0 0 [.ref m] S Q := by
  have i0 := hM.at (i := 0) 0 rfl (by omega)
  have key : ∀ (n i : Nat) (a : Int32), i + n = sz → Q (jfold (fun i a => if mfv v i 6 = 0 then a ||| jshl 1 (mfv v i 2) else a ||| 0) n i a) S → L_X11_taughtNow_4 E d Q m a (nI i) S := by
    intro n
    induction n with
    | zero =>
      intro i a hi hh
      obtain rfl : i = sz := by omega
      exact T_X11_taughtNow_4 ⟨hM.k, _, hM.r, hM.k1, i0.1, fun _ => hh, fun cc => absurd (by rw [i0.2, h0]; exact Int32.le_rfl) cc⟩
    | succ n ih =>
      intro i a hi hh
      unfold jfold at hh
      refine T_X11_taughtNow_4 ⟨hM.k, _, hM.r, hM.k1, i0.1, fun cc => absurd cc ?_, fun _ => c_X11_of (f := 6) hM (by omega) (by omega) ⟨fun c6 => ⟨hM.k, c_X11_of (f := 2) hM (by omega) (by omega) ?_⟩, fun c6 => ?_⟩⟩
      · rw [i0.2, h0, Int32.le_iff_toInt_le, nI_toInt (by omega), nI_toInt (by omega)]; omega
      · rw [nI_1]
        rw [if_pos c6] at hh
        exact ih (i + 1) _ (by omega) hh
      · rw [nI_1]
        rw [if_neg c6] at hh
        exact ih (i + 1) _ (by omega) hh
  exact T_X11_taughtNow (key sz 0 0 (by omega) h)
theorem ML.close (h : ML S m) : jr S m 13 = some (m + 13) ∧ jk S (m + 13) = 12 ∧ jl S (m + 13) = 135 := by
  have := h.2 12 (13, 135) rfl
  rw [show m + 1 + 12 = m + 13 by omega] at this
  exact this
theorem c_X11_laysBy {Q : jM → Prop} (hM : MR S m v) (h : ∀ S', jch S S' (m + 13) (m + 14) → MR S' m v → (∀ j, j < 135 → ji S' (m + 13) j = v j) → Q S') : jFv E mX11_laysBy d 0 0 [.ref m] S Q := by
  have key : ∀ (n i : Nat) (S1 : jM), i + n = 135 → jch S S1 (m + 13) (m + 14) → MR S1 m v → (∀ j, j < i → ji S1 (m + 13) j = v j) → L_X11_laysBy_2 E d Q m (nI i) S1 := by
    intro n
    induction n with
    | zero =>
      intro i S1 hi c1 h1 hr
      obtain rfl : i = 135 := by omega
      exact T_X11_laysBy_2 ⟨fun _ => h S1 c1 h1 hr, fun cc => absurd (by decide) cc⟩
    | succ n ih =>
      intro i S1 hi c1 h1 hr
      obtain ⟨f1, f2, f3⟩ := h1.1.close
      obtain ⟨a1, a2⟩ := h1.at (i := nI i) i rfl (by omega)
      refine T_X11_laysBy_2 ⟨fun cc => absurd cc (nI_ge (b := 135) (by omega) (by omega)), fun _ => ⟨h1.k, _, f1, _, h1.r, h1.k1, a1, f2, by rw [f3]; exact jin_nI (by omega) (by omega), ?_⟩⟩
      rw [a2, jcl (by omega), nI_1]
      have c2 : jch S1 (jput S1 (m + 13) i (v i)) (m + 13) (m + 14) := jch.put (by omega) (by omega)
      refine ih (i + 1) _ (by omega) (c1.trans c2) (h1.keep c2 (by omega)) (fun j hj => ?_)
      rw [ji_put]
      by_cases hji : j = i
      · rw [if_pos ⟨rfl, hji⟩, hji]
      · rw [if_neg (fun c => hji c.2)]; exact hr j (by omega)
  exact T_X11_laysBy (key 135 0 S (by omega) jch.rfl hM (fun j hj => absurd hj (by omega)))
theorem c_X11_laysBack {Q : jM → Prop} {u : Nat → Int32} (hM : MR S m u) (hr : ∀ j, j < 135 → ji S (m + 13) j = v j) (h : ∀ S', jch S S' (m + 1) (m + 2) → MR S' m (fun j => if j < 135 then v j else u j) → Q S') : jFv E mX11_laysBack d 0 0 [.ref m] S Q := by
  have key : ∀ (n i : Nat) (S1 : jM), i + n = 135 → jch S S1 (m + 1) (m + 2) → MR S1 m (fun j => if j < i then v j else u j) → L_X11_laysBack_2 E d Q m (nI i) S1 := by
    intro n
    induction n with
    | zero =>
      intro i S1 hi c1 h1
      obtain rfl : i = 135 := by omega
      exact T_X11_laysBack_2 ⟨fun _ => h S1 c1 h1, fun cc => absurd (by decide) cc⟩
    | succ n ih =>
      intro i S1 hi c1 h1
      obtain ⟨f1, f2, f3⟩ := h1.1.close
      obtain ⟨a1, -⟩ := h1.at (i := nI i) i rfl (by omega)
      refine T_X11_laysBack_2 ⟨fun cc => absurd cc (nI_ge (b := 135) (by omega) (by omega)), fun _ => ⟨h1.k, _, h1.r, _, f1, f2, by rw [f3]; exact jin_nI (by omega) (by omega), h1.k1, a1, ?_⟩⟩
      rw [jcl (by omega), nI_1, c1.2 (m + 13) (by omega), hr i (by omega)]
      have h2 := h1.put (n := i) (w := v i)
      refine ih (i + 1) _ (by omega) (c1.trans (jch.put (by omega) (by omega))) ⟨h2.1, fun j => (h2.2 j).trans ?_⟩
      by_cases hji : j = i
      · subst hji; rw [upd_at]; show v j = if j < j + 1 then v j else u j; rw [if_pos (by omega)]
      · rw [upd_ne _ hji]
        show (if j < i then v j else u j) = if j < i + 1 then v j else u j
        by_cases hl : j < i
        · rw [if_pos hl, if_pos (by omega)]
        · rw [if_neg hl, if_neg (by omega)]
  exact T_X11_laysBack (key 135 0 S (by omega) jch.rfl ⟨hM.1, fun j => (hM.2 j).trans (by show u j = if j < 0 then v j else u j; rw [if_neg (by omega)])⟩)
end jClose
end
section
/-! CAN the chair be made, on both sides -/
theorem jbitF : ∀ k : Fin 1024, ∀ g : Fin 10, (jshl 1 (nI g.val) &&& (nI k.val ^^^ (-1)) = 0) = ¬ (nI k.val &&& jshl 1 (nI g.val) = 0) := by decide +kernel
def jcanF (kn : Int32) (wf : Nat → Int32) : Nat → Nat → Int32
  | 0, _ => 1
  | n + 1, i => if jable kn (wf i) = 0 then 0 else jcanF kn wf n (i + 1)
theorem j_or_and (a b c : Int32) : ((a ||| b) &&& c = 0) ↔ (a &&& c = 0 ∧ b &&& c = 0) := by
  have e : (a ||| b) &&& c = (a &&& c) ||| (b &&& c) := by
    apply Int32.toBitVec_inj.mp
    show (a.toBitVec ||| b.toBitVec) &&& c.toBitVec = (a.toBitVec &&& c.toBitVec) ||| (b.toBitVec &&& c.toBitVec)
    ext i
    simp [Bool.and_or_distrib_right]
  rw [e]
  have z : ∀ p q : Int32, (p ||| q = 0) ↔ (p = 0 ∧ q = 0) := by
    intro p q
    have h : ∀ p : Int32, p = 0 ↔ p.toBitVec = 0#32 := fun p => ⟨fun h => by rw [h]; rfl, fun h => Int32.toBitVec_inj.mp h⟩
    rw [h, h, h]
    show (p.toBitVec ||| q.toBitVec = 0#32) ↔ _
    exact BitVec.or_eq_zero_iff
  exact z _ _
theorem jcan_set {kn : Int32} {wf : Nat → Int32} (hk : ∃ k, k < 1024 ∧ kn = nI k) : ∀ (n i : Nat) (a : Int32), (∀ j, j < i + n → ∃ g, g < 10 ∧ wf j = nI g) → ((jfold (fun i a => a ||| jshl 1 (wf i)) n i a &&& (kn ^^^ (-1)) = 0) ↔ (a &&& (kn ^^^ (-1)) = 0 ∧ jcanF kn wf n i = 1))
  | 0, i, a, _ => ⟨fun h => ⟨h, rfl⟩, fun h => h.1⟩
  | n + 1, i, a, hw => by
    show (jfold (fun i a => a ||| jshl 1 (wf i)) n (i + 1) (a ||| jshl 1 (wf i)) &&& (kn ^^^ (-1)) = 0) ↔ _
    rw [jcan_set hk n (i + 1) _ (fun j hj => hw j (by omega)), j_or_and]
    obtain ⟨k, hk, rfl⟩ := hk
    obtain ⟨g, hg, e⟩ := hw i (by omega)
    have hb := jbitF ⟨k, hk⟩ ⟨g, hg⟩
    have ej : jcanF (nI k) wf (n + 1) i = if jable (nI k) (wf i) = 0 then 0 else jcanF (nI k) wf n (i + 1) := rfl
    rw [ej, e, jable_at hg, hb]
    by_cases hz : nI k &&& jshl 1 (nI g) = 0
    · simp [hz]
    · simp [hz]
section jCan
variable {E : jEnv} {d : Nat} {S : jM} {x m sz : Nat} {v : Nat → Int32}
theorem jcanF01 (kn : Int32) (wf : Nat → Int32) : ∀ n i, jcanF kn wf n i = 0 ∨ jcanF kn wf n i = 1
  | 0, _ => Or.inr rfl
  | n + 1, i => by
    unfold jcanF
    split
    · exact Or.inl rfl
    · exact jcanF01 kn wf n (i + 1)
theorem c_X11_can {Q : Int32 → jM → Prop} {w : Nat} (hM : MR S m v) (hg : Rg sz v) (hw : w < 7) (e7 : v 7 = nI w) (h : Q (jcanF (v 4) (fun i => v (9 + i)) w 0) S) : jFi E mX11_can (d + 1) 0 0 [.ref m] S Q := by
  have i7 := hM.at (i := 7) 7 rfl (by omega)
  have key : ∀ (n i : Nat), i + n = w → Q (jcanF (v 4) (fun i => v (9 + i)) n i) S → L_X11_can_2 E d Q m (nI i) S := by
    intro n
    induction n with
    | zero =>
      intro i hi hh
      obtain rfl : i = w := by omega
      exact T_X11_can_2 ⟨hM.k, _, hM.r, hM.k1, i7.1, fun _ => hh, fun cc => absurd (by rw [i7.2, e7]; exact Int32.le_rfl) cc⟩
    | succ n ih =>
      intro i hi hh
      obtain ⟨a1, a2⟩ := hM.at (i := 9 + nI i) (9 + i) (nI_add 9 i) (by omega)
      obtain ⟨g, hg10, eg⟩ := hg.wd i (by omega)
      refine T_X11_can_2 ⟨hM.k, _, hM.r, hM.k1, i7.1, fun cc => absurd cc ?_, fun _ => ⟨a1, ?_⟩⟩
      · rw [i7.2, e7, Int32.le_iff_toInt_le, nI_toInt (by omega), nI_toInt (by omega)]; omega
      · rw [a2, eg]
        unfold jcanF at hh
        simp only [eg] at hh
        refine c_X11_doesKnow hM hg.kn hg10 ⟨fun c => ?_, fun c => ?_⟩
        · rw [if_pos c] at hh; exact hh
        · rw [if_neg c] at hh; rw [nI_1]; exact ih (i + 1) (by omega) hh
  exact T_X11_can (key w 0 (by omega) h)
theorem c_X3_can {Q : Int32 → jM → Prop} {r w : Nat} (hR : RmR S r sz v) (hg : Rg sz v) (hw : w < 7) (e7 : v 7 = nI w) (h : Q (jcanF (v 4) (fun i => v (9 + i)) w 0) S) : jFi E mX3_canMakeChair (d + 1) 0 0 [.ref r] S Q := by
  obtain ⟨a0, a1, a2, a3, a4, a5, a6, a7, a8⟩ := hR
  have key : ∀ (Q' : Int32 → jM → Prop) (n i : Nat) (a : Int32), i + n = w → Q' (jfold (fun i a => a ||| jshl 1 (v (9 + i))) n i a) S → L_X3_wishedSet_4 E d Q' r a (nI i) S := by
    intro Q' n
    induction n with
    | zero =>
      intro i a hi hh
      obtain rfl : i = w := by omega
      exact T_X3_wishedSet_4 ⟨a0.1, fun _ => hh, fun cc => absurd (by rw [a6, e7]; exact Int32.le_rfl) cc⟩
    | succ n ih =>
      intro i a hi hh
      refine T_X3_wishedSet_4 ⟨a0.1, fun cc => absurd cc ?_, fun _ => ⟨fun c6 => absurd c6 (nI_ge (b := 6) (by omega) (by omega)), fun _ => ⟨r + 18, a0.2.2.2.2.1, a0.2.2.2.2.2.2.1, by rw [a0.2.2.2.2.2.2.2.1]; exact jin_nI (by omega) (by omega), ?_⟩⟩⟩
      · rw [a6, e7, Int32.le_iff_toInt_le, nI_toInt (by omega), nI_toInt (by omega)]; omega
      · rw [jcl (by omega), a7 i (by omega), nI_1]
        exact ih (i + 1) _ (by omega) hh
  refine T_X3_canMakeChair ⟨a0.1, T_X3_wishedSet (key _ w 0 0 (by omega) ⟨a0.1, r + 15, a0.2.2.2.1, a5.1.1, ?_⟩)⟩
  rw [a5.2.2.1]
  have hs := jcan_set (kn := v 4) (wf := fun i => v (9 + i)) hg.kn w 0 0 (fun j hj => hg.wd j (by omega))
  refine ⟨fun c => ?_, fun c => ?_⟩
  · rw [(hs.mp c).2] at h; exact h
  · rcases jcanF01 (v 4) (fun i => v (9 + i)) w 0 with e | e
    · rw [e] at h; exact h
    · exact absurd (hs.mpr ⟨by rw [Int32.zero_and], e⟩) c
end jCan
end
