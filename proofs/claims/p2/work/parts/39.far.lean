/-! FAR on both sides -/
theorem nI_d6 {i : Nat} (h : i < 2 ^ 31) : nI i / 6 = nI (i / 6) := pk_div (d := 6) h (by decide) (by decide)
theorem nI_r6 {i : Nat} (h : i < 2 ^ 31) : jrem (nI i) 6 = nI (i % 6) := pk_rem (d := 6) h (by decide) (by decide)
theorem nI_6x (a c : Nat) : 6 * nI a + nI c = nI (a * 6 + c) := by
  rw [show (6 : Int32) = nI 6 from rfl, pk_mul, nI_add, Nat.mul_comm]
section jFar
variable {E : jEnv} {d : Nat} {S : jM} {x m sz : Nat} {v : Nat → Int32}
theorem ML.far (h : ML S m) : jr S m 12 = some (m + 12) ∧ jk S (m + 12) = 12 ∧ jl S (m + 12) = 36 := by
  have := h.2 11 (12, 36) rfl
  rw [show m + 1 + 11 = m + 12 by omega] at this
  exact this
theorem l_X11_far2 {Q : jM → Prop} (hL : ML S m) (h : Q (jrow S (m + 12) (jfold w1 6 0 (ji S (m + 12))))) : L_X11_findFar_64 E d Q m 0 S := by
  obtain ⟨f1, f2, f3⟩ := hL.far
  have stepI : ∀ (o : Nat), o < 6 → ∀ (wz : Nat → Int32), L_X11_findFar_64 E d Q m (nI (o + 1)) (jrow S (m + 12) wz) → ∀ (n i : Nat) (w : Nat → Int32), i + n = 36 → jfold (w1step o) n i w = wz → L_X11_findFar_72 E d Q m (nI o) (nI i) (jrow S (m + 12) w) := by
    intro o ho wz hend n
    induction n with
    | zero =>
      intro i w hi hw
      obtain rfl : i = 36 := by omega
      have hw' : w = wz := hw
      subst hw'
      exact T_X11_findFar_72 ⟨fun _ => by rw [nI_1]; exact hend, fun c => absurd (by decide) c⟩
    | succ n ih =>
      intro i w hi hw
      have hrow : ji (jrow S (m + 12) w) (m + 12) = w := ji_row_same _ _ _
      have hl : jl (jrow S (m + 12) w) (m + 12) = 36 := f3
      have e1 : (nI i / 6) * 6 + nI o = nI (i / 6 * 6 + o) := by rw [nI_d6 (by omega), nI_ix6]
      have e2 : 6 * nI o + jrem (nI i) 6 = nI (o * 6 + i % 6) := by rw [nI_r6 (by omega), nI_6x]
      refine T_X11_findFar_72 ⟨fun c => absurd c (nI_ge (b := 36) (by omega) (by omega)), fun _ => ⟨hL.1, m + 12, f1, f2, ?_, ?_, fun y hy => ⟨?_, ?_⟩⟩⟩
      · rw [hl, e1]; exact jin_nI (by omega) (by omega)
      · rw [hl, e2]; exact jin_nI (by omega) (by omega)
      · rw [hl]; exact jin_nI (by omega) (by omega)
      · rw [e1, e2, jcl (by omega), jcl (by omega), hrow] at hy
        rw [jcl (by omega), hrow, nI_1, jput_eq, jrow_row, jput_eq, jrow_row, hrow]
        have hs : upd w i (jmin (w i) y) = w1step o i w := by rw [hy]; rfl
        have hnext := ih (i + 1) (w1step o i w) (by omega) hw
        rw [← hs] at hnext
        unfold jmin at hnext
        refine ⟨fun c => ?_, fun c => ?_⟩
        · rw [if_neg (Int32.not_lt.mpr c)] at hnext; exact hnext
        · rw [if_pos (Int32.not_le.mp c)] at hnext; exact hnext
  have stepO : ∀ (n o : Nat) (w : Nat → Int32), o + n = 6 → jfold w1 n o w = jfold w1 6 0 (ji S (m + 12)) → L_X11_findFar_64 E d Q m (nI o) (jrow S (m + 12) w) := by
    intro n
    induction n with
    | zero =>
      intro o w ho hw
      obtain rfl : o = 6 := by omega
      have hw' : w = jfold w1 6 0 (ji S (m + 12)) := hw
      rw [hw']
      exact T_X11_findFar_64 ⟨fun _ => h, fun c => absurd (by decide) c⟩
    | succ n ih =>
      intro o w ho hw
      exact T_X11_findFar_64 ⟨fun c => absurd c (nI_ge (b := 6) (by omega) (by omega)), fun _ => stepI o (by omega) (w1 o w) (ih (o + 1) (w1 o w) (by omega) hw) 36 0 w (by omega) rfl⟩
  have h0 := stepO 6 0 (ji S (m + 12)) (by omega) rfl
  rw [jrow_self] at h0
  exact h0
theorem c_X11_findFar {Q : jM → Prop} (hM : MR S m v) (h : ∀ S', jch S S' (m + 12) (m + 13) → (∀ i, i < 36 → ji S' (m + 12) i = vfar v i) → Q S') : jFv E mX11_findFar d 0 0 [.ref m] S Q := by
  obtain ⟨f1, f2, f3⟩ := hM.1.far
  have hend : L_X11_findFar_64 E d Q m 0 (jrow S (m + 12) (jfold (w0step (fun i => v (36 + i))) 36 0 (ji S (m + 12)))) := by
    refine l_X11_far2 (S := jrow S (m + 12) (jfold (w0step (fun i => v (36 + i))) 36 0 (ji S (m + 12)))) hM.1 ?_
    rw [jrow_row, ji_row_same]
    refine h _ (jch.row (by omega) (by omega)) (fun i hi => ?_)
    rw [ji_row_same]
    exact wfar_agr (dy := fun i => v (36 + i)) (dy' := fun i => v (36 + i)) (w := ji S (m + 12)) (w' := fun _ => 0) (fun _ _ => rfl) i hi
  have stepI : ∀ (n i : Nat) (w : Nat → Int32), i + n = 36 → jfold (w0step (fun i => v (36 + i))) n i w = jfold (w0step (fun i => v (36 + i))) 36 0 (ji S (m + 12)) → L_X11_findFar_2 E d Q m (nI i) (jrow S (m + 12) w) := by
    intro n
    induction n with
    | zero =>
      intro i w hi hw
      obtain rfl : i = 36 := by omega
      have hw' : w = jfold (w0step (fun i => v (36 + i))) 36 0 (ji S (m + 12)) := hw
      rw [hw']
      exact T_X11_findFar_2 ⟨fun _ => hend, fun c => absurd (by decide) c⟩
    | succ n ih =>
      intro i w hi hw
      have hnext := ih (i + 1) (w0step (fun i => v (36 + i)) i w) (by omega) hw
      have hM1 : MR (jrow S (m + 12) w) m v := hM.keep (jch.row (lo := m + 12) (hi := m + 13) (by omega) (by omega)) (by omega)
      have hrow : ji (jrow S (m + 12) w) (m + 12) = w := ji_row_same _ _ _
      have hl : jl (jrow S (m + 12) w) (m + 12) = 36 := f3
      have hin : vp_in (nI i) (jl (jrow S (m + 12) w) (m + 12)) := by rw [hl]; exact jin_nI (by omega) (by omega)
      obtain ⟨a1, a2⟩ := hM1.at (i := 36 + nI i) (36 + i) (nI_add 36 i) (by omega)
      unfold w0step at hnext
      refine T_X11_findFar_2 ⟨fun c => absurd c (nI_ge (b := 36) (by omega) (by omega)), fun _ => ⟨hM1.k, m + 12, f1, fun c => ⟨f2, hin, ?_⟩, fun c => ⟨m + 1, hM1.r, hM1.k1, a1, ?_⟩⟩⟩
      · rw [nI_d6 (by omega), nI_r6 (by omega)] at c
        rw [if_pos (nI_inj (by omega) (by omega) c)] at hnext
        rw [jcl (by omega), nI_1, jput_eq, jrow_row, hrow]
        exact hnext
      · rw [nI_d6 (by omega), nI_r6 (by omega)] at c
        rw [if_neg (fun e => c (by rw [e]))] at hnext
        rw [a2, jcl (by omega), nI_1, jput_eq, jrow_row, jput_eq, jrow_row, hrow]
        refine ⟨fun c0 => ⟨f2, hin, ?_⟩, fun c0 => ⟨f2, hin, ?_⟩⟩
        · rw [if_pos c0] at hnext; exact hnext
        · rw [if_neg c0] at hnext; exact hnext
  have h0 := stepI 36 0 (ji S (m + 12)) (by omega) rfl
  rw [jrow_self] at h0
  exact T_X11_findFar h0
theorem jfr.far {S1 : jM} (h : jch S S1 (x + 106) (x + 107)) : jfr S S1 x := ⟨h.1, fun y _ _ _ _ c _ => h.2 y (by omega)⟩
theorem P_far {w u : Int32} (hP : PI S x sz v) : jFi E mX10_far (d + 2) 0 0 [.ref x, .int w, .int u] S (fun r S1 => jFm E mX11_far (d + 1) (x + 94) [.int w, .int u] S1 (fun r' S2 => PO S x r r' S2)) := by
  have hX := hP.1
  have hM := hP.2.1
  refine T_X10_far ⟨fun c => U_X11_far (by first | exact hM.k | exact hM1.k | exact hP.2.1.k | exact h.2.2.1.1 | exact h.1.1 | exact g1.1.1 | exact g3.1.1 | exact gm.1.1 | exact h2.1.1 | exact hM2.k | (rw [c1.1.1]; exact hP.2.1.k)) ⟨fun _ => hP.same, fun c' => absurd c c'⟩, fun cw => ⟨fun c => U_X11_far (by first | exact hM.k | exact hM1.k | exact hP.2.1.k | exact h.2.2.1.1 | exact h.1.1 | exact g1.1.1 | exact g3.1.1 | exact gm.1.1 | exact h2.1.1 | exact hM2.k | (rw [c1.1.1]; exact hP.2.1.k)) ⟨fun c' => absurd c' cw, fun _ => ⟨fun _ => hP.same, fun c' => absurd c c'⟩⟩, fun cu => ⟨hX.1, x + 1, hX.2.1, hX.k3, x + 13, hX.r1, hX.q.1.1, ?_⟩⟩⟩
  obtain ⟨a, ha, rfl⟩ := jist_of cw
  obtain ⟨b, hb, rfl⟩ := jist_of cu
  have ref : ∀ r, (vfar v (a * 6 + b) = 9999 → r = kNONE) → (vfar v (a * 6 + b) ≠ 9999 → r = vfar v (a * 6 + b)) → jFm E mX11_far (d + 1) (x + 94) [.int (nI a), .int (nI b)] S (fun r' S2 => PO S x r r' S2) := by
    intro r h1 h2
    refine U_X11_far (by first | exact hM.k | exact hM1.k | exact hP.2.1.k | exact h.2.2.1.1 | exact h.1.1 | exact g1.1.1 | exact g3.1.1 | exact gm.1.1 | exact h2.1.1 | exact hM2.k | (rw [c1.1.1]; exact hP.2.1.k)) ⟨fun c => absurd c cw, fun _ => ⟨fun c => absurd c cu, fun _ => ⟨hM.k, c_X11_findFar hM (fun S1 c1 hf => ?_)⟩⟩⟩
    have hM1 := hM.keep c1 (by omega)
    have hX1 := hX.of c1.1 (hX.2.2.keep c1 (by omega))
    obtain ⟨f1, f2, f3⟩ := hM1.1.far
    have po : ∀ q, r = q → PO S x r q S1 := fun q e => ⟨e, jfr.far (c1.wide (by omega) (by omega)), tkOf hM hM1 (fun _ _ => rfl), sz, v, hX1, hM1, hP.2.2⟩
    refine ⟨hM1.k, _, f1, f2, by rw [f3, nI_6x]; exact jin_nI (by omega) (by omega), ?_⟩
    rw [nI_6x, jcl (by omega), hf _ (by omega)]
    exact ⟨fun c => po _ (h1 c), fun c => po _ (h2 c)⟩
  exact c_X4_fewest hX.q ha hb ⟨fun c => ref _ (fun _ => rfl) (fun c' => absurd c c'), fun c => ref _ (fun c' => absurd c' c) (fun _ => rfl)⟩
end jFar
