/-! LAST on both sides; the dead, counted by the reference -/
section jLast
variable {E : jEnv} {d : Nat} {S : jM} {x m sz : Nat} {v : Nat → Int32}
def jlres (mf : Nat → Nat → Int32) (ge : Int32) (c : Nat) (one : Int32) (n i : Nat) : Int32 := if c = 0 then monly mf ge n i kNONE else if c = 1 then monly mf ge n i one else kNONE
theorem l_X11_last {Q : Int32 → jM → Prop} {ge : Int32} (hM : MR S m v) (h0 : v 0 = nI sz) (hz : sz ≤ 9) : ∀ (n i c : Nat) (one : Int32), i + n = sz → c ≤ i → (c = 1 → one ≠ kNONE) → Q (jlres (mfv v) ge c one n i) S → L_X11_last_17 E d Q m ge one (nI c) (nI i) S := by
  have i0 := hM.at (i := 0) 0 rfl (by omega)
  intro n
  induction n with
  | zero =>
    intro i c one hi hc ho h
    obtain rfl : i = sz := by omega
    refine T_X11_last_17 ⟨hM.k, _, hM.r, hM.k1, i0.1, fun _ => ⟨fun c1 => ?_, fun c1 => ?_⟩, fun cc => absurd (by rw [i0.2, h0]; exact Int32.le_rfl) cc⟩
    · have : c = 1 := nI_inj (by omega) (by omega) (show nI c = nI 1 from c1)
      subst this
      exact h
    · have hc1 : c ≠ 1 := fun e => c1 (by rw [e]; rfl)
      unfold jlres at h
      by_cases hc0 : c = 0
      · rw [if_pos hc0] at h; exact h
      · rw [if_neg hc0, if_neg hc1] at h; exact h
  | succ n ih =>
    intro i c one hi hc ho h
    refine T_X11_last_17 ⟨hM.k, _, hM.r, hM.k1, i0.1, fun cc => absurd cc ?_, fun _ => c_X11_of (f := 6) hM (by omega) (by omega) ⟨fun c6 => ⟨hM.k, c_X11_of (f := 2) hM (by omega) (by omega) ⟨fun c2 => ?_, fun c2 => ?_⟩⟩, fun c6 => ?_⟩⟩
    · rw [i0.2, h0, Int32.le_iff_toInt_le, nI_toInt (by omega), nI_toInt (by omega)]; omega
    · rw [nI_1, nI_1]
      refine ih (i + 1) (c + 1) (nI i) (by omega) (by omega) (fun _ => ?_) ?_
      · intro e
        have := congrArg Int32.toInt e
        rw [nI_toInt (by omega)] at this
        have e2 : (kNONE : Int32).toInt = -1000000005 := by decide
        omega
      · unfold jlres at h ⊢
        rw [if_neg (by omega)]
        by_cases hc0 : c = 0
        · subst hc0
          rw [if_pos rfl] at h
          rw [if_pos rfl]
          unfold monly at h
          rw [if_pos c6, if_pos c2, if_pos rfl] at h
          exact h
        · rw [if_neg hc0] at h
          rw [if_neg (by omega)]
          by_cases hc1 : c = 1
          · rw [if_pos hc1] at h
            unfold monly at h
            rw [if_pos c6, if_pos c2, if_neg (ho hc1)] at h
            exact h
          · rw [if_neg hc1] at h; exact h
    · rw [nI_1]
      refine ih (i + 1) c one (by omega) (by omega) ho ?_
      unfold jlres at h ⊢
      unfold monly at h
      rw [if_pos c6, if_neg c2, if_pos c6, if_neg c2] at h
      exact h
    · rw [nI_1]
      refine ih (i + 1) c one (by omega) (by omega) ho ?_
      unfold jlres at h ⊢
      unfold monly at h
      rw [if_neg c6, if_neg c6] at h
      exact h
theorem P_last {w : Int32} (hP : PI S x sz v) : jFi E mX10_last (d + 3) 0 0 [.ref x, .int w] S (fun r S1 => jFm E mX11_last (d + 1) (x + 94) [.int w] S1 (fun r' S2 => PO S x r r' S2)) := by
  have hX := hP.1
  refine T_X10_last ⟨fun c => U_X11_last (by first | exact hM.k | exact hM1.k | exact hP.2.1.k | exact h.2.2.1.1 | exact h.1.1 | exact g1.1.1 | exact g3.1.1 | exact gm.1.1 | exact h2.1.1 | exact hM2.k | (rw [c1.1.1]; exact hP.2.1.k)) ⟨fun _ => hP.same, fun c' => absurd c c'⟩, fun cw => ⟨hX.1, x + 1, hX.2.1, hX.k3, x + 2, hX.r0, hX.g.1.1, c_X0_onlyTeacher hX.g hX.sz9 ?_⟩⟩
  exact U_X11_last (by first | exact hM.k | exact hM1.k | exact hP.2.1.k | exact h.2.2.1.1 | exact h.1.1 | exact g1.1.1 | exact g3.1.1 | exact gm.1.1 | exact h2.1.1 | exact hM2.k | (rw [c1.1.1]; exact hP.2.1.k)) ⟨fun c' => absurd c' cw, fun _ => l_X11_last hP.2.1 hX.v0 hX.sz9 sz 0 0 (-1) (by omega) (by omega) (fun c => absurd c (by omega)) hP.same⟩
/-- the dead -/
theorem c_X11_dead {Q : Int32 → jM → Prop} (hM : MR S m v) (h0 : v 0 = nI sz) (hz : sz ≤ 9) (hg : Rg sz v) (h : Q (mdead (mfv v) sz) S) : jFi E mX11_allOf (d + 1) 0 0 [.ref m, .int 6] S Q := by
  have i0 := hM.at (i := 0) 0 rfl (by omega)
  have key : ∀ (n i : Nat) (a : Int32), i + n = sz → Q (jfold (fun i a => if mfv v i 6 = 0 then a + 0 else a + 1) n i a) S → L_X11_allOf_4 E d Q m 6 a (nI i) S := by
    intro n
    induction n with
    | zero =>
      intro i a hi hh
      obtain rfl : i = sz := by omega
      exact T_X11_allOf_4 ⟨hM.k, _, hM.r, hM.k1, i0.1, fun _ => hh, fun cc => absurd (by rw [i0.2, h0]; exact Int32.le_rfl) cc⟩
    | succ n ih =>
      intro i a hi h
      refine T_X11_allOf_4 ⟨hM.k, _, hM.r, hM.k1, i0.1, fun cc => absurd cc ?_, fun _ => c_X11_of (f := 6) hM (by omega) (by omega) ?_⟩
      · rw [i0.2, h0, Int32.le_iff_toInt_le, nI_toInt (by omega), nI_toInt (by omega)]; omega
      · rw [nI_1]
        refine ih (i + 1) _ (by omega) ?_
        unfold jfold at h
        obtain ⟨k, hk, e⟩ := hg.ms (i := i) (f := 6) (by omega) (by omega)
        rw [rgb_m i 6 (by omega)] at hk
        have hk : k < 2 := hk
        rcases (show k = 0 ∨ k = 1 by omega) with rfl | rfl
        · rw [if_pos (by rw [e]; rfl)] at h
          rw [e]; exact h
        · rw [if_neg (by rw [e]; decide)] at h
          rw [e]; exact h
  exact T_X11_allOf (key sz 0 0 (by omega) h)
end jLast
