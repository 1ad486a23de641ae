/-! NUMBERS: ranges, indices -/
theorem jwi_cases (x : Int32) {b : Int32} (n : Nat) (hb : b = nI n) (hn : n < 2 ^ 31) : (∃ j, j < n ∧ x = nI j ∧ jwi x b = 1) ∨ ((∀ j, j < n → x ≠ nI j) ∧ jwi x b = 0) := by
  subst hb
  rcases pk_ix x hn with h | h | ⟨j, hj, rfl⟩
  · refine Or.inr ⟨fun j hj e => ?_, ?_⟩
    · rw [e] at h; exact nI_pos (by omega) h
    · simp [jwi, h]
  · refine Or.inr ⟨fun j hj e => ?_, ?_⟩
    · rw [e] at h; exact nI_ge hj hn h
    · by_cases h0 : x < 0 <;> simp [jwi, h, h0]
  · refine Or.inl ⟨j, hj, rfl, ?_⟩
    have h1 : ¬ nI j < 0 := nI_pos (by omega)
    have h2 : ¬ nI n ≤ nI j := nI_ge hj hn
    simp [jwi, h1, h2]
theorem jwi_at {j n : Nat} (h : j < n) (hn : n < 2 ^ 31) : jwi (nI j) (nI n) = 1 := by
  have h1 : ¬ nI j < 0 := nI_pos (by omega)
  have h2 : ¬ nI n ≤ nI j := nI_ge h hn
  simp [jwi, h1, h2]
theorem jcl {n : Nat} (h : n < 2 ^ 31) : (nI n).toNatClampNeg = n := nI_clamp h
theorem jin_nI {n N : Nat} (h : n < N) (hN : N < 2 ^ 31) : vp_in (nI n) N := vp_in_nI h hN
theorem nI_inj {a b : Nat} (ha : a < 2 ^ 31) (hb : b < 2 ^ 31) (h : nI a = nI b) : a = b := (nI_eq ha hb).mp h
theorem nI_ne {a b : Nat} (ha : a < 2 ^ 31) (hb : b < 2 ^ 31) (h : a ≠ b) : nI a ≠ nI b := fun e => h (nI_inj ha hb e)
/-- an Int32 between 0 and n, as a number -/
theorem jofI {x : Int32} {n : Nat} (hn : n < 2 ^ 31) (h0 : 0 ≤ x) (h1 : x < nI n) : ∃ j, j < n ∧ x = nI j := by
  rcases pk_ix x hn with h | h | h
  · exact absurd h (Int32.not_lt.mpr h0)
  · exact absurd h1 (Int32.not_lt.mpr h)
  · exact h
theorem jisin_cases (x : Int32) {hi : Int64} (n : Nat) (hh : hi = lN n) (hn : n < 2 ^ 31 - 1) : (∃ j, j ≤ n ∧ x = nI j ∧ jisin x.toInt64 0 hi = 1) ∨ ((∀ j, j ≤ n → x ≠ nI j) ∧ jisin x.toInt64 0 hi = 0) := by
  subst hh
  have e0 : (0 : Int64) = lN 0 := rfl
  have c1 : ∀ a b : Int64, lg_cmp a b < 0 ↔ a < b := by
    intro a b
    unfold lg_cmp
    by_cases h1 : a > b
    · have : ¬ a < b := Int64.not_lt.mpr (Int64.le_of_lt h1)
      simp [h1, this]
    · by_cases h2 : a = b
      · subst h2; simp
      · have : a < b := by
          rcases Int64.lt_or_eq_of_le (Int64.not_lt.mp h1) with h | h
          · exact h
          · exact absurd h h2
        simp [h1, h2, this]
  have c2 : ∀ a b : Int64, 0 < lg_cmp a b ↔ b < a := by
    intro a b
    unfold lg_cmp
    by_cases h1 : a > b
    · simp [h1]
    · have h1' : ¬ b < a := h1
      by_cases h2 : a = b
      · subst h2; simp
      · simp [h1, h2]
  unfold jisin
  simp only [c1, c2]
  rcases pk_ix x (n := n + 1) (by omega) with h | h | ⟨j, hj, rfl⟩
  · refine Or.inr ⟨fun j hj e => ?_, ?_⟩
    · rw [e] at h; exact nI_pos (by omega) h
    · have : x.toInt64 < 0 := by
        have := Int32.lt_iff_toInt_lt.mp h
        rw [Int64.lt_iff_toInt_lt, Int32.toInt_toInt64]
        exact this
      simp [this]
  · refine Or.inr ⟨fun j hj e => ?_, ?_⟩
    · rw [e] at h; exact nI_ge (by omega) (by omega) h
    · have h2 : lN n < x.toInt64 := by
        have := Int32.le_iff_toInt_le.mp h
        rw [nI_toInt (by omega)] at this
        rw [Int64.lt_iff_toInt_lt, Int32.toInt_toInt64, lN_toInt (by omega)]
        omega
      simp [h2]
  · refine Or.inl ⟨j, by omega, rfl, ?_⟩
    have e1 : (nI j).toInt64 = lN j := nI_l (by omega)
    have h1 : ¬ lN j < 0 := by
      rw [e0, lN_lt (by omega) (by omega)]; omega
    have h2 : ¬ lN n < lN j := by
      rw [lN_lt (by omega) (by omega)]; omega
    simp [e1, h1, h2]
