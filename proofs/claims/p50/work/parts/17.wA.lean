section
set_option maxRecDepth 100000 in
set_option maxHeartbeats 4000000 in
theorem T_X2_init {E : jEnv} {d : Nat} {Q : jM → Prop} {a0 : Nat} {S : jM} (h : Q S) : jFv E mX2_init (d + 1) 0 0 [.ref a0] S Q := by
  refine jF_of (by decide) (jle rfl) ?_
  refine jx_lv (lv1 := [(0, .ref a0)]) [0] rfl ?_
  refine jx_aload_n 0 kd76.1 rfl rfl ?_
  refine jx_objInit jwM_X2_3 jwN_obj jwO_obj kd76.2.1 (jRok_m _ _ _) (jle rfl) ?_
  exact jx_vret kd76.2.2.1 rfl (jle rfl) (jle rfl) ⟨rfl, h⟩
set_option maxRecDepth 100000 in
set_option maxHeartbeats 4000000 in
theorem T_X2_begin {E : jEnv} {d : Nat} {Q : jM → Prop} {a0 : Nat} {x1 : Int32} {x2 : Int32} {x3 : Int32} {x4 : Int32} {S : jM} (h : jk S a0 = 2 ∧ Q (jput (jput (jput (jput (jput (jput (jput S a0 0 x1) a0 1 x2) a0 2 x3) a0 4 x4) a0 3 0) a0 5 40) a0 6 0)) : jFv E mX2_begin d 0 0 [.ref a0, .int x1, .int x2, .int x3, .int x4] S Q := by
  refine jF_of (by decide) (jle rfl) ?_
  refine jx_lv (lv1 := [(0, .ref a0), (1, .int x1), (2, .int x2), (3, .int x3), (4, .int x4)]) [0, 1, 2, 3, 4] rfl ?_
  refine jx_aload_n 0 kd77.1 rfl rfl ?_
  refine jx_iload_n 1 kd77.2.1 rfl rfl ?_
  obtain ⟨hk1, h⟩ := h
  refine jx_puti jc_2 (j := 0) (by decide) rfl jwF_X2_9 rfl rfl rfl kd77.2.2.1 hk1 ?_
  refine jx_aload_n 0 kd77.2.2.2.1 rfl rfl ?_
  refine jx_iload_n 2 kd77.2.2.2.2.1 rfl rfl ?_
  refine jx_puti jc_2 (j := 1) (by decide) rfl jwF_X2_15 rfl rfl rfl kd77.2.2.2.2.2.1 hk1 ?_
  refine jx_aload_n 0 kd77.2.2.2.2.2.2.1 rfl rfl ?_
  refine jx_iload_n 3 kd77.2.2.2.2.2.2.2.1 rfl rfl ?_
  refine jx_puti jc_2 (j := 2) (by decide) rfl jwF_X2_18 rfl rfl rfl kd77.2.2.2.2.2.2.2.2.1 hk1 ?_
  refine jx_aload_n 0 kd78.1 rfl rfl ?_
  refine jx_iload 4 kd78.2.1 rfl ?_
  refine jx_puti jc_2 (j := 4) (by decide) rfl jwF_X2_21 rfl rfl rfl kd78.2.2.1 hk1 ?_
  refine jx_aload_n 0 kd78.2.2.2.1 rfl rfl ?_
  refine jx_iconst (v := 0) kd78.2.2.2.2.1 (by decide) ?_
  refine jx_puti jc_2 (j := 3) (by decide) rfl jwF_X2_24 rfl rfl rfl kd78.2.2.2.2.2.1 hk1 ?_
  refine jx_aload_n 0 kd78.2.2.2.2.2.2.1 rfl rfl ?_
  refine jx_bipush (v := 40) kd78.2.2.2.2.2.2.2.1 (by decide) ?_
  refine jx_puti jc_2 (j := 5) (by decide) rfl jwF_X2_27 rfl rfl rfl kd78.2.2.2.2.2.2.2.2.1 hk1 ?_
  refine jx_aload_n 0 kd79.1 rfl rfl ?_
  refine jx_iconst (v := 0) kd79.2.1 (by decide) ?_
  refine jx_puti jc_2 (j := 6) (by decide) rfl jwF_X2_30 rfl (by decide) (by decide) kd79.2.2.1 hk1 ?_
  exact jx_vret kd79.2.2.2.1 rfl (jle rfl) (jle rfl) ⟨rfl, h⟩
set_option maxRecDepth 100000 in
set_option maxHeartbeats 4000000 in
theorem T_X2_become {E : jEnv} {d : Nat} {Q : jM → Prop} {a0 : Nat} {a1 : Nat} {S : jM} (h : jk S a1 = 2 ∧ jk S a0 = 2 ∧ ((ji S a1 6) = 0 ∨ (ji S a1 6) = 1) ∧ Q (jput (jput (jput (jput (jput (jput (jput S a0 0 (ji S a1 0)) a0 1 (ji S a1 1)) a0 2 (ji S a1 2)) a0 3 (ji S a1 3)) a0 4 (ji S a1 4)) a0 5 (ji S a1 5)) a0 6 (ji S a1 6))) : jFv E mX2_become d 0 0 [.ref a0, .ref a1] S Q := by
  refine jF_of (by decide) (jle rfl) ?_
  refine jx_lv (lv1 := [(0, .ref a0), (1, .ref a1)]) [0, 1] rfl ?_
  refine jx_aload_n 0 kd80.1 rfl rfl ?_
  refine jx_aload_n 1 kd80.2.1 rfl rfl ?_
  obtain ⟨hk1, h⟩ := h
  refine jx_geti jc_2 (j := 0) (by decide) rfl jwF_X2_9 kd80.2.2.1 hk1 ?_
  obtain ⟨hk2, h⟩ := h
  refine jx_puti jc_2 (j := 0) (by decide) rfl jwF_X2_9 rfl rfl rfl kd80.2.2.2.1 hk2 ?_
  refine jx_aload_n 0 kd80.2.2.2.2.1 rfl rfl ?_
  refine jx_aload_n 1 kd80.2.2.2.2.2.1 rfl rfl ?_
  refine jx_geti jc_2 (j := 1) (by decide) rfl jwF_X2_15 kd80.2.2.2.2.2.2.1 hk1 ?_
  refine jx_topi (y := (ji S a1 1)) (by simp [ji_put, ji_row, ji_putr]) ?_
  refine jx_puti jc_2 (j := 1) (by decide) rfl jwF_X2_15 rfl rfl rfl kd80.2.2.2.2.2.2.2.1 hk2 ?_
  refine jx_aload_n 0 kd80.2.2.2.2.2.2.2.2.1 rfl rfl ?_
  refine jx_aload_n 1 kd81.1 rfl rfl ?_
  refine jx_geti jc_2 (j := 2) (by decide) rfl jwF_X2_18 kd81.2.1 hk1 ?_
  refine jx_topi (y := (ji S a1 2)) (by simp [ji_put, ji_row, ji_putr]) ?_
  refine jx_puti jc_2 (j := 2) (by decide) rfl jwF_X2_18 rfl rfl rfl kd81.2.2.1 hk2 ?_
  refine jx_aload_n 0 kd81.2.2.2.1 rfl rfl ?_
  refine jx_aload_n 1 kd81.2.2.2.2.1 rfl rfl ?_
  refine jx_geti jc_2 (j := 3) (by decide) rfl jwF_X2_24 kd81.2.2.2.2.2.1 hk1 ?_
  refine jx_topi (y := (ji S a1 3)) (by simp [ji_put, ji_row, ji_putr]) ?_
  refine jx_puti jc_2 (j := 3) (by decide) rfl jwF_X2_24 rfl rfl rfl kd81.2.2.2.2.2.2.1 hk2 ?_
  refine jx_aload_n 0 kd81.2.2.2.2.2.2.2.1 rfl rfl ?_
  refine jx_aload_n 1 kd81.2.2.2.2.2.2.2.2.1 rfl rfl ?_
  refine jx_geti jc_2 (j := 4) (by decide) rfl jwF_X2_21 kd82.1 hk1 ?_
  refine jx_topi (y := (ji S a1 4)) (by simp [ji_put, ji_row, ji_putr]) ?_
  refine jx_puti jc_2 (j := 4) (by decide) rfl jwF_X2_21 rfl rfl rfl kd82.2.1 hk2 ?_
  refine jx_aload_n 0 kd82.2.2.1 rfl rfl ?_
  refine jx_aload_n 1 kd82.2.2.2.1 rfl rfl ?_
  refine jx_geti jc_2 (j := 5) (by decide) rfl jwF_X2_27 kd82.2.2.2.2.1 hk1 ?_
  refine jx_topi (y := (ji S a1 5)) (by simp [ji_put, ji_row, ji_putr]) ?_
  refine jx_puti jc_2 (j := 5) (by decide) rfl jwF_X2_27 rfl rfl rfl kd82.2.2.2.2.2.1 hk2 ?_
  refine jx_aload_n 0 kd82.2.2.2.2.2.2.1 rfl rfl ?_
  refine jx_aload_n 1 kd82.2.2.2.2.2.2.2.1 rfl rfl ?_
  refine jx_geti jc_2 (j := 6) (by decide) rfl jwF_X2_30 kd82.2.2.2.2.2.2.2.2.1 hk1 ?_
  refine jx_topi (y := (ji S a1 6)) (by simp [ji_put, ji_row, ji_putr]) ?_
  obtain ⟨hb3, h⟩ := h
  refine jx_puti jc_2 (j := 6) (by decide) rfl jwF_X2_30 rfl (jb_nar hb3) (jb_fit hb3) kd83.1 hk2 ?_
  exact jx_vret kd83.2.1 rfl (jle rfl) (jle rfl) ⟨rfl, h⟩
/-- X2_isOf at its loop's head 7 -/
abbrev L_X2_isOf_7 (E : jEnv) (d : Nat) (Q : Int32 → jM → Prop) (x1 : Int32) (x2 : Int32) (x3 : Int32) (S : jM) : Prop := jX E mX2_isOf (jRm (d + 1) 0 0) (jZm E (fun r S' => ∃ v : Int32, r = some (.int v) ∧ Q v S') 0 0) 7 [(1, .int x1), (2, .int x2), (3, .int x3)] [] S 0 0
set_option maxRecDepth 100000 in
set_option maxHeartbeats 4000000 in
theorem T_X2_isOf {E : jEnv} {d : Nat} {Q : Int32 → jM → Prop} {a0 : Nat} {x1 : Int32} {S : jM} (h : jk S a0 = 2 ∧ L_X2_isOf_7 E d Q x1 (ji S a0 0) 0 S) : jFi E mX2_isOf (d + 1) 0 0 [.ref a0, .int x1] S Q := by
  refine jF_of (by decide) (jle rfl) ?_
  refine jx_lv (lv1 := [(0, .ref a0), (1, .int x1)]) [0, 1] rfl ?_
  refine jx_aload_n 0 kd84.1 rfl rfl ?_
  obtain ⟨hk1, h⟩ := h
  refine jx_geti jc_2 (j := 0) (by decide) rfl jwF_X2_9 kd84.2.1 hk1 ?_
  refine jx_istore_n (lv1 := [(2, .int (ji S a0 0)), (0, .ref a0), (1, .int x1)]) kd84.2.2.1 rfl (by decide) rfl ?_
  refine jx_iconst (v := 0) kd84.2.2.2.1 (by decide) ?_
  refine jx_istore_n (lv1 := [(3, .int 0), (2, .int (ji S a0 0)), (0, .ref a0), (1, .int x1)]) kd84.2.2.2.2.1 rfl (by decide) rfl ?_
  exact jx_lv [3, 1, 0] rfl h
set_option maxRecDepth 100000 in
set_option maxHeartbeats 4000000 in
theorem T_X2_isOf_7 {E : jEnv} {d : Nat} {Q : Int32 → jM → Prop} {x1 : Int32} {x2 : Int32} {x3 : Int32} {S : jM} (h : (6 ≤ x3 → Q 0 S) ∧ (¬ 6 ≤ x3 → ((jwi x2 6) = 0 → Q 0 S) ∧ (¬ (jwi x2 6) = 0 → (x2 = x1 → Q 1 S) ∧ (¬ x2 = x1 → vp_in x2 6 ∧ (L_X2_isOf_7 E d Q x1 (jab x2) (x3 + 1) S))))) : L_X2_isOf_7 E d Q x1 x2 x3 S := by
  show jX E mX2_isOf (jRm (d + 1) 0 0) (jZm E (fun r S' => ∃ v : Int32, r = some (.int v) ∧ Q v S') 0 0) 7 [(1, .int x1), (2, .int x2), (3, .int x3)] [] S 0 0
  refine jx_iload_n 2 kd84.2.2.2.2.2.1 rfl rfl ?_
  refine jx_bipush (v := 6) kd84.2.2.2.2.2.2.1 (by decide) ?_
  refine jx_icmp_ge (tgt := 41) kd84.2.2.2.2.2.2.2.1 (by decide) (fun c2 => ?_) (fun c2 => ?_)
  · replace h := h.1 c2
    refine jx_iconst (v := 0) kd86.2.2.2.2.2.1 (by decide) ?_
    exact jx_iret kd86.2.2.2.2.2.2.1 rfl (by decide) (jle rfl) (jle rfl) ⟨_, rfl, h⟩
  replace h := h.2 c2
  refine jx_iload_n 1 kd84.2.2.2.2.2.2.2.2.1 rfl rfl ?_
  refine jx_bipush (v := 6) kd85.1 (by decide) ?_
  refine jx_callSNi (M' := mX10_within) (As := [.int x2, .int 6]) (host := "NineMasters") jo_X10_within (by decide) jwS_X10_within kd85.2.1 (jRok_m _ _ _) rfl (jle rfl) ⟨jle rfl, jle rfl⟩ (c_X10_within (Q := fun v S' => v = (jwi x2 6) ∧ S = S') ⟨rfl, rfl⟩) (fun r3 S4 hq5 => ?_)
  obtain ⟨rfl, rfl⟩ := hq5
  refine jx_if_eq (tgt := 41) kd85.2.2.1 (by decide) (fun c6 => ?_) (fun c6 => ?_)
  · replace h := h.1 c6
    refine jx_iconst (v := 0) kd86.2.2.2.2.2.1 (by decide) ?_
    exact jx_iret kd86.2.2.2.2.2.2.1 rfl (by decide) (jle rfl) (jle rfl) ⟨_, rfl, h⟩
  replace h := h.2 c6
  refine jx_iload_n 1 kd85.2.2.2.1 rfl rfl ?_
  refine jx_iload_n 0 kd85.2.2.2.2.1 rfl rfl ?_
  refine jx_icmp_ne (tgt := 29) kd85.2.2.2.2.2.1 (by decide) (fun c7 => ?_) (fun c7 => ?_)
  · replace h := h.2 c7
    refine jx_above rfl kd85.2.2.2.2.2.2.2.2.1 ?_
    refine jx_iload_n 1 kd86.1 rfl rfl ?_
    obtain ⟨hi8, h⟩ := h
    refine jx_aboveLd kd86.2.1 hi8 ?_
    refine jx_istore_n (lv1 := [(2, .int (jab x2)), (1, .int x1), (3, .int x3)]) kd86.2.2.1 rfl (by decide) rfl ?_
    refine jx_iinc 2 (v := (x3 + 1)) (lv1 := [(3, .int (x3 + 1)), (2, .int (jab x2)), (1, .int x1)]) kd86.2.2.2.1 rfl rfl (by decide) rfl ?_
    refine jx_goto (tgt := 7) kd86.2.2.2.2.1 (by decide) ?_
    exact jx_lv [2, 1, 0] rfl h
  replace h := h.1 c7
  refine jx_iconst (v := 1) kd85.2.2.2.2.2.2.1 (by decide) ?_
  exact jx_iret kd85.2.2.2.2.2.2.2.1 rfl (by decide) (jle rfl) (jle rfl) ⟨_, rfl, h⟩
set_option maxRecDepth 100000 in
set_option maxHeartbeats 4000000 in
theorem T_X2_daysFrom {E : jEnv} {d : Nat} {Q : Int32 → jM → Prop} {a0 : Nat} {x1 : Int32} {S : jM} (h : jk S a0 = 2 ∧ ((ji S a0 0) = 1 → Q (2 * x1) S) ∧ ((ji S a0 0) = 2 → Q (jmax 1 (x1 - 1)) S) ∧ ((ji S a0 0) = 3 → Q ((2 * x1) + ((ji S a0 5) / 10)) S) ∧ ((ji S a0 0) = 4 → Q (jmax 1 ((jmax 1 (x1 - 1)) / 2)) S) ∧ ((ji S a0 0) = 5 → Q 1 S) ∧ (¬ (ji S a0 0) = 1 → ¬ (ji S a0 0) = 2 → ¬ (ji S a0 0) = 3 → ¬ (ji S a0 0) = 4 → ¬ (ji S a0 0) = 5 → Q x1 S)) : jFi E mX2_daysFrom (d + 1) 0 0 [.ref a0, .int x1] S Q := by
  refine jF_of (by decide) (jle rfl) ?_
  refine jx_lv (lv1 := [(0, .ref a0), (1, .int x1)]) [0, 1] rfl ?_
  refine jx_iconst (v := 1) kd87.1 (by decide) ?_
  refine jx_iload_n 1 kd87.2.1 rfl rfl ?_
  refine jx_iconst (v := 1) kd87.2.2.1 (by decide) ?_
  refine jx_isub kd87.2.2.2.1 ?_
  refine jx_max jwM_X2_42 jwS_max jwZ_J9 jwO_max kd87.2.2.2.2.1 (jRok_m _ _ _) (jle rfl) ⟨Nat.zero_le _, Nat.zero_le _⟩ ?_
  refine jx_istore_n (lv1 := [(2, .int (jmax 1 (x1 - 1))), (0, .ref a0), (1, .int x1)]) kd87.2.2.2.2.2.1 rfl (by decide) rfl ?_
  refine jx_aload_n 1 kd87.2.2.2.2.2.2.1 rfl rfl ?_
  obtain ⟨hk1, h⟩ := h
  refine jx_geti jc_2 (j := 0) (by decide) rfl jwF_X2_9 kd87.2.2.2.2.2.2.2.1 hk1 ?_
  by_cases c2 : (ji S a0 0) = 1
  · replace h := h.1 c2
    refine jx_tableIn (v := 1) (tgt := 48) (off := 36) kd87.2.2.2.2.2.2.2.2.1 c2 (by decide) (by decide) (by decide) (by decide) ?_
    refine jx_iconst (v := 2) kd88.1 (by decide) ?_
    refine jx_iload_n 2 kd88.2.1 rfl rfl ?_
    refine jx_imul kd88.2.2.1 ?_
    exact jx_iret kd88.2.2.2.1 rfl rfl (jle rfl) (jle rfl) ⟨_, rfl, h⟩
  replace h := h.2
  by_cases c3 : (ji S a0 0) = 2
  · replace h := h.1 c3
    refine jx_tableIn (v := 2) (tgt := 64) (off := 52) kd87.2.2.2.2.2.2.2.2.1 c3 (by decide) (by decide) (by decide) (by decide) ?_
    refine jx_iload_n 0 kd89.2.2.2.2.1 rfl rfl ?_
    exact jx_iret kd89.2.2.2.2.2.1 rfl rfl (jle rfl) (jle rfl) ⟨_, rfl, h⟩
  replace h := h.2
  by_cases c4 : (ji S a0 0) = 3
  · replace h := h.1 c4
    refine jx_tableIn (v := 3) (tgt := 52) (off := 40) kd87.2.2.2.2.2.2.2.2.1 c4 (by decide) (by decide) (by decide) (by decide) ?_
    refine jx_iconst (v := 2) kd88.2.2.2.2.1 (by decide) ?_
    refine jx_iload_n 2 kd88.2.2.2.2.2.1 rfl rfl ?_
    refine jx_imul kd88.2.2.2.2.2.2.1 ?_
    refine jx_aload_n 1 kd88.2.2.2.2.2.2.2.1 rfl rfl ?_
    refine jx_geti jc_2 (j := 5) (by decide) rfl jwF_X2_27 kd88.2.2.2.2.2.2.2.2.1 hk1 ?_
    refine jx_bipush (v := 10) kd89.1 (by decide) ?_
    refine jx_idiv kd89.2.1 (by decide) ?_
    refine jx_iadd kd89.2.2.1 ?_
    exact jx_iret kd89.2.2.2.1 rfl rfl (jle rfl) (jle rfl) ⟨_, rfl, h⟩
  replace h := h.2
  by_cases c5 : (ji S a0 0) = 4
  · replace h := h.1 c5
    refine jx_tableIn (v := 4) (tgt := 66) (off := 54) kd87.2.2.2.2.2.2.2.2.1 c5 (by decide) (by decide) (by decide) (by decide) ?_
    refine jx_iconst (v := 1) kd89.2.2.2.2.2.2.1 (by decide) ?_
    refine jx_iload_n 0 kd89.2.2.2.2.2.2.2.1 rfl rfl ?_
    refine jx_iconst (v := 2) kd89.2.2.2.2.2.2.2.2.1 (by decide) ?_
    refine jx_idiv kd90.1 (by decide) ?_
    refine jx_max jwM_X2_42 jwS_max jwZ_J9 jwO_max kd90.2.1 (jRok_m _ _ _) (jle rfl) ⟨Nat.zero_le _, Nat.zero_le _⟩ ?_
    exact jx_iret kd90.2.2.1 rfl rfl (jle rfl) (jle rfl) ⟨_, rfl, h⟩
  replace h := h.2
  by_cases c6 : (ji S a0 0) = 5
  · replace h := h.1 c6
    refine jx_tableIn (v := 5) (tgt := 74) (off := 62) kd87.2.2.2.2.2.2.2.2.1 c6 (by decide) (by decide) (by decide) (by decide) ?_
    refine jx_iconst (v := 1) kd90.2.2.2.1 (by decide) ?_
    exact jx_iret kd90.2.2.2.2.1 rfl rfl (jle rfl) (jle rfl) ⟨_, rfl, h⟩
  replace h := h.2
  replace h := h c2 c3 c4 c5 c6
  refine jx_tableD (tgt := 76) ([1, 2, 3, 4, 5] : List Int) kd87.2.2.2.2.2.2.2.2.1 (by simp only [List.mem_cons, List.not_mem_nil, or_false, forall_eq_or_imp, forall_eq]; exact ⟨lv_neT c2 (by decide), lv_neT c3 (by decide), lv_neT c4 (by decide), lv_neT c5 (by decide), lv_neT c6 (by decide)⟩) (by decide) (by decide) (by decide) ?_
  refine jx_iload_n 2 kd90.2.2.2.2.2.1 rfl rfl ?_
  exact jx_iret kd90.2.2.2.2.2.2.1 rfl rfl (jle rfl) (jle rfl) ⟨_, rfl, h⟩
set_option maxRecDepth 100000 in
set_option maxHeartbeats 4000000 in
theorem T_X2_teaches {E : jEnv} {d : Nat} {Q : Int32 → jM → Prop} {a0 : Nat} {x1 : Int32} {S : jM} (h : jk S a0 = 2 ∧ ((ji S a0 0) = 2 → Q 1 S) ∧ ((ji S a0 0) = 3 → ((jbc ((ji S a0 3) &&& x1)) = 0 → ((jbc x1) < 3 → Q 0 S) ∧ (¬ (jbc x1) < 3 → Q 1 S)) ∧ (¬ (jbc ((ji S a0 3) &&& x1)) = 0 → Q 0 S)) ∧ ((ji S a0 0) = 4 → Q 1 S) ∧ ((ji S a0 0) = 5 → (1 < (jbc ((ji S a0 3) &&& x1)) → Q 0 S) ∧ (¬ 1 < (jbc ((ji S a0 3) &&& x1)) → Q 1 S)) ∧ (¬ (ji S a0 0) = 2 → ¬ (ji S a0 0) = 3 → ¬ (ji S a0 0) = 4 → ¬ (ji S a0 0) = 5 → ((jbc ((ji S a0 3) &&& x1)) = 0 → Q 1 S) ∧ (¬ (jbc ((ji S a0 3) &&& x1)) = 0 → Q 0 S))) : jFi E mX2_teaches (d + 1) 0 0 [.ref a0, .int x1] S Q := by
  refine jF_of (by decide) (jle rfl) ?_
  refine jx_lv (lv1 := [(0, .ref a0), (1, .int x1)]) [0, 1] rfl ?_
  refine jx_aload_n 0 kd91.1 rfl rfl ?_
  obtain ⟨hk1, h⟩ := h
  refine jx_geti jc_2 (j := 3) (by decide) rfl jwF_X2_24 kd91.2.1 hk1 ?_
  refine jx_iload_n 1 kd91.2.2.1 rfl rfl ?_
  refine jx_iand kd91.2.2.2.1 ?_
  refine jx_callSi (M' := mJ6_bitCount_0f7a4) (As := [.int ((ji S a0 3) &&& x1)]) jo_J6_bitCount_0f7a4 jwM_X2_48 jwS_J6_bitCount_0f7a4 kd91.2.2.2.2.1 (jRok_m _ _ _) rfl (jle rfl) ⟨jle rfl, jle rfl⟩ (c_J6_bitCount_0f7a4 (Q := fun v S' => v = (jbc ((ji S a0 3) &&& x1)) ∧ S = S') ⟨rfl, rfl⟩) (fun r2 S3 hq4 => ?_)
  obtain ⟨rfl, rfl⟩ := hq4
  refine jx_istore_n (lv1 := [(2, .int (jbc ((ji S a0 3) &&& x1))), (0, .ref a0), (1, .int x1)]) kd91.2.2.2.2.2.1 rfl (by decide) rfl ?_
  refine jx_aload_n 1 kd91.2.2.2.2.2.2.1 rfl rfl ?_
  refine jx_geti jc_2 (j := 0) (by decide) rfl jwF_X2_9 kd91.2.2.2.2.2.2.2.1 hk1 ?_
  by_cases c5 : (ji S a0 0) = 2
  · replace h := h.1 c5
    refine jx_tableIn (v := 2) (tgt := 62) (off := 48) kd91.2.2.2.2.2.2.2.2.1 c5 (by decide) (by decide) (by decide) (by decide) ?_
    refine jx_iconst (v := 1) kd93.2.1 (by decide) ?_
    exact jx_iret kd93.2.2.1 rfl (by decide) (jle rfl) (jle rfl) ⟨_, rfl, h⟩
  replace h := h.2
  by_cases c6 : (ji S a0 0) = 3
  · replace h := h.1 c6
    refine jx_tableIn (v := 3) (tgt := 44) (off := 30) kd91.2.2.2.2.2.2.2.2.1 c6 (by decide) (by decide) (by decide) (by decide) ?_
    refine jx_iload_n 0 kd92.1 rfl rfl ?_
    refine jx_if_ne (tgt := 60) kd92.2.1 (by decide) (fun c7 => ?_) (fun c7 => ?_)
    · replace h := h.2 c7
      refine jx_iconst (v := 0) kd92.2.2.2.2.2.2.2.2.1 (by decide) ?_
      exact jx_iret kd93.1 rfl (by decide) (jle rfl) (jle rfl) ⟨_, rfl, h⟩
    replace h := h.1 c7
    refine jx_iload_n 2 kd92.2.2.1 rfl rfl ?_
    refine jx_callSi (M' := mJ6_bitCount_0f7a4) (As := [.int x1]) jo_J6_bitCount_0f7a4 jwM_X2_48 jwS_J6_bitCount_0f7a4 kd92.2.2.2.1 (jRok_m _ _ _) rfl (jle rfl) ⟨jle rfl, jle rfl⟩ (c_J6_bitCount_0f7a4 (Q := fun v S' => v = (jbc x1) ∧ S = S') ⟨rfl, rfl⟩) (fun r8 S9 hq10 => ?_)
    obtain ⟨rfl, rfl⟩ := hq10
    refine jx_iconst (v := 3) kd92.2.2.2.2.1 (by decide) ?_
    refine jx_icmp_lt (tgt := 60) kd92.2.2.2.2.2.1 (by decide) (fun c11 => ?_) (fun c11 => ?_)
    · replace h := h.1 c11
      refine jx_iconst (v := 0) kd92.2.2.2.2.2.2.2.2.1 (by decide) ?_
      exact jx_iret kd93.1 rfl (by decide) (jle rfl) (jle rfl) ⟨_, rfl, h⟩
    replace h := h.2 c11
    refine jx_iconst (v := 1) kd92.2.2.2.2.2.2.1 (by decide) ?_
    refine jx_goto (tgt := 61) kd92.2.2.2.2.2.2.2.1 (by decide) ?_
    exact jx_iret kd93.1 rfl (by decide) (jle rfl) (jle rfl) ⟨_, rfl, h⟩
  replace h := h.2
  by_cases c12 : (ji S a0 0) = 4
  · replace h := h.1 c12
    refine jx_tableIn (v := 4) (tgt := 64) (off := 50) kd91.2.2.2.2.2.2.2.2.1 c12 (by decide) (by decide) (by decide) (by decide) ?_
    refine jx_iconst (v := 1) kd93.2.2.2.1 (by decide) ?_
    exact jx_iret kd93.2.2.2.2.1 rfl (by decide) (jle rfl) (jle rfl) ⟨_, rfl, h⟩
  replace h := h.2
  by_cases c13 : (ji S a0 0) = 5
  · replace h := h.1 c13
    refine jx_tableIn (v := 5) (tgt := 66) (off := 52) kd91.2.2.2.2.2.2.2.2.1 c13 (by decide) (by decide) (by decide) (by decide) ?_
    refine jx_iload_n 0 kd93.2.2.2.2.2.1 rfl rfl ?_
    refine jx_iconst (v := 1) kd93.2.2.2.2.2.2.1 (by decide) ?_
    refine jx_icmp_gt (tgt := 75) kd93.2.2.2.2.2.2.2.1 (by decide) (fun c14 => ?_) (fun c14 => ?_)
    · replace h := h.1 c14
      refine jx_iconst (v := 0) kd94.2.1 (by decide) ?_
      exact jx_iret kd94.2.2.1 rfl (by decide) (jle rfl) (jle rfl) ⟨_, rfl, h⟩
    replace h := h.2 c14
    refine jx_iconst (v := 1) kd93.2.2.2.2.2.2.2.2.1 (by decide) ?_
    refine jx_goto (tgt := 76) kd94.1 (by decide) ?_
    exact jx_iret kd94.2.2.1 rfl (by decide) (jle rfl) (jle rfl) ⟨_, rfl, h⟩
  replace h := h.2
  replace h := h c5 c6 c12 c13
  refine jx_tableD (tgt := 77) ([2, 3, 4, 5] : List Int) kd91.2.2.2.2.2.2.2.2.1 (by simp only [List.mem_cons, List.not_mem_nil, or_false, forall_eq_or_imp, forall_eq]; exact ⟨lv_neT c5 (by decide), lv_neT c6 (by decide), lv_neT c12 (by decide), lv_neT c13 (by decide)⟩) (by decide) (by decide) (by decide) ?_
  refine jx_iload_n 0 kd94.2.2.2.1 rfl rfl ?_
  refine jx_if_ne (tgt := 85) kd94.2.2.2.2.1 (by decide) (fun c15 => ?_) (fun c15 => ?_)
  · replace h := h.2 c15
    refine jx_iconst (v := 0) kd94.2.2.2.2.2.2.2.1 (by decide) ?_
    exact jx_iret kd94.2.2.2.2.2.2.2.2.1 rfl (by decide) (jle rfl) (jle rfl) ⟨_, rfl, h⟩
  replace h := h.1 c15
  refine jx_iconst (v := 1) kd94.2.2.2.2.2.1 (by decide) ?_
  refine jx_goto (tgt := 86) kd94.2.2.2.2.2.2.1 (by decide) ?_
  exact jx_iret kd94.2.2.2.2.2.2.2.2.1 rfl (by decide) (jle rfl) (jle rfl) ⟨_, rfl, h⟩
set_option maxRecDepth 100000 in
set_option maxHeartbeats 4000000 in
theorem T_X2_unlearnt {E : jEnv} {d : Nat} {Q : Int32 → jM → Prop} {a0 : Nat} {S : jM} (h : jk S a0 = 2 ∧ ((ji S a0 0) = 2 → Q (ji S a0 3) S) ∧ (¬ (ji S a0 0) = 2 → Q 0 S)) : jFi E mX2_unlearnt d 0 0 [.ref a0] S Q := by
  refine jF_of (by decide) (jle rfl) ?_
  refine jx_lv (lv1 := [(0, .ref a0)]) [0] rfl ?_
  refine jx_aload_n 0 kd95.1 rfl rfl ?_
  obtain ⟨hk1, h⟩ := h
  refine jx_geti jc_2 (j := 0) (by decide) rfl jwF_X2_9 kd95.2.1 hk1 ?_
  refine jx_iconst (v := 2) kd95.2.2.1 (by decide) ?_
  refine jx_icmp_ne (tgt := 15) kd95.2.2.2.1 (by decide) (fun c2 => ?_) (fun c2 => ?_)
  · replace h := h.2 c2
    refine jx_iconst (v := 0) kd95.2.2.2.2.2.2.2.1 (by decide) ?_
    exact jx_iret kd95.2.2.2.2.2.2.2.2.1 rfl rfl (jle rfl) (jle rfl) ⟨_, rfl, h⟩
  replace h := h.1 c2
  refine jx_aload_n 0 kd95.2.2.2.2.1 rfl rfl ?_
  refine jx_geti jc_2 (j := 3) (by decide) rfl jwF_X2_24 kd95.2.2.2.2.2.1 hk1 ?_
  refine jx_goto (tgt := 16) kd95.2.2.2.2.2.2.1 (by decide) ?_
  exact jx_iret kd95.2.2.2.2.2.2.2.2.1 rfl rfl (jle rfl) (jle rfl) ⟨_, rfl, h⟩
set_option maxRecDepth 100000 in
set_option maxHeartbeats 4000000 in
theorem T_X2_worth {E : jEnv} {d : Nat} {Q : Int32 → jM → Prop} {a0 : Nat} {S : jM} (h : jk S a0 = 2 ∧ ((ji S a0 0) = 1 → Q ((ji S a0 4) + 11) S) ∧ ((ji S a0 0) = 2 → Q (99 - (ji S a0 4)) S) ∧ ((ji S a0 0) = 3 → Q (2 * ((ji S a0 4) + 11)) S) ∧ ((ji S a0 0) = 4 → Q ((99 - (ji S a0 4)) - 4) S) ∧ ((ji S a0 0) = 5 → Q 8 S) ∧ (¬ (ji S a0 0) = 1 → ¬ (ji S a0 0) = 2 → ¬ (ji S a0 0) = 3 → ¬ (ji S a0 0) = 4 → ¬ (ji S a0 0) = 5 → Q (ji S a0 4) S)) : jFi E mX2_worth d 0 0 [.ref a0] S Q := by
  refine jF_of (by decide) (jle rfl) ?_
  refine jx_lv (lv1 := [(0, .ref a0)]) [0] rfl ?_
  refine jx_aload_n 0 kd96.1 rfl rfl ?_
  obtain ⟨hk1, h⟩ := h
  refine jx_geti jc_2 (j := 0) (by decide) rfl jwF_X2_9 kd96.2.1 hk1 ?_
  by_cases c2 : (ji S a0 0) = 1
  · replace h := h.1 c2
    refine jx_tableIn (v := 1) (tgt := 40) (off := 36) kd96.2.2.1 c2 (by decide) (by decide) (by decide) (by decide) ?_
    refine jx_aload_n 0 kd96.2.2.2.1 rfl rfl ?_
    refine jx_geti jc_2 (j := 4) (by decide) rfl jwF_X2_21 kd96.2.2.2.2.1 hk1 ?_
    refine jx_bipush (v := 11) kd96.2.2.2.2.2.1 (by decide) ?_
    refine jx_iadd kd96.2.2.2.2.2.2.1 ?_
    exact jx_iret kd96.2.2.2.2.2.2.2.1 rfl rfl (jle rfl) (jle rfl) ⟨_, rfl, h⟩
  replace h := h.2
  by_cases c3 : (ji S a0 0) = 2
  · replace h := h.1 c3
    refine jx_tableIn (v := 2) (tgt := 58) (off := 54) kd96.2.2.1 c3 (by decide) (by decide) (by decide) (by decide) ?_
    refine jx_bipush (v := 99) kd97.2.2.2.2.2.2.1 (by decide) ?_
    refine jx_aload_n 0 kd97.2.2.2.2.2.2.2.1 rfl rfl ?_
    refine jx_geti jc_2 (j := 4) (by decide) rfl jwF_X2_21 kd97.2.2.2.2.2.2.2.2.1 hk1 ?_
    refine jx_isub kd98.1 ?_
    exact jx_iret kd98.2.1 rfl rfl (jle rfl) (jle rfl) ⟨_, rfl, h⟩
  replace h := h.2
  by_cases c4 : (ji S a0 0) = 3
  · replace h := h.1 c4
    refine jx_tableIn (v := 3) (tgt := 48) (off := 44) kd96.2.2.1 c4 (by decide) (by decide) (by decide) (by decide) ?_
    refine jx_iconst (v := 2) kd96.2.2.2.2.2.2.2.2.1 (by decide) ?_
    refine jx_aload_n 0 kd97.1 rfl rfl ?_
    refine jx_geti jc_2 (j := 4) (by decide) rfl jwF_X2_21 kd97.2.1 hk1 ?_
    refine jx_bipush (v := 11) kd97.2.2.1 (by decide) ?_
    refine jx_iadd kd97.2.2.2.1 ?_
    refine jx_imul kd97.2.2.2.2.1 ?_
    exact jx_iret kd97.2.2.2.2.2.1 rfl rfl (jle rfl) (jle rfl) ⟨_, rfl, h⟩
  replace h := h.2
  by_cases c5 : (ji S a0 0) = 4
  · replace h := h.1 c5
    refine jx_tableIn (v := 4) (tgt := 66) (off := 62) kd96.2.2.1 c5 (by decide) (by decide) (by decide) (by decide) ?_
    refine jx_bipush (v := 99) kd98.2.2.1 (by decide) ?_
    refine jx_aload_n 0 kd98.2.2.2.1 rfl rfl ?_
    refine jx_geti jc_2 (j := 4) (by decide) rfl jwF_X2_21 kd98.2.2.2.2.1 hk1 ?_
    refine jx_isub kd98.2.2.2.2.2.1 ?_
    refine jx_iconst (v := 4) kd98.2.2.2.2.2.2.1 (by decide) ?_
    refine jx_isub kd98.2.2.2.2.2.2.2.1 ?_
    exact jx_iret kd98.2.2.2.2.2.2.2.2.1 rfl rfl (jle rfl) (jle rfl) ⟨_, rfl, h⟩
  replace h := h.2
  by_cases c6 : (ji S a0 0) = 5
  · replace h := h.1 c6
    refine jx_tableIn (v := 5) (tgt := 76) (off := 72) kd96.2.2.1 c6 (by decide) (by decide) (by decide) (by decide) ?_
    refine jx_bipush (v := 8) kd99.1 (by decide) ?_
    exact jx_iret kd99.2.1 rfl rfl (jle rfl) (jle rfl) ⟨_, rfl, h⟩
  replace h := h.2
  replace h := h c2 c3 c4 c5 c6
  refine jx_tableD (tgt := 79) ([1, 2, 3, 4, 5] : List Int) kd96.2.2.1 (by simp only [List.mem_cons, List.not_mem_nil, or_false, forall_eq_or_imp, forall_eq]; exact ⟨lv_neT c2 (by decide), lv_neT c3 (by decide), lv_neT c4 (by decide), lv_neT c5 (by decide), lv_neT c6 (by decide)⟩) (by decide) (by decide) (by decide) ?_
  refine jx_aload_n 0 kd99.2.2.1 rfl rfl ?_
  refine jx_geti jc_2 (j := 4) (by decide) rfl jwF_X2_21 kd99.2.2.2.1 hk1 ?_
  exact jx_iret kd99.2.2.2.2.1 rfl rfl (jle rfl) (jle rfl) ⟨_, rfl, h⟩
set_option maxRecDepth 100000 in
set_option maxHeartbeats 4000000 in
theorem T_X6_init {E : jEnv} {d : Nat} {Q : jM → Prop} {a0 : Nat} {S : jM} (h : jk S a0 = 6 ∧ ∀ q2, q2 = jn (jput S a0 0 (-1)) → jk (jnew (jput S a0 0 (-1)) 12 24) a0 = 6 ∧ Q (jputr (jnew (jput S a0 0 (-1)) 12 24) a0 2 (some q2))) : jFv E mX6_init (d + 1) 1 24 [.ref a0] S Q := by
  refine jF_of (by decide) (jle rfl) ?_
  refine jx_lv (lv1 := [(0, .ref a0)]) [0] rfl ?_
  refine jx_aload_n 0 kd230.1 rfl rfl ?_
  refine jx_objInit jwM_X6_3 jwN_obj jwO_obj kd230.2.1 (jRok_m _ _ _) (jle rfl) ?_
  refine jx_aload_n 0 kd230.2.2.1 rfl rfl ?_
  refine jx_iconst (v := (-1)) kd230.2.2.2.1 (by decide) ?_
  obtain ⟨hk1, h⟩ := h
  refine jx_puti jc_6 (j := 0) (by decide) rfl jwF_X6_9 rfl rfl rfl kd230.2.2.2.2.1 hk1 ?_
  refine jx_aload_n 0 kd230.2.2.2.2.2.1 rfl rfl ?_
  refine jx_bipush (v := 24) kd230.2.2.2.2.2.2.1 (by decide) ?_
  refine jx_newa (N := 24) jwA kd230.2.2.2.2.2.2.2.1 (by decide) (by decide) (by decide) ⟨jle rfl, jle rfl⟩ ?_
  obtain ⟨q2, hq2⟩ : ∃ q, q = jn (jput S a0 0 (-1)) := ⟨_, rfl⟩
  rw [← hq2]
  replace h := h q2 hq2
  obtain ⟨hk3, h⟩ := h
  refine jx_putrF jc_6 (j := 2) (by decide) rfl jwF_X6_15 rfl rfl rfl rfl rfl kd230.2.2.2.2.2.2.2.2.1 hk3 ?_
  exact jx_vret kd231.1 rfl (jle rfl) (jle rfl) ⟨rfl, h⟩
/-- X6_begin at its loop's head 12 -/
abbrev L_X6_begin_12 (E : jEnv) (d : Nat) (Q : jM → Prop) (a0 : Nat) (x3 : Int32) (S : jM) : Prop := jX E mX6_begin (jRm d 0 0) (jZm E (fun r S' => r = none ∧ Q S') 0 0) 12 [(0, .ref a0), (3, .int x3)] [] S 0 0
set_option maxRecDepth 100000 in
set_option maxHeartbeats 4000000 in
theorem T_X6_begin {E : jEnv} {d : Nat} {Q : jM → Prop} {a0 : Nat} {x1 : Int32} {x2 : Int32} {S : jM} (h : jk S a0 = 6 ∧ L_X6_begin_12 E d Q a0 0 (jput (jput S a0 0 x1) a0 1 x2)) : jFv E mX6_begin d 0 0 [.ref a0, .int x1, .int x2] S Q := by
  refine jF_of (by decide) (jle rfl) ?_
  refine jx_lv (lv1 := [(0, .ref a0), (1, .int x1), (2, .int x2)]) [0, 1, 2] rfl ?_
  refine jx_aload_n 0 kd232.1 rfl rfl ?_
  refine jx_iload_n 1 kd232.2.1 rfl rfl ?_
  obtain ⟨hk1, h⟩ := h
  refine jx_puti jc_6 (j := 0) (by decide) rfl jwF_X6_9 rfl rfl rfl kd232.2.2.1 hk1 ?_
  refine jx_aload_n 0 kd232.2.2.2.1 rfl rfl ?_
  refine jx_iload_n 2 kd232.2.2.2.2.1 rfl rfl ?_
  refine jx_puti jc_6 (j := 1) (by decide) rfl jwF_X6_19 rfl rfl rfl kd232.2.2.2.2.2.1 hk1 ?_
  refine jx_iconst (v := 0) kd232.2.2.2.2.2.2.1 (by decide) ?_
  refine jx_istore_n (lv1 := [(3, .int 0), (0, .ref a0), (1, .int x1), (2, .int x2)]) kd232.2.2.2.2.2.2.2.1 rfl (by decide) rfl ?_
  exact jx_lv [1, 0] rfl h
set_option maxRecDepth 100000 in
set_option maxHeartbeats 4000000 in
theorem T_X6_begin_12 {E : jEnv} {d : Nat} {Q : jM → Prop} {a0 : Nat} {x3 : Int32} {S : jM} (h : (24 ≤ x3 → Q S) ∧ (¬ 24 ≤ x3 → jk S a0 = 6 ∧ ∃ b4, jr S a0 2 = some b4 ∧ (jk S b4 = 12 ∧ vp_in x3 (jl S b4) ∧ (L_X6_begin_12 E d Q a0 (x3 + 1) (jput S b4 (Int32.toNatClampNeg x3) 0))))) : L_X6_begin_12 E d Q a0 x3 S := by
  show jX E mX6_begin (jRm d 0 0) (jZm E (fun r S' => r = none ∧ Q S') 0 0) 12 [(0, .ref a0), (3, .int x3)] [] S 0 0
  refine jx_iload_n 1 kd232.2.2.2.2.2.2.2.2.1 rfl rfl ?_
  refine jx_bipush (v := 24) kd233.1 (by decide) ?_
  refine jx_icmp_ge (tgt := 31) kd233.2.1 (by decide) (fun c2 => ?_) (fun c2 => ?_)
  · replace h := h.1 c2
    exact jx_vret kd234.1 rfl (jle rfl) (jle rfl) ⟨rfl, h⟩
  replace h := h.2 c2
  refine jx_aload_n 0 kd233.2.2.1 rfl rfl ?_
  obtain ⟨hk3, h⟩ := h
  obtain ⟨b4, hb4, h⟩ := h
  refine jx_getr jc_6 (j := 2) (by decide) rfl jwF_X6_15 kd233.2.2.2.1 hk3 hb4 ?_
  refine jx_iload_n 1 kd233.2.2.2.2.1 rfl rfl ?_
  refine jx_iconst (v := 0) kd233.2.2.2.2.2.1 (by decide) ?_
  obtain ⟨hk5, h⟩ := h
  obtain ⟨hi6, h⟩ := h
  refine jx_iast kd233.2.2.2.2.2.2.1 hk5 hi6 ?_
  refine jx_iinc 1 (v := (x3 + 1)) (lv1 := [(3, .int (x3 + 1)), (0, .ref a0)]) kd233.2.2.2.2.2.2.2.1 rfl rfl (by decide) rfl ?_
  refine jx_goto (tgt := 12) kd233.2.2.2.2.2.2.2.2.1 (by decide) ?_
  exact jx_lv [1, 0] rfl h
set_option maxRecDepth 100000 in
set_option maxHeartbeats 4000000 in
theorem T_X6_become {E : jEnv} {d : Nat} {Q : jM → Prop} {a0 : Nat} {a1 : Nat} {S : jM} (h : jk S a1 = 6 ∧ jk S a0 = 6 ∧ ∃ b3, jr S a1 2 = some b3 ∧ (∃ b4, jr S a0 2 = some b4 ∧ (jk S b3 = 12 ∧ jk S b4 = 12 ∧ (¬ (0 : Int32) < 0 ∧ ¬ (0 : Int32) < 0 ∧ ¬ (24 : Int32) < 0 ∧ (Int32.toNatClampNeg 0) + (Int32.toNatClampNeg 24) ≤ jl S b3 ∧ (Int32.toNatClampNeg 0) + (Int32.toNatClampNeg 24) ≤ jl S b4) ∧ (Q (jrow (jput (jput S a0 0 (ji S a1 0)) a0 1 (ji S a1 1)) b4 (va_cpy (ji (jput (jput S a0 0 (ji S a1 0)) a0 1 (ji S a1 1)) b3) (ji (jput (jput S a0 0 (ji S a1 0)) a0 1 (ji S a1 1)) b4) (Int32.toNatClampNeg 0) (Int32.toNatClampNeg 0) (Int32.toNatClampNeg 24))))))) : jFv E mX6_become (d + 1) 0 0 [.ref a0, .ref a1] S Q := by
  refine jF_of (by decide) (jle rfl) ?_
  refine jx_lv (lv1 := [(0, .ref a0), (1, .ref a1)]) [0, 1] rfl ?_
  refine jx_aload_n 0 kd235.1 rfl rfl ?_
  refine jx_aload_n 1 kd235.2.1 rfl rfl ?_
  obtain ⟨hk1, h⟩ := h
  refine jx_geti jc_6 (j := 0) (by decide) rfl jwF_X6_9 kd235.2.2.1 hk1 ?_
  obtain ⟨hk2, h⟩ := h
  refine jx_puti jc_6 (j := 0) (by decide) rfl jwF_X6_9 rfl rfl rfl kd235.2.2.2.1 hk2 ?_
  refine jx_aload_n 0 kd235.2.2.2.2.1 rfl rfl ?_
  refine jx_aload_n 1 kd235.2.2.2.2.2.1 rfl rfl ?_
  refine jx_geti jc_6 (j := 1) (by decide) rfl jwF_X6_19 kd235.2.2.2.2.2.2.1 hk1 ?_
  refine jx_topi (y := (ji S a1 1)) (by simp [ji_put, ji_row, ji_putr]) ?_
  refine jx_puti jc_6 (j := 1) (by decide) rfl jwF_X6_19 rfl rfl rfl kd235.2.2.2.2.2.2.2.1 hk2 ?_
  refine jx_aload_n 1 kd235.2.2.2.2.2.2.2.2.1 rfl rfl ?_
  obtain ⟨b3, hb3, h⟩ := h
  refine jx_getr jc_6 (j := 2) (by decide) rfl jwF_X6_15 kd236.1 hk1 hb3 ?_
  refine jx_iconst (v := 0) kd236.2.1 (by decide) ?_
  refine jx_aload_n 0 kd236.2.2.1 rfl rfl ?_
  obtain ⟨b4, hb4, h⟩ := h
  refine jx_getr jc_6 (j := 2) (by decide) rfl jwF_X6_15 kd236.2.2.2.1 hk2 hb4 ?_
  refine jx_iconst (v := 0) kd236.2.2.2.2.1 (by decide) ?_
  refine jx_bipush (v := 24) kd236.2.2.2.2.2.1 (by decide) ?_
  obtain ⟨hk5, h⟩ := h
  obtain ⟨hk6, h⟩ := h
  obtain ⟨⟨hc7, hc8, hc9, hc10, hc11⟩, h⟩ := h
  refine jx_copy jwM_X6_22 jwV_copy jwS_copy jwZ_J10 kd236.2.2.2.2.2.2.1 (jRok_m _ _ _) (jle rfl) hk5 hk6 hc7 hc8 hc9 hc10 hc11 ?_
  exact jx_vret kd236.2.2.2.2.2.2.2.1 rfl (jle rfl) (jle rfl) ⟨rfl, h⟩
set_option maxRecDepth 100000 in
set_option maxHeartbeats 4000000 in
theorem T_X6_hasPlace {E : jEnv} {d : Nat} {Q : Int32 → jM → Prop} {a0 : Nat} {x1 : Int32} {S : jM} (h : jk S a0 = 6 ∧ ((jwi x1 (ji S a0 1)) = 0 → Q 0 S) ∧ (¬ (jwi x1 (ji S a0 1)) = 0 → (24 ≤ x1 → Q 0 S) ∧ (¬ 24 ≤ x1 → Q 1 S))) : jFi E mX6_hasPlace (d + 1) 0 0 [.ref a0, .int x1] S Q := by
  refine jF_of (by decide) (jle rfl) ?_
  refine jx_lv (lv1 := [(0, .ref a0), (1, .int x1)]) [0, 1] rfl ?_
  refine jx_iload_n 1 kd237.1 rfl rfl ?_
  refine jx_aload_n 0 kd237.2.1 rfl rfl ?_
  obtain ⟨hk1, h⟩ := h
  refine jx_geti jc_6 (j := 1) (by decide) rfl jwF_X6_19 kd237.2.2.1 hk1 ?_
  refine jx_callSNi (M' := mX10_within) (As := [.int x1, .int (ji S a0 1)]) (host := "NineMasters") jo_X10_within (by decide) jwS_X10_within kd237.2.2.2.1 (jRok_m _ _ _) rfl (jle rfl) ⟨jle rfl, jle rfl⟩ (c_X10_within (Q := fun v S' => v = (jwi x1 (ji S a0 1)) ∧ S = S') ⟨rfl, rfl⟩) (fun r2 S3 hq4 => ?_)
  obtain ⟨rfl, rfl⟩ := hq4
  refine jx_if_eq (tgt := 21) kd237.2.2.2.2.1 (by decide) (fun c5 => ?_) (fun c5 => ?_)
  · replace h := h.1 c5
    refine jx_iconst (v := 0) kd238.2.1 (by decide) ?_
    exact jx_iret kd238.2.2.1 rfl (by decide) (jle rfl) (jle rfl) ⟨_, rfl, h⟩
  replace h := h.2 c5
  refine jx_iload_n 1 kd237.2.2.2.2.2.1 rfl rfl ?_
  refine jx_bipush (v := 24) kd237.2.2.2.2.2.2.1 (by decide) ?_
  refine jx_icmp_ge (tgt := 21) kd237.2.2.2.2.2.2.2.1 (by decide) (fun c6 => ?_) (fun c6 => ?_)
  · replace h := h.1 c6
    refine jx_iconst (v := 0) kd238.2.1 (by decide) ?_
    exact jx_iret kd238.2.2.1 rfl (by decide) (jle rfl) (jle rfl) ⟨_, rfl, h⟩
  replace h := h.2 c6
  refine jx_iconst (v := 1) kd237.2.2.2.2.2.2.2.2.1 (by decide) ?_
  refine jx_goto (tgt := 22) kd238.1 (by decide) ?_
  exact jx_iret kd238.2.2.1 rfl (by decide) (jle rfl) (jle rfl) ⟨_, rfl, h⟩
set_option maxRecDepth 100000 in
set_option maxHeartbeats 4000000 in
theorem T_X6_hasPlaces {E : jEnv} {d : Nat} {Q : Int32 → jM → Prop} {a0 : Nat} {x1 : Int32} {x2 : Int32} {S : jM} (h : (x1 < 0 → Q 0 S) ∧ (¬ x1 < 0 → (x2 < 0 → Q 0 S) ∧ (¬ x2 < 0 → jk S a0 = 6 ∧ ((ji S a0 1) < x2 → Q 0 S) ∧ (¬ (ji S a0 1) < x2 → (((ji S a0 1) - x2) < x1 → Q 0 S) ∧ (¬ ((ji S a0 1) - x2) < x1 → Q 1 S))))) : jFi E mX6_hasPlaces d 0 0 [.ref a0, .int x1, .int x2] S Q := by
  refine jF_of (by decide) (jle rfl) ?_
  refine jx_lv (lv1 := [(0, .ref a0), (1, .int x1), (2, .int x2)]) [0, 1, 2] rfl ?_
  refine jx_iload_n 1 kd239.1 rfl rfl ?_
  refine jx_if_lt (tgt := 30) kd239.2.1 (by decide) (fun c1 => ?_) (fun c1 => ?_)
  · replace h := h.1 c1
    refine jx_iconst (v := 0) kd240.2.2.2.2.2.2.2.1 (by decide) ?_
    exact jx_iret kd240.2.2.2.2.2.2.2.2.1 rfl (by decide) (jle rfl) (jle rfl) ⟨_, rfl, h⟩
  replace h := h.2 c1
  refine jx_iload_n 2 kd239.2.2.1 rfl rfl ?_
  refine jx_if_lt (tgt := 30) kd239.2.2.2.1 (by decide) (fun c2 => ?_) (fun c2 => ?_)
  · replace h := h.1 c2
    refine jx_iconst (v := 0) kd240.2.2.2.2.2.2.2.1 (by decide) ?_
    exact jx_iret kd240.2.2.2.2.2.2.2.2.1 rfl (by decide) (jle rfl) (jle rfl) ⟨_, rfl, h⟩
  replace h := h.2 c2
  refine jx_iload_n 2 kd239.2.2.2.2.1 rfl rfl ?_
  refine jx_aload_n 0 kd239.2.2.2.2.2.1 rfl rfl ?_
  obtain ⟨hk3, h⟩ := h
  refine jx_geti jc_6 (j := 1) (by decide) rfl jwF_X6_19 kd239.2.2.2.2.2.2.1 hk3 ?_
  refine jx_icmp_gt (tgt := 30) kd239.2.2.2.2.2.2.2.1 (by decide) (fun c4 => ?_) (fun c4 => ?_)
  · replace h := h.1 c4
    refine jx_iconst (v := 0) kd240.2.2.2.2.2.2.2.1 (by decide) ?_
    exact jx_iret kd240.2.2.2.2.2.2.2.2.1 rfl (by decide) (jle rfl) (jle rfl) ⟨_, rfl, h⟩
  replace h := h.2 c4
  refine jx_iload_n 1 kd239.2.2.2.2.2.2.2.2.1 rfl rfl ?_
  refine jx_aload_n 0 kd240.1 rfl rfl ?_
  refine jx_geti jc_6 (j := 1) (by decide) rfl jwF_X6_19 kd240.2.1 hk3 ?_
  refine jx_iload_n 2 kd240.2.2.1 rfl rfl ?_
  refine jx_isub kd240.2.2.2.1 ?_
  refine jx_icmp_gt (tgt := 30) kd240.2.2.2.2.1 (by decide) (fun c5 => ?_) (fun c5 => ?_)
  · replace h := h.1 c5
    refine jx_iconst (v := 0) kd240.2.2.2.2.2.2.2.1 (by decide) ?_
    exact jx_iret kd240.2.2.2.2.2.2.2.2.1 rfl (by decide) (jle rfl) (jle rfl) ⟨_, rfl, h⟩
  replace h := h.2 c5
  refine jx_iconst (v := 1) kd240.2.2.2.2.2.1 (by decide) ?_
  refine jx_goto (tgt := 31) kd240.2.2.2.2.2.2.1 (by decide) ?_
  exact jx_iret kd240.2.2.2.2.2.2.2.2.1 rfl (by decide) (jle rfl) (jle rfl) ⟨_, rfl, h⟩
set_option maxRecDepth 100000 in
set_option maxHeartbeats 4000000 in
theorem T_X6_isNumber {E : jEnv} {d : Nat} {Q : Int32 → jM → Prop} {a0 : Nat} {x1 : Int32} {S : jM} (h : jk S a0 = 6 ∧ jFi E mX6_hasPlace d 0 0 [.ref a0, .int x1] S (fun r3 S2 => (r3 = 0 → Q 0 S2) ∧ (¬ r3 = 0 → jk S2 a0 = 6 ∧ ∃ b6, jr S2 a0 2 = some b6 ∧ (jk S2 b6 = 12 ∧ vp_in x1 (jl S2 b6) ∧ (((ji S2 b6 (Int32.toNatClampNeg x1)) = (-1000000005) → Q 0 S2) ∧ (¬ (ji S2 b6 (Int32.toNatClampNeg x1)) = (-1000000005) → Q 1 S2)))))) : jFi E mX6_isNumber (d + 1) 0 0 [.ref a0, .int x1] S Q := by
  refine jF_of (by decide) (jle rfl) ?_
  refine jx_lv (lv1 := [(0, .ref a0), (1, .int x1)]) [0, 1] rfl ?_
  refine jx_aload_n 0 kd241.1 rfl rfl ?_
  refine jx_iload_n 1 kd241.2.1 rfl rfl ?_
  obtain ⟨hk1, h⟩ := h
  refine jx_callVi (M' := mX6_hasPlace) (As := [.int x1]) jo_X6_hasPlace jc_6 rfl jwM_X6_32 jwN_X6_hasPlace jwX_X6_hasPlace kd241.2.2.1 (jRok_m _ _ _) rfl (jle rfl) ⟨jle rfl, jle rfl⟩ hk1 h (fun r3 S2 h => ?_)
  refine jx_if_eq (tgt := 23) kd241.2.2.2.1 (by decide) (fun c4 => ?_) (fun c4 => ?_)
  · replace h := h.1 c4
    refine jx_iconst (v := 0) kd242.2.2.2.1 (by decide) ?_
    exact jx_iret kd242.2.2.2.2.1 rfl (by decide) (jle rfl) (jle rfl) ⟨_, rfl, h⟩
  replace h := h.2 c4
  refine jx_aload_n 0 kd241.2.2.2.2.1 rfl rfl ?_
  obtain ⟨hk5, h⟩ := h
  obtain ⟨b6, hb6, h⟩ := h
  refine jx_getr jc_6 (j := 2) (by decide) rfl jwF_X6_15 kd241.2.2.2.2.2.1 hk5 hb6 ?_
  refine jx_iload_n 1 kd241.2.2.2.2.2.2.1 rfl rfl ?_
  obtain ⟨hk7, h⟩ := h
  obtain ⟨hi8, h⟩ := h
  refine jx_iald kd241.2.2.2.2.2.2.2.1 hk7 hi8 ?_
  refine jx_ldc jwC_X6_36 kd241.2.2.2.2.2.2.2.2.1 ?_
  refine jx_icmp_eq (tgt := 23) kd242.1 (by decide) (fun c9 => ?_) (fun c9 => ?_)
  · replace h := h.1 c9
    refine jx_iconst (v := 0) kd242.2.2.2.1 (by decide) ?_
    exact jx_iret kd242.2.2.2.2.1 rfl (by decide) (jle rfl) (jle rfl) ⟨_, rfl, h⟩
  replace h := h.2 c9
  refine jx_iconst (v := 1) kd242.2.1 (by decide) ?_
  refine jx_goto (tgt := 24) kd242.2.2.1 (by decide) ?_
  exact jx_iret kd242.2.2.2.2.1 rfl (by decide) (jle rfl) (jle rfl) ⟨_, rfl, h⟩
set_option maxRecDepth 100000 in
set_option maxHeartbeats 4000000 in
theorem T_X7_init {E : jEnv} {d : Nat} {Q : jM → Prop} {a0 : Nat} {S : jM} (h : jk S a0 = 7 ∧ ∀ q2, q2 = jn (jput S a0 0 0) → jFv E mX2_init d 0 0 [.ref q2] (jnew (jput S a0 0 0) 2 0) (fun S3 => jk S3 a0 = 7 ∧ ∀ q6, q6 = jn (jputr S3 a0 1 (some q2)) → jFv E mX6_init d 1 24 [.ref q6] (jnew (jputr S3 a0 1 (some q2)) 6 0) (fun S7 => jk S7 a0 = 7 ∧ Q (jputr S7 a0 2 (some q6))))) : jFv E mX7_init (d + 1) 3 34 [.ref a0] S Q := by
  refine jF_of (by decide) (jle rfl) ?_
  refine jx_lv (lv1 := [(0, .ref a0)]) [0] rfl ?_
  refine jx_aload_n 0 kd243.1 rfl rfl ?_
  refine jx_objInit jwM_X7_3 jwN_obj jwO_obj kd243.2.1 (jRok_m _ _ _) (jle rfl) ?_
  refine jx_aload_n 0 kd243.2.2.1 rfl rfl ?_
  refine jx_iconst (v := 0) kd243.2.2.2.1 (by decide) ?_
  obtain ⟨hk1, h⟩ := h
  refine jx_puti jc_7 (j := 0) (by decide) rfl jwF_X7_9 rfl rfl rfl kd243.2.2.2.2.1 hk1 ?_
  refine jx_aload_n 0 kd243.2.2.2.2.2.1 rfl rfl ?_
  refine jx_new jc_2 jwK_X7_15 jwI_X2 jwZ_X2 jdv_2 kd243.2.2.2.2.2.2.1 ⟨jle rfl, jle rfl⟩ ?_
  obtain ⟨q2, hq2⟩ : ∃ q, q = jn (jput S a0 0 0) := ⟨_, rfl⟩
  rw [← hq2]
  replace h := h q2 hq2
  refine jx_dup kd243.2.2.2.2.2.2.2.1 rfl ?_
  refine jx_callINv (M' := mX2_init) (As := []) (b := q2) (host := "NineMasters") jo_X2_init rfl (by decide) jwN_X2_init rfl kd243.2.2.2.2.2.2.2.2.1 (jRok_m _ _ _) rfl (jle rfl) ⟨jle rfl, jle rfl⟩ h (fun S3 h => ?_)
  obtain ⟨hk4, h⟩ := h
  refine jx_putrF jc_7 (j := 1) (by decide) rfl jwF_X7_18 rfl rfl rfl rfl rfl kd244.1 hk4 ?_
  refine jx_aload_n 0 kd244.2.1 rfl rfl ?_
  refine jx_new jc_6 jwK_X7_22 jwI_X6 jwZ_X6 jdv_6 kd244.2.2.1 ⟨jle rfl, jle rfl⟩ ?_
  obtain ⟨q6, hq6⟩ : ∃ q, q = jn (jputr S3 a0 1 (some q2)) := ⟨_, rfl⟩
  rw [← hq6]
  replace h := h q6 hq6
  refine jx_dup kd244.2.2.2.1 rfl ?_
  refine jx_callINv (M' := mX6_init) (As := []) (b := q6) (host := "NineMasters") jo_X6_init rfl (by decide) jwN_X6_init rfl kd244.2.2.2.2.1 (jRok_m _ _ _) rfl (jle rfl) ⟨jle rfl, jle rfl⟩ h (fun S7 h => ?_)
  obtain ⟨hk8, h⟩ := h
  refine jx_putrF jc_7 (j := 2) (by decide) rfl jwF_X7_25 rfl rfl rfl rfl rfl kd244.2.2.2.2.2.1 hk8 ?_
  exact jx_vret kd244.2.2.2.2.2.2.1 rfl (jle rfl) (jle rfl) ⟨rfl, h⟩
set_option maxRecDepth 100000 in
set_option maxHeartbeats 4000000 in
theorem T_X4_init {E : jEnv} {d : Nat} {Q : jM → Prop} {a0 : Nat} {S : jM} (h : ∀ q1, q1 = jn S → jk (jnew S 12 36) a0 = 4 ∧ ∀ q4, q4 = jn (jputr (jnew S 12 36) a0 0 (some q1)) → jk (jnew (jputr (jnew S 12 36) a0 0 (some q1)) 12 36) a0 = 4 ∧ jFv E mX4_measure d 0 0 [.ref a0] (jputr (jnew (jputr (jnew S 12 36) a0 0 (some q1)) 12 36) a0 1 (some q4)) (fun S7 => Q S7)) : jFv E mX4_init (d + 1) 2 72 [.ref a0] S Q := by
  refine jF_of (by decide) (jle rfl) ?_
  refine jx_lv (lv1 := [(0, .ref a0)]) [0] rfl ?_
  refine jx_aload_n 0 kd147.1 rfl rfl ?_
  refine jx_objInit jwM_X4_3 jwN_obj jwO_obj kd147.2.1 (jRok_m _ _ _) (jle rfl) ?_
  refine jx_aload_n 0 kd147.2.2.1 rfl rfl ?_
  refine jx_bipush (v := 36) kd147.2.2.2.1 (by decide) ?_
  refine jx_newa (N := 36) jwA kd147.2.2.2.2.1 (by decide) (by decide) (by decide) ⟨jle rfl, jle rfl⟩ ?_
  obtain ⟨q1, hq1⟩ : ∃ q, q = jn S := ⟨_, rfl⟩
  rw [← hq1]
  replace h := h q1 hq1
  obtain ⟨hk2, h⟩ := h
  refine jx_putrF jc_4 (j := 0) (by decide) rfl jwF_X4_9 rfl rfl rfl rfl rfl kd147.2.2.2.2.2.1 hk2 ?_
  refine jx_aload_n 0 kd147.2.2.2.2.2.2.1 rfl rfl ?_
  refine jx_bipush (v := 36) kd147.2.2.2.2.2.2.2.1 (by decide) ?_
  refine jx_newa (N := 36) jwA kd147.2.2.2.2.2.2.2.2.1 (by decide) (by decide) (by decide) ⟨jle rfl, jle rfl⟩ ?_
  obtain ⟨q4, hq4⟩ : ∃ q, q = jn (jputr (jnew S 12 36) a0 0 (some q1)) := ⟨_, rfl⟩
  rw [← hq4]
  replace h := h q4 hq4
  obtain ⟨hk5, h⟩ := h
  refine jx_putrF jc_4 (j := 1) (by decide) rfl jwF_X4_15 rfl rfl rfl rfl rfl kd148.1 hk5 ?_
  refine jx_aload_n 0 kd148.2.1 rfl rfl ?_
  refine jx_callVv (M' := mX4_measure) (As := []) jo_X4_measure jc_4 rfl jwM_X4_18 jwN_X4_measure jwX_X4_measure kd148.2.2.1 (jRok_m _ _ _) rfl (jle rfl) ⟨jle rfl, jle rfl⟩ hk5 h (fun S7 h => ?_)
  exact jx_vret kd148.2.2.2.1 rfl (jle rfl) (jle rfl) ⟨rfl, h⟩
set_option maxRecDepth 100000 in
set_option maxHeartbeats 4000000 in
theorem T_X4_become {E : jEnv} {d : Nat} {Q : jM → Prop} {a0 : Nat} {a1 : Nat} {S : jM} (h : jk S a1 = 4 ∧ ∃ b2, jr S a1 0 = some b2 ∧ (jk S a0 = 4 ∧ ∃ b4, jr S a0 0 = some b4 ∧ (jk S b2 = 12 ∧ jk S b4 = 12 ∧ (¬ (0 : Int32) < 0 ∧ ¬ (0 : Int32) < 0 ∧ ¬ (36 : Int32) < 0 ∧ (Int32.toNatClampNeg 0) + (Int32.toNatClampNeg 36) ≤ jl S b2 ∧ (Int32.toNatClampNeg 0) + (Int32.toNatClampNeg 36) ≤ jl S b4) ∧ (∃ b12, jr S a1 1 = some b12 ∧ (∃ b13, jr S a0 1 = some b13 ∧ (jk S b12 = 12 ∧ jk S b13 = 12 ∧ (¬ (0 : Int32) < 0 ∧ ¬ (0 : Int32) < 0 ∧ ¬ (36 : Int32) < 0 ∧ (Int32.toNatClampNeg 0) + (Int32.toNatClampNeg 36) ≤ jl S b12 ∧ (Int32.toNatClampNeg 0) + (Int32.toNatClampNeg 36) ≤ jl S b13) ∧ (Q (jrow (jrow S b4 (va_cpy (ji S b2) (ji S b4) (Int32.toNatClampNeg 0) (Int32.toNatClampNeg 0) (Int32.toNatClampNeg 36))) b13 (va_cpy (ji (jrow S b4 (va_cpy (ji S b2) (ji S b4) (Int32.toNatClampNeg 0) (Int32.toNatClampNeg 0) (Int32.toNatClampNeg 36))) b12) (ji (jrow S b4 (va_cpy (ji S b2) (ji S b4) (Int32.toNatClampNeg 0) (Int32.toNatClampNeg 0) (Int32.toNatClampNeg 36))) b13) (Int32.toNatClampNeg 0) (Int32.toNatClampNeg 0) (Int32.toNatClampNeg 36)))))))))) : jFv E mX4_become (d + 1) 0 0 [.ref a0, .ref a1] S Q := by
  refine jF_of (by decide) (jle rfl) ?_
  refine jx_lv (lv1 := [(0, .ref a0), (1, .ref a1)]) [0, 1] rfl ?_
  refine jx_aload_n 1 kd149.1 rfl rfl ?_
  obtain ⟨hk1, h⟩ := h
  obtain ⟨b2, hb2, h⟩ := h
  refine jx_getr jc_4 (j := 0) (by decide) rfl jwF_X4_9 kd149.2.1 hk1 hb2 ?_
  refine jx_iconst (v := 0) kd149.2.2.1 (by decide) ?_
  refine jx_aload_n 0 kd149.2.2.2.1 rfl rfl ?_
  obtain ⟨hk3, h⟩ := h
  obtain ⟨b4, hb4, h⟩ := h
  refine jx_getr jc_4 (j := 0) (by decide) rfl jwF_X4_9 kd149.2.2.2.2.1 hk3 hb4 ?_
  refine jx_iconst (v := 0) kd149.2.2.2.2.2.1 (by decide) ?_
  refine jx_bipush (v := 36) kd149.2.2.2.2.2.2.1 (by decide) ?_
  obtain ⟨hk5, h⟩ := h
  obtain ⟨hk6, h⟩ := h
  obtain ⟨⟨hc7, hc8, hc9, hc10, hc11⟩, h⟩ := h
  refine jx_copy jwM_X4_21 jwV_copy jwS_copy jwZ_J10 kd149.2.2.2.2.2.2.2.1 (jRok_m _ _ _) (jle rfl) hk5 hk6 hc7 hc8 hc9 hc10 hc11 ?_
  refine jx_aload_n 1 kd149.2.2.2.2.2.2.2.2.1 rfl rfl ?_
  obtain ⟨b12, hb12, h⟩ := h
  refine jx_getr jc_4 (j := 1) (by decide) rfl jwF_X4_15 kd150.1 hk1 hb12 ?_
  refine jx_iconst (v := 0) kd150.2.1 (by decide) ?_
  refine jx_aload_n 0 kd150.2.2.1 rfl rfl ?_
  obtain ⟨b13, hb13, h⟩ := h
  refine jx_getr jc_4 (j := 1) (by decide) rfl jwF_X4_15 kd150.2.2.2.1 hk3 hb13 ?_
  refine jx_iconst (v := 0) kd150.2.2.2.2.1 (by decide) ?_
  refine jx_bipush (v := 36) kd150.2.2.2.2.2.1 (by decide) ?_
  obtain ⟨hk14, h⟩ := h
  obtain ⟨hk15, h⟩ := h
  obtain ⟨⟨hc16, hc17, hc18, hc19, hc20⟩, h⟩ := h
  refine jx_copy jwM_X4_21 jwV_copy jwS_copy jwZ_J10 kd150.2.2.2.2.2.2.1 (jRok_m _ _ _) (jle rfl) hk14 hk15 hc16 hc17 hc18 hc19 hc20 ?_
  exact jx_vret kd150.2.2.2.2.2.2.2.1 rfl (jle rfl) (jle rfl) ⟨rfl, h⟩
set_option maxRecDepth 100000 in
set_option maxHeartbeats 4000000 in
theorem T_X4_direct {E : jEnv} {d : Nat} {Q : Int32 → jM → Prop} {a0 : Nat} {x1 : Int32} {x2 : Int32} {S : jM} (h : ((jwi x1 6) = 0 → Q 0 S) ∧ (¬ (jwi x1 6) = 0 → ((jwi x2 6) = 0 → Q 0 S) ∧ (¬ (jwi x2 6) = 0 → jk S a0 = 4 ∧ ∃ b10, jr S a0 0 = some b10 ∧ (jk S b10 = 12 ∧ vp_in ((x1 * 6) + x2) (jl S b10) ∧ (Q (ji S b10 (Int32.toNatClampNeg ((x1 * 6) + x2))) S))))) : jFi E mX4_direct (d + 1) 0 0 [.ref a0, .int x1, .int x2] S Q := by
  refine jF_of (by decide) (jle rfl) ?_
  refine jx_lv (lv1 := [(0, .ref a0), (1, .int x1), (2, .int x2)]) [0, 1, 2] rfl ?_
  refine jx_iload_n 1 kd151.1 rfl rfl ?_
  refine jx_bipush (v := 6) kd151.2.1 (by decide) ?_
  refine jx_callSNi (M' := mX10_within) (As := [.int x1, .int 6]) (host := "NineMasters") jo_X10_within (by decide) jwS_X10_within kd151.2.2.1 (jRok_m _ _ _) rfl (jle rfl) ⟨jle rfl, jle rfl⟩ (c_X10_within (Q := fun v S' => v = (jwi x1 6) ∧ S = S') ⟨rfl, rfl⟩) (fun r1 S2 hq3 => ?_)
  obtain ⟨rfl, rfl⟩ := hq3
  refine jx_if_eq (tgt := 32) kd151.2.2.2.1 (by decide) (fun c4 => ?_) (fun c4 => ?_)
  · replace h := h.1 c4
    refine jx_iconst (v := 0) kd152.2.2.2.2.2.2.2.2.1 (by decide) ?_
    exact jx_iret kd153.1 rfl rfl (jle rfl) (jle rfl) ⟨_, rfl, h⟩
  replace h := h.2 c4
  refine jx_iload_n 2 kd151.2.2.2.2.1 rfl rfl ?_
  refine jx_bipush (v := 6) kd151.2.2.2.2.2.1 (by decide) ?_
  refine jx_callSNi (M' := mX10_within) (As := [.int x2, .int 6]) (host := "NineMasters") jo_X10_within (by decide) jwS_X10_within kd151.2.2.2.2.2.2.1 (jRok_m _ _ _) rfl (jle rfl) ⟨jle rfl, jle rfl⟩ (c_X10_within (Q := fun v S' => v = (jwi x2 6) ∧ S = S') ⟨rfl, rfl⟩) (fun r5 S6 hq7 => ?_)
  obtain ⟨rfl, rfl⟩ := hq7
  refine jx_if_eq (tgt := 32) kd151.2.2.2.2.2.2.2.1 (by decide) (fun c8 => ?_) (fun c8 => ?_)
  · replace h := h.1 c8
    refine jx_iconst (v := 0) kd152.2.2.2.2.2.2.2.2.1 (by decide) ?_
    exact jx_iret kd153.1 rfl rfl (jle rfl) (jle rfl) ⟨_, rfl, h⟩
  replace h := h.2 c8
  refine jx_aload_n 0 kd151.2.2.2.2.2.2.2.2.1 rfl rfl ?_
  obtain ⟨hk9, h⟩ := h
  obtain ⟨b10, hb10, h⟩ := h
  refine jx_getr jc_4 (j := 0) (by decide) rfl jwF_X4_9 kd152.1 hk9 hb10 ?_
  refine jx_iload_n 1 kd152.2.1 rfl rfl ?_
  refine jx_bipush (v := 6) kd152.2.2.1 (by decide) ?_
  refine jx_imul kd152.2.2.2.1 ?_
  refine jx_iload_n 2 kd152.2.2.2.2.1 rfl rfl ?_
  refine jx_iadd kd152.2.2.2.2.2.1 ?_
  obtain ⟨hk11, h⟩ := h
  obtain ⟨hi12, h⟩ := h
  refine jx_iald kd152.2.2.2.2.2.2.1 hk11 hi12 ?_
  refine jx_goto (tgt := 33) kd152.2.2.2.2.2.2.2.1 (by decide) ?_
  exact jx_iret kd153.1 rfl rfl (jle rfl) (jle rfl) ⟨_, rfl, h⟩
set_option maxRecDepth 100000 in
set_option maxHeartbeats 4000000 in
theorem T_X4_fewest {E : jEnv} {d : Nat} {Q : Int32 → jM → Prop} {a0 : Nat} {x1 : Int32} {x2 : Int32} {S : jM} (h : ((jwi x1 6) = 0 → Q 9999 S) ∧ (¬ (jwi x1 6) = 0 → ((jwi x2 6) = 0 → Q 9999 S) ∧ (¬ (jwi x2 6) = 0 → jk S a0 = 4 ∧ ∃ b10, jr S a0 1 = some b10 ∧ (jk S b10 = 12 ∧ vp_in ((x1 * 6) + x2) (jl S b10) ∧ (Q (ji S b10 (Int32.toNatClampNeg ((x1 * 6) + x2))) S))))) : jFi E mX4_fewest (d + 1) 0 0 [.ref a0, .int x1, .int x2] S Q := by
  refine jF_of (by decide) (jle rfl) ?_
  refine jx_lv (lv1 := [(0, .ref a0), (1, .int x1), (2, .int x2)]) [0, 1, 2] rfl ?_
  refine jx_iload_n 1 kd154.1 rfl rfl ?_
  refine jx_bipush (v := 6) kd154.2.1 (by decide) ?_
  refine jx_callSNi (M' := mX10_within) (As := [.int x1, .int 6]) (host := "NineMasters") jo_X10_within (by decide) jwS_X10_within kd154.2.2.1 (jRok_m _ _ _) rfl (jle rfl) ⟨jle rfl, jle rfl⟩ (c_X10_within (Q := fun v S' => v = (jwi x1 6) ∧ S = S') ⟨rfl, rfl⟩) (fun r1 S2 hq3 => ?_)
  obtain ⟨rfl, rfl⟩ := hq3
  refine jx_if_eq (tgt := 32) kd154.2.2.2.1 (by decide) (fun c4 => ?_) (fun c4 => ?_)
  · replace h := h.1 c4
    refine jx_sipush (v := 9999) kd155.2.2.2.2.2.2.2.2.1 (by decide) ?_
    exact jx_iret kd156.1 rfl rfl (jle rfl) (jle rfl) ⟨_, rfl, h⟩
  replace h := h.2 c4
  refine jx_iload_n 2 kd154.2.2.2.2.1 rfl rfl ?_
  refine jx_bipush (v := 6) kd154.2.2.2.2.2.1 (by decide) ?_
  refine jx_callSNi (M' := mX10_within) (As := [.int x2, .int 6]) (host := "NineMasters") jo_X10_within (by decide) jwS_X10_within kd154.2.2.2.2.2.2.1 (jRok_m _ _ _) rfl (jle rfl) ⟨jle rfl, jle rfl⟩ (c_X10_within (Q := fun v S' => v = (jwi x2 6) ∧ S = S') ⟨rfl, rfl⟩) (fun r5 S6 hq7 => ?_)
  obtain ⟨rfl, rfl⟩ := hq7
  refine jx_if_eq (tgt := 32) kd154.2.2.2.2.2.2.2.1 (by decide) (fun c8 => ?_) (fun c8 => ?_)
  · replace h := h.1 c8
    refine jx_sipush (v := 9999) kd155.2.2.2.2.2.2.2.2.1 (by decide) ?_
    exact jx_iret kd156.1 rfl rfl (jle rfl) (jle rfl) ⟨_, rfl, h⟩
  replace h := h.2 c8
  refine jx_aload_n 0 kd154.2.2.2.2.2.2.2.2.1 rfl rfl ?_
  obtain ⟨hk9, h⟩ := h
  obtain ⟨b10, hb10, h⟩ := h
  refine jx_getr jc_4 (j := 1) (by decide) rfl jwF_X4_15 kd155.1 hk9 hb10 ?_
  refine jx_iload_n 1 kd155.2.1 rfl rfl ?_
  refine jx_bipush (v := 6) kd155.2.2.1 (by decide) ?_
  refine jx_imul kd155.2.2.2.1 ?_
  refine jx_iload_n 2 kd155.2.2.2.2.1 rfl rfl ?_
  refine jx_iadd kd155.2.2.2.2.2.1 ?_
  obtain ⟨hk11, h⟩ := h
  obtain ⟨hi12, h⟩ := h
  refine jx_iald kd155.2.2.2.2.2.2.1 hk11 hi12 ?_
  refine jx_goto (tgt := 35) kd155.2.2.2.2.2.2.2.1 (by decide) ?_
  exact jx_iret kd156.1 rfl rfl (jle rfl) (jle rfl) ⟨_, rfl, h⟩
set_option maxRecDepth 100000 in
set_option maxHeartbeats 4000000 in
theorem T_X4_build {E : jEnv} {d : Nat} {Q : jM → Prop} {a0 : Nat} {x1 : Int32} {x2 : Int32} {x3 : Int32} {S : jM} (h : ((jwi x1 6) = 0 → Q S) ∧ (¬ (jwi x1 6) = 0 → ((jwi x2 6) = 0 → Q S) ∧ (¬ (jwi x2 6) = 0 → jk S a0 = 4 ∧ ∃ b10, jr S a0 0 = some b10 ∧ (jk S b10 = 12 ∧ vp_in ((x1 * 6) + x2) (jl S b10) ∧ (vp_in ((x2 * 6) + x1) (jl S b10) ∧ (jFv E mX4_measure d 0 0 [.ref a0] (jput (jput S b10 (Int32.toNatClampNeg ((x1 * 6) + x2)) x3) b10 (Int32.toNatClampNeg ((x2 * 6) + x1)) x3) (fun S14 => Q S14))))))) : jFv E mX4_build (d + 1) 0 0 [.ref a0, .int x1, .int x2, .int x3] S Q := by
  refine jF_of (by decide) (jle rfl) ?_
  refine jx_lv (lv1 := [(0, .ref a0), (1, .int x1), (2, .int x2), (3, .int x3)]) [0, 1, 2, 3] rfl ?_
  refine jx_iload_n 1 kd157.1 rfl rfl ?_
  refine jx_bipush (v := 6) kd157.2.1 (by decide) ?_
  refine jx_callSNi (M' := mX10_within) (As := [.int x1, .int 6]) (host := "NineMasters") jo_X10_within (by decide) jwS_X10_within kd157.2.2.1 (jRok_m _ _ _) rfl (jle rfl) ⟨jle rfl, jle rfl⟩ (c_X10_within (Q := fun v S' => v = (jwi x1 6) ∧ S = S') ⟨rfl, rfl⟩) (fun r1 S2 hq3 => ?_)
  obtain ⟨rfl, rfl⟩ := hq3
  refine jx_if_eq (tgt := 46) kd157.2.2.2.1 (by decide) (fun c4 => ?_) (fun c4 => ?_)
  · replace h := h.1 c4
    exact jx_vret kd160.2.1 rfl (jle rfl) (jle rfl) ⟨rfl, h⟩
  replace h := h.2 c4
  refine jx_iload_n 2 kd157.2.2.2.2.1 rfl rfl ?_
  refine jx_bipush (v := 6) kd157.2.2.2.2.2.1 (by decide) ?_
  refine jx_callSNi (M' := mX10_within) (As := [.int x2, .int 6]) (host := "NineMasters") jo_X10_within (by decide) jwS_X10_within kd157.2.2.2.2.2.2.1 (jRok_m _ _ _) rfl (jle rfl) ⟨jle rfl, jle rfl⟩ (c_X10_within (Q := fun v S' => v = (jwi x2 6) ∧ S = S') ⟨rfl, rfl⟩) (fun r5 S6 hq7 => ?_)
  obtain ⟨rfl, rfl⟩ := hq7
  refine jx_if_eq (tgt := 46) kd157.2.2.2.2.2.2.2.1 (by decide) (fun c8 => ?_) (fun c8 => ?_)
  · replace h := h.1 c8
    exact jx_vret kd160.2.1 rfl (jle rfl) (jle rfl) ⟨rfl, h⟩
  replace h := h.2 c8
  refine jx_aload_n 0 kd157.2.2.2.2.2.2.2.2.1 rfl rfl ?_
  obtain ⟨hk9, h⟩ := h
  obtain ⟨b10, hb10, h⟩ := h
  refine jx_getr jc_4 (j := 0) (by decide) rfl jwF_X4_9 kd158.1 hk9 hb10 ?_
  refine jx_iload_n 1 kd158.2.1 rfl rfl ?_
  refine jx_bipush (v := 6) kd158.2.2.1 (by decide) ?_
  refine jx_imul kd158.2.2.2.1 ?_
  refine jx_iload_n 2 kd158.2.2.2.2.1 rfl rfl ?_
  refine jx_iadd kd158.2.2.2.2.2.1 ?_
  refine jx_iload_n 3 kd158.2.2.2.2.2.2.1 rfl rfl ?_
  obtain ⟨hk11, h⟩ := h
  obtain ⟨hi12, h⟩ := h
  refine jx_iast kd158.2.2.2.2.2.2.2.1 hk11 hi12 ?_
  refine jx_aload_n 0 kd158.2.2.2.2.2.2.2.2.1 rfl rfl ?_
  refine jx_getr jc_4 (j := 0) (by decide) rfl jwF_X4_9 kd159.1 hk9 hb10 ?_
  refine jx_iload_n 2 kd159.2.1 rfl rfl ?_
  refine jx_bipush (v := 6) kd159.2.2.1 (by decide) ?_
  refine jx_imul kd159.2.2.2.1 ?_
  refine jx_iload_n 1 kd159.2.2.2.2.1 rfl rfl ?_
  refine jx_iadd kd159.2.2.2.2.2.1 ?_
  refine jx_iload_n 3 kd159.2.2.2.2.2.2.1 rfl rfl ?_
  obtain ⟨hi13, h⟩ := h
  refine jx_iast kd159.2.2.2.2.2.2.2.1 hk11 hi13 ?_
  refine jx_aload_n 0 kd159.2.2.2.2.2.2.2.2.1 rfl rfl ?_
  refine jx_callVv (M' := mX4_measure) (As := []) jo_X4_measure jc_4 rfl jwM_X4_18 jwN_X4_measure jwX_X4_measure kd160.1 (jRok_m _ _ _) rfl (jle rfl) ⟨jle rfl, jle rfl⟩ hk9 h (fun S14 h => ?_)
  exact jx_vret kd160.2.1 rfl (jle rfl) (jle rfl) ⟨rfl, h⟩
/-- X4_measure at its loop's head 2 -/
abbrev L_X4_measure_2 (E : jEnv) (d : Nat) (Q : jM → Prop) (a0 : Nat) (x1 : Int32) (S : jM) : Prop := jX E mX4_measure (jRm (d + 1) 0 0) (jZm E (fun r S' => r = none ∧ Q S') 0 0) 2 [(0, .ref a0), (1, .int x1)] [] S 0 0
/-- X4_measure at its loop's head 73 -/
abbrev L_X4_measure_73 (E : jEnv) (d : Nat) (Q : jM → Prop) (a0 : Nat) (x1 : Int32) (S : jM) : Prop := jX E mX4_measure (jRm (d + 1) 0 0) (jZm E (fun r S' => r = none ∧ Q S') 0 0) 73 [(0, .ref a0), (1, .int x1)] [] S 0 0
/-- X4_measure at its loop's head 10 -/
abbrev L_X4_measure_10 (E : jEnv) (d : Nat) (Q : jM → Prop) (a0 : Nat) (x1 : Int32) (x2 : Int32) (S : jM) : Prop := jX E mX4_measure (jRm (d + 1) 0 0) (jZm E (fun r S' => r = none ∧ Q S') 0 0) 10 [(0, .ref a0), (1, .int x1), (2, .int x2)] [] S 0 0
/-- X4_measure at its loop's head 81 -/
abbrev L_X4_measure_81 (E : jEnv) (d : Nat) (Q : jM → Prop) (a0 : Nat) (x1 : Int32) (x2 : Int32) (S : jM) : Prop := jX E mX4_measure (jRm (d + 1) 0 0) (jZm E (fun r S' => r = none ∧ Q S') 0 0) 81 [(0, .ref a0), (1, .int x1), (2, .int x2)] [] S 0 0
/-- X4_measure at its loop's head 89 -/
abbrev L_X4_measure_89 (E : jEnv) (d : Nat) (Q : jM → Prop) (a0 : Nat) (x1 : Int32) (x2 : Int32) (x3 : Int32) (S : jM) : Prop := jX E mX4_measure (jRm (d + 1) 0 0) (jZm E (fun r S' => r = none ∧ Q S') 0 0) 89 [(0, .ref a0), (1, .int x1), (2, .int x2), (3, .int x3)] [] S 0 0
set_option maxRecDepth 100000 in
set_option maxHeartbeats 4000000 in
theorem T_X4_measure {E : jEnv} {d : Nat} {Q : jM → Prop} {a0 : Nat} {S : jM} (h : L_X4_measure_2 E d Q a0 0 S) : jFv E mX4_measure (d + 1) 0 0 [.ref a0] S Q := by
  refine jF_of (by decide) (jle rfl) ?_
  refine jx_lv (lv1 := [(0, .ref a0)]) [0] rfl ?_
  refine jx_iconst (v := 0) kd161.1 (by decide) ?_
  refine jx_istore_n (lv1 := [(1, .int 0), (0, .ref a0)]) kd161.2.1 rfl (by decide) rfl ?_
  exact jx_lv [1, 0] rfl h
set_option maxRecDepth 100000 in
set_option maxHeartbeats 4000000 in
theorem T_X4_measure_2 {E : jEnv} {d : Nat} {Q : jM → Prop} {a0 : Nat} {x1 : Int32} {S : jM} (h : (6 ≤ x1 → L_X4_measure_73 E d Q a0 0 S) ∧ (¬ 6 ≤ x1 → L_X4_measure_10 E d Q a0 x1 0 S)) : L_X4_measure_2 E d Q a0 x1 S := by
  show jX E mX4_measure (jRm (d + 1) 0 0) (jZm E (fun r S' => r = none ∧ Q S') 0 0) 2 [(0, .ref a0), (1, .int x1)] [] S 0 0
  refine jx_iload_n 1 kd161.2.2.1 rfl rfl ?_
  refine jx_bipush (v := 6) kd161.2.2.2.1 (by decide) ?_
  refine jx_icmp_ge (tgt := 71) kd161.2.2.2.2.1 (by decide) (fun c1 => ?_) (fun c1 => ?_)
  · replace h := h.1 c1
    refine jx_iconst (v := 0) kd165.2.2.2.2.2.1 (by decide) ?_
    refine jx_istore_n (lv1 := [(1, .int 0), (0, .ref a0)]) kd165.2.2.2.2.2.2.1 rfl (by decide) rfl ?_
    exact jx_lv [1, 0] rfl h
  replace h := h.2 c1
  refine jx_iconst (v := 0) kd161.2.2.2.2.2.1 (by decide) ?_
  refine jx_istore_n (lv1 := [(2, .int 0), (0, .ref a0), (1, .int x1)]) kd161.2.2.2.2.2.2.1 rfl (by decide) rfl ?_
  exact jx_lv [1, 2, 0] rfl h
set_option maxRecDepth 100000 in
set_option maxHeartbeats 4000000 in
theorem T_X4_measure_73 {E : jEnv} {d : Nat} {Q : jM → Prop} {a0 : Nat} {x1 : Int32} {S : jM} (h : (6 ≤ x1 → Q S) ∧ (¬ 6 ≤ x1 → L_X4_measure_81 E d Q a0 x1 0 S)) : L_X4_measure_73 E d Q a0 x1 S := by
  show jX E mX4_measure (jRm (d + 1) 0 0) (jZm E (fun r S' => r = none ∧ Q S') 0 0) 73 [(0, .ref a0), (1, .int x1)] [] S 0 0
  refine jx_iload_n 1 kd165.2.2.2.2.2.2.2.1 rfl rfl ?_
  refine jx_bipush (v := 6) kd165.2.2.2.2.2.2.2.2.1 (by decide) ?_
  refine jx_icmp_ge (tgt := 165) kd166.1 (by decide) (fun c2 => ?_) (fun c2 => ?_)
  · replace h := h.1 c2
    exact jx_vret kd171.2.2.2.2.2.2.2.2.1 rfl (jle rfl) (jle rfl) ⟨rfl, h⟩
  replace h := h.2 c2
  refine jx_iconst (v := 0) kd166.2.1 (by decide) ?_
  refine jx_istore_n (lv1 := [(2, .int 0), (0, .ref a0), (1, .int x1)]) kd166.2.2.1 rfl (by decide) rfl ?_
  exact jx_lv [1, 2, 0] rfl h
set_option maxRecDepth 100000 in
set_option maxHeartbeats 4000000 in
theorem T_X4_measure_10 {E : jEnv} {d : Nat} {Q : jM → Prop} {a0 : Nat} {x1 : Int32} {x2 : Int32} {S : jM} (h : (6 ≤ x2 → L_X4_measure_2 E d Q a0 (x1 + 1) S) ∧ (¬ 6 ≤ x2 → jk S a0 = 4 ∧ ∃ b5, jr S a0 0 = some b5 ∧ (jk S b5 = 12 ∧ vp_in ((x1 * 6) + x2) (jl S b5) ∧ (∃ b8, jr S a0 1 = some b8 ∧ ((x1 = x2 → jk S b8 = 12 ∧ vp_in ((x1 * 6) + x2) (jl S b8) ∧ (L_X4_measure_10 E d Q a0 x1 (x2 + 1) (jput S b8 (Int32.toNatClampNeg ((x1 * 6) + x2)) 0))) ∧ (¬ x1 = x2 → ((ji S b5 (Int32.toNatClampNeg ((x1 * 6) + x2))) = 0 → jk S b8 = 12 ∧ vp_in ((x1 * 6) + x2) (jl S b8) ∧ (L_X4_measure_10 E d Q a0 x1 (x2 + 1) (jput S b8 (Int32.toNatClampNeg ((x1 * 6) + x2)) 9999))) ∧ (¬ (ji S b5 (Int32.toNatClampNeg ((x1 * 6) + x2))) = 0 → jk S b8 = 12 ∧ vp_in ((x1 * 6) + x2) (jl S b8) ∧ (L_X4_measure_10 E d Q a0 x1 (x2 + 1) (jput S b8 (Int32.toNatClampNeg ((x1 * 6) + x2)) (ji S b5 (Int32.toNatClampNeg ((x1 * 6) + x2)))))))))))) : L_X4_measure_10 E d Q a0 x1 x2 S := by
  show jX E mX4_measure (jRm (d + 1) 0 0) (jZm E (fun r S' => r = none ∧ Q S') 0 0) 10 [(0, .ref a0), (1, .int x1), (2, .int x2)] [] S 0 0
  refine jx_iload_n 2 kd161.2.2.2.2.2.2.2.1 rfl rfl ?_
  refine jx_bipush (v := 6) kd161.2.2.2.2.2.2.2.2.1 (by decide) ?_
  refine jx_icmp_ge (tgt := 65) kd162.1 (by decide) (fun c3 => ?_) (fun c3 => ?_)
  · replace h := h.1 c3
    refine jx_iinc 1 (v := (x1 + 1)) (lv1 := [(1, .int (x1 + 1)), (0, .ref a0), (2, .int x2)]) kd165.2.2.2.1 rfl rfl (by decide) rfl ?_
    refine jx_goto (tgt := 2) kd165.2.2.2.2.1 (by decide) ?_
    exact jx_lv [1, 0] rfl h
  replace h := h.2 c3
  refine jx_aload_n 0 kd162.2.1 rfl rfl ?_
  obtain ⟨hk4, h⟩ := h
  obtain ⟨b5, hb5, h⟩ := h
  refine jx_getr jc_4 (j := 0) (by decide) rfl jwF_X4_9 kd162.2.2.1 hk4 hb5 ?_
  refine jx_iload_n 1 kd162.2.2.2.1 rfl rfl ?_
  refine jx_bipush (v := 6) kd162.2.2.2.2.1 (by decide) ?_
  refine jx_imul kd162.2.2.2.2.2.1 ?_
  refine jx_iload_n 2 kd162.2.2.2.2.2.2.1 rfl rfl ?_
  refine jx_iadd kd162.2.2.2.2.2.2.2.1 ?_
  obtain ⟨hk6, h⟩ := h
  obtain ⟨hi7, h⟩ := h
  refine jx_iald kd162.2.2.2.2.2.2.2.2.1 hk6 hi7 ?_
  refine jx_istore_n (lv1 := [(3, .int (ji S b5 (Int32.toNatClampNeg ((x1 * 6) + x2)))), (0, .ref a0), (1, .int x1), (2, .int x2)]) kd163.1 rfl (by decide) rfl ?_
  refine jx_aload_n 1 kd163.2.1 rfl rfl ?_
  obtain ⟨b8, hb8, h⟩ := h
  refine jx_getr jc_4 (j := 1) (by decide) rfl jwF_X4_15 kd163.2.2.1 hk4 hb8 ?_
  refine jx_iload_n 2 kd163.2.2.2.1 rfl rfl ?_
  refine jx_bipush (v := 6) kd163.2.2.2.2.1 (by decide) ?_
  refine jx_imul kd163.2.2.2.2.2.1 ?_
  refine jx_iload_n 3 kd163.2.2.2.2.2.2.1 rfl rfl ?_
  refine jx_iadd kd163.2.2.2.2.2.2.2.1 ?_
  refine jx_iload_n 2 kd163.2.2.2.2.2.2.2.2.1 rfl rfl ?_
  refine jx_iload_n 3 kd164.1 rfl rfl ?_
  refine jx_icmp_ne (tgt := 47) kd164.2.1 (by decide) (fun c9 => ?_) (fun c9 => ?_)
  · replace h := h.2 c9
    refine jx_iload_n 0 kd164.2.2.2.2.1 rfl rfl ?_
    refine jx_if_ne (tgt := 57) kd164.2.2.2.2.2.1 (by decide) (fun c10 => ?_) (fun c10 => ?_)
    · replace h := h.2 c10
      refine jx_iload_n 0 kd164.2.2.2.2.2.2.2.2.1 rfl rfl ?_
      obtain ⟨hk11, h⟩ := h
      obtain ⟨hi12, h⟩ := h
      refine jx_iast kd165.1 hk11 hi12 ?_
      refine jx_iinc 3 (v := (x2 + 1)) (lv1 := [(2, .int (x2 + 1)), (3, .int (ji S b5 (Int32.toNatClampNeg ((x1 * 6) + x2)))), (0, .ref a0), (1, .int x1)]) kd165.2.1 rfl rfl (by decide) rfl ?_
      refine jx_goto (tgt := 10) kd165.2.2.1 (by decide) ?_
      exact jx_lv [2, 3, 0] rfl h
    replace h := h.1 c10
    refine jx_sipush (v := 9999) kd164.2.2.2.2.2.2.1 (by decide) ?_
    refine jx_goto (tgt := 58) kd164.2.2.2.2.2.2.2.1 (by decide) ?_
    obtain ⟨hk13, h⟩ := h
    obtain ⟨hi14, h⟩ := h
    refine jx_iast kd165.1 hk13 hi14 ?_
    refine jx_iinc 3 (v := (x2 + 1)) (lv1 := [(2, .int (x2 + 1)), (3, .int (ji S b5 (Int32.toNatClampNeg ((x1 * 6) + x2)))), (0, .ref a0), (1, .int x1)]) kd165.2.1 rfl rfl (by decide) rfl ?_
    refine jx_goto (tgt := 10) kd165.2.2.1 (by decide) ?_
    exact jx_lv [2, 3, 0] rfl h
  replace h := h.1 c9
  refine jx_iconst (v := 0) kd164.2.2.1 (by decide) ?_
  refine jx_goto (tgt := 58) kd164.2.2.2.1 (by decide) ?_
  obtain ⟨hk15, h⟩ := h
  obtain ⟨hi16, h⟩ := h
  refine jx_iast kd165.1 hk15 hi16 ?_
  refine jx_iinc 3 (v := (x2 + 1)) (lv1 := [(2, .int (x2 + 1)), (3, .int (ji S b5 (Int32.toNatClampNeg ((x1 * 6) + x2)))), (0, .ref a0), (1, .int x1)]) kd165.2.1 rfl rfl (by decide) rfl ?_
  refine jx_goto (tgt := 10) kd165.2.2.1 (by decide) ?_
  exact jx_lv [2, 3, 0] rfl h
set_option maxRecDepth 100000 in
set_option maxHeartbeats 4000000 in
theorem T_X4_measure_81 {E : jEnv} {d : Nat} {Q : jM → Prop} {a0 : Nat} {x1 : Int32} {x2 : Int32} {S : jM} (h : (6 ≤ x2 → L_X4_measure_73 E d Q a0 (x1 + 1) S) ∧ (¬ 6 ≤ x2 → L_X4_measure_89 E d Q a0 x1 x2 0 S)) : L_X4_measure_81 E d Q a0 x1 x2 S := by
  show jX E mX4_measure (jRm (d + 1) 0 0) (jZm E (fun r S' => r = none ∧ Q S') 0 0) 81 [(0, .ref a0), (1, .int x1), (2, .int x2)] [] S 0 0
  refine jx_iload_n 2 kd166.2.2.2.1 rfl rfl ?_
  refine jx_bipush (v := 6) kd166.2.2.2.2.1 (by decide) ?_
  refine jx_icmp_ge (tgt := 159) kd166.2.2.2.2.2.1 (by decide) (fun c17 => ?_) (fun c17 => ?_)
  · replace h := h.1 c17
    refine jx_iinc 1 (v := (x1 + 1)) (lv1 := [(1, .int (x1 + 1)), (0, .ref a0), (2, .int x2)]) kd171.2.2.2.2.2.2.1 rfl rfl (by decide) rfl ?_
    refine jx_goto (tgt := 73) kd171.2.2.2.2.2.2.2.1 (by decide) ?_
    exact jx_lv [1, 0] rfl h
  replace h := h.2 c17
  refine jx_iconst (v := 0) kd166.2.2.2.2.2.2.1 (by decide) ?_
  refine jx_istore_n (lv1 := [(3, .int 0), (0, .ref a0), (1, .int x1), (2, .int x2)]) kd166.2.2.2.2.2.2.2.1 rfl (by decide) rfl ?_
  exact jx_lv [1, 2, 3, 0] rfl h
set_option maxRecDepth 100000 in
set_option maxHeartbeats 4000000 in
theorem T_X4_measure_89 {E : jEnv} {d : Nat} {Q : jM → Prop} {a0 : Nat} {x1 : Int32} {x2 : Int32} {x3 : Int32} {S : jM} (h : (6 ≤ x3 → L_X4_measure_81 E d Q a0 x1 (x2 + 1) S) ∧ (¬ 6 ≤ x3 → jk S a0 = 4 ∧ ∃ b20, jr S a0 1 = some b20 ∧ (jk S b20 = 12 ∧ vp_in ((x2 * 6) + x1) (jl S b20) ∧ (vp_in ((x1 * 6) + x3) (jl S b20) ∧ (∀ y24 : Int32, y24 = ((ji S b20 (Int32.toNatClampNeg ((x2 * 6) + x1))) + (ji S b20 (Int32.toNatClampNeg ((x1 * 6) + x3)))) → vp_in ((x2 * 6) + x3) (jl S b20) ∧ ((L_X4_measure_89 E d Q a0 x1 x2 (x3 + 1) (jput S b20 (Int32.toNatClampNeg ((x2 * 6) + x3)) (jmin (ji S b20 (Int32.toNatClampNeg ((x2 * 6) + x3))) y24))))))))) : L_X4_measure_89 E d Q a0 x1 x2 x3 S := by
  show jX E mX4_measure (jRm (d + 1) 0 0) (jZm E (fun r S' => r = none ∧ Q S') 0 0) 89 [(0, .ref a0), (1, .int x1), (2, .int x2), (3, .int x3)] [] S 0 0
  refine jx_iload_n 3 kd166.2.2.2.2.2.2.2.2.1 rfl rfl ?_
  refine jx_bipush (v := 6) kd167.1 (by decide) ?_
  refine jx_icmp_ge (tgt := 153) kd167.2.1 (by decide) (fun c18 => ?_) (fun c18 => ?_)
  · replace h := h.1 c18
    refine jx_iinc 2 (v := (x2 + 1)) (lv1 := [(2, .int (x2 + 1)), (0, .ref a0), (1, .int x1), (3, .int x3)]) kd171.2.2.2.2.1 rfl rfl (by decide) rfl ?_
    refine jx_goto (tgt := 81) kd171.2.2.2.2.2.1 (by decide) ?_
    exact jx_lv [1, 2, 0] rfl h
  replace h := h.2 c18
  refine jx_aload_n 0 kd167.2.2.1 rfl rfl ?_
  obtain ⟨hk19, h⟩ := h
  obtain ⟨b20, hb20, h⟩ := h
  refine jx_getr jc_4 (j := 1) (by decide) rfl jwF_X4_15 kd167.2.2.2.1 hk19 hb20 ?_
  refine jx_iload_n 2 kd167.2.2.2.2.1 rfl rfl ?_
  refine jx_bipush (v := 6) kd167.2.2.2.2.2.1 (by decide) ?_
  refine jx_imul kd167.2.2.2.2.2.2.1 ?_
  refine jx_iload_n 1 kd167.2.2.2.2.2.2.2.1 rfl rfl ?_
  refine jx_iadd kd167.2.2.2.2.2.2.2.2.1 ?_
  obtain ⟨hk21, h⟩ := h
  obtain ⟨hi22, h⟩ := h
  refine jx_iald kd168.1 hk21 hi22 ?_
  refine jx_aload_n 0 kd168.2.1 rfl rfl ?_
  refine jx_getr jc_4 (j := 1) (by decide) rfl jwF_X4_15 kd168.2.2.1 hk19 hb20 ?_
  refine jx_iload_n 1 kd168.2.2.2.1 rfl rfl ?_
  refine jx_bipush (v := 6) kd168.2.2.2.2.1 (by decide) ?_
  refine jx_imul kd168.2.2.2.2.2.1 ?_
  refine jx_iload_n 3 kd168.2.2.2.2.2.2.1 rfl rfl ?_
  refine jx_iadd kd168.2.2.2.2.2.2.2.1 ?_
  obtain ⟨hi23, h⟩ := h
  refine jx_iald kd168.2.2.2.2.2.2.2.2.1 hk21 hi23 ?_
  refine jx_iadd kd169.1 ?_
  refine jx_nm (fun y24 ey24 => ?_)
  replace h := h y24 ey24
  refine jx_istore (lv1 := [(4, .int y24), (0, .ref a0), (1, .int x1), (2, .int x2), (3, .int x3)]) kd169.2.1 (by decide) rfl ?_
  refine jx_aload_n 1 kd169.2.2.1 rfl rfl ?_
  refine jx_getr jc_4 (j := 1) (by decide) rfl jwF_X4_15 kd169.2.2.2.1 hk19 hb20 ?_
  refine jx_iload_n 3 kd169.2.2.2.2.1 rfl rfl ?_
  refine jx_bipush (v := 6) kd169.2.2.2.2.2.1 (by decide) ?_
  refine jx_imul kd169.2.2.2.2.2.2.1 ?_
  refine jx_iload_n 4 kd169.2.2.2.2.2.2.2.1 rfl rfl ?_
  refine jx_iadd kd169.2.2.2.2.2.2.2.2.1 ?_
  refine jx_aload_n 1 kd170.1 rfl rfl ?_
  refine jx_getr jc_4 (j := 1) (by decide) rfl jwF_X4_15 kd170.2.1 hk19 hb20 ?_
  refine jx_iload_n 3 kd170.2.2.1 rfl rfl ?_
  refine jx_bipush (v := 6) kd170.2.2.2.1 (by decide) ?_
  refine jx_imul kd170.2.2.2.2.1 ?_
  refine jx_iload_n 4 kd170.2.2.2.2.2.1 rfl rfl ?_
  refine jx_iadd kd170.2.2.2.2.2.2.1 ?_
  obtain ⟨hi25, h⟩ := h
  refine jx_iald kd170.2.2.2.2.2.2.2.1 hk21 hi25 ?_
  refine jx_iload 0 kd170.2.2.2.2.2.2.2.2.1 rfl ?_
  refine jx_min jwM_X4_31 jwS_min jwZ_J9 jwO_min kd171.1 (jRok_m _ _ _) (jle rfl) ⟨Nat.zero_le _, Nat.zero_le _⟩ ?_
  refine jx_iast kd171.2.1 hk21 hi25 ?_
  refine jx_iinc 4 (v := (x3 + 1)) (lv1 := [(3, .int (x3 + 1)), (4, .int y24), (0, .ref a0), (1, .int x1), (2, .int x2)]) kd171.2.2.1 rfl rfl (by decide) rfl ?_
  refine jx_goto (tgt := 89) kd171.2.2.2.1 (by decide) ?_
  exact jx_lv [2, 3, 4, 0] rfl h
set_option maxRecDepth 100000 in
set_option maxHeartbeats 4000000 in
theorem T_X1_init {E : jEnv} {d : Nat} {Q : jM → Prop} {a0 : Nat} {S : jM} (h : jk S a0 = 1 ∧ ∀ q2, q2 = jn (jput S a0 2 100) → jk (jnew (jput S a0 2 100) 12 10) a0 = 1 ∧ ∀ q5, q5 = jn (jputr (jnew (jput S a0 2 100) 12 10) a0 5 (some q2)) → jk (jnew (jputr (jnew (jput S a0 2 100) 12 10) a0 5 (some q2)) 12 10) a0 = 1 ∧ Q (jputr (jnew (jputr (jnew (jput S a0 2 100) 12 10) a0 5 (some q2)) 12 10) a0 6 (some q5))) : jFv E mX1_init (d + 1) 2 20 [.ref a0] S Q := by
  refine jF_of (by decide) (jle rfl) ?_
  refine jx_lv (lv1 := [(0, .ref a0)]) [0] rfl ?_
  refine jx_aload_n 0 kd49.1 rfl rfl ?_
  refine jx_objInit jwM_X1_3 jwN_obj jwO_obj kd49.2.1 (jRok_m _ _ _) (jle rfl) ?_
  refine jx_aload_n 0 kd49.2.2.1 rfl rfl ?_
  refine jx_bipush (v := 100) kd49.2.2.2.1 (by decide) ?_
  obtain ⟨hk1, h⟩ := h
  refine jx_puti jc_1 (j := 2) (by decide) rfl jwF_X1_9 rfl rfl rfl kd49.2.2.2.2.1 hk1 ?_
  refine jx_aload_n 0 kd49.2.2.2.2.2.1 rfl rfl ?_
  refine jx_bipush (v := 10) kd49.2.2.2.2.2.2.1 (by decide) ?_
  refine jx_newa (N := 10) jwA kd49.2.2.2.2.2.2.2.1 (by decide) (by decide) (by decide) ⟨jle rfl, jle rfl⟩ ?_
  obtain ⟨q2, hq2⟩ : ∃ q, q = jn (jput S a0 2 100) := ⟨_, rfl⟩
  rw [← hq2]
  replace h := h q2 hq2
  obtain ⟨hk3, h⟩ := h
  refine jx_putrF jc_1 (j := 5) (by decide) rfl jwF_X1_15 rfl rfl rfl rfl rfl kd49.2.2.2.2.2.2.2.2.1 hk3 ?_
  refine jx_aload_n 0 kd50.1 rfl rfl ?_
  refine jx_bipush (v := 10) kd50.2.1 (by decide) ?_
  refine jx_newa (N := 10) jwA kd50.2.2.1 (by decide) (by decide) (by decide) ⟨jle rfl, jle rfl⟩ ?_
  obtain ⟨q5, hq5⟩ : ∃ q, q = jn (jputr (jnew (jput S a0 2 100) 12 10) a0 5 (some q2)) := ⟨_, rfl⟩
  rw [← hq5]
  replace h := h q5 hq5
  obtain ⟨hk6, h⟩ := h
  refine jx_putrF jc_1 (j := 6) (by decide) rfl jwF_X1_19 rfl rfl rfl rfl rfl kd50.2.2.2.1 hk6 ?_
  exact jx_vret kd50.2.2.2.2.1 rfl (jle rfl) (jle rfl) ⟨rfl, h⟩
set_option maxRecDepth 100000 in
set_option maxHeartbeats 4000000 in
theorem T_X1_become {E : jEnv} {d : Nat} {Q : jM → Prop} {a0 : Nat} {a1 : Nat} {S : jM} (h : jk S a1 = 1 ∧ jk S a0 = 1 ∧ ∃ b3, jr S a1 5 = some b3 ∧ (∃ b4, jr S a0 5 = some b4 ∧ (jk S b3 = 12 ∧ jk S b4 = 12 ∧ (¬ (0 : Int32) < 0 ∧ ¬ (0 : Int32) < 0 ∧ ¬ (10 : Int32) < 0 ∧ (Int32.toNatClampNeg 0) + (Int32.toNatClampNeg 10) ≤ jl S b3 ∧ (Int32.toNatClampNeg 0) + (Int32.toNatClampNeg 10) ≤ jl S b4) ∧ (∃ b12, jr S a1 6 = some b12 ∧ (∃ b13, jr S a0 6 = some b13 ∧ (jk S b12 = 12 ∧ jk S b13 = 12 ∧ (¬ (0 : Int32) < 0 ∧ ¬ (0 : Int32) < 0 ∧ ¬ (10 : Int32) < 0 ∧ (Int32.toNatClampNeg 0) + (Int32.toNatClampNeg 10) ≤ jl S b12 ∧ (Int32.toNatClampNeg 0) + (Int32.toNatClampNeg 10) ≤ jl S b13) ∧ (Q (jrow (jrow (jput (jput (jput (jput (jput S a0 0 (ji S a1 0)) a0 1 (ji S a1 1)) a0 2 (ji S a1 2)) a0 3 (ji S a1 3)) a0 4 (ji S a1 4)) b4 (va_cpy (ji (jput (jput (jput (jput (jput S a0 0 (ji S a1 0)) a0 1 (ji S a1 1)) a0 2 (ji S a1 2)) a0 3 (ji S a1 3)) a0 4 (ji S a1 4)) b3) (ji (jput (jput (jput (jput (jput S a0 0 (ji S a1 0)) a0 1 (ji S a1 1)) a0 2 (ji S a1 2)) a0 3 (ji S a1 3)) a0 4 (ji S a1 4)) b4) (Int32.toNatClampNeg 0) (Int32.toNatClampNeg 0) (Int32.toNatClampNeg 10))) b13 (va_cpy (ji (jrow (jput (jput (jput (jput (jput S a0 0 (ji S a1 0)) a0 1 (ji S a1 1)) a0 2 (ji S a1 2)) a0 3 (ji S a1 3)) a0 4 (ji S a1 4)) b4 (va_cpy (ji (jput (jput (jput (jput (jput S a0 0 (ji S a1 0)) a0 1 (ji S a1 1)) a0 2 (ji S a1 2)) a0 3 (ji S a1 3)) a0 4 (ji S a1 4)) b3) (ji (jput (jput (jput (jput (jput S a0 0 (ji S a1 0)) a0 1 (ji S a1 1)) a0 2 (ji S a1 2)) a0 3 (ji S a1 3)) a0 4 (ji S a1 4)) b4) (Int32.toNatClampNeg 0) (Int32.toNatClampNeg 0) (Int32.toNatClampNeg 10))) b12) (ji (jrow (jput (jput (jput (jput (jput S a0 0 (ji S a1 0)) a0 1 (ji S a1 1)) a0 2 (ji S a1 2)) a0 3 (ji S a1 3)) a0 4 (ji S a1 4)) b4 (va_cpy (ji (jput (jput (jput (jput (jput S a0 0 (ji S a1 0)) a0 1 (ji S a1 1)) a0 2 (ji S a1 2)) a0 3 (ji S a1 3)) a0 4 (ji S a1 4)) b3) (ji (jput (jput (jput (jput (jput S a0 0 (ji S a1 0)) a0 1 (ji S a1 1)) a0 2 (ji S a1 2)) a0 3 (ji S a1 3)) a0 4 (ji S a1 4)) b4) (Int32.toNatClampNeg 0) (Int32.toNatClampNeg 0) (Int32.toNatClampNeg 10))) b13) (Int32.toNatClampNeg 0) (Int32.toNatClampNeg 0) (Int32.toNatClampNeg 10)))))))))) : jFv E mX1_become (d + 1) 0 0 [.ref a0, .ref a1] S Q := by
  refine jF_of (by decide) (jle rfl) ?_
  refine jx_lv (lv1 := [(0, .ref a0), (1, .ref a1)]) [0, 1] rfl ?_
  refine jx_aload_n 0 kd51.1 rfl rfl ?_
  refine jx_aload_n 1 kd51.2.1 rfl rfl ?_
  obtain ⟨hk1, h⟩ := h
  refine jx_geti jc_1 (j := 0) (by decide) rfl jwF_X1_22 kd51.2.2.1 hk1 ?_
  obtain ⟨hk2, h⟩ := h
  refine jx_puti jc_1 (j := 0) (by decide) rfl jwF_X1_22 rfl rfl rfl kd51.2.2.2.1 hk2 ?_
  refine jx_aload_n 0 kd51.2.2.2.2.1 rfl rfl ?_
  refine jx_aload_n 1 kd51.2.2.2.2.2.1 rfl rfl ?_
  refine jx_geti jc_1 (j := 1) (by decide) rfl jwF_X1_25 kd51.2.2.2.2.2.2.1 hk1 ?_
  refine jx_topi (y := (ji S a1 1)) (by simp [ji_put, ji_row, ji_putr]) ?_
  refine jx_puti jc_1 (j := 1) (by decide) rfl jwF_X1_25 rfl rfl rfl kd51.2.2.2.2.2.2.2.1 hk2 ?_
  refine jx_aload_n 0 kd51.2.2.2.2.2.2.2.2.1 rfl rfl ?_
  refine jx_aload_n 1 kd52.1 rfl rfl ?_
  refine jx_geti jc_1 (j := 2) (by decide) rfl jwF_X1_9 kd52.2.1 hk1 ?_
  refine jx_topi (y := (ji S a1 2)) (by simp [ji_put, ji_row, ji_putr]) ?_
  refine jx_puti jc_1 (j := 2) (by decide) rfl jwF_X1_9 rfl rfl rfl kd52.2.2.1 hk2 ?_
  refine jx_aload_n 0 kd52.2.2.2.1 rfl rfl ?_
  refine jx_aload_n 1 kd52.2.2.2.2.1 rfl rfl ?_
  refine jx_geti jc_1 (j := 3) (by decide) rfl jwF_X1_28 kd52.2.2.2.2.2.1 hk1 ?_
  refine jx_topi (y := (ji S a1 3)) (by simp [ji_put, ji_row, ji_putr]) ?_
  refine jx_puti jc_1 (j := 3) (by decide) rfl jwF_X1_28 rfl rfl rfl kd52.2.2.2.2.2.2.1 hk2 ?_
  refine jx_aload_n 0 kd52.2.2.2.2.2.2.2.1 rfl rfl ?_
  refine jx_aload_n 1 kd52.2.2.2.2.2.2.2.2.1 rfl rfl ?_
  refine jx_geti jc_1 (j := 4) (by decide) rfl jwF_X1_31 kd53.1 hk1 ?_
  refine jx_topi (y := (ji S a1 4)) (by simp [ji_put, ji_row, ji_putr]) ?_
  refine jx_puti jc_1 (j := 4) (by decide) rfl jwF_X1_31 rfl rfl rfl kd53.2.1 hk2 ?_
  refine jx_aload_n 1 kd53.2.2.1 rfl rfl ?_
  obtain ⟨b3, hb3, h⟩ := h
  refine jx_getr jc_1 (j := 5) (by decide) rfl jwF_X1_15 kd53.2.2.2.1 hk1 hb3 ?_
  refine jx_iconst (v := 0) kd53.2.2.2.2.1 (by decide) ?_
  refine jx_aload_n 0 kd53.2.2.2.2.2.1 rfl rfl ?_
  obtain ⟨b4, hb4, h⟩ := h
  refine jx_getr jc_1 (j := 5) (by decide) rfl jwF_X1_15 kd53.2.2.2.2.2.2.1 hk2 hb4 ?_
  refine jx_iconst (v := 0) kd53.2.2.2.2.2.2.2.1 (by decide) ?_
  refine jx_bipush (v := 10) kd53.2.2.2.2.2.2.2.2.1 (by decide) ?_
  obtain ⟨hk5, h⟩ := h
  obtain ⟨hk6, h⟩ := h
  obtain ⟨⟨hc7, hc8, hc9, hc10, hc11⟩, h⟩ := h
  refine jx_copy jwM_X1_34 jwV_copy jwS_copy jwZ_J10 kd54.1 (jRok_m _ _ _) (jle rfl) hk5 hk6 hc7 hc8 hc9 hc10 hc11 ?_
  refine jx_aload_n 1 kd54.2.1 rfl rfl ?_
  obtain ⟨b12, hb12, h⟩ := h
  refine jx_getr jc_1 (j := 6) (by decide) rfl jwF_X1_19 kd54.2.2.1 hk1 hb12 ?_
  refine jx_iconst (v := 0) kd54.2.2.2.1 (by decide) ?_
  refine jx_aload_n 0 kd54.2.2.2.2.1 rfl rfl ?_
  obtain ⟨b13, hb13, h⟩ := h
  refine jx_getr jc_1 (j := 6) (by decide) rfl jwF_X1_19 kd54.2.2.2.2.2.1 hk2 hb13 ?_
  refine jx_iconst (v := 0) kd54.2.2.2.2.2.2.1 (by decide) ?_
  refine jx_bipush (v := 10) kd54.2.2.2.2.2.2.2.1 (by decide) ?_
  obtain ⟨hk14, h⟩ := h
  obtain ⟨hk15, h⟩ := h
  obtain ⟨⟨hc16, hc17, hc18, hc19, hc20⟩, h⟩ := h
  refine jx_copy jwM_X1_34 jwV_copy jwS_copy jwZ_J10 kd54.2.2.2.2.2.2.2.2.1 (jRok_m _ _ _) (jle rfl) hk14 hk15 hc16 hc17 hc18 hc19 hc20 ?_
  exact jx_vret kd55.1 rfl (jle rfl) (jle rfl) ⟨rfl, h⟩
set_option maxRecDepth 100000 in
set_option maxHeartbeats 4000000 in
theorem T_X1_isAble {E : jEnv} {d : Nat} {Q : Int32 → jM → Prop} {a0 : Nat} {x1 : Int32} {S : jM} (h : ((jwi x1 10) = 0 → Q 0 S) ∧ (¬ (jwi x1 10) = 0 → jk S a0 = 1 ∧ (((ji S a0 1) &&& (jshl 1 x1)) = 0 → Q 0 S) ∧ (¬ ((ji S a0 1) &&& (jshl 1 x1)) = 0 → Q 1 S))) : jFi E mX1_isAble (d + 1) 0 0 [.ref a0, .int x1] S Q := by
  refine jF_of (by decide) (jle rfl) ?_
  refine jx_lv (lv1 := [(0, .ref a0), (1, .int x1)]) [0, 1] rfl ?_
  refine jx_iload_n 1 kd56.1 rfl rfl ?_
  refine jx_bipush (v := 10) kd56.2.1 (by decide) ?_
  refine jx_callSNi (M' := mX10_within) (As := [.int x1, .int 10]) (host := "NineMasters") jo_X10_within (by decide) jwS_X10_within kd56.2.2.1 (jRok_m _ _ _) rfl (jle rfl) ⟨jle rfl, jle rfl⟩ (c_X10_within (Q := fun v S' => v = (jwi x1 10) ∧ S = S') ⟨rfl, rfl⟩) (fun r1 S2 hq3 => ?_)
  obtain ⟨rfl, rfl⟩ := hq3
  refine jx_if_eq (tgt := 24) kd56.2.2.2.1 (by decide) (fun c4 => ?_) (fun c4 => ?_)
  · replace h := h.1 c4
    refine jx_iconst (v := 0) kd57.2.2.2.2.1 (by decide) ?_
    exact jx_iret kd57.2.2.2.2.2.1 rfl (by decide) (jle rfl) (jle rfl) ⟨_, rfl, h⟩
  replace h := h.2 c4
  refine jx_aload_n 0 kd56.2.2.2.2.1 rfl rfl ?_
  obtain ⟨hk5, h⟩ := h
  refine jx_geti jc_1 (j := 1) (by decide) rfl jwF_X1_25 kd56.2.2.2.2.2.1 hk5 ?_
  refine jx_iconst (v := 1) kd56.2.2.2.2.2.2.1 (by decide) ?_
  refine jx_iload_n 1 kd56.2.2.2.2.2.2.2.1 rfl rfl ?_
  refine jx_ishl kd56.2.2.2.2.2.2.2.2.1 ?_
  refine jx_iand kd57.1 ?_
  refine jx_if_eq (tgt := 24) kd57.2.1 (by decide) (fun c6 => ?_) (fun c6 => ?_)
  · replace h := h.1 c6
    refine jx_iconst (v := 0) kd57.2.2.2.2.1 (by decide) ?_
    exact jx_iret kd57.2.2.2.2.2.1 rfl (by decide) (jle rfl) (jle rfl) ⟨_, rfl, h⟩
  replace h := h.2 c6
  refine jx_iconst (v := 1) kd57.2.2.1 (by decide) ?_
  refine jx_goto (tgt := 25) kd57.2.2.2.1 (by decide) ?_
  exact jx_iret kd57.2.2.2.2.2.1 rfl (by decide) (jle rfl) (jle rfl) ⟨_, rfl, h⟩
/-- X1_passDays at its loop's head 18 -/
abbrev L_X1_passDays_18 (E : jEnv) (d : Nat) (Q : jM → Prop) (a0 : Nat) (x1 : Int32) (x2 : Int32) (S : jM) : Prop := jX E mX1_passDays (jRm (d + 1) 0 0) (jZm E (fun r S' => r = none ∧ Q S') 0 0) 18 [(0, .ref a0), (1, .int x1), (2, .int x2)] [] S 0 0
set_option maxRecDepth 100000 in
set_option maxHeartbeats 4000000 in
theorem T_X1_passDays {E : jEnv} {d : Nat} {Q : jM → Prop} {a0 : Nat} {x1 : Int32} {S : jM} (h : jk S a0 = 1 ∧ L_X1_passDays_18 E d Q a0 x1 0 (jput S a0 4 (jmin 9999 ((ji S a0 4) + x1)))) : jFv E mX1_passDays (d + 1) 0 0 [.ref a0, .int x1] S Q := by
  refine jF_of (by decide) (jle rfl) ?_
  refine jx_lv (lv1 := [(0, .ref a0), (1, .int x1)]) [0, 1] rfl ?_
  refine jx_aload_n 0 kd58.1 rfl rfl ?_
  refine jx_sipush (v := 9999) kd58.2.1 (by decide) ?_
  refine jx_aload_n 0 kd58.2.2.1 rfl rfl ?_
  obtain ⟨hk1, h⟩ := h
  refine jx_geti jc_1 (j := 4) (by decide) rfl jwF_X1_31 kd58.2.2.2.1 hk1 ?_
  refine jx_iload_n 1 kd58.2.2.2.2.1 rfl rfl ?_
  refine jx_iadd kd58.2.2.2.2.2.1 ?_
  refine jx_min jwM_X1_44 jwS_min jwZ_J9 jwO_min kd58.2.2.2.2.2.2.1 (jRok_m _ _ _) (jle rfl) ⟨Nat.zero_le _, Nat.zero_le _⟩ ?_
  refine jx_puti jc_1 (j := 4) (by decide) rfl jwF_X1_31 rfl rfl rfl kd58.2.2.2.2.2.2.2.1 hk1 ?_
  refine jx_iconst (v := 0) kd58.2.2.2.2.2.2.2.2.1 (by decide) ?_
  refine jx_istore_n (lv1 := [(2, .int 0), (0, .ref a0), (1, .int x1)]) kd59.1 rfl (by decide) rfl ?_
  exact jx_lv [1, 2, 0] rfl h
set_option maxRecDepth 100000 in
set_option maxHeartbeats 4000000 in
theorem T_X1_passDays_18 {E : jEnv} {d : Nat} {Q : jM → Prop} {a0 : Nat} {x1 : Int32} {x2 : Int32} {S : jM} (h : (10 ≤ x2 → Q S) ∧ (¬ 10 ≤ x2 → jk S a0 = 1 ∧ jFi E mX1_isAble d 0 0 [.ref a0, .int x2] S (fun r5 S4 => (r5 = 0 → L_X1_passDays_18 E d Q a0 x1 (x2 + 1) S4) ∧ (¬ r5 = 0 → jk S4 a0 = 1 ∧ ∃ b8, jr S4 a0 6 = some b8 ∧ (jk S4 b8 = 12 ∧ vp_in x2 (jl S4 b8) ∧ ((((ji S4 a0 3) = 0 → L_X1_passDays_18 E d Q a0 x1 (x2 + 1) (jput S4 b8 (Int32.toNatClampNeg x2) ((ji S4 b8 (Int32.toNatClampNeg x2)) + x1))) ∧ (¬ (ji S4 a0 3) = 0 → ((((ji S4 b8 (Int32.toNatClampNeg x2)) + x1) ≤ (ji S4 a0 3) → L_X1_passDays_18 E d Q a0 x1 (x2 + 1) (jput S4 b8 (Int32.toNatClampNeg x2) ((ji S4 b8 (Int32.toNatClampNeg x2)) + x1))) ∧ (¬ ((ji S4 b8 (Int32.toNatClampNeg x2)) + x1) ≤ (ji S4 a0 3) → L_X1_passDays_18 E d Q a0 x1 (x2 + 1) (jput (jput S4 b8 (Int32.toNatClampNeg x2) ((ji S4 b8 (Int32.toNatClampNeg x2)) + x1)) a0 1 ((ji S4 a0 1) &&& ((jshl 1 x2) ^^^ (-1)))))))))))))) : L_X1_passDays_18 E d Q a0 x1 x2 S := by
  show jX E mX1_passDays (jRm (d + 1) 0 0) (jZm E (fun r S' => r = none ∧ Q S') 0 0) 18 [(0, .ref a0), (1, .int x1), (2, .int x2)] [] S 0 0
  refine jx_iload_n 2 kd59.2.1 rfl rfl ?_
  refine jx_bipush (v := 10) kd59.2.2.1 (by decide) ?_
  refine jx_icmp_ge (tgt := 82) kd59.2.2.2.1 (by decide) (fun c2 => ?_) (fun c2 => ?_)
  · replace h := h.1 c2
    exact jx_vret kd63.2.2.1 rfl (jle rfl) (jle rfl) ⟨rfl, h⟩
  replace h := h.2 c2
  refine jx_aload_n 0 kd59.2.2.2.2.1 rfl rfl ?_
  refine jx_iload_n 2 kd59.2.2.2.2.2.1 rfl rfl ?_
  obtain ⟨hk3, h⟩ := h
  refine jx_callVi (M' := mX1_isAble) (As := [.int x2]) jo_X1_isAble jc_1 rfl jwM_X1_50 jwN_X1_isAble jwX_X1_isAble kd59.2.2.2.2.2.2.1 (jRok_m _ _ _) rfl (jle rfl) ⟨jle rfl, jle rfl⟩ hk3 h (fun r5 S4 h => ?_)
  refine jx_if_eq (tgt := 76) kd59.2.2.2.2.2.2.2.1 (by decide) (fun c6 => ?_) (fun c6 => ?_)
  · replace h := h.1 c6
    refine jx_iinc 2 (v := (x2 + 1)) (lv1 := [(2, .int (x2 + 1)), (0, .ref a0), (1, .int x1)]) kd63.1 rfl rfl (by decide) rfl ?_
    refine jx_goto (tgt := 18) kd63.2.1 (by decide) ?_
    exact jx_lv [1, 2, 0] rfl h
  replace h := h.2 c6
  refine jx_aload_n 0 kd59.2.2.2.2.2.2.2.2.1 rfl rfl ?_
  obtain ⟨hk7, h⟩ := h
  obtain ⟨b8, hb8, h⟩ := h
  refine jx_getr jc_1 (j := 6) (by decide) rfl jwF_X1_19 kd60.1 hk7 hb8 ?_
  refine jx_iload_n 2 kd60.2.1 rfl rfl ?_
  refine jx_dup2 kd60.2.2.1 rfl rfl ?_
  obtain ⟨hk9, h⟩ := h
  obtain ⟨hi10, h⟩ := h
  refine jx_iald kd60.2.2.2.1 hk9 hi10 ?_
  refine jx_iload_n 1 kd60.2.2.2.2.1 rfl rfl ?_
  refine jx_iadd kd60.2.2.2.2.2.1 ?_
  refine jx_iast kd60.2.2.2.2.2.2.1 hk9 hi10 ?_
  refine jx_aload_n 0 kd60.2.2.2.2.2.2.2.1 rfl rfl ?_
  refine jx_geti jc_1 (j := 3) (by decide) rfl jwF_X1_28 kd60.2.2.2.2.2.2.2.2.1 hk7 ?_
  refine jx_topi (y := (ji S4 a0 3)) (by simp [ji_put, ji_row, ji_putr, jne hk7 hk9 (by decide)]) ?_
  refine jx_if_eq (tgt := 76) kd61.1 (by decide) (fun c11 => ?_) (fun c11 => ?_)
  · replace h := h.1 c11
    refine jx_iinc 2 (v := (x2 + 1)) (lv1 := [(2, .int (x2 + 1)), (0, .ref a0), (1, .int x1)]) kd63.1 rfl rfl (by decide) rfl ?_
    refine jx_goto (tgt := 18) kd63.2.1 (by decide) ?_
    exact jx_lv [1, 2, 0] rfl h
  replace h := h.2 c11
  refine jx_aload_n 0 kd61.2.1 rfl rfl ?_
  refine jx_getr jc_1 (j := 6) (by decide) rfl jwF_X1_19 kd61.2.2.1 hk7 hb8 ?_
  refine jx_iload_n 2 kd61.2.2.2.1 rfl rfl ?_
  refine jx_iald kd61.2.2.2.2.1 hk9 hi10 ?_
  refine jx_topi (y := ((ji S4 b8 (Int32.toNatClampNeg x2)) + x1)) (by simp [ji_put, ji_row, ji_putr]) ?_
  refine jx_aload_n 0 kd61.2.2.2.2.2.1 rfl rfl ?_
  refine jx_geti jc_1 (j := 3) (by decide) rfl jwF_X1_28 kd61.2.2.2.2.2.2.1 hk7 ?_
  refine jx_topi (y := (ji S4 a0 3)) (by simp [ji_put, ji_row, ji_putr, jne hk7 hk9 (by decide)]) ?_
  refine jx_icmp_le (tgt := 76) kd61.2.2.2.2.2.2.2.1 (by decide) (fun c12 => ?_) (fun c12 => ?_)
  · replace h := h.1 c12
    refine jx_iinc 2 (v := (x2 + 1)) (lv1 := [(2, .int (x2 + 1)), (0, .ref a0), (1, .int x1)]) kd63.1 rfl rfl (by decide) rfl ?_
    refine jx_goto (tgt := 18) kd63.2.1 (by decide) ?_
    exact jx_lv [1, 2, 0] rfl h
  replace h := h.2 c12
  refine jx_aload_n 0 kd61.2.2.2.2.2.2.2.2.1 rfl rfl ?_
  refine jx_dup kd62.1 rfl ?_
  refine jx_geti jc_1 (j := 1) (by decide) rfl jwF_X1_25 kd62.2.1 hk7 ?_
  refine jx_topi (y := (ji S4 a0 1)) (by simp [ji_put, ji_row, ji_putr, jne hk7 hk9 (by decide)]) ?_
  refine jx_iconst (v := 1) kd62.2.2.1 (by decide) ?_
  refine jx_iload_n 2 kd62.2.2.2.1 rfl rfl ?_
  refine jx_ishl kd62.2.2.2.2.1 ?_
  refine jx_iconst (v := (-1)) kd62.2.2.2.2.2.1 (by decide) ?_
  refine jx_ixor kd62.2.2.2.2.2.2.1 ?_
  refine jx_iand kd62.2.2.2.2.2.2.2.1 ?_
  refine jx_puti jc_1 (j := 1) (by decide) rfl jwF_X1_25 rfl rfl rfl kd62.2.2.2.2.2.2.2.2.1 hk7 ?_
  refine jx_iinc 2 (v := (x2 + 1)) (lv1 := [(2, .int (x2 + 1)), (0, .ref a0), (1, .int x1)]) kd63.1 rfl rfl (by decide) rfl ?_
  refine jx_goto (tgt := 18) kd63.2.1 (by decide) ?_
  exact jx_lv [1, 2, 0] rfl h
set_option maxRecDepth 100000 in
set_option maxHeartbeats 4000000 in
theorem T_X1_canLearnOf {E : jEnv} {d : Nat} {Q : Int32 → jM → Prop} {a0 : Nat} {a1 : Nat} {S : jM} (h : jk S a1 = 2 ∧ jk S a0 = 1 ∧ ((ji S a1 1) = (ji S a0 0) → ((ji S a1 6) = 0 → jFi E mX2_teaches d 0 0 [.ref a1, .int (ji S a0 1)] S (fun r6 S5 => (r6 = 0 → Q 0 S5) ∧ (¬ r6 = 0 → jk S5 a1 = 2 ∧ jk S5 a0 = 1 ∧ jFi E mX1_isAble d 0 0 [.ref a0, .int (ji S5 a1 2)] S5 (fun r11 S10 => (r11 = 0 → jk S10 a1 = 2 ∧ jk S10 a0 = 1 ∧ ((ji S10 a0 2) < (ji S10 a1 4) → Q 0 S10) ∧ (¬ (ji S10 a0 2) < (ji S10 a1 4) → Q 1 S10)) ∧ (¬ r11 = 0 → Q 0 S10))))) ∧ (¬ (ji S a1 6) = 0 → Q 0 S)) ∧ (¬ (ji S a1 1) = (ji S a0 0) → Q 0 S)) : jFi E mX1_canLearnOf (d + 1) 0 0 [.ref a0, .ref a1] S Q := by
  refine jF_of (by decide) (jle rfl) ?_
  refine jx_lv (lv1 := [(0, .ref a0), (1, .ref a1)]) [0, 1] rfl ?_
  refine jx_aload_n 1 kd64.1 rfl rfl ?_
  obtain ⟨hk1, h⟩ := h
  refine jx_geti jc_2 (j := 1) (by decide) rfl jwF_X1_54 kd64.2.1 hk1 ?_
  refine jx_aload_n 0 kd64.2.2.1 rfl rfl ?_
  obtain ⟨hk2, h⟩ := h
  refine jx_geti jc_1 (j := 0) (by decide) rfl jwF_X1_22 kd64.2.2.2.1 hk2 ?_
  refine jx_icmp_ne (tgt := 55) kd64.2.2.2.2.1 (by decide) (fun c3 => ?_) (fun c3 => ?_)
  · replace h := h.2 c3
    refine jx_iconst (v := 0) kd66.2.2.2.2.2.2.2.1 (by decide) ?_
    exact jx_iret kd66.2.2.2.2.2.2.2.2.1 rfl (by decide) (jle rfl) (jle rfl) ⟨_, rfl, h⟩
  replace h := h.1 c3
  refine jx_aload_n 1 kd64.2.2.2.2.2.1 rfl rfl ?_
  refine jx_geti jc_2 (j := 6) (by decide) rfl jwF_X1_59 kd64.2.2.2.2.2.2.1 hk1 ?_
  refine jx_if_ne (tgt := 55) kd64.2.2.2.2.2.2.2.1 (by decide) (fun c4 => ?_) (fun c4 => ?_)
  · replace h := h.2 c4
    refine jx_iconst (v := 0) kd66.2.2.2.2.2.2.2.1 (by decide) ?_
    exact jx_iret kd66.2.2.2.2.2.2.2.2.1 rfl (by decide) (jle rfl) (jle rfl) ⟨_, rfl, h⟩
  replace h := h.1 c4
  refine jx_aload_n 1 kd64.2.2.2.2.2.2.2.2.1 rfl rfl ?_
  refine jx_aload_n 0 kd65.1 rfl rfl ?_
  refine jx_geti jc_1 (j := 1) (by decide) rfl jwF_X1_25 kd65.2.1 hk2 ?_
  refine jx_callVi (M' := mX2_teaches) (As := [.int (ji S a0 1)]) jo_X2_teaches jc_2 rfl jwM_X1_63 jwN_X2_teaches jwX_X2_teaches kd65.2.2.1 (jRok_m _ _ _) rfl (jle rfl) ⟨jle rfl, jle rfl⟩ hk1 h (fun r6 S5 h => ?_)
  refine jx_if_eq (tgt := 55) kd65.2.2.2.1 (by decide) (fun c7 => ?_) (fun c7 => ?_)
  · replace h := h.1 c7
    refine jx_iconst (v := 0) kd66.2.2.2.2.2.2.2.1 (by decide) ?_
    exact jx_iret kd66.2.2.2.2.2.2.2.2.1 rfl (by decide) (jle rfl) (jle rfl) ⟨_, rfl, h⟩
  replace h := h.2 c7
  refine jx_aload_n 0 kd65.2.2.2.2.1 rfl rfl ?_
  refine jx_aload_n 1 kd65.2.2.2.2.2.1 rfl rfl ?_
  obtain ⟨hk8, h⟩ := h
  refine jx_geti jc_2 (j := 2) (by decide) rfl jwF_X1_66 kd65.2.2.2.2.2.2.1 hk8 ?_
  obtain ⟨hk9, h⟩ := h
  refine jx_callVi (M' := mX1_isAble) (As := [.int (ji S5 a1 2)]) jo_X1_isAble jc_1 rfl jwM_X1_50 jwN_X1_isAble jwX_X1_isAble kd65.2.2.2.2.2.2.2.1 (jRok_m _ _ _) rfl (jle rfl) ⟨jle rfl, jle rfl⟩ hk9 h (fun r11 S10 h => ?_)
  refine jx_if_ne (tgt := 55) kd65.2.2.2.2.2.2.2.2.1 (by decide) (fun c12 => ?_) (fun c12 => ?_)
  · replace h := h.2 c12
    refine jx_iconst (v := 0) kd66.2.2.2.2.2.2.2.1 (by decide) ?_
    exact jx_iret kd66.2.2.2.2.2.2.2.2.1 rfl (by decide) (jle rfl) (jle rfl) ⟨_, rfl, h⟩
  replace h := h.1 c12
  refine jx_aload_n 1 kd66.1 rfl rfl ?_
  obtain ⟨hk13, h⟩ := h
  refine jx_geti jc_2 (j := 4) (by decide) rfl jwF_X1_69 kd66.2.1 hk13 ?_
  refine jx_aload_n 0 kd66.2.2.1 rfl rfl ?_
  obtain ⟨hk14, h⟩ := h
  refine jx_geti jc_1 (j := 2) (by decide) rfl jwF_X1_9 kd66.2.2.2.1 hk14 ?_
  refine jx_icmp_gt (tgt := 55) kd66.2.2.2.2.1 (by decide) (fun c15 => ?_) (fun c15 => ?_)
  · replace h := h.1 c15
    refine jx_iconst (v := 0) kd66.2.2.2.2.2.2.2.1 (by decide) ?_
    exact jx_iret kd66.2.2.2.2.2.2.2.2.1 rfl (by decide) (jle rfl) (jle rfl) ⟨_, rfl, h⟩
  replace h := h.2 c15
  refine jx_iconst (v := 1) kd66.2.2.2.2.2.1 (by decide) ?_
  refine jx_goto (tgt := 56) kd66.2.2.2.2.2.2.1 (by decide) ?_
  exact jx_iret kd66.2.2.2.2.2.2.2.2.1 rfl (by decide) (jle rfl) (jle rfl) ⟨_, rfl, h⟩
set_option maxRecDepth 100000 in
set_option maxHeartbeats 4000000 in
theorem T_X1_learnOf {E : jEnv} {d : Nat} {Q : jM → Prop} {a0 : Nat} {x1 : Int32} {a2 : Nat} {x3 : Int32} {S : jM} (h : jk S a0 = 1 ∧ jk S a2 = 2 ∧ jFv E mX1_passDays d 0 0 [.ref a0, .int x3] (jput S a0 2 ((ji S a0 2) - (ji S a2 4))) (fun S3 => jk S3 a0 = 1 ∧ jk S3 a2 = 2 ∧ jFi E mX2_unlearnt d 0 0 [.ref a2] S3 (fun r7 S6 => jk S6 a0 = 1 ∧ jk S6 a2 = 2 ∧ ((jwi (ji S6 a2 2) 10) = 0 → Q (jput S6 a0 1 ((ji S3 a0 1) &&& (r7 ^^^ (-1))))) ∧ (¬ (jwi (ji S6 a2 2) 10) = 0 → ∃ b14, jr S6 a0 5 = some b14 ∧ (jk S6 b14 = 12 ∧ vp_in (ji S6 a2 2) (jl S6 b14) ∧ (∃ b17, jr S6 a0 6 = some b17 ∧ (jk S6 b17 = 12 ∧ vp_in (ji S6 a2 2) (jl S6 b17) ∧ (Q (jput (jput (jput (jput S6 a0 1 ((ji S3 a0 1) &&& (r7 ^^^ (-1)))) a0 1 (((ji S3 a0 1) &&& (r7 ^^^ (-1))) ||| (jshl 1 (ji S6 a2 2)))) b14 (Int32.toNatClampNeg (ji S6 a2 2)) x1) b17 (Int32.toNatClampNeg (ji S6 a2 2)) 0))))))))) : jFv E mX1_learnOf (d + 1) 0 0 [.ref a0, .int x1, .ref a2, .int x3] S Q := by
  refine jF_of (by decide) (jle rfl) ?_
  refine jx_lv (lv1 := [(0, .ref a0), (1, .int x1), (2, .ref a2), (3, .int x3)]) [0, 1, 2, 3] rfl ?_
  refine jx_aload_n 0 kd67.1 rfl rfl ?_
  refine jx_dup kd67.2.1 rfl ?_
  obtain ⟨hk1, h⟩ := h
  refine jx_geti jc_1 (j := 2) (by decide) rfl jwF_X1_9 kd67.2.2.1 hk1 ?_
  refine jx_aload_n 2 kd67.2.2.2.1 rfl rfl ?_
  obtain ⟨hk2, h⟩ := h
  refine jx_geti jc_2 (j := 4) (by decide) rfl jwF_X1_69 kd67.2.2.2.2.1 hk2 ?_
  refine jx_isub kd67.2.2.2.2.2.1 ?_
  refine jx_puti jc_1 (j := 2) (by decide) rfl jwF_X1_9 rfl rfl rfl kd67.2.2.2.2.2.2.1 hk1 ?_
  refine jx_aload_n 0 kd67.2.2.2.2.2.2.2.1 rfl rfl ?_
  refine jx_iload_n 3 kd67.2.2.2.2.2.2.2.2.1 rfl rfl ?_
  refine jx_callVv (M' := mX1_passDays) (As := [.int x3]) jo_X1_passDays jc_1 rfl jwM_X1_72 jwN_X1_passDays jwX_X1_passDays kd68.1 (jRok_m _ _ _) rfl (jle rfl) ⟨jle rfl, jle rfl⟩ hk1 h (fun S3 h => ?_)
  refine jx_aload_n 0 kd68.2.1 rfl rfl ?_
  refine jx_dup kd68.2.2.1 rfl ?_
  obtain ⟨hk4, h⟩ := h
  refine jx_geti jc_1 (j := 1) (by decide) rfl jwF_X1_25 kd68.2.2.2.1 hk4 ?_
  refine jx_aload_n 2 kd68.2.2.2.2.1 rfl rfl ?_
  obtain ⟨hk5, h⟩ := h
  refine jx_callVi (M' := mX2_unlearnt) (As := []) jo_X2_unlearnt jc_2 rfl jwM_X1_76 jwN_X2_unlearnt jwX_X2_unlearnt kd68.2.2.2.2.2.1 (jRok_m _ _ _) rfl (jle rfl) ⟨jle rfl, jle rfl⟩ hk5 h (fun r7 S6 h => ?_)
  refine jx_iconst (v := (-1)) kd68.2.2.2.2.2.2.1 (by decide) ?_
  refine jx_ixor kd68.2.2.2.2.2.2.2.1 ?_
  refine jx_iand kd68.2.2.2.2.2.2.2.2.1 ?_
  obtain ⟨hk8, h⟩ := h
  refine jx_puti jc_1 (j := 1) (by decide) rfl jwF_X1_25 rfl rfl rfl kd69.1 hk8 ?_
  refine jx_aload_n 2 kd69.2.1 rfl rfl ?_
  obtain ⟨hk9, h⟩ := h
  refine jx_geti jc_2 (j := 2) (by decide) rfl jwF_X1_66 kd69.2.2.1 hk9 ?_
  refine jx_topi (y := (ji S6 a2 2)) (by simp [ji_put, ji_row, ji_putr]) ?_
  refine jx_bipush (v := 10) kd69.2.2.2.1 (by decide) ?_
  refine jx_callSNi (M' := mX10_within) (As := [.int (ji S6 a2 2), .int 10]) (host := "NineMasters") jo_X10_within (by decide) jwS_X10_within kd69.2.2.2.2.1 (jRok_m _ _ _) rfl (jle rfl) ⟨jle rfl, jle rfl⟩ (c_X10_within (Q := fun v S' => v = (jwi (ji S6 a2 2) 10) ∧ (jput S6 a0 1 ((ji S3 a0 1) &&& (r7 ^^^ (-1)))) = S') ⟨rfl, rfl⟩) (fun r10 S11 hq12 => ?_)
  obtain ⟨rfl, rfl⟩ := hq12
  refine jx_if_eq (tgt := 80) kd69.2.2.2.2.2.1 (by decide) (fun c13 => ?_) (fun c13 => ?_)
  · replace h := h.1 c13
    exact jx_vret kd72.1 rfl (jle rfl) (jle rfl) ⟨rfl, h⟩
  replace h := h.2 c13
  refine jx_aload_n 0 kd69.2.2.2.2.2.2.1 rfl rfl ?_
  refine jx_dup kd69.2.2.2.2.2.2.2.1 rfl ?_
  refine jx_geti jc_1 (j := 1) (by decide) rfl jwF_X1_25 kd69.2.2.2.2.2.2.2.2.1 hk8 ?_
  refine jx_topi (y := ((ji S3 a0 1) &&& (r7 ^^^ (-1)))) (by simp [ji_put, ji_row, ji_putr]) ?_
  refine jx_iconst (v := 1) kd70.1 (by decide) ?_
  refine jx_aload_n 2 kd70.2.1 rfl rfl ?_
  refine jx_geti jc_2 (j := 2) (by decide) rfl jwF_X1_66 kd70.2.2.1 hk9 ?_
  refine jx_topi (y := (ji S6 a2 2)) (by simp [ji_put, ji_row, ji_putr]) ?_
  refine jx_ishl kd70.2.2.2.1 ?_
  refine jx_ior kd70.2.2.2.2.1 ?_
  refine jx_puti jc_1 (j := 1) (by decide) rfl jwF_X1_25 rfl rfl rfl kd70.2.2.2.2.2.1 hk8 ?_
  refine jx_aload_n 0 kd70.2.2.2.2.2.2.1 rfl rfl ?_
  obtain ⟨b14, hb14, h⟩ := h
  refine jx_getr jc_1 (j := 5) (by decide) rfl jwF_X1_15 kd70.2.2.2.2.2.2.2.1 hk8 hb14 ?_
  refine jx_aload_n 2 kd70.2.2.2.2.2.2.2.2.1 rfl rfl ?_
  refine jx_geti jc_2 (j := 2) (by decide) rfl jwF_X1_66 kd71.1 hk9 ?_
  refine jx_topi (y := (ji S6 a2 2)) (by simp [ji_put, ji_row, ji_putr]) ?_
  refine jx_iload_n 1 kd71.2.1 rfl rfl ?_
  obtain ⟨hk15, h⟩ := h
  obtain ⟨hi16, h⟩ := h
  refine jx_iast kd71.2.2.1 hk15 hi16 ?_
  refine jx_aload_n 0 kd71.2.2.2.1 rfl rfl ?_
  obtain ⟨b17, hb17, h⟩ := h
  refine jx_getr jc_1 (j := 6) (by decide) rfl jwF_X1_19 kd71.2.2.2.2.1 hk8 hb17 ?_
  refine jx_aload_n 2 kd71.2.2.2.2.2.1 rfl rfl ?_
  refine jx_geti jc_2 (j := 2) (by decide) rfl jwF_X1_66 kd71.2.2.2.2.2.2.1 hk9 ?_
  refine jx_topi (y := (ji S6 a2 2)) (by simp [ji_put, ji_row, ji_putr, jne hk9 hk15 (by decide)]) ?_
  refine jx_iconst (v := 0) kd71.2.2.2.2.2.2.2.1 (by decide) ?_
  obtain ⟨hk18, h⟩ := h
  obtain ⟨hi19, h⟩ := h
  refine jx_iast kd71.2.2.2.2.2.2.2.2.1 hk18 hi19 ?_
  exact jx_vret kd72.1 rfl (jle rfl) (jle rfl) ⟨rfl, h⟩
set_option maxRecDepth 100000 in
set_option maxHeartbeats 4000000 in
theorem T_X1_practise {E : jEnv} {d : Nat} {Q : Int32 → jM → Prop} {a0 : Nat} {x1 : Int32} {S : jM} (h : ((jwi x1 10) = 0 → Q 0 S) ∧ (¬ (jwi x1 10) = 0 → jk S a0 = 1 ∧ jFi E mX1_isAble d 0 0 [.ref a0, .int x1] S (fun r7 S6 => (r7 = 0 → Q 0 S6) ∧ (¬ r7 = 0 → jk S6 a0 = 1 ∧ ∃ b10, jr S6 a0 6 = some b10 ∧ (jk S6 b10 = 12 ∧ vp_in x1 (jl S6 b10) ∧ (jFv E mX1_passDays d 0 0 [.ref a0, .int 1] (jput S6 b10 (Int32.toNatClampNeg x1) 0) (fun S13 => Q 1 S13))))))) : jFi E mX1_practise (d + 1) 0 0 [.ref a0, .int x1] S Q := by
  refine jF_of (by decide) (jle rfl) ?_
  refine jx_lv (lv1 := [(0, .ref a0), (1, .int x1)]) [0, 1] rfl ?_
  refine jx_iload_n 1 kd73.1 rfl rfl ?_
  refine jx_bipush (v := 10) kd73.2.1 (by decide) ?_
  refine jx_callSNi (M' := mX10_within) (As := [.int x1, .int 10]) (host := "NineMasters") jo_X10_within (by decide) jwS_X10_within kd73.2.2.1 (jRok_m _ _ _) rfl (jle rfl) ⟨jle rfl, jle rfl⟩ (c_X10_within (Q := fun v S' => v = (jwi x1 10) ∧ S = S') ⟨rfl, rfl⟩) (fun r1 S2 hq3 => ?_)
  obtain ⟨rfl, rfl⟩ := hq3
  refine jx_if_eq (tgt := 17) kd73.2.2.2.1 (by decide) (fun c4 => ?_) (fun c4 => ?_)
  · replace h := h.1 c4
    refine jx_iconst (v := 0) kd73.2.2.2.2.2.2.2.2.1 (by decide) ?_
    exact jx_iret kd74.1 rfl (by decide) (jle rfl) (jle rfl) ⟨_, rfl, h⟩
  replace h := h.2 c4
  refine jx_aload_n 0 kd73.2.2.2.2.1 rfl rfl ?_
  refine jx_iload_n 1 kd73.2.2.2.2.2.1 rfl rfl ?_
  obtain ⟨hk5, h⟩ := h
  refine jx_callVi (M' := mX1_isAble) (As := [.int x1]) jo_X1_isAble jc_1 rfl jwM_X1_50 jwN_X1_isAble jwX_X1_isAble kd73.2.2.2.2.2.2.1 (jRok_m _ _ _) rfl (jle rfl) ⟨jle rfl, jle rfl⟩ hk5 h (fun r7 S6 h => ?_)
  refine jx_if_ne (tgt := 19) kd73.2.2.2.2.2.2.2.1 (by decide) (fun c8 => ?_) (fun c8 => ?_)
  · replace h := h.2 c8
    refine jx_aload_n 0 kd74.2.1 rfl rfl ?_
    obtain ⟨hk9, h⟩ := h
    obtain ⟨b10, hb10, h⟩ := h
    refine jx_getr jc_1 (j := 6) (by decide) rfl jwF_X1_19 kd74.2.2.1 hk9 hb10 ?_
    refine jx_iload_n 1 kd74.2.2.2.1 rfl rfl ?_
    refine jx_iconst (v := 0) kd74.2.2.2.2.1 (by decide) ?_
    obtain ⟨hk11, h⟩ := h
    obtain ⟨hi12, h⟩ := h
    refine jx_iast kd74.2.2.2.2.2.1 hk11 hi12 ?_
    refine jx_aload_n 0 kd74.2.2.2.2.2.2.1 rfl rfl ?_
    refine jx_iconst (v := 1) kd74.2.2.2.2.2.2.2.1 (by decide) ?_
    refine jx_callVv (M' := mX1_passDays) (As := [.int 1]) jo_X1_passDays jc_1 rfl jwM_X1_72 jwN_X1_passDays jwX_X1_passDays kd74.2.2.2.2.2.2.2.2.1 (jRok_m _ _ _) rfl (jle rfl) ⟨jle rfl, jle rfl⟩ hk9 h (fun S13 h => ?_)
    refine jx_iconst (v := 1) kd75.1 (by decide) ?_
    exact jx_iret kd75.2.1 rfl (by decide) (jle rfl) (jle rfl) ⟨_, rfl, h⟩
  replace h := h.1 c8
  refine jx_iconst (v := 0) kd73.2.2.2.2.2.2.2.2.1 (by decide) ?_
  exact jx_iret kd74.1 rfl (by decide) (jle rfl) (jle rfl) ⟨_, rfl, h⟩
/-- X0_init at its loop's head 20 -/
abbrev L_X0_init_20 (E : jEnv) (d : Nat) (Q : jM → Prop) (a0 : Nat) (x1 : Int32) (S : jM) (c9 k9 : Nat) : Prop := jX E mX0_init (jRm (d + 1) 10 72) (jZm E (fun r S' => r = none ∧ Q S') 10 72) 20 [(0, .ref a0), (1, .int x1)] [] S c9 k9
set_option maxRecDepth 100000 in
set_option maxHeartbeats 4000000 in
theorem T_X0_init {E : jEnv} {d : Nat} {Q : jM → Prop} {a0 : Nat} {S : jM} (h : ∀ q1, q1 = jn S → jk (jnew S 13 9) a0 = 0 ∧ L_X0_init_20 E d Q a0 0 (jput (jputr (jnew S 13 9) a0 0 (some q1)) a0 2 1) 1 9) : jFv E mX0_init (d + 1) 10 72 [.ref a0] S Q := by
  refine jF_of (by decide) (jle rfl) ?_
  refine jx_lv (lv1 := [(0, .ref a0)]) [0] rfl ?_
  refine jx_aload_n 0 kd0.1 rfl rfl ?_
  refine jx_objInit jwM_X0_3 jwN_obj jwO_obj kd0.2.1 (jRok_m _ _ _) (jle rfl) ?_
  refine jx_aload_n 0 kd0.2.2.1 rfl rfl ?_
  refine jx_bipush (v := 9) kd0.2.2.2.1 (by decide) ?_
  refine jx_anew (kk := 13) (N := 9) jc_2 (by decide) (by decide) rfl jwK_X0_9 kd0.2.2.2.2.1 (by decide) (by decide) (by decide) ⟨jle rfl, jle rfl⟩ ?_
  obtain ⟨q1, hq1⟩ : ∃ q, q = jn S := ⟨_, rfl⟩
  rw [← hq1]
  replace h := h q1 hq1
  obtain ⟨hk2, h⟩ := h
  refine jx_putrF jc_0 (j := 0) (by decide) rfl jwF_X0_11 rfl rfl rfl rfl rfl kd0.2.2.2.2.2.1 hk2 ?_
  refine jx_aload_n 0 kd0.2.2.2.2.2.2.1 rfl rfl ?_
  refine jx_iconst (v := 1) kd0.2.2.2.2.2.2.2.1 (by decide) ?_
  refine jx_puti jc_0 (j := 2) (by decide) rfl jwF_X0_17 rfl rfl rfl kd0.2.2.2.2.2.2.2.2.1 hk2 ?_
  refine jx_iconst (v := 0) kd1.1 (by decide) ?_
  refine jx_istore_n (lv1 := [(1, .int 0), (0, .ref a0)]) kd1.2.1 rfl (by decide) rfl ?_
  exact jx_lv [1, 0] rfl h
set_option maxRecDepth 100000 in
set_option maxHeartbeats 4000000 in
theorem T_X0_init_20 {E : jEnv} {d : Nat} {Q : jM → Prop} {a0 : Nat} {x1 : Int32} {S : jM} {c9 k9 : Nat} (h : (9 ≤ x1 → (c9 ≤ 10 ∧ k9 ≤ 72) ∧ Q S) ∧ (¬ 9 ≤ x1 → jk S a0 = 0 ∧ ∃ b7, jr S a0 0 = some b7 ∧ ((c9 + 1 ≤ 10 ∧ k9 + 7 ≤ 72) ∧ ∀ q9, q9 = jn S → ((c9 + 1) + 0 ≤ 10 ∧ (k9 + 7) + 0 ≤ 72) ∧ jFv E mX2_init d 0 0 [.ref q9] (jnew S 2 0) (fun S11 => jk S11 b7 = 13 ∧ jk S11 q9 = 2 ∧ vp_in x1 (jl S11 b7) ∧ (L_X0_init_20 E d Q a0 (x1 + 1) (jputr S11 b7 (Int32.toNatClampNeg x1) (some q9)) ((c9 + 1) + 0) ((k9 + 7) + 0)))))) : L_X0_init_20 E d Q a0 x1 S c9 k9 := by
  show jX E mX0_init (jRm (d + 1) 10 72) (jZm E (fun r S' => r = none ∧ Q S') 10 72) 20 [(0, .ref a0), (1, .int x1)] [] S c9 k9
  refine jx_iload_n 1 kd1.2.2.1 rfl rfl ?_
  refine jx_bipush (v := 9) kd1.2.2.2.1 (by decide) ?_
  refine jx_icmp_ge (tgt := 45) kd1.2.2.2.2.1 (by decide) (fun c4 => ?_) (fun c4 => ?_)
  · replace h := h.1 c4
    obtain ⟨hm5, h⟩ := h
    exact jx_vret kd2.2.2.2.2.2.1 rfl hm5.1 hm5.2 ⟨rfl, h⟩
  replace h := h.2 c4
  refine jx_aload_n 0 kd1.2.2.2.2.2.1 rfl rfl ?_
  obtain ⟨hk6, h⟩ := h
  obtain ⟨b7, hb7, h⟩ := h
  refine jx_getr jc_0 (j := 0) (by decide) rfl jwF_X0_11 kd1.2.2.2.2.2.2.1 hk6 hb7 ?_
  refine jx_iload_n 1 kd1.2.2.2.2.2.2.2.1 rfl rfl ?_
  obtain ⟨hm8, h⟩ := h
  refine jx_new jc_2 jwK_X0_9 jwI_X2 jwZ_X2 jdv_2 kd1.2.2.2.2.2.2.2.2.1 hm8 ?_
  obtain ⟨q9, hq9⟩ : ∃ q, q = jn S := ⟨_, rfl⟩
  rw [← hq9]
  replace h := h q9 hq9
  refine jx_dup kd2.1 rfl ?_
  obtain ⟨hm10, h⟩ := h
  refine jx_callINv (M' := mX2_init) (As := []) (b := q9) (host := "NineMasters") jo_X2_init rfl (by decide) jwN_X2_init rfl kd2.2.1 (jRok_m _ _ _) rfl (jle rfl) hm10 h (fun S11 h => ?_)
  obtain ⟨hk12, h⟩ := h
  obtain ⟨hk14, h⟩ := h
  obtain ⟨hi13, h⟩ := h
  refine jx_aast kd2.2.2.1 hk12 (by decide) (by decide) jc_2 rfl hk14 hi13 ?_
  refine jx_iinc 1 (v := (x1 + 1)) (lv1 := [(1, .int (x1 + 1)), (0, .ref a0)]) kd2.2.2.2.1 rfl rfl (by decide) rfl ?_
  refine jx_goto (tgt := 20) kd2.2.2.2.2.1 (by decide) ?_
  exact jx_lv [1, 0] rfl h
/-- X0_become at its loop's head 18 -/
abbrev L_X0_become_18 (E : jEnv) (d : Nat) (Q : jM → Prop) (a0 : Nat) (a1 : Nat) (x2 : Int32) (S : jM) : Prop := jX E mX0_become (jRm (d + 1) 0 0) (jZm E (fun r S' => r = none ∧ Q S') 0 0) 18 [(0, .ref a0), (1, .ref a1), (2, .int x2)] [] S 0 0
set_option maxRecDepth 100000 in
set_option maxHeartbeats 4000000 in
theorem T_X0_become {E : jEnv} {d : Nat} {Q : jM → Prop} {a0 : Nat} {a1 : Nat} {S : jM} (h : jk S a1 = 0 ∧ jk S a0 = 0 ∧ L_X0_become_18 E d Q a0 a1 0 (jput (jput S a0 1 (ji S a1 1)) a0 2 (ji S a1 2))) : jFv E mX0_become (d + 1) 0 0 [.ref a0, .ref a1] S Q := by
  refine jF_of (by decide) (jle rfl) ?_
  refine jx_lv (lv1 := [(0, .ref a0), (1, .ref a1)]) [0, 1] rfl ?_
  refine jx_aload_n 0 kd3.1 rfl rfl ?_
  refine jx_aload_n 1 kd3.2.1 rfl rfl ?_
  obtain ⟨hk1, h⟩ := h
  refine jx_geti jc_0 (j := 1) (by decide) rfl jwF_X0_22 kd3.2.2.1 hk1 ?_
  obtain ⟨hk2, h⟩ := h
  refine jx_puti jc_0 (j := 1) (by decide) rfl jwF_X0_22 rfl rfl rfl kd3.2.2.2.1 hk2 ?_
  refine jx_aload_n 0 kd3.2.2.2.2.1 rfl rfl ?_
  refine jx_aload_n 1 kd3.2.2.2.2.2.1 rfl rfl ?_
  refine jx_geti jc_0 (j := 2) (by decide) rfl jwF_X0_17 kd3.2.2.2.2.2.2.1 hk1 ?_
  refine jx_topi (y := (ji S a1 2)) (by simp [ji_put, ji_row, ji_putr]) ?_
  refine jx_puti jc_0 (j := 2) (by decide) rfl jwF_X0_17 rfl rfl rfl kd3.2.2.2.2.2.2.2.1 hk2 ?_
  refine jx_iconst (v := 0) kd3.2.2.2.2.2.2.2.2.1 (by decide) ?_
  refine jx_istore_n (lv1 := [(2, .int 0), (0, .ref a0), (1, .ref a1)]) kd4.1 rfl (by decide) rfl ?_
  exact jx_lv [1, 2, 0] rfl h
set_option maxRecDepth 100000 in
set_option maxHeartbeats 4000000 in
theorem T_X0_become_18 {E : jEnv} {d : Nat} {Q : jM → Prop} {a0 : Nat} {a1 : Nat} {x2 : Int32} {S : jM} (h : (9 ≤ x2 → Q S) ∧ (¬ 9 ≤ x2 → jk S a0 = 0 ∧ ∃ b5, jr S a0 0 = some b5 ∧ (jk S b5 = 13 ∧ vp_in x2 (jl S b5) ∧ ∃ b8, jr S b5 (Int32.toNatClampNeg x2) = some b8 ∧ (jk S a1 = 0 ∧ ∃ b10, jr S a1 0 = some b10 ∧ (jk S b10 = 13 ∧ vp_in x2 (jl S b10) ∧ ∃ b13, jr S b10 (Int32.toNatClampNeg x2) = some b13 ∧ (jk S b8 = 2 ∧ jFv E mX2_become d 0 0 [.ref b8, .ref b13] S (fun S15 => L_X0_become_18 E d Q a0 a1 (x2 + 1) S15))))))) : L_X0_become_18 E d Q a0 a1 x2 S := by
  show jX E mX0_become (jRm (d + 1) 0 0) (jZm E (fun r S' => r = none ∧ Q S') 0 0) 18 [(0, .ref a0), (1, .ref a1), (2, .int x2)] [] S 0 0
  refine jx_iload_n 2 kd4.2.1 rfl rfl ?_
  refine jx_bipush (v := 9) kd4.2.2.1 (by decide) ?_
  refine jx_icmp_ge (tgt := 45) kd4.2.2.2.1 (by decide) (fun c3 => ?_) (fun c3 => ?_)
  · replace h := h.1 c3
    exact jx_vret kd5.2.2.2.2.2.2.1 rfl (jle rfl) (jle rfl) ⟨rfl, h⟩
  replace h := h.2 c3
  refine jx_aload_n 0 kd4.2.2.2.2.1 rfl rfl ?_
  obtain ⟨hk4, h⟩ := h
  obtain ⟨b5, hb5, h⟩ := h
  refine jx_getr jc_0 (j := 0) (by decide) rfl jwF_X0_11 kd4.2.2.2.2.2.1 hk4 hb5 ?_
  refine jx_iload_n 2 kd4.2.2.2.2.2.2.1 rfl rfl ?_
  obtain ⟨hk6, h⟩ := h
  obtain ⟨hi7, h⟩ := h
  obtain ⟨b8, hb8, h⟩ := h
  refine jx_aaldS kd4.2.2.2.2.2.2.2.1 hk6 (by decide) (by decide) hi7 hb8 ?_
  refine jx_aload_n 1 kd4.2.2.2.2.2.2.2.2.1 rfl rfl ?_
  obtain ⟨hk9, h⟩ := h
  obtain ⟨b10, hb10, h⟩ := h
  refine jx_getr jc_0 (j := 0) (by decide) rfl jwF_X0_11 kd5.1 hk9 hb10 ?_
  refine jx_iload_n 2 kd5.2.1 rfl rfl ?_
  obtain ⟨hk11, h⟩ := h
  obtain ⟨hi12, h⟩ := h
  obtain ⟨b13, hb13, h⟩ := h
  refine jx_aaldS kd5.2.2.1 hk11 (by decide) (by decide) hi12 hb13 ?_
  obtain ⟨hk14, h⟩ := h
  refine jx_callVv (M' := mX2_become) (As := [.ref b13]) jo_X2_become jc_2 rfl jwM_X0_25 jwN_X2_become jwX_X2_become kd5.2.2.2.1 (jRok_m _ _ _) rfl (jle rfl) ⟨jle rfl, jle rfl⟩ hk14 h (fun S15 h => ?_)
  refine jx_iinc 2 (v := (x2 + 1)) (lv1 := [(2, .int (x2 + 1)), (0, .ref a0), (1, .ref a1)]) kd5.2.2.2.2.1 rfl rfl (by decide) rfl ?_
  refine jx_goto (tgt := 18) kd5.2.2.2.2.2.1 (by decide) ?_
  exact jx_lv [1, 2, 0] rfl h
set_option maxRecDepth 100000 in
set_option maxHeartbeats 4000000 in
theorem T_X0_find {E : jEnv} {d : Nat} {Q : Option Nat → jM → Prop} {a0 : Nat} {x1 : Int32} {S : jM} (h : jk S a0 = 0 ∧ ((jwi x1 (ji S a0 1)) = 0 → Q none S) ∧ (¬ (jwi x1 (ji S a0 1)) = 0 → (9 ≤ x1 → Q none S) ∧ (¬ 9 ≤ x1 → ∃ b7, jr S a0 0 = some b7 ∧ (jk S b7 = 13 ∧ vp_in x1 (jl S b7) ∧ ∃ b10, jr S b7 (Int32.toNatClampNeg x1) = some b10 ∧ (Q (some b10) S))))) : jFr E mX0_find (d + 1) 0 0 [.ref a0, .int x1] S Q := by
  refine jF_of (by decide) (jle rfl) ?_
  refine jx_lv (lv1 := [(0, .ref a0), (1, .int x1)]) [0, 1] rfl ?_
  refine jx_iload_n 1 kd6.1 rfl rfl ?_
  refine jx_aload_n 0 kd6.2.1 rfl rfl ?_
  obtain ⟨hk1, h⟩ := h
  refine jx_geti jc_0 (j := 1) (by decide) rfl jwF_X0_22 kd6.2.2.1 hk1 ?_
  refine jx_callSNi (M' := mX10_within) (As := [.int x1, .int (ji S a0 1)]) (host := "NineMasters") jo_X10_within (by decide) jwS_X10_within kd6.2.2.2.1 (jRok_m _ _ _) rfl (jle rfl) ⟨jle rfl, jle rfl⟩ (c_X10_within (Q := fun v S' => v = (jwi x1 (ji S a0 1)) ∧ S = S') ⟨rfl, rfl⟩) (fun r2 S3 hq4 => ?_)
  obtain ⟨rfl, rfl⟩ := hq4
  refine jx_if_eq (tgt := 26) kd6.2.2.2.2.1 (by decide) (fun c5 => ?_) (fun c5 => ?_)
  · replace h := h.1 c5
    refine jx_null kd7.2.2.2.2.1 ?_
    exact jx_aret (o := none) kd7.2.2.2.2.2.1 rfl (jle rfl) (jle rfl) ⟨_, rfl, h⟩
  replace h := h.2 c5
  refine jx_iload_n 1 kd6.2.2.2.2.2.1 rfl rfl ?_
  refine jx_bipush (v := 9) kd6.2.2.2.2.2.2.1 (by decide) ?_
  refine jx_icmp_ge (tgt := 26) kd6.2.2.2.2.2.2.2.1 (by decide) (fun c6 => ?_) (fun c6 => ?_)
  · replace h := h.1 c6
    refine jx_null kd7.2.2.2.2.1 ?_
    exact jx_aret (o := none) kd7.2.2.2.2.2.1 rfl (jle rfl) (jle rfl) ⟨_, rfl, h⟩
  replace h := h.2 c6
  refine jx_aload_n 0 kd6.2.2.2.2.2.2.2.2.1 rfl rfl ?_
  obtain ⟨b7, hb7, h⟩ := h
  refine jx_getr jc_0 (j := 0) (by decide) rfl jwF_X0_11 kd7.1 hk1 hb7 ?_
  refine jx_iload_n 1 kd7.2.1 rfl rfl ?_
  obtain ⟨hk8, h⟩ := h
  obtain ⟨hi9, h⟩ := h
  obtain ⟨b10, hb10, h⟩ := h
  refine jx_aaldS kd7.2.2.1 hk8 (by decide) (by decide) hi9 hb10 ?_
  refine jx_goto (tgt := 27) kd7.2.2.2.1 (by decide) ?_
  exact jx_aret (o := (some b10)) kd7.2.2.2.2.2.1 rfl (jle rfl) (jle rfl) ⟨_, rfl, h⟩
set_option maxRecDepth 100000 in
set_option maxHeartbeats 4000000 in
theorem T_X0_join {E : jEnv} {d : Nat} {Q : Int32 → jM → Prop} {a0 : Nat} {x1 : Int32} {x2 : Int32} {x3 : Int32} {x4 : Int32} {S : jM} (h : jk S a0 = 0 ∧ ((jwi (ji S a0 1) 9) = 0 → Q 0 S) ∧ (¬ (jwi (ji S a0 1) 9) = 0 → ∃ b6, jr S a0 0 = some b6 ∧ (jk S b6 = 13 ∧ vp_in (ji S a0 1) (jl S b6) ∧ ∃ b9, jr S b6 (Int32.toNatClampNeg (ji S a0 1)) = some b9 ∧ (jk S b9 = 2 ∧ jFv E mX2_begin d 0 0 [.ref b9, .int x1, .int x2, .int x3, .int x4] S (fun S11 => jk S11 a0 = 0 ∧ Q 1 (jput S11 a0 1 ((ji S11 a0 1) + 1))))))) : jFi E mX0_join (d + 1) 0 0 [.ref a0, .int x1, .int x2, .int x3, .int x4] S Q := by
  refine jF_of (by decide) (jle rfl) ?_
  refine jx_lv (lv1 := [(0, .ref a0), (1, .int x1), (2, .int x2), (3, .int x3), (4, .int x4)]) [0, 1, 2, 3, 4] rfl ?_
  refine jx_aload_n 0 kd8.1 rfl rfl ?_
  obtain ⟨hk1, h⟩ := h
  refine jx_geti jc_0 (j := 1) (by decide) rfl jwF_X0_22 kd8.2.1 hk1 ?_
  refine jx_bipush (v := 9) kd8.2.2.1 (by decide) ?_
  refine jx_callSNi (M' := mX10_within) (As := [.int (ji S a0 1), .int 9]) (host := "NineMasters") jo_X10_within (by decide) jwS_X10_within kd8.2.2.2.1 (jRok_m _ _ _) rfl (jle rfl) ⟨jle rfl, jle rfl⟩ (c_X10_within (Q := fun v S' => v = (jwi (ji S a0 1) 9) ∧ S = S') ⟨rfl, rfl⟩) (fun r2 S3 hq4 => ?_)
  obtain ⟨rfl, rfl⟩ := hq4
  refine jx_if_ne (tgt := 14) kd8.2.2.2.2.1 (by decide) (fun c5 => ?_) (fun c5 => ?_)
  · replace h := h.2 c5
    refine jx_aload_n 0 kd8.2.2.2.2.2.2.2.1 rfl rfl ?_
    obtain ⟨b6, hb6, h⟩ := h
    refine jx_getr jc_0 (j := 0) (by decide) rfl jwF_X0_11 kd8.2.2.2.2.2.2.2.2.1 hk1 hb6 ?_
    refine jx_aload_n 0 kd9.1 rfl rfl ?_
    refine jx_geti jc_0 (j := 1) (by decide) rfl jwF_X0_22 kd9.2.1 hk1 ?_
    obtain ⟨hk7, h⟩ := h
    obtain ⟨hi8, h⟩ := h
    obtain ⟨b9, hb9, h⟩ := h
    refine jx_aaldS kd9.2.2.1 hk7 (by decide) (by decide) hi8 hb9 ?_
    refine jx_iload_n 1 kd9.2.2.2.1 rfl rfl ?_
    refine jx_iload_n 2 kd9.2.2.2.2.1 rfl rfl ?_
    refine jx_iload_n 3 kd9.2.2.2.2.2.1 rfl rfl ?_
    refine jx_iload 4 kd9.2.2.2.2.2.2.1 rfl ?_
    obtain ⟨hk10, h⟩ := h
    refine jx_callVv (M' := mX2_begin) (As := [.int x1, .int x2, .int x3, .int x4]) jo_X2_begin jc_2 rfl jwM_X0_33 jwN_X2_begin jwX_X2_begin kd9.2.2.2.2.2.2.2.1 (jRok_m _ _ _) rfl (jle rfl) ⟨jle rfl, jle rfl⟩ hk10 h (fun S11 h => ?_)
    refine jx_aload_n 0 kd9.2.2.2.2.2.2.2.2.1 rfl rfl ?_
    refine jx_dup kd10.1 rfl ?_
    obtain ⟨hk12, h⟩ := h
    refine jx_geti jc_0 (j := 1) (by decide) rfl jwF_X0_22 kd10.2.1 hk12 ?_
    refine jx_iconst (v := 1) kd10.2.2.1 (by decide) ?_
    refine jx_iadd kd10.2.2.2.1 ?_
    refine jx_puti jc_0 (j := 1) (by decide) rfl jwF_X0_22 rfl rfl rfl kd10.2.2.2.2.1 hk12 ?_
    refine jx_iconst (v := 1) kd10.2.2.2.2.2.1 (by decide) ?_
    exact jx_iret kd10.2.2.2.2.2.2.1 rfl (by decide) (jle rfl) (jle rfl) ⟨_, rfl, h⟩
  replace h := h.1 c5
  refine jx_iconst (v := 0) kd8.2.2.2.2.2.1 (by decide) ?_
  exact jx_iret kd8.2.2.2.2.2.2.1 rfl (by decide) (jle rfl) (jle rfl) ⟨_, rfl, h⟩
set_option maxRecDepth 100000 in
set_option maxHeartbeats 4000000 in
theorem T_X0_joinByLot {E : jEnv} {d : Nat} {Q : jM → Prop} {a0 : Nat} {S : jM} (h : jk S a0 = 0 ∧ jFi E mX0_draw d 0 0 [.ref a0] S (fun r3 S2 => jk S2 a0 = 0 ∧ jFi E mX0_draw d 0 0 [.ref a0] S2 (fun r6 S5 => jk S5 a0 = 0 ∧ jFi E mX0_draw d 0 0 [.ref a0] S5 (fun r9 S8 => jk S8 a0 = 0 ∧ jFi E mX0_draw d 0 0 [.ref a0] S8 (fun r12 S11 => jk S11 a0 = 0 ∧ jFi E mX0_join d 0 0 [.ref a0, .int (jrem r3 6), .int (jrem r6 6), .int (jrem r9 10), .int (jrem r12 40)] S11 (fun r15 S14 => Q S14)))))) : jFv E mX0_joinByLot (d + 1) 0 0 [.ref a0] S Q := by
  refine jF_of (by decide) (jle rfl) ?_
  refine jx_lv (lv1 := [(0, .ref a0)]) [0] rfl ?_
  refine jx_aload_n 0 kd11.1 rfl rfl ?_
  obtain ⟨hk1, h⟩ := h
  refine jx_callVi (M' := mX0_draw) (As := []) jo_X0_draw jc_0 rfl jwM_X0_37 jwN_X0_draw jwX_X0_draw kd11.2.1 (jRok_m _ _ _) rfl (jle rfl) ⟨jle rfl, jle rfl⟩ hk1 h (fun r3 S2 h => ?_)
  refine jx_bipush (v := 6) kd11.2.2.1 (by decide) ?_
  refine jx_irem kd11.2.2.2.1 (by decide) ?_
  refine jx_istore_n (lv1 := [(1, .int (jrem r3 6)), (0, .ref a0)]) kd11.2.2.2.2.1 rfl (by decide) rfl ?_
  refine jx_aload_n 1 kd11.2.2.2.2.2.1 rfl rfl ?_
  obtain ⟨hk4, h⟩ := h
  refine jx_callVi (M' := mX0_draw) (As := []) jo_X0_draw jc_0 rfl jwM_X0_37 jwN_X0_draw jwX_X0_draw kd11.2.2.2.2.2.2.1 (jRok_m _ _ _) rfl (jle rfl) ⟨jle rfl, jle rfl⟩ hk4 h (fun r6 S5 h => ?_)
  refine jx_bipush (v := 6) kd11.2.2.2.2.2.2.2.1 (by decide) ?_
  refine jx_irem kd11.2.2.2.2.2.2.2.2.1 (by decide) ?_
  refine jx_istore_n (lv1 := [(2, .int (jrem r6 6)), (1, .int (jrem r3 6)), (0, .ref a0)]) kd12.1 rfl (by decide) rfl ?_
  refine jx_aload_n 2 kd12.2.1 rfl rfl ?_
  obtain ⟨hk7, h⟩ := h
  refine jx_callVi (M' := mX0_draw) (As := []) jo_X0_draw jc_0 rfl jwM_X0_37 jwN_X0_draw jwX_X0_draw kd12.2.2.1 (jRok_m _ _ _) rfl (jle rfl) ⟨jle rfl, jle rfl⟩ hk7 h (fun r9 S8 h => ?_)
  refine jx_bipush (v := 10) kd12.2.2.2.1 (by decide) ?_
  refine jx_irem kd12.2.2.2.2.1 (by decide) ?_
  refine jx_istore_n (lv1 := [(3, .int (jrem r9 10)), (2, .int (jrem r6 6)), (1, .int (jrem r3 6)), (0, .ref a0)]) kd12.2.2.2.2.2.1 rfl (by decide) rfl ?_
  refine jx_aload_n 3 kd12.2.2.2.2.2.2.1 rfl rfl ?_
  obtain ⟨hk10, h⟩ := h
  refine jx_callVi (M' := mX0_draw) (As := []) jo_X0_draw jc_0 rfl jwM_X0_37 jwN_X0_draw jwX_X0_draw kd12.2.2.2.2.2.2.2.1 (jRok_m _ _ _) rfl (jle rfl) ⟨jle rfl, jle rfl⟩ hk10 h (fun r12 S11 h => ?_)
  refine jx_bipush (v := 40) kd12.2.2.2.2.2.2.2.2.1 (by decide) ?_
  refine jx_irem kd13.1 (by decide) ?_
  refine jx_istore (lv1 := [(4, .int (jrem r12 40)), (3, .int (jrem r9 10)), (2, .int (jrem r6 6)), (1, .int (jrem r3 6)), (0, .ref a0)]) kd13.2.1 (by decide) rfl ?_
  refine jx_aload_n 4 kd13.2.2.1 rfl rfl ?_
  refine jx_iload_n 3 kd13.2.2.2.1 rfl rfl ?_
  refine jx_iload_n 2 kd13.2.2.2.2.1 rfl rfl ?_
  refine jx_iload_n 1 kd13.2.2.2.2.2.1 rfl rfl ?_
  refine jx_iload 0 kd13.2.2.2.2.2.2.1 rfl ?_
  obtain ⟨hk13, h⟩ := h
  refine jx_callVi (M' := mX0_join) (As := [.int (jrem r3 6), .int (jrem r6 6), .int (jrem r9 10), .int (jrem r12 40)]) jo_X0_join jc_0 rfl jwM_X0_41 jwN_X0_join jwX_X0_join kd13.2.2.2.2.2.2.2.1 (jRok_m _ _ _) rfl (jle rfl) ⟨jle rfl, jle rfl⟩ hk13 h (fun r15 S14 h => ?_)
  refine jx_pop kd13.2.2.2.2.2.2.2.2.1 rfl ?_
  exact jx_vret kd14.1 rfl (jle rfl) (jle rfl) ⟨rfl, h⟩
set_option maxRecDepth 100000 in
set_option maxHeartbeats 4000000 in
theorem T_X0_draw {E : jEnv} {d : Nat} {Q : Int32 → jM → Prop} {a0 : Nat} {S : jM} (h : jk S a0 = 0 ∧ Q (jushr (((ji S a0 2) * 1103515245) + 12345) 8) (jput S a0 2 (((ji S a0 2) * 1103515245) + 12345))) : jFi E mX0_draw d 0 0 [.ref a0] S Q := by
  refine jF_of (by decide) (jle rfl) ?_
  refine jx_lv (lv1 := [(0, .ref a0)]) [0] rfl ?_
  refine jx_aload_n 0 kd15.1 rfl rfl ?_
  refine jx_aload_n 0 kd15.2.1 rfl rfl ?_
  obtain ⟨hk1, h⟩ := h
  refine jx_geti jc_0 (j := 2) (by decide) rfl jwF_X0_17 kd15.2.2.1 hk1 ?_
  refine jx_ldc jwC_X0_45 kd15.2.2.2.1 ?_
  refine jx_imul kd15.2.2.2.2.1 ?_
  refine jx_sipush (v := 12345) kd15.2.2.2.2.2.1 (by decide) ?_
  refine jx_iadd kd15.2.2.2.2.2.2.1 ?_
  refine jx_puti jc_0 (j := 2) (by decide) rfl jwF_X0_17 rfl rfl rfl kd15.2.2.2.2.2.2.2.1 hk1 ?_
  refine jx_aload_n 0 kd15.2.2.2.2.2.2.2.2.1 rfl rfl ?_
  refine jx_geti jc_0 (j := 2) (by decide) rfl jwF_X0_17 kd16.1 hk1 ?_
  refine jx_topi (y := (((ji S a0 2) * 1103515245) + 12345)) (by simp [ji_put, ji_row, ji_putr]) ?_
  refine jx_bipush (v := 8) kd16.2.1 (by decide) ?_
  refine jx_iushr kd16.2.2.1 ?_
  exact jx_iret kd16.2.2.2.1 rfl rfl (jle rfl) (jle rfl) ⟨_, rfl, h⟩
/-- X0_liveYear at its loop's head 2 -/
abbrev L_X0_liveYear_2 (E : jEnv) (d : Nat) (Q : jM → Prop) (a0 : Nat) (x1 : Int32) (S : jM) : Prop := jX E mX0_liveYear (jRm (d + 1) 0 0) (jZm E (fun r S' => r = none ∧ Q S') 0 0) 2 [(0, .ref a0), (1, .int x1)] [] S 0 0
set_option maxRecDepth 100000 in
set_option maxHeartbeats 4000000 in
theorem T_X0_liveYear {E : jEnv} {d : Nat} {Q : jM → Prop} {a0 : Nat} {S : jM} (h : L_X0_liveYear_2 E d Q a0 0 S) : jFv E mX0_liveYear (d + 1) 0 0 [.ref a0] S Q := by
  refine jF_of (by decide) (jle rfl) ?_
  refine jx_lv (lv1 := [(0, .ref a0)]) [0] rfl ?_
  refine jx_iconst (v := 0) kd17.1 (by decide) ?_
  refine jx_istore_n (lv1 := [(1, .int 0), (0, .ref a0)]) kd17.2.1 rfl (by decide) rfl ?_
  exact jx_lv [1, 0] rfl h
set_option maxRecDepth 100000 in
set_option maxHeartbeats 4000000 in
theorem T_X0_liveYear_2 {E : jEnv} {d : Nat} {Q : jM → Prop} {a0 : Nat} {x1 : Int32} {S : jM} (h : jk S a0 = 0 ∧ ((ji S a0 1) ≤ x1 → Q S) ∧ (¬ (ji S a0 1) ≤ x1 → jFr E mX0_find d 0 0 [.ref a0, .int x1] S (fun o4 S3 => (o4 = none → L_X0_liveYear_2 E d Q a0 (x1 + 1) S3) ∧ (∀ b5, o4 = some b5 → jk S3 b5 = 2 ∧ ((ji S3 b5 6) = 0 → jk S3 a0 = 0 ∧ jFi E mX0_draw d 0 0 [.ref a0] S3 (fun r10 S9 => jk S9 b5 = 2 ∧ (((ji S9 b5 5) - 50) ≤ (jrem r10 100) → L_X0_liveYear_2 E d Q a0 (x1 + 1) (jput S9 b5 5 (jmin 99 ((ji S9 b5 5) + 1)))) ∧ (¬ ((ji S9 b5 5) - 50) ≤ (jrem r10 100) → L_X0_liveYear_2 E d Q a0 (x1 + 1) (jput S9 b5 6 1)))) ∧ (¬ (ji S3 b5 6) = 0 → L_X0_liveYear_2 E d Q a0 (x1 + 1) S3))))) : L_X0_liveYear_2 E d Q a0 x1 S := by
  show jX E mX0_liveYear (jRm (d + 1) 0 0) (jZm E (fun r S' => r = none ∧ Q S') 0 0) 2 [(0, .ref a0), (1, .int x1)] [] S 0 0
  refine jx_iload_n 1 kd17.2.2.1 rfl rfl ?_
  refine jx_aload_n 0 kd17.2.2.2.1 rfl rfl ?_
  obtain ⟨hk1, h⟩ := h
  refine jx_geti jc_0 (j := 1) (by decide) rfl jwF_X0_22 kd17.2.2.2.2.1 hk1 ?_
  refine jx_icmp_ge (tgt := 73) kd17.2.2.2.2.2.1 (by decide) (fun c2 => ?_) (fun c2 => ?_)
  · replace h := h.1 c2
    exact jx_vret kd21.2.2.1 rfl (jle rfl) (jle rfl) ⟨rfl, h⟩
  replace h := h.2 c2
  refine jx_aload_n 0 kd17.2.2.2.2.2.2.1 rfl rfl ?_
  refine jx_iload_n 1 kd17.2.2.2.2.2.2.2.1 rfl rfl ?_
  refine jx_callVr (M' := mX0_find) (As := [.int x1]) jo_X0_find jc_0 rfl jwM_X0_46 jwN_X0_find jwX_X0_find kd17.2.2.2.2.2.2.2.2.1 (jRok_m _ _ _) rfl (jle rfl) ⟨jle rfl, jle rfl⟩ hk1 h (fun o4 S3 h => ?_)
  rcases o4 with _ | b5
  · replace h := h.1 rfl
    refine jx_astore_nN (lv1 := [(2, .null), (0, .ref a0), (1, .int x1)]) kd18.1 rfl (by decide) rfl ?_
    refine jx_aload_nN 0 kd18.2.1 rfl rfl ?_
    refine jx_ifnullN (tgt := 67) kd18.2.2.1 (by decide) ?_
    refine jx_iinc 2 (v := (x1 + 1)) (lv1 := [(1, .int (x1 + 1)), (2, .null), (0, .ref a0)]) kd21.1 rfl rfl (by decide) rfl ?_
    refine jx_goto (tgt := 2) kd21.2.1 (by decide) ?_
    exact jx_lv [2, 0] rfl h
  replace h := h.2 b5 rfl
  refine jx_astore_n (lv1 := [(2, .ref b5), (0, .ref a0), (1, .int x1)]) kd18.1 rfl (by decide) rfl ?_
  refine jx_aload_n 0 kd18.2.1 rfl rfl ?_
  refine jx_ifnull kd18.2.2.1 ?_
  refine jx_aload_n 0 kd18.2.2.2.1 rfl rfl ?_
  obtain ⟨hk6, h⟩ := h
  refine jx_geti jc_2 (j := 6) (by decide) rfl jwF_X0_50 kd18.2.2.2.2.1 hk6 ?_
  refine jx_if_ne (tgt := 67) kd18.2.2.2.2.2.1 (by decide) (fun c7 => ?_) (fun c7 => ?_)
  · replace h := h.2 c7
    refine jx_iinc 2 (v := (x1 + 1)) (lv1 := [(1, .int (x1 + 1)), (2, .ref b5), (0, .ref a0)]) kd21.1 rfl rfl (by decide) rfl ?_
    refine jx_goto (tgt := 2) kd21.2.1 (by decide) ?_
    exact jx_lv [2, 0] rfl h
  replace h := h.1 c7
  refine jx_aload_n 1 kd18.2.2.2.2.2.2.1 rfl rfl ?_
  obtain ⟨hk8, h⟩ := h
  refine jx_callVi (M' := mX0_draw) (As := []) jo_X0_draw jc_0 rfl jwM_X0_37 jwN_X0_draw jwX_X0_draw kd18.2.2.2.2.2.2.2.1 (jRok_m _ _ _) rfl (jle rfl) ⟨jle rfl, jle rfl⟩ hk8 h (fun r10 S9 h => ?_)
  refine jx_bipush (v := 100) kd18.2.2.2.2.2.2.2.2.1 (by decide) ?_
  refine jx_irem kd19.1 (by decide) ?_
  refine jx_aload_n 0 kd19.2.1 rfl rfl ?_
  obtain ⟨hk11, h⟩ := h
  refine jx_geti jc_2 (j := 5) (by decide) rfl jwF_X0_54 kd19.2.2.1 hk11 ?_
  refine jx_bipush (v := 50) kd19.2.2.2.1 (by decide) ?_
  refine jx_isub kd19.2.2.2.2.1 ?_
  refine jx_icmp_ge (tgt := 52) kd19.2.2.2.2.2.1 (by decide) (fun c12 => ?_) (fun c12 => ?_)
  · replace h := h.1 c12
    refine jx_aload_n 0 kd20.2.1 rfl rfl ?_
    refine jx_bipush (v := 99) kd20.2.2.1 (by decide) ?_
    refine jx_aload_n 0 kd20.2.2.2.1 rfl rfl ?_
    refine jx_geti jc_2 (j := 5) (by decide) rfl jwF_X0_54 kd20.2.2.2.2.1 hk11 ?_
    refine jx_iconst (v := 1) kd20.2.2.2.2.2.1 (by decide) ?_
    refine jx_iadd kd20.2.2.2.2.2.2.1 ?_
    refine jx_min jwM_X0_57 jwS_min jwZ_J9 jwO_min kd20.2.2.2.2.2.2.2.1 (jRok_m _ _ _) (jle rfl) ⟨Nat.zero_le _, Nat.zero_le _⟩ ?_
    refine jx_puti jc_2 (j := 5) (by decide) rfl jwF_X0_54 rfl rfl rfl kd20.2.2.2.2.2.2.2.2.1 hk11 ?_
    refine jx_iinc 2 (v := (x1 + 1)) (lv1 := [(1, .int (x1 + 1)), (2, .ref b5), (0, .ref a0)]) kd21.1 rfl rfl (by decide) rfl ?_
    refine jx_goto (tgt := 2) kd21.2.1 (by decide) ?_
    exact jx_lv [2, 0] rfl h
  replace h := h.2 c12
  refine jx_aload_n 0 kd19.2.2.2.2.2.2.1 rfl rfl ?_
  refine jx_iconst (v := 1) kd19.2.2.2.2.2.2.2.1 (by decide) ?_
  refine jx_puti jc_2 (j := 6) (by decide) rfl jwF_X0_50 rfl (by decide) (by decide) kd19.2.2.2.2.2.2.2.2.1 hk11 ?_
  refine jx_goto (tgt := 67) kd20.1 (by decide) ?_
  refine jx_iinc 2 (v := (x1 + 1)) (lv1 := [(1, .int (x1 + 1)), (2, .ref b5), (0, .ref a0)]) kd21.1 rfl rfl (by decide) rfl ?_
  refine jx_goto (tgt := 2) kd21.2.1 (by decide) ?_
  exact jx_lv [2, 0] rfl h
/-- X0_liveYears at its loop's head 2 -/
abbrev L_X0_liveYears_2 (E : jEnv) (d : Nat) (Q : jM → Prop) (a0 : Nat) (x1 : Int32) (x2 : Int32) (S : jM) : Prop := jX E mX0_liveYears (jRm (d + 1) 0 0) (jZm E (fun r S' => r = none ∧ Q S') 0 0) 2 [(0, .ref a0), (1, .int x1), (2, .int x2)] [] S 0 0
set_option maxRecDepth 100000 in
set_option maxHeartbeats 4000000 in
theorem T_X0_liveYears {E : jEnv} {d : Nat} {Q : jM → Prop} {a0 : Nat} {x1 : Int32} {S : jM} (h : L_X0_liveYears_2 E d Q a0 x1 0 S) : jFv E mX0_liveYears (d + 1) 0 0 [.ref a0, .int x1] S Q := by
  refine jF_of (by decide) (jle rfl) ?_
  refine jx_lv (lv1 := [(0, .ref a0), (1, .int x1)]) [0, 1] rfl ?_
  refine jx_iconst (v := 0) kd22.1 (by decide) ?_
  refine jx_istore_n (lv1 := [(2, .int 0), (0, .ref a0), (1, .int x1)]) kd22.2.1 rfl (by decide) rfl ?_
  exact jx_lv [1, 2, 0] rfl h
set_option maxRecDepth 100000 in
set_option maxHeartbeats 4000000 in
theorem T_X0_liveYears_2 {E : jEnv} {d : Nat} {Q : jM → Prop} {a0 : Nat} {x1 : Int32} {x2 : Int32} {S : jM} (h : (x1 ≤ x2 → Q S) ∧ (¬ x1 ≤ x2 → jk S a0 = 0 ∧ jFv E mX0_liveYear d 0 0 [.ref a0] S (fun S3 => L_X0_liveYears_2 E d Q a0 x1 (x2 + 1) S3))) : L_X0_liveYears_2 E d Q a0 x1 x2 S := by
  show jX E mX0_liveYears (jRm (d + 1) 0 0) (jZm E (fun r S' => r = none ∧ Q S') 0 0) 2 [(0, .ref a0), (1, .int x1), (2, .int x2)] [] S 0 0
  refine jx_iload_n 2 kd22.2.2.1 rfl rfl ?_
  refine jx_iload_n 1 kd22.2.2.2.1 rfl rfl ?_
  refine jx_icmp_ge (tgt := 17) kd22.2.2.2.2.1 (by decide) (fun c1 => ?_) (fun c1 => ?_)
  · replace h := h.1 c1
    exact jx_vret kd23.1 rfl (jle rfl) (jle rfl) ⟨rfl, h⟩
  replace h := h.2 c1
  refine jx_aload_n 0 kd22.2.2.2.2.2.1 rfl rfl ?_
  obtain ⟨hk2, h⟩ := h
  refine jx_callVv (M' := mX0_liveYear) (As := []) jo_X0_liveYear jc_0 rfl jwM_X0_63 jwN_X0_liveYear jwX_X0_liveYear kd22.2.2.2.2.2.2.1 (jRok_m _ _ _) rfl (jle rfl) ⟨jle rfl, jle rfl⟩ hk2 h (fun S3 h => ?_)
  refine jx_iinc 2 (v := (x2 + 1)) (lv1 := [(2, .int (x2 + 1)), (0, .ref a0), (1, .int x1)]) kd22.2.2.2.2.2.2.2.1 rfl rfl (by decide) rfl ?_
  refine jx_goto (tgt := 2) kd22.2.2.2.2.2.2.2.2.1 (by decide) ?_
  exact jx_lv [1, 2, 0] rfl h
/-- X0_countDead at its loop's head 4 -/
abbrev L_X0_countDead_4 (E : jEnv) (d : Nat) (Q : Int32 → jM → Prop) (a0 : Nat) (x1 : Int32) (x2 : Int32) (S : jM) : Prop := jX E mX0_countDead (jRm (d + 1) 0 0) (jZm E (fun r S' => ∃ v : Int32, r = some (.int v) ∧ Q v S') 0 0) 4 [(0, .ref a0), (1, .int x1), (2, .int x2)] [] S 0 0
set_option maxRecDepth 100000 in
set_option maxHeartbeats 4000000 in
theorem T_X0_countDead {E : jEnv} {d : Nat} {Q : Int32 → jM → Prop} {a0 : Nat} {S : jM} (h : L_X0_countDead_4 E d Q a0 0 0 S) : jFi E mX0_countDead (d + 1) 0 0 [.ref a0] S Q := by
  refine jF_of (by decide) (jle rfl) ?_
  refine jx_lv (lv1 := [(0, .ref a0)]) [0] rfl ?_
  refine jx_iconst (v := 0) kd24.1 (by decide) ?_
  refine jx_istore_n (lv1 := [(1, .int 0), (0, .ref a0)]) kd24.2.1 rfl (by decide) rfl ?_
  refine jx_iconst (v := 0) kd24.2.2.1 (by decide) ?_
  refine jx_istore_n (lv1 := [(2, .int 0), (1, .int 0), (0, .ref a0)]) kd24.2.2.2.1 rfl (by decide) rfl ?_
  exact jx_lv [2, 1, 0] rfl h
set_option maxRecDepth 100000 in
set_option maxHeartbeats 4000000 in
theorem T_X0_countDead_4 {E : jEnv} {d : Nat} {Q : Int32 → jM → Prop} {a0 : Nat} {x1 : Int32} {x2 : Int32} {S : jM} (h : jk S a0 = 0 ∧ ((ji S a0 1) ≤ x2 → Q x1 S) ∧ (¬ (ji S a0 1) ≤ x2 → jFr E mX0_find d 0 0 [.ref a0, .int x2] S (fun o4 S3 => (o4 = none → L_X0_countDead_4 E d Q a0 (x1 + 0) (x2 + 1) S3) ∧ (∀ b5, o4 = some b5 → jk S3 b5 = 2 ∧ ((ji S3 b5 6) = 0 → L_X0_countDead_4 E d Q a0 (x1 + 0) (x2 + 1) S3) ∧ (¬ (ji S3 b5 6) = 0 → L_X0_countDead_4 E d Q a0 (x1 + 1) (x2 + 1) S3))))) : L_X0_countDead_4 E d Q a0 x1 x2 S := by
  show jX E mX0_countDead (jRm (d + 1) 0 0) (jZm E (fun r S' => ∃ v : Int32, r = some (.int v) ∧ Q v S') 0 0) 4 [(0, .ref a0), (1, .int x1), (2, .int x2)] [] S 0 0
  refine jx_iload_n 2 kd24.2.2.2.2.1 rfl rfl ?_
  refine jx_aload_n 0 kd24.2.2.2.2.2.1 rfl rfl ?_
  obtain ⟨hk1, h⟩ := h
  refine jx_geti jc_0 (j := 1) (by decide) rfl jwF_X0_22 kd24.2.2.2.2.2.2.1 hk1 ?_
  refine jx_icmp_ge (tgt := 43) kd24.2.2.2.2.2.2.2.1 (by decide) (fun c2 => ?_) (fun c2 => ?_)
  · replace h := h.1 c2
    refine jx_iload_n 1 kd26.2.2.2.2.2.2.2.1 rfl rfl ?_
    exact jx_iret kd26.2.2.2.2.2.2.2.2.1 rfl rfl (jle rfl) (jle rfl) ⟨_, rfl, h⟩
  replace h := h.2 c2
  refine jx_aload_n 0 kd24.2.2.2.2.2.2.2.2.1 rfl rfl ?_
  refine jx_iload_n 2 kd25.1 rfl rfl ?_
  refine jx_callVr (M' := mX0_find) (As := [.int x2]) jo_X0_find jc_0 rfl jwM_X0_46 jwN_X0_find jwX_X0_find kd25.2.1 (jRok_m _ _ _) rfl (jle rfl) ⟨jle rfl, jle rfl⟩ hk1 h (fun o4 S3 h => ?_)
  rcases o4 with _ | b5
  · replace h := h.1 rfl
    refine jx_astore_nN (lv1 := [(3, .null), (0, .ref a0), (1, .int x1), (2, .int x2)]) kd25.2.2.1 rfl (by decide) rfl ?_
    refine jx_iload_n 2 kd25.2.2.2.1 rfl rfl ?_
    refine jx_aload_nN 0 kd25.2.2.2.2.1 rfl rfl ?_
    refine jx_ifnullN (tgt := 34) kd25.2.2.2.2.2.1 (by decide) ?_
    refine jx_iconst (v := 0) kd26.2.2.1 (by decide) ?_
    refine jx_iadd kd26.2.2.2.1 ?_
    refine jx_istore_n (lv1 := [(1, .int (x1 + 0)), (3, .null), (0, .ref a0), (2, .int x2)]) kd26.2.2.2.2.1 rfl (by decide) rfl ?_
    refine jx_iinc 3 (v := (x2 + 1)) (lv1 := [(2, .int (x2 + 1)), (1, .int (x1 + 0)), (3, .null), (0, .ref a0)]) kd26.2.2.2.2.2.1 rfl rfl (by decide) rfl ?_
    refine jx_goto (tgt := 4) kd26.2.2.2.2.2.2.1 (by decide) ?_
    exact jx_lv [3, 1, 0] rfl h
  replace h := h.2 b5 rfl
  refine jx_astore_n (lv1 := [(3, .ref b5), (0, .ref a0), (1, .int x1), (2, .int x2)]) kd25.2.2.1 rfl (by decide) rfl ?_
  refine jx_iload_n 2 kd25.2.2.2.1 rfl rfl ?_
  refine jx_aload_n 0 kd25.2.2.2.2.1 rfl rfl ?_
  refine jx_ifnull kd25.2.2.2.2.2.1 ?_
  refine jx_aload_n 0 kd25.2.2.2.2.2.2.1 rfl rfl ?_
  obtain ⟨hk6, h⟩ := h
  refine jx_geti jc_2 (j := 6) (by decide) rfl jwF_X0_50 kd25.2.2.2.2.2.2.2.1 hk6 ?_
  refine jx_if_eq (tgt := 34) kd25.2.2.2.2.2.2.2.2.1 (by decide) (fun c7 => ?_) (fun c7 => ?_)
  · replace h := h.1 c7
    refine jx_iconst (v := 0) kd26.2.2.1 (by decide) ?_
    refine jx_iadd kd26.2.2.2.1 ?_
    refine jx_istore_n (lv1 := [(1, .int (x1 + 0)), (3, .ref b5), (0, .ref a0), (2, .int x2)]) kd26.2.2.2.2.1 rfl (by decide) rfl ?_
    refine jx_iinc 3 (v := (x2 + 1)) (lv1 := [(2, .int (x2 + 1)), (1, .int (x1 + 0)), (3, .ref b5), (0, .ref a0)]) kd26.2.2.2.2.2.1 rfl rfl (by decide) rfl ?_
    refine jx_goto (tgt := 4) kd26.2.2.2.2.2.2.1 (by decide) ?_
    exact jx_lv [3, 1, 0] rfl h
  replace h := h.2 c7
  refine jx_iconst (v := 1) kd26.1 (by decide) ?_
  refine jx_goto (tgt := 35) kd26.2.1 (by decide) ?_
  refine jx_iadd kd26.2.2.2.1 ?_
  refine jx_istore_n (lv1 := [(1, .int (x1 + 1)), (3, .ref b5), (0, .ref a0), (2, .int x2)]) kd26.2.2.2.2.1 rfl (by decide) rfl ?_
  refine jx_iinc 3 (v := (x2 + 1)) (lv1 := [(2, .int (x2 + 1)), (1, .int (x1 + 1)), (3, .ref b5), (0, .ref a0)]) kd26.2.2.2.2.2.1 rfl rfl (by decide) rfl ?_
  refine jx_goto (tgt := 4) kd26.2.2.2.2.2.2.1 (by decide) ?_
  exact jx_lv [3, 1, 0] rfl h
/-- X0_agesTogether at its loop's head 4 -/
abbrev L_X0_agesTogether_4 (E : jEnv) (d : Nat) (Q : Int32 → jM → Prop) (a0 : Nat) (x1 : Int32) (x2 : Int32) (S : jM) : Prop := jX E mX0_agesTogether (jRm (d + 1) 0 0) (jZm E (fun r S' => ∃ v : Int32, r = some (.int v) ∧ Q v S') 0 0) 4 [(0, .ref a0), (1, .int x1), (2, .int x2)] [] S 0 0
set_option maxRecDepth 100000 in
set_option maxHeartbeats 4000000 in
theorem T_X0_agesTogether {E : jEnv} {d : Nat} {Q : Int32 → jM → Prop} {a0 : Nat} {S : jM} (h : L_X0_agesTogether_4 E d Q a0 0 0 S) : jFi E mX0_agesTogether (d + 1) 0 0 [.ref a0] S Q := by
  refine jF_of (by decide) (jle rfl) ?_
  refine jx_lv (lv1 := [(0, .ref a0)]) [0] rfl ?_
  refine jx_iconst (v := 0) kd27.1 (by decide) ?_
  refine jx_istore_n (lv1 := [(1, .int 0), (0, .ref a0)]) kd27.2.1 rfl (by decide) rfl ?_
  refine jx_iconst (v := 0) kd27.2.2.1 (by decide) ?_
  refine jx_istore_n (lv1 := [(2, .int 0), (1, .int 0), (0, .ref a0)]) kd27.2.2.2.1 rfl (by decide) rfl ?_
  exact jx_lv [2, 1, 0] rfl h
set_option maxRecDepth 100000 in
set_option maxHeartbeats 4000000 in
theorem T_X0_agesTogether_4 {E : jEnv} {d : Nat} {Q : Int32 → jM → Prop} {a0 : Nat} {x1 : Int32} {x2 : Int32} {S : jM} (h : jk S a0 = 0 ∧ ((ji S a0 1) ≤ x2 → Q x1 S) ∧ (¬ (ji S a0 1) ≤ x2 → jFr E mX0_find d 0 0 [.ref a0, .int x2] S (fun o4 S3 => (o4 = none → L_X0_agesTogether_4 E d Q a0 (x1 + 0) (x2 + 1) S3) ∧ (∀ b5, o4 = some b5 → jk S3 b5 = 2 ∧ L_X0_agesTogether_4 E d Q a0 (x1 + (ji S3 b5 5)) (x2 + 1) S3)))) : L_X0_agesTogether_4 E d Q a0 x1 x2 S := by
  show jX E mX0_agesTogether (jRm (d + 1) 0 0) (jZm E (fun r S' => ∃ v : Int32, r = some (.int v) ∧ Q v S') 0 0) 4 [(0, .ref a0), (1, .int x1), (2, .int x2)] [] S 0 0
  refine jx_iload_n 2 kd27.2.2.2.2.1 rfl rfl ?_
  refine jx_aload_n 0 kd27.2.2.2.2.2.1 rfl rfl ?_
  obtain ⟨hk1, h⟩ := h
  refine jx_geti jc_0 (j := 1) (by decide) rfl jwF_X0_22 kd27.2.2.2.2.2.2.1 hk1 ?_
  refine jx_icmp_ge (tgt := 39) kd27.2.2.2.2.2.2.2.1 (by decide) (fun c2 => ?_) (fun c2 => ?_)
  · replace h := h.1 c2
    refine jx_iload_n 1 kd29.2.2.2.2.2.1 rfl rfl ?_
    exact jx_iret kd29.2.2.2.2.2.2.1 rfl rfl (jle rfl) (jle rfl) ⟨_, rfl, h⟩
  replace h := h.2 c2
  refine jx_aload_n 0 kd27.2.2.2.2.2.2.2.2.1 rfl rfl ?_
  refine jx_iload_n 2 kd28.1 rfl rfl ?_
  refine jx_callVr (M' := mX0_find) (As := [.int x2]) jo_X0_find jc_0 rfl jwM_X0_46 jwN_X0_find jwX_X0_find kd28.2.1 (jRok_m _ _ _) rfl (jle rfl) ⟨jle rfl, jle rfl⟩ hk1 h (fun o4 S3 h => ?_)
  rcases o4 with _ | b5
  · replace h := h.1 rfl
    refine jx_astore_nN (lv1 := [(3, .null), (0, .ref a0), (1, .int x1), (2, .int x2)]) kd28.2.2.1 rfl (by decide) rfl ?_
    refine jx_iload_n 2 kd28.2.2.2.1 rfl rfl ?_
    refine jx_aload_nN 0 kd28.2.2.2.2.1 rfl rfl ?_
    refine jx_ifnonnullN kd28.2.2.2.2.2.1 ?_
    refine jx_iconst (v := 0) kd28.2.2.2.2.2.2.1 (by decide) ?_
    refine jx_goto (tgt := 31) kd28.2.2.2.2.2.2.2.1 (by decide) ?_
    refine jx_iadd kd29.2.1 ?_
    refine jx_istore_n (lv1 := [(1, .int (x1 + 0)), (3, .null), (0, .ref a0), (2, .int x2)]) kd29.2.2.1 rfl (by decide) rfl ?_
    refine jx_iinc 3 (v := (x2 + 1)) (lv1 := [(2, .int (x2 + 1)), (1, .int (x1 + 0)), (3, .null), (0, .ref a0)]) kd29.2.2.2.1 rfl rfl (by decide) rfl ?_
    refine jx_goto (tgt := 4) kd29.2.2.2.2.1 (by decide) ?_
    exact jx_lv [3, 1, 0] rfl h
  replace h := h.2 b5 rfl
  refine jx_astore_n (lv1 := [(3, .ref b5), (0, .ref a0), (1, .int x1), (2, .int x2)]) kd28.2.2.1 rfl (by decide) rfl ?_
  refine jx_iload_n 2 kd28.2.2.2.1 rfl rfl ?_
  refine jx_aload_n 0 kd28.2.2.2.2.1 rfl rfl ?_
  refine jx_ifnonnull (tgt := 27) kd28.2.2.2.2.2.1 (by decide) ?_
  refine jx_aload_n 0 kd28.2.2.2.2.2.2.2.2.1 rfl rfl ?_
  obtain ⟨hk6, h⟩ := h
  refine jx_geti jc_2 (j := 5) (by decide) rfl jwF_X0_54 kd29.1 hk6 ?_
  refine jx_iadd kd29.2.1 ?_
  refine jx_istore_n (lv1 := [(1, .int (x1 + (ji S3 b5 5))), (3, .ref b5), (0, .ref a0), (2, .int x2)]) kd29.2.2.1 rfl (by decide) rfl ?_
  refine jx_iinc 3 (v := (x2 + 1)) (lv1 := [(2, .int (x2 + 1)), (1, .int (x1 + (ji S3 b5 5))), (3, .ref b5), (0, .ref a0)]) kd29.2.2.2.1 rfl rfl (by decide) rfl ?_
  refine jx_goto (tgt := 4) kd29.2.2.2.2.1 (by decide) ?_
  exact jx_lv [3, 1, 0] rfl h
/-- X0_taught at its loop's head 4 -/
abbrev L_X0_taught_4 (E : jEnv) (d : Nat) (Q : Int32 → jM → Prop) (a0 : Nat) (x1 : Int32) (x2 : Int32) (S : jM) : Prop := jX E mX0_taught (jRm (d + 1) 0 0) (jZm E (fun r S' => ∃ v : Int32, r = some (.int v) ∧ Q v S') 0 0) 4 [(0, .ref a0), (1, .int x1), (2, .int x2)] [] S 0 0
set_option maxRecDepth 100000 in
set_option maxHeartbeats 4000000 in
theorem T_X0_taught {E : jEnv} {d : Nat} {Q : Int32 → jM → Prop} {a0 : Nat} {S : jM} (h : L_X0_taught_4 E d Q a0 0 0 S) : jFi E mX0_taught (d + 1) 0 0 [.ref a0] S Q := by
  refine jF_of (by decide) (jle rfl) ?_
  refine jx_lv (lv1 := [(0, .ref a0)]) [0] rfl ?_
  refine jx_iconst (v := 0) kd30.1 (by decide) ?_
  refine jx_istore_n (lv1 := [(1, .int 0), (0, .ref a0)]) kd30.2.1 rfl (by decide) rfl ?_
  refine jx_iconst (v := 0) kd30.2.2.1 (by decide) ?_
  refine jx_istore_n (lv1 := [(2, .int 0), (1, .int 0), (0, .ref a0)]) kd30.2.2.2.1 rfl (by decide) rfl ?_
  exact jx_lv [2, 1, 0] rfl h
set_option maxRecDepth 100000 in
set_option maxHeartbeats 4000000 in
theorem T_X0_taught_4 {E : jEnv} {d : Nat} {Q : Int32 → jM → Prop} {a0 : Nat} {x1 : Int32} {x2 : Int32} {S : jM} (h : jk S a0 = 0 ∧ ((ji S a0 1) ≤ x2 → Q x1 S) ∧ (¬ (ji S a0 1) ≤ x2 → jFr E mX0_find d 0 0 [.ref a0, .int x2] S (fun o4 S3 => (o4 = none → L_X0_taught_4 E d Q a0 (x1 ||| 0) (x2 + 1) S3) ∧ (∀ b5, o4 = some b5 → jk S3 b5 = 2 ∧ ((ji S3 b5 6) = 0 → L_X0_taught_4 E d Q a0 (x1 ||| (jshl 1 (ji S3 b5 2))) (x2 + 1) S3) ∧ (¬ (ji S3 b5 6) = 0 → L_X0_taught_4 E d Q a0 (x1 ||| 0) (x2 + 1) S3))))) : L_X0_taught_4 E d Q a0 x1 x2 S := by
  show jX E mX0_taught (jRm (d + 1) 0 0) (jZm E (fun r S' => ∃ v : Int32, r = some (.int v) ∧ Q v S') 0 0) 4 [(0, .ref a0), (1, .int x1), (2, .int x2)] [] S 0 0
  refine jx_iload_n 2 kd30.2.2.2.2.1 rfl rfl ?_
  refine jx_aload_n 0 kd30.2.2.2.2.2.1 rfl rfl ?_
  obtain ⟨hk1, h⟩ := h
  refine jx_geti jc_0 (j := 1) (by decide) rfl jwF_X0_22 kd30.2.2.2.2.2.2.1 hk1 ?_
  refine jx_icmp_ge (tgt := 48) kd30.2.2.2.2.2.2.2.1 (by decide) (fun c2 => ?_) (fun c2 => ?_)
  · replace h := h.1 c2
    refine jx_iload_n 1 kd33.2.1 rfl rfl ?_
    exact jx_iret kd33.2.2.1 rfl rfl (jle rfl) (jle rfl) ⟨_, rfl, h⟩
  replace h := h.2 c2
  refine jx_aload_n 0 kd30.2.2.2.2.2.2.2.2.1 rfl rfl ?_
  refine jx_iload_n 2 kd31.1 rfl rfl ?_
  refine jx_callVr (M' := mX0_find) (As := [.int x2]) jo_X0_find jc_0 rfl jwM_X0_46 jwN_X0_find jwX_X0_find kd31.2.1 (jRok_m _ _ _) rfl (jle rfl) ⟨jle rfl, jle rfl⟩ hk1 h (fun o4 S3 h => ?_)
  rcases o4 with _ | b5
  · replace h := h.1 rfl
    refine jx_astore_nN (lv1 := [(3, .null), (0, .ref a0), (1, .int x1), (2, .int x2)]) kd31.2.2.1 rfl (by decide) rfl ?_
    refine jx_iload_n 2 kd31.2.2.2.1 rfl rfl ?_
    refine jx_aload_nN 0 kd31.2.2.2.2.1 rfl rfl ?_
    refine jx_ifnullN (tgt := 30) kd31.2.2.2.2.2.1 (by decide) ?_
    refine jx_iconst (v := 0) kd32.1 (by decide) ?_
    refine jx_goto (tgt := 40) kd32.2.1 (by decide) ?_
    refine jx_ior kd32.2.2.2.2.2.2.1 ?_
    refine jx_istore_n (lv1 := [(1, .int (x1 ||| 0)), (3, .null), (0, .ref a0), (2, .int x2)]) kd32.2.2.2.2.2.2.2.1 rfl (by decide) rfl ?_
    refine jx_iinc 3 (v := (x2 + 1)) (lv1 := [(2, .int (x2 + 1)), (1, .int (x1 ||| 0)), (3, .null), (0, .ref a0)]) kd32.2.2.2.2.2.2.2.2.1 rfl rfl (by decide) rfl ?_
    refine jx_goto (tgt := 4) kd33.1 (by decide) ?_
    exact jx_lv [3, 1, 0] rfl h
  replace h := h.2 b5 rfl
  refine jx_astore_n (lv1 := [(3, .ref b5), (0, .ref a0), (1, .int x1), (2, .int x2)]) kd31.2.2.1 rfl (by decide) rfl ?_
  refine jx_iload_n 2 kd31.2.2.2.1 rfl rfl ?_
  refine jx_aload_n 0 kd31.2.2.2.2.1 rfl rfl ?_
  refine jx_ifnull kd31.2.2.2.2.2.1 ?_
  refine jx_aload_n 0 kd31.2.2.2.2.2.2.1 rfl rfl ?_
  obtain ⟨hk6, h⟩ := h
  refine jx_geti jc_2 (j := 6) (by decide) rfl jwF_X0_50 kd31.2.2.2.2.2.2.2.1 hk6 ?_
  refine jx_if_eq (tgt := 34) kd31.2.2.2.2.2.2.2.2.1 (by decide) (fun c7 => ?_) (fun c7 => ?_)
  · replace h := h.1 c7
    refine jx_iconst (v := 1) kd32.2.2.1 (by decide) ?_
    refine jx_aload_n 0 kd32.2.2.2.1 rfl rfl ?_
    refine jx_geti jc_2 (j := 2) (by decide) rfl jwF_X0_66 kd32.2.2.2.2.1 hk6 ?_
    refine jx_ishl kd32.2.2.2.2.2.1 ?_
    refine jx_ior kd32.2.2.2.2.2.2.1 ?_
    refine jx_istore_n (lv1 := [(1, .int (x1 ||| (jshl 1 (ji S3 b5 2)))), (3, .ref b5), (0, .ref a0), (2, .int x2)]) kd32.2.2.2.2.2.2.2.1 rfl (by decide) rfl ?_
    refine jx_iinc 3 (v := (x2 + 1)) (lv1 := [(2, .int (x2 + 1)), (1, .int (x1 ||| (jshl 1 (ji S3 b5 2)))), (3, .ref b5), (0, .ref a0)]) kd32.2.2.2.2.2.2.2.2.1 rfl rfl (by decide) rfl ?_
    refine jx_goto (tgt := 4) kd33.1 (by decide) ?_
    exact jx_lv [3, 1, 0] rfl h
  replace h := h.2 c7
  refine jx_iconst (v := 0) kd32.1 (by decide) ?_
  refine jx_goto (tgt := 40) kd32.2.1 (by decide) ?_
  refine jx_ior kd32.2.2.2.2.2.2.1 ?_
  refine jx_istore_n (lv1 := [(1, .int (x1 ||| 0)), (3, .ref b5), (0, .ref a0), (2, .int x2)]) kd32.2.2.2.2.2.2.2.1 rfl (by decide) rfl ?_
  refine jx_iinc 3 (v := (x2 + 1)) (lv1 := [(2, .int (x2 + 1)), (1, .int (x1 ||| 0)), (3, .ref b5), (0, .ref a0)]) kd32.2.2.2.2.2.2.2.2.1 rfl rfl (by decide) rfl ?_
  refine jx_goto (tgt := 4) kd33.1 (by decide) ?_
  exact jx_lv [3, 1, 0] rfl h
/-- X0_onlyTeacher at its loop's head 5 -/
abbrev L_X0_onlyTeacher_5 (E : jEnv) (d : Nat) (Q : Int32 → jM → Prop) (a0 : Nat) (x1 : Int32) (x2 : Int32) (x3 : Int32) (S : jM) : Prop := jX E mX0_onlyTeacher (jRm (d + 1) 0 0) (jZm E (fun r S' => ∃ v : Int32, r = some (.int v) ∧ Q v S') 0 0) 5 [(0, .ref a0), (1, .int x1), (2, .int x2), (3, .int x3)] [] S 0 0
set_option maxRecDepth 100000 in
set_option maxHeartbeats 4000000 in
theorem T_X0_onlyTeacher {E : jEnv} {d : Nat} {Q : Int32 → jM → Prop} {a0 : Nat} {x1 : Int32} {S : jM} (h : L_X0_onlyTeacher_5 E d Q a0 x1 (-1000000005) 0 S) : jFi E mX0_onlyTeacher (d + 1) 0 0 [.ref a0, .int x1] S Q := by
  refine jF_of (by decide) (jle rfl) ?_
  refine jx_lv (lv1 := [(0, .ref a0), (1, .int x1)]) [0, 1] rfl ?_
  refine jx_ldc jwC_X0_69 kd34.1 ?_
  refine jx_istore_n (lv1 := [(2, .int (-1000000005)), (0, .ref a0), (1, .int x1)]) kd34.2.1 rfl (by decide) rfl ?_
  refine jx_iconst (v := 0) kd34.2.2.1 (by decide) ?_
  refine jx_istore_n (lv1 := [(3, .int 0), (2, .int (-1000000005)), (0, .ref a0), (1, .int x1)]) kd34.2.2.2.1 rfl (by decide) rfl ?_
  exact jx_lv [2, 3, 1, 0] rfl h
set_option maxRecDepth 100000 in
set_option maxHeartbeats 4000000 in
theorem T_X0_onlyTeacher_5 {E : jEnv} {d : Nat} {Q : Int32 → jM → Prop} {a0 : Nat} {x1 : Int32} {x2 : Int32} {x3 : Int32} {S : jM} (h : jk S a0 = 0 ∧ ((ji S a0 1) ≤ x3 → Q x2 S) ∧ (¬ (ji S a0 1) ≤ x3 → jFr E mX0_find d 0 0 [.ref a0, .int x3] S (fun o4 S3 => (o4 = none → L_X0_onlyTeacher_5 E d Q a0 x1 x2 (x3 + 1) S3) ∧ (∀ b5, o4 = some b5 → jk S3 b5 = 2 ∧ ((ji S3 b5 6) = 0 → ((ji S3 b5 2) = x1 → (x2 = (-1000000005) → L_X0_onlyTeacher_5 E d Q a0 x1 x3 (x3 + 1) S3) ∧ (¬ x2 = (-1000000005) → Q (-1000000005) S3)) ∧ (¬ (ji S3 b5 2) = x1 → L_X0_onlyTeacher_5 E d Q a0 x1 x2 (x3 + 1) S3)) ∧ (¬ (ji S3 b5 6) = 0 → L_X0_onlyTeacher_5 E d Q a0 x1 x2 (x3 + 1) S3))))) : L_X0_onlyTeacher_5 E d Q a0 x1 x2 x3 S := by
  show jX E mX0_onlyTeacher (jRm (d + 1) 0 0) (jZm E (fun r S' => ∃ v : Int32, r = some (.int v) ∧ Q v S') 0 0) 5 [(0, .ref a0), (1, .int x1), (2, .int x2), (3, .int x3)] [] S 0 0
  refine jx_iload_n 3 kd34.2.2.2.2.1 rfl rfl ?_
  refine jx_aload_n 0 kd34.2.2.2.2.2.1 rfl rfl ?_
  obtain ⟨hk1, h⟩ := h
  refine jx_geti jc_0 (j := 1) (by decide) rfl jwF_X0_22 kd34.2.2.2.2.2.2.1 hk1 ?_
  refine jx_icmp_ge (tgt := 59) kd34.2.2.2.2.2.2.2.1 (by decide) (fun c2 => ?_) (fun c2 => ?_)
  · replace h := h.1 c2
    refine jx_iload_n 2 kd37.2.2.2.1 rfl rfl ?_
    exact jx_iret kd37.2.2.2.2.1 rfl rfl (jle rfl) (jle rfl) ⟨_, rfl, h⟩
  replace h := h.2 c2
  refine jx_aload_n 0 kd34.2.2.2.2.2.2.2.2.1 rfl rfl ?_
  refine jx_iload_n 3 kd35.1 rfl rfl ?_
  refine jx_callVr (M' := mX0_find) (As := [.int x3]) jo_X0_find jc_0 rfl jwM_X0_46 jwN_X0_find jwX_X0_find kd35.2.1 (jRok_m _ _ _) rfl (jle rfl) ⟨jle rfl, jle rfl⟩ hk1 h (fun o4 S3 h => ?_)
  rcases o4 with _ | b5
  · replace h := h.1 rfl
    refine jx_astoreN (lv1 := [(4, .null), (0, .ref a0), (1, .int x1), (2, .int x2), (3, .int x3)]) kd35.2.2.1 (by decide) rfl ?_
    refine jx_aloadN 0 kd35.2.2.2.1 rfl ?_
    refine jx_ifnullN (tgt := 53) kd35.2.2.2.2.1 (by decide) ?_
    refine jx_iinc 4 (v := (x3 + 1)) (lv1 := [(3, .int (x3 + 1)), (4, .null), (0, .ref a0), (1, .int x1), (2, .int x2)]) kd37.2.1 rfl rfl (by decide) rfl ?_
    refine jx_goto (tgt := 5) kd37.2.2.1 (by decide) ?_
    exact jx_lv [2, 3, 4, 0] rfl h
  replace h := h.2 b5 rfl
  refine jx_astore (lv1 := [(4, .ref b5), (0, .ref a0), (1, .int x1), (2, .int x2), (3, .int x3)]) kd35.2.2.1 (by decide) rfl ?_
  refine jx_aload 0 kd35.2.2.2.1 rfl ?_
  refine jx_ifnull kd35.2.2.2.2.1 ?_
  refine jx_aload 0 kd35.2.2.2.2.2.1 rfl ?_
  obtain ⟨hk6, h⟩ := h
  refine jx_geti jc_2 (j := 6) (by decide) rfl jwF_X0_50 kd35.2.2.2.2.2.2.1 hk6 ?_
  refine jx_if_ne (tgt := 53) kd35.2.2.2.2.2.2.2.1 (by decide) (fun c7 => ?_) (fun c7 => ?_)
  · replace h := h.2 c7
    refine jx_iinc 4 (v := (x3 + 1)) (lv1 := [(3, .int (x3 + 1)), (4, .ref b5), (0, .ref a0), (1, .int x1), (2, .int x2)]) kd37.2.1 rfl rfl (by decide) rfl ?_
    refine jx_goto (tgt := 5) kd37.2.2.1 (by decide) ?_
    exact jx_lv [2, 3, 4, 0] rfl h
  replace h := h.1 c7
  refine jx_aload 0 kd35.2.2.2.2.2.2.2.2.1 rfl ?_
  refine jx_geti jc_2 (j := 2) (by decide) rfl jwF_X0_66 kd36.1 hk6 ?_
  refine jx_iload_n 2 kd36.2.1 rfl rfl ?_
  refine jx_icmp_ne (tgt := 53) kd36.2.2.1 (by decide) (fun c8 => ?_) (fun c8 => ?_)
  · replace h := h.2 c8
    refine jx_iinc 4 (v := (x3 + 1)) (lv1 := [(3, .int (x3 + 1)), (4, .ref b5), (0, .ref a0), (1, .int x1), (2, .int x2)]) kd37.2.1 rfl rfl (by decide) rfl ?_
    refine jx_goto (tgt := 5) kd37.2.2.1 (by decide) ?_
    exact jx_lv [2, 3, 4, 0] rfl h
  replace h := h.1 c8
  refine jx_iload_n 3 kd36.2.2.2.1 rfl rfl ?_
  refine jx_ldc jwC_X0_69 kd36.2.2.2.2.1 ?_
  refine jx_icmp_eq (tgt := 51) kd36.2.2.2.2.2.1 (by decide) (fun c9 => ?_) (fun c9 => ?_)
  · replace h := h.1 c9
    refine jx_iload_n 4 kd36.2.2.2.2.2.2.2.2.1 rfl rfl ?_
    refine jx_istore_n (lv1 := [(2, .int x3), (4, .ref b5), (0, .ref a0), (1, .int x1), (3, .int x3)]) kd37.1 rfl (by decide) rfl ?_
    refine jx_iinc 4 (v := (x3 + 1)) (lv1 := [(3, .int (x3 + 1)), (2, .int x3), (4, .ref b5), (0, .ref a0), (1, .int x1)]) kd37.2.1 rfl rfl (by decide) rfl ?_
    refine jx_goto (tgt := 5) kd37.2.2.1 (by decide) ?_
    exact jx_lv [3, 4, 1, 0] rfl h
  replace h := h.2 c9
  refine jx_ldc jwC_X0_69 kd36.2.2.2.2.2.2.1 ?_
  exact jx_iret kd36.2.2.2.2.2.2.2.1 rfl rfl (jle rfl) (jle rfl) ⟨_, rfl, h⟩
set_option maxRecDepth 100000 in
set_option maxHeartbeats 4000000 in
theorem T_X0_canBringTogether {E : jEnv} {d : Nat} {Q : Int32 → jM → Prop} {a0 : Nat} {x1 : Int32} {S : jM} (h : jFi E mX0_leadsTo d 0 0 [.ref a0, .int 0, .int x1] S (fun r2 S1 => (r2 = 0 ∨ r2 = 1) ∧ Q r2 S1)) : jFi E mX0_canBringTogether (d + 1) 0 0 [.ref a0, .int x1] S Q := by
  refine jF_of (by decide) (jle rfl) ?_
  refine jx_lv (lv1 := [(0, .ref a0), (1, .int x1)]) [0, 1] rfl ?_
  refine jx_aload_n 0 kd38.1 rfl rfl ?_
  refine jx_iconst (v := 0) kd38.2.1 (by decide) ?_
  refine jx_iload_n 1 kd38.2.2.1 rfl rfl ?_
  refine jx_callSi (M' := mX0_leadsTo) (As := [.ref a0, .int 0, .int x1]) jo_X0_leadsTo jwM_X0_70 jwS_X0_leadsTo kd38.2.2.2.1 (jRok_m _ _ _) rfl (jle rfl) ⟨jle rfl, jle rfl⟩ h (fun r2 S1 h => ?_)
  obtain ⟨hb3, h⟩ := h
  exact jx_iret kd38.2.2.2.2.1 rfl (jb_nar hb3) (jle rfl) (jle rfl) ⟨_, rfl, h⟩
/-- X0_leadsTo at its loop's head 23 -/
abbrev L_X0_leadsTo_23 (E : jEnv) (d : Nat) (Q : Int32 → jM → Prop) (a0 : Nat) (x1 : Int32) (x2 : Int32) (x3 : Int32) (S : jM) : Prop := jX E mX0_leadsTo (jRm (d + 1) 0 0) (jZm E (fun r S' => ∃ v : Int32, r = some (.int v) ∧ Q v S') 0 0) 23 [(0, .ref a0), (1, .int x1), (2, .int x2), (3, .int x3)] [] S 0 0
set_option maxRecDepth 100000 in
set_option maxHeartbeats 4000000 in
theorem T_X0_leadsTo {E : jEnv} {d : Nat} {Q : Int32 → jM → Prop} {a0 : Nat} {x1 : Int32} {x2 : Int32} {S : jM} (h : (x1 = x2 → Q 1 S) ∧ (¬ x1 = x2 → ((jbc (x2 &&& (x1 ^^^ (-1)))) ≤ 3 → L_X0_leadsTo_23 E d Q a0 x1 x2 0 S) ∧ (¬ (jbc (x2 &&& (x1 ^^^ (-1)))) ≤ 3 → Q 0 S))) : jFi E mX0_leadsTo (d + 1) 0 0 [.ref a0, .int x1, .int x2] S Q := by
  refine jF_of (by decide) (jle rfl) ?_
  refine jx_lv (lv1 := [(0, .ref a0), (1, .int x1), (2, .int x2)]) [0, 1, 2] rfl ?_
  refine jx_iload_n 1 kd39.1 rfl rfl ?_
  refine jx_iload_n 2 kd39.2.1 rfl rfl ?_
  refine jx_icmp_ne (tgt := 7) kd39.2.2.1 (by decide) (fun c1 => ?_) (fun c1 => ?_)
  · replace h := h.2 c1
    refine jx_iload_n 2 kd39.2.2.2.2.2.1 rfl rfl ?_
    refine jx_iload_n 1 kd39.2.2.2.2.2.2.1 rfl rfl ?_
    refine jx_iconst (v := (-1)) kd39.2.2.2.2.2.2.2.1 (by decide) ?_
    refine jx_ixor kd39.2.2.2.2.2.2.2.2.1 ?_
    refine jx_iand kd40.1 ?_
    refine jx_callSi (M' := mJ6_bitCount_0f7a4) (As := [.int (x2 &&& (x1 ^^^ (-1)))]) jo_J6_bitCount_0f7a4 jwM_X0_74 jwS_J6_bitCount_0f7a4 kd40.2.1 (jRok_m _ _ _) rfl (jle rfl) ⟨jle rfl, jle rfl⟩ (c_J6_bitCount_0f7a4 (Q := fun v S' => v = (jbc (x2 &&& (x1 ^^^ (-1)))) ∧ S = S') ⟨rfl, rfl⟩) (fun r2 S3 hq4 => ?_)
    obtain ⟨rfl, rfl⟩ := hq4
    refine jx_iconst (v := 3) kd40.2.2.1 (by decide) ?_
    refine jx_icmp_le (tgt := 21) kd40.2.2.2.1 (by decide) (fun c5 => ?_) (fun c5 => ?_)
    · replace h := h.1 c5
      refine jx_iconst (v := 0) kd40.2.2.2.2.2.2.1 (by decide) ?_
      refine jx_istore_n (lv1 := [(3, .int 0), (0, .ref a0), (1, .int x1), (2, .int x2)]) kd40.2.2.2.2.2.2.2.1 rfl (by decide) rfl ?_
      exact jx_lv [1, 2, 3, 0] rfl h
    replace h := h.2 c5
    refine jx_iconst (v := 0) kd40.2.2.2.2.1 (by decide) ?_
    exact jx_iret kd40.2.2.2.2.2.1 rfl (by decide) (jle rfl) (jle rfl) ⟨_, rfl, h⟩
  replace h := h.1 c1
  refine jx_iconst (v := 1) kd39.2.2.2.1 (by decide) ?_
  exact jx_iret kd39.2.2.2.2.1 rfl (by decide) (jle rfl) (jle rfl) ⟨_, rfl, h⟩
set_option maxRecDepth 100000 in
set_option maxHeartbeats 4000000 in
theorem T_X0_leadsTo_23 {E : jEnv} {d : Nat} {Q : Int32 → jM → Prop} {a0 : Nat} {x1 : Int32} {x2 : Int32} {x3 : Int32} {S : jM} (h : jk S a0 = 0 ∧ ((ji S a0 1) ≤ x3 → Q 0 S) ∧ (¬ (ji S a0 1) ≤ x3 → jFr E mX0_find d 0 0 [.ref a0, .int x3] S (fun o9 S8 => (o9 = none → L_X0_leadsTo_23 E d Q a0 x1 x2 (x3 + 1) S8) ∧ (∀ b10, o9 = some b10 → jFi E mX0_helps d 0 0 [.ref b10, .int x1, .int x2] S8 (fun r12 S11 => (r12 = 0 → L_X0_leadsTo_23 E d Q a0 x1 x2 (x3 + 1) S11) ∧ (¬ r12 = 0 → jk S11 b10 = 2 ∧ jFi E mX0_leadsTo d 0 0 [.ref a0, .int (x1 ||| (jshl 1 (ji S11 b10 2))), .int x2] S11 (fun r16 S15 => (r16 = 0 → L_X0_leadsTo_23 E d Q a0 x1 x2 (x3 + 1) S15) ∧ (¬ r16 = 0 → Q 1 S15)))))))) : L_X0_leadsTo_23 E d Q a0 x1 x2 x3 S := by
  show jX E mX0_leadsTo (jRm (d + 1) 0 0) (jZm E (fun r S' => ∃ v : Int32, r = some (.int v) ∧ Q v S') 0 0) 23 [(0, .ref a0), (1, .int x1), (2, .int x2), (3, .int x3)] [] S 0 0
  refine jx_iload_n 3 kd40.2.2.2.2.2.2.2.2.1 rfl rfl ?_
  refine jx_aload_n 0 kd41.1 rfl rfl ?_
  obtain ⟨hk6, h⟩ := h
  refine jx_geti jc_0 (j := 1) (by decide) rfl jwF_X0_22 kd41.2.1 hk6 ?_
  refine jx_icmp_ge (tgt := 78) kd41.2.2.1 (by decide) (fun c7 => ?_) (fun c7 => ?_)
  · replace h := h.1 c7
    refine jx_iconst (v := 0) kd44.2.1 (by decide) ?_
    exact jx_iret kd44.2.2.1 rfl (by decide) (jle rfl) (jle rfl) ⟨_, rfl, h⟩
  replace h := h.2 c7
  refine jx_aload_n 0 kd41.2.2.2.1 rfl rfl ?_
  refine jx_iload_n 3 kd41.2.2.2.2.1 rfl rfl ?_
  refine jx_callVr (M' := mX0_find) (As := [.int x3]) jo_X0_find jc_0 rfl jwM_X0_46 jwN_X0_find jwX_X0_find kd41.2.2.2.2.2.1 (jRok_m _ _ _) rfl (jle rfl) ⟨jle rfl, jle rfl⟩ hk6 h (fun o9 S8 h => ?_)
  rcases o9 with _ | b10
  · replace h := h.1 rfl
    refine jx_astoreN (lv1 := [(4, .null), (0, .ref a0), (1, .int x1), (2, .int x2), (3, .int x3)]) kd41.2.2.2.2.2.2.1 (by decide) rfl ?_
    refine jx_aloadN 0 kd41.2.2.2.2.2.2.2.1 rfl ?_
    refine jx_ifnullN (tgt := 72) kd41.2.2.2.2.2.2.2.2.1 (by decide) ?_
    refine jx_iinc 4 (v := (x3 + 1)) (lv1 := [(3, .int (x3 + 1)), (4, .null), (0, .ref a0), (1, .int x1), (2, .int x2)]) kd43.2.2.2.2.2.2.2.2.1 rfl rfl (by decide) rfl ?_
    refine jx_goto (tgt := 23) kd44.1 (by decide) ?_
    exact jx_lv [2, 3, 4, 0] rfl h
  replace h := h.2 b10 rfl
  refine jx_astore (lv1 := [(4, .ref b10), (0, .ref a0), (1, .int x1), (2, .int x2), (3, .int x3)]) kd41.2.2.2.2.2.2.1 (by decide) rfl ?_
  refine jx_aload 0 kd41.2.2.2.2.2.2.2.1 rfl ?_
  refine jx_ifnull kd41.2.2.2.2.2.2.2.2.1 ?_
  refine jx_aload 0 kd42.1 rfl ?_
  refine jx_iload_n 2 kd42.2.1 rfl rfl ?_
  refine jx_iload_n 3 kd42.2.2.1 rfl rfl ?_
  refine jx_callSi (M' := mX0_helps) (As := [.ref b10, .int x1, .int x2]) jo_X0_helps jwM_X0_80 jwS_X0_helps kd42.2.2.2.1 (jRok_m _ _ _) rfl (jle rfl) ⟨jle rfl, jle rfl⟩ h (fun r12 S11 h => ?_)
  refine jx_if_eq (tgt := 72) kd42.2.2.2.2.1 (by decide) (fun c13 => ?_) (fun c13 => ?_)
  · replace h := h.1 c13
    refine jx_iinc 4 (v := (x3 + 1)) (lv1 := [(3, .int (x3 + 1)), (4, .ref b10), (0, .ref a0), (1, .int x1), (2, .int x2)]) kd43.2.2.2.2.2.2.2.2.1 rfl rfl (by decide) rfl ?_
    refine jx_goto (tgt := 23) kd44.1 (by decide) ?_
    exact jx_lv [2, 3, 4, 0] rfl h
  replace h := h.2 c13
  refine jx_aload_n 1 kd42.2.2.2.2.2.1 rfl rfl ?_
  refine jx_iload_n 2 kd42.2.2.2.2.2.2.1 rfl rfl ?_
  refine jx_iconst (v := 1) kd42.2.2.2.2.2.2.2.1 (by decide) ?_
  refine jx_aload 0 kd42.2.2.2.2.2.2.2.2.1 rfl ?_
  obtain ⟨hk14, h⟩ := h
  refine jx_geti jc_2 (j := 2) (by decide) rfl jwF_X0_66 kd43.1 hk14 ?_
  refine jx_ishl kd43.2.1 ?_
  refine jx_ior kd43.2.2.1 ?_
  refine jx_iload_n 3 kd43.2.2.2.1 rfl rfl ?_
  refine jx_callSi (M' := mX0_leadsTo) (As := [.ref a0, .int (x1 ||| (jshl 1 (ji S11 b10 2))), .int x2]) jo_X0_leadsTo jwM_X0_70 jwS_X0_leadsTo kd43.2.2.2.2.1 (jRok_m _ _ _) rfl (jle rfl) ⟨jle rfl, jle rfl⟩ h (fun r16 S15 h => ?_)
  refine jx_if_eq (tgt := 72) kd43.2.2.2.2.2.1 (by decide) (fun c17 => ?_) (fun c17 => ?_)
  · replace h := h.1 c17
    refine jx_iinc 4 (v := (x3 + 1)) (lv1 := [(3, .int (x3 + 1)), (4, .ref b10), (0, .ref a0), (1, .int x1), (2, .int x2)]) kd43.2.2.2.2.2.2.2.2.1 rfl rfl (by decide) rfl ?_
    refine jx_goto (tgt := 23) kd44.1 (by decide) ?_
    exact jx_lv [2, 3, 4, 0] rfl h
  replace h := h.2 c17
  refine jx_iconst (v := 1) kd43.2.2.2.2.2.2.1 (by decide) ?_
  exact jx_iret kd43.2.2.2.2.2.2.2.1 rfl (by decide) (jle rfl) (jle rfl) ⟨_, rfl, h⟩
set_option maxRecDepth 100000 in
set_option maxHeartbeats 4000000 in
theorem T_X0_helps {E : jEnv} {d : Nat} {Q : Int32 → jM → Prop} {a0 : Nat} {x1 : Int32} {x2 : Int32} {S : jM} (h : jk S a0 = 2 ∧ (((x2 &&& (x1 ^^^ (-1))) &&& (jshl 1 (ji S a0 2))) = 0 → Q 0 S) ∧ (¬ ((x2 &&& (x1 ^^^ (-1))) &&& (jshl 1 (ji S a0 2))) = 0 → ((ji S a0 6) = 0 → jFi E mX2_teaches d 0 0 [.ref a0, .int x1] S (fun r5 S4 => (r5 = 0 → Q 0 S4) ∧ (¬ r5 = 0 → jk S4 a0 = 2 ∧ jFi E mX2_unlearnt d 0 0 [.ref a0] S4 (fun r9 S8 => ((r9 &&& x1) = 0 → Q 1 S8) ∧ (¬ (r9 &&& x1) = 0 → Q 0 S8))))) ∧ (¬ (ji S a0 6) = 0 → Q 0 S))) : jFi E mX0_helps (d + 1) 0 0 [.ref a0, .int x1, .int x2] S Q := by
  refine jF_of (by decide) (jle rfl) ?_
  refine jx_lv (lv1 := [(0, .ref a0), (1, .int x1), (2, .int x2)]) [0, 1, 2] rfl ?_
  refine jx_iload_n 2 kd45.1 rfl rfl ?_
  refine jx_iload_n 1 kd45.2.1 rfl rfl ?_
  refine jx_iconst (v := (-1)) kd45.2.2.1 (by decide) ?_
  refine jx_ixor kd45.2.2.2.1 ?_
  refine jx_iand kd45.2.2.2.2.1 ?_
  refine jx_iconst (v := 1) kd45.2.2.2.2.2.1 (by decide) ?_
  refine jx_aload_n 0 kd45.2.2.2.2.2.2.1 rfl rfl ?_
  obtain ⟨hk1, h⟩ := h
  refine jx_geti jc_2 (j := 2) (by decide) rfl jwF_X0_66 kd45.2.2.2.2.2.2.2.1 hk1 ?_
  refine jx_ishl kd45.2.2.2.2.2.2.2.2.1 ?_
  refine jx_iand kd46.1 ?_
  refine jx_if_eq (tgt := 19) kd46.2.1 (by decide) (fun c2 => ?_) (fun c2 => ?_)
  · replace h := h.1 c2
    refine jx_iconst (v := 0) kd46.2.2.2.2.1 (by decide) ?_
    refine jx_istore_n (lv1 := [(3, .int 0), (0, .ref a0), (1, .int x1), (2, .int x2)]) kd46.2.2.2.2.2.1 rfl (by decide) rfl ?_
    refine jx_iload_n 0 kd46.2.2.2.2.2.2.1 rfl rfl ?_
    refine jx_if_eq (tgt := 53) kd46.2.2.2.2.2.2.2.1 (by decide) (fun _ => ?_) (fun z9 => absurd z9 (by decide))
    refine jx_iconst (v := 0) kd48.2.2.2.2.1 (by decide) ?_
    exact jx_iret kd48.2.2.2.2.2.1 rfl (by decide) (jle rfl) (jle rfl) ⟨_, rfl, h⟩
  replace h := h.2 c2
  refine jx_iconst (v := 1) kd46.2.2.1 (by decide) ?_
  refine jx_goto (tgt := 20) kd46.2.2.2.1 (by decide) ?_
  refine jx_istore_n (lv1 := [(3, .int 1), (0, .ref a0), (1, .int x1), (2, .int x2)]) kd46.2.2.2.2.2.1 rfl (by decide) rfl ?_
  refine jx_iload_n 0 kd46.2.2.2.2.2.2.1 rfl rfl ?_
  refine jx_if_eq (tgt := 53) kd46.2.2.2.2.2.2.2.1 (by decide) (fun z9 => absurd z9 (by decide)) (fun _ => ?_)
  refine jx_aload_n 1 kd46.2.2.2.2.2.2.2.2.1 rfl rfl ?_
  refine jx_geti jc_2 (j := 6) (by decide) rfl jwF_X0_50 kd47.1 hk1 ?_
  refine jx_if_ne (tgt := 53) kd47.2.1 (by decide) (fun c3 => ?_) (fun c3 => ?_)
  · replace h := h.2 c3
    refine jx_iconst (v := 0) kd48.2.2.2.2.1 (by decide) ?_
    exact jx_iret kd48.2.2.2.2.2.1 rfl (by decide) (jle rfl) (jle rfl) ⟨_, rfl, h⟩
  replace h := h.1 c3
  refine jx_aload_n 1 kd47.2.2.1 rfl rfl ?_
  refine jx_iload_n 2 kd47.2.2.2.1 rfl rfl ?_
  refine jx_callVi (M' := mX2_teaches) (As := [.int x1]) jo_X2_teaches jc_2 rfl jwM_X0_84 jwN_X2_teaches jwX_X2_teaches kd47.2.2.2.2.1 (jRok_m _ _ _) rfl (jle rfl) ⟨jle rfl, jle rfl⟩ hk1 h (fun r5 S4 h => ?_)
  refine jx_if_eq (tgt := 53) kd47.2.2.2.2.2.1 (by decide) (fun c6 => ?_) (fun c6 => ?_)
  · replace h := h.1 c6
    refine jx_iconst (v := 0) kd48.2.2.2.2.1 (by decide) ?_
    exact jx_iret kd48.2.2.2.2.2.1 rfl (by decide) (jle rfl) (jle rfl) ⟨_, rfl, h⟩
  replace h := h.2 c6
  refine jx_aload_n 1 kd47.2.2.2.2.2.2.1 rfl rfl ?_
  obtain ⟨hk7, h⟩ := h
  refine jx_callVi (M' := mX2_unlearnt) (As := []) jo_X2_unlearnt jc_2 rfl jwM_X0_88 jwN_X2_unlearnt jwX_X2_unlearnt kd47.2.2.2.2.2.2.2.1 (jRok_m _ _ _) rfl (jle rfl) ⟨jle rfl, jle rfl⟩ hk7 h (fun r9 S8 h => ?_)
  refine jx_iload_n 2 kd47.2.2.2.2.2.2.2.2.1 rfl rfl ?_
  refine jx_iand kd48.1 ?_
  refine jx_if_ne (tgt := 53) kd48.2.1 (by decide) (fun c10 => ?_) (fun c10 => ?_)
  · replace h := h.2 c10
    refine jx_iconst (v := 0) kd48.2.2.2.2.1 (by decide) ?_
    exact jx_iret kd48.2.2.2.2.2.1 rfl (by decide) (jle rfl) (jle rfl) ⟨_, rfl, h⟩
  replace h := h.1 c10
  refine jx_iconst (v := 1) kd48.2.2.1 (by decide) ?_
  refine jx_goto (tgt := 54) kd48.2.2.2.1 (by decide) ?_
  exact jx_iret kd48.2.2.2.2.2.1 rfl (by decide) (jle rfl) (jle rfl) ⟨_, rfl, h⟩
set_option maxRecDepth 100000 in
set_option maxHeartbeats 4000000 in
theorem T_X9_init {E : jEnv} {d : Nat} {Q : jM → Prop} {a0 : Nat} {x1 : Int32} {x2 : Int32} {a3 : Nat} {S : jM} (h : jk S a0 = 9 ∧ (¬ (jmax 1 x2) < 0 ∧ (Int32.toNatClampNeg (jmax 1 x2)) ≤ 4000 ∧ (0 + 1 ≤ 1 ∧ 0 + (Int32.toNatClampNeg (jmax 1 x2)) ≤ 96)) ∧ (∀ q6, q6 = jn (jputr (jput (jput S a0 0 x1) a0 1 x2) a0 2 (some a3)) → jk (jnew (jputr (jput (jput S a0 0 x1) a0 1 x2) a0 2 (some a3)) 12 (Int32.toNatClampNeg (jmax 1 x2))) a0 = 9 ∧ (1 ≤ 1 ∧ (0 + (Int32.toNatClampNeg (jmax 1 x2))) ≤ 96) ∧ Q (jputr (jnew (jputr (jput (jput S a0 0 x1) a0 1 x2) a0 2 (some a3)) 12 (Int32.toNatClampNeg (jmax 1 x2))) a0 3 (some q6)))) : jFv E mX9_init (d + 1) 1 96 [.ref a0, .int x1, .int x2, .ref a3] S Q := by
  refine jF_of (by decide) (jle rfl) ?_
  refine jx_lv (lv1 := [(0, .ref a0), (1, .int x1), (2, .int x2), (3, .ref a3)]) [0, 1, 2, 3] rfl ?_
  refine jx_aload_n 0 kd316.1 rfl rfl ?_
  refine jx_objInit jwM_X9_3 jwN_obj jwO_obj kd316.2.1 (jRok_m _ _ _) (jle rfl) ?_
  refine jx_aload_n 0 kd316.2.2.1 rfl rfl ?_
  refine jx_iload_n 1 kd316.2.2.2.1 rfl rfl ?_
  obtain ⟨hk1, h⟩ := h
  refine jx_putiF jc_9 (j := 0) (by decide) rfl jwF_X9_9 rfl rfl rfl rfl rfl kd316.2.2.2.2.1 hk1 ?_
  refine jx_aload_n 0 kd316.2.2.2.2.2.1 rfl rfl ?_
  refine jx_iload_n 2 kd316.2.2.2.2.2.2.1 rfl rfl ?_
  refine jx_putiF jc_9 (j := 1) (by decide) rfl jwF_X9_15 rfl rfl rfl rfl rfl kd316.2.2.2.2.2.2.2.1 hk1 ?_
  refine jx_aload_n 0 kd316.2.2.2.2.2.2.2.2.1 rfl rfl ?_
  refine jx_aload_n 3 kd317.1 rfl rfl ?_
  refine jx_putrF jc_9 (j := 2) (by decide) rfl jwF_X9_18 rfl rfl rfl rfl rfl kd317.2.1 hk1 ?_
  refine jx_aload_n 0 kd317.2.2.1 rfl rfl ?_
  refine jx_iconst (v := 1) kd317.2.2.2.1 (by decide) ?_
  refine jx_iload_n 2 kd317.2.2.2.2.1 rfl rfl ?_
  refine jx_max jwM_X9_22 jwS_max jwZ_J9 jwO_max kd317.2.2.2.2.2.1 (jRok_m _ _ _) (jle rfl) ⟨Nat.zero_le _, Nat.zero_le _⟩ ?_
  obtain ⟨⟨hn3, hn4, hn5⟩, h⟩ := h
  refine jx_newa jwA kd317.2.2.2.2.2.2.1 hn3 rfl hn4 hn5 ?_
  obtain ⟨q6, hq6⟩ : ∃ q, q = jn (jputr (jput (jput S a0 0 x1) a0 1 x2) a0 2 (some a3)) := ⟨_, rfl⟩
  rw [← hq6]
  replace h := h q6 hq6
  obtain ⟨hk7, h⟩ := h
  refine jx_putrF jc_9 (j := 3) (by decide) rfl jwF_X9_28 rfl rfl rfl rfl rfl kd317.2.2.2.2.2.2.2.1 hk7 ?_
  obtain ⟨hm9, h⟩ := h
  exact jx_vret kd317.2.2.2.2.2.2.2.2.1 rfl hm9.1 hm9.2 ⟨rfl, h⟩
/-- X9_workOut at its loop's head 6 -/
abbrev L_X9_workOut_6 (E : jEnv) (d : Nat) (Q : Int32 → jM → Prop) (a0 : Nat) (x1 : Int32) (x2 : Int32) (x3 : Int32) (x4 : Int32) (x5 : Int32) (S : jM) : Prop := jX E mX9_workOut (jRm (d + 1) 0 0) (jZm E (fun r S' => ∃ v : Int32, r = some (.int v) ∧ Q v S') 0 0) 6 [(0, .ref a0), (1, .int x1), (2, .int x2), (3, .int x3), (4, .int x4), (5, .int x5)] [] S 0 0
set_option maxRecDepth 100000 in
set_option maxHeartbeats 4000000 in
theorem T_X9_workOut {E : jEnv} {d : Nat} {Q : Int32 → jM → Prop} {a0 : Nat} {x1 : Int32} {x2 : Int32} {x3 : Int32} {S : jM} (h : L_X9_workOut_6 E d Q a0 x1 x2 x3 0 0 S) : jFi E mX9_workOut (d + 1) 0 0 [.ref a0, .int x1, .int x2, .int x3] S Q := by
  refine jF_of (by decide) (jle rfl) ?_
  refine jx_lv (lv1 := [(0, .ref a0), (1, .int x1), (2, .int x2), (3, .int x3)]) [0, 1, 2, 3] rfl ?_
  refine jx_iconst (v := 0) kd318.1 (by decide) ?_
  refine jx_istore (lv1 := [(4, .int 0), (0, .ref a0), (1, .int x1), (2, .int x2), (3, .int x3)]) kd318.2.1 (by decide) rfl ?_
  refine jx_iconst (v := 0) kd318.2.2.1 (by decide) ?_
  refine jx_istore (lv1 := [(5, .int 0), (4, .int 0), (0, .ref a0), (1, .int x1), (2, .int x2), (3, .int x3)]) kd318.2.2.2.1 (by decide) rfl ?_
  exact jx_lv [2, 3, 4, 5, 1, 0] rfl h
set_option maxRecDepth 100000 in
set_option maxHeartbeats 4000000 in
theorem T_X9_workOut_6 {E : jEnv} {d : Nat} {Q : Int32 → jM → Prop} {a0 : Nat} {x1 : Int32} {x2 : Int32} {x3 : Int32} {x4 : Int32} {x5 : Int32} {S : jM} (h : jk S a0 = 9 ∧ ∃ b2, jr S a0 2 = some b2 ∧ (jk S b2 = 12 ∧ ((nI (jl S b2)) ≤ x5 → (x4 = 1 → ∃ b6, jr S a0 3 = some b6 ∧ (jk S b6 = 12 ∧ vp_in 0 (jl S b6) ∧ (Q (ji S b6 (Int32.toNatClampNeg 0)) S))) ∧ (¬ x4 = 1 → Q 0 S)) ∧ (¬ (nI (jl S b2)) ≤ x5 → vp_in x5 (jl S b2) ∧ ((20000 ≤ (ji S b2 (Int32.toNatClampNeg x5)) → ((ji S b2 (Int32.toNatClampNeg x5)) = 20033 → ∃ b21, jr S a0 3 = some b21 ∧ (jk S b21 = 12 ∧ ((jwi (x4 - 1) (nI (jl S b21))) = 0 → L_X9_workOut_6 E d Q a0 x1 x2 x3 x4 (x5 + 1) S) ∧ (¬ (jwi (x4 - 1) (nI (jl S b21))) = 0 → vp_in (x4 - 1) (jl S b21) ∧ (((ji S b21 (Int32.toNatClampNeg (x4 - 1))) = 0 → (L_X9_workOut_6 E d Q a0 x1 x2 x3 x4 (x5 + 1) (jput S b21 (Int32.toNatClampNeg (x4 - 1)) 1))) ∧ (¬ (ji S b21 (Int32.toNatClampNeg (x4 - 1))) = 0 → (L_X9_workOut_6 E d Q a0 x1 x2 x3 x4 (x5 + 1) (jput S b21 (Int32.toNatClampNeg (x4 - 1)) 0))))))) ∧ (¬ (ji S b2 (Int32.toNatClampNeg x5)) = 20033 → (x4 ≤ 1 → L_X9_workOut_6 E d Q a0 x1 x2 x3 x4 (x5 + 1) S) ∧ (¬ x4 ≤ 1 → ∃ b13, jr S a0 3 = some b13 ∧ (jk S b13 = 12 ∧ ((nI (jl S b13)) < x4 → L_X9_workOut_6 E d Q a0 x1 x2 x3 x4 (x5 + 1) S) ∧ (¬ (nI (jl S b13)) < x4 → vp_in ((x4 + (-1)) - 1) (jl S b13) ∧ (vp_in (x4 + (-1)) (jl S b13) ∧ ((L_X9_workOut_6 E d Q a0 x1 x2 x3 (x4 + (-1)) (x5 + 1) (jput S b13 (Int32.toNatClampNeg ((x4 + (-1)) - 1)) (jjoinC ((ji S b2 (Int32.toNatClampNeg x5)) - 20000) (ji S b13 (Int32.toNatClampNeg ((x4 + (-1)) - 1))) (ji S b13 (Int32.toNatClampNeg (x4 + (-1)))))))))))))) ∧ (¬ 20000 ≤ (ji S b2 (Int32.toNatClampNeg x5)) → ∃ b29, jr S a0 3 = some b29 ∧ (jk S b29 = 12 ∧ ((jwi x4 (nI (jl S b29))) = 0 → L_X9_workOut_6 E d Q a0 x1 x2 x3 x4 (x5 + 1) S) ∧ (¬ (jwi x4 (nI (jl S b29))) = 0 → vp_in x4 (jl S b29) ∧ (L_X9_workOut_6 E d Q a0 x1 x2 x3 (x4 + 1) (x5 + 1) (jput S b29 (Int32.toNatClampNeg x4) (jvalof (ji S b2 (Int32.toNatClampNeg x5)) x1 x2 x3)))))))))) : L_X9_workOut_6 E d Q a0 x1 x2 x3 x4 x5 S := by
  show jX E mX9_workOut (jRm (d + 1) 0 0) (jZm E (fun r S' => ∃ v : Int32, r = some (.int v) ∧ Q v S') 0 0) 6 [(0, .ref a0), (1, .int x1), (2, .int x2), (3, .int x3), (4, .int x4), (5, .int x5)] [] S 0 0
  refine jx_iload 5 kd318.2.2.2.2.1 rfl ?_
  refine jx_aload_n 0 kd318.2.2.2.2.2.1 rfl rfl ?_
  obtain ⟨hk1, h⟩ := h
  obtain ⟨b2, hb2, h⟩ := h
  refine jx_getr jc_9 (j := 2) (by decide) rfl jwF_X9_18 kd318.2.2.2.2.2.2.1 hk1 hb2 ?_
  obtain ⟨hk3, h⟩ := h
  refine jx_alen kd318.2.2.2.2.2.2.2.1 hk3 ?_
  refine jx_icmp_ge (tgt := 178) kd318.2.2.2.2.2.2.2.2.1 (by decide) (fun c4 => ?_) (fun c4 => ?_)
  · replace h := h.1 c4
    refine jx_iload 4 kd328.2.2.2.1 rfl ?_
    refine jx_iconst (v := 1) kd328.2.2.2.2.1 (by decide) ?_
    refine jx_icmp_ne (tgt := 193) kd328.2.2.2.2.2.1 (by decide) (fun c5 => ?_) (fun c5 => ?_)
    · replace h := h.2 c5
      refine jx_iconst (v := 0) kd329.2.2.1 (by decide) ?_
      exact jx_iret kd329.2.2.2.1 rfl rfl (jle rfl) (jle rfl) ⟨_, rfl, h⟩
    replace h := h.1 c5
    refine jx_aload_n 0 kd328.2.2.2.2.2.2.1 rfl rfl ?_
    obtain ⟨b6, hb6, h⟩ := h
    refine jx_getr jc_9 (j := 3) (by decide) rfl jwF_X9_28 kd328.2.2.2.2.2.2.2.1 hk1 hb6 ?_
    refine jx_iconst (v := 0) kd328.2.2.2.2.2.2.2.2.1 (by decide) ?_
    obtain ⟨hk7, h⟩ := h
    obtain ⟨hi8, h⟩ := h
    refine jx_iald kd329.1 hk7 hi8 ?_
    refine jx_goto (tgt := 194) kd329.2.1 (by decide) ?_
    exact jx_iret kd329.2.2.2.1 rfl rfl (jle rfl) (jle rfl) ⟨_, rfl, h⟩
  replace h := h.2 c4
  refine jx_aload_n 0 kd319.1 rfl rfl ?_
  refine jx_getr jc_9 (j := 2) (by decide) rfl jwF_X9_18 kd319.2.1 hk1 hb2 ?_
  refine jx_iload 5 kd319.2.2.1 rfl ?_
  obtain ⟨hi9, h⟩ := h
  refine jx_iald kd319.2.2.2.1 hk3 hi9 ?_
  refine jx_istore (lv1 := [(6, .int (ji S b2 (Int32.toNatClampNeg x5))), (0, .ref a0), (1, .int x1), (2, .int x2), (3, .int x3), (4, .int x4), (5, .int x5)]) kd319.2.2.2.2.1 (by decide) rfl ?_
  refine jx_iload 0 kd319.2.2.2.2.2.1 rfl ?_
  refine jx_sipush (v := 20000) kd319.2.2.2.2.2.2.1 (by decide) ?_
  refine jx_icmp_ge (tgt := 67) kd319.2.2.2.2.2.2.2.1 (by decide) (fun c10 => ?_) (fun c10 => ?_)
  · replace h := h.1 c10
    refine jx_iload 0 kd321.2.2.2.2.2.2.2.1 rfl ?_
    refine jx_sipush (v := 20033) kd321.2.2.2.2.2.2.2.2.1 (by decide) ?_
    refine jx_icmp_ne (tgt := 119) kd322.1 (by decide) (fun c11 => ?_) (fun c11 => ?_)
    · replace h := h.2 c11
      refine jx_iload 5 kd324.2.2.2.2.2.2.2.2.1 rfl ?_
      refine jx_iconst (v := 1) kd325.1 (by decide) ?_
      refine jx_icmp_le (tgt := 172) kd325.2.1 (by decide) (fun c12 => ?_) (fun c12 => ?_)
      · replace h := h.1 c12
        refine jx_iinc 6 (v := (x5 + 1)) (lv1 := [(5, .int (x5 + 1)), (6, .int (ji S b2 (Int32.toNatClampNeg x5))), (0, .ref a0), (1, .int x1), (2, .int x2), (3, .int x3), (4, .int x4)]) kd328.2.1 rfl rfl (by decide) rfl ?_
        refine jx_goto (tgt := 6) kd328.2.2.1 (by decide) ?_
        exact jx_lv [2, 3, 4, 5, 6, 0] rfl h
      replace h := h.2 c12
      refine jx_iload 5 kd325.2.2.1 rfl ?_
      refine jx_aload_n 1 kd325.2.2.2.1 rfl rfl ?_
      obtain ⟨b13, hb13, h⟩ := h
      refine jx_getr jc_9 (j := 3) (by decide) rfl jwF_X9_28 kd325.2.2.2.2.1 hk1 hb13 ?_
      obtain ⟨hk14, h⟩ := h
      refine jx_alen kd325.2.2.2.2.2.1 hk14 ?_
      refine jx_icmp_gt (tgt := 172) kd325.2.2.2.2.2.2.1 (by decide) (fun c15 => ?_) (fun c15 => ?_)
      · replace h := h.1 c15
        refine jx_iinc 6 (v := (x5 + 1)) (lv1 := [(5, .int (x5 + 1)), (6, .int (ji S b2 (Int32.toNatClampNeg x5))), (0, .ref a0), (1, .int x1), (2, .int x2), (3, .int x3), (4, .int x4)]) kd328.2.1 rfl rfl (by decide) rfl ?_
        refine jx_goto (tgt := 6) kd328.2.2.1 (by decide) ?_
        exact jx_lv [2, 3, 4, 5, 6, 0] rfl h
      replace h := h.2 c15
      refine jx_iinc 5 (v := (x4 + (-1))) (lv1 := [(4, .int (x4 + (-1))), (6, .int (ji S b2 (Int32.toNatClampNeg x5))), (0, .ref a0), (1, .int x1), (2, .int x2), (3, .int x3), (5, .int x5)]) kd325.2.2.2.2.2.2.2.1 rfl rfl (by decide) rfl ?_
      refine jx_aload_n 2 kd325.2.2.2.2.2.2.2.2.1 rfl rfl ?_
      refine jx_getr jc_9 (j := 3) (by decide) rfl jwF_X9_28 kd326.1 hk1 hb13 ?_
      refine jx_iload 0 kd326.2.1 rfl ?_
      refine jx_iconst (v := 1) kd326.2.2.1 (by decide) ?_
      refine jx_isub kd326.2.2.2.1 ?_
      refine jx_iload 1 kd326.2.2.2.2.1 rfl ?_
      refine jx_sipush (v := 20000) kd326.2.2.2.2.2.1 (by decide) ?_
      refine jx_isub kd326.2.2.2.2.2.2.1 ?_
      refine jx_aload_n 2 kd326.2.2.2.2.2.2.2.1 rfl rfl ?_
      refine jx_getr jc_9 (j := 3) (by decide) rfl jwF_X9_28 kd326.2.2.2.2.2.2.2.2.1 hk1 hb13 ?_
      refine jx_iload 0 kd327.1 rfl ?_
      refine jx_iconst (v := 1) kd327.2.1 (by decide) ?_
      refine jx_isub kd327.2.2.1 ?_
      obtain ⟨hi16, h⟩ := h
      refine jx_iald kd327.2.2.2.1 hk14 hi16 ?_
      refine jx_aload_n 2 kd327.2.2.2.2.1 rfl rfl ?_
      refine jx_getr jc_9 (j := 3) (by decide) rfl jwF_X9_28 kd327.2.2.2.2.2.1 hk1 hb13 ?_
      refine jx_iload 0 kd327.2.2.2.2.2.2.1 rfl ?_
      obtain ⟨hi17, h⟩ := h
      refine jx_iald kd327.2.2.2.2.2.2.2.1 hk14 hi17 ?_
      refine jx_callSi (M' := mX9_joined) (As := [.int ((ji S b2 (Int32.toNatClampNeg x5)) - 20000), .int (ji S b13 (Int32.toNatClampNeg ((x4 + (-1)) - 1))), .int (ji S b13 (Int32.toNatClampNeg (x4 + (-1))))]) jo_X9_joined jwM_X9_39 jwS_X9_joined kd327.2.2.2.2.2.2.2.2.1 (jRok_m _ _ _) rfl (jle rfl) ⟨jle rfl, jle rfl⟩ (c_X9_joined (Q := fun v S' => v = (jjoinC ((ji S b2 (Int32.toNatClampNeg x5)) - 20000) (ji S b13 (Int32.toNatClampNeg ((x4 + (-1)) - 1))) (ji S b13 (Int32.toNatClampNeg (x4 + (-1))))) ∧ S = S') ⟨rfl, rfl⟩) (fun r18 S19 hq20 => ?_)
      obtain ⟨rfl, rfl⟩ := hq20
      refine jx_iast kd328.1 hk14 hi16 ?_
      refine jx_iinc 6 (v := (x5 + 1)) (lv1 := [(5, .int (x5 + 1)), (4, .int (x4 + (-1))), (6, .int (ji S b2 (Int32.toNatClampNeg x5))), (0, .ref a0), (1, .int x1), (2, .int x2), (3, .int x3)]) kd328.2.1 rfl rfl (by decide) rfl ?_
      refine jx_goto (tgt := 6) kd328.2.2.1 (by decide) ?_
      exact jx_lv [3, 4, 5, 6, 1, 0] rfl h
    replace h := h.1 c11
    refine jx_iload 5 kd322.2.1 rfl ?_
    refine jx_iconst (v := 1) kd322.2.2.1 (by decide) ?_
    refine jx_isub kd322.2.2.2.1 ?_
    refine jx_aload_n 1 kd322.2.2.2.2.1 rfl rfl ?_
    obtain ⟨b21, hb21, h⟩ := h
    refine jx_getr jc_9 (j := 3) (by decide) rfl jwF_X9_28 kd322.2.2.2.2.2.1 hk1 hb21 ?_
    obtain ⟨hk22, h⟩ := h
    refine jx_alen kd322.2.2.2.2.2.2.1 hk22 ?_
    refine jx_callSNi (M' := mX10_within) (As := [.int (x4 - 1), .int (nI (jl S b21))]) (host := "NineMasters") jo_X10_within (by decide) jwS_X10_within kd322.2.2.2.2.2.2.2.1 (jRok_m _ _ _) rfl (jle rfl) ⟨jle rfl, jle rfl⟩ (c_X10_within (Q := fun v S' => v = (jwi (x4 - 1) (nI (jl S b21))) ∧ S = S') ⟨rfl, rfl⟩) (fun r23 S24 hq25 => ?_)
    obtain ⟨rfl, rfl⟩ := hq25
    refine jx_if_eq (tgt := 172) kd322.2.2.2.2.2.2.2.2.1 (by decide) (fun c26 => ?_) (fun c26 => ?_)
    · replace h := h.1 c26
      refine jx_iinc 6 (v := (x5 + 1)) (lv1 := [(5, .int (x5 + 1)), (6, .int (ji S b2 (Int32.toNatClampNeg x5))), (0, .ref a0), (1, .int x1), (2, .int x2), (3, .int x3), (4, .int x4)]) kd328.2.1 rfl rfl (by decide) rfl ?_
      refine jx_goto (tgt := 6) kd328.2.2.1 (by decide) ?_
      exact jx_lv [2, 3, 4, 5, 6, 0] rfl h
    replace h := h.2 c26
    refine jx_aload_n 1 kd323.1 rfl rfl ?_
    refine jx_getr jc_9 (j := 3) (by decide) rfl jwF_X9_28 kd323.2.1 hk1 hb21 ?_
    refine jx_iload 5 kd323.2.2.1 rfl ?_
    refine jx_iconst (v := 1) kd323.2.2.2.1 (by decide) ?_
    refine jx_isub kd323.2.2.2.2.1 ?_
    refine jx_aload_n 1 kd323.2.2.2.2.2.1 rfl rfl ?_
    refine jx_getr jc_9 (j := 3) (by decide) rfl jwF_X9_28 kd323.2.2.2.2.2.2.1 hk1 hb21 ?_
    refine jx_iload 5 kd323.2.2.2.2.2.2.2.1 rfl ?_
    refine jx_iconst (v := 1) kd323.2.2.2.2.2.2.2.2.1 (by decide) ?_
    refine jx_isub kd324.1 ?_
    obtain ⟨hi27, h⟩ := h
    refine jx_iald kd324.2.1 hk22 hi27 ?_
    refine jx_if_ne (tgt := 114) kd324.2.2.1 (by decide) (fun c28 => ?_) (fun c28 => ?_)
    · replace h := h.2 c28
      refine jx_iconst (v := 0) kd324.2.2.2.2.2.1 (by decide) ?_
      refine jx_iast kd324.2.2.2.2.2.2.1 hk22 hi27 ?_
      refine jx_goto (tgt := 172) kd324.2.2.2.2.2.2.2.1 (by decide) ?_
      refine jx_iinc 6 (v := (x5 + 1)) (lv1 := [(5, .int (x5 + 1)), (6, .int (ji S b2 (Int32.toNatClampNeg x5))), (0, .ref a0), (1, .int x1), (2, .int x2), (3, .int x3), (4, .int x4)]) kd328.2.1 rfl rfl (by decide) rfl ?_
      refine jx_goto (tgt := 6) kd328.2.2.1 (by decide) ?_
      exact jx_lv [2, 3, 4, 5, 6, 0] rfl h
    replace h := h.1 c28
    refine jx_iconst (v := 1) kd324.2.2.2.1 (by decide) ?_
    refine jx_goto (tgt := 115) kd324.2.2.2.2.1 (by decide) ?_
    refine jx_iast kd324.2.2.2.2.2.2.1 hk22 hi27 ?_
    refine jx_goto (tgt := 172) kd324.2.2.2.2.2.2.2.1 (by decide) ?_
    refine jx_iinc 6 (v := (x5 + 1)) (lv1 := [(5, .int (x5 + 1)), (6, .int (ji S b2 (Int32.toNatClampNeg x5))), (0, .ref a0), (1, .int x1), (2, .int x2), (3, .int x3), (4, .int x4)]) kd328.2.1 rfl rfl (by decide) rfl ?_
    refine jx_goto (tgt := 6) kd328.2.2.1 (by decide) ?_
    exact jx_lv [2, 3, 4, 5, 6, 0] rfl h
  replace h := h.2 c10
  refine jx_iload 5 kd319.2.2.2.2.2.2.2.2.1 rfl ?_
  refine jx_aload_n 1 kd320.1 rfl rfl ?_
  obtain ⟨b29, hb29, h⟩ := h
  refine jx_getr jc_9 (j := 3) (by decide) rfl jwF_X9_28 kd320.2.1 hk1 hb29 ?_
  obtain ⟨hk30, h⟩ := h
  refine jx_alen kd320.2.2.1 hk30 ?_
  refine jx_callSNi (M' := mX10_within) (As := [.int x4, .int (nI (jl S b29))]) (host := "NineMasters") jo_X10_within (by decide) jwS_X10_within kd320.2.2.2.1 (jRok_m _ _ _) rfl (jle rfl) ⟨jle rfl, jle rfl⟩ (c_X10_within (Q := fun v S' => v = (jwi x4 (nI (jl S b29))) ∧ S = S') ⟨rfl, rfl⟩) (fun r31 S32 hq33 => ?_)
  obtain ⟨rfl, rfl⟩ := hq33
  refine jx_if_eq (tgt := 172) kd320.2.2.2.2.1 (by decide) (fun c34 => ?_) (fun c34 => ?_)
  · replace h := h.1 c34
    refine jx_iinc 6 (v := (x5 + 1)) (lv1 := [(5, .int (x5 + 1)), (6, .int (ji S b2 (Int32.toNatClampNeg x5))), (0, .ref a0), (1, .int x1), (2, .int x2), (3, .int x3), (4, .int x4)]) kd328.2.1 rfl rfl (by decide) rfl ?_
    refine jx_goto (tgt := 6) kd328.2.2.1 (by decide) ?_
    exact jx_lv [2, 3, 4, 5, 6, 0] rfl h
  replace h := h.2 c34
  refine jx_aload_n 1 kd320.2.2.2.2.2.1 rfl rfl ?_
  refine jx_getr jc_9 (j := 3) (by decide) rfl jwF_X9_28 kd320.2.2.2.2.2.2.1 hk1 hb29 ?_
  refine jx_iload 5 kd320.2.2.2.2.2.2.2.1 rfl ?_
  refine jx_iload 0 kd320.2.2.2.2.2.2.2.2.1 rfl ?_
  refine jx_iload_n 2 kd321.1 rfl rfl ?_
  refine jx_iload_n 3 kd321.2.1 rfl rfl ?_
  refine jx_iload_n 4 kd321.2.2.1 rfl rfl ?_
  refine jx_callSi (M' := mX9_valueOf) (As := [.int (ji S b2 (Int32.toNatClampNeg x5)), .int x1, .int x2, .int x3]) jo_X9_valueOf jwM_X9_35 jwS_X9_valueOf kd321.2.2.2.1 (jRok_m _ _ _) rfl (jle rfl) ⟨jle rfl, jle rfl⟩ (c_X9_valueOf (Q := fun v S' => v = (jvalof (ji S b2 (Int32.toNatClampNeg x5)) x1 x2 x3) ∧ S = S') ⟨rfl, rfl⟩) (fun r35 S36 hq37 => ?_)
  obtain ⟨rfl, rfl⟩ := hq37
  obtain ⟨hi38, h⟩ := h
  refine jx_iast kd321.2.2.2.2.1 hk30 hi38 ?_
  refine jx_iinc 5 (v := (x4 + 1)) (lv1 := [(4, .int (x4 + 1)), (6, .int (ji S b2 (Int32.toNatClampNeg x5))), (0, .ref a0), (1, .int x1), (2, .int x2), (3, .int x3), (5, .int x5)]) kd321.2.2.2.2.2.1 rfl rfl (by decide) rfl ?_
  refine jx_goto (tgt := 172) kd321.2.2.2.2.2.2.1 (by decide) ?_
  refine jx_iinc 6 (v := (x5 + 1)) (lv1 := [(5, .int (x5 + 1)), (4, .int (x4 + 1)), (6, .int (ji S b2 (Int32.toNatClampNeg x5))), (0, .ref a0), (1, .int x1), (2, .int x2), (3, .int x3)]) kd328.2.1 rfl rfl (by decide) rfl ?_
  refine jx_goto (tgt := 6) kd328.2.2.1 (by decide) ?_
  exact jx_lv [3, 4, 5, 6, 1, 0] rfl h
end
section
set_option maxRecDepth 100000 in
set_option maxHeartbeats 4000000 in
theorem T_X8_init {E : jEnv} {d : Nat} {Q : jM → Prop} {a0 : Nat} {S : jM} (h : ∀ q1, q1 = jn S → jk (jnew S 12 96) a0 = 8 ∧ ∀ q4, q4 = jn (jputr (jnew S 12 96) a0 0 (some q1)) → jk (jnew (jputr (jnew S 12 96) a0 0 (some q1)) 12 96) a0 = 8 ∧ Q (jputr (jnew (jputr (jnew S 12 96) a0 0 (some q1)) 12 96) a0 8 (some q4))) : jFv E mX8_init (d + 1) 2 192 [.ref a0] S Q := by
  refine jF_of (by decide) (jle rfl) ?_
  refine jx_lv (lv1 := [(0, .ref a0)]) [0] rfl ?_
  refine jx_aload_n 0 kd245.1 rfl rfl ?_
  refine jx_objInit jwM_X8_3 jwN_obj jwO_obj kd245.2.1 (jRok_m _ _ _) (jle rfl) ?_
  refine jx_aload_n 0 kd245.2.2.1 rfl rfl ?_
  refine jx_bipush (v := 96) kd245.2.2.2.1 (by decide) ?_
  refine jx_newa (N := 96) jwA kd245.2.2.2.2.1 (by decide) (by decide) (by decide) ⟨jle rfl, jle rfl⟩ ?_
  obtain ⟨q1, hq1⟩ : ∃ q, q = jn S := ⟨_, rfl⟩
  rw [← hq1]
  replace h := h q1 hq1
  obtain ⟨hk2, h⟩ := h
  refine jx_putrF jc_8 (j := 0) (by decide) rfl jwF_X8_9 rfl rfl rfl rfl rfl kd245.2.2.2.2.2.1 hk2 ?_
  refine jx_aload_n 0 kd245.2.2.2.2.2.2.1 rfl rfl ?_
  refine jx_bipush (v := 96) kd245.2.2.2.2.2.2.2.1 (by decide) ?_
  refine jx_newa (N := 96) jwA kd245.2.2.2.2.2.2.2.2.1 (by decide) (by decide) (by decide) ⟨jle rfl, jle rfl⟩ ?_
  obtain ⟨q4, hq4⟩ : ∃ q, q = jn (jputr (jnew S 12 96) a0 0 (some q1)) := ⟨_, rfl⟩
  rw [← hq4]
  replace h := h q4 hq4
  obtain ⟨hk5, h⟩ := h
  refine jx_putrF jc_8 (j := 8) (by decide) rfl jwF_X8_15 rfl rfl rfl rfl rfl kd246.1 hk5 ?_
  exact jx_vret kd246.2.1 rfl (jle rfl) (jle rfl) ⟨rfl, h⟩
/-- X8_addNumber at its loop's head 3 -/
abbrev L_X8_addNumber_3 (E : jEnv) (d : Nat) (Q : jM → Prop) (a0 : Nat) (x1 : Int32) (x2 : Int32) (S : jM) : Prop := jX E mX8_addNumber (jRm (d + 1) 0 0) (jZm E (fun r S' => r = none ∧ Q S') 0 0) 3 [(0, .ref a0), (1, .int x1), (2, .int x2)] [] S 0 0
set_option maxRecDepth 100000 in
set_option maxHeartbeats 4000000 in
theorem T_X8_addNumber {E : jEnv} {d : Nat} {Q : jM → Prop} {a0 : Nat} {x1 : Int32} {S : jM} (h : L_X8_addNumber_3 E d Q a0 x1 24 S) : jFv E mX8_addNumber (d + 1) 0 0 [.ref a0, .int x1] S Q := by
  refine jF_of (by decide) (jle rfl) ?_
  refine jx_lv (lv1 := [(0, .ref a0), (1, .int x1)]) [0, 1] rfl ?_
  refine jx_bipush (v := 24) kd247.1 (by decide) ?_
  refine jx_istore_n (lv1 := [(2, .int 24), (0, .ref a0), (1, .int x1)]) kd247.2.1 rfl (by decide) rfl ?_
  exact jx_lv [1, 2, 0] rfl h
set_option maxRecDepth 100000 in
set_option maxHeartbeats 4000000 in
theorem T_X8_addNumber_3 {E : jEnv} {d : Nat} {Q : jM → Prop} {a0 : Nat} {x1 : Int32} {x2 : Int32} {S : jM} (h : (x2 < 0 → Q S) ∧ (¬ x2 < 0 → jk S a0 = 8 ∧ ((jwi (ji S a0 1) 96) = 0 → L_X8_addNumber_3 E d Q a0 x1 (x2 + (-8)) S) ∧ (¬ (jwi (ji S a0 1) 96) = 0 → ∃ b7, jr S a0 0 = some b7 ∧ (jk S b7 = 12 ∧ vp_in (ji S a0 1) (jl S b7) ∧ (L_X8_addNumber_3 E d Q a0 x1 (x2 + (-8)) (jput (jput S b7 (Int32.toNatClampNeg (ji S a0 1)) ((jushr x1 x2) &&& 255)) a0 1 ((ji S a0 1) + 1))))))) : L_X8_addNumber_3 E d Q a0 x1 x2 S := by
  show jX E mX8_addNumber (jRm (d + 1) 0 0) (jZm E (fun r S' => r = none ∧ Q S') 0 0) 3 [(0, .ref a0), (1, .int x1), (2, .int x2)] [] S 0 0
  refine jx_iload_n 2 kd247.2.2.1 rfl rfl ?_
  refine jx_if_lt (tgt := 51) kd247.2.2.2.1 (by decide) (fun c1 => ?_) (fun c1 => ?_)
  · replace h := h.1 c1
    exact jx_vret kd250.1 rfl (jle rfl) (jle rfl) ⟨rfl, h⟩
  replace h := h.2 c1
  refine jx_aload_n 0 kd247.2.2.2.2.1 rfl rfl ?_
  obtain ⟨hk2, h⟩ := h
  refine jx_geti jc_8 (j := 1) (by decide) rfl jwF_X8_18 kd247.2.2.2.2.2.1 hk2 ?_
  refine jx_bipush (v := 96) kd247.2.2.2.2.2.2.1 (by decide) ?_
  refine jx_callSNi (M' := mX10_within) (As := [.int (ji S a0 1), .int 96]) (host := "NineMasters") jo_X10_within (by decide) jwS_X10_within kd247.2.2.2.2.2.2.2.1 (jRok_m _ _ _) rfl (jle rfl) ⟨jle rfl, jle rfl⟩ (c_X10_within (Q := fun v S' => v = (jwi (ji S a0 1) 96) ∧ S = S') ⟨rfl, rfl⟩) (fun r3 S4 hq5 => ?_)
  obtain ⟨rfl, rfl⟩ := hq5
  refine jx_if_eq (tgt := 45) kd247.2.2.2.2.2.2.2.2.1 (by decide) (fun c6 => ?_) (fun c6 => ?_)
  · replace h := h.1 c6
    refine jx_iinc 2 (v := (x2 + (-8))) (lv1 := [(2, .int (x2 + (-8))), (0, .ref a0), (1, .int x1)]) kd249.2.2.2.2.2.2.2.1 rfl rfl (by decide) rfl ?_
    refine jx_goto (tgt := 3) kd249.2.2.2.2.2.2.2.2.1 (by decide) ?_
    exact jx_lv [1, 2, 0] rfl h
  replace h := h.2 c6
  refine jx_aload_n 0 kd248.1 rfl rfl ?_
  obtain ⟨b7, hb7, h⟩ := h
  refine jx_getr jc_8 (j := 0) (by decide) rfl jwF_X8_9 kd248.2.1 hk2 hb7 ?_
  refine jx_aload_n 0 kd248.2.2.1 rfl rfl ?_
  refine jx_geti jc_8 (j := 1) (by decide) rfl jwF_X8_18 kd248.2.2.2.1 hk2 ?_
  refine jx_iload_n 1 kd248.2.2.2.2.1 rfl rfl ?_
  refine jx_iload_n 2 kd248.2.2.2.2.2.1 rfl rfl ?_
  refine jx_iushr kd248.2.2.2.2.2.2.1 ?_
  refine jx_sipush (v := 255) kd248.2.2.2.2.2.2.2.1 (by decide) ?_
  refine jx_iand kd248.2.2.2.2.2.2.2.2.1 ?_
  obtain ⟨hk8, h⟩ := h
  obtain ⟨hi9, h⟩ := h
  refine jx_iast kd249.1 hk8 hi9 ?_
  refine jx_aload_n 0 kd249.2.1 rfl rfl ?_
  refine jx_dup kd249.2.2.1 rfl ?_
  refine jx_geti jc_8 (j := 1) (by decide) rfl jwF_X8_18 kd249.2.2.2.1 hk2 ?_
  refine jx_topi (y := (ji S a0 1)) (by simp [ji_put, ji_row, ji_putr, jne hk2 hk8 (by decide)]) ?_
  refine jx_iconst (v := 1) kd249.2.2.2.2.1 (by decide) ?_
  refine jx_iadd kd249.2.2.2.2.2.1 ?_
  refine jx_puti jc_8 (j := 1) (by decide) rfl jwF_X8_18 rfl rfl rfl kd249.2.2.2.2.2.2.1 hk2 ?_
  refine jx_iinc 2 (v := (x2 + (-8))) (lv1 := [(2, .int (x2 + (-8))), (0, .ref a0), (1, .int x1)]) kd249.2.2.2.2.2.2.2.1 rfl rfl (by decide) rfl ?_
  refine jx_goto (tgt := 3) kd249.2.2.2.2.2.2.2.2.1 (by decide) ?_
  exact jx_lv [1, 2, 0] rfl h
set_option maxRecDepth 100000 in
set_option maxHeartbeats 4000000 in
theorem T_X8_isText {E : jEnv} {d : Nat} {Q : Int32 → jM → Prop} {a0 : Nat} {S : jM} (h : jk S a0 = 8 ∧ jFv E mX8_step d 0 0 [.ref a0] (jput (jput (jput (jput S a0 3 0) a0 4 0) a0 7 0) a0 9 0) (fun S2 => jk S2 a0 = 8 ∧ jFi E mX8_keyInHand d 0 0 [.ref a0] S2 (fun r5 S4 => jk S4 a0 = 8 ∧ (0 ≤ r5 → jFv E mX8_step d 0 0 [.ref a0] (jput S4 a0 6 r5) (fun S8 => jk S8 a0 = 8 ∧ jFi E mX8_readsChain d 0 0 [.ref a0, .int 0, .int 0, .int 0] S8 (fun r11 S10 => (r11 = 0 → Q 0 S10) ∧ (¬ r11 = 0 → jk S10 a0 = 8 ∧ ((ji S10 a0 4) = 0 → Q 1 S10) ∧ (¬ (ji S10 a0 4) = 0 → Q 0 S10))))) ∧ (¬ 0 ≤ r5 → Q 0 (jput S4 a0 6 r5))))) : jFi E mX8_isText (d + 1) 0 0 [.ref a0] S Q := by
  refine jF_of (by decide) (jle rfl) ?_
  refine jx_lv (lv1 := [(0, .ref a0)]) [0] rfl ?_
  refine jx_aload_n 0 kd251.1 rfl rfl ?_
  refine jx_iconst (v := 0) kd251.2.1 (by decide) ?_
  obtain ⟨hk1, h⟩ := h
  refine jx_puti jc_8 (j := 3) (by decide) rfl jwF_X8_26 rfl rfl rfl kd251.2.2.1 hk1 ?_
  refine jx_aload_n 0 kd251.2.2.2.1 rfl rfl ?_
  refine jx_iconst (v := 0) kd251.2.2.2.2.1 (by decide) ?_
  refine jx_puti jc_8 (j := 4) (by decide) rfl jwF_X8_29 rfl rfl rfl kd251.2.2.2.2.2.1 hk1 ?_
  refine jx_aload_n 0 kd251.2.2.2.2.2.2.1 rfl rfl ?_
  refine jx_iconst (v := 0) kd251.2.2.2.2.2.2.2.1 (by decide) ?_
  refine jx_puti jc_8 (j := 7) (by decide) rfl jwF_X8_32 rfl rfl rfl kd251.2.2.2.2.2.2.2.2.1 hk1 ?_
  refine jx_aload_n 0 kd252.1 rfl rfl ?_
  refine jx_iconst (v := 0) kd252.2.1 (by decide) ?_
  refine jx_puti jc_8 (j := 9) (by decide) rfl jwF_X8_35 rfl rfl rfl kd252.2.2.1 hk1 ?_
  refine jx_aload_n 0 kd252.2.2.2.1 rfl rfl ?_
  refine jx_callVv (M' := mX8_step) (As := []) jo_X8_step jc_8 rfl jwM_X8_38 jwN_X8_step jwX_X8_step kd252.2.2.2.2.1 (jRok_m _ _ _) rfl (jle rfl) ⟨jle rfl, jle rfl⟩ hk1 h (fun S2 h => ?_)
  refine jx_aload_n 0 kd252.2.2.2.2.2.1 rfl rfl ?_
  refine jx_aload_n 0 kd252.2.2.2.2.2.2.1 rfl rfl ?_
  obtain ⟨hk3, h⟩ := h
  refine jx_callVi (M' := mX8_keyInHand) (As := []) jo_X8_keyInHand jc_8 rfl jwM_X8_41 jwN_X8_keyInHand jwX_X8_keyInHand kd252.2.2.2.2.2.2.2.1 (jRok_m _ _ _) rfl (jle rfl) ⟨jle rfl, jle rfl⟩ hk3 h (fun r5 S4 h => ?_)
  obtain ⟨hk6, h⟩ := h
  refine jx_puti jc_8 (j := 6) (by decide) rfl jwF_X8_45 rfl rfl rfl kd252.2.2.2.2.2.2.2.2.1 hk6 ?_
  refine jx_aload_n 0 kd253.1 rfl rfl ?_
  refine jx_geti jc_8 (j := 6) (by decide) rfl jwF_X8_45 kd253.2.1 hk6 ?_
  refine jx_topi (y := r5) (by simp [ji_put, ji_row, ji_putr]) ?_
  refine jx_if_ge (tgt := 41) kd253.2.2.1 (by decide) (fun c7 => ?_) (fun c7 => ?_)
  · replace h := h.1 c7
    refine jx_aload_n 0 kd253.2.2.2.2.2.1 rfl rfl ?_
    refine jx_callVv (M' := mX8_step) (As := []) jo_X8_step jc_8 rfl jwM_X8_38 jwN_X8_step jwX_X8_step kd253.2.2.2.2.2.2.1 (jRok_m _ _ _) rfl (jle rfl) ⟨jle rfl, jle rfl⟩ hk6 h (fun S8 h => ?_)
    refine jx_aload_n 0 kd253.2.2.2.2.2.2.2.1 rfl rfl ?_
    refine jx_iconst (v := 0) kd253.2.2.2.2.2.2.2.2.1 (by decide) ?_
    refine jx_iconst (v := 0) kd254.1 (by decide) ?_
    refine jx_iconst (v := 0) kd254.2.1 (by decide) ?_
    obtain ⟨hk9, h⟩ := h
    refine jx_callVi (M' := mX8_readsChain) (As := [.int 0, .int 0, .int 0]) jo_X8_readsChain jc_8 rfl jwM_X8_48 jwN_X8_readsChain jwX_X8_readsChain kd254.2.2.1 (jRok_m _ _ _) rfl (jle rfl) ⟨jle rfl, jle rfl⟩ hk9 h (fun r11 S10 h => ?_)
    refine jx_if_eq (tgt := 66) kd254.2.2.2.1 (by decide) (fun c12 => ?_) (fun c12 => ?_)
    · replace h := h.1 c12
      refine jx_iconst (v := 0) kd255.1 (by decide) ?_
      exact jx_iret kd255.2.1 rfl (by decide) (jle rfl) (jle rfl) ⟨_, rfl, h⟩
    replace h := h.2 c12
    refine jx_aload_n 0 kd254.2.2.2.2.1 rfl rfl ?_
    obtain ⟨hk13, h⟩ := h
    refine jx_geti jc_8 (j := 4) (by decide) rfl jwF_X8_29 kd254.2.2.2.2.2.1 hk13 ?_
    refine jx_if_ne (tgt := 66) kd254.2.2.2.2.2.2.1 (by decide) (fun c14 => ?_) (fun c14 => ?_)
    · replace h := h.2 c14
      refine jx_iconst (v := 0) kd255.1 (by decide) ?_
      exact jx_iret kd255.2.1 rfl (by decide) (jle rfl) (jle rfl) ⟨_, rfl, h⟩
    replace h := h.1 c14
    refine jx_iconst (v := 1) kd254.2.2.2.2.2.2.2.1 (by decide) ?_
    refine jx_goto (tgt := 67) kd254.2.2.2.2.2.2.2.2.1 (by decide) ?_
    exact jx_iret kd255.2.1 rfl (by decide) (jle rfl) (jle rfl) ⟨_, rfl, h⟩
  replace h := h.2 c7
  refine jx_iconst (v := 0) kd253.2.2.2.1 (by decide) ?_
  exact jx_iret kd253.2.2.2.2.1 rfl (by decide) (jle rfl) (jle rfl) ⟨_, rfl, h⟩
set_option maxRecDepth 100000 in
set_option maxHeartbeats 4000000 in
theorem T_X8_textRead {E : jEnv} {d : Nat} {Q : Option Nat → jM → Prop} {a0 : Nat} {S : jM} (h : jk S a0 = 8 ∧ (¬ (ji S a0 9) < 0 ∧ (Int32.toNatClampNeg (ji S a0 9)) ≤ 4000 ∧ (0 + 1 ≤ 3 ∧ 0 + (Int32.toNatClampNeg (ji S a0 9)) ≤ 196)) ∧ (∀ q5, q5 = jn S → jk (jnew S 12 (Int32.toNatClampNeg (ji S a0 9))) a0 = 8 ∧ ∃ b7, jr (jnew S 12 (Int32.toNatClampNeg (ji S a0 9))) a0 8 = some b7 ∧ (jk (jnew S 12 (Int32.toNatClampNeg (ji S a0 9))) b7 = 12 ∧ jk (jnew S 12 (Int32.toNatClampNeg (ji S a0 9))) q5 = 12 ∧ (¬ (0 : Int32) < 0 ∧ ¬ (0 : Int32) < 0 ∧ ¬ (ji (jnew S 12 (Int32.toNatClampNeg (ji S a0 9))) a0 9) < 0 ∧ (Int32.toNatClampNeg 0) + (Int32.toNatClampNeg (ji (jnew S 12 (Int32.toNatClampNeg (ji S a0 9))) a0 9)) ≤ jl (jnew S 12 (Int32.toNatClampNeg (ji S a0 9))) b7 ∧ (Int32.toNatClampNeg 0) + (Int32.toNatClampNeg (ji (jnew S 12 (Int32.toNatClampNeg (ji S a0 9))) a0 9)) ≤ jl (jnew S 12 (Int32.toNatClampNeg (ji S a0 9))) q5) ∧ ((1 + 1 ≤ 3 ∧ (0 + (Int32.toNatClampNeg (ji S a0 9))) + 4 ≤ 196) ∧ ∀ q16, q16 = jn (jrow (jnew S 12 (Int32.toNatClampNeg (ji S a0 9))) q5 (va_cpy (ji (jnew S 12 (Int32.toNatClampNeg (ji S a0 9))) b7) (ji (jnew S 12 (Int32.toNatClampNeg (ji S a0 9))) q5) (Int32.toNatClampNeg 0) (Int32.toNatClampNeg 0) (Int32.toNatClampNeg (ji (jnew S 12 (Int32.toNatClampNeg (ji S a0 9))) a0 9)))) → jk (jnew (jrow (jnew S 12 (Int32.toNatClampNeg (ji S a0 9))) q5 (va_cpy (ji (jnew S 12 (Int32.toNatClampNeg (ji S a0 9))) b7) (ji (jnew S 12 (Int32.toNatClampNeg (ji S a0 9))) q5) (Int32.toNatClampNeg 0) (Int32.toNatClampNeg 0) (Int32.toNatClampNeg (ji (jnew S 12 (Int32.toNatClampNeg (ji S a0 9))) a0 9)))) 9 0) a0 = 8 ∧ ((1 + 1) + 1 ≤ 3 ∧ ((0 + (Int32.toNatClampNeg (ji S a0 9))) + 4) + 96 ≤ 196) ∧ jFv E mX9_init d 1 96 [.ref q16, .int (ji (jnew (jrow (jnew S 12 (Int32.toNatClampNeg (ji S a0 9))) q5 (va_cpy (ji (jnew S 12 (Int32.toNatClampNeg (ji S a0 9))) b7) (ji (jnew S 12 (Int32.toNatClampNeg (ji S a0 9))) q5) (Int32.toNatClampNeg 0) (Int32.toNatClampNeg 0) (Int32.toNatClampNeg (ji (jnew S 12 (Int32.toNatClampNeg (ji S a0 9))) a0 9)))) 9 0) a0 6), .int (ji (jnew (jrow (jnew S 12 (Int32.toNatClampNeg (ji S a0 9))) q5 (va_cpy (ji (jnew S 12 (Int32.toNatClampNeg (ji S a0 9))) b7) (ji (jnew S 12 (Int32.toNatClampNeg (ji S a0 9))) q5) (Int32.toNatClampNeg 0) (Int32.toNatClampNeg 0) (Int32.toNatClampNeg (ji (jnew S 12 (Int32.toNatClampNeg (ji S a0 9))) a0 9)))) 9 0) a0 7), .ref q5] (jnew (jrow (jnew S 12 (Int32.toNatClampNeg (ji S a0 9))) q5 (va_cpy (ji (jnew S 12 (Int32.toNatClampNeg (ji S a0 9))) b7) (ji (jnew S 12 (Int32.toNatClampNeg (ji S a0 9))) q5) (Int32.toNatClampNeg 0) (Int32.toNatClampNeg 0) (Int32.toNatClampNeg (ji (jnew S 12 (Int32.toNatClampNeg (ji S a0 9))) a0 9)))) 9 0) (fun S19 => (((1 + 1) + 1) ≤ 3 ∧ (((0 + (Int32.toNatClampNeg (ji S a0 9))) + 4) + 96) ≤ 196) ∧ Q (some q16) S19))))) : jFr E mX8_textRead (d + 1) 3 196 [.ref a0] S Q := by
  refine jF_of (by decide) (jle rfl) ?_
  refine jx_lv (lv1 := [(0, .ref a0)]) [0] rfl ?_
  refine jx_aload_n 0 kd256.1 rfl rfl ?_
  obtain ⟨hk1, h⟩ := h
  refine jx_geti jc_8 (j := 9) (by decide) rfl jwF_X8_35 kd256.2.1 hk1 ?_
  obtain ⟨⟨hn2, hn3, hn4⟩, h⟩ := h
  refine jx_newa jwA kd256.2.2.1 hn2 rfl hn3 hn4 ?_
  obtain ⟨q5, hq5⟩ : ∃ q, q = jn S := ⟨_, rfl⟩
  rw [← hq5]
  replace h := h q5 hq5
  refine jx_astore_n (lv1 := [(1, .ref q5), (0, .ref a0)]) kd256.2.2.2.1 rfl (by decide) rfl ?_
  refine jx_aload_n 1 kd256.2.2.2.2.1 rfl rfl ?_
  obtain ⟨hk6, h⟩ := h
  obtain ⟨b7, hb7, h⟩ := h
  refine jx_getr jc_8 (j := 8) (by decide) rfl jwF_X8_15 kd256.2.2.2.2.2.1 hk6 hb7 ?_
  refine jx_iconst (v := 0) kd256.2.2.2.2.2.2.1 (by decide) ?_
  refine jx_aload_n 0 kd256.2.2.2.2.2.2.2.1 rfl rfl ?_
  refine jx_iconst (v := 0) kd256.2.2.2.2.2.2.2.2.1 (by decide) ?_
  refine jx_aload_n 1 kd257.1 rfl rfl ?_
  refine jx_geti jc_8 (j := 9) (by decide) rfl jwF_X8_35 kd257.2.1 hk6 ?_
  obtain ⟨hk8, h⟩ := h
  obtain ⟨hk9, h⟩ := h
  obtain ⟨⟨hc10, hc11, hc12, hc13, hc14⟩, h⟩ := h
  refine jx_copy jwM_X8_52 jwV_copy jwS_copy jwZ_J10 kd257.2.2.1 (jRok_m _ _ _) (jle rfl) hk8 hk9 hc10 hc11 hc12 hc13 hc14 ?_
  obtain ⟨hm15, h⟩ := h
  refine jx_new jc_9 jwK_X8_58 jwI_X9 jwZ_X9 jdv_9 kd257.2.2.2.1 hm15 ?_
  obtain ⟨q16, hq16⟩ : ∃ q, q = jn (jrow (jnew S 12 (Int32.toNatClampNeg (ji S a0 9))) q5 (va_cpy (ji (jnew S 12 (Int32.toNatClampNeg (ji S a0 9))) b7) (ji (jnew S 12 (Int32.toNatClampNeg (ji S a0 9))) q5) (Int32.toNatClampNeg 0) (Int32.toNatClampNeg 0) (Int32.toNatClampNeg (ji (jnew S 12 (Int32.toNatClampNeg (ji S a0 9))) a0 9)))) := ⟨_, rfl⟩
  rw [← hq16]
  replace h := h q16 hq16
  refine jx_dup kd257.2.2.2.2.1 rfl ?_
  refine jx_aload_n 1 kd257.2.2.2.2.2.1 rfl rfl ?_
  obtain ⟨hk17, h⟩ := h
  refine jx_geti jc_8 (j := 6) (by decide) rfl jwF_X8_45 kd257.2.2.2.2.2.2.1 hk17 ?_
  refine jx_aload_n 1 kd257.2.2.2.2.2.2.2.1 rfl rfl ?_
  refine jx_geti jc_8 (j := 7) (by decide) rfl jwF_X8_32 kd257.2.2.2.2.2.2.2.2.1 hk17 ?_
  refine jx_aload_n 0 kd258.1 rfl rfl ?_
  obtain ⟨hm18, h⟩ := h
  refine jx_callIv (M' := mX9_init) (As := [.int (ji (jnew (jrow (jnew S 12 (Int32.toNatClampNeg (ji S a0 9))) q5 (va_cpy (ji (jnew S 12 (Int32.toNatClampNeg (ji S a0 9))) b7) (ji (jnew S 12 (Int32.toNatClampNeg (ji S a0 9))) q5) (Int32.toNatClampNeg 0) (Int32.toNatClampNeg 0) (Int32.toNatClampNeg (ji (jnew S 12 (Int32.toNatClampNeg (ji S a0 9))) a0 9)))) 9 0) a0 6), .int (ji (jnew (jrow (jnew S 12 (Int32.toNatClampNeg (ji S a0 9))) q5 (va_cpy (ji (jnew S 12 (Int32.toNatClampNeg (ji S a0 9))) b7) (ji (jnew S 12 (Int32.toNatClampNeg (ji S a0 9))) q5) (Int32.toNatClampNeg 0) (Int32.toNatClampNeg 0) (Int32.toNatClampNeg (ji (jnew S 12 (Int32.toNatClampNeg (ji S a0 9))) a0 9)))) 9 0) a0 7), .ref q5]) (b := q16) jo_X9_init rfl jwM_X8_60 jwN_X9_init rfl kd258.2.1 (jRok_m _ _ _) rfl (jle rfl) hm18 h (fun S19 h => ?_)
  obtain ⟨hm20, h⟩ := h
  exact jx_aret (o := (some q16)) kd258.2.2.1 rfl hm20.1 hm20.2 ⟨_, rfl, h⟩
/-- X8_step at its loop's head 35 -/
abbrev L_X8_step_35 (E : jEnv) (d : Nat) (Q : jM → Prop) (a0 : Nat) (x1 : Int32) (x2 : Int32) (S : jM) : Prop := jX E mX8_step (jRm (d + 1) 0 0) (jZm E (fun r S' => r = none ∧ Q S') 0 0) 35 [(0, .ref a0), (1, .int x1), (2, .int x2)] [] S 0 0
/-- X8_step at its loop's head 129 -/
abbrev L_X8_step_129 (E : jEnv) (d : Nat) (Q : jM → Prop) (a0 : Nat) (S : jM) : Prop := jX E mX8_step (jRm (d + 1) 0 0) (jZm E (fun r S' => r = none ∧ Q S') 0 0) 129 [(0, .ref a0)] [] S 0 0
set_option maxRecDepth 100000 in
set_option maxHeartbeats 4000000 in
theorem T_X8_step {E : jEnv} {d : Nat} {Q : jM → Prop} {a0 : Nat} {S : jM} (h : jk S a0 = 8 ∧ ((ji S a0 4) = 1 → L_X8_step_35 E d Q a0 1 (ji S a0 3) (jput S a0 2 (ji S a0 3))) ∧ (¬ (ji S a0 4) = 1 → ((ji S a0 4) = 2 → L_X8_step_35 E d Q a0 1 (ji S a0 3) (jput S a0 2 (ji S a0 3))) ∧ (¬ (ji S a0 4) = 2 → L_X8_step_35 E d Q a0 0 (ji S a0 3) (jput S a0 2 (ji S a0 3))))) : jFv E mX8_step (d + 1) 0 0 [.ref a0] S Q := by
  refine jF_of (by decide) (jle rfl) ?_
  refine jx_lv (lv1 := [(0, .ref a0)]) [0] rfl ?_
  refine jx_aload_n 0 kd259.1 rfl rfl ?_
  obtain ⟨hk1, h⟩ := h
  refine jx_geti jc_8 (j := 4) (by decide) rfl jwF_X8_29 kd259.2.1 hk1 ?_
  refine jx_iconst (v := 1) kd259.2.2.1 (by decide) ?_
  refine jx_icmp_eq (tgt := 16) kd259.2.2.2.1 (by decide) (fun c2 => ?_) (fun c2 => ?_)
  · replace h := h.1 c2
    refine jx_iconst (v := 1) kd259.2.2.2.2.2.2.2.2.1 (by decide) ?_
    refine jx_goto (tgt := 21) kd260.1 (by decide) ?_
    refine jx_istore_n (lv1 := [(1, .int 1), (0, .ref a0)]) kd260.2.2.1 rfl (by decide) rfl ?_
    refine jx_aload_n 1 kd260.2.2.2.1 rfl rfl ?_
    refine jx_geti jc_8 (j := 3) (by decide) rfl jwF_X8_26 kd260.2.2.2.2.1 hk1 ?_
    refine jx_istore_n (lv1 := [(2, .int (ji S a0 3)), (1, .int 1), (0, .ref a0)]) kd260.2.2.2.2.2.1 rfl (by decide) rfl ?_
    refine jx_aload_n 2 kd260.2.2.2.2.2.2.1 rfl rfl ?_
    refine jx_aload_n 2 kd260.2.2.2.2.2.2.2.1 rfl rfl ?_
    refine jx_geti jc_8 (j := 3) (by decide) rfl jwF_X8_26 kd260.2.2.2.2.2.2.2.2.1 hk1 ?_
    refine jx_puti jc_8 (j := 2) (by decide) rfl jwF_X8_63 rfl rfl rfl kd261.1 hk1 ?_
    exact jx_lv [2, 1, 0] rfl h
  replace h := h.2 c2
  refine jx_aload_n 0 kd259.2.2.2.2.1 rfl rfl ?_
  refine jx_geti jc_8 (j := 4) (by decide) rfl jwF_X8_29 kd259.2.2.2.2.2.1 hk1 ?_
  refine jx_iconst (v := 2) kd259.2.2.2.2.2.2.1 (by decide) ?_
  refine jx_icmp_ne (tgt := 20) kd259.2.2.2.2.2.2.2.1 (by decide) (fun c3 => ?_) (fun c3 => ?_)
  · replace h := h.2 c3
    refine jx_iconst (v := 0) kd260.2.1 (by decide) ?_
    refine jx_istore_n (lv1 := [(1, .int 0), (0, .ref a0)]) kd260.2.2.1 rfl (by decide) rfl ?_
    refine jx_aload_n 1 kd260.2.2.2.1 rfl rfl ?_
    refine jx_geti jc_8 (j := 3) (by decide) rfl jwF_X8_26 kd260.2.2.2.2.1 hk1 ?_
    refine jx_istore_n (lv1 := [(2, .int (ji S a0 3)), (1, .int 0), (0, .ref a0)]) kd260.2.2.2.2.2.1 rfl (by decide) rfl ?_
    refine jx_aload_n 2 kd260.2.2.2.2.2.2.1 rfl rfl ?_
    refine jx_aload_n 2 kd260.2.2.2.2.2.2.2.1 rfl rfl ?_
    refine jx_geti jc_8 (j := 3) (by decide) rfl jwF_X8_26 kd260.2.2.2.2.2.2.2.2.1 hk1 ?_
    refine jx_puti jc_8 (j := 2) (by decide) rfl jwF_X8_63 rfl rfl rfl kd261.1 hk1 ?_
    exact jx_lv [2, 1, 0] rfl h
  replace h := h.1 c3
  refine jx_iconst (v := 1) kd259.2.2.2.2.2.2.2.2.1 (by decide) ?_
  refine jx_goto (tgt := 21) kd260.1 (by decide) ?_
  refine jx_istore_n (lv1 := [(1, .int 1), (0, .ref a0)]) kd260.2.2.1 rfl (by decide) rfl ?_
  refine jx_aload_n 1 kd260.2.2.2.1 rfl rfl ?_
  refine jx_geti jc_8 (j := 3) (by decide) rfl jwF_X8_26 kd260.2.2.2.2.1 hk1 ?_
  refine jx_istore_n (lv1 := [(2, .int (ji S a0 3)), (1, .int 1), (0, .ref a0)]) kd260.2.2.2.2.2.1 rfl (by decide) rfl ?_
  refine jx_aload_n 2 kd260.2.2.2.2.2.2.1 rfl rfl ?_
  refine jx_aload_n 2 kd260.2.2.2.2.2.2.2.1 rfl rfl ?_
  refine jx_geti jc_8 (j := 3) (by decide) rfl jwF_X8_26 kd260.2.2.2.2.2.2.2.2.1 hk1 ?_
  refine jx_puti jc_8 (j := 2) (by decide) rfl jwF_X8_63 rfl rfl rfl kd261.1 hk1 ?_
  exact jx_lv [2, 1, 0] rfl h
set_option maxRecDepth 100000 in
set_option maxHeartbeats 4000000 in
theorem T_X8_step_35 {E : jEnv} {d : Nat} {Q : jM → Prop} {a0 : Nat} {x1 : Int32} {x2 : Int32} {S : jM} (h : jk S a0 = 8 ∧ ((ji S a0 1) ≤ (ji S a0 2) → jFi E mX8_sortAt d 0 0 [.ref a0, .int (ji S a0 2)] S (fun r7 S6 => jk S6 a0 = 8 ∧ (x1 = 0 → (r7 = 0 → L_X8_step_129 E d Q a0 (jput (jput (jput S6 a0 4 r7) a0 5 0) a0 3 (ji S6 a0 2))) ∧ (¬ r7 = 0 → L_X8_step_129 E d Q a0 (jput (jput (jput S6 a0 4 r7) a0 5 0) a0 3 ((ji S6 a0 2) + 1)))) ∧ (¬ x1 = 0 → ((ji S6 a0 2) = x2 → (r7 = 0 → L_X8_step_129 E d Q a0 (jput (jput (jput S6 a0 4 r7) a0 5 1) a0 3 (ji S6 a0 2))) ∧ (¬ r7 = 0 → L_X8_step_129 E d Q a0 (jput (jput (jput S6 a0 4 r7) a0 5 1) a0 3 ((ji S6 a0 2) + 1)))) ∧ (¬ (ji S6 a0 2) = x2 → (r7 = 0 → L_X8_step_129 E d Q a0 (jput (jput (jput S6 a0 4 r7) a0 5 0) a0 3 (ji S6 a0 2))) ∧ (¬ r7 = 0 → L_X8_step_129 E d Q a0 (jput (jput (jput S6 a0 4 r7) a0 5 0) a0 3 ((ji S6 a0 2) + 1))))))) ∧ (¬ (ji S a0 1) ≤ (ji S a0 2) → jFi E mX8_byteAt d 0 0 [.ref a0, .int (ji S a0 2)] S (fun r15 S14 => (r15 = 32 → jk S14 a0 = 8 ∧ L_X8_step_35 E d Q a0 x1 x2 (jput S14 a0 2 ((ji S14 a0 2) + 1))) ∧ (¬ r15 = 32 → jk S14 a0 = 8 ∧ jFi E mX8_sortAt d 0 0 [.ref a0, .int (ji S14 a0 2)] S14 (fun r19 S18 => jk S18 a0 = 8 ∧ (x1 = 0 → (r19 = 0 → L_X8_step_129 E d Q a0 (jput (jput (jput S18 a0 4 r19) a0 5 0) a0 3 (ji S18 a0 2))) ∧ (¬ r19 = 0 → L_X8_step_129 E d Q a0 (jput (jput (jput S18 a0 4 r19) a0 5 0) a0 3 ((ji S18 a0 2) + 1)))) ∧ (¬ x1 = 0 → ((ji S18 a0 2) = x2 → (r19 = 0 → L_X8_step_129 E d Q a0 (jput (jput (jput S18 a0 4 r19) a0 5 1) a0 3 (ji S18 a0 2))) ∧ (¬ r19 = 0 → L_X8_step_129 E d Q a0 (jput (jput (jput S18 a0 4 r19) a0 5 1) a0 3 ((ji S18 a0 2) + 1)))) ∧ (¬ (ji S18 a0 2) = x2 → (r19 = 0 → L_X8_step_129 E d Q a0 (jput (jput (jput S18 a0 4 r19) a0 5 0) a0 3 (ji S18 a0 2))) ∧ (¬ r19 = 0 → L_X8_step_129 E d Q a0 (jput (jput (jput S18 a0 4 r19) a0 5 0) a0 3 ((ji S18 a0 2) + 1)))))))))) : L_X8_step_35 E d Q a0 x1 x2 S := by
  show jX E mX8_step (jRm (d + 1) 0 0) (jZm E (fun r S' => r = none ∧ Q S') 0 0) 35 [(0, .ref a0), (1, .int x1), (2, .int x2)] [] S 0 0
  refine jx_aload_n 0 kd261.2.1 rfl rfl ?_
  obtain ⟨hk4, h⟩ := h
  refine jx_geti jc_8 (j := 2) (by decide) rfl jwF_X8_63 kd261.2.2.1 hk4 ?_
  refine jx_aload_n 0 kd261.2.2.2.1 rfl rfl ?_
  refine jx_geti jc_8 (j := 1) (by decide) rfl jwF_X8_18 kd261.2.2.2.2.1 hk4 ?_
  refine jx_icmp_ge (tgt := 72) kd261.2.2.2.2.2.1 (by decide) (fun c5 => ?_) (fun c5 => ?_)
  · replace h := h.1 c5
    refine jx_aload_n 0 kd263.2.1 rfl rfl ?_
    refine jx_aload_n 0 kd263.2.2.1 rfl rfl ?_
    refine jx_aload_n 0 kd263.2.2.2.1 rfl rfl ?_
    refine jx_geti jc_8 (j := 2) (by decide) rfl jwF_X8_63 kd263.2.2.2.2.1 hk4 ?_
    refine jx_callVi (M' := mX8_sortAt) (As := [.int (ji S a0 2)]) jo_X8_sortAt jc_8 rfl jwM_X8_70 jwN_X8_sortAt jwX_X8_sortAt kd263.2.2.2.2.2.1 (jRok_m _ _ _) rfl (jle rfl) ⟨jle rfl, jle rfl⟩ hk4 h (fun r7 S6 h => ?_)
    obtain ⟨hk8, h⟩ := h
    refine jx_puti jc_8 (j := 4) (by decide) rfl jwF_X8_29 rfl rfl rfl kd263.2.2.2.2.2.2.1 hk8 ?_
    refine jx_aload_n 0 kd263.2.2.2.2.2.2.2.1 rfl rfl ?_
    refine jx_iload_n 1 kd263.2.2.2.2.2.2.2.2.1 rfl rfl ?_
    refine jx_if_eq (tgt := 101) kd264.1 (by decide) (fun c9 => ?_) (fun c9 => ?_)
    · replace h := h.1 c9
      refine jx_iconst (v := 0) kd264.2.2.2.2.2.2.2.1 (by decide) ?_
      refine jx_puti jc_8 (j := 5) (by decide) rfl jwF_X8_73 rfl (by decide) (by decide) kd264.2.2.2.2.2.2.2.2.1 hk8 ?_
      refine jx_aload_n 0 kd265.1 rfl rfl ?_
      refine jx_aload_n 0 kd265.2.1 rfl rfl ?_
      refine jx_geti jc_8 (j := 4) (by decide) rfl jwF_X8_29 kd265.2.2.1 hk8 ?_
      refine jx_topi (y := r7) (by simp [ji_put, ji_row, ji_putr]) ?_
      refine jx_if_ne (tgt := 120) kd265.2.2.2.1 (by decide) (fun c10 => ?_) (fun c10 => ?_)
      · replace h := h.2 c10
        refine jx_aload_n 0 kd265.2.2.2.2.2.2.2.1 rfl rfl ?_
        refine jx_geti jc_8 (j := 2) (by decide) rfl jwF_X8_63 kd265.2.2.2.2.2.2.2.2.1 hk8 ?_
        refine jx_topi (y := (ji S6 a0 2)) (by simp [ji_put, ji_row, ji_putr]) ?_
        refine jx_iconst (v := 1) kd266.1 (by decide) ?_
        refine jx_iadd kd266.2.1 ?_
        refine jx_puti jc_8 (j := 3) (by decide) rfl jwF_X8_26 rfl rfl rfl kd266.2.2.1 hk8 ?_
        exact jx_lv [0] rfl h
      replace h := h.1 c10
      refine jx_aload_n 0 kd265.2.2.2.2.1 rfl rfl ?_
      refine jx_geti jc_8 (j := 2) (by decide) rfl jwF_X8_63 kd265.2.2.2.2.2.1 hk8 ?_
      refine jx_topi (y := (ji S6 a0 2)) (by simp [ji_put, ji_row, ji_putr]) ?_
      refine jx_goto (tgt := 126) kd265.2.2.2.2.2.2.1 (by decide) ?_
      refine jx_puti jc_8 (j := 3) (by decide) rfl jwF_X8_26 rfl rfl rfl kd266.2.2.1 hk8 ?_
      exact jx_lv [0] rfl h
    replace h := h.2 c9
    refine jx_aload_n 0 kd264.2.1 rfl rfl ?_
    refine jx_geti jc_8 (j := 2) (by decide) rfl jwF_X8_63 kd264.2.2.1 hk8 ?_
    refine jx_topi (y := (ji S6 a0 2)) (by simp [ji_put, ji_row, ji_putr]) ?_
    refine jx_iload_n 2 kd264.2.2.2.1 rfl rfl ?_
    refine jx_icmp_ne (tgt := 101) kd264.2.2.2.2.1 (by decide) (fun c11 => ?_) (fun c11 => ?_)
    · replace h := h.2 c11
      refine jx_iconst (v := 0) kd264.2.2.2.2.2.2.2.1 (by decide) ?_
      refine jx_puti jc_8 (j := 5) (by decide) rfl jwF_X8_73 rfl (by decide) (by decide) kd264.2.2.2.2.2.2.2.2.1 hk8 ?_
      refine jx_aload_n 0 kd265.1 rfl rfl ?_
      refine jx_aload_n 0 kd265.2.1 rfl rfl ?_
      refine jx_geti jc_8 (j := 4) (by decide) rfl jwF_X8_29 kd265.2.2.1 hk8 ?_
      refine jx_topi (y := r7) (by simp [ji_put, ji_row, ji_putr]) ?_
      refine jx_if_ne (tgt := 120) kd265.2.2.2.1 (by decide) (fun c12 => ?_) (fun c12 => ?_)
      · replace h := h.2 c12
        refine jx_aload_n 0 kd265.2.2.2.2.2.2.2.1 rfl rfl ?_
        refine jx_geti jc_8 (j := 2) (by decide) rfl jwF_X8_63 kd265.2.2.2.2.2.2.2.2.1 hk8 ?_
        refine jx_topi (y := (ji S6 a0 2)) (by simp [ji_put, ji_row, ji_putr]) ?_
        refine jx_iconst (v := 1) kd266.1 (by decide) ?_
        refine jx_iadd kd266.2.1 ?_
        refine jx_puti jc_8 (j := 3) (by decide) rfl jwF_X8_26 rfl rfl rfl kd266.2.2.1 hk8 ?_
        exact jx_lv [0] rfl h
      replace h := h.1 c12
      refine jx_aload_n 0 kd265.2.2.2.2.1 rfl rfl ?_
      refine jx_geti jc_8 (j := 2) (by decide) rfl jwF_X8_63 kd265.2.2.2.2.2.1 hk8 ?_
      refine jx_topi (y := (ji S6 a0 2)) (by simp [ji_put, ji_row, ji_putr]) ?_
      refine jx_goto (tgt := 126) kd265.2.2.2.2.2.2.1 (by decide) ?_
      refine jx_puti jc_8 (j := 3) (by decide) rfl jwF_X8_26 rfl rfl rfl kd266.2.2.1 hk8 ?_
      exact jx_lv [0] rfl h
    replace h := h.1 c11
    refine jx_iconst (v := 1) kd264.2.2.2.2.2.1 (by decide) ?_
    refine jx_goto (tgt := 102) kd264.2.2.2.2.2.2.1 (by decide) ?_
    refine jx_puti jc_8 (j := 5) (by decide) rfl jwF_X8_73 rfl (by decide) (by decide) kd264.2.2.2.2.2.2.2.2.1 hk8 ?_
    refine jx_aload_n 0 kd265.1 rfl rfl ?_
    refine jx_aload_n 0 kd265.2.1 rfl rfl ?_
    refine jx_geti jc_8 (j := 4) (by decide) rfl jwF_X8_29 kd265.2.2.1 hk8 ?_
    refine jx_topi (y := r7) (by simp [ji_put, ji_row, ji_putr]) ?_
    refine jx_if_ne (tgt := 120) kd265.2.2.2.1 (by decide) (fun c13 => ?_) (fun c13 => ?_)
    · replace h := h.2 c13
      refine jx_aload_n 0 kd265.2.2.2.2.2.2.2.1 rfl rfl ?_
      refine jx_geti jc_8 (j := 2) (by decide) rfl jwF_X8_63 kd265.2.2.2.2.2.2.2.2.1 hk8 ?_
      refine jx_topi (y := (ji S6 a0 2)) (by simp [ji_put, ji_row, ji_putr]) ?_
      refine jx_iconst (v := 1) kd266.1 (by decide) ?_
      refine jx_iadd kd266.2.1 ?_
      refine jx_puti jc_8 (j := 3) (by decide) rfl jwF_X8_26 rfl rfl rfl kd266.2.2.1 hk8 ?_
      exact jx_lv [0] rfl h
    replace h := h.1 c13
    refine jx_aload_n 0 kd265.2.2.2.2.1 rfl rfl ?_
    refine jx_geti jc_8 (j := 2) (by decide) rfl jwF_X8_63 kd265.2.2.2.2.2.1 hk8 ?_
    refine jx_topi (y := (ji S6 a0 2)) (by simp [ji_put, ji_row, ji_putr]) ?_
    refine jx_goto (tgt := 126) kd265.2.2.2.2.2.2.1 (by decide) ?_
    refine jx_puti jc_8 (j := 3) (by decide) rfl jwF_X8_26 rfl rfl rfl kd266.2.2.1 hk8 ?_
    exact jx_lv [0] rfl h
  replace h := h.2 c5
  refine jx_aload_n 0 kd261.2.2.2.2.2.2.1 rfl rfl ?_
  refine jx_aload_n 0 kd261.2.2.2.2.2.2.2.1 rfl rfl ?_
  refine jx_geti jc_8 (j := 2) (by decide) rfl jwF_X8_63 kd261.2.2.2.2.2.2.2.2.1 hk4 ?_
  refine jx_callVi (M' := mX8_byteAt) (As := [.int (ji S a0 2)]) jo_X8_byteAt jc_8 rfl jwM_X8_66 jwN_X8_byteAt jwX_X8_byteAt kd262.1 (jRok_m _ _ _) rfl (jle rfl) ⟨jle rfl, jle rfl⟩ hk4 h (fun r15 S14 h => ?_)
  refine jx_bipush (v := 32) kd262.2.1 (by decide) ?_
  refine jx_icmp_ne (tgt := 72) kd262.2.2.1 (by decide) (fun c16 => ?_) (fun c16 => ?_)
  · replace h := h.2 c16
    refine jx_aload_n 0 kd263.2.1 rfl rfl ?_
    refine jx_aload_n 0 kd263.2.2.1 rfl rfl ?_
    refine jx_aload_n 0 kd263.2.2.2.1 rfl rfl ?_
    obtain ⟨hk17, h⟩ := h
    refine jx_geti jc_8 (j := 2) (by decide) rfl jwF_X8_63 kd263.2.2.2.2.1 hk17 ?_
    refine jx_callVi (M' := mX8_sortAt) (As := [.int (ji S14 a0 2)]) jo_X8_sortAt jc_8 rfl jwM_X8_70 jwN_X8_sortAt jwX_X8_sortAt kd263.2.2.2.2.2.1 (jRok_m _ _ _) rfl (jle rfl) ⟨jle rfl, jle rfl⟩ hk17 h (fun r19 S18 h => ?_)
    obtain ⟨hk20, h⟩ := h
    refine jx_puti jc_8 (j := 4) (by decide) rfl jwF_X8_29 rfl rfl rfl kd263.2.2.2.2.2.2.1 hk20 ?_
    refine jx_aload_n 0 kd263.2.2.2.2.2.2.2.1 rfl rfl ?_
    refine jx_iload_n 1 kd263.2.2.2.2.2.2.2.2.1 rfl rfl ?_
    refine jx_if_eq (tgt := 101) kd264.1 (by decide) (fun c21 => ?_) (fun c21 => ?_)
    · replace h := h.1 c21
      refine jx_iconst (v := 0) kd264.2.2.2.2.2.2.2.1 (by decide) ?_
      refine jx_puti jc_8 (j := 5) (by decide) rfl jwF_X8_73 rfl (by decide) (by decide) kd264.2.2.2.2.2.2.2.2.1 hk20 ?_
      refine jx_aload_n 0 kd265.1 rfl rfl ?_
      refine jx_aload_n 0 kd265.2.1 rfl rfl ?_
      refine jx_geti jc_8 (j := 4) (by decide) rfl jwF_X8_29 kd265.2.2.1 hk20 ?_
      refine jx_topi (y := r19) (by simp [ji_put, ji_row, ji_putr]) ?_
      refine jx_if_ne (tgt := 120) kd265.2.2.2.1 (by decide) (fun c22 => ?_) (fun c22 => ?_)
      · replace h := h.2 c22
        refine jx_aload_n 0 kd265.2.2.2.2.2.2.2.1 rfl rfl ?_
        refine jx_geti jc_8 (j := 2) (by decide) rfl jwF_X8_63 kd265.2.2.2.2.2.2.2.2.1 hk20 ?_
        refine jx_topi (y := (ji S18 a0 2)) (by simp [ji_put, ji_row, ji_putr]) ?_
        refine jx_iconst (v := 1) kd266.1 (by decide) ?_
        refine jx_iadd kd266.2.1 ?_
        refine jx_puti jc_8 (j := 3) (by decide) rfl jwF_X8_26 rfl rfl rfl kd266.2.2.1 hk20 ?_
        exact jx_lv [0] rfl h
      replace h := h.1 c22
      refine jx_aload_n 0 kd265.2.2.2.2.1 rfl rfl ?_
      refine jx_geti jc_8 (j := 2) (by decide) rfl jwF_X8_63 kd265.2.2.2.2.2.1 hk20 ?_
      refine jx_topi (y := (ji S18 a0 2)) (by simp [ji_put, ji_row, ji_putr]) ?_
      refine jx_goto (tgt := 126) kd265.2.2.2.2.2.2.1 (by decide) ?_
      refine jx_puti jc_8 (j := 3) (by decide) rfl jwF_X8_26 rfl rfl rfl kd266.2.2.1 hk20 ?_
      exact jx_lv [0] rfl h
    replace h := h.2 c21
    refine jx_aload_n 0 kd264.2.1 rfl rfl ?_
    refine jx_geti jc_8 (j := 2) (by decide) rfl jwF_X8_63 kd264.2.2.1 hk20 ?_
    refine jx_topi (y := (ji S18 a0 2)) (by simp [ji_put, ji_row, ji_putr]) ?_
    refine jx_iload_n 2 kd264.2.2.2.1 rfl rfl ?_
    refine jx_icmp_ne (tgt := 101) kd264.2.2.2.2.1 (by decide) (fun c23 => ?_) (fun c23 => ?_)
    · replace h := h.2 c23
      refine jx_iconst (v := 0) kd264.2.2.2.2.2.2.2.1 (by decide) ?_
      refine jx_puti jc_8 (j := 5) (by decide) rfl jwF_X8_73 rfl (by decide) (by decide) kd264.2.2.2.2.2.2.2.2.1 hk20 ?_
      refine jx_aload_n 0 kd265.1 rfl rfl ?_
      refine jx_aload_n 0 kd265.2.1 rfl rfl ?_
      refine jx_geti jc_8 (j := 4) (by decide) rfl jwF_X8_29 kd265.2.2.1 hk20 ?_
      refine jx_topi (y := r19) (by simp [ji_put, ji_row, ji_putr]) ?_
      refine jx_if_ne (tgt := 120) kd265.2.2.2.1 (by decide) (fun c24 => ?_) (fun c24 => ?_)
      · replace h := h.2 c24
        refine jx_aload_n 0 kd265.2.2.2.2.2.2.2.1 rfl rfl ?_
        refine jx_geti jc_8 (j := 2) (by decide) rfl jwF_X8_63 kd265.2.2.2.2.2.2.2.2.1 hk20 ?_
        refine jx_topi (y := (ji S18 a0 2)) (by simp [ji_put, ji_row, ji_putr]) ?_
        refine jx_iconst (v := 1) kd266.1 (by decide) ?_
        refine jx_iadd kd266.2.1 ?_
        refine jx_puti jc_8 (j := 3) (by decide) rfl jwF_X8_26 rfl rfl rfl kd266.2.2.1 hk20 ?_
        exact jx_lv [0] rfl h
      replace h := h.1 c24
      refine jx_aload_n 0 kd265.2.2.2.2.1 rfl rfl ?_
      refine jx_geti jc_8 (j := 2) (by decide) rfl jwF_X8_63 kd265.2.2.2.2.2.1 hk20 ?_
      refine jx_topi (y := (ji S18 a0 2)) (by simp [ji_put, ji_row, ji_putr]) ?_
      refine jx_goto (tgt := 126) kd265.2.2.2.2.2.2.1 (by decide) ?_
      refine jx_puti jc_8 (j := 3) (by decide) rfl jwF_X8_26 rfl rfl rfl kd266.2.2.1 hk20 ?_
      exact jx_lv [0] rfl h
    replace h := h.1 c23
    refine jx_iconst (v := 1) kd264.2.2.2.2.2.1 (by decide) ?_
    refine jx_goto (tgt := 102) kd264.2.2.2.2.2.2.1 (by decide) ?_
    refine jx_puti jc_8 (j := 5) (by decide) rfl jwF_X8_73 rfl (by decide) (by decide) kd264.2.2.2.2.2.2.2.2.1 hk20 ?_
    refine jx_aload_n 0 kd265.1 rfl rfl ?_
    refine jx_aload_n 0 kd265.2.1 rfl rfl ?_
    refine jx_geti jc_8 (j := 4) (by decide) rfl jwF_X8_29 kd265.2.2.1 hk20 ?_
    refine jx_topi (y := r19) (by simp [ji_put, ji_row, ji_putr]) ?_
    refine jx_if_ne (tgt := 120) kd265.2.2.2.1 (by decide) (fun c25 => ?_) (fun c25 => ?_)
    · replace h := h.2 c25
      refine jx_aload_n 0 kd265.2.2.2.2.2.2.2.1 rfl rfl ?_
      refine jx_geti jc_8 (j := 2) (by decide) rfl jwF_X8_63 kd265.2.2.2.2.2.2.2.2.1 hk20 ?_
      refine jx_topi (y := (ji S18 a0 2)) (by simp [ji_put, ji_row, ji_putr]) ?_
      refine jx_iconst (v := 1) kd266.1 (by decide) ?_
      refine jx_iadd kd266.2.1 ?_
      refine jx_puti jc_8 (j := 3) (by decide) rfl jwF_X8_26 rfl rfl rfl kd266.2.2.1 hk20 ?_
      exact jx_lv [0] rfl h
    replace h := h.1 c25
    refine jx_aload_n 0 kd265.2.2.2.2.1 rfl rfl ?_
    refine jx_geti jc_8 (j := 2) (by decide) rfl jwF_X8_63 kd265.2.2.2.2.2.1 hk20 ?_
    refine jx_topi (y := (ji S18 a0 2)) (by simp [ji_put, ji_row, ji_putr]) ?_
    refine jx_goto (tgt := 126) kd265.2.2.2.2.2.2.1 (by decide) ?_
    refine jx_puti jc_8 (j := 3) (by decide) rfl jwF_X8_26 rfl rfl rfl kd266.2.2.1 hk20 ?_
    exact jx_lv [0] rfl h
  replace h := h.1 c16
  refine jx_aload_n 0 kd262.2.2.2.1 rfl rfl ?_
  refine jx_dup kd262.2.2.2.2.1 rfl ?_
  obtain ⟨hk26, h⟩ := h
  refine jx_geti jc_8 (j := 2) (by decide) rfl jwF_X8_63 kd262.2.2.2.2.2.1 hk26 ?_
  refine jx_iconst (v := 1) kd262.2.2.2.2.2.2.1 (by decide) ?_
  refine jx_iadd kd262.2.2.2.2.2.2.2.1 ?_
  refine jx_puti jc_8 (j := 2) (by decide) rfl jwF_X8_63 rfl rfl rfl kd262.2.2.2.2.2.2.2.2.1 hk26 ?_
  refine jx_goto (tgt := 35) kd263.1 (by decide) ?_
  exact jx_lv [0, 1, 2] rfl h
set_option maxRecDepth 100000 in
set_option maxHeartbeats 4000000 in
theorem T_X8_step_129 {E : jEnv} {d : Nat} {Q : jM → Prop} {a0 : Nat} {S : jM} (h : jk S a0 = 8 ∧ ((ji S a0 1) ≤ (ji S a0 3) → Q S) ∧ (¬ (ji S a0 1) ≤ (ji S a0 3) → ((ji S a0 4) = 3 → Q S) ∧ (¬ (ji S a0 4) = 3 → jFi E mX8_sortAt d 0 0 [.ref a0, .int (ji S a0 3)] S (fun r31 S30 => jk S30 a0 = 8 ∧ (r31 = (ji S30 a0 4) → L_X8_step_129 E d Q a0 (jput S30 a0 3 ((ji S30 a0 3) + 1))) ∧ (¬ r31 = (ji S30 a0 4) → Q S30))))) : L_X8_step_129 E d Q a0 S := by
  show jX E mX8_step (jRm (d + 1) 0 0) (jZm E (fun r S' => r = none ∧ Q S') 0 0) 129 [(0, .ref a0)] [] S 0 0
  refine jx_aload_n 0 kd266.2.2.2.1 rfl rfl ?_
  obtain ⟨hk27, h⟩ := h
  refine jx_geti jc_8 (j := 3) (by decide) rfl jwF_X8_26 kd266.2.2.2.2.1 hk27 ?_
  refine jx_aload_n 0 kd266.2.2.2.2.2.1 rfl rfl ?_
  refine jx_geti jc_8 (j := 1) (by decide) rfl jwF_X8_18 kd266.2.2.2.2.2.2.1 hk27 ?_
  refine jx_icmp_ge (tgt := 176) kd266.2.2.2.2.2.2.2.1 (by decide) (fun c28 => ?_) (fun c28 => ?_)
  · replace h := h.1 c28
    exact jx_vret kd268.2.2.2.2.2.2.2.2.1 rfl (jle rfl) (jle rfl) ⟨rfl, h⟩
  replace h := h.2 c28
  refine jx_aload_n 0 kd266.2.2.2.2.2.2.2.2.1 rfl rfl ?_
  refine jx_geti jc_8 (j := 4) (by decide) rfl jwF_X8_29 kd267.1 hk27 ?_
  refine jx_iconst (v := 3) kd267.2.1 (by decide) ?_
  refine jx_icmp_eq (tgt := 176) kd267.2.2.1 (by decide) (fun c29 => ?_) (fun c29 => ?_)
  · replace h := h.1 c29
    exact jx_vret kd268.2.2.2.2.2.2.2.2.1 rfl (jle rfl) (jle rfl) ⟨rfl, h⟩
  replace h := h.2 c29
  refine jx_aload_n 0 kd267.2.2.2.1 rfl rfl ?_
  refine jx_aload_n 0 kd267.2.2.2.2.1 rfl rfl ?_
  refine jx_geti jc_8 (j := 3) (by decide) rfl jwF_X8_26 kd267.2.2.2.2.2.1 hk27 ?_
  refine jx_callVi (M' := mX8_sortAt) (As := [.int (ji S a0 3)]) jo_X8_sortAt jc_8 rfl jwM_X8_70 jwN_X8_sortAt jwX_X8_sortAt kd267.2.2.2.2.2.2.1 (jRok_m _ _ _) rfl (jle rfl) ⟨jle rfl, jle rfl⟩ hk27 h (fun r31 S30 h => ?_)
  refine jx_aload_n 0 kd267.2.2.2.2.2.2.2.1 rfl rfl ?_
  obtain ⟨hk32, h⟩ := h
  refine jx_geti jc_8 (j := 4) (by decide) rfl jwF_X8_29 kd267.2.2.2.2.2.2.2.2.1 hk32 ?_
  refine jx_icmp_ne (tgt := 176) kd268.1 (by decide) (fun c33 => ?_) (fun c33 => ?_)
  · replace h := h.2 c33
    exact jx_vret kd268.2.2.2.2.2.2.2.2.1 rfl (jle rfl) (jle rfl) ⟨rfl, h⟩
  replace h := h.1 c33
  refine jx_aload_n 0 kd268.2.1 rfl rfl ?_
  refine jx_dup kd268.2.2.1 rfl ?_
  refine jx_geti jc_8 (j := 3) (by decide) rfl jwF_X8_26 kd268.2.2.2.1 hk32 ?_
  refine jx_iconst (v := 1) kd268.2.2.2.2.1 (by decide) ?_
  refine jx_iadd kd268.2.2.2.2.2.1 ?_
  refine jx_puti jc_8 (j := 3) (by decide) rfl jwF_X8_26 rfl rfl rfl kd268.2.2.2.2.2.2.1 hk32 ?_
  refine jx_goto (tgt := 129) kd268.2.2.2.2.2.2.2.1 (by decide) ?_
  exact jx_lv [0] rfl h
set_option maxRecDepth 100000 in
set_option maxHeartbeats 4000000 in
theorem T_X8_byteAt {E : jEnv} {d : Nat} {Q : Int32 → jM → Prop} {a0 : Nat} {x1 : Int32} {S : jM} (h : (x1 < 0 → Q 0 S) ∧ (¬ x1 < 0 → jk S a0 = 8 ∧ ((ji S a0 1) ≤ x1 → Q 0 S) ∧ (¬ (ji S a0 1) ≤ x1 → (96 ≤ x1 → Q 0 S) ∧ (¬ 96 ≤ x1 → ∃ b5, jr S a0 0 = some b5 ∧ (jk S b5 = 12 ∧ vp_in x1 (jl S b5) ∧ (Q (ji S b5 (Int32.toNatClampNeg x1)) S)))))) : jFi E mX8_byteAt d 0 0 [.ref a0, .int x1] S Q := by
  refine jF_of (by decide) (jle rfl) ?_
  refine jx_lv (lv1 := [(0, .ref a0), (1, .int x1)]) [0, 1] rfl ?_
  refine jx_iload_n 1 kd269.1 rfl rfl ?_
  refine jx_if_lt (tgt := 27) kd269.2.1 (by decide) (fun c1 => ?_) (fun c1 => ?_)
  · replace h := h.1 c1
    refine jx_iconst (v := 0) kd270.2.2.2.2.2.1 (by decide) ?_
    exact jx_iret kd270.2.2.2.2.2.2.1 rfl rfl (jle rfl) (jle rfl) ⟨_, rfl, h⟩
  replace h := h.2 c1
  refine jx_iload_n 1 kd269.2.2.1 rfl rfl ?_
  refine jx_aload_n 0 kd269.2.2.2.1 rfl rfl ?_
  obtain ⟨hk2, h⟩ := h
  refine jx_geti jc_8 (j := 1) (by decide) rfl jwF_X8_18 kd269.2.2.2.2.1 hk2 ?_
  refine jx_icmp_ge (tgt := 27) kd269.2.2.2.2.2.1 (by decide) (fun c3 => ?_) (fun c3 => ?_)
  · replace h := h.1 c3
    refine jx_iconst (v := 0) kd270.2.2.2.2.2.1 (by decide) ?_
    exact jx_iret kd270.2.2.2.2.2.2.1 rfl rfl (jle rfl) (jle rfl) ⟨_, rfl, h⟩
  replace h := h.2 c3
  refine jx_iload_n 1 kd269.2.2.2.2.2.2.1 rfl rfl ?_
  refine jx_bipush (v := 96) kd269.2.2.2.2.2.2.2.1 (by decide) ?_
  refine jx_icmp_ge (tgt := 27) kd269.2.2.2.2.2.2.2.2.1 (by decide) (fun c4 => ?_) (fun c4 => ?_)
  · replace h := h.1 c4
    refine jx_iconst (v := 0) kd270.2.2.2.2.2.1 (by decide) ?_
    exact jx_iret kd270.2.2.2.2.2.2.1 rfl rfl (jle rfl) (jle rfl) ⟨_, rfl, h⟩
  replace h := h.2 c4
  refine jx_aload_n 0 kd270.1 rfl rfl ?_
  obtain ⟨b5, hb5, h⟩ := h
  refine jx_getr jc_8 (j := 0) (by decide) rfl jwF_X8_9 kd270.2.1 hk2 hb5 ?_
  refine jx_iload_n 1 kd270.2.2.1 rfl rfl ?_
  obtain ⟨hk6, h⟩ := h
  obtain ⟨hi7, h⟩ := h
  refine jx_iald kd270.2.2.2.1 hk6 hi7 ?_
  refine jx_goto (tgt := 28) kd270.2.2.2.2.1 (by decide) ?_
  exact jx_iret kd270.2.2.2.2.2.2.1 rfl rfl (jle rfl) (jle rfl) ⟨_, rfl, h⟩
set_option maxRecDepth 100000 in
set_option maxHeartbeats 4000000 in
theorem T_X8_sortAt {E : jEnv} {d : Nat} {Q : Int32 → jM → Prop} {a0 : Nat} {x1 : Int32} {S : jM} (h : jk S a0 = 8 ∧ (x1 < (ji S a0 1) → jFi E mX8_byteAt d 0 0 [.ref a0, .int x1] S (fun r4 S3 => (r4 < 97 → (r4 < 48 → Q 3 S3) ∧ (¬ r4 < 48 → (57 < r4 → Q 3 S3) ∧ (¬ 57 < r4 → Q 2 S3))) ∧ (¬ r4 < 97 → (122 < r4 → (r4 < 48 → Q 3 S3) ∧ (¬ r4 < 48 → (57 < r4 → Q 3 S3) ∧ (¬ 57 < r4 → Q 2 S3))) ∧ (¬ 122 < r4 → Q 1 S3)))) ∧ (¬ x1 < (ji S a0 1) → Q 0 S)) : jFi E mX8_sortAt (d + 1) 0 0 [.ref a0, .int x1] S Q := by
  refine jF_of (by decide) (jle rfl) ?_
  refine jx_lv (lv1 := [(0, .ref a0), (1, .int x1)]) [0, 1] rfl ?_
  refine jx_iload_n 1 kd271.1 rfl rfl ?_
  refine jx_aload_n 0 kd271.2.1 rfl rfl ?_
  obtain ⟨hk1, h⟩ := h
  refine jx_geti jc_8 (j := 1) (by decide) rfl jwF_X8_18 kd271.2.2.1 hk1 ?_
  refine jx_icmp_lt (tgt := 10) kd271.2.2.2.1 (by decide) (fun c2 => ?_) (fun c2 => ?_)
  · replace h := h.1 c2
    refine jx_aload_n 0 kd271.2.2.2.2.2.2.1 rfl rfl ?_
    refine jx_iload_n 1 kd271.2.2.2.2.2.2.2.1 rfl rfl ?_
    refine jx_callVi (M' := mX8_byteAt) (As := [.int x1]) jo_X8_byteAt jc_8 rfl jwM_X8_66 jwN_X8_byteAt jwX_X8_byteAt kd271.2.2.2.2.2.2.2.2.1 (jRok_m _ _ _) rfl (jle rfl) ⟨jle rfl, jle rfl⟩ hk1 h (fun r4 S3 h => ?_)
    refine jx_istore_n (lv1 := [(2, .int r4), (0, .ref a0), (1, .int x1)]) kd272.1 rfl (by decide) rfl ?_
    refine jx_iload_n 0 kd272.2.1 rfl rfl ?_
    refine jx_bipush (v := 97) kd272.2.2.1 (by decide) ?_
    refine jx_icmp_lt (tgt := 30) kd272.2.2.2.1 (by decide) (fun c5 => ?_) (fun c5 => ?_)
    · replace h := h.1 c5
      refine jx_iload_n 0 kd273.1 rfl rfl ?_
      refine jx_bipush (v := 48) kd273.2.1 (by decide) ?_
      refine jx_icmp_lt (tgt := 46) kd273.2.2.1 (by decide) (fun c6 => ?_) (fun c6 => ?_)
      · replace h := h.1 c6
        refine jx_iconst (v := 3) kd273.2.2.2.2.2.2.2.2.1 (by decide) ?_
        exact jx_iret kd274.1 rfl rfl (jle rfl) (jle rfl) ⟨_, rfl, h⟩
      replace h := h.2 c6
      refine jx_iload_n 0 kd273.2.2.2.1 rfl rfl ?_
      refine jx_bipush (v := 57) kd273.2.2.2.2.1 (by decide) ?_
      refine jx_icmp_gt (tgt := 46) kd273.2.2.2.2.2.1 (by decide) (fun c7 => ?_) (fun c7 => ?_)
      · replace h := h.1 c7
        refine jx_iconst (v := 3) kd273.2.2.2.2.2.2.2.2.1 (by decide) ?_
        exact jx_iret kd274.1 rfl rfl (jle rfl) (jle rfl) ⟨_, rfl, h⟩
      replace h := h.2 c7
      refine jx_iconst (v := 2) kd273.2.2.2.2.2.2.1 (by decide) ?_
      refine jx_goto (tgt := 47) kd273.2.2.2.2.2.2.2.1 (by decide) ?_
      exact jx_iret kd274.1 rfl rfl (jle rfl) (jle rfl) ⟨_, rfl, h⟩
    replace h := h.2 c5
    refine jx_iload_n 0 kd272.2.2.2.2.1 rfl rfl ?_
    refine jx_bipush (v := 122) kd272.2.2.2.2.2.1 (by decide) ?_
    refine jx_icmp_gt (tgt := 30) kd272.2.2.2.2.2.2.1 (by decide) (fun c8 => ?_) (fun c8 => ?_)
    · replace h := h.1 c8
      refine jx_iload_n 0 kd273.1 rfl rfl ?_
      refine jx_bipush (v := 48) kd273.2.1 (by decide) ?_
      refine jx_icmp_lt (tgt := 46) kd273.2.2.1 (by decide) (fun c9 => ?_) (fun c9 => ?_)
      · replace h := h.1 c9
        refine jx_iconst (v := 3) kd273.2.2.2.2.2.2.2.2.1 (by decide) ?_
        exact jx_iret kd274.1 rfl rfl (jle rfl) (jle rfl) ⟨_, rfl, h⟩
      replace h := h.2 c9
      refine jx_iload_n 0 kd273.2.2.2.1 rfl rfl ?_
      refine jx_bipush (v := 57) kd273.2.2.2.2.1 (by decide) ?_
      refine jx_icmp_gt (tgt := 46) kd273.2.2.2.2.2.1 (by decide) (fun c10 => ?_) (fun c10 => ?_)
      · replace h := h.1 c10
        refine jx_iconst (v := 3) kd273.2.2.2.2.2.2.2.2.1 (by decide) ?_
        exact jx_iret kd274.1 rfl rfl (jle rfl) (jle rfl) ⟨_, rfl, h⟩
      replace h := h.2 c10
      refine jx_iconst (v := 2) kd273.2.2.2.2.2.2.1 (by decide) ?_
      refine jx_goto (tgt := 47) kd273.2.2.2.2.2.2.2.1 (by decide) ?_
      exact jx_iret kd274.1 rfl rfl (jle rfl) (jle rfl) ⟨_, rfl, h⟩
    replace h := h.2 c8
    refine jx_iconst (v := 1) kd272.2.2.2.2.2.2.2.1 (by decide) ?_
    exact jx_iret kd272.2.2.2.2.2.2.2.2.1 rfl rfl (jle rfl) (jle rfl) ⟨_, rfl, h⟩
  replace h := h.2 c2
  refine jx_iconst (v := 0) kd271.2.2.2.2.1 (by decide) ?_
  exact jx_iret kd271.2.2.2.2.2.1 rfl rfl (jle rfl) (jle rfl) ⟨_, rfl, h⟩
set_option maxRecDepth 100000 in
set_option maxHeartbeats 4000000 in
theorem T_X8_isInHand {E : jEnv} {d : Nat} {Q : Int32 → jM → Prop} {a0 : Nat} {x1 : Int32} {S : jM} (h : jk S a0 = 8 ∧ ((ji S a0 4) = 3 → jFi E mX8_byteAt d 0 0 [.ref a0, .int (ji S a0 2)] S (fun r4 S3 => (r4 = x1 → Q 1 S3) ∧ (¬ r4 = x1 → Q 0 S3))) ∧ (¬ (ji S a0 4) = 3 → Q 0 S)) : jFi E mX8_isInHand (d + 1) 0 0 [.ref a0, .int x1] S Q := by
  refine jF_of (by decide) (jle rfl) ?_
  refine jx_lv (lv1 := [(0, .ref a0), (1, .int x1)]) [0, 1] rfl ?_
  refine jx_aload_n 0 kd275.1 rfl rfl ?_
  obtain ⟨hk1, h⟩ := h
  refine jx_geti jc_8 (j := 4) (by decide) rfl jwF_X8_29 kd275.2.1 hk1 ?_
  refine jx_iconst (v := 3) kd275.2.2.1 (by decide) ?_
  refine jx_icmp_ne (tgt := 24) kd275.2.2.2.1 (by decide) (fun c2 => ?_) (fun c2 => ?_)
  · replace h := h.2 c2
    refine jx_iconst (v := 0) kd276.2.2.2.1 (by decide) ?_
    exact jx_iret kd276.2.2.2.2.1 rfl (by decide) (jle rfl) (jle rfl) ⟨_, rfl, h⟩
  replace h := h.1 c2
  refine jx_aload_n 0 kd275.2.2.2.2.1 rfl rfl ?_
  refine jx_aload_n 0 kd275.2.2.2.2.2.1 rfl rfl ?_
  refine jx_geti jc_8 (j := 2) (by decide) rfl jwF_X8_63 kd275.2.2.2.2.2.2.1 hk1 ?_
  refine jx_callVi (M' := mX8_byteAt) (As := [.int (ji S a0 2)]) jo_X8_byteAt jc_8 rfl jwM_X8_66 jwN_X8_byteAt jwX_X8_byteAt kd275.2.2.2.2.2.2.2.1 (jRok_m _ _ _) rfl (jle rfl) ⟨jle rfl, jle rfl⟩ hk1 h (fun r4 S3 h => ?_)
  refine jx_iload_n 1 kd275.2.2.2.2.2.2.2.2.1 rfl rfl ?_
  refine jx_icmp_ne (tgt := 24) kd276.1 (by decide) (fun c5 => ?_) (fun c5 => ?_)
  · replace h := h.2 c5
    refine jx_iconst (v := 0) kd276.2.2.2.1 (by decide) ?_
    exact jx_iret kd276.2.2.2.2.1 rfl (by decide) (jle rfl) (jle rfl) ⟨_, rfl, h⟩
  replace h := h.1 c5
  refine jx_iconst (v := 1) kd276.2.1 (by decide) ?_
  refine jx_goto (tgt := 25) kd276.2.2.1 (by decide) ?_
  exact jx_iret kd276.2.2.2.2.1 rfl (by decide) (jle rfl) (jle rfl) ⟨_, rfl, h⟩
/-- X8_keyInHand at its loop's head 2 -/
abbrev L_X8_keyInHand_2 (E : jEnv) (d : Nat) (Q : Int32 → jM → Prop) (a0 : Nat) (x1 : Int32) (S : jM) : Prop := jX E mX8_keyInHand (jRm (d + 1) 0 0) (jZm E (fun r S' => ∃ v : Int32, r = some (.int v) ∧ Q v S') 0 0) 2 [(0, .ref a0), (1, .int x1)] [] S 0 0
set_option maxRecDepth 100000 in
set_option maxHeartbeats 4000000 in
theorem T_X8_keyInHand {E : jEnv} {d : Nat} {Q : Int32 → jM → Prop} {a0 : Nat} {S : jM} (h : L_X8_keyInHand_2 E d Q a0 0 S) : jFi E mX8_keyInHand (d + 1) 0 0 [.ref a0] S Q := by
  refine jF_of (by decide) (jle rfl) ?_
  refine jx_lv (lv1 := [(0, .ref a0)]) [0] rfl ?_
  refine jx_iconst (v := 0) kd277.1 (by decide) ?_
  refine jx_istore_n (lv1 := [(1, .int 0), (0, .ref a0)]) kd277.2.1 rfl (by decide) rfl ?_
  exact jx_lv [1, 0] rfl h
set_option maxRecDepth 100000 in
set_option maxHeartbeats 4000000 in
theorem T_X8_keyInHand_2 {E : jEnv} {d : Nat} {Q : Int32 → jM → Prop} {a0 : Nat} {x1 : Int32} {S : jM} (h : (3 ≤ x1 → Q (-1) S) ∧ (¬ 3 ≤ x1 → jFr E mX8_wordOf d 0 0 [.int x1] S (fun o3 S2 => (o3 = none → jk S2 a0 = 8 ∧ jFi E mX8_isWordInHand d 0 0 [.ref a0, .null] S2 (fun r7 S6 => (r7 = 0 → L_X8_keyInHand_2 E d Q a0 (x1 + 1) S6) ∧ (¬ r7 = 0 → Q x1 S6))) ∧ (∀ b4, o3 = some b4 → jk S2 a0 = 8 ∧ jFi E mX8_isWordInHand d 0 0 [.ref a0, .ref b4] S2 (fun r11 S10 => (r11 = 0 → L_X8_keyInHand_2 E d Q a0 (x1 + 1) S10) ∧ (¬ r11 = 0 → Q x1 S10)))))) : L_X8_keyInHand_2 E d Q a0 x1 S := by
  show jX E mX8_keyInHand (jRm (d + 1) 0 0) (jZm E (fun r S' => ∃ v : Int32, r = some (.int v) ∧ Q v S') 0 0) 2 [(0, .ref a0), (1, .int x1)] [] S 0 0
  refine jx_iload_n 1 kd277.2.2.1 rfl rfl ?_
  refine jx_iconst (v := 3) kd277.2.2.2.1 (by decide) ?_
  refine jx_icmp_ge (tgt := 26) kd277.2.2.2.2.1 (by decide) (fun c1 => ?_) (fun c1 => ?_)
  · replace h := h.1 c1
    refine jx_iconst (v := (-1)) kd278.2.2.2.2.2.1 (by decide) ?_
    exact jx_iret kd278.2.2.2.2.2.2.1 rfl rfl (jle rfl) (jle rfl) ⟨_, rfl, h⟩
  replace h := h.2 c1
  refine jx_aload_n 0 kd277.2.2.2.2.2.1 rfl rfl ?_
  refine jx_iload_n 1 kd277.2.2.2.2.2.2.1 rfl rfl ?_
  refine jx_callSr (M' := mX8_wordOf) (As := [.int x1]) jo_X8_wordOf jwM_X8_77 jwS_X8_wordOf kd277.2.2.2.2.2.2.2.1 (jRok_m _ _ _) rfl (jle rfl) ⟨jle rfl, jle rfl⟩ h (fun o3 S2 h => ?_)
  rcases o3 with _ | b4
  · replace h := h.1 rfl
    obtain ⟨hk5, h⟩ := h
    refine jx_callVi (M' := mX8_isWordInHand) (As := [.null]) jo_X8_isWordInHand jc_8 rfl jwM_X8_81 jwN_X8_isWordInHand jwX_X8_isWordInHand kd277.2.2.2.2.2.2.2.2.1 (jRok_m _ _ _) rfl (jle rfl) ⟨jle rfl, jle rfl⟩ hk5 h (fun r7 S6 h => ?_)
    refine jx_if_eq (tgt := 20) kd278.1 (by decide) (fun c8 => ?_) (fun c8 => ?_)
    · replace h := h.1 c8
      refine jx_iinc 1 (v := (x1 + 1)) (lv1 := [(1, .int (x1 + 1)), (0, .ref a0)]) kd278.2.2.2.1 rfl rfl (by decide) rfl ?_
      refine jx_goto (tgt := 2) kd278.2.2.2.2.1 (by decide) ?_
      exact jx_lv [1, 0] rfl h
    replace h := h.2 c8
    refine jx_iload_n 1 kd278.2.1 rfl rfl ?_
    exact jx_iret kd278.2.2.1 rfl rfl (jle rfl) (jle rfl) ⟨_, rfl, h⟩
  replace h := h.2 b4 rfl
  obtain ⟨hk9, h⟩ := h
  refine jx_callVi (M' := mX8_isWordInHand) (As := [.ref b4]) jo_X8_isWordInHand jc_8 rfl jwM_X8_81 jwN_X8_isWordInHand jwX_X8_isWordInHand kd277.2.2.2.2.2.2.2.2.1 (jRok_m _ _ _) rfl (jle rfl) ⟨jle rfl, jle rfl⟩ hk9 h (fun r11 S10 h => ?_)
  refine jx_if_eq (tgt := 20) kd278.1 (by decide) (fun c12 => ?_) (fun c12 => ?_)
  · replace h := h.1 c12
    refine jx_iinc 1 (v := (x1 + 1)) (lv1 := [(1, .int (x1 + 1)), (0, .ref a0)]) kd278.2.2.2.1 rfl rfl (by decide) rfl ?_
    refine jx_goto (tgt := 2) kd278.2.2.2.2.1 (by decide) ?_
    exact jx_lv [1, 0] rfl h
  replace h := h.2 c12
  refine jx_iload_n 1 kd278.2.1 rfl rfl ?_
  exact jx_iret kd278.2.2.1 rfl rfl (jle rfl) (jle rfl) ⟨_, rfl, h⟩
set_option maxRecDepth 100000 in
set_option maxHeartbeats 4000000 in
theorem T_X8_levelInHand {E : jEnv} {d : Nat} {Q : Int32 → jM → Prop} {a0 : Nat} {S : jM} (h : jk S a0 = 8 ∧ ((ji S a0 4) = 3 → jFi E mX8_byteAt d 0 0 [.ref a0, .int (ji S a0 2)] S (fun r4 S3 => (r4 = 38 → Q 1 S3) ∧ (r4 = 42 → Q 4 S3) ∧ (r4 = 43 → Q 3 S3) ∧ (r4 = 45 → Q 3 S3) ∧ (r4 = 47 → Q 4 S3) ∧ (r4 = 60 → Q 2 S3) ∧ (r4 = 61 → Q 2 S3) ∧ (r4 = 62 → Q 2 S3) ∧ (r4 = 124 → Q 0 S3) ∧ (¬ r4 = 38 → ¬ r4 = 42 → ¬ r4 = 43 → ¬ r4 = 45 → ¬ r4 = 47 → ¬ r4 = 60 → ¬ r4 = 61 → ¬ r4 = 62 → ¬ r4 = 124 → Q (-1) S3))) ∧ (¬ (ji S a0 4) = 3 → Q (-1) S)) : jFi E mX8_levelInHand (d + 1) 0 0 [.ref a0] S Q := by
  refine jF_of (by decide) (jle rfl) ?_
  refine jx_lv (lv1 := [(0, .ref a0)]) [0] rfl ?_
  refine jx_aload_n 0 kd285.1 rfl rfl ?_
  obtain ⟨hk1, h⟩ := h
  refine jx_geti jc_8 (j := 4) (by decide) rfl jwF_X8_29 kd285.2.1 hk1 ?_
  refine jx_iconst (v := 3) kd285.2.2.1 (by decide) ?_
  refine jx_icmp_eq (tgt := 10) kd285.2.2.2.1 (by decide) (fun c2 => ?_) (fun c2 => ?_)
  · replace h := h.1 c2
    refine jx_aload_n 0 kd285.2.2.2.2.2.2.1 rfl rfl ?_
    refine jx_aload_n 0 kd285.2.2.2.2.2.2.2.1 rfl rfl ?_
    refine jx_geti jc_8 (j := 2) (by decide) rfl jwF_X8_63 kd285.2.2.2.2.2.2.2.2.1 hk1 ?_
    refine jx_callVi (M' := mX8_byteAt) (As := [.int (ji S a0 2)]) jo_X8_byteAt jc_8 rfl jwM_X8_66 jwN_X8_byteAt jwX_X8_byteAt kd286.1 (jRok_m _ _ _) rfl (jle rfl) ⟨jle rfl, jle rfl⟩ hk1 h (fun r4 S3 h => ?_)
    by_cases c5 : r4 = 38
    · replace h := h.1 c5
      refine jx_lookIn (v := 38) (tgt := 102) (off := 84) kd286.2.1 (by decide) c5 (by decide) (by decide) ?_
      refine jx_iconst (v := 1) kd286.2.2.2.2.1 (by decide) ?_
      exact jx_iret kd286.2.2.2.2.2.1 rfl rfl (jle rfl) (jle rfl) ⟨_, rfl, h⟩
    replace h := h.2
    by_cases c6 : r4 = 42
    · replace h := h.1 c6
      refine jx_lookIn (v := 42) (tgt := 114) (off := 96) kd286.2.1 (by decide) c6 (by decide) (by decide) ?_
      refine jx_iconst (v := 4) kd287.2.2.2.2.2.2.2.1 (by decide) ?_
      exact jx_iret kd287.2.2.2.2.2.2.2.2.1 rfl rfl (jle rfl) (jle rfl) ⟨_, rfl, h⟩
    replace h := h.2
    by_cases c7 : r4 = 43
    · replace h := h.1 c7
      refine jx_lookIn (v := 43) (tgt := 110) (off := 92) kd286.2.1 (by decide) c7 (by decide) (by decide) ?_
      refine jx_iconst (v := 3) kd287.2.2.2.1 (by decide) ?_
      exact jx_iret kd287.2.2.2.2.1 rfl rfl (jle rfl) (jle rfl) ⟨_, rfl, h⟩
    replace h := h.2
    by_cases c8 : r4 = 45
    · replace h := h.1 c8
      refine jx_lookIn (v := 45) (tgt := 112) (off := 94) kd286.2.1 (by decide) c8 (by decide) (by decide) ?_
      refine jx_iconst (v := 3) kd287.2.2.2.2.2.1 (by decide) ?_
      exact jx_iret kd287.2.2.2.2.2.2.1 rfl rfl (jle rfl) (jle rfl) ⟨_, rfl, h⟩
    replace h := h.2
    by_cases c9 : r4 = 47
    · replace h := h.1 c9
      refine jx_lookIn (v := 47) (tgt := 116) (off := 98) kd286.2.1 (by decide) c9 (by decide) (by decide) ?_
      refine jx_iconst (v := 4) kd288.1 (by decide) ?_
      exact jx_iret kd288.2.1 rfl rfl (jle rfl) (jle rfl) ⟨_, rfl, h⟩
    replace h := h.2
    by_cases c10 : r4 = 60
    · replace h := h.1 c10
      refine jx_lookIn (v := 60) (tgt := 104) (off := 86) kd286.2.1 (by decide) c10 (by decide) (by decide) ?_
      refine jx_iconst (v := 2) kd286.2.2.2.2.2.2.1 (by decide) ?_
      exact jx_iret kd286.2.2.2.2.2.2.2.1 rfl rfl (jle rfl) (jle rfl) ⟨_, rfl, h⟩
    replace h := h.2
    by_cases c11 : r4 = 61
    · replace h := h.1 c11
      refine jx_lookIn (v := 61) (tgt := 106) (off := 88) kd286.2.1 (by decide) c11 (by decide) (by decide) ?_
      refine jx_iconst (v := 2) kd286.2.2.2.2.2.2.2.2.1 (by decide) ?_
      exact jx_iret kd287.1 rfl rfl (jle rfl) (jle rfl) ⟨_, rfl, h⟩
    replace h := h.2
    by_cases c12 : r4 = 62
    · replace h := h.1 c12
      refine jx_lookIn (v := 62) (tgt := 108) (off := 90) kd286.2.1 (by decide) c12 (by decide) (by decide) ?_
      refine jx_iconst (v := 2) kd287.2.1 (by decide) ?_
      exact jx_iret kd287.2.2.1 rfl rfl (jle rfl) (jle rfl) ⟨_, rfl, h⟩
    replace h := h.2
    by_cases c13 : r4 = 124
    · replace h := h.1 c13
      refine jx_lookIn (v := 124) (tgt := 100) (off := 82) kd286.2.1 (by decide) c13 (by decide) (by decide) ?_
      refine jx_iconst (v := 0) kd286.2.2.1 (by decide) ?_
      exact jx_iret kd286.2.2.2.1 rfl rfl (jle rfl) (jle rfl) ⟨_, rfl, h⟩
    replace h := h.2
    replace h := h c5 c6 c7 c8 c9 c10 c11 c12 c13
    refine jx_lookD (tgt := 118) kd286.2.1 (by decide) (by simp only [List.mem_cons, List.not_mem_nil, or_false, forall_eq_or_imp, forall_eq]; exact ⟨lv_neT c5 (by decide), lv_neT c6 (by decide), lv_neT c7 (by decide), lv_neT c8 (by decide), lv_neT c9 (by decide), lv_neT c10 (by decide), lv_neT c11 (by decide), lv_neT c12 (by decide), lv_neT c13 (by decide)⟩) (by decide) ?_
    refine jx_iconst (v := (-1)) kd288.2.2.1 (by decide) ?_
    exact jx_iret kd288.2.2.2.1 rfl rfl (jle rfl) (jle rfl) ⟨_, rfl, h⟩
  replace h := h.2 c2
  refine jx_iconst (v := (-1)) kd285.2.2.2.2.1 (by decide) ?_
  exact jx_iret kd285.2.2.2.2.2.1 rfl rfl (jle rfl) (jle rfl) ⟨_, rfl, h⟩
/-- X8_readsChain at its loop's head 42 -/
abbrev L_X8_readsChain_42 (E : jEnv) (d : Nat) (Q : Int32 → jM → Prop) (a0 : Nat) (x1 : Int32) (x2 : Int32) (x3 : Int32) (x4 : Int32) (x5 : Int32) (S : jM) : Prop := jX E mX8_readsChain (jRm (d + 1) 0 0) (jZm E (fun r S' => ∃ v : Int32, r = some (.int v) ∧ Q v S') 0 0) 42 [(0, .ref a0), (1, .int x1), (2, .int x2), (3, .int x3), (4, .int x4), (5, .int x5)] [] S 0 0
set_option maxRecDepth 100000 in
set_option maxHeartbeats 4000000 in
theorem T_X8_readsChain {E : jEnv} {d : Nat} {Q : Int32 → jM → Prop} {a0 : Nat} {x1 : Int32} {x2 : Int32} {x3 : Int32} {S : jM} (h : (x1 < 5 → jk S a0 = 8 ∧ jFi E mX8_readsChain d 0 0 [.ref a0, .int (x1 + 1), .int x2, .int x3] S (fun r4 S3 => (r4 = 0 → Q 0 S3) ∧ (¬ r4 = 0 → (x1 = 2 → L_X8_readsChain_42 E d Q a0 x1 x2 x3 1 0 S3) ∧ (¬ x1 = 2 → L_X8_readsChain_42 E d Q a0 x1 x2 x3 96 0 S3)))) ∧ (¬ x1 < 5 → jk S a0 = 8 ∧ jFi E mX8_readsPiece d 0 0 [.ref a0, .int x2, .int x3] S (fun r9 S8 => (r9 = 0 ∨ r9 = 1) ∧ Q r9 S8))) : jFi E mX8_readsChain (d + 1) 0 0 [.ref a0, .int x1, .int x2, .int x3] S Q := by
  refine jF_of (by decide) (jle rfl) ?_
  refine jx_lv (lv1 := [(0, .ref a0), (1, .int x1), (2, .int x2), (3, .int x3)]) [0, 1, 2, 3] rfl ?_
  refine jx_iload_n 1 kd289.1 rfl rfl ?_
  refine jx_iconst (v := 5) kd289.2.1 (by decide) ?_
  refine jx_icmp_lt (tgt := 12) kd289.2.2.1 (by decide) (fun c1 => ?_) (fun c1 => ?_)
  · replace h := h.1 c1
    refine jx_aload_n 0 kd289.2.2.2.2.2.2.2.2.1 rfl rfl ?_
    refine jx_iload_n 1 kd290.1 rfl rfl ?_
    refine jx_iconst (v := 1) kd290.2.1 (by decide) ?_
    refine jx_iadd kd290.2.2.1 ?_
    refine jx_iload_n 2 kd290.2.2.2.1 rfl rfl ?_
    refine jx_iload_n 3 kd290.2.2.2.2.1 rfl rfl ?_
    obtain ⟨hk2, h⟩ := h
    refine jx_callVi (M' := mX8_readsChain) (As := [.int (x1 + 1), .int x2, .int x3]) jo_X8_readsChain jc_8 rfl jwM_X8_48 jwN_X8_readsChain jwX_X8_readsChain kd290.2.2.2.2.2.1 (jRok_m _ _ _) rfl (jle rfl) ⟨jle rfl, jle rfl⟩ hk2 h (fun r4 S3 h => ?_)
    refine jx_if_ne (tgt := 26) kd290.2.2.2.2.2.2.1 (by decide) (fun c5 => ?_) (fun c5 => ?_)
    · replace h := h.2 c5
      refine jx_iload_n 1 kd291.1 rfl rfl ?_
      refine jx_iconst (v := 2) kd291.2.1 (by decide) ?_
      refine jx_icmp_ne (tgt := 35) kd291.2.2.1 (by decide) (fun c6 => ?_) (fun c6 => ?_)
      · replace h := h.2 c6
        refine jx_bipush (v := 96) kd291.2.2.2.2.2.1 (by decide) ?_
        refine jx_istore (lv1 := [(4, .int 96), (0, .ref a0), (1, .int x1), (2, .int x2), (3, .int x3)]) kd291.2.2.2.2.2.2.1 (by decide) rfl ?_
        refine jx_iconst (v := 0) kd291.2.2.2.2.2.2.2.1 (by decide) ?_
        refine jx_istore (lv1 := [(5, .int 0), (4, .int 96), (0, .ref a0), (1, .int x1), (2, .int x2), (3, .int x3)]) kd291.2.2.2.2.2.2.2.2.1 (by decide) rfl ?_
        exact jx_lv [2, 3, 4, 5, 1, 0] rfl h
      replace h := h.1 c6
      refine jx_iconst (v := 1) kd291.2.2.2.1 (by decide) ?_
      refine jx_goto (tgt := 37) kd291.2.2.2.2.1 (by decide) ?_
      refine jx_istore (lv1 := [(4, .int 1), (0, .ref a0), (1, .int x1), (2, .int x2), (3, .int x3)]) kd291.2.2.2.2.2.2.1 (by decide) rfl ?_
      refine jx_iconst (v := 0) kd291.2.2.2.2.2.2.2.1 (by decide) ?_
      refine jx_istore (lv1 := [(5, .int 0), (4, .int 1), (0, .ref a0), (1, .int x1), (2, .int x2), (3, .int x3)]) kd291.2.2.2.2.2.2.2.2.1 (by decide) rfl ?_
      exact jx_lv [2, 3, 4, 5, 1, 0] rfl h
    replace h := h.1 c5
    refine jx_iconst (v := 0) kd290.2.2.2.2.2.2.2.1 (by decide) ?_
    exact jx_iret kd290.2.2.2.2.2.2.2.2.1 rfl (by decide) (jle rfl) (jle rfl) ⟨_, rfl, h⟩
  replace h := h.2 c1
  refine jx_aload_n 0 kd289.2.2.2.1 rfl rfl ?_
  refine jx_iload_n 2 kd289.2.2.2.2.1 rfl rfl ?_
  refine jx_iload_n 3 kd289.2.2.2.2.2.1 rfl rfl ?_
  obtain ⟨hk7, h⟩ := h
  refine jx_callVi (M' := mX8_readsPiece) (As := [.int x2, .int x3]) jo_X8_readsPiece jc_8 rfl jwM_X8_106 jwN_X8_readsPiece jwX_X8_readsPiece kd289.2.2.2.2.2.2.1 (jRok_m _ _ _) rfl (jle rfl) ⟨jle rfl, jle rfl⟩ hk7 h (fun r9 S8 h => ?_)
  obtain ⟨hb10, h⟩ := h
  exact jx_iret kd289.2.2.2.2.2.2.2.1 rfl (jb_nar hb10) (jle rfl) (jle rfl) ⟨_, rfl, h⟩
set_option maxRecDepth 100000 in
set_option maxHeartbeats 4000000 in
theorem T_X8_readsChain_42 {E : jEnv} {d : Nat} {Q : Int32 → jM → Prop} {a0 : Nat} {x1 : Int32} {x2 : Int32} {x3 : Int32} {x4 : Int32} {x5 : Int32} {S : jM} (h : (x4 ≤ x5 → Q 1 S) ∧ (¬ x4 ≤ x5 → jk S a0 = 8 ∧ jFi E mX8_levelInHand d 0 0 [.ref a0] S (fun r14 S13 => (r14 = x1 → jk S13 a0 = 8 ∧ jFi E mX8_byteAt d 0 0 [.ref a0, .int (ji S13 a0 2)] S13 (fun r18 S17 => jk S17 a0 = 8 ∧ jFv E mX8_step d 0 0 [.ref a0] S17 (fun S20 => jk S20 a0 = 8 ∧ jFi E mX8_readsChain d 0 0 [.ref a0, .int (x1 + 1), .int x2, .int x3] S20 (fun r23 S22 => (r23 = 0 → Q 0 S22) ∧ (¬ r23 = 0 → jk S22 a0 = 8 ∧ jFv E mX8_write d 0 0 [.ref a0, .int (20000 + r18)] S22 (fun S26 => L_X8_readsChain_42 E d Q a0 x1 x2 x3 x4 (x5 + 1) S26)))))) ∧ (¬ r14 = x1 → Q 1 S13)))) : L_X8_readsChain_42 E d Q a0 x1 x2 x3 x4 x5 S := by
  show jX E mX8_readsChain (jRm (d + 1) 0 0) (jZm E (fun r S' => ∃ v : Int32, r = some (.int v) ∧ Q v S') 0 0) 42 [(0, .ref a0), (1, .int x1), (2, .int x2), (3, .int x3), (4, .int x4), (5, .int x5)] [] S 0 0
  refine jx_iload 5 kd292.1 rfl ?_
  refine jx_iload 4 kd292.2.1 rfl ?_
  refine jx_icmp_ge (tgt := 101) kd292.2.2.1 (by decide) (fun c11 => ?_) (fun c11 => ?_)
  · replace h := h.1 c11
    refine jx_iconst (v := 1) kd295.2.2.2.2.1 (by decide) ?_
    exact jx_iret kd295.2.2.2.2.2.1 rfl (by decide) (jle rfl) (jle rfl) ⟨_, rfl, h⟩
  replace h := h.2 c11
  refine jx_aload_n 0 kd292.2.2.2.1 rfl rfl ?_
  obtain ⟨hk12, h⟩ := h
  refine jx_callVi (M' := mX8_levelInHand) (As := []) jo_X8_levelInHand jc_8 rfl jwM_X8_109 jwN_X8_levelInHand jwX_X8_levelInHand kd292.2.2.2.2.1 (jRok_m _ _ _) rfl (jle rfl) ⟨jle rfl, jle rfl⟩ hk12 h (fun r14 S13 h => ?_)
  refine jx_iload_n 1 kd292.2.2.2.2.2.1 rfl rfl ?_
  refine jx_icmp_ne (tgt := 101) kd292.2.2.2.2.2.2.1 (by decide) (fun c15 => ?_) (fun c15 => ?_)
  · replace h := h.2 c15
    refine jx_iconst (v := 1) kd295.2.2.2.2.1 (by decide) ?_
    exact jx_iret kd295.2.2.2.2.2.1 rfl (by decide) (jle rfl) (jle rfl) ⟨_, rfl, h⟩
  replace h := h.1 c15
  refine jx_aload_n 0 kd292.2.2.2.2.2.2.2.1 rfl rfl ?_
  refine jx_aload_n 0 kd292.2.2.2.2.2.2.2.2.1 rfl rfl ?_
  obtain ⟨hk16, h⟩ := h
  refine jx_geti jc_8 (j := 2) (by decide) rfl jwF_X8_63 kd293.1 hk16 ?_
  refine jx_callVi (M' := mX8_byteAt) (As := [.int (ji S13 a0 2)]) jo_X8_byteAt jc_8 rfl jwM_X8_66 jwN_X8_byteAt jwX_X8_byteAt kd293.2.1 (jRok_m _ _ _) rfl (jle rfl) ⟨jle rfl, jle rfl⟩ hk16 h (fun r18 S17 h => ?_)
  refine jx_istore (lv1 := [(6, .int r18), (0, .ref a0), (1, .int x1), (2, .int x2), (3, .int x3), (4, .int x4), (5, .int x5)]) kd293.2.2.1 (by decide) rfl ?_
  refine jx_aload_n 1 kd293.2.2.2.1 rfl rfl ?_
  obtain ⟨hk19, h⟩ := h
  refine jx_callVv (M' := mX8_step) (As := []) jo_X8_step jc_8 rfl jwM_X8_38 jwN_X8_step jwX_X8_step kd293.2.2.2.2.1 (jRok_m _ _ _) rfl (jle rfl) ⟨jle rfl, jle rfl⟩ hk19 h (fun S20 h => ?_)
  refine jx_aload_n 1 kd293.2.2.2.2.2.1 rfl rfl ?_
  refine jx_iload_n 2 kd293.2.2.2.2.2.2.1 rfl rfl ?_
  refine jx_iconst (v := 1) kd293.2.2.2.2.2.2.2.1 (by decide) ?_
  refine jx_iadd kd293.2.2.2.2.2.2.2.2.1 ?_
  refine jx_iload_n 3 kd294.1 rfl rfl ?_
  refine jx_iload_n 4 kd294.2.1 rfl rfl ?_
  obtain ⟨hk21, h⟩ := h
  refine jx_callVi (M' := mX8_readsChain) (As := [.int (x1 + 1), .int x2, .int x3]) jo_X8_readsChain jc_8 rfl jwM_X8_48 jwN_X8_readsChain jwX_X8_readsChain kd294.2.2.1 (jRok_m _ _ _) rfl (jle rfl) ⟨jle rfl, jle rfl⟩ hk21 h (fun r23 S22 h => ?_)
  refine jx_if_ne (tgt := 85) kd294.2.2.2.1 (by decide) (fun c24 => ?_) (fun c24 => ?_)
  · replace h := h.2 c24
    refine jx_aload_n 1 kd294.2.2.2.2.2.2.1 rfl rfl ?_
    refine jx_sipush (v := 20000) kd294.2.2.2.2.2.2.2.1 (by decide) ?_
    refine jx_iload 0 kd294.2.2.2.2.2.2.2.2.1 rfl ?_
    refine jx_iadd kd295.1 ?_
    obtain ⟨hk25, h⟩ := h
    refine jx_callVv (M' := mX8_write) (As := [.int (20000 + r18)]) jo_X8_write jc_8 rfl jwM_X8_112 jwN_X8_write jwX_X8_write kd295.2.1 (jRok_m _ _ _) rfl (jle rfl) ⟨jle rfl, jle rfl⟩ hk25 h (fun S26 h => ?_)
    refine jx_iinc 6 (v := (x5 + 1)) (lv1 := [(5, .int (x5 + 1)), (6, .int r18), (0, .ref a0), (1, .int x1), (2, .int x2), (3, .int x3), (4, .int x4)]) kd295.2.2.1 rfl rfl (by decide) rfl ?_
    refine jx_goto (tgt := 42) kd295.2.2.2.1 (by decide) ?_
    exact jx_lv [2, 3, 4, 5, 6, 0] rfl h
  replace h := h.1 c24
  refine jx_iconst (v := 0) kd294.2.2.2.2.1 (by decide) ?_
  exact jx_iret kd294.2.2.2.2.2.1 rfl (by decide) (jle rfl) (jle rfl) ⟨_, rfl, h⟩
set_option maxRecDepth 100000 in
set_option maxHeartbeats 4000000 in
theorem T_X8_readsPiece {E : jEnv} {d : Nat} {Q : Int32 → jM → Prop} {a0 : Nat} {x1 : Int32} {x2 : Int32} {S : jM} (h : jk S a0 = 8 ∧ ((ji S a0 4) = 1 → jFi E mX8_readsOperand d 0 0 [.ref a0] S (fun r4 S3 => (r4 = 0 ∨ r4 = 1) ∧ Q r4 S3)) ∧ (¬ (ji S a0 4) = 1 → ((ji S a0 4) = 2 → jFi E mX8_readsOperand d 0 0 [.ref a0] S (fun r54 S53 => (r54 = 0 ∨ r54 = 1) ∧ Q r54 S53)) ∧ (¬ (ji S a0 4) = 2 → jFi E mX8_isInHand d 0 0 [.ref a0, .int 33] S (fun r8 S7 => (r8 = 0 → jk S7 a0 = 8 ∧ jFi E mX8_isInHand d 0 0 [.ref a0, .int 40] S7 (fun r12 S11 => (r12 = 0 → Q 0 S11) ∧ (¬ r12 = 0 → (8 ≤ x1 → Q 0 S11) ∧ (¬ 8 ≤ x1 → jk S11 a0 = 8 ∧ jFv E mX8_step d 0 0 [.ref a0] S11 (fun S16 => jk S16 a0 = 8 ∧ jFi E mX8_readsChain d 0 0 [.ref a0, .int 0, .int (x1 + 1), .int x2] S16 (fun r19 S18 => (r19 = 0 → Q 0 S18) ∧ (¬ r19 = 0 → jk S18 a0 = 8 ∧ jFi E mX8_isInHand d 0 0 [.ref a0, .int 41] S18 (fun r23 S22 => (r23 = 0 → Q 0 S22) ∧ (¬ r23 = 0 → jk S22 a0 = 8 ∧ jFv E mX8_step d 0 0 [.ref a0] S22 (fun S26 => Q 1 S26)))))))))) ∧ (¬ r8 = 0 → (8 ≤ x2 → jk S7 a0 = 8 ∧ jFi E mX8_isInHand d 0 0 [.ref a0, .int 40] S7 (fun r30 S29 => (r30 = 0 → Q 0 S29) ∧ (¬ r30 = 0 → (8 ≤ x1 → Q 0 S29) ∧ (¬ 8 ≤ x1 → jk S29 a0 = 8 ∧ jFv E mX8_step d 0 0 [.ref a0] S29 (fun S34 => jk S34 a0 = 8 ∧ jFi E mX8_readsChain d 0 0 [.ref a0, .int 0, .int (x1 + 1), .int x2] S34 (fun r37 S36 => (r37 = 0 → Q 0 S36) ∧ (¬ r37 = 0 → jk S36 a0 = 8 ∧ jFi E mX8_isInHand d 0 0 [.ref a0, .int 41] S36 (fun r41 S40 => (r41 = 0 → Q 0 S40) ∧ (¬ r41 = 0 → jk S40 a0 = 8 ∧ jFv E mX8_step d 0 0 [.ref a0] S40 (fun S44 => Q 1 S44)))))))))) ∧ (¬ 8 ≤ x2 → jk S7 a0 = 8 ∧ jFv E mX8_step d 0 0 [.ref a0] S7 (fun S46 => jk S46 a0 = 8 ∧ jFi E mX8_readsPiece d 0 0 [.ref a0, .int x1, .int (x2 + 1)] S46 (fun r49 S48 => jk S48 a0 = 8 ∧ jFv E mX8_write d 0 0 [.ref a0, .int 20033] S48 (fun S51 => (r49 = 0 ∨ r49 = 1) ∧ Q r49 S51))))))))) : jFi E mX8_readsPiece (d + 1) 0 0 [.ref a0, .int x1, .int x2] S Q := by
  refine jF_of (by decide) (jle rfl) ?_
  refine jx_lv (lv1 := [(0, .ref a0), (1, .int x1), (2, .int x2)]) [0, 1, 2] rfl ?_
  refine jx_aload_n 0 kd296.1 rfl rfl ?_
  obtain ⟨hk1, h⟩ := h
  refine jx_geti jc_8 (j := 4) (by decide) rfl jwF_X8_29 kd296.2.1 hk1 ?_
  refine jx_iconst (v := 1) kd296.2.2.1 (by decide) ?_
  refine jx_icmp_eq (tgt := 16) kd296.2.2.2.1 (by decide) (fun c2 => ?_) (fun c2 => ?_)
  · replace h := h.1 c2
    refine jx_aload_n 0 kd296.2.2.2.2.2.2.2.2.1 rfl rfl ?_
    refine jx_callVi (M' := mX8_readsOperand) (As := []) jo_X8_readsOperand jc_8 rfl jwM_X8_116 jwN_X8_readsOperand jwX_X8_readsOperand kd297.1 (jRok_m _ _ _) rfl (jle rfl) ⟨jle rfl, jle rfl⟩ hk1 h (fun r4 S3 h => ?_)
    obtain ⟨hb5, h⟩ := h
    exact jx_iret kd297.2.1 rfl (jb_nar hb5) (jle rfl) (jle rfl) ⟨_, rfl, h⟩
  replace h := h.2 c2
  refine jx_aload_n 0 kd296.2.2.2.2.1 rfl rfl ?_
  refine jx_geti jc_8 (j := 4) (by decide) rfl jwF_X8_29 kd296.2.2.2.2.2.1 hk1 ?_
  refine jx_iconst (v := 2) kd296.2.2.2.2.2.2.1 (by decide) ?_
  refine jx_icmp_ne (tgt := 21) kd296.2.2.2.2.2.2.2.1 (by decide) (fun c6 => ?_) (fun c6 => ?_)
  · replace h := h.2 c6
    refine jx_aload_n 0 kd297.2.2.1 rfl rfl ?_
    refine jx_bipush (v := 33) kd297.2.2.2.1 (by decide) ?_
    refine jx_callVi (M' := mX8_isInHand) (As := [.int 33]) jo_X8_isInHand jc_8 rfl jwM_X8_120 jwN_X8_isInHand jwX_X8_isInHand kd297.2.2.2.2.1 (jRok_m _ _ _) rfl (jle rfl) ⟨jle rfl, jle rfl⟩ hk1 h (fun r8 S7 h => ?_)
    refine jx_if_eq (tgt := 58) kd297.2.2.2.2.2.1 (by decide) (fun c9 => ?_) (fun c9 => ?_)
    · replace h := h.1 c9
      refine jx_aload_n 0 kd299.2.2.2.2.2.1 rfl rfl ?_
      refine jx_bipush (v := 40) kd299.2.2.2.2.2.2.1 (by decide) ?_
      obtain ⟨hk10, h⟩ := h
      refine jx_callVi (M' := mX8_isInHand) (As := [.int 40]) jo_X8_isInHand jc_8 rfl jwM_X8_120 jwN_X8_isInHand jwX_X8_isInHand kd299.2.2.2.2.2.2.2.1 (jRok_m _ _ _) rfl (jle rfl) ⟨jle rfl, jle rfl⟩ hk10 h (fun r12 S11 h => ?_)
      refine jx_if_eq (tgt := 104) kd299.2.2.2.2.2.2.2.2.1 (by decide) (fun c13 => ?_) (fun c13 => ?_)
      · replace h := h.1 c13
        refine jx_iconst (v := 0) kd302.2.2.2.1 (by decide) ?_
        exact jx_iret kd302.2.2.2.2.1 rfl (by decide) (jle rfl) (jle rfl) ⟨_, rfl, h⟩
      replace h := h.2 c13
      refine jx_iload_n 1 kd300.1 rfl rfl ?_
      refine jx_bipush (v := 8) kd300.2.1 (by decide) ?_
      refine jx_icmp_ge (tgt := 104) kd300.2.2.1 (by decide) (fun c14 => ?_) (fun c14 => ?_)
      · replace h := h.1 c14
        refine jx_iconst (v := 0) kd302.2.2.2.1 (by decide) ?_
        exact jx_iret kd302.2.2.2.2.1 rfl (by decide) (jle rfl) (jle rfl) ⟨_, rfl, h⟩
      replace h := h.2 c14
      refine jx_aload_n 0 kd300.2.2.2.1 rfl rfl ?_
      obtain ⟨hk15, h⟩ := h
      refine jx_callVv (M' := mX8_step) (As := []) jo_X8_step jc_8 rfl jwM_X8_38 jwN_X8_step jwX_X8_step kd300.2.2.2.2.1 (jRok_m _ _ _) rfl (jle rfl) ⟨jle rfl, jle rfl⟩ hk15 h (fun S16 h => ?_)
      refine jx_aload_n 0 kd300.2.2.2.2.2.1 rfl rfl ?_
      refine jx_iconst (v := 0) kd300.2.2.2.2.2.2.1 (by decide) ?_
      refine jx_iload_n 1 kd300.2.2.2.2.2.2.2.1 rfl rfl ?_
      refine jx_iconst (v := 1) kd300.2.2.2.2.2.2.2.2.1 (by decide) ?_
      refine jx_iadd kd301.1 ?_
      refine jx_iload_n 2 kd301.2.1 rfl rfl ?_
      obtain ⟨hk17, h⟩ := h
      refine jx_callVi (M' := mX8_readsChain) (As := [.int 0, .int (x1 + 1), .int x2]) jo_X8_readsChain jc_8 rfl jwM_X8_48 jwN_X8_readsChain jwX_X8_readsChain kd301.2.2.1 (jRok_m _ _ _) rfl (jle rfl) ⟨jle rfl, jle rfl⟩ hk17 h (fun r19 S18 h => ?_)
      refine jx_if_eq (tgt := 104) kd301.2.2.2.1 (by decide) (fun c20 => ?_) (fun c20 => ?_)
      · replace h := h.1 c20
        refine jx_iconst (v := 0) kd302.2.2.2.1 (by decide) ?_
        exact jx_iret kd302.2.2.2.2.1 rfl (by decide) (jle rfl) (jle rfl) ⟨_, rfl, h⟩
      replace h := h.2 c20
      refine jx_aload_n 0 kd301.2.2.2.2.1 rfl rfl ?_
      refine jx_bipush (v := 41) kd301.2.2.2.2.2.1 (by decide) ?_
      obtain ⟨hk21, h⟩ := h
      refine jx_callVi (M' := mX8_isInHand) (As := [.int 41]) jo_X8_isInHand jc_8 rfl jwM_X8_120 jwN_X8_isInHand jwX_X8_isInHand kd301.2.2.2.2.2.2.1 (jRok_m _ _ _) rfl (jle rfl) ⟨jle rfl, jle rfl⟩ hk21 h (fun r23 S22 h => ?_)
      refine jx_if_eq (tgt := 104) kd301.2.2.2.2.2.2.2.1 (by decide) (fun c24 => ?_) (fun c24 => ?_)
      · replace h := h.1 c24
        refine jx_iconst (v := 0) kd302.2.2.2.1 (by decide) ?_
        exact jx_iret kd302.2.2.2.2.1 rfl (by decide) (jle rfl) (jle rfl) ⟨_, rfl, h⟩
      replace h := h.2 c24
      refine jx_aload_n 0 kd301.2.2.2.2.2.2.2.2.1 rfl rfl ?_
      obtain ⟨hk25, h⟩ := h
      refine jx_callVv (M' := mX8_step) (As := []) jo_X8_step jc_8 rfl jwM_X8_38 jwN_X8_step jwX_X8_step kd302.1 (jRok_m _ _ _) rfl (jle rfl) ⟨jle rfl, jle rfl⟩ hk25 h (fun S26 h => ?_)
      refine jx_iconst (v := 1) kd302.2.1 (by decide) ?_
      exact jx_iret kd302.2.2.1 rfl (by decide) (jle rfl) (jle rfl) ⟨_, rfl, h⟩
    replace h := h.2 c9
    refine jx_iload_n 2 kd297.2.2.2.2.2.2.1 rfl rfl ?_
    refine jx_bipush (v := 8) kd297.2.2.2.2.2.2.2.1 (by decide) ?_
    refine jx_icmp_ge (tgt := 58) kd297.2.2.2.2.2.2.2.2.1 (by decide) (fun c27 => ?_) (fun c27 => ?_)
    · replace h := h.1 c27
      refine jx_aload_n 0 kd299.2.2.2.2.2.1 rfl rfl ?_
      refine jx_bipush (v := 40) kd299.2.2.2.2.2.2.1 (by decide) ?_
      obtain ⟨hk28, h⟩ := h
      refine jx_callVi (M' := mX8_isInHand) (As := [.int 40]) jo_X8_isInHand jc_8 rfl jwM_X8_120 jwN_X8_isInHand jwX_X8_isInHand kd299.2.2.2.2.2.2.2.1 (jRok_m _ _ _) rfl (jle rfl) ⟨jle rfl, jle rfl⟩ hk28 h (fun r30 S29 h => ?_)
      refine jx_if_eq (tgt := 104) kd299.2.2.2.2.2.2.2.2.1 (by decide) (fun c31 => ?_) (fun c31 => ?_)
      · replace h := h.1 c31
        refine jx_iconst (v := 0) kd302.2.2.2.1 (by decide) ?_
        exact jx_iret kd302.2.2.2.2.1 rfl (by decide) (jle rfl) (jle rfl) ⟨_, rfl, h⟩
      replace h := h.2 c31
      refine jx_iload_n 1 kd300.1 rfl rfl ?_
      refine jx_bipush (v := 8) kd300.2.1 (by decide) ?_
      refine jx_icmp_ge (tgt := 104) kd300.2.2.1 (by decide) (fun c32 => ?_) (fun c32 => ?_)
      · replace h := h.1 c32
        refine jx_iconst (v := 0) kd302.2.2.2.1 (by decide) ?_
        exact jx_iret kd302.2.2.2.2.1 rfl (by decide) (jle rfl) (jle rfl) ⟨_, rfl, h⟩
      replace h := h.2 c32
      refine jx_aload_n 0 kd300.2.2.2.1 rfl rfl ?_
      obtain ⟨hk33, h⟩ := h
      refine jx_callVv (M' := mX8_step) (As := []) jo_X8_step jc_8 rfl jwM_X8_38 jwN_X8_step jwX_X8_step kd300.2.2.2.2.1 (jRok_m _ _ _) rfl (jle rfl) ⟨jle rfl, jle rfl⟩ hk33 h (fun S34 h => ?_)
      refine jx_aload_n 0 kd300.2.2.2.2.2.1 rfl rfl ?_
      refine jx_iconst (v := 0) kd300.2.2.2.2.2.2.1 (by decide) ?_
      refine jx_iload_n 1 kd300.2.2.2.2.2.2.2.1 rfl rfl ?_
      refine jx_iconst (v := 1) kd300.2.2.2.2.2.2.2.2.1 (by decide) ?_
      refine jx_iadd kd301.1 ?_
      refine jx_iload_n 2 kd301.2.1 rfl rfl ?_
      obtain ⟨hk35, h⟩ := h
      refine jx_callVi (M' := mX8_readsChain) (As := [.int 0, .int (x1 + 1), .int x2]) jo_X8_readsChain jc_8 rfl jwM_X8_48 jwN_X8_readsChain jwX_X8_readsChain kd301.2.2.1 (jRok_m _ _ _) rfl (jle rfl) ⟨jle rfl, jle rfl⟩ hk35 h (fun r37 S36 h => ?_)
      refine jx_if_eq (tgt := 104) kd301.2.2.2.1 (by decide) (fun c38 => ?_) (fun c38 => ?_)
      · replace h := h.1 c38
        refine jx_iconst (v := 0) kd302.2.2.2.1 (by decide) ?_
        exact jx_iret kd302.2.2.2.2.1 rfl (by decide) (jle rfl) (jle rfl) ⟨_, rfl, h⟩
      replace h := h.2 c38
      refine jx_aload_n 0 kd301.2.2.2.2.1 rfl rfl ?_
      refine jx_bipush (v := 41) kd301.2.2.2.2.2.1 (by decide) ?_
      obtain ⟨hk39, h⟩ := h
      refine jx_callVi (M' := mX8_isInHand) (As := [.int 41]) jo_X8_isInHand jc_8 rfl jwM_X8_120 jwN_X8_isInHand jwX_X8_isInHand kd301.2.2.2.2.2.2.1 (jRok_m _ _ _) rfl (jle rfl) ⟨jle rfl, jle rfl⟩ hk39 h (fun r41 S40 h => ?_)
      refine jx_if_eq (tgt := 104) kd301.2.2.2.2.2.2.2.1 (by decide) (fun c42 => ?_) (fun c42 => ?_)
      · replace h := h.1 c42
        refine jx_iconst (v := 0) kd302.2.2.2.1 (by decide) ?_
        exact jx_iret kd302.2.2.2.2.1 rfl (by decide) (jle rfl) (jle rfl) ⟨_, rfl, h⟩
      replace h := h.2 c42
      refine jx_aload_n 0 kd301.2.2.2.2.2.2.2.2.1 rfl rfl ?_
      obtain ⟨hk43, h⟩ := h
      refine jx_callVv (M' := mX8_step) (As := []) jo_X8_step jc_8 rfl jwM_X8_38 jwN_X8_step jwX_X8_step kd302.1 (jRok_m _ _ _) rfl (jle rfl) ⟨jle rfl, jle rfl⟩ hk43 h (fun S44 h => ?_)
      refine jx_iconst (v := 1) kd302.2.1 (by decide) ?_
      exact jx_iret kd302.2.2.1 rfl (by decide) (jle rfl) (jle rfl) ⟨_, rfl, h⟩
    replace h := h.2 c27
    refine jx_aload_n 0 kd298.1 rfl rfl ?_
    obtain ⟨hk45, h⟩ := h
    refine jx_callVv (M' := mX8_step) (As := []) jo_X8_step jc_8 rfl jwM_X8_38 jwN_X8_step jwX_X8_step kd298.2.1 (jRok_m _ _ _) rfl (jle rfl) ⟨jle rfl, jle rfl⟩ hk45 h (fun S46 h => ?_)
    refine jx_aload_n 0 kd298.2.2.1 rfl rfl ?_
    refine jx_iload_n 1 kd298.2.2.2.1 rfl rfl ?_
    refine jx_iload_n 2 kd298.2.2.2.2.1 rfl rfl ?_
    refine jx_iconst (v := 1) kd298.2.2.2.2.2.1 (by decide) ?_
    refine jx_iadd kd298.2.2.2.2.2.2.1 ?_
    obtain ⟨hk47, h⟩ := h
    refine jx_callVi (M' := mX8_readsPiece) (As := [.int x1, .int (x2 + 1)]) jo_X8_readsPiece jc_8 rfl jwM_X8_106 jwN_X8_readsPiece jwX_X8_readsPiece kd298.2.2.2.2.2.2.2.1 (jRok_m _ _ _) rfl (jle rfl) ⟨jle rfl, jle rfl⟩ hk47 h (fun r49 S48 h => ?_)
    refine jx_istore_n (lv1 := [(3, .int r49), (0, .ref a0), (1, .int x1), (2, .int x2)]) kd298.2.2.2.2.2.2.2.2.1 rfl (by decide) rfl ?_
    refine jx_aload_n 1 kd299.1 rfl rfl ?_
    refine jx_sipush (v := 20033) kd299.2.1 (by decide) ?_
    obtain ⟨hk50, h⟩ := h
    refine jx_callVv (M' := mX8_write) (As := [.int 20033]) jo_X8_write jc_8 rfl jwM_X8_112 jwN_X8_write jwX_X8_write kd299.2.2.1 (jRok_m _ _ _) rfl (jle rfl) ⟨jle rfl, jle rfl⟩ hk50 h (fun S51 h => ?_)
    refine jx_iload_n 0 kd299.2.2.2.1 rfl rfl ?_
    obtain ⟨hb52, h⟩ := h
    exact jx_iret kd299.2.2.2.2.1 rfl (jb_nar hb52) (jle rfl) (jle rfl) ⟨_, rfl, h⟩
  replace h := h.1 c6
  refine jx_aload_n 0 kd296.2.2.2.2.2.2.2.2.1 rfl rfl ?_
  refine jx_callVi (M' := mX8_readsOperand) (As := []) jo_X8_readsOperand jc_8 rfl jwM_X8_116 jwN_X8_readsOperand jwX_X8_readsOperand kd297.1 (jRok_m _ _ _) rfl (jle rfl) ⟨jle rfl, jle rfl⟩ hk1 h (fun r54 S53 h => ?_)
  obtain ⟨hb55, h⟩ := h
  exact jx_iret kd297.2.1 rfl (jb_nar hb55) (jle rfl) (jle rfl) ⟨_, rfl, h⟩
set_option maxRecDepth 100000 in
set_option maxHeartbeats 4000000 in
theorem T_X8_readsOperand {E : jEnv} {d : Nat} {Q : Int32 → jM → Prop} {a0 : Nat} {S : jM} (h : jk S a0 = 8 ∧ ((ji S a0 4) = 2 → jFi E mX8_numberInHand d 0 0 [.ref a0] S (fun r12 S11 => jk S11 a0 = 8 ∧ ((ji S11 a0 5) = 0 → (0 ≤ r12 → jFv E mX8_write d 0 0 [.ref a0, .int r12] S11 (fun S16 => jk S16 a0 = 8 ∧ jFv E mX8_step d 0 0 [.ref a0] (jput S16 a0 7 ((ji S16 a0 7) + 1)) (fun S18 => Q 1 S18))) ∧ (¬ 0 ≤ r12 → Q 0 S11)) ∧ (¬ (ji S11 a0 5) = 0 → Q 0 S11))) ∧ (¬ (ji S a0 4) = 2 → jFi E mX8_nameInHand d 0 0 [.ref a0] S (fun r4 S3 => jk S3 a0 = 8 ∧ ((ji S3 a0 5) = 0 → (0 ≤ r4 → jFv E mX8_write d 0 0 [.ref a0, .int r4] S3 (fun S8 => jk S8 a0 = 8 ∧ jFv E mX8_step d 0 0 [.ref a0] (jput S8 a0 7 ((ji S8 a0 7) + 1)) (fun S10 => Q 1 S10))) ∧ (¬ 0 ≤ r4 → Q 0 S3)) ∧ (¬ (ji S3 a0 5) = 0 → Q 0 S3)))) : jFi E mX8_readsOperand (d + 1) 0 0 [.ref a0] S Q := by
  refine jF_of (by decide) (jle rfl) ?_
  refine jx_lv (lv1 := [(0, .ref a0)]) [0] rfl ?_
  refine jx_aload_n 0 kd303.1 rfl rfl ?_
  obtain ⟨hk1, h⟩ := h
  refine jx_geti jc_8 (j := 4) (by decide) rfl jwF_X8_29 kd303.2.1 hk1 ?_
  refine jx_iconst (v := 2) kd303.2.2.1 (by decide) ?_
  refine jx_icmp_ne (tgt := 15) kd303.2.2.2.1 (by decide) (fun c2 => ?_) (fun c2 => ?_)
  · replace h := h.2 c2
    refine jx_aload_n 0 kd303.2.2.2.2.2.2.2.1 rfl rfl ?_
    refine jx_callVi (M' := mX8_nameInHand) (As := []) jo_X8_nameInHand jc_8 rfl jwM_X8_127 jwN_X8_nameInHand jwX_X8_nameInHand kd303.2.2.2.2.2.2.2.2.1 (jRok_m _ _ _) rfl (jle rfl) ⟨jle rfl, jle rfl⟩ hk1 h (fun r4 S3 h => ?_)
    refine jx_istore_n (lv1 := [(1, .int r4), (0, .ref a0)]) kd304.1 rfl (by decide) rfl ?_
    refine jx_aload_n 1 kd304.2.1 rfl rfl ?_
    obtain ⟨hk5, h⟩ := h
    refine jx_geti jc_8 (j := 5) (by decide) rfl jwF_X8_73 kd304.2.2.1 hk5 ?_
    refine jx_if_ne (tgt := 31) kd304.2.2.2.1 (by decide) (fun c6 => ?_) (fun c6 => ?_)
    · replace h := h.2 c6
      refine jx_iconst (v := 0) kd304.2.2.2.2.2.2.1 (by decide) ?_
      exact jx_iret kd304.2.2.2.2.2.2.2.1 rfl (by decide) (jle rfl) (jle rfl) ⟨_, rfl, h⟩
    replace h := h.1 c6
    refine jx_iload_n 0 kd304.2.2.2.2.1 rfl rfl ?_
    refine jx_if_ge (tgt := 33) kd304.2.2.2.2.2.1 (by decide) (fun c7 => ?_) (fun c7 => ?_)
    · replace h := h.1 c7
      refine jx_aload_n 1 kd304.2.2.2.2.2.2.2.2.1 rfl rfl ?_
      refine jx_iload_n 0 kd305.1 rfl rfl ?_
      refine jx_callVv (M' := mX8_write) (As := [.int r4]) jo_X8_write jc_8 rfl jwM_X8_112 jwN_X8_write jwX_X8_write kd305.2.1 (jRok_m _ _ _) rfl (jle rfl) ⟨jle rfl, jle rfl⟩ hk5 h (fun S8 h => ?_)
      refine jx_aload_n 1 kd305.2.2.1 rfl rfl ?_
      refine jx_dup kd305.2.2.2.1 rfl ?_
      obtain ⟨hk9, h⟩ := h
      refine jx_geti jc_8 (j := 7) (by decide) rfl jwF_X8_32 kd305.2.2.2.2.1 hk9 ?_
      refine jx_iconst (v := 1) kd305.2.2.2.2.2.1 (by decide) ?_
      refine jx_iadd kd305.2.2.2.2.2.2.1 ?_
      refine jx_puti jc_8 (j := 7) (by decide) rfl jwF_X8_32 rfl rfl rfl kd305.2.2.2.2.2.2.2.1 hk9 ?_
      refine jx_aload_n 1 kd305.2.2.2.2.2.2.2.2.1 rfl rfl ?_
      refine jx_callVv (M' := mX8_step) (As := []) jo_X8_step jc_8 rfl jwM_X8_38 jwN_X8_step jwX_X8_step kd306.1 (jRok_m _ _ _) rfl (jle rfl) ⟨jle rfl, jle rfl⟩ hk9 h (fun S10 h => ?_)
      refine jx_iconst (v := 1) kd306.2.1 (by decide) ?_
      exact jx_iret kd306.2.2.1 rfl (by decide) (jle rfl) (jle rfl) ⟨_, rfl, h⟩
    replace h := h.2 c7
    refine jx_iconst (v := 0) kd304.2.2.2.2.2.2.1 (by decide) ?_
    exact jx_iret kd304.2.2.2.2.2.2.2.1 rfl (by decide) (jle rfl) (jle rfl) ⟨_, rfl, h⟩
  replace h := h.1 c2
  refine jx_aload_n 0 kd303.2.2.2.2.1 rfl rfl ?_
  refine jx_callVi (M' := mX8_numberInHand) (As := []) jo_X8_numberInHand jc_8 rfl jwM_X8_124 jwN_X8_numberInHand jwX_X8_numberInHand kd303.2.2.2.2.2.1 (jRok_m _ _ _) rfl (jle rfl) ⟨jle rfl, jle rfl⟩ hk1 h (fun r12 S11 h => ?_)
  refine jx_goto (tgt := 19) kd303.2.2.2.2.2.2.1 (by decide) ?_
  refine jx_istore_n (lv1 := [(1, .int r12), (0, .ref a0)]) kd304.1 rfl (by decide) rfl ?_
  refine jx_aload_n 1 kd304.2.1 rfl rfl ?_
  obtain ⟨hk13, h⟩ := h
  refine jx_geti jc_8 (j := 5) (by decide) rfl jwF_X8_73 kd304.2.2.1 hk13 ?_
  refine jx_if_ne (tgt := 31) kd304.2.2.2.1 (by decide) (fun c14 => ?_) (fun c14 => ?_)
  · replace h := h.2 c14
    refine jx_iconst (v := 0) kd304.2.2.2.2.2.2.1 (by decide) ?_
    exact jx_iret kd304.2.2.2.2.2.2.2.1 rfl (by decide) (jle rfl) (jle rfl) ⟨_, rfl, h⟩
  replace h := h.1 c14
  refine jx_iload_n 0 kd304.2.2.2.2.1 rfl rfl ?_
  refine jx_if_ge (tgt := 33) kd304.2.2.2.2.2.1 (by decide) (fun c15 => ?_) (fun c15 => ?_)
  · replace h := h.1 c15
    refine jx_aload_n 1 kd304.2.2.2.2.2.2.2.2.1 rfl rfl ?_
    refine jx_iload_n 0 kd305.1 rfl rfl ?_
    refine jx_callVv (M' := mX8_write) (As := [.int r12]) jo_X8_write jc_8 rfl jwM_X8_112 jwN_X8_write jwX_X8_write kd305.2.1 (jRok_m _ _ _) rfl (jle rfl) ⟨jle rfl, jle rfl⟩ hk13 h (fun S16 h => ?_)
    refine jx_aload_n 1 kd305.2.2.1 rfl rfl ?_
    refine jx_dup kd305.2.2.2.1 rfl ?_
    obtain ⟨hk17, h⟩ := h
    refine jx_geti jc_8 (j := 7) (by decide) rfl jwF_X8_32 kd305.2.2.2.2.1 hk17 ?_
    refine jx_iconst (v := 1) kd305.2.2.2.2.2.1 (by decide) ?_
    refine jx_iadd kd305.2.2.2.2.2.2.1 ?_
    refine jx_puti jc_8 (j := 7) (by decide) rfl jwF_X8_32 rfl rfl rfl kd305.2.2.2.2.2.2.2.1 hk17 ?_
    refine jx_aload_n 1 kd305.2.2.2.2.2.2.2.2.1 rfl rfl ?_
    refine jx_callVv (M' := mX8_step) (As := []) jo_X8_step jc_8 rfl jwM_X8_38 jwN_X8_step jwX_X8_step kd306.1 (jRok_m _ _ _) rfl (jle rfl) ⟨jle rfl, jle rfl⟩ hk17 h (fun S18 h => ?_)
    refine jx_iconst (v := 1) kd306.2.1 (by decide) ?_
    exact jx_iret kd306.2.2.1 rfl (by decide) (jle rfl) (jle rfl) ⟨_, rfl, h⟩
  replace h := h.2 c15
  refine jx_iconst (v := 0) kd304.2.2.2.2.2.2.1 (by decide) ?_
  exact jx_iret kd304.2.2.2.2.2.2.2.1 rfl (by decide) (jle rfl) (jle rfl) ⟨_, rfl, h⟩
/-- X8_numberInHand at its loop's head 22 -/
abbrev L_X8_numberInHand_22 (E : jEnv) (d : Nat) (Q : Int32 → jM → Prop) (a0 : Nat) (x1 : Int32) (x2 : Int32) (S : jM) : Prop := jX E mX8_numberInHand (jRm (d + 1) 0 0) (jZm E (fun r S' => ∃ v : Int32, r = some (.int v) ∧ Q v S') 0 0) 22 [(0, .ref a0), (1, .int x1), (2, .int x2)] [] S 0 0
set_option maxRecDepth 100000 in
set_option maxHeartbeats 4000000 in
theorem T_X8_numberInHand {E : jEnv} {d : Nat} {Q : Int32 → jM → Prop} {a0 : Nat} {S : jM} (h : jk S a0 = 8 ∧ (((ji S a0 3) - (ji S a0 2)) ≤ 4 → L_X8_numberInHand_22 E d Q a0 0 (ji S a0 2) S) ∧ (¬ ((ji S a0 3) - (ji S a0 2)) ≤ 4 → Q (-1) S)) : jFi E mX8_numberInHand (d + 1) 0 0 [.ref a0] S Q := by
  refine jF_of (by decide) (jle rfl) ?_
  refine jx_lv (lv1 := [(0, .ref a0)]) [0] rfl ?_
  refine jx_aload_n 0 kd307.1 rfl rfl ?_
  obtain ⟨hk1, h⟩ := h
  refine jx_geti jc_8 (j := 3) (by decide) rfl jwF_X8_26 kd307.2.1 hk1 ?_
  refine jx_aload_n 0 kd307.2.2.1 rfl rfl ?_
  refine jx_geti jc_8 (j := 2) (by decide) rfl jwF_X8_63 kd307.2.2.2.1 hk1 ?_
  refine jx_isub kd307.2.2.2.2.1 ?_
  refine jx_iconst (v := 4) kd307.2.2.2.2.2.1 (by decide) ?_
  refine jx_icmp_le (tgt := 15) kd307.2.2.2.2.2.2.1 (by decide) (fun c2 => ?_) (fun c2 => ?_)
  · replace h := h.1 c2
    refine jx_iconst (v := 0) kd308.1 (by decide) ?_
    refine jx_istore_n (lv1 := [(1, .int 0), (0, .ref a0)]) kd308.2.1 rfl (by decide) rfl ?_
    refine jx_aload_n 1 kd308.2.2.1 rfl rfl ?_
    refine jx_geti jc_8 (j := 2) (by decide) rfl jwF_X8_63 kd308.2.2.2.1 hk1 ?_
    refine jx_istore_n (lv1 := [(2, .int (ji S a0 2)), (1, .int 0), (0, .ref a0)]) kd308.2.2.2.2.1 rfl (by decide) rfl ?_
    exact jx_lv [2, 1, 0] rfl h
  replace h := h.2 c2
  refine jx_iconst (v := (-1)) kd307.2.2.2.2.2.2.2.1 (by decide) ?_
  exact jx_iret kd307.2.2.2.2.2.2.2.2.1 rfl rfl (jle rfl) (jle rfl) ⟨_, rfl, h⟩
set_option maxRecDepth 100000 in
set_option maxHeartbeats 4000000 in
theorem T_X8_numberInHand_22 {E : jEnv} {d : Nat} {Q : Int32 → jM → Prop} {a0 : Nat} {x1 : Int32} {x2 : Int32} {S : jM} (h : jk S a0 = 8 ∧ ((ji S a0 3) ≤ x2 → Q x1 S) ∧ (¬ (ji S a0 3) ≤ x2 → jFi E mX8_byteAt d 0 0 [.ref a0, .int x2] S (fun r6 S5 => L_X8_numberInHand_22 E d Q a0 (((10 * x1) + r6) - 48) (x2 + 1) S5))) : L_X8_numberInHand_22 E d Q a0 x1 x2 S := by
  show jX E mX8_numberInHand (jRm (d + 1) 0 0) (jZm E (fun r S' => ∃ v : Int32, r = some (.int v) ∧ Q v S') 0 0) 22 [(0, .ref a0), (1, .int x1), (2, .int x2)] [] S 0 0
  refine jx_iload_n 2 kd308.2.2.2.2.2.1 rfl rfl ?_
  refine jx_aload_n 0 kd308.2.2.2.2.2.2.1 rfl rfl ?_
  obtain ⟨hk3, h⟩ := h
  refine jx_geti jc_8 (j := 3) (by decide) rfl jwF_X8_26 kd308.2.2.2.2.2.2.2.1 hk3 ?_
  refine jx_icmp_ge (tgt := 50) kd308.2.2.2.2.2.2.2.2.1 (by decide) (fun c4 => ?_) (fun c4 => ?_)
  · replace h := h.1 c4
    refine jx_iload_n 1 kd310.2.2.2.1 rfl rfl ?_
    exact jx_iret kd310.2.2.2.2.1 rfl rfl (jle rfl) (jle rfl) ⟨_, rfl, h⟩
  replace h := h.2 c4
  refine jx_bipush (v := 10) kd309.1 (by decide) ?_
  refine jx_iload_n 1 kd309.2.1 rfl rfl ?_
  refine jx_imul kd309.2.2.1 ?_
  refine jx_aload_n 0 kd309.2.2.2.1 rfl rfl ?_
  refine jx_iload_n 2 kd309.2.2.2.2.1 rfl rfl ?_
  refine jx_callVi (M' := mX8_byteAt) (As := [.int x2]) jo_X8_byteAt jc_8 rfl jwM_X8_66 jwN_X8_byteAt jwX_X8_byteAt kd309.2.2.2.2.2.1 (jRok_m _ _ _) rfl (jle rfl) ⟨jle rfl, jle rfl⟩ hk3 h (fun r6 S5 h => ?_)
  refine jx_iadd kd309.2.2.2.2.2.2.1 ?_
  refine jx_bipush (v := 48) kd309.2.2.2.2.2.2.2.1 (by decide) ?_
  refine jx_isub kd309.2.2.2.2.2.2.2.2.1 ?_
  refine jx_istore_n (lv1 := [(1, .int (((10 * x1) + r6) - 48)), (0, .ref a0), (2, .int x2)]) kd310.1 rfl (by decide) rfl ?_
  refine jx_iinc 2 (v := (x2 + 1)) (lv1 := [(2, .int (x2 + 1)), (1, .int (((10 * x1) + r6) - 48)), (0, .ref a0)]) kd310.2.1 rfl rfl (by decide) rfl ?_
  refine jx_goto (tgt := 22) kd310.2.2.1 (by decide) ?_
  exact jx_lv [2, 1, 0] rfl h
set_option maxRecDepth 100000 in
set_option maxHeartbeats 4000000 in
theorem T_X8_write {E : jEnv} {d : Nat} {Q : jM → Prop} {a0 : Nat} {x1 : Int32} {S : jM} (h : jk S a0 = 8 ∧ ((jwi (ji S a0 9) 96) = 0 → Q S) ∧ (¬ (jwi (ji S a0 9) 96) = 0 → ∃ b6, jr S a0 8 = some b6 ∧ (jk S b6 = 12 ∧ vp_in (ji S a0 9) (jl S b6) ∧ (Q (jput (jput S b6 (Int32.toNatClampNeg (ji S a0 9)) x1) a0 9 ((ji S a0 9) + 1)))))) : jFv E mX8_write (d + 1) 0 0 [.ref a0, .int x1] S Q := by
  refine jF_of (by decide) (jle rfl) ?_
  refine jx_lv (lv1 := [(0, .ref a0), (1, .int x1)]) [0, 1] rfl ?_
  refine jx_aload_n 0 kd314.1 rfl rfl ?_
  obtain ⟨hk1, h⟩ := h
  refine jx_geti jc_8 (j := 9) (by decide) rfl jwF_X8_35 kd314.2.1 hk1 ?_
  refine jx_bipush (v := 96) kd314.2.2.1 (by decide) ?_
  refine jx_callSNi (M' := mX10_within) (As := [.int (ji S a0 9), .int 96]) (host := "NineMasters") jo_X10_within (by decide) jwS_X10_within kd314.2.2.2.1 (jRok_m _ _ _) rfl (jle rfl) ⟨jle rfl, jle rfl⟩ (c_X10_within (Q := fun v S' => v = (jwi (ji S a0 9) 96) ∧ S = S') ⟨rfl, rfl⟩) (fun r2 S3 hq4 => ?_)
  obtain ⟨rfl, rfl⟩ := hq4
  refine jx_if_eq (tgt := 32) kd314.2.2.2.2.1 (by decide) (fun c5 => ?_) (fun c5 => ?_)
  · replace h := h.1 c5
    exact jx_vret kd315.2.2.2.2.2.2.2.2.1 rfl (jle rfl) (jle rfl) ⟨rfl, h⟩
  replace h := h.2 c5
  refine jx_aload_n 0 kd314.2.2.2.2.2.1 rfl rfl ?_
  obtain ⟨b6, hb6, h⟩ := h
  refine jx_getr jc_8 (j := 8) (by decide) rfl jwF_X8_15 kd314.2.2.2.2.2.2.1 hk1 hb6 ?_
  refine jx_aload_n 0 kd314.2.2.2.2.2.2.2.1 rfl rfl ?_
  refine jx_geti jc_8 (j := 9) (by decide) rfl jwF_X8_35 kd314.2.2.2.2.2.2.2.2.1 hk1 ?_
  refine jx_iload_n 1 kd315.1 rfl rfl ?_
  obtain ⟨hk7, h⟩ := h
  obtain ⟨hi8, h⟩ := h
  refine jx_iast kd315.2.1 hk7 hi8 ?_
  refine jx_aload_n 0 kd315.2.2.1 rfl rfl ?_
  refine jx_dup kd315.2.2.2.1 rfl ?_
  refine jx_geti jc_8 (j := 9) (by decide) rfl jwF_X8_35 kd315.2.2.2.2.1 hk1 ?_
  refine jx_topi (y := (ji S a0 9)) (by simp [ji_put, ji_row, ji_putr, jne hk1 hk7 (by decide)]) ?_
  refine jx_iconst (v := 1) kd315.2.2.2.2.2.1 (by decide) ?_
  refine jx_iadd kd315.2.2.2.2.2.2.1 ?_
  refine jx_puti jc_8 (j := 9) (by decide) rfl jwF_X8_35 rfl rfl rfl kd315.2.2.2.2.2.2.2.1 hk1 ?_
  exact jx_vret kd315.2.2.2.2.2.2.2.2.1 rfl (jle rfl) (jle rfl) ⟨rfl, h⟩
set_option maxRecDepth 100000 in
set_option maxHeartbeats 4000000 in
theorem T_X3_init {E : jEnv} {d : Nat} {Q : jM → Prop} {a0 : Nat} {S : jM} (h : ∀ q1, q1 = jn S → jFv E mX0_init d 10 72 [.ref q1] (jnew S 0 0) (fun S2 => jk S2 a0 = 3 ∧ ∀ q5, q5 = jn (jputr S2 a0 0 (some q1)) → jFv E mX4_init d 2 72 [.ref q5] (jnew (jputr S2 a0 0 (some q1)) 4 0) (fun S6 => jk S6 a0 = 3 ∧ ∀ q9, q9 = jn (jputr S6 a0 1 (some q5)) → jFv E mX1_init d 2 20 [.ref q9] (jnew (jputr S6 a0 1 (some q5)) 1 0) (fun S10 => jk S10 a0 = 3 ∧ ∀ q13, q13 = jn (jputr S10 a0 2 (some q9)) → jk (jnew (jputr S10 a0 2 (some q9)) 12 6) a0 = 3 ∧ ∀ q16, q16 = jn (jputr (jnew (jputr S10 a0 2 (some q9)) 12 6) a0 3 (some q13)) → jk (jnew (jputr (jnew (jputr S10 a0 2 (some q9)) 12 6) a0 3 (some q13)) 16 14) a0 = 3 ∧ Q (jputr (jnew (jputr (jnew (jputr S10 a0 2 (some q9)) 12 6) a0 3 (some q13)) 16 14) a0 5 (some q16)))))) : jFv E mX3_init (d + 1) 19 196 [.ref a0] S Q := by
  refine jF_of (by decide) (jle rfl) ?_
  refine jx_lv (lv1 := [(0, .ref a0)]) [0] rfl ?_
  refine jx_aload_n 0 kd100.1 rfl rfl ?_
  refine jx_objInit jwM_X3_3 jwN_obj jwO_obj kd100.2.1 (jRok_m _ _ _) (jle rfl) ?_
  refine jx_aload_n 0 kd100.2.2.1 rfl rfl ?_
  refine jx_new jc_0 jwK_X3_9 jwI_X0 jwZ_X0 jdv_0 kd100.2.2.2.1 ⟨jle rfl, jle rfl⟩ ?_
  obtain ⟨q1, hq1⟩ : ∃ q, q = jn S := ⟨_, rfl⟩
  rw [← hq1]
  replace h := h q1 hq1
  refine jx_dup kd100.2.2.2.2.1 rfl ?_
  refine jx_callIv (M' := mX0_init) (As := []) (b := q1) jo_X0_init rfl jwM_X3_11 jwN_X0_init rfl kd100.2.2.2.2.2.1 (jRok_m _ _ _) rfl (jle rfl) ⟨jle rfl, jle rfl⟩ h (fun S2 h => ?_)
  obtain ⟨hk3, h⟩ := h
  refine jx_putrF jc_3 (j := 0) (by decide) rfl jwF_X3_12 rfl rfl rfl rfl rfl kd100.2.2.2.2.2.2.1 hk3 ?_
  refine jx_aload_n 0 kd100.2.2.2.2.2.2.2.1 rfl rfl ?_
  refine jx_new jc_4 jwK_X3_18 jwI_X4 jwZ_X4 jdv_4 kd100.2.2.2.2.2.2.2.2.1 ⟨jle rfl, jle rfl⟩ ?_
  obtain ⟨q5, hq5⟩ : ∃ q, q = jn (jputr S2 a0 0 (some q1)) := ⟨_, rfl⟩
  rw [← hq5]
  replace h := h q5 hq5
  refine jx_dup kd101.1 rfl ?_
  refine jx_callIv (M' := mX4_init) (As := []) (b := q5) jo_X4_init rfl jwM_X3_20 jwN_X4_init rfl kd101.2.1 (jRok_m _ _ _) rfl (jle rfl) ⟨jle rfl, jle rfl⟩ h (fun S6 h => ?_)
  obtain ⟨hk7, h⟩ := h
  refine jx_putrF jc_3 (j := 1) (by decide) rfl jwF_X3_21 rfl rfl rfl rfl rfl kd101.2.2.1 hk7 ?_
  refine jx_aload_n 0 kd101.2.2.2.1 rfl rfl ?_
  refine jx_new jc_1 jwK_X3_25 jwI_X1 jwZ_X1 jdv_1 kd101.2.2.2.2.1 ⟨jle rfl, jle rfl⟩ ?_
  obtain ⟨q9, hq9⟩ : ∃ q, q = jn (jputr S6 a0 1 (some q5)) := ⟨_, rfl⟩
  rw [← hq9]
  replace h := h q9 hq9
  refine jx_dup kd101.2.2.2.2.2.1 rfl ?_
  refine jx_callINv (M' := mX1_init) (As := []) (b := q9) (host := "NineMasters") jo_X1_init rfl (by decide) jwN_X1_init rfl kd101.2.2.2.2.2.2.1 (jRok_m _ _ _) rfl (jle rfl) ⟨jle rfl, jle rfl⟩ h (fun S10 h => ?_)
  obtain ⟨hk11, h⟩ := h
  refine jx_putrF jc_3 (j := 2) (by decide) rfl jwF_X3_28 rfl rfl rfl rfl rfl kd101.2.2.2.2.2.2.2.1 hk11 ?_
  refine jx_aload_n 0 kd101.2.2.2.2.2.2.2.2.1 rfl rfl ?_
  refine jx_bipush (v := 6) kd102.1 (by decide) ?_
  refine jx_newa (N := 6) jwA kd102.2.1 (by decide) (by decide) (by decide) ⟨jle rfl, jle rfl⟩ ?_
  obtain ⟨q13, hq13⟩ : ∃ q, q = jn (jputr S10 a0 2 (some q9)) := ⟨_, rfl⟩
  rw [← hq13]
  replace h := h q13 hq13
  obtain ⟨hk14, h⟩ := h
  refine jx_putrF jc_3 (j := 3) (by decide) rfl jwF_X3_32 rfl rfl rfl rfl rfl kd102.2.2.1 hk14 ?_
  refine jx_aload_n 0 kd102.2.2.2.1 rfl rfl ?_
  refine jx_bipush (v := 14) kd102.2.2.2.2.1 (by decide) ?_
  refine jx_anew (kk := 16) (N := 14) jc_9 (by decide) (by decide) rfl jwK_X3_36 kd102.2.2.2.2.2.1 (by decide) (by decide) (by decide) ⟨jle rfl, jle rfl⟩ ?_
  obtain ⟨q16, hq16⟩ : ∃ q, q = jn (jputr (jnew (jputr S10 a0 2 (some q9)) 12 6) a0 3 (some q13)) := ⟨_, rfl⟩
  rw [← hq16]
  replace h := h q16 hq16
  obtain ⟨hk17, h⟩ := h
  refine jx_putrF jc_3 (j := 5) (by decide) rfl jwF_X3_38 rfl rfl rfl rfl rfl kd102.2.2.2.2.2.2.1 hk17 ?_
  exact jx_vret kd102.2.2.2.2.2.2.2.1 rfl (jle rfl) (jle rfl) ⟨rfl, h⟩
/-- X3_become at its loop's head 58 -/
abbrev L_X3_become_58 (E : jEnv) (d : Nat) (Q : jM → Prop) (a0 : Nat) (a1 : Nat) (x2 : Int32) (S : jM) : Prop := jX E mX3_become (jRm (d + 1) 0 0) (jZm E (fun r S' => r = none ∧ Q S') 0 0) 58 [(0, .ref a0), (1, .ref a1), (2, .int x2)] [] S 0 0
set_option maxRecDepth 100000 in
set_option maxHeartbeats 4000000 in
theorem T_X3_become {E : jEnv} {d : Nat} {Q : jM → Prop} {a0 : Nat} {a1 : Nat} {S : jM} (h : jk S a0 = 3 ∧ ∃ b2, jr S a0 0 = some b2 ∧ (jk S a1 = 3 ∧ ∃ b4, jr S a1 0 = some b4 ∧ (jk S b2 = 0 ∧ jFv E mX0_become d 0 0 [.ref b2, .ref b4] S (fun S6 => jk S6 a0 = 3 ∧ ∃ b8, jr S6 a0 1 = some b8 ∧ (jk S6 a1 = 3 ∧ ∃ b10, jr S6 a1 1 = some b10 ∧ (jk S6 b8 = 4 ∧ jFv E mX4_become d 0 0 [.ref b8, .ref b10] S6 (fun S12 => jk S12 a0 = 3 ∧ ∃ b14, jr S12 a0 2 = some b14 ∧ (jk S12 a1 = 3 ∧ ∃ b16, jr S12 a1 2 = some b16 ∧ (jk S12 b14 = 1 ∧ jFv E mX1_become d 0 0 [.ref b14, .ref b16] S12 (fun S18 => jk S18 a1 = 3 ∧ ∃ b20, jr S18 a1 3 = some b20 ∧ (jk S18 a0 = 3 ∧ ∃ b22, jr S18 a0 3 = some b22 ∧ (jk S18 b20 = 12 ∧ jk S18 b22 = 12 ∧ (¬ (0 : Int32) < 0 ∧ ¬ (0 : Int32) < 0 ∧ ¬ (6 : Int32) < 0 ∧ (Int32.toNatClampNeg 0) + (Int32.toNatClampNeg 6) ≤ jl S18 b20 ∧ (Int32.toNatClampNeg 0) + (Int32.toNatClampNeg 6) ≤ jl S18 b22) ∧ (L_X3_become_58 E d Q a0 a1 0 (jput (jrow S18 b22 (va_cpy (ji S18 b20) (ji S18 b22) (Int32.toNatClampNeg 0) (Int32.toNatClampNeg 0) (Int32.toNatClampNeg 6))) a0 4 (ji S18 a1 4))))))))))))))) : jFv E mX3_become (d + 1) 0 0 [.ref a0, .ref a1] S Q := by
  refine jF_of (by decide) (jle rfl) ?_
  refine jx_lv (lv1 := [(0, .ref a0), (1, .ref a1)]) [0, 1] rfl ?_
  refine jx_aload_n 0 kd103.1 rfl rfl ?_
  obtain ⟨hk1, h⟩ := h
  obtain ⟨b2, hb2, h⟩ := h
  refine jx_getr jc_3 (j := 0) (by decide) rfl jwF_X3_12 kd103.2.1 hk1 hb2 ?_
  refine jx_aload_n 1 kd103.2.2.1 rfl rfl ?_
  obtain ⟨hk3, h⟩ := h
  obtain ⟨b4, hb4, h⟩ := h
  refine jx_getr jc_3 (j := 0) (by decide) rfl jwF_X3_12 kd103.2.2.2.1 hk3 hb4 ?_
  obtain ⟨hk5, h⟩ := h
  refine jx_callVv (M' := mX0_become) (As := [.ref b4]) jo_X0_become jc_0 rfl jwM_X3_42 jwN_X0_become jwX_X0_become kd103.2.2.2.2.1 (jRok_m _ _ _) rfl (jle rfl) ⟨jle rfl, jle rfl⟩ hk5 h (fun S6 h => ?_)
  refine jx_aload_n 0 kd103.2.2.2.2.2.1 rfl rfl ?_
  obtain ⟨hk7, h⟩ := h
  obtain ⟨b8, hb8, h⟩ := h
  refine jx_getr jc_3 (j := 1) (by decide) rfl jwF_X3_21 kd103.2.2.2.2.2.2.1 hk7 hb8 ?_
  refine jx_aload_n 1 kd103.2.2.2.2.2.2.2.1 rfl rfl ?_
  obtain ⟨hk9, h⟩ := h
  obtain ⟨b10, hb10, h⟩ := h
  refine jx_getr jc_3 (j := 1) (by decide) rfl jwF_X3_21 kd103.2.2.2.2.2.2.2.2.1 hk9 hb10 ?_
  obtain ⟨hk11, h⟩ := h
  refine jx_callVv (M' := mX4_become) (As := [.ref b10]) jo_X4_become jc_4 rfl jwM_X3_46 jwN_X4_become jwX_X4_become kd104.1 (jRok_m _ _ _) rfl (jle rfl) ⟨jle rfl, jle rfl⟩ hk11 h (fun S12 h => ?_)
  refine jx_aload_n 0 kd104.2.1 rfl rfl ?_
  obtain ⟨hk13, h⟩ := h
  obtain ⟨b14, hb14, h⟩ := h
  refine jx_getr jc_3 (j := 2) (by decide) rfl jwF_X3_28 kd104.2.2.1 hk13 hb14 ?_
  refine jx_aload_n 1 kd104.2.2.2.1 rfl rfl ?_
  obtain ⟨hk15, h⟩ := h
  obtain ⟨b16, hb16, h⟩ := h
  refine jx_getr jc_3 (j := 2) (by decide) rfl jwF_X3_28 kd104.2.2.2.2.1 hk15 hb16 ?_
  obtain ⟨hk17, h⟩ := h
  refine jx_callVv (M' := mX1_become) (As := [.ref b16]) jo_X1_become jc_1 rfl jwM_X3_49 jwN_X1_become jwX_X1_become kd104.2.2.2.2.2.1 (jRok_m _ _ _) rfl (jle rfl) ⟨jle rfl, jle rfl⟩ hk17 h (fun S18 h => ?_)
  refine jx_aload_n 1 kd104.2.2.2.2.2.2.1 rfl rfl ?_
  obtain ⟨hk19, h⟩ := h
  obtain ⟨b20, hb20, h⟩ := h
  refine jx_getr jc_3 (j := 3) (by decide) rfl jwF_X3_32 kd104.2.2.2.2.2.2.2.1 hk19 hb20 ?_
  refine jx_iconst (v := 0) kd104.2.2.2.2.2.2.2.2.1 (by decide) ?_
  refine jx_aload_n 0 kd105.1 rfl rfl ?_
  obtain ⟨hk21, h⟩ := h
  obtain ⟨b22, hb22, h⟩ := h
  refine jx_getr jc_3 (j := 3) (by decide) rfl jwF_X3_32 kd105.2.1 hk21 hb22 ?_
  refine jx_iconst (v := 0) kd105.2.2.1 (by decide) ?_
  refine jx_bipush (v := 6) kd105.2.2.2.1 (by decide) ?_
  obtain ⟨hk23, h⟩ := h
  obtain ⟨hk24, h⟩ := h
  obtain ⟨⟨hc25, hc26, hc27, hc28, hc29⟩, h⟩ := h
  refine jx_copy jwM_X3_52 jwV_copy jwS_copy jwZ_J10 kd105.2.2.2.2.1 (jRok_m _ _ _) (jle rfl) hk23 hk24 hc25 hc26 hc27 hc28 hc29 ?_
  refine jx_aload_n 0 kd105.2.2.2.2.2.1 rfl rfl ?_
  refine jx_aload_n 1 kd105.2.2.2.2.2.2.1 rfl rfl ?_
  refine jx_geti jc_3 (j := 4) (by decide) rfl jwF_X3_58 kd105.2.2.2.2.2.2.2.1 hk19 ?_
  refine jx_topi (y := (ji S18 a1 4)) (by simp [ji_put, ji_row, ji_putr, jne hk19 hk24 (by decide)]) ?_
  refine jx_puti jc_3 (j := 4) (by decide) rfl jwF_X3_58 rfl rfl rfl kd105.2.2.2.2.2.2.2.2.1 hk21 ?_
  refine jx_iconst (v := 0) kd106.1 (by decide) ?_
  refine jx_istore_n (lv1 := [(2, .int 0), (0, .ref a0), (1, .ref a1)]) kd106.2.1 rfl (by decide) rfl ?_
  exact jx_lv [1, 2, 0] rfl h
set_option maxRecDepth 100000 in
set_option maxHeartbeats 4000000 in
theorem T_X3_become_58 {E : jEnv} {d : Nat} {Q : jM → Prop} {a0 : Nat} {a1 : Nat} {x2 : Int32} {S : jM} (h : (14 ≤ x2 → jk S a1 = 3 ∧ jk S a0 = 3 ∧ Q (jput S a0 6 (ji S a1 6))) ∧ (¬ 14 ≤ x2 → jk S a0 = 3 ∧ ∃ b34, jr S a0 5 = some b34 ∧ (jk S a1 = 3 ∧ ∃ b36, jr S a1 5 = some b36 ∧ (jk S b36 = 16 ∧ vp_in x2 (jl S b36) ∧ (jr S b36 (Int32.toNatClampNeg x2) = none → jk S b34 = 16 ∧ vp_in x2 (jl S b34) ∧ (L_X3_become_58 E d Q a0 a1 (x2 + 1) (jputr S b34 (Int32.toNatClampNeg x2) none))) ∧ (∀ b40, jr S b36 (Int32.toNatClampNeg x2) = some b40 → jk S b34 = 16 ∧ jk S b40 = 9 ∧ vp_in x2 (jl S b34) ∧ (L_X3_become_58 E d Q a0 a1 (x2 + 1) (jputr S b34 (Int32.toNatClampNeg x2) (some b40)))))))) : L_X3_become_58 E d Q a0 a1 x2 S := by
  show jX E mX3_become (jRm (d + 1) 0 0) (jZm E (fun r S' => r = none ∧ Q S') 0 0) 58 [(0, .ref a0), (1, .ref a1), (2, .int x2)] [] S 0 0
  refine jx_iload_n 2 kd106.2.2.1 rfl rfl ?_
  refine jx_bipush (v := 14) kd106.2.2.2.1 (by decide) ?_
  refine jx_icmp_ge (tgt := 82) kd106.2.2.2.2.1 (by decide) (fun c30 => ?_) (fun c30 => ?_)
  · replace h := h.1 c30
    refine jx_aload_n 0 kd107.2.2.2.2.2.2.1 rfl rfl ?_
    refine jx_aload_n 1 kd107.2.2.2.2.2.2.2.1 rfl rfl ?_
    obtain ⟨hk31, h⟩ := h
    refine jx_geti jc_3 (j := 6) (by decide) rfl jwF_X3_62 kd107.2.2.2.2.2.2.2.2.1 hk31 ?_
    obtain ⟨hk32, h⟩ := h
    refine jx_puti jc_3 (j := 6) (by decide) rfl jwF_X3_62 rfl rfl rfl kd108.1 hk32 ?_
    exact jx_vret kd108.2.1 rfl (jle rfl) (jle rfl) ⟨rfl, h⟩
  replace h := h.2 c30
  refine jx_aload_n 0 kd106.2.2.2.2.2.1 rfl rfl ?_
  obtain ⟨hk33, h⟩ := h
  obtain ⟨b34, hb34, h⟩ := h
  refine jx_getr jc_3 (j := 5) (by decide) rfl jwF_X3_38 kd106.2.2.2.2.2.2.1 hk33 hb34 ?_
  refine jx_iload_n 2 kd106.2.2.2.2.2.2.2.1 rfl rfl ?_
  refine jx_aload_n 1 kd106.2.2.2.2.2.2.2.2.1 rfl rfl ?_
  obtain ⟨hk35, h⟩ := h
  obtain ⟨b36, hb36, h⟩ := h
  refine jx_getr jc_3 (j := 5) (by decide) rfl jwF_X3_38 kd107.1 hk35 hb36 ?_
  refine jx_iload_n 2 kd107.2.1 rfl rfl ?_
  obtain ⟨hk37, h⟩ := h
  obtain ⟨hi38, h⟩ := h
  rcases hb39 : jr S b36 (Int32.toNatClampNeg x2) with _ | b40
  · replace h := h.1 hb39
    refine jx_aaldN kd107.2.2.1 hk37 (by decide) (by decide) hi38 hb39 ?_
    obtain ⟨hk41, h⟩ := h
    obtain ⟨hi42, h⟩ := h
    refine jx_aastN kd107.2.2.2.1 hk41 (by decide) (by decide) hi42 ?_
    refine jx_iinc 2 (v := (x2 + 1)) (lv1 := [(2, .int (x2 + 1)), (0, .ref a0), (1, .ref a1)]) kd107.2.2.2.2.1 rfl rfl (by decide) rfl ?_
    refine jx_goto (tgt := 58) kd107.2.2.2.2.2.1 (by decide) ?_
    exact jx_lv [1, 2, 0] rfl h
  replace h := h.2 b40 hb39
  refine jx_aaldS kd107.2.2.1 hk37 (by decide) (by decide) hi38 hb39 ?_
  obtain ⟨hk43, h⟩ := h
  obtain ⟨hk45, h⟩ := h
  obtain ⟨hi44, h⟩ := h
  refine jx_aast kd107.2.2.2.1 hk43 (by decide) (by decide) jc_9 rfl hk45 hi44 ?_
  refine jx_iinc 2 (v := (x2 + 1)) (lv1 := [(2, .int (x2 + 1)), (0, .ref a0), (1, .ref a1)]) kd107.2.2.2.2.1 rfl rfl (by decide) rfl ?_
  refine jx_goto (tgt := 58) kd107.2.2.2.2.2.1 (by decide) ?_
  exact jx_lv [1, 2, 0] rfl h
set_option maxRecDepth 100000 in
set_option maxHeartbeats 4000000 in
theorem T_X3_addWish {E : jEnv} {d : Nat} {Q : Int32 → jM → Prop} {a0 : Nat} {x1 : Int32} {S : jM} (h : jk S a0 = 3 ∧ ((jwi (ji S a0 4) 6) = 0 → Q 0 S) ∧ (¬ (jwi (ji S a0 4) 6) = 0 → ∃ b6, jr S a0 3 = some b6 ∧ (jk S b6 = 12 ∧ vp_in (ji S a0 4) (jl S b6) ∧ (Q 1 (jput (jput S b6 (Int32.toNatClampNeg (ji S a0 4)) x1) a0 4 ((ji S a0 4) + 1)))))) : jFi E mX3_addWish (d + 1) 0 0 [.ref a0, .int x1] S Q := by
  refine jF_of (by decide) (jle rfl) ?_
  refine jx_lv (lv1 := [(0, .ref a0), (1, .int x1)]) [0, 1] rfl ?_
  refine jx_aload_n 0 kd109.1 rfl rfl ?_
  obtain ⟨hk1, h⟩ := h
  refine jx_geti jc_3 (j := 4) (by decide) rfl jwF_X3_58 kd109.2.1 hk1 ?_
  refine jx_bipush (v := 6) kd109.2.2.1 (by decide) ?_
  refine jx_callSNi (M' := mX10_within) (As := [.int (ji S a0 4), .int 6]) (host := "NineMasters") jo_X10_within (by decide) jwS_X10_within kd109.2.2.2.1 (jRok_m _ _ _) rfl (jle rfl) ⟨jle rfl, jle rfl⟩ (c_X10_within (Q := fun v S' => v = (jwi (ji S a0 4) 6) ∧ S = S') ⟨rfl, rfl⟩) (fun r2 S3 hq4 => ?_)
  obtain ⟨rfl, rfl⟩ := hq4
  refine jx_if_ne (tgt := 14) kd109.2.2.2.2.1 (by decide) (fun c5 => ?_) (fun c5 => ?_)
  · replace h := h.2 c5
    refine jx_aload_n 0 kd109.2.2.2.2.2.2.2.1 rfl rfl ?_
    obtain ⟨b6, hb6, h⟩ := h
    refine jx_getr jc_3 (j := 3) (by decide) rfl jwF_X3_32 kd109.2.2.2.2.2.2.2.2.1 hk1 hb6 ?_
    refine jx_aload_n 0 kd110.1 rfl rfl ?_
    refine jx_geti jc_3 (j := 4) (by decide) rfl jwF_X3_58 kd110.2.1 hk1 ?_
    refine jx_iload_n 1 kd110.2.2.1 rfl rfl ?_
    obtain ⟨hk7, h⟩ := h
    obtain ⟨hi8, h⟩ := h
    refine jx_iast kd110.2.2.2.1 hk7 hi8 ?_
    refine jx_aload_n 0 kd110.2.2.2.2.1 rfl rfl ?_
    refine jx_dup kd110.2.2.2.2.2.1 rfl ?_
    refine jx_geti jc_3 (j := 4) (by decide) rfl jwF_X3_58 kd110.2.2.2.2.2.2.1 hk1 ?_
    refine jx_topi (y := (ji S a0 4)) (by simp [ji_put, ji_row, ji_putr, jne hk1 hk7 (by decide)]) ?_
    refine jx_iconst (v := 1) kd110.2.2.2.2.2.2.2.1 (by decide) ?_
    refine jx_iadd kd110.2.2.2.2.2.2.2.2.1 ?_
    refine jx_puti jc_3 (j := 4) (by decide) rfl jwF_X3_58 rfl rfl rfl kd111.1 hk1 ?_
    refine jx_iconst (v := 1) kd111.2.1 (by decide) ?_
    exact jx_iret kd111.2.2.1 rfl (by decide) (jle rfl) (jle rfl) ⟨_, rfl, h⟩
  replace h := h.1 c5
  refine jx_iconst (v := 0) kd109.2.2.2.2.2.1 (by decide) ?_
  exact jx_iret kd109.2.2.2.2.2.2.1 rfl (by decide) (jle rfl) (jle rfl) ⟨_, rfl, h⟩
/-- X3_wishedSet at its loop's head 4 -/
abbrev L_X3_wishedSet_4 (E : jEnv) (d : Nat) (Q : Int32 → jM → Prop) (a0 : Nat) (x1 : Int32) (x2 : Int32) (S : jM) : Prop := jX E mX3_wishedSet (jRm d 0 0) (jZm E (fun r S' => ∃ v : Int32, r = some (.int v) ∧ Q v S') 0 0) 4 [(0, .ref a0), (1, .int x1), (2, .int x2)] [] S 0 0
set_option maxRecDepth 100000 in
set_option maxHeartbeats 4000000 in
theorem T_X3_wishedSet {E : jEnv} {d : Nat} {Q : Int32 → jM → Prop} {a0 : Nat} {S : jM} (h : L_X3_wishedSet_4 E d Q a0 0 0 S) : jFi E mX3_wishedSet d 0 0 [.ref a0] S Q := by
  refine jF_of (by decide) (jle rfl) ?_
  refine jx_lv (lv1 := [(0, .ref a0)]) [0] rfl ?_
  refine jx_iconst (v := 0) kd112.1 (by decide) ?_
  refine jx_istore_n (lv1 := [(1, .int 0), (0, .ref a0)]) kd112.2.1 rfl (by decide) rfl ?_
  refine jx_iconst (v := 0) kd112.2.2.1 (by decide) ?_
  refine jx_istore_n (lv1 := [(2, .int 0), (1, .int 0), (0, .ref a0)]) kd112.2.2.2.1 rfl (by decide) rfl ?_
  exact jx_lv [2, 1, 0] rfl h
set_option maxRecDepth 100000 in
set_option maxHeartbeats 4000000 in
theorem T_X3_wishedSet_4 {E : jEnv} {d : Nat} {Q : Int32 → jM → Prop} {a0 : Nat} {x1 : Int32} {x2 : Int32} {S : jM} (h : jk S a0 = 3 ∧ ((ji S a0 4) ≤ x2 → Q x1 S) ∧ (¬ (ji S a0 4) ≤ x2 → (6 ≤ x2 → Q x1 S) ∧ (¬ 6 ≤ x2 → ∃ b4, jr S a0 3 = some b4 ∧ (jk S b4 = 12 ∧ vp_in x2 (jl S b4) ∧ (L_X3_wishedSet_4 E d Q a0 (x1 ||| (jshl 1 (ji S b4 (Int32.toNatClampNeg x2)))) (x2 + 1) S))))) : L_X3_wishedSet_4 E d Q a0 x1 x2 S := by
  show jX E mX3_wishedSet (jRm d 0 0) (jZm E (fun r S' => ∃ v : Int32, r = some (.int v) ∧ Q v S') 0 0) 4 [(0, .ref a0), (1, .int x1), (2, .int x2)] [] S 0 0
  refine jx_iload_n 2 kd112.2.2.2.2.1 rfl rfl ?_
  refine jx_aload_n 0 kd112.2.2.2.2.2.1 rfl rfl ?_
  obtain ⟨hk1, h⟩ := h
  refine jx_geti jc_3 (j := 4) (by decide) rfl jwF_X3_58 kd112.2.2.2.2.2.2.1 hk1 ?_
  refine jx_icmp_ge (tgt := 35) kd112.2.2.2.2.2.2.2.1 (by decide) (fun c2 => ?_) (fun c2 => ?_)
  · replace h := h.1 c2
    refine jx_iload_n 1 kd114.2.2.2.2.1 rfl rfl ?_
    exact jx_iret kd114.2.2.2.2.2.1 rfl rfl (jle rfl) (jle rfl) ⟨_, rfl, h⟩
  replace h := h.2 c2
  refine jx_iload_n 2 kd112.2.2.2.2.2.2.2.2.1 rfl rfl ?_
  refine jx_bipush (v := 6) kd113.1 (by decide) ?_
  refine jx_icmp_ge (tgt := 35) kd113.2.1 (by decide) (fun c3 => ?_) (fun c3 => ?_)
  · replace h := h.1 c3
    refine jx_iload_n 1 kd114.2.2.2.2.1 rfl rfl ?_
    exact jx_iret kd114.2.2.2.2.2.1 rfl rfl (jle rfl) (jle rfl) ⟨_, rfl, h⟩
  replace h := h.2 c3
  refine jx_iload_n 1 kd113.2.2.1 rfl rfl ?_
  refine jx_iconst (v := 1) kd113.2.2.2.1 (by decide) ?_
  refine jx_aload_n 0 kd113.2.2.2.2.1 rfl rfl ?_
  obtain ⟨b4, hb4, h⟩ := h
  refine jx_getr jc_3 (j := 3) (by decide) rfl jwF_X3_32 kd113.2.2.2.2.2.1 hk1 hb4 ?_
  refine jx_iload_n 2 kd113.2.2.2.2.2.2.1 rfl rfl ?_
  obtain ⟨hk5, h⟩ := h
  obtain ⟨hi6, h⟩ := h
  refine jx_iald kd113.2.2.2.2.2.2.2.1 hk5 hi6 ?_
  refine jx_ishl kd113.2.2.2.2.2.2.2.2.1 ?_
  refine jx_ior kd114.1 ?_
  refine jx_istore_n (lv1 := [(1, .int (x1 ||| (jshl 1 (ji S b4 (Int32.toNatClampNeg x2))))), (0, .ref a0), (2, .int x2)]) kd114.2.1 rfl (by decide) rfl ?_
  refine jx_iinc 2 (v := (x2 + 1)) (lv1 := [(2, .int (x2 + 1)), (1, .int (x1 ||| (jshl 1 (ji S b4 (Int32.toNatClampNeg x2))))), (0, .ref a0)]) kd114.2.2.1 rfl rfl (by decide) rfl ?_
  refine jx_goto (tgt := 4) kd114.2.2.2.1 (by decide) ?_
  exact jx_lv [2, 1, 0] rfl h
set_option maxRecDepth 100000 in
set_option maxHeartbeats 4000000 in
theorem T_X3_canMakeChair {E : jEnv} {d : Nat} {Q : Int32 → jM → Prop} {a0 : Nat} {S : jM} (h : jk S a0 = 3 ∧ jFi E mX3_wishedSet d 0 0 [.ref a0] S (fun r3 S2 => jk S2 a0 = 3 ∧ ∃ b5, jr S2 a0 2 = some b5 ∧ (jk S2 b5 = 1 ∧ ((r3 &&& ((ji S2 b5 1) ^^^ (-1))) = 0 → Q 1 S2) ∧ (¬ (r3 &&& ((ji S2 b5 1) ^^^ (-1))) = 0 → Q 0 S2)))) : jFi E mX3_canMakeChair (d + 1) 0 0 [.ref a0] S Q := by
  refine jF_of (by decide) (jle rfl) ?_
  refine jx_lv (lv1 := [(0, .ref a0)]) [0] rfl ?_
  refine jx_aload_n 0 kd115.1 rfl rfl ?_
  obtain ⟨hk1, h⟩ := h
  refine jx_callVi (M' := mX3_wishedSet) (As := []) jo_X3_wishedSet jc_3 rfl jwM_X3_69 jwN_X3_wishedSet jwX_X3_wishedSet kd115.2.1 (jRok_m _ _ _) rfl (jle rfl) ⟨jle rfl, jle rfl⟩ hk1 h (fun r3 S2 h => ?_)
  refine jx_aload_n 0 kd115.2.2.1 rfl rfl ?_
  obtain ⟨hk4, h⟩ := h
  obtain ⟨b5, hb5, h⟩ := h
  refine jx_getr jc_3 (j := 2) (by decide) rfl jwF_X3_28 kd115.2.2.2.1 hk4 hb5 ?_
  obtain ⟨hk6, h⟩ := h
  refine jx_geti jc_1 (j := 1) (by decide) rfl jwF_X3_73 kd115.2.2.2.2.1 hk6 ?_
  refine jx_iconst (v := (-1)) kd115.2.2.2.2.2.1 (by decide) ?_
  refine jx_ixor kd115.2.2.2.2.2.2.1 ?_
  refine jx_iand kd115.2.2.2.2.2.2.2.1 ?_
  refine jx_if_ne (tgt := 21) kd115.2.2.2.2.2.2.2.2.1 (by decide) (fun c7 => ?_) (fun c7 => ?_)
  · replace h := h.2 c7
    refine jx_iconst (v := 0) kd116.2.2.1 (by decide) ?_
    exact jx_iret kd116.2.2.2.1 rfl (by decide) (jle rfl) (jle rfl) ⟨_, rfl, h⟩
  replace h := h.1 c7
  refine jx_iconst (v := 1) kd116.1 (by decide) ?_
  refine jx_goto (tgt := 22) kd116.2.1 (by decide) ?_
  exact jx_iret kd116.2.2.2.1 rfl (by decide) (jle rfl) (jle rfl) ⟨_, rfl, h⟩
/-- X3_makeChair at its loop's head 2 -/
abbrev L_X3_makeChair_2 (E : jEnv) (d : Nat) (Q : jM → Prop) (a0 : Nat) (x1 : Int32) (S : jM) : Prop := jX E mX3_makeChair (jRm (d + 1) 0 0) (jZm E (fun r S' => r = none ∧ Q S') 0 0) 2 [(0, .ref a0), (1, .int x1)] [] S 0 0
set_option maxRecDepth 100000 in
set_option maxHeartbeats 4000000 in
theorem T_X3_makeChair {E : jEnv} {d : Nat} {Q : jM → Prop} {a0 : Nat} {S : jM} (h : L_X3_makeChair_2 E d Q a0 0 S) : jFv E mX3_makeChair (d + 1) 0 0 [.ref a0] S Q := by
  refine jF_of (by decide) (jle rfl) ?_
  refine jx_lv (lv1 := [(0, .ref a0)]) [0] rfl ?_
  refine jx_iconst (v := 0) kd117.1 (by decide) ?_
  refine jx_istore_n (lv1 := [(1, .int 0), (0, .ref a0)]) kd117.2.1 rfl (by decide) rfl ?_
  exact jx_lv [1, 0] rfl h
set_option maxRecDepth 100000 in
set_option maxHeartbeats 4000000 in
theorem T_X3_makeChair_2 {E : jEnv} {d : Nat} {Q : jM → Prop} {a0 : Nat} {x1 : Int32} {S : jM} (h : jk S a0 = 3 ∧ ((ji S a0 4) ≤ x1 → Q S) ∧ (¬ (ji S a0 4) ≤ x1 → (6 ≤ x1 → Q S) ∧ (¬ 6 ≤ x1 → ∃ b4, jr S a0 2 = some b4 ∧ (∃ b5, jr S a0 3 = some b5 ∧ (jk S b5 = 12 ∧ vp_in x1 (jl S b5) ∧ (jk S b4 = 1 ∧ jFi E mX1_practise d 0 0 [.ref b4, .int (ji S b5 (Int32.toNatClampNeg x1))] S (fun r10 S9 => L_X3_makeChair_2 E d Q a0 (x1 + 1) S9))))))) : L_X3_makeChair_2 E d Q a0 x1 S := by
  show jX E mX3_makeChair (jRm (d + 1) 0 0) (jZm E (fun r S' => r = none ∧ Q S') 0 0) 2 [(0, .ref a0), (1, .int x1)] [] S 0 0
  refine jx_iload_n 1 kd117.2.2.1 rfl rfl ?_
  refine jx_aload_n 0 kd117.2.2.2.1 rfl rfl ?_
  obtain ⟨hk1, h⟩ := h
  refine jx_geti jc_3 (j := 4) (by decide) rfl jwF_X3_58 kd117.2.2.2.2.1 hk1 ?_
  refine jx_icmp_ge (tgt := 36) kd117.2.2.2.2.2.1 (by decide) (fun c2 => ?_) (fun c2 => ?_)
  · replace h := h.1 c2
    exact jx_vret kd119.2.1 rfl (jle rfl) (jle rfl) ⟨rfl, h⟩
  replace h := h.2 c2
  refine jx_iload_n 1 kd117.2.2.2.2.2.2.1 rfl rfl ?_
  refine jx_bipush (v := 6) kd117.2.2.2.2.2.2.2.1 (by decide) ?_
  refine jx_icmp_ge (tgt := 36) kd117.2.2.2.2.2.2.2.2.1 (by decide) (fun c3 => ?_) (fun c3 => ?_)
  · replace h := h.1 c3
    exact jx_vret kd119.2.1 rfl (jle rfl) (jle rfl) ⟨rfl, h⟩
  replace h := h.2 c3
  refine jx_aload_n 0 kd118.1 rfl rfl ?_
  obtain ⟨b4, hb4, h⟩ := h
  refine jx_getr jc_3 (j := 2) (by decide) rfl jwF_X3_28 kd118.2.1 hk1 hb4 ?_
  refine jx_aload_n 0 kd118.2.2.1 rfl rfl ?_
  obtain ⟨b5, hb5, h⟩ := h
  refine jx_getr jc_3 (j := 3) (by decide) rfl jwF_X3_32 kd118.2.2.2.1 hk1 hb5 ?_
  refine jx_iload_n 1 kd118.2.2.2.2.1 rfl rfl ?_
  obtain ⟨hk6, h⟩ := h
  obtain ⟨hi7, h⟩ := h
  refine jx_iald kd118.2.2.2.2.2.1 hk6 hi7 ?_
  obtain ⟨hk8, h⟩ := h
  refine jx_callVi (M' := mX1_practise) (As := [.int (ji S b5 (Int32.toNatClampNeg x1))]) jo_X1_practise jc_1 rfl jwM_X3_76 jwN_X1_practise jwX_X1_practise kd118.2.2.2.2.2.2.1 (jRok_m _ _ _) rfl (jle rfl) ⟨jle rfl, jle rfl⟩ hk8 h (fun r10 S9 h => ?_)
  refine jx_pop kd118.2.2.2.2.2.2.2.1 rfl ?_
  refine jx_iinc 1 (v := (x1 + 1)) (lv1 := [(1, .int (x1 + 1)), (0, .ref a0)]) kd118.2.2.2.2.2.2.2.2.1 rfl rfl (by decide) rfl ?_
  refine jx_goto (tgt := 2) kd119.1 (by decide) ?_
  exact jx_lv [1, 0] rfl h
set_option maxRecDepth 100000 in
set_option maxHeartbeats 4000000 in
theorem T_X3_addText {E : jEnv} {d : Nat} {Q : Int32 → jM → Prop} {a0 : Nat} {a1 : Nat} {S : jM} (h : jk S a0 = 3 ∧ ((jwi (ji S a0 6) 14) = 0 → Q 0 S) ∧ (¬ (jwi (ji S a0 6) 14) = 0 → ∃ b6, jr S a0 5 = some b6 ∧ (jk S b6 = 16 ∧ jk S a1 = 9 ∧ vp_in (ji S a0 6) (jl S b6) ∧ (Q 1 (jput (jputr S b6 (Int32.toNatClampNeg (ji S a0 6)) (some a1)) a0 6 ((ji S a0 6) + 1)))))) : jFi E mX3_addText (d + 1) 0 0 [.ref a0, .ref a1] S Q := by
  refine jF_of (by decide) (jle rfl) ?_
  refine jx_lv (lv1 := [(0, .ref a0), (1, .ref a1)]) [0, 1] rfl ?_
  refine jx_aload_n 0 kd120.1 rfl rfl ?_
  obtain ⟨hk1, h⟩ := h
  refine jx_geti jc_3 (j := 6) (by decide) rfl jwF_X3_62 kd120.2.1 hk1 ?_
  refine jx_bipush (v := 14) kd120.2.2.1 (by decide) ?_
  refine jx_callSNi (M' := mX10_within) (As := [.int (ji S a0 6), .int 14]) (host := "NineMasters") jo_X10_within (by decide) jwS_X10_within kd120.2.2.2.1 (jRok_m _ _ _) rfl (jle rfl) ⟨jle rfl, jle rfl⟩ (c_X10_within (Q := fun v S' => v = (jwi (ji S a0 6) 14) ∧ S = S') ⟨rfl, rfl⟩) (fun r2 S3 hq4 => ?_)
  obtain ⟨rfl, rfl⟩ := hq4
  refine jx_if_ne (tgt := 14) kd120.2.2.2.2.1 (by decide) (fun c5 => ?_) (fun c5 => ?_)
  · replace h := h.2 c5
    refine jx_aload_n 0 kd120.2.2.2.2.2.2.2.1 rfl rfl ?_
    obtain ⟨b6, hb6, h⟩ := h
    refine jx_getr jc_3 (j := 5) (by decide) rfl jwF_X3_38 kd120.2.2.2.2.2.2.2.2.1 hk1 hb6 ?_
    refine jx_aload_n 0 kd121.1 rfl rfl ?_
    refine jx_geti jc_3 (j := 6) (by decide) rfl jwF_X3_62 kd121.2.1 hk1 ?_
    refine jx_aload_n 1 kd121.2.2.1 rfl rfl ?_
    obtain ⟨hk7, h⟩ := h
    obtain ⟨hk9, h⟩ := h
    obtain ⟨hi8, h⟩ := h
    refine jx_aast kd121.2.2.2.1 hk7 (by decide) (by decide) jc_9 rfl hk9 hi8 ?_
    refine jx_aload_n 0 kd121.2.2.2.2.1 rfl rfl ?_
    refine jx_dup kd121.2.2.2.2.2.1 rfl ?_
    refine jx_geti jc_3 (j := 6) (by decide) rfl jwF_X3_62 kd121.2.2.2.2.2.2.1 hk1 ?_
    refine jx_topi (y := (ji S a0 6)) (by simp [ji_put, ji_row, ji_putr]) ?_
    refine jx_iconst (v := 1) kd121.2.2.2.2.2.2.2.1 (by decide) ?_
    refine jx_iadd kd121.2.2.2.2.2.2.2.2.1 ?_
    refine jx_puti jc_3 (j := 6) (by decide) rfl jwF_X3_62 rfl rfl rfl kd122.1 hk1 ?_
    refine jx_iconst (v := 1) kd122.2.1 (by decide) ?_
    exact jx_iret kd122.2.2.1 rfl (by decide) (jle rfl) (jle rfl) ⟨_, rfl, h⟩
  replace h := h.1 c5
  refine jx_iconst (v := 0) kd120.2.2.2.2.2.1 (by decide) ?_
  exact jx_iret kd120.2.2.2.2.2.2.1 rfl (by decide) (jle rfl) (jle rfl) ⟨_, rfl, h⟩
set_option maxRecDepth 100000 in
set_option maxHeartbeats 4000000 in
theorem T_X3_findText {E : jEnv} {d : Nat} {Q : Option Nat → jM → Prop} {a0 : Nat} {x1 : Int32} {S : jM} (h : jk S a0 = 3 ∧ ((jwi x1 (ji S a0 6)) = 0 → Q none S) ∧ (¬ (jwi x1 (ji S a0 6)) = 0 → (14 ≤ x1 → Q none S) ∧ (¬ 14 ≤ x1 → ∃ b7, jr S a0 5 = some b7 ∧ (jk S b7 = 16 ∧ vp_in x1 (jl S b7) ∧ (jr S b7 (Int32.toNatClampNeg x1) = none → Q none S) ∧ (∀ b11, jr S b7 (Int32.toNatClampNeg x1) = some b11 → Q (some b11) S))))) : jFr E mX3_findText (d + 1) 0 0 [.ref a0, .int x1] S Q := by
  refine jF_of (by decide) (jle rfl) ?_
  refine jx_lv (lv1 := [(0, .ref a0), (1, .int x1)]) [0, 1] rfl ?_
  refine jx_iload_n 1 kd123.1 rfl rfl ?_
  refine jx_aload_n 0 kd123.2.1 rfl rfl ?_
  obtain ⟨hk1, h⟩ := h
  refine jx_geti jc_3 (j := 6) (by decide) rfl jwF_X3_62 kd123.2.2.1 hk1 ?_
  refine jx_callSNi (M' := mX10_within) (As := [.int x1, .int (ji S a0 6)]) (host := "NineMasters") jo_X10_within (by decide) jwS_X10_within kd123.2.2.2.1 (jRok_m _ _ _) rfl (jle rfl) ⟨jle rfl, jle rfl⟩ (c_X10_within (Q := fun v S' => v = (jwi x1 (ji S a0 6)) ∧ S = S') ⟨rfl, rfl⟩) (fun r2 S3 hq4 => ?_)
  obtain ⟨rfl, rfl⟩ := hq4
  refine jx_if_eq (tgt := 26) kd123.2.2.2.2.1 (by decide) (fun c5 => ?_) (fun c5 => ?_)
  · replace h := h.1 c5
    refine jx_null kd124.2.2.2.2.1 ?_
    exact jx_aret (o := none) kd124.2.2.2.2.2.1 rfl (jle rfl) (jle rfl) ⟨_, rfl, h⟩
  replace h := h.2 c5
  refine jx_iload_n 1 kd123.2.2.2.2.2.1 rfl rfl ?_
  refine jx_bipush (v := 14) kd123.2.2.2.2.2.2.1 (by decide) ?_
  refine jx_icmp_ge (tgt := 26) kd123.2.2.2.2.2.2.2.1 (by decide) (fun c6 => ?_) (fun c6 => ?_)
  · replace h := h.1 c6
    refine jx_null kd124.2.2.2.2.1 ?_
    exact jx_aret (o := none) kd124.2.2.2.2.2.1 rfl (jle rfl) (jle rfl) ⟨_, rfl, h⟩
  replace h := h.2 c6
  refine jx_aload_n 0 kd123.2.2.2.2.2.2.2.2.1 rfl rfl ?_
  obtain ⟨b7, hb7, h⟩ := h
  refine jx_getr jc_3 (j := 5) (by decide) rfl jwF_X3_38 kd124.1 hk1 hb7 ?_
  refine jx_iload_n 1 kd124.2.1 rfl rfl ?_
  obtain ⟨hk8, h⟩ := h
  obtain ⟨hi9, h⟩ := h
  rcases hb10 : jr S b7 (Int32.toNatClampNeg x1) with _ | b11
  · replace h := h.1 hb10
    refine jx_aaldN kd124.2.2.1 hk8 (by decide) (by decide) hi9 hb10 ?_
    refine jx_goto (tgt := 27) kd124.2.2.2.1 (by decide) ?_
    exact jx_aret (o := none) kd124.2.2.2.2.2.1 rfl (jle rfl) (jle rfl) ⟨_, rfl, h⟩
  replace h := h.2 b11 hb10
  refine jx_aaldS kd124.2.2.1 hk8 (by decide) (by decide) hi9 hb10 ?_
  refine jx_goto (tgt := 27) kd124.2.2.2.1 (by decide) ?_
  exact jx_aret (o := (some b11)) kd124.2.2.2.2.2.1 rfl (jle rfl) (jle rfl) ⟨_, rfl, h⟩
/-- X3_numberOfLaw at its loop's head 4 -/
abbrev L_X3_numberOfLaw_4 (E : jEnv) (d : Nat) (Q : Int32 → jM → Prop) (a0 : Nat) (x1 : Int32) (x2 : Int32) (x3 : Int32) (S : jM) : Prop := jX E mX3_numberOfLaw (jRm d 0 0) (jZm E (fun r S' => ∃ v : Int32, r = some (.int v) ∧ Q v S') 0 0) 4 [(0, .ref a0), (1, .int x1), (2, .int x2), (3, .int x3)] [] S 0 0
set_option maxRecDepth 100000 in
set_option maxHeartbeats 4000000 in
theorem T_X3_numberOfLaw {E : jEnv} {d : Nat} {Q : Int32 → jM → Prop} {a0 : Nat} {x1 : Int32} {S : jM} (h : L_X3_numberOfLaw_4 E d Q a0 x1 (-1) 0 S) : jFi E mX3_numberOfLaw d 0 0 [.ref a0, .int x1] S Q := by
  refine jF_of (by decide) (jle rfl) ?_
  refine jx_lv (lv1 := [(0, .ref a0), (1, .int x1)]) [0, 1] rfl ?_
  refine jx_iconst (v := (-1)) kd125.1 (by decide) ?_
  refine jx_istore_n (lv1 := [(2, .int (-1)), (0, .ref a0), (1, .int x1)]) kd125.2.1 rfl (by decide) rfl ?_
  refine jx_iconst (v := 0) kd125.2.2.1 (by decide) ?_
  refine jx_istore_n (lv1 := [(3, .int 0), (2, .int (-1)), (0, .ref a0), (1, .int x1)]) kd125.2.2.2.1 rfl (by decide) rfl ?_
  exact jx_lv [2, 3, 1, 0] rfl h
set_option maxRecDepth 100000 in
set_option maxHeartbeats 4000000 in
theorem T_X3_numberOfLaw_4 {E : jEnv} {d : Nat} {Q : Int32 → jM → Prop} {a0 : Nat} {x1 : Int32} {x2 : Int32} {x3 : Int32} {S : jM} (h : jk S a0 = 3 ∧ ((ji S a0 6) ≤ x3 → Q x2 S) ∧ (¬ (ji S a0 6) ≤ x3 → (14 ≤ x3 → Q x2 S) ∧ (¬ 14 ≤ x3 → ∃ b4, jr S a0 5 = some b4 ∧ (jk S b4 = 16 ∧ vp_in x3 (jl S b4) ∧ (jr S b4 (Int32.toNatClampNeg x3) = none → L_X3_numberOfLaw_4 E d Q a0 x1 x2 (x3 + 1) S) ∧ (∀ b8, jr S b4 (Int32.toNatClampNeg x3) = some b8 → jk S b8 = 9 ∧ ((ji S b8 0) = x1 → L_X3_numberOfLaw_4 E d Q a0 x1 x3 (x3 + 1) S) ∧ (¬ (ji S b8 0) = x1 → L_X3_numberOfLaw_4 E d Q a0 x1 x2 (x3 + 1) S)))))) : L_X3_numberOfLaw_4 E d Q a0 x1 x2 x3 S := by
  show jX E mX3_numberOfLaw (jRm d 0 0) (jZm E (fun r S' => ∃ v : Int32, r = some (.int v) ∧ Q v S') 0 0) 4 [(0, .ref a0), (1, .int x1), (2, .int x2), (3, .int x3)] [] S 0 0
  refine jx_iload_n 3 kd125.2.2.2.2.1 rfl rfl ?_
  refine jx_aload_n 0 kd125.2.2.2.2.2.1 rfl rfl ?_
  obtain ⟨hk1, h⟩ := h
  refine jx_geti jc_3 (j := 6) (by decide) rfl jwF_X3_62 kd125.2.2.2.2.2.2.1 hk1 ?_
  refine jx_icmp_ge (tgt := 48) kd125.2.2.2.2.2.2.2.1 (by decide) (fun c2 => ?_) (fun c2 => ?_)
  · replace h := h.1 c2
    refine jx_iload_n 2 kd128.1 rfl rfl ?_
    exact jx_iret kd128.2.1 rfl rfl (jle rfl) (jle rfl) ⟨_, rfl, h⟩
  replace h := h.2 c2
  refine jx_iload_n 3 kd125.2.2.2.2.2.2.2.2.1 rfl rfl ?_
  refine jx_bipush (v := 14) kd126.1 (by decide) ?_
  refine jx_icmp_ge (tgt := 48) kd126.2.1 (by decide) (fun c3 => ?_) (fun c3 => ?_)
  · replace h := h.1 c3
    refine jx_iload_n 2 kd128.1 rfl rfl ?_
    exact jx_iret kd128.2.1 rfl rfl (jle rfl) (jle rfl) ⟨_, rfl, h⟩
  replace h := h.2 c3
  refine jx_aload_n 0 kd126.2.2.1 rfl rfl ?_
  obtain ⟨b4, hb4, h⟩ := h
  refine jx_getr jc_3 (j := 5) (by decide) rfl jwF_X3_38 kd126.2.2.2.1 hk1 hb4 ?_
  refine jx_iload_n 3 kd126.2.2.2.2.1 rfl rfl ?_
  obtain ⟨hk5, h⟩ := h
  obtain ⟨hi6, h⟩ := h
  rcases hb7 : jr S b4 (Int32.toNatClampNeg x3) with _ | b8
  · replace h := h.1 hb7
    refine jx_aaldN kd126.2.2.2.2.2.1 hk5 (by decide) (by decide) hi6 hb7 ?_
    refine jx_ifnullN (tgt := 42) kd126.2.2.2.2.2.2.1 (by decide) ?_
    refine jx_iinc 3 (v := (x3 + 1)) (lv1 := [(3, .int (x3 + 1)), (0, .ref a0), (1, .int x1), (2, .int x2)]) kd127.2.2.2.2.2.2.2.1 rfl rfl (by decide) rfl ?_
    refine jx_goto (tgt := 4) kd127.2.2.2.2.2.2.2.2.1 (by decide) ?_
    exact jx_lv [1, 2, 3, 0] rfl h
  replace h := h.2 b8 hb7
  refine jx_aaldS kd126.2.2.2.2.2.1 hk5 (by decide) (by decide) hi6 hb7 ?_
  refine jx_ifnull kd126.2.2.2.2.2.2.1 ?_
  refine jx_aload_n 0 kd126.2.2.2.2.2.2.2.1 rfl rfl ?_
  refine jx_getr jc_3 (j := 5) (by decide) rfl jwF_X3_38 kd126.2.2.2.2.2.2.2.2.1 hk1 hb4 ?_
  refine jx_iload_n 3 kd127.1 rfl rfl ?_
  refine jx_aaldS kd127.2.1 hk5 (by decide) (by decide) hi6 hb7 ?_
  obtain ⟨hk9, h⟩ := h
  refine jx_geti jc_9 (j := 0) (by decide) rfl jwF_X3_80 kd127.2.2.1 hk9 ?_
  refine jx_iload_n 1 kd127.2.2.2.1 rfl rfl ?_
  refine jx_icmp_ne (tgt := 42) kd127.2.2.2.2.1 (by decide) (fun c10 => ?_) (fun c10 => ?_)
  · replace h := h.2 c10
    refine jx_iinc 3 (v := (x3 + 1)) (lv1 := [(3, .int (x3 + 1)), (0, .ref a0), (1, .int x1), (2, .int x2)]) kd127.2.2.2.2.2.2.2.1 rfl rfl (by decide) rfl ?_
    refine jx_goto (tgt := 4) kd127.2.2.2.2.2.2.2.2.1 (by decide) ?_
    exact jx_lv [1, 2, 3, 0] rfl h
  replace h := h.1 c10
  refine jx_iload_n 3 kd127.2.2.2.2.2.1 rfl rfl ?_
  refine jx_istore_n (lv1 := [(2, .int x3), (0, .ref a0), (1, .int x1), (3, .int x3)]) kd127.2.2.2.2.2.2.1 rfl (by decide) rfl ?_
  refine jx_iinc 3 (v := (x3 + 1)) (lv1 := [(3, .int (x3 + 1)), (2, .int x3), (0, .ref a0), (1, .int x1)]) kd127.2.2.2.2.2.2.2.1 rfl rfl (by decide) rfl ?_
  refine jx_goto (tgt := 4) kd127.2.2.2.2.2.2.2.2.1 (by decide) ?_
  exact jx_lv [2, 3, 1, 0] rfl h
set_option maxRecDepth 100000 in
set_option maxHeartbeats 4000000 in
theorem T_X3_daysTaken {E : jEnv} {d : Nat} {Q : Int32 → jM → Prop} {a0 : Nat} {a1 : Nat} {x2 : Int32} {S : jM} (h : jk S a0 = 3 ∧ jFi E mX3_numberOfLaw d 0 0 [.ref a0, .int 0] S (fun r3 S2 => jk S2 a0 = 3 ∧ jFr E mX3_findText d 0 0 [.ref a0, .int r3] S2 (fun o6 S5 => (o6 = none → jk S5 a1 = 2 ∧ jFi E mX2_daysFrom d 0 0 [.ref a1, .int (jmax 1 (jmin 99 (3 + x2)))] S5 (fun r10 S9 => Q r10 S9)) ∧ (∀ b7, o6 = some b7 → jk S5 a1 = 2 ∧ jk S5 b7 = 9 ∧ jFi E mX9_workOut d 0 0 [.ref b7, .int x2, .int (ji S5 a1 2), .int (ji S5 a1 5)] S5 (fun r14 S13 => jk S13 a1 = 2 ∧ jFi E mX2_daysFrom d 0 0 [.ref a1, .int (jmax 1 (jmin 99 r14))] S13 (fun r17 S16 => Q r17 S16)))))) : jFi E mX3_daysTaken (d + 1) 0 0 [.ref a0, .ref a1, .int x2] S Q := by
  refine jF_of (by decide) (jle rfl) ?_
  refine jx_lv (lv1 := [(0, .ref a0), (1, .ref a1), (2, .int x2)]) [0, 1, 2] rfl ?_
  refine jx_aload_n 0 kd129.1 rfl rfl ?_
  refine jx_aload_n 0 kd129.2.1 rfl rfl ?_
  refine jx_iconst (v := 0) kd129.2.2.1 (by decide) ?_
  obtain ⟨hk1, h⟩ := h
  refine jx_callVi (M' := mX3_numberOfLaw) (As := [.int 0]) jo_X3_numberOfLaw jc_3 rfl jwM_X3_83 jwN_X3_numberOfLaw jwX_X3_numberOfLaw kd129.2.2.2.1 (jRok_m _ _ _) rfl (jle rfl) ⟨jle rfl, jle rfl⟩ hk1 h (fun r3 S2 h => ?_)
  obtain ⟨hk4, h⟩ := h
  refine jx_callVr (M' := mX3_findText) (As := [.int r3]) jo_X3_findText jc_3 rfl jwM_X3_87 jwN_X3_findText jwX_X3_findText kd129.2.2.2.2.1 (jRok_m _ _ _) rfl (jle rfl) ⟨jle rfl, jle rfl⟩ hk4 h (fun o6 S5 h => ?_)
  rcases o6 with _ | b7
  · replace h := h.1 rfl
    refine jx_astore_nN (lv1 := [(3, .null), (0, .ref a0), (1, .ref a1), (2, .int x2)]) kd129.2.2.2.2.2.1 rfl (by decide) rfl ?_
    refine jx_aload_nN 0 kd129.2.2.2.2.2.2.1 rfl rfl ?_
    refine jx_ifnonnullN kd129.2.2.2.2.2.2.2.1 ?_
    refine jx_iconst (v := 3) kd129.2.2.2.2.2.2.2.2.1 (by decide) ?_
    refine jx_iload_n 3 kd130.1 rfl rfl ?_
    refine jx_iadd kd130.2.1 ?_
    refine jx_goto (tgt := 33) kd130.2.2.1 (by decide) ?_
    refine jx_istore (lv1 := [(4, .int (3 + x2)), (3, .null), (0, .ref a0), (1, .ref a1), (2, .int x2)]) kd131.2.1 (by decide) rfl ?_
    refine jx_aload_n 3 kd131.2.2.1 rfl rfl ?_
    refine jx_iconst (v := 1) kd131.2.2.2.1 (by decide) ?_
    refine jx_bipush (v := 99) kd131.2.2.2.2.1 (by decide) ?_
    refine jx_iload 0 kd131.2.2.2.2.2.1 rfl ?_
    refine jx_min jwM_X3_103 jwS_min jwZ_J9 jwO_min kd131.2.2.2.2.2.2.1 (jRok_m _ _ _) (jle rfl) ⟨Nat.zero_le _, Nat.zero_le _⟩ ?_
    refine jx_max jwM_X3_109 jwS_max jwZ_J9 jwO_max kd131.2.2.2.2.2.2.2.1 (jRok_m _ _ _) (jle rfl) ⟨Nat.zero_le _, Nat.zero_le _⟩ ?_
    obtain ⟨hk8, h⟩ := h
    refine jx_callVi (M' := mX2_daysFrom) (As := [.int (jmax 1 (jmin 99 (3 + x2)))]) jo_X2_daysFrom jc_2 rfl jwM_X3_112 jwN_X2_daysFrom jwX_X2_daysFrom kd131.2.2.2.2.2.2.2.2.1 (jRok_m _ _ _) rfl (jle rfl) ⟨jle rfl, jle rfl⟩ hk8 h (fun r10 S9 h => ?_)
    exact jx_iret kd132.1 rfl rfl (jle rfl) (jle rfl) ⟨_, rfl, h⟩
  replace h := h.2 b7 rfl
  refine jx_astore_n (lv1 := [(3, .ref b7), (0, .ref a0), (1, .ref a1), (2, .int x2)]) kd129.2.2.2.2.2.1 rfl (by decide) rfl ?_
  refine jx_aload_n 0 kd129.2.2.2.2.2.2.1 rfl rfl ?_
  refine jx_ifnonnull (tgt := 20) kd129.2.2.2.2.2.2.2.1 (by decide) ?_
  refine jx_aload_n 0 kd130.2.2.2.1 rfl rfl ?_
  refine jx_iload_n 3 kd130.2.2.2.2.1 rfl rfl ?_
  refine jx_aload_n 2 kd130.2.2.2.2.2.1 rfl rfl ?_
  obtain ⟨hk11, h⟩ := h
  refine jx_geti jc_2 (j := 2) (by decide) rfl jwF_X3_91 kd130.2.2.2.2.2.2.1 hk11 ?_
  refine jx_aload_n 2 kd130.2.2.2.2.2.2.2.1 rfl rfl ?_
  refine jx_geti jc_2 (j := 5) (by decide) rfl jwF_X3_96 kd130.2.2.2.2.2.2.2.2.1 hk11 ?_
  obtain ⟨hk12, h⟩ := h
  refine jx_callVi (M' := mX9_workOut) (As := [.int x2, .int (ji S5 a1 2), .int (ji S5 a1 5)]) jo_X9_workOut jc_9 rfl jwM_X3_99 jwN_X9_workOut jwX_X9_workOut kd131.1 (jRok_m _ _ _) rfl (jle rfl) ⟨jle rfl, jle rfl⟩ hk12 h (fun r14 S13 h => ?_)
  refine jx_istore (lv1 := [(4, .int r14), (3, .ref b7), (0, .ref a0), (1, .ref a1), (2, .int x2)]) kd131.2.1 (by decide) rfl ?_
  refine jx_aload_n 3 kd131.2.2.1 rfl rfl ?_
  refine jx_iconst (v := 1) kd131.2.2.2.1 (by decide) ?_
  refine jx_bipush (v := 99) kd131.2.2.2.2.1 (by decide) ?_
  refine jx_iload 0 kd131.2.2.2.2.2.1 rfl ?_
  refine jx_min jwM_X3_103 jwS_min jwZ_J9 jwO_min kd131.2.2.2.2.2.2.1 (jRok_m _ _ _) (jle rfl) ⟨Nat.zero_le _, Nat.zero_le _⟩ ?_
  refine jx_max jwM_X3_109 jwS_max jwZ_J9 jwO_max kd131.2.2.2.2.2.2.2.1 (jRok_m _ _ _) (jle rfl) ⟨Nat.zero_le _, Nat.zero_le _⟩ ?_
  obtain ⟨hk15, h⟩ := h
  refine jx_callVi (M' := mX2_daysFrom) (As := [.int (jmax 1 (jmin 99 r14))]) jo_X2_daysFrom jc_2 rfl jwM_X3_112 jwN_X2_daysFrom jwX_X2_daysFrom kd131.2.2.2.2.2.2.2.2.1 (jRok_m _ _ _) rfl (jle rfl) ⟨jle rfl, jle rfl⟩ hk15 h (fun r17 S16 h => ?_)
  exact jx_iret kd132.1 rfl rfl (jle rfl) (jle rfl) ⟨_, rfl, h⟩
set_option maxRecDepth 100000 in
set_option maxHeartbeats 4000000 in
theorem T_X3_fameOf {E : jEnv} {d : Nat} {Q : Int32 → jM → Prop} {a0 : Nat} {a1 : Nat} {S : jM} (h : jk S a0 = 3 ∧ jFi E mX3_numberOfLaw d 0 0 [.ref a0, .int 1] S (fun r3 S2 => jk S2 a0 = 3 ∧ jFr E mX3_findText d 0 0 [.ref a0, .int r3] S2 (fun o6 S5 => (o6 = none → jk S5 a1 = 2 ∧ Q (ji S5 a1 4) S5) ∧ (∀ b7, o6 = some b7 → jk S5 a1 = 2 ∧ jk S5 b7 = 9 ∧ jFi E mX9_workOut d 0 0 [.ref b7, .int (ji S5 a1 4), .int (ji S5 a1 5), .int 0] S5 (fun r12 S11 => Q r12 S11))))) : jFi E mX3_fameOf (d + 1) 0 0 [.ref a0, .ref a1] S Q := by
  refine jF_of (by decide) (jle rfl) ?_
  refine jx_lv (lv1 := [(0, .ref a0), (1, .ref a1)]) [0, 1] rfl ?_
  refine jx_aload_n 0 kd133.1 rfl rfl ?_
  refine jx_aload_n 0 kd133.2.1 rfl rfl ?_
  refine jx_iconst (v := 1) kd133.2.2.1 (by decide) ?_
  obtain ⟨hk1, h⟩ := h
  refine jx_callVi (M' := mX3_numberOfLaw) (As := [.int 1]) jo_X3_numberOfLaw jc_3 rfl jwM_X3_83 jwN_X3_numberOfLaw jwX_X3_numberOfLaw kd133.2.2.2.1 (jRok_m _ _ _) rfl (jle rfl) ⟨jle rfl, jle rfl⟩ hk1 h (fun r3 S2 h => ?_)
  obtain ⟨hk4, h⟩ := h
  refine jx_callVr (M' := mX3_findText) (As := [.int r3]) jo_X3_findText jc_3 rfl jwM_X3_87 jwN_X3_findText jwX_X3_findText kd133.2.2.2.2.1 (jRok_m _ _ _) rfl (jle rfl) ⟨jle rfl, jle rfl⟩ hk4 h (fun o6 S5 h => ?_)
  rcases o6 with _ | b7
  · replace h := h.1 rfl
    refine jx_astore_nN (lv1 := [(2, .null), (0, .ref a0), (1, .ref a1)]) kd133.2.2.2.2.2.1 rfl (by decide) rfl ?_
    refine jx_aload_nN 0 kd133.2.2.2.2.2.2.1 rfl rfl ?_
    refine jx_ifnonnullN kd133.2.2.2.2.2.2.2.1 ?_
    refine jx_aload_n 2 kd133.2.2.2.2.2.2.2.2.1 rfl rfl ?_
    obtain ⟨hk8, h⟩ := h
    refine jx_geti jc_2 (j := 4) (by decide) rfl jwF_X3_115 kd134.1 hk8 ?_
    refine jx_goto (tgt := 34) kd134.2.1 (by decide) ?_
    exact jx_iret kd135.1 rfl rfl (jle rfl) (jle rfl) ⟨_, rfl, h⟩
  replace h := h.2 b7 rfl
  refine jx_astore_n (lv1 := [(2, .ref b7), (0, .ref a0), (1, .ref a1)]) kd133.2.2.2.2.2.1 rfl (by decide) rfl ?_
  refine jx_aload_n 0 kd133.2.2.2.2.2.2.1 rfl rfl ?_
  refine jx_ifnonnull (tgt := 21) kd133.2.2.2.2.2.2.2.1 (by decide) ?_
  refine jx_aload_n 0 kd134.2.2.1 rfl rfl ?_
  refine jx_aload_n 2 kd134.2.2.2.1 rfl rfl ?_
  obtain ⟨hk9, h⟩ := h
  refine jx_geti jc_2 (j := 4) (by decide) rfl jwF_X3_115 kd134.2.2.2.2.1 hk9 ?_
  refine jx_aload_n 2 kd134.2.2.2.2.2.1 rfl rfl ?_
  refine jx_geti jc_2 (j := 5) (by decide) rfl jwF_X3_96 kd134.2.2.2.2.2.2.1 hk9 ?_
  refine jx_iconst (v := 0) kd134.2.2.2.2.2.2.2.1 (by decide) ?_
  obtain ⟨hk10, h⟩ := h
  refine jx_callVi (M' := mX9_workOut) (As := [.int (ji S5 a1 4), .int (ji S5 a1 5), .int 0]) jo_X9_workOut jc_9 rfl jwM_X3_99 jwN_X9_workOut jwX_X9_workOut kd134.2.2.2.2.2.2.2.2.1 (jRok_m _ _ _) rfl (jle rfl) ⟨jle rfl, jle rfl⟩ hk10 h (fun r12 S11 h => ?_)
  exact jx_iret kd135.1 rfl rfl (jle rfl) (jle rfl) ⟨_, rfl, h⟩
set_option maxRecDepth 100000 in
set_option maxHeartbeats 4000000 in
theorem T_X3_fineNow {E : jEnv} {d : Nat} {Q : Int32 → jM → Prop} {a0 : Nat} {S : jM} (h : jk S a0 = 3 ∧ jFi E mX3_numberOfLaw d 0 0 [.ref a0, .int 2] S (fun r3 S2 => jk S2 a0 = 3 ∧ jFr E mX3_findText d 0 0 [.ref a0, .int r3] S2 (fun o6 S5 => (o6 = none → jk S5 a0 = 3 ∧ ∃ b9, jr S5 a0 2 = some b9 ∧ (jk S5 b9 = 1 ∧ Q (ji S5 b9 2) S5)) ∧ (∀ b7, o6 = some b7 → jk S5 a0 = 3 ∧ ∃ b12, jr S5 a0 2 = some b12 ∧ (jk S5 b12 = 1 ∧ jk S5 b7 = 9 ∧ jFi E mX9_workOut d 0 0 [.ref b7, .int (ji S5 b12 2), .int (ji S5 b12 4), .int 0] S5 (fun r16 S15 => Q r16 S15)))))) : jFi E mX3_fineNow (d + 1) 0 0 [.ref a0] S Q := by
  refine jF_of (by decide) (jle rfl) ?_
  refine jx_lv (lv1 := [(0, .ref a0)]) [0] rfl ?_
  refine jx_aload_n 0 kd136.1 rfl rfl ?_
  refine jx_aload_n 0 kd136.2.1 rfl rfl ?_
  refine jx_iconst (v := 2) kd136.2.2.1 (by decide) ?_
  obtain ⟨hk1, h⟩ := h
  refine jx_callVi (M' := mX3_numberOfLaw) (As := [.int 2]) jo_X3_numberOfLaw jc_3 rfl jwM_X3_83 jwN_X3_numberOfLaw jwX_X3_numberOfLaw kd136.2.2.2.1 (jRok_m _ _ _) rfl (jle rfl) ⟨jle rfl, jle rfl⟩ hk1 h (fun r3 S2 h => ?_)
  obtain ⟨hk4, h⟩ := h
  refine jx_callVr (M' := mX3_findText) (As := [.int r3]) jo_X3_findText jc_3 rfl jwM_X3_87 jwN_X3_findText jwX_X3_findText kd136.2.2.2.2.1 (jRok_m _ _ _) rfl (jle rfl) ⟨jle rfl, jle rfl⟩ hk4 h (fun o6 S5 h => ?_)
  rcases o6 with _ | b7
  · replace h := h.1 rfl
    refine jx_astore_nN (lv1 := [(1, .null), (0, .ref a0)]) kd136.2.2.2.2.2.1 rfl (by decide) rfl ?_
    refine jx_aload_nN 0 kd136.2.2.2.2.2.2.1 rfl rfl ?_
    refine jx_ifnonnullN kd136.2.2.2.2.2.2.2.1 ?_
    refine jx_aload_n 1 kd136.2.2.2.2.2.2.2.2.1 rfl rfl ?_
    obtain ⟨hk8, h⟩ := h
    obtain ⟨b9, hb9, h⟩ := h
    refine jx_getr jc_3 (j := 2) (by decide) rfl jwF_X3_28 kd137.1 hk8 hb9 ?_
    obtain ⟨hk10, h⟩ := h
    refine jx_geti jc_1 (j := 2) (by decide) rfl jwF_X3_118 kd137.2.1 hk10 ?_
    refine jx_goto (tgt := 43) kd137.2.2.1 (by decide) ?_
    exact jx_iret kd138.2.2.2.1 rfl rfl (jle rfl) (jle rfl) ⟨_, rfl, h⟩
  replace h := h.2 b7 rfl
  refine jx_astore_n (lv1 := [(1, .ref b7), (0, .ref a0)]) kd136.2.2.2.2.2.1 rfl (by decide) rfl ?_
  refine jx_aload_n 0 kd136.2.2.2.2.2.2.1 rfl rfl ?_
  refine jx_ifnonnull (tgt := 24) kd136.2.2.2.2.2.2.2.1 (by decide) ?_
  refine jx_aload_n 0 kd137.2.2.2.1 rfl rfl ?_
  refine jx_aload_n 1 kd137.2.2.2.2.1 rfl rfl ?_
  obtain ⟨hk11, h⟩ := h
  obtain ⟨b12, hb12, h⟩ := h
  refine jx_getr jc_3 (j := 2) (by decide) rfl jwF_X3_28 kd137.2.2.2.2.2.1 hk11 hb12 ?_
  obtain ⟨hk13, h⟩ := h
  refine jx_geti jc_1 (j := 2) (by decide) rfl jwF_X3_118 kd137.2.2.2.2.2.2.1 hk13 ?_
  refine jx_aload_n 1 kd137.2.2.2.2.2.2.2.1 rfl rfl ?_
  refine jx_getr jc_3 (j := 2) (by decide) rfl jwF_X3_28 kd137.2.2.2.2.2.2.2.2.1 hk11 hb12 ?_
  refine jx_geti jc_1 (j := 4) (by decide) rfl jwF_X3_121 kd138.1 hk13 ?_
  refine jx_iconst (v := 0) kd138.2.1 (by decide) ?_
  obtain ⟨hk14, h⟩ := h
  refine jx_callVi (M' := mX9_workOut) (As := [.int (ji S5 b12 2), .int (ji S5 b12 4), .int 0]) jo_X9_workOut jc_9 rfl jwM_X3_99 jwN_X9_workOut jwX_X9_workOut kd138.2.2.1 (jRok_m _ _ _) rfl (jle rfl) ⟨jle rfl, jle rfl⟩ hk14 h (fun r16 S15 h => ?_)
  exact jx_iret kd138.2.2.2.1 rfl rfl (jle rfl) (jle rfl) ⟨_, rfl, h⟩
/-- X3_waysToMasters at its loop's head 4 -/
abbrev L_X3_waysToMasters_4 (E : jEnv) (d : Nat) (Q : Int32 → jM → Prop) (a0 : Nat) (x1 : Int32) (x2 : Int32) (x3 : Int32) (S : jM) : Prop := jX E mX3_waysToMasters (jRm (d + 1) 0 0) (jZm E (fun r S' => ∃ v : Int32, r = some (.int v) ∧ Q v S') 0 0) 4 [(0, .ref a0), (1, .int x1), (2, .int x2), (3, .int x3)] [] S 0 0
set_option maxRecDepth 100000 in
set_option maxHeartbeats 4000000 in
theorem T_X3_waysToMasters {E : jEnv} {d : Nat} {Q : Int32 → jM → Prop} {a0 : Nat} {x1 : Int32} {S : jM} (h : L_X3_waysToMasters_4 E d Q a0 x1 0 0 S) : jFi E mX3_waysToMasters (d + 1) 0 0 [.ref a0, .int x1] S Q := by
  refine jF_of (by decide) (jle rfl) ?_
  refine jx_lv (lv1 := [(0, .ref a0), (1, .int x1)]) [0, 1] rfl ?_
  refine jx_iconst (v := 0) kd139.1 (by decide) ?_
  refine jx_istore_n (lv1 := [(2, .int 0), (0, .ref a0), (1, .int x1)]) kd139.2.1 rfl (by decide) rfl ?_
  refine jx_iconst (v := 0) kd139.2.2.1 (by decide) ?_
  refine jx_istore_n (lv1 := [(3, .int 0), (2, .int 0), (0, .ref a0), (1, .int x1)]) kd139.2.2.2.1 rfl (by decide) rfl ?_
  exact jx_lv [2, 3, 1, 0] rfl h
set_option maxRecDepth 100000 in
set_option maxHeartbeats 4000000 in
theorem T_X3_waysToMasters_4 {E : jEnv} {d : Nat} {Q : Int32 → jM → Prop} {a0 : Nat} {x1 : Int32} {x2 : Int32} {x3 : Int32} {S : jM} (h : jk S a0 = 3 ∧ ∃ b2, jr S a0 0 = some b2 ∧ (jk S b2 = 0 ∧ ((ji S b2 1) ≤ x3 → Q x2 S) ∧ (¬ (ji S b2 1) ≤ x3 → jFr E mX0_find d 0 0 [.ref b2, .int x3] S (fun o6 S5 => (o6 = none → L_X3_waysToMasters_4 E d Q a0 x1 (x2 + 0) (x3 + 1) S5) ∧ (∀ b7, o6 = some b7 → jk S5 b7 = 2 ∧ ((ji S5 b7 6) = 0 → jk S5 a0 = 3 ∧ ∃ b11, jr S5 a0 1 = some b11 ∧ (jk S5 b11 = 4 ∧ jFi E mX4_fewest d 0 0 [.ref b11, .int x1, .int (ji S5 b7 1)] S5 (fun r14 S13 => L_X3_waysToMasters_4 E d Q a0 x1 (x2 + r14) (x3 + 1) S13))) ∧ (¬ (ji S5 b7 6) = 0 → L_X3_waysToMasters_4 E d Q a0 x1 (x2 + 0) (x3 + 1) S5)))))) : L_X3_waysToMasters_4 E d Q a0 x1 x2 x3 S := by
  show jX E mX3_waysToMasters (jRm (d + 1) 0 0) (jZm E (fun r S' => ∃ v : Int32, r = some (.int v) ∧ Q v S') 0 0) 4 [(0, .ref a0), (1, .int x1), (2, .int x2), (3, .int x3)] [] S 0 0
  refine jx_iload_n 3 kd139.2.2.2.2.1 rfl rfl ?_
  refine jx_aload_n 0 kd139.2.2.2.2.2.1 rfl rfl ?_
  obtain ⟨hk1, h⟩ := h
  obtain ⟨b2, hb2, h⟩ := h
  refine jx_getr jc_3 (j := 0) (by decide) rfl jwF_X3_12 kd139.2.2.2.2.2.2.1 hk1 hb2 ?_
  obtain ⟨hk3, h⟩ := h
  refine jx_geti jc_0 (j := 1) (by decide) rfl jwF_X3_124 kd139.2.2.2.2.2.2.2.1 hk3 ?_
  refine jx_icmp_ge (tgt := 64) kd139.2.2.2.2.2.2.2.2.1 (by decide) (fun c4 => ?_) (fun c4 => ?_)
  · replace h := h.1 c4
    refine jx_iload_n 2 kd142.2.2.2.2.2.1 rfl rfl ?_
    exact jx_iret kd142.2.2.2.2.2.2.1 rfl rfl (jle rfl) (jle rfl) ⟨_, rfl, h⟩
  replace h := h.2 c4
  refine jx_aload_n 0 kd140.1 rfl rfl ?_
  refine jx_getr jc_3 (j := 0) (by decide) rfl jwF_X3_12 kd140.2.1 hk1 hb2 ?_
  refine jx_iload_n 3 kd140.2.2.1 rfl rfl ?_
  refine jx_callVr (M' := mX0_find) (As := [.int x3]) jo_X0_find jc_0 rfl jwM_X3_127 jwN_X0_find jwX_X0_find kd140.2.2.2.1 (jRok_m _ _ _) rfl (jle rfl) ⟨jle rfl, jle rfl⟩ hk3 h (fun o6 S5 h => ?_)
  rcases o6 with _ | b7
  · replace h := h.1 rfl
    refine jx_astoreN (lv1 := [(4, .null), (0, .ref a0), (1, .int x1), (2, .int x2), (3, .int x3)]) kd140.2.2.2.2.1 (by decide) rfl ?_
    refine jx_iload_n 3 kd140.2.2.2.2.2.1 rfl rfl ?_
    refine jx_aloadN 0 kd140.2.2.2.2.2.2.1 rfl ?_
    refine jx_ifnullN (tgt := 39) kd140.2.2.2.2.2.2.2.1 (by decide) ?_
    refine jx_iconst (v := 0) kd141.2.2.1 (by decide) ?_
    refine jx_goto (tgt := 56) kd141.2.2.2.1 (by decide) ?_
    refine jx_iadd kd142.2.1 ?_
    refine jx_istore_n (lv1 := [(2, .int (x2 + 0)), (4, .null), (0, .ref a0), (1, .int x1), (3, .int x3)]) kd142.2.2.1 rfl (by decide) rfl ?_
    refine jx_iinc 4 (v := (x3 + 1)) (lv1 := [(3, .int (x3 + 1)), (2, .int (x2 + 0)), (4, .null), (0, .ref a0), (1, .int x1)]) kd142.2.2.2.1 rfl rfl (by decide) rfl ?_
    refine jx_goto (tgt := 4) kd142.2.2.2.2.1 (by decide) ?_
    exact jx_lv [3, 4, 1, 0] rfl h
  replace h := h.2 b7 rfl
  refine jx_astore (lv1 := [(4, .ref b7), (0, .ref a0), (1, .int x1), (2, .int x2), (3, .int x3)]) kd140.2.2.2.2.1 (by decide) rfl ?_
  refine jx_iload_n 3 kd140.2.2.2.2.2.1 rfl rfl ?_
  refine jx_aload 0 kd140.2.2.2.2.2.2.1 rfl ?_
  refine jx_ifnull kd140.2.2.2.2.2.2.2.1 ?_
  refine jx_aload 0 kd140.2.2.2.2.2.2.2.2.1 rfl ?_
  obtain ⟨hk8, h⟩ := h
  refine jx_geti jc_2 (j := 6) (by decide) rfl jwF_X3_131 kd141.1 hk8 ?_
  refine jx_if_eq (tgt := 43) kd141.2.1 (by decide) (fun c9 => ?_) (fun c9 => ?_)
  · replace h := h.1 c9
    refine jx_aload_n 1 kd141.2.2.2.2.1 rfl rfl ?_
    obtain ⟨hk10, h⟩ := h
    obtain ⟨b11, hb11, h⟩ := h
    refine jx_getr jc_3 (j := 1) (by decide) rfl jwF_X3_21 kd141.2.2.2.2.2.1 hk10 hb11 ?_
    refine jx_iload_n 2 kd141.2.2.2.2.2.2.1 rfl rfl ?_
    refine jx_aload 0 kd141.2.2.2.2.2.2.2.1 rfl ?_
    refine jx_geti jc_2 (j := 1) (by decide) rfl jwF_X3_135 kd141.2.2.2.2.2.2.2.2.1 hk8 ?_
    obtain ⟨hk12, h⟩ := h
    refine jx_callVi (M' := mX4_fewest) (As := [.int x1, .int (ji S5 b7 1)]) jo_X4_fewest jc_4 rfl jwM_X3_138 jwN_X4_fewest jwX_X4_fewest kd142.1 (jRok_m _ _ _) rfl (jle rfl) ⟨jle rfl, jle rfl⟩ hk12 h (fun r14 S13 h => ?_)
    refine jx_iadd kd142.2.1 ?_
    refine jx_istore_n (lv1 := [(2, .int (x2 + r14)), (4, .ref b7), (0, .ref a0), (1, .int x1), (3, .int x3)]) kd142.2.2.1 rfl (by decide) rfl ?_
    refine jx_iinc 4 (v := (x3 + 1)) (lv1 := [(3, .int (x3 + 1)), (2, .int (x2 + r14)), (4, .ref b7), (0, .ref a0), (1, .int x1)]) kd142.2.2.2.1 rfl rfl (by decide) rfl ?_
    refine jx_goto (tgt := 4) kd142.2.2.2.2.1 (by decide) ?_
    exact jx_lv [3, 4, 1, 0] rfl h
  replace h := h.2 c9
  refine jx_iconst (v := 0) kd141.2.2.1 (by decide) ?_
  refine jx_goto (tgt := 56) kd141.2.2.2.1 (by decide) ?_
  refine jx_iadd kd142.2.1 ?_
  refine jx_istore_n (lv1 := [(2, .int (x2 + 0)), (4, .ref b7), (0, .ref a0), (1, .int x1), (3, .int x3)]) kd142.2.2.1 rfl (by decide) rfl ?_
  refine jx_iinc 4 (v := (x3 + 1)) (lv1 := [(3, .int (x3 + 1)), (2, .int (x2 + 0)), (4, .ref b7), (0, .ref a0), (1, .int x1)]) kd142.2.2.2.1 rfl rfl (by decide) rfl ?_
  refine jx_goto (tgt := 4) kd142.2.2.2.2.1 (by decide) ?_
  exact jx_lv [3, 4, 1, 0] rfl h
/-- X3_apart at its loop's head 5 -/
abbrev L_X3_apart_5 (E : jEnv) (d : Nat) (Q : Int32 → jM → Prop) (a0 : Nat) (a1 : Nat) (a2 : Nat) (x3 : Int32) (x4 : Int32) (S : jM) : Prop := jX E mX3_apart (jRm (d + 1) 0 0) (jZm E (fun r S' => ∃ v : Int32, r = some (.int v) ∧ Q v S') 0 0) 5 [(0, .ref a0), (1, .ref a1), (2, .ref a2), (3, .int x3), (4, .int x4)] [] S 0 0
set_option maxRecDepth 100000 in
set_option maxHeartbeats 4000000 in
theorem T_X3_apart {E : jEnv} {d : Nat} {Q : Int32 → jM → Prop} {a0 : Nat} {a1 : Nat} {a2 : Nat} {S : jM} (h : L_X3_apart_5 E d Q a0 a1 a2 0 0 S) : jFi E mX3_apart (d + 1) 0 0 [.ref a0, .ref a1, .ref a2] S Q := by
  refine jF_of (by decide) (jle rfl) ?_
  refine jx_lv (lv1 := [(0, .ref a0), (1, .ref a1), (2, .ref a2)]) [0, 1, 2] rfl ?_
  refine jx_iconst (v := 0) kd143.1 (by decide) ?_
  refine jx_istore_n (lv1 := [(3, .int 0), (0, .ref a0), (1, .ref a1), (2, .ref a2)]) kd143.2.1 rfl (by decide) rfl ?_
  refine jx_iconst (v := 0) kd143.2.2.1 (by decide) ?_
  refine jx_istore (lv1 := [(4, .int 0), (3, .int 0), (0, .ref a0), (1, .ref a1), (2, .ref a2)]) kd143.2.2.2.1 (by decide) rfl ?_
  exact jx_lv [2, 3, 4, 1, 0] rfl h
set_option maxRecDepth 100000 in
set_option maxHeartbeats 4000000 in
theorem T_X3_apart_5 {E : jEnv} {d : Nat} {Q : Int32 → jM → Prop} {a0 : Nat} {a1 : Nat} {a2 : Nat} {x3 : Int32} {x4 : Int32} {S : jM} (h : jk S a2 = 6 ∧ ((ji S a2 1) ≤ x4 → Q x3 S) ∧ (¬ (ji S a2 1) ≤ x4 → jFi E mX6_isNumber d 0 0 [.ref a2, .int x4] S (fun r4 S3 => (r4 = 0 → L_X3_apart_5 E d Q a0 a1 a2 x3 (x4 + 1) S3) ∧ (¬ r4 = 0 → jk S3 a0 = 3 ∧ jFi E mX3_daysTaken d 0 0 [.ref a0, .ref a1, .int x4] S3 (fun r8 S7 => jk S7 a2 = 6 ∧ ∃ b10, jr S7 a2 2 = some b10 ∧ (jk S7 b10 = 12 ∧ vp_in x4 (jl S7 b10) ∧ (L_X3_apart_5 E d Q a0 a1 a2 (x3 + (jabs (r8 - (ji S7 b10 (Int32.toNatClampNeg x4))))) (x4 + 1) S7))))))) : L_X3_apart_5 E d Q a0 a1 a2 x3 x4 S := by
  show jX E mX3_apart (jRm (d + 1) 0 0) (jZm E (fun r S' => ∃ v : Int32, r = some (.int v) ∧ Q v S') 0 0) 5 [(0, .ref a0), (1, .ref a1), (2, .ref a2), (3, .int x3), (4, .int x4)] [] S 0 0
  refine jx_iload 4 kd143.2.2.2.2.1 rfl ?_
  refine jx_aload_n 2 kd143.2.2.2.2.2.1 rfl rfl ?_
  obtain ⟨hk1, h⟩ := h
  refine jx_geti jc_6 (j := 1) (by decide) rfl jwF_X3_141 kd143.2.2.2.2.2.2.1 hk1 ?_
  refine jx_icmp_ge (tgt := 50) kd143.2.2.2.2.2.2.2.1 (by decide) (fun c2 => ?_) (fun c2 => ?_)
  · replace h := h.1 c2
    refine jx_iload_n 3 kd146.1 rfl rfl ?_
    exact jx_iret kd146.2.1 rfl rfl (jle rfl) (jle rfl) ⟨_, rfl, h⟩
  replace h := h.2 c2
  refine jx_aload_n 2 kd143.2.2.2.2.2.2.2.2.1 rfl rfl ?_
  refine jx_iload 4 kd144.1 rfl ?_
  refine jx_callVi (M' := mX6_isNumber) (As := [.int x4]) jo_X6_isNumber jc_6 rfl jwM_X3_144 jwN_X6_isNumber jwX_X6_isNumber kd144.2.1 (jRok_m _ _ _) rfl (jle rfl) ⟨jle rfl, jle rfl⟩ hk1 h (fun r4 S3 h => ?_)
  refine jx_if_eq (tgt := 44) kd144.2.2.1 (by decide) (fun c5 => ?_) (fun c5 => ?_)
  · replace h := h.1 c5
    refine jx_iinc 4 (v := (x4 + 1)) (lv1 := [(4, .int (x4 + 1)), (0, .ref a0), (1, .ref a1), (2, .ref a2), (3, .int x3)]) kd145.2.2.2.2.2.2.2.1 rfl rfl (by decide) rfl ?_
    refine jx_goto (tgt := 5) kd145.2.2.2.2.2.2.2.2.1 (by decide) ?_
    exact jx_lv [1, 2, 3, 4, 0] rfl h
  replace h := h.2 c5
  refine jx_iload_n 3 kd144.2.2.2.1 rfl rfl ?_
  refine jx_aload_n 0 kd144.2.2.2.2.1 rfl rfl ?_
  refine jx_aload_n 1 kd144.2.2.2.2.2.1 rfl rfl ?_
  refine jx_iload 4 kd144.2.2.2.2.2.2.1 rfl ?_
  obtain ⟨hk6, h⟩ := h
  refine jx_callVi (M' := mX3_daysTaken) (As := [.ref a1, .int x4]) jo_X3_daysTaken jc_3 rfl jwM_X3_147 jwN_X3_daysTaken jwX_X3_daysTaken kd144.2.2.2.2.2.2.2.1 (jRok_m _ _ _) rfl (jle rfl) ⟨jle rfl, jle rfl⟩ hk6 h (fun r8 S7 h => ?_)
  refine jx_aload_n 2 kd144.2.2.2.2.2.2.2.2.1 rfl rfl ?_
  obtain ⟨hk9, h⟩ := h
  obtain ⟨b10, hb10, h⟩ := h
  refine jx_getr jc_6 (j := 2) (by decide) rfl jwF_X3_151 kd145.1 hk9 hb10 ?_
  refine jx_iload 4 kd145.2.1 rfl ?_
  obtain ⟨hk11, h⟩ := h
  obtain ⟨hi12, h⟩ := h
  refine jx_iald kd145.2.2.1 hk11 hi12 ?_
  refine jx_isub kd145.2.2.2.1 ?_
  refine jx_abs jwM_X3_154 jwS_abs jwZ_J9 jwO_abs kd145.2.2.2.2.1 (jRok_m _ _ _) (jle rfl) ⟨Nat.zero_le _, Nat.zero_le _⟩ ?_
  refine jx_iadd kd145.2.2.2.2.2.1 ?_
  refine jx_istore_n (lv1 := [(3, .int (x3 + (jabs (r8 - (ji S7 b10 (Int32.toNatClampNeg x4)))))), (0, .ref a0), (1, .ref a1), (2, .ref a2), (4, .int x4)]) kd145.2.2.2.2.2.2.1 rfl (by decide) rfl ?_
  refine jx_iinc 4 (v := (x4 + 1)) (lv1 := [(4, .int (x4 + 1)), (3, .int (x3 + (jabs (r8 - (ji S7 b10 (Int32.toNatClampNeg x4)))))), (0, .ref a0), (1, .ref a1), (2, .ref a2)]) kd145.2.2.2.2.2.2.2.1 rfl rfl (by decide) rfl ?_
  refine jx_goto (tgt := 5) kd145.2.2.2.2.2.2.2.2.1 (by decide) ?_
  exact jx_lv [2, 3, 4, 1, 0] rfl h
set_option maxRecDepth 100000 in
set_option maxHeartbeats 4000000 in
theorem T_X5_init {E : jEnv} {d : Nat} {Q : jM → Prop} {a0 : Nat} {S : jM} (h : ∀ q1, q1 = jn S → jk (jnew S 12 5) a0 = 5 ∧ ∀ q4, q4 = jn (jputr (jnew S 12 5) a0 0 (some q1)) → jk (jnew (jputr (jnew S 12 5) a0 0 (some q1)) 12 5) a0 = 5 ∧ ∀ q7, q7 = jn (jputr (jnew (jputr (jnew S 12 5) a0 0 (some q1)) 12 5) a0 1 (some q4)) → jk (jnew (jputr (jnew (jputr (jnew S 12 5) a0 0 (some q1)) 12 5) a0 1 (some q4)) 12 5) a0 = 5 ∧ ∀ q10, q10 = jn (jputr (jnew (jputr (jnew (jputr (jnew S 12 5) a0 0 (some q1)) 12 5) a0 1 (some q4)) 12 5) a0 2 (some q7)) → jk (jnew (jputr (jnew (jputr (jnew (jputr (jnew S 12 5) a0 0 (some q1)) 12 5) a0 1 (some q4)) 12 5) a0 2 (some q7)) 12 5) a0 = 5 ∧ ∀ q13, q13 = jn (jputr (jnew (jputr (jnew (jputr (jnew (jputr (jnew S 12 5) a0 0 (some q1)) 12 5) a0 1 (some q4)) 12 5) a0 2 (some q7)) 12 5) a0 3 (some q10)) → jk (jnew (jputr (jnew (jputr (jnew (jputr (jnew (jputr (jnew S 12 5) a0 0 (some q1)) 12 5) a0 1 (some q4)) 12 5) a0 2 (some q7)) 12 5) a0 3 (some q10)) 12 5) a0 = 5 ∧ ∀ q16, q16 = jn (jputr (jnew (jputr (jnew (jputr (jnew (jputr (jnew (jputr (jnew S 12 5) a0 0 (some q1)) 12 5) a0 1 (some q4)) 12 5) a0 2 (some q7)) 12 5) a0 3 (some q10)) 12 5) a0 4 (some q13)) → jk (jnew (jputr (jnew (jputr (jnew (jputr (jnew (jputr (jnew (jputr (jnew S 12 5) a0 0 (some q1)) 12 5) a0 1 (some q4)) 12 5) a0 2 (some q7)) 12 5) a0 3 (some q10)) 12 5) a0 4 (some q13)) 12 10) a0 = 5 ∧ ∀ q19, q19 = jn (jputr (jnew (jputr (jnew (jputr (jnew (jputr (jnew (jputr (jnew (jputr (jnew S 12 5) a0 0 (some q1)) 12 5) a0 1 (some q4)) 12 5) a0 2 (some q7)) 12 5) a0 3 (some q10)) 12 5) a0 4 (some q13)) 12 10) a0 5 (some q16)) → jk (jnew (jputr (jnew (jputr (jnew (jputr (jnew (jputr (jnew (jputr (jnew (jputr (jnew S 12 5) a0 0 (some q1)) 12 5) a0 1 (some q4)) 12 5) a0 2 (some q7)) 12 5) a0 3 (some q10)) 12 5) a0 4 (some q13)) 12 10) a0 5 (some q16)) 12 99) a0 = 5 ∧ Q (jputr (jnew (jputr (jnew (jputr (jnew (jputr (jnew (jputr (jnew (jputr (jnew (jputr (jnew S 12 5) a0 0 (some q1)) 12 5) a0 1 (some q4)) 12 5) a0 2 (some q7)) 12 5) a0 3 (some q10)) 12 5) a0 4 (some q13)) 12 10) a0 5 (some q16)) 12 99) a0 6 (some q19))) : jFv E mX5_init (d + 1) 7 134 [.ref a0] S Q := by
  refine jF_of (by decide) (jle rfl) ?_
  refine jx_lv (lv1 := [(0, .ref a0)]) [0] rfl ?_
  refine jx_aload_n 0 kd172.1 rfl rfl ?_
  refine jx_objInit jwM_X5_3 jwN_obj jwO_obj kd172.2.1 (jRok_m _ _ _) (jle rfl) ?_
  refine jx_aload_n 0 kd172.2.2.1 rfl rfl ?_
  refine jx_iconst (v := 5) kd172.2.2.2.1 (by decide) ?_
  refine jx_newa (N := 5) jwA kd172.2.2.2.2.1 (by decide) (by decide) (by decide) ⟨jle rfl, jle rfl⟩ ?_
  obtain ⟨q1, hq1⟩ : ∃ q, q = jn S := ⟨_, rfl⟩
  rw [← hq1]
  replace h := h q1 hq1
  obtain ⟨hk2, h⟩ := h
  refine jx_putrF jc_5 (j := 0) (by decide) rfl jwF_X5_11 rfl rfl rfl rfl rfl kd172.2.2.2.2.2.1 hk2 ?_
  refine jx_aload_n 0 kd172.2.2.2.2.2.2.1 rfl rfl ?_
  refine jx_iconst (v := 5) kd172.2.2.2.2.2.2.2.1 (by decide) ?_
  refine jx_newa (N := 5) jwA kd172.2.2.2.2.2.2.2.2.1 (by decide) (by decide) (by decide) ⟨jle rfl, jle rfl⟩ ?_
  obtain ⟨q4, hq4⟩ : ∃ q, q = jn (jputr (jnew S 12 5) a0 0 (some q1)) := ⟨_, rfl⟩
  rw [← hq4]
  replace h := h q4 hq4
  obtain ⟨hk5, h⟩ := h
  refine jx_putrF jc_5 (j := 1) (by decide) rfl jwF_X5_15 rfl rfl rfl rfl rfl kd173.1 hk5 ?_
  refine jx_aload_n 0 kd173.2.1 rfl rfl ?_
  refine jx_iconst (v := 5) kd173.2.2.1 (by decide) ?_
  refine jx_newa (N := 5) jwA kd173.2.2.2.1 (by decide) (by decide) (by decide) ⟨jle rfl, jle rfl⟩ ?_
  obtain ⟨q7, hq7⟩ : ∃ q, q = jn (jputr (jnew (jputr (jnew S 12 5) a0 0 (some q1)) 12 5) a0 1 (some q4)) := ⟨_, rfl⟩
  rw [← hq7]
  replace h := h q7 hq7
  obtain ⟨hk8, h⟩ := h
  refine jx_putrF jc_5 (j := 2) (by decide) rfl jwF_X5_18 rfl rfl rfl rfl rfl kd173.2.2.2.2.1 hk8 ?_
  refine jx_aload_n 0 kd173.2.2.2.2.2.1 rfl rfl ?_
  refine jx_iconst (v := 5) kd173.2.2.2.2.2.2.1 (by decide) ?_
  refine jx_newa (N := 5) jwA kd173.2.2.2.2.2.2.2.1 (by decide) (by decide) (by decide) ⟨jle rfl, jle rfl⟩ ?_
  obtain ⟨q10, hq10⟩ : ∃ q, q = jn (jputr (jnew (jputr (jnew (jputr (jnew S 12 5) a0 0 (some q1)) 12 5) a0 1 (some q4)) 12 5) a0 2 (some q7)) := ⟨_, rfl⟩
  rw [← hq10]
  replace h := h q10 hq10
  obtain ⟨hk11, h⟩ := h
  refine jx_putrF jc_5 (j := 3) (by decide) rfl jwF_X5_21 rfl rfl rfl rfl rfl kd173.2.2.2.2.2.2.2.2.1 hk11 ?_
  refine jx_aload_n 0 kd174.1 rfl rfl ?_
  refine jx_iconst (v := 5) kd174.2.1 (by decide) ?_
  refine jx_newa (N := 5) jwA kd174.2.2.1 (by decide) (by decide) (by decide) ⟨jle rfl, jle rfl⟩ ?_
  obtain ⟨q13, hq13⟩ : ∃ q, q = jn (jputr (jnew (jputr (jnew (jputr (jnew (jputr (jnew S 12 5) a0 0 (some q1)) 12 5) a0 1 (some q4)) 12 5) a0 2 (some q7)) 12 5) a0 3 (some q10)) := ⟨_, rfl⟩
  rw [← hq13]
  replace h := h q13 hq13
  obtain ⟨hk14, h⟩ := h
  refine jx_putrF jc_5 (j := 4) (by decide) rfl jwF_X5_24 rfl rfl rfl rfl rfl kd174.2.2.2.1 hk14 ?_
  refine jx_aload_n 0 kd174.2.2.2.2.1 rfl rfl ?_
  refine jx_bipush (v := 10) kd174.2.2.2.2.2.1 (by decide) ?_
  refine jx_newa (N := 10) jwA kd174.2.2.2.2.2.2.1 (by decide) (by decide) (by decide) ⟨jle rfl, jle rfl⟩ ?_
  obtain ⟨q16, hq16⟩ : ∃ q, q = jn (jputr (jnew (jputr (jnew (jputr (jnew (jputr (jnew (jputr (jnew S 12 5) a0 0 (some q1)) 12 5) a0 1 (some q4)) 12 5) a0 2 (some q7)) 12 5) a0 3 (some q10)) 12 5) a0 4 (some q13)) := ⟨_, rfl⟩
  rw [← hq16]
  replace h := h q16 hq16
  obtain ⟨hk17, h⟩ := h
  refine jx_putrF jc_5 (j := 5) (by decide) rfl jwF_X5_27 rfl rfl rfl rfl rfl kd174.2.2.2.2.2.2.2.1 hk17 ?_
  refine jx_aload_n 0 kd174.2.2.2.2.2.2.2.2.1 rfl rfl ?_
  refine jx_bipush (v := 99) kd175.1 (by decide) ?_
  refine jx_newa (N := 99) jwA kd175.2.1 (by decide) (by decide) (by decide) ⟨jle rfl, jle rfl⟩ ?_
  obtain ⟨q19, hq19⟩ : ∃ q, q = jn (jputr (jnew (jputr (jnew (jputr (jnew (jputr (jnew (jputr (jnew (jputr (jnew S 12 5) a0 0 (some q1)) 12 5) a0 1 (some q4)) 12 5) a0 2 (some q7)) 12 5) a0 3 (some q10)) 12 5) a0 4 (some q13)) 12 10) a0 5 (some q16)) := ⟨_, rfl⟩
  rw [← hq19]
  replace h := h q19 hq19
  obtain ⟨hk20, h⟩ := h
  refine jx_putrF jc_5 (j := 6) (by decide) rfl jwF_X5_30 rfl rfl rfl rfl rfl kd175.2.2.1 hk20 ?_
  exact jx_vret kd175.2.2.2.1 rfl (jle rfl) (jle rfl) ⟨rfl, h⟩
/-- X5_finds at its loop's head 39 -/
abbrev L_X5_finds_39 (E : jEnv) (d : Nat) (Q : Int32 → jM → Prop) (a0 : Nat) (a1 : Nat) (x2 : Int32) (S : jM) : Prop := jX E mX5_finds (jRm (d + 1) 0 0) (jZm E (fun r S' => ∃ v : Int32, r = some (.int v) ∧ Q v S') 0 0) 39 [(0, .ref a0), (1, .ref a1), (2, .int x2)] [] S 0 0
/-- X5_finds at its loop's head 63 -/
abbrev L_X5_finds_63 (E : jEnv) (d : Nat) (Q : Int32 → jM → Prop) (a0 : Nat) (a1 : Nat) (x2 : Int32) (S : jM) : Prop := jX E mX5_finds (jRm (d + 1) 0 0) (jZm E (fun r S' => ∃ v : Int32, r = some (.int v) ∧ Q v S') 0 0) 63 [(0, .ref a0), (1, .ref a1), (2, .int x2)] [] S 0 0
set_option maxRecDepth 100000 in
set_option maxHeartbeats 4000000 in
theorem T_X5_finds {E : jEnv} {d : Nat} {Q : Int32 → jM → Prop} {a0 : Nat} {a1 : Nat} {S : jM} (h : jk S a0 = 5 ∧ jk S a1 = 3 ∧ jFi E mX3_wishedSet d 0 0 [.ref a1] (jput (jput (jput S a0 9 1000000000) a0 10 1000000000) a0 11 1000000000) (fun r4 S3 => jk S3 a0 = 5 ∧ jk S3 a1 = 3 ∧ ∃ b7, jr S3 a1 0 = some b7 ∧ (jk S3 b7 = 0 ∧ jFi E mX0_taught d 0 0 [.ref b7] (jput S3 a0 7 r4) (fun r10 S9 => jk S9 a0 = 5 ∧ L_X5_finds_39 E d Q a0 a1 0 (jput S9 a0 8 r10))))) : jFi E mX5_finds (d + 1) 0 0 [.ref a0, .ref a1] S Q := by
  refine jF_of (by decide) (jle rfl) ?_
  refine jx_lv (lv1 := [(0, .ref a0), (1, .ref a1)]) [0, 1] rfl ?_
  refine jx_aload_n 0 kd176.1 rfl rfl ?_
  refine jx_ldc jwC_X5_33 kd176.2.1 ?_
  obtain ⟨hk1, h⟩ := h
  refine jx_puti jc_5 (j := 9) (by decide) rfl jwF_X5_34 rfl rfl rfl kd176.2.2.1 hk1 ?_
  refine jx_aload_n 0 kd176.2.2.2.1 rfl rfl ?_
  refine jx_ldc jwC_X5_33 kd176.2.2.2.2.1 ?_
  refine jx_puti jc_5 (j := 10) (by decide) rfl jwF_X5_38 rfl rfl rfl kd176.2.2.2.2.2.1 hk1 ?_
  refine jx_aload_n 0 kd176.2.2.2.2.2.2.1 rfl rfl ?_
  refine jx_ldc jwC_X5_33 kd176.2.2.2.2.2.2.2.1 ?_
  refine jx_puti jc_5 (j := 11) (by decide) rfl jwF_X5_41 rfl rfl rfl kd176.2.2.2.2.2.2.2.2.1 hk1 ?_
  refine jx_aload_n 0 kd177.1 rfl rfl ?_
  refine jx_aload_n 1 kd177.2.1 rfl rfl ?_
  obtain ⟨hk2, h⟩ := h
  refine jx_callVi (M' := mX3_wishedSet) (As := []) jo_X3_wishedSet jc_3 rfl jwM_X5_44 jwN_X3_wishedSet jwX_X3_wishedSet kd177.2.2.1 (jRok_m _ _ _) rfl (jle rfl) ⟨jle rfl, jle rfl⟩ hk2 h (fun r4 S3 h => ?_)
  obtain ⟨hk5, h⟩ := h
  refine jx_puti jc_5 (j := 7) (by decide) rfl jwF_X5_50 rfl rfl rfl kd177.2.2.2.1 hk5 ?_
  refine jx_aload_n 0 kd177.2.2.2.2.1 rfl rfl ?_
  refine jx_aload_n 1 kd177.2.2.2.2.2.1 rfl rfl ?_
  obtain ⟨hk6, h⟩ := h
  obtain ⟨b7, hb7, h⟩ := h
  refine jx_getr jc_3 (j := 0) (by decide) rfl jwF_X5_53 kd177.2.2.2.2.2.2.1 hk6 hb7 ?_
  obtain ⟨hk8, h⟩ := h
  refine jx_callVi (M' := mX0_taught) (As := []) jo_X0_taught jc_0 rfl jwM_X5_57 jwN_X0_taught jwX_X0_taught kd177.2.2.2.2.2.2.2.1 (jRok_m _ _ _) rfl (jle rfl) ⟨jle rfl, jle rfl⟩ hk8 h (fun r10 S9 h => ?_)
  obtain ⟨hk11, h⟩ := h
  refine jx_puti jc_5 (j := 8) (by decide) rfl jwF_X5_62 rfl rfl rfl kd177.2.2.2.2.2.2.2.2.1 hk11 ?_
  refine jx_iconst (v := 0) kd178.1 (by decide) ?_
  refine jx_istore_n (lv1 := [(2, .int 0), (0, .ref a0), (1, .ref a1)]) kd178.2.1 rfl (by decide) rfl ?_
  exact jx_lv [1, 2, 0] rfl h
set_option maxRecDepth 100000 in
set_option maxHeartbeats 4000000 in
theorem T_X5_finds_39 {E : jEnv} {d : Nat} {Q : Int32 → jM → Prop} {a0 : Nat} {a1 : Nat} {x2 : Int32} {S : jM} (h : jk S a0 = 5 ∧ ∃ b13, jr S a0 6 = some b13 ∧ (jk S b13 = 12 ∧ ((nI (jl S b13)) ≤ x2 → L_X5_finds_63 E d Q a0 a1 0 S) ∧ (¬ (nI (jl S b13)) ≤ x2 → vp_in x2 (jl S b13) ∧ (L_X5_finds_39 E d Q a0 a1 (x2 + 1) (jput S b13 (Int32.toNatClampNeg x2) 0))))) : L_X5_finds_39 E d Q a0 a1 x2 S := by
  show jX E mX5_finds (jRm (d + 1) 0 0) (jZm E (fun r S' => ∃ v : Int32, r = some (.int v) ∧ Q v S') 0 0) 39 [(0, .ref a0), (1, .ref a1), (2, .int x2)] [] S 0 0
  refine jx_iload_n 2 kd178.2.2.1 rfl rfl ?_
  refine jx_aload_n 0 kd178.2.2.2.1 rfl rfl ?_
  obtain ⟨hk12, h⟩ := h
  obtain ⟨b13, hb13, h⟩ := h
  refine jx_getr jc_5 (j := 6) (by decide) rfl jwF_X5_30 kd178.2.2.2.2.1 hk12 hb13 ?_
  obtain ⟨hk14, h⟩ := h
  refine jx_alen kd178.2.2.2.2.2.1 hk14 ?_
  refine jx_icmp_ge (tgt := 61) kd178.2.2.2.2.2.2.1 (by decide) (fun c15 => ?_) (fun c15 => ?_)
  · replace h := h.1 c15
    refine jx_iconst (v := 0) kd179.2.2.2.2.2.1 (by decide) ?_
    refine jx_istore_n (lv1 := [(2, .int 0), (0, .ref a0), (1, .ref a1)]) kd179.2.2.2.2.2.2.1 rfl (by decide) rfl ?_
    exact jx_lv [1, 2, 0] rfl h
  replace h := h.2 c15
  refine jx_aload_n 0 kd178.2.2.2.2.2.2.2.1 rfl rfl ?_
  refine jx_getr jc_5 (j := 6) (by decide) rfl jwF_X5_30 kd178.2.2.2.2.2.2.2.2.1 hk12 hb13 ?_
  refine jx_iload_n 2 kd179.1 rfl rfl ?_
  refine jx_iconst (v := 0) kd179.2.1 (by decide) ?_
  obtain ⟨hi16, h⟩ := h
  refine jx_iast kd179.2.2.1 hk14 hi16 ?_
  refine jx_iinc 2 (v := (x2 + 1)) (lv1 := [(2, .int (x2 + 1)), (0, .ref a0), (1, .ref a1)]) kd179.2.2.2.1 rfl rfl (by decide) rfl ?_
  refine jx_goto (tgt := 39) kd179.2.2.2.2.1 (by decide) ?_
  exact jx_lv [1, 2, 0] rfl h
set_option maxRecDepth 100000 in
set_option maxHeartbeats 4000000 in
theorem T_X5_finds_63 {E : jEnv} {d : Nat} {Q : Int32 → jM → Prop} {a0 : Nat} {a1 : Nat} {x2 : Int32} {S : jM} (h : (10 ≤ x2 → jk S a0 = 5 ∧ ∃ b19, jr S a0 0 = some b19 ∧ (jk S a1 = 3 ∧ ∃ b21, jr S a1 2 = some b21 ∧ (jk S b21 = 1 ∧ jk S b19 = 12 ∧ vp_in 0 (jl S b19) ∧ (∃ b25, jr S a0 1 = some b25 ∧ (jk S b25 = 12 ∧ vp_in 0 (jl S b25) ∧ (∃ b28, jr S a0 2 = some b28 ∧ (jk S b28 = 12 ∧ vp_in 0 (jl S b28) ∧ (∃ b31, jr S a0 3 = some b31 ∧ (jk S b31 = 12 ∧ vp_in 0 (jl S b31) ∧ (∃ b34, jr S a0 4 = some b34 ∧ (jk S b34 = 12 ∧ vp_in 0 (jl S b34) ∧ (jFv E mX5_goOn d 0 0 [.ref a0, .ref a1, .int 0] (jput (jput (jput (jput (jput S b19 (Int32.toNatClampNeg 0) (ji S b21 0)) b25 (Int32.toNatClampNeg 0) (ji S b21 1)) b28 (Int32.toNatClampNeg 0) 0) b31 (Int32.toNatClampNeg 0) 0) b34 (Int32.toNatClampNeg 0) (-1000000005)) (fun S37 => jk S37 a0 = 5 ∧ ((ji S37 a0 9) = 1000000000 → Q 0 S37) ∧ (¬ (ji S37 a0 9) = 1000000000 → Q 1 S37)))))))))))))) ∧ (¬ 10 ≤ x2 → jk S a0 = 5 ∧ ∃ b41, jr S a0 5 = some b41 ∧ (jk S a1 = 3 ∧ ∃ b43, jr S a1 2 = some b43 ∧ (jk S b43 = 1 ∧ ∃ b45, jr S b43 6 = some b45 ∧ (jk S b45 = 12 ∧ vp_in x2 (jl S b45) ∧ (jk S b41 = 12 ∧ vp_in x2 (jl S b41) ∧ (L_X5_finds_63 E d Q a0 a1 (x2 + 1) (jput S b41 (Int32.toNatClampNeg x2) (-(ji S b45 (Int32.toNatClampNeg x2))))))))))) : L_X5_finds_63 E d Q a0 a1 x2 S := by
  show jX E mX5_finds (jRm (d + 1) 0 0) (jZm E (fun r S' => ∃ v : Int32, r = some (.int v) ∧ Q v S') 0 0) 63 [(0, .ref a0), (1, .ref a1), (2, .int x2)] [] S 0 0
  refine jx_iload_n 2 kd179.2.2.2.2.2.2.2.1 rfl rfl ?_
  refine jx_bipush (v := 10) kd179.2.2.2.2.2.2.2.2.1 (by decide) ?_
  refine jx_icmp_ge (tgt := 91) kd180.1 (by decide) (fun c17 => ?_) (fun c17 => ?_)
  · replace h := h.1 c17
    refine jx_aload_n 0 kd181.2.2.2.2.1 rfl rfl ?_
    obtain ⟨hk18, h⟩ := h
    obtain ⟨b19, hb19, h⟩ := h
    refine jx_getr jc_5 (j := 0) (by decide) rfl jwF_X5_11 kd181.2.2.2.2.2.1 hk18 hb19 ?_
    refine jx_iconst (v := 0) kd181.2.2.2.2.2.2.1 (by decide) ?_
    refine jx_aload_n 1 kd181.2.2.2.2.2.2.2.1 rfl rfl ?_
    obtain ⟨hk20, h⟩ := h
    obtain ⟨b21, hb21, h⟩ := h
    refine jx_getr jc_3 (j := 2) (by decide) rfl jwF_X5_64 kd181.2.2.2.2.2.2.2.2.1 hk20 hb21 ?_
    obtain ⟨hk22, h⟩ := h
    refine jx_geti jc_1 (j := 0) (by decide) rfl jwF_X5_73 kd182.1 hk22 ?_
    obtain ⟨hk23, h⟩ := h
    obtain ⟨hi24, h⟩ := h
    refine jx_iast kd182.2.1 hk23 hi24 ?_
    refine jx_aload_n 0 kd182.2.2.1 rfl rfl ?_
    obtain ⟨b25, hb25, h⟩ := h
    refine jx_getr jc_5 (j := 1) (by decide) rfl jwF_X5_15 kd182.2.2.2.1 hk18 hb25 ?_
    refine jx_iconst (v := 0) kd182.2.2.2.2.1 (by decide) ?_
    refine jx_aload_n 1 kd182.2.2.2.2.2.1 rfl rfl ?_
    refine jx_getr jc_3 (j := 2) (by decide) rfl jwF_X5_64 kd182.2.2.2.2.2.2.1 hk20 hb21 ?_
    refine jx_geti jc_1 (j := 1) (by decide) rfl jwF_X5_76 kd182.2.2.2.2.2.2.2.1 hk22 ?_
    refine jx_topi (y := (ji S b21 1)) (by simp [ji_put, ji_row, ji_putr, jne hk22 hk23 (by decide)]) ?_
    obtain ⟨hk26, h⟩ := h
    obtain ⟨hi27, h⟩ := h
    refine jx_iast kd182.2.2.2.2.2.2.2.2.1 hk26 hi27 ?_
    refine jx_aload_n 0 kd183.1 rfl rfl ?_
    obtain ⟨b28, hb28, h⟩ := h
    refine jx_getr jc_5 (j := 2) (by decide) rfl jwF_X5_18 kd183.2.1 hk18 hb28 ?_
    refine jx_iconst (v := 0) kd183.2.2.1 (by decide) ?_
    refine jx_iconst (v := 0) kd183.2.2.2.1 (by decide) ?_
    obtain ⟨hk29, h⟩ := h
    obtain ⟨hi30, h⟩ := h
    refine jx_iast kd183.2.2.2.2.1 hk29 hi30 ?_
    refine jx_aload_n 0 kd183.2.2.2.2.2.1 rfl rfl ?_
    obtain ⟨b31, hb31, h⟩ := h
    refine jx_getr jc_5 (j := 3) (by decide) rfl jwF_X5_21 kd183.2.2.2.2.2.2.1 hk18 hb31 ?_
    refine jx_iconst (v := 0) kd183.2.2.2.2.2.2.2.1 (by decide) ?_
    refine jx_iconst (v := 0) kd183.2.2.2.2.2.2.2.2.1 (by decide) ?_
    obtain ⟨hk32, h⟩ := h
    obtain ⟨hi33, h⟩ := h
    refine jx_iast kd184.1 hk32 hi33 ?_
    refine jx_aload_n 0 kd184.2.1 rfl rfl ?_
    obtain ⟨b34, hb34, h⟩ := h
    refine jx_getr jc_5 (j := 4) (by decide) rfl jwF_X5_24 kd184.2.2.1 hk18 hb34 ?_
    refine jx_iconst (v := 0) kd184.2.2.2.1 (by decide) ?_
    refine jx_ldc jwC_X5_78 kd184.2.2.2.2.1 ?_
    obtain ⟨hk35, h⟩ := h
    obtain ⟨hi36, h⟩ := h
    refine jx_iast kd184.2.2.2.2.2.1 hk35 hi36 ?_
    refine jx_aload_n 0 kd184.2.2.2.2.2.2.1 rfl rfl ?_
    refine jx_aload_n 1 kd184.2.2.2.2.2.2.2.1 rfl rfl ?_
    refine jx_iconst (v := 0) kd184.2.2.2.2.2.2.2.2.1 (by decide) ?_
    refine jx_callVv (M' := mX5_goOn) (As := [.ref a1, .int 0]) jo_X5_goOn jc_5 rfl jwM_X5_79 jwN_X5_goOn jwX_X5_goOn kd185.1 (jRok_m _ _ _) rfl (jle rfl) ⟨jle rfl, jle rfl⟩ hk18 h (fun S37 h => ?_)
    refine jx_aload_n 0 kd185.2.1 rfl rfl ?_
    obtain ⟨hk38, h⟩ := h
    refine jx_geti jc_5 (j := 9) (by decide) rfl jwF_X5_34 kd185.2.2.1 hk38 ?_
    refine jx_ldc jwC_X5_33 kd185.2.2.2.1 ?_
    refine jx_icmp_eq (tgt := 158) kd185.2.2.2.2.1 (by decide) (fun c39 => ?_) (fun c39 => ?_)
    · replace h := h.1 c39
      refine jx_iconst (v := 0) kd185.2.2.2.2.2.2.2.1 (by decide) ?_
      exact jx_iret kd185.2.2.2.2.2.2.2.2.1 rfl (by decide) (jle rfl) (jle rfl) ⟨_, rfl, h⟩
    replace h := h.2 c39
    refine jx_iconst (v := 1) kd185.2.2.2.2.2.1 (by decide) ?_
    refine jx_goto (tgt := 159) kd185.2.2.2.2.2.2.1 (by decide) ?_
    exact jx_iret kd185.2.2.2.2.2.2.2.2.1 rfl (by decide) (jle rfl) (jle rfl) ⟨_, rfl, h⟩
  replace h := h.2 c17
  refine jx_aload_n 0 kd180.2.1 rfl rfl ?_
  obtain ⟨hk40, h⟩ := h
  obtain ⟨b41, hb41, h⟩ := h
  refine jx_getr jc_5 (j := 5) (by decide) rfl jwF_X5_27 kd180.2.2.1 hk40 hb41 ?_
  refine jx_iload_n 2 kd180.2.2.2.1 rfl rfl ?_
  refine jx_aload_n 1 kd180.2.2.2.2.1 rfl rfl ?_
  obtain ⟨hk42, h⟩ := h
  obtain ⟨b43, hb43, h⟩ := h
  refine jx_getr jc_3 (j := 2) (by decide) rfl jwF_X5_64 kd180.2.2.2.2.2.1 hk42 hb43 ?_
  obtain ⟨hk44, h⟩ := h
  obtain ⟨b45, hb45, h⟩ := h
  refine jx_getr jc_1 (j := 6) (by decide) rfl jwF_X5_68 kd180.2.2.2.2.2.2.1 hk44 hb45 ?_
  refine jx_iload_n 2 kd180.2.2.2.2.2.2.2.1 rfl rfl ?_
  obtain ⟨hk46, h⟩ := h
  obtain ⟨hi47, h⟩ := h
  refine jx_iald kd180.2.2.2.2.2.2.2.2.1 hk46 hi47 ?_
  refine jx_ineg kd181.1 ?_
  obtain ⟨hk48, h⟩ := h
  obtain ⟨hi49, h⟩ := h
  refine jx_iast kd181.2.1 hk48 hi49 ?_
  refine jx_iinc 2 (v := (x2 + 1)) (lv1 := [(2, .int (x2 + 1)), (0, .ref a0), (1, .ref a1)]) kd181.2.2.1 rfl rfl (by decide) rfl ?_
  refine jx_goto (tgt := 63) kd181.2.2.2.1 (by decide) ?_
  exact jx_lv [1, 2, 0] rfl h
/-- X5_goOn at its loop's head 63 -/
abbrev L_X5_goOn_63 (E : jEnv) (d : Nat) (Q : jM → Prop) (a0 : Nat) (a1 : Nat) (x2 : Int32) (x3 : Int32) (x4 : Int32) (x5 : Int32) (S : jM) : Prop := jX E mX5_goOn (jRm (d + 1) 0 0) (jZm E (fun r S' => r = none ∧ Q S') 0 0) 63 [(0, .ref a0), (1, .ref a1), (2, .int x2), (3, .int x3), (4, .int x4), (5, .int x5)] [] S 0 0
set_option maxRecDepth 100000 in
set_option maxHeartbeats 4000000 in
theorem T_X5_goOn {E : jEnv} {d : Nat} {Q : jM → Prop} {a0 : Nat} {a1 : Nat} {x2 : Int32} {S : jM} (h : ((jwi x2 5) = 0 → Q S) ∧ (¬ (jwi x2 5) = 0 → jk S a0 = 5 ∧ ∃ b6, jr S a0 1 = some b6 ∧ (jk S b6 = 12 ∧ vp_in x2 (jl S b6) ∧ ((((ji S a0 7) &&& ((ji S b6 (Int32.toNatClampNeg x2)) ^^^ (-1))) = 0 → jFv E mX5_offer d 0 0 [.ref a0, .int x2] S (fun S15 => Q S15)) ∧ (¬ ((ji S a0 7) &&& ((ji S b6 (Int32.toNatClampNeg x2)) ^^^ (-1))) = 0 → (((4 - x2) - (jbc ((ji S a0 7) &&& ((ji S b6 (Int32.toNatClampNeg x2)) ^^^ (-1))))) < 0 → Q S) ∧ (¬ ((4 - x2) - (jbc ((ji S a0 7) &&& ((ji S b6 (Int32.toNatClampNeg x2)) ^^^ (-1))))) < 0 → ((((ji S a0 7) &&& ((ji S b6 (Int32.toNatClampNeg x2)) ^^^ (-1))) &&& ((ji S a0 8) ^^^ (-1))) = 0 → L_X5_goOn_63 E d Q a0 a1 x2 ((ji S a0 7) &&& ((ji S b6 (Int32.toNatClampNeg x2)) ^^^ (-1))) ((4 - x2) - (jbc ((ji S a0 7) &&& ((ji S b6 (Int32.toNatClampNeg x2)) ^^^ (-1))))) 0 S) ∧ (¬ (((ji S a0 7) &&& ((ji S b6 (Int32.toNatClampNeg x2)) ^^^ (-1))) &&& ((ji S a0 8) ^^^ (-1))) = 0 → Q S))))))) : jFv E mX5_goOn (d + 1) 0 0 [.ref a0, .ref a1, .int x2] S Q := by
  refine jF_of (by decide) (jle rfl) ?_
  refine jx_lv (lv1 := [(0, .ref a0), (1, .ref a1), (2, .int x2)]) [0, 1, 2] rfl ?_
  refine jx_iload_n 2 kd186.1 rfl rfl ?_
  refine jx_iconst (v := 5) kd186.2.1 (by decide) ?_
  refine jx_callSNi (M' := mX10_within) (As := [.int x2, .int 5]) (host := "NineMasters") jo_X10_within (by decide) jwS_X10_within kd186.2.2.1 (jRok_m _ _ _) rfl (jle rfl) ⟨jle rfl, jle rfl⟩ (c_X10_within (Q := fun v S' => v = (jwi x2 5) ∧ S = S') ⟨rfl, rfl⟩) (fun r1 S2 hq3 => ?_)
  obtain ⟨rfl, rfl⟩ := hq3
  refine jx_if_ne (tgt := 9) kd186.2.2.2.1 (by decide) (fun c4 => ?_) (fun c4 => ?_)
  · replace h := h.2 c4
    refine jx_aload_n 0 kd186.2.2.2.2.2.1 rfl rfl ?_
    obtain ⟨hk5, h⟩ := h
    refine jx_geti jc_5 (j := 7) (by decide) rfl jwF_X5_50 kd186.2.2.2.2.2.2.1 hk5 ?_
    refine jx_aload_n 0 kd186.2.2.2.2.2.2.2.1 rfl rfl ?_
    obtain ⟨b6, hb6, h⟩ := h
    refine jx_getr jc_5 (j := 1) (by decide) rfl jwF_X5_15 kd186.2.2.2.2.2.2.2.2.1 hk5 hb6 ?_
    refine jx_iload_n 2 kd187.1 rfl rfl ?_
    obtain ⟨hk7, h⟩ := h
    obtain ⟨hi8, h⟩ := h
    refine jx_iald kd187.2.1 hk7 hi8 ?_
    refine jx_iconst (v := (-1)) kd187.2.2.1 (by decide) ?_
    refine jx_ixor kd187.2.2.2.1 ?_
    refine jx_iand kd187.2.2.2.2.1 ?_
    refine jx_istore_n (lv1 := [(3, .int ((ji S a0 7) &&& ((ji S b6 (Int32.toNatClampNeg x2)) ^^^ (-1)))), (0, .ref a0), (1, .ref a1), (2, .int x2)]) kd187.2.2.2.2.2.1 rfl (by decide) rfl ?_
    refine jx_iload_n 0 kd187.2.2.2.2.2.2.1 rfl rfl ?_
    refine jx_if_ne (tgt := 33) kd187.2.2.2.2.2.2.2.1 (by decide) (fun c9 => ?_) (fun c9 => ?_)
    · replace h := h.2 c9
      refine jx_iconst (v := 4) kd188.2.2.2.1 (by decide) ?_
      refine jx_iload_n 3 kd188.2.2.2.2.1 rfl rfl ?_
      refine jx_isub kd188.2.2.2.2.2.1 ?_
      refine jx_iload_n 0 kd188.2.2.2.2.2.2.1 rfl rfl ?_
      refine jx_callSi (M' := mJ6_bitCount_0f7a4) (As := [.int ((ji S a0 7) &&& ((ji S b6 (Int32.toNatClampNeg x2)) ^^^ (-1)))]) jo_J6_bitCount_0f7a4 jwM_X5_91 jwS_J6_bitCount_0f7a4 kd188.2.2.2.2.2.2.2.1 (jRok_m _ _ _) rfl (jle rfl) ⟨jle rfl, jle rfl⟩ (c_J6_bitCount_0f7a4 (Q := fun v S' => v = (jbc ((ji S a0 7) &&& ((ji S b6 (Int32.toNatClampNeg x2)) ^^^ (-1)))) ∧ S = S') ⟨rfl, rfl⟩) (fun r10 S11 hq12 => ?_)
      obtain ⟨rfl, rfl⟩ := hq12
      refine jx_isub kd188.2.2.2.2.2.2.2.2.1 ?_
      refine jx_istore (lv1 := [(4, .int ((4 - x2) - (jbc ((ji S a0 7) &&& ((ji S b6 (Int32.toNatClampNeg x2)) ^^^ (-1)))))), (3, .int ((ji S a0 7) &&& ((ji S b6 (Int32.toNatClampNeg x2)) ^^^ (-1)))), (0, .ref a0), (1, .ref a1), (2, .int x2)]) kd189.1 (by decide) rfl ?_
      refine jx_iload 0 kd189.2.1 rfl ?_
      refine jx_if_lt (tgt := 59) kd189.2.2.1 (by decide) (fun c13 => ?_) (fun c13 => ?_)
      · replace h := h.1 c13
        exact jx_vret kd190.2.1 rfl (jle rfl) (jle rfl) ⟨rfl, h⟩
      replace h := h.2 c13
      refine jx_iload_n 1 kd189.2.2.2.1 rfl rfl ?_
      refine jx_aload_n 2 kd189.2.2.2.2.1 rfl rfl ?_
      refine jx_geti jc_5 (j := 8) (by decide) rfl jwF_X5_62 kd189.2.2.2.2.2.1 hk5 ?_
      refine jx_iconst (v := (-1)) kd189.2.2.2.2.2.2.1 (by decide) ?_
      refine jx_ixor kd189.2.2.2.2.2.2.2.1 ?_
      refine jx_iand kd189.2.2.2.2.2.2.2.2.1 ?_
      refine jx_if_eq (tgt := 60) kd190.1 (by decide) (fun c14 => ?_) (fun c14 => ?_)
      · replace h := h.1 c14
        refine jx_iconst (v := 0) kd190.2.2.1 (by decide) ?_
        refine jx_istore (lv1 := [(5, .int 0), (4, .int ((4 - x2) - (jbc ((ji S a0 7) &&& ((ji S b6 (Int32.toNatClampNeg x2)) ^^^ (-1)))))), (3, .int ((ji S a0 7) &&& ((ji S b6 (Int32.toNatClampNeg x2)) ^^^ (-1)))), (0, .ref a0), (1, .ref a1), (2, .int x2)]) kd190.2.2.2.1 (by decide) rfl ?_
        exact jx_lv [3, 4, 5, 2, 1, 0] rfl h
      replace h := h.2 c14
      exact jx_vret kd190.2.1 rfl (jle rfl) (jle rfl) ⟨rfl, h⟩
    replace h := h.1 c9
    refine jx_aload_n 1 kd187.2.2.2.2.2.2.2.2.1 rfl rfl ?_
    refine jx_iload_n 3 kd188.1 rfl rfl ?_
    refine jx_callVv (M' := mX5_offer) (As := [.int x2]) jo_X5_offer jc_5 rfl jwM_X5_87 jwN_X5_offer jwX_X5_offer kd188.2.1 (jRok_m _ _ _) rfl (jle rfl) ⟨jle rfl, jle rfl⟩ hk5 h (fun S15 h => ?_)
    exact jx_vret kd188.2.2.1 rfl (jle rfl) (jle rfl) ⟨rfl, h⟩
  replace h := h.1 c4
  exact jx_vret kd186.2.2.2.2.1 rfl (jle rfl) (jle rfl) ⟨rfl, h⟩
set_option maxRecDepth 100000 in
set_option maxHeartbeats 4000000 in
theorem T_X5_goOn_63 {E : jEnv} {d : Nat} {Q : jM → Prop} {a0 : Nat} {a1 : Nat} {x2 : Int32} {x3 : Int32} {x4 : Int32} {x5 : Int32} {S : jM} (h : jk S a1 = 3 ∧ ∃ b17, jr S a1 0 = some b17 ∧ (jk S b17 = 0 ∧ ((ji S b17 1) ≤ x5 → Q S) ∧ (¬ (ji S b17 1) ≤ x5 → jFr E mX0_find d 0 0 [.ref b17, .int x5] S (fun o21 S20 => (o21 = none → L_X5_goOn_63 E d Q a0 a1 x2 x3 x4 (x5 + 1) S20) ∧ (∀ b22, o21 = some b22 → (0 < x4 → jk S20 a0 = 5 ∧ jFv E mX5_tryMaster d 0 0 [.ref a0, .ref a1, .int x2, .int x5, .ref b22] S20 (fun S25 => L_X5_goOn_63 E d Q a0 a1 x2 x3 x4 (x5 + 1) S25)) ∧ (¬ 0 < x4 → jk S20 b22 = 2 ∧ ((x3 &&& (jshl 1 (ji S20 b22 2))) = 0 → L_X5_goOn_63 E d Q a0 a1 x2 x3 x4 (x5 + 1) S20) ∧ (¬ (x3 &&& (jshl 1 (ji S20 b22 2))) = 0 → jk S20 a0 = 5 ∧ jFv E mX5_tryMaster d 0 0 [.ref a0, .ref a1, .int x2, .int x5, .ref b22] S20 (fun S29 => L_X5_goOn_63 E d Q a0 a1 x2 x3 x4 (x5 + 1) S29)))))))) : L_X5_goOn_63 E d Q a0 a1 x2 x3 x4 x5 S := by
  show jX E mX5_goOn (jRm (d + 1) 0 0) (jZm E (fun r S' => r = none ∧ Q S') 0 0) 63 [(0, .ref a0), (1, .ref a1), (2, .int x2), (3, .int x3), (4, .int x4), (5, .int x5)] [] S 0 0
  refine jx_iload 5 kd190.2.2.2.2.1 rfl ?_
  refine jx_aload_n 1 kd190.2.2.2.2.2.1 rfl rfl ?_
  obtain ⟨hk16, h⟩ := h
  obtain ⟨b17, hb17, h⟩ := h
  refine jx_getr jc_3 (j := 0) (by decide) rfl jwF_X5_53 kd190.2.2.2.2.2.2.1 hk16 hb17 ?_
  obtain ⟨hk18, h⟩ := h
  refine jx_geti jc_0 (j := 1) (by decide) rfl jwF_X5_97 kd190.2.2.2.2.2.2.2.1 hk18 ?_
  refine jx_icmp_ge (tgt := 124) kd190.2.2.2.2.2.2.2.2.1 (by decide) (fun c19 => ?_) (fun c19 => ?_)
  · replace h := h.1 c19
    exact jx_vret kd193.2.2.2.2.2.2.1 rfl (jle rfl) (jle rfl) ⟨rfl, h⟩
  replace h := h.2 c19
  refine jx_aload_n 1 kd191.1 rfl rfl ?_
  refine jx_getr jc_3 (j := 0) (by decide) rfl jwF_X5_53 kd191.2.1 hk16 hb17 ?_
  refine jx_iload 5 kd191.2.2.1 rfl ?_
  refine jx_callVr (M' := mX0_find) (As := [.int x5]) jo_X0_find jc_0 rfl jwM_X5_100 jwN_X0_find jwX_X0_find kd191.2.2.2.1 (jRok_m _ _ _) rfl (jle rfl) ⟨jle rfl, jle rfl⟩ hk18 h (fun o21 S20 h => ?_)
  rcases o21 with _ | b22
  · replace h := h.1 rfl
    refine jx_astoreN (lv1 := [(6, .null), (0, .ref a0), (1, .ref a1), (2, .int x2), (3, .int x3), (4, .int x4), (5, .int x5)]) kd191.2.2.2.2.1 (by decide) rfl ?_
    refine jx_aloadN 0 kd191.2.2.2.2.2.1 rfl ?_
    refine jx_ifnullN (tgt := 118) kd191.2.2.2.2.2.2.1 (by decide) ?_
    refine jx_iinc 6 (v := (x5 + 1)) (lv1 := [(5, .int (x5 + 1)), (6, .null), (0, .ref a0), (1, .ref a1), (2, .int x2), (3, .int x3), (4, .int x4)]) kd193.2.2.2.2.1 rfl rfl (by decide) rfl ?_
    refine jx_goto (tgt := 63) kd193.2.2.2.2.2.1 (by decide) ?_
    exact jx_lv [2, 3, 4, 5, 6, 0] rfl h
  replace h := h.2 b22 rfl
  refine jx_astore (lv1 := [(6, .ref b22), (0, .ref a0), (1, .ref a1), (2, .int x2), (3, .int x3), (4, .int x4), (5, .int x5)]) kd191.2.2.2.2.1 (by decide) rfl ?_
  refine jx_aload 0 kd191.2.2.2.2.2.1 rfl ?_
  refine jx_ifnull kd191.2.2.2.2.2.2.1 ?_
  refine jx_iload 5 kd191.2.2.2.2.2.2.2.1 rfl ?_
  refine jx_if_gt (tgt := 108) kd191.2.2.2.2.2.2.2.2.1 (by decide) (fun c23 => ?_) (fun c23 => ?_)
  · replace h := h.1 c23
    refine jx_aload_n 1 kd192.2.2.2.2.2.2.2.1 rfl rfl ?_
    refine jx_aload_n 2 kd192.2.2.2.2.2.2.2.2.1 rfl rfl ?_
    refine jx_iload_n 3 kd193.1 rfl rfl ?_
    refine jx_iload 6 kd193.2.1 rfl ?_
    refine jx_aload 0 kd193.2.2.1 rfl ?_
    obtain ⟨hk24, h⟩ := h
    refine jx_callVv (M' := mX5_tryMaster) (As := [.ref a1, .int x2, .int x5, .ref b22]) jo_X5_tryMaster jc_5 rfl jwM_X5_109 jwN_X5_tryMaster jwX_X5_tryMaster kd193.2.2.2.1 (jRok_m _ _ _) rfl (jle rfl) ⟨jle rfl, jle rfl⟩ hk24 h (fun S25 h => ?_)
    refine jx_iinc 6 (v := (x5 + 1)) (lv1 := [(5, .int (x5 + 1)), (6, .ref b22), (0, .ref a0), (1, .ref a1), (2, .int x2), (3, .int x3), (4, .int x4)]) kd193.2.2.2.2.1 rfl rfl (by decide) rfl ?_
    refine jx_goto (tgt := 63) kd193.2.2.2.2.2.1 (by decide) ?_
    exact jx_lv [2, 3, 4, 5, 6, 0] rfl h
  replace h := h.2 c23
  refine jx_iload_n 4 kd192.1 rfl rfl ?_
  refine jx_iconst (v := 1) kd192.2.1 (by decide) ?_
  refine jx_aload 0 kd192.2.2.1 rfl ?_
  obtain ⟨hk26, h⟩ := h
  refine jx_geti jc_2 (j := 2) (by decide) rfl jwF_X5_104 kd192.2.2.2.1 hk26 ?_
  refine jx_ishl kd192.2.2.2.2.1 ?_
  refine jx_iand kd192.2.2.2.2.2.1 ?_
  refine jx_if_eq (tgt := 118) kd192.2.2.2.2.2.2.1 (by decide) (fun c27 => ?_) (fun c27 => ?_)
  · replace h := h.1 c27
    refine jx_iinc 6 (v := (x5 + 1)) (lv1 := [(5, .int (x5 + 1)), (6, .ref b22), (0, .ref a0), (1, .ref a1), (2, .int x2), (3, .int x3), (4, .int x4)]) kd193.2.2.2.2.1 rfl rfl (by decide) rfl ?_
    refine jx_goto (tgt := 63) kd193.2.2.2.2.2.1 (by decide) ?_
    exact jx_lv [2, 3, 4, 5, 6, 0] rfl h
  replace h := h.2 c27
  refine jx_aload_n 1 kd192.2.2.2.2.2.2.2.1 rfl rfl ?_
  refine jx_aload_n 2 kd192.2.2.2.2.2.2.2.2.1 rfl rfl ?_
  refine jx_iload_n 3 kd193.1 rfl rfl ?_
  refine jx_iload 6 kd193.2.1 rfl ?_
  refine jx_aload 0 kd193.2.2.1 rfl ?_
  obtain ⟨hk28, h⟩ := h
  refine jx_callVv (M' := mX5_tryMaster) (As := [.ref a1, .int x2, .int x5, .ref b22]) jo_X5_tryMaster jc_5 rfl jwM_X5_109 jwN_X5_tryMaster jwX_X5_tryMaster kd193.2.2.2.1 (jRok_m _ _ _) rfl (jle rfl) ⟨jle rfl, jle rfl⟩ hk28 h (fun S29 h => ?_)
  refine jx_iinc 6 (v := (x5 + 1)) (lv1 := [(5, .int (x5 + 1)), (6, .ref b22), (0, .ref a0), (1, .ref a1), (2, .int x2), (3, .int x3), (4, .int x4)]) kd193.2.2.2.2.1 rfl rfl (by decide) rfl ?_
  refine jx_goto (tgt := 63) kd193.2.2.2.2.2.1 (by decide) ?_
  exact jx_lv [2, 3, 4, 5, 6, 0] rfl h
set_option maxRecDepth 100000 in
set_option maxHeartbeats 4000000 in
theorem T_X5_tryMaster {E : jEnv} {d : Nat} {Q : jM → Prop} {a0 : Nat} {a1 : Nat} {x2 : Int32} {x3 : Int32} {a4 : Nat} {S : jM} (h : jk S a4 = 2 ∧ ((jwi x2 5) = 0 → Q S) ∧ (¬ (jwi x2 5) = 0 → ((jwi (x2 + 1) 5) = 0 → Q S) ∧ (¬ (jwi (x2 + 1) 5) = 0 → ((jwi (ji S a4 2) 10) = 0 → Q S) ∧ (¬ (jwi (ji S a4 2) 10) = 0 → jk S a1 = 3 ∧ ∃ b15, jr S a1 1 = some b15 ∧ (jk S a0 = 5 ∧ ∃ b17, jr S a0 0 = some b17 ∧ (jk S b17 = 12 ∧ vp_in x2 (jl S b17) ∧ (jk S b15 = 4 ∧ jFi E mX4_fewest d 0 0 [.ref b15, .int (ji S b17 (Int32.toNatClampNeg x2)), .int (ji S a4 1)] S (fun r22 S21 => jk S21 a0 = 5 ∧ ∃ b24, jr S21 a0 2 = some b24 ∧ (jk S21 b24 = 12 ∧ vp_in x2 (jl S21 b24) ∧ (jk S21 a1 = 3 ∧ ∃ b28, jr S21 a1 2 = some b28 ∧ (jk S21 b28 = 1 ∧ (r22 = 0 → ∃ b103, jr S21 a0 1 = some b103 ∧ (jk S21 b103 = 12 ∧ vp_in x2 (jl S21 b103) ∧ (∃ b106, jr S21 a0 3 = some b106 ∧ (jk S21 b106 = 12 ∧ vp_in x2 (jl S21 b106) ∧ (jk S21 a4 = 2 ∧ ((ji S21 a4 6) = 0 → (r22 = 9999 → Q S21) ∧ (¬ r22 = 9999 → ((ji S21 b28 2) < ((ji S21 b106 (Int32.toNatClampNeg x2)) + (ji S21 a4 4)) → Q S21) ∧ (¬ (ji S21 b28 2) < ((ji S21 b106 (Int32.toNatClampNeg x2)) + (ji S21 a4 4)) → (((ji S21 b103 (Int32.toNatClampNeg x2)) &&& (jshl 1 (ji S a4 2))) = 0 → jFi E mX2_teaches d 0 0 [.ref a4, .int (ji S21 b103 (Int32.toNatClampNeg x2))] S21 (fun r115 S114 => (r115 = 0 → Q S114) ∧ (¬ r115 = 0 → jk S114 a0 = 5 ∧ jFi E mX5_daysTaken d 0 0 [.ref a0, .ref a1, .int x3, .ref a4, .int (jbc (ji S21 b103 (Int32.toNatClampNeg x2)))] S114 (fun r122 S121 => jk S121 a0 = 5 ∧ ((((ji S21 b24 (Int32.toNatClampNeg x2)) + r22) + r122) ≤ (ji S121 a0 9) → ∃ b125, jr S121 a0 0 = some b125 ∧ (jk S121 a4 = 2 ∧ jk S121 b125 = 12 ∧ vp_in (x2 + 1) (jl S121 b125) ∧ (∃ b129, jr S121 a0 1 = some b129 ∧ (jFi E mX5_keptOf d 0 0 [.ref a0, .int (ji S21 b103 (Int32.toNatClampNeg x2)), .int (((ji S21 b24 (Int32.toNatClampNeg x2)) + r22) + r122), .int (ji S21 b28 3)] (jput S121 b125 (Int32.toNatClampNeg (x2 + 1)) (ji S121 a4 1)) (fun r131 S130 => jk S130 a4 = 2 ∧ jFi E mX2_unlearnt d 0 0 [.ref a4] S130 (fun r134 S133 => jk S133 b129 = 12 ∧ vp_in (x2 + 1) (jl S133 b129) ∧ (jk S133 a0 = 5 ∧ ∃ b138, jr S133 a0 2 = some b138 ∧ (jk S133 b138 = 12 ∧ vp_in (x2 + 1) (jl S133 b138) ∧ (∃ b141, jr S133 a0 3 = some b141 ∧ (jk S133 b141 = 12 ∧ vp_in (x2 + 1) (jl S133 b141) ∧ (∃ b144, jr S133 a0 4 = some b144 ∧ ((x2 = 0 → jk S133 b144 = 12 ∧ vp_in (x2 + 1) (jl S133 b144) ∧ (∃ b160, jr S133 a0 5 = some b160 ∧ (jk S133 b160 = 12 ∧ vp_in (ji S a4 2) (jl S133 b160) ∧ (∀ y163 : Int32, y163 = (ji (jput (jput (jput (jput S133 b129 (Int32.toNatClampNeg (x2 + 1)) ((r131 &&& (r134 ^^^ (-1))) ||| (jshl 1 (ji S a4 2)))) b138 (Int32.toNatClampNeg (x2 + 1)) (((ji S21 b24 (Int32.toNatClampNeg x2)) + r22) + r122)) b141 (Int32.toNatClampNeg (x2 + 1)) ((ji S21 b106 (Int32.toNatClampNeg x2)) + (ji S21 a4 4))) b144 (Int32.toNatClampNeg (x2 + 1)) x3) b160 (Int32.toNatClampNeg (ji S a4 2))) → (jFv E mX5_goOn d 0 0 [.ref a0, .ref a1, .int (x2 + 1)] (jput (jput (jput (jput (jput S133 b129 (Int32.toNatClampNeg (x2 + 1)) ((r131 &&& (r134 ^^^ (-1))) ||| (jshl 1 (ji S a4 2)))) b138 (Int32.toNatClampNeg (x2 + 1)) (((ji S21 b24 (Int32.toNatClampNeg x2)) + r22) + r122)) b141 (Int32.toNatClampNeg (x2 + 1)) ((ji S21 b106 (Int32.toNatClampNeg x2)) + (ji S21 a4 4))) b144 (Int32.toNatClampNeg (x2 + 1)) x3) b160 (Int32.toNatClampNeg (ji S a4 2)) (((ji S21 b24 (Int32.toNatClampNeg x2)) + r22) + r122)) (fun S164 => jk S164 a0 = 5 ∧ ∃ b166, jr S164 a0 5 = some b166 ∧ (jk S164 b166 = 12 ∧ vp_in (ji S a4 2) (jl S164 b166) ∧ (Q (jput S164 b166 (Int32.toNatClampNeg (ji S a4 2)) y163))))))))) ∧ (¬ x2 = 0 → jk S133 b144 = 12 ∧ vp_in x2 (jl S133 b144) ∧ (vp_in (x2 + 1) (jl S133 b144) ∧ (∃ b149, jr S133 a0 5 = some b149 ∧ (jk S133 b149 = 12 ∧ vp_in (ji S a4 2) (jl S133 b149) ∧ (∀ y152 : Int32, y152 = (ji (jput (jput (jput (jput S133 b129 (Int32.toNatClampNeg (x2 + 1)) ((r131 &&& (r134 ^^^ (-1))) ||| (jshl 1 (ji S a4 2)))) b138 (Int32.toNatClampNeg (x2 + 1)) (((ji S21 b24 (Int32.toNatClampNeg x2)) + r22) + r122)) b141 (Int32.toNatClampNeg (x2 + 1)) ((ji S21 b106 (Int32.toNatClampNeg x2)) + (ji S21 a4 4))) b144 (Int32.toNatClampNeg (x2 + 1)) (ji (jput (jput (jput S133 b129 (Int32.toNatClampNeg (x2 + 1)) ((r131 &&& (r134 ^^^ (-1))) ||| (jshl 1 (ji S a4 2)))) b138 (Int32.toNatClampNeg (x2 + 1)) (((ji S21 b24 (Int32.toNatClampNeg x2)) + r22) + r122)) b141 (Int32.toNatClampNeg (x2 + 1)) ((ji S21 b106 (Int32.toNatClampNeg x2)) + (ji S21 a4 4))) b144 (Int32.toNatClampNeg x2))) b149 (Int32.toNatClampNeg (ji S a4 2))) → (jFv E mX5_goOn d 0 0 [.ref a0, .ref a1, .int (x2 + 1)] (jput (jput (jput (jput (jput S133 b129 (Int32.toNatClampNeg (x2 + 1)) ((r131 &&& (r134 ^^^ (-1))) ||| (jshl 1 (ji S a4 2)))) b138 (Int32.toNatClampNeg (x2 + 1)) (((ji S21 b24 (Int32.toNatClampNeg x2)) + r22) + r122)) b141 (Int32.toNatClampNeg (x2 + 1)) ((ji S21 b106 (Int32.toNatClampNeg x2)) + (ji S21 a4 4))) b144 (Int32.toNatClampNeg (x2 + 1)) (ji (jput (jput (jput S133 b129 (Int32.toNatClampNeg (x2 + 1)) ((r131 &&& (r134 ^^^ (-1))) ||| (jshl 1 (ji S a4 2)))) b138 (Int32.toNatClampNeg (x2 + 1)) (((ji S21 b24 (Int32.toNatClampNeg x2)) + r22) + r122)) b141 (Int32.toNatClampNeg (x2 + 1)) ((ji S21 b106 (Int32.toNatClampNeg x2)) + (ji S21 a4 4))) b144 (Int32.toNatClampNeg x2))) b149 (Int32.toNatClampNeg (ji S a4 2)) (((ji S21 b24 (Int32.toNatClampNeg x2)) + r22) + r122)) (fun S153 => jk S153 a0 = 5 ∧ ∃ b155, jr S153 a0 5 = some b155 ∧ (jk S153 b155 = 12 ∧ vp_in (ji S a4 2) (jl S153 b155) ∧ (Q (jput S153 b155 (Int32.toNatClampNeg (ji S a4 2)) y152)))))))))))))))))))))) ∧ (¬ (((ji S21 b24 (Int32.toNatClampNeg x2)) + r22) + r122) ≤ (ji S121 a0 9) → Q S121))))) ∧ (¬ ((ji S21 b103 (Int32.toNatClampNeg x2)) &&& (jshl 1 (ji S a4 2))) = 0 → Q S21)))) ∧ (¬ (ji S21 a4 6) = 0 → Q S21)))))) ∧ (¬ r22 = 0 → ∃ b31, jr S21 a0 1 = some b31 ∧ (jk S21 b31 = 12 ∧ vp_in x2 (jl S21 b31) ∧ (jFi E mX5_keptOf d 0 0 [.ref a0, .int (ji S21 b31 (Int32.toNatClampNeg x2)), .int ((ji S21 b24 (Int32.toNatClampNeg x2)) + r22), .int (ji S21 b28 3)] S21 (fun r35 S34 => jk S34 a0 = 5 ∧ ∃ b37, jr S34 a0 3 = some b37 ∧ (jk S34 b37 = 12 ∧ vp_in x2 (jl S34 b37) ∧ (jk S34 a4 = 2 ∧ ((ji S34 a4 6) = 0 → (r22 = 9999 → Q S34) ∧ (¬ r22 = 9999 → jk S34 a1 = 3 ∧ ∃ b44, jr S34 a1 2 = some b44 ∧ (jk S34 b44 = 1 ∧ ((ji S34 b44 2) < ((ji S34 b37 (Int32.toNatClampNeg x2)) + (ji S34 a4 4)) → Q S34) ∧ (¬ (ji S34 b44 2) < ((ji S34 b37 (Int32.toNatClampNeg x2)) + (ji S34 a4 4)) → ((r35 &&& (jshl 1 (ji S a4 2))) = 0 → jFi E mX2_teaches d 0 0 [.ref a4, .int r35] S34 (fun r49 S48 => (r49 = 0 → Q S48) ∧ (¬ r49 = 0 → jk S48 a0 = 5 ∧ jFi E mX5_daysTaken d 0 0 [.ref a0, .ref a1, .int x3, .ref a4, .int (jbc r35)] S48 (fun r56 S55 => jk S55 a0 = 5 ∧ ((((ji S21 b24 (Int32.toNatClampNeg x2)) + r22) + r56) ≤ (ji S55 a0 9) → ∃ b59, jr S55 a0 0 = some b59 ∧ (jk S55 a4 = 2 ∧ jk S55 b59 = 12 ∧ vp_in (x2 + 1) (jl S55 b59) ∧ (∃ b63, jr S55 a0 1 = some b63 ∧ (jFi E mX5_keptOf d 0 0 [.ref a0, .int r35, .int (((ji S21 b24 (Int32.toNatClampNeg x2)) + r22) + r56), .int (ji S21 b28 3)] (jput S55 b59 (Int32.toNatClampNeg (x2 + 1)) (ji S55 a4 1)) (fun r65 S64 => jk S64 a4 = 2 ∧ jFi E mX2_unlearnt d 0 0 [.ref a4] S64 (fun r68 S67 => jk S67 b63 = 12 ∧ vp_in (x2 + 1) (jl S67 b63) ∧ (jk S67 a0 = 5 ∧ ∃ b72, jr S67 a0 2 = some b72 ∧ (jk S67 b72 = 12 ∧ vp_in (x2 + 1) (jl S67 b72) ∧ (∃ b75, jr S67 a0 3 = some b75 ∧ (jk S67 b75 = 12 ∧ vp_in (x2 + 1) (jl S67 b75) ∧ (∃ b78, jr S67 a0 4 = some b78 ∧ ((x2 = 0 → jk S67 b78 = 12 ∧ vp_in (x2 + 1) (jl S67 b78) ∧ (∃ b94, jr S67 a0 5 = some b94 ∧ (jk S67 b94 = 12 ∧ vp_in (ji S a4 2) (jl S67 b94) ∧ (∀ y97 : Int32, y97 = (ji (jput (jput (jput (jput S67 b63 (Int32.toNatClampNeg (x2 + 1)) ((r65 &&& (r68 ^^^ (-1))) ||| (jshl 1 (ji S a4 2)))) b72 (Int32.toNatClampNeg (x2 + 1)) (((ji S21 b24 (Int32.toNatClampNeg x2)) + r22) + r56)) b75 (Int32.toNatClampNeg (x2 + 1)) ((ji S34 b37 (Int32.toNatClampNeg x2)) + (ji S34 a4 4))) b78 (Int32.toNatClampNeg (x2 + 1)) x3) b94 (Int32.toNatClampNeg (ji S a4 2))) → (jFv E mX5_goOn d 0 0 [.ref a0, .ref a1, .int (x2 + 1)] (jput (jput (jput (jput (jput S67 b63 (Int32.toNatClampNeg (x2 + 1)) ((r65 &&& (r68 ^^^ (-1))) ||| (jshl 1 (ji S a4 2)))) b72 (Int32.toNatClampNeg (x2 + 1)) (((ji S21 b24 (Int32.toNatClampNeg x2)) + r22) + r56)) b75 (Int32.toNatClampNeg (x2 + 1)) ((ji S34 b37 (Int32.toNatClampNeg x2)) + (ji S34 a4 4))) b78 (Int32.toNatClampNeg (x2 + 1)) x3) b94 (Int32.toNatClampNeg (ji S a4 2)) (((ji S21 b24 (Int32.toNatClampNeg x2)) + r22) + r56)) (fun S98 => jk S98 a0 = 5 ∧ ∃ b100, jr S98 a0 5 = some b100 ∧ (jk S98 b100 = 12 ∧ vp_in (ji S a4 2) (jl S98 b100) ∧ (Q (jput S98 b100 (Int32.toNatClampNeg (ji S a4 2)) y97))))))))) ∧ (¬ x2 = 0 → jk S67 b78 = 12 ∧ vp_in x2 (jl S67 b78) ∧ (vp_in (x2 + 1) (jl S67 b78) ∧ (∃ b83, jr S67 a0 5 = some b83 ∧ (jk S67 b83 = 12 ∧ vp_in (ji S a4 2) (jl S67 b83) ∧ (∀ y86 : Int32, y86 = (ji (jput (jput (jput (jput S67 b63 (Int32.toNatClampNeg (x2 + 1)) ((r65 &&& (r68 ^^^ (-1))) ||| (jshl 1 (ji S a4 2)))) b72 (Int32.toNatClampNeg (x2 + 1)) (((ji S21 b24 (Int32.toNatClampNeg x2)) + r22) + r56)) b75 (Int32.toNatClampNeg (x2 + 1)) ((ji S34 b37 (Int32.toNatClampNeg x2)) + (ji S34 a4 4))) b78 (Int32.toNatClampNeg (x2 + 1)) (ji (jput (jput (jput S67 b63 (Int32.toNatClampNeg (x2 + 1)) ((r65 &&& (r68 ^^^ (-1))) ||| (jshl 1 (ji S a4 2)))) b72 (Int32.toNatClampNeg (x2 + 1)) (((ji S21 b24 (Int32.toNatClampNeg x2)) + r22) + r56)) b75 (Int32.toNatClampNeg (x2 + 1)) ((ji S34 b37 (Int32.toNatClampNeg x2)) + (ji S34 a4 4))) b78 (Int32.toNatClampNeg x2))) b83 (Int32.toNatClampNeg (ji S a4 2))) → (jFv E mX5_goOn d 0 0 [.ref a0, .ref a1, .int (x2 + 1)] (jput (jput (jput (jput (jput S67 b63 (Int32.toNatClampNeg (x2 + 1)) ((r65 &&& (r68 ^^^ (-1))) ||| (jshl 1 (ji S a4 2)))) b72 (Int32.toNatClampNeg (x2 + 1)) (((ji S21 b24 (Int32.toNatClampNeg x2)) + r22) + r56)) b75 (Int32.toNatClampNeg (x2 + 1)) ((ji S34 b37 (Int32.toNatClampNeg x2)) + (ji S34 a4 4))) b78 (Int32.toNatClampNeg (x2 + 1)) (ji (jput (jput (jput S67 b63 (Int32.toNatClampNeg (x2 + 1)) ((r65 &&& (r68 ^^^ (-1))) ||| (jshl 1 (ji S a4 2)))) b72 (Int32.toNatClampNeg (x2 + 1)) (((ji S21 b24 (Int32.toNatClampNeg x2)) + r22) + r56)) b75 (Int32.toNatClampNeg (x2 + 1)) ((ji S34 b37 (Int32.toNatClampNeg x2)) + (ji S34 a4 4))) b78 (Int32.toNatClampNeg x2))) b83 (Int32.toNatClampNeg (ji S a4 2)) (((ji S21 b24 (Int32.toNatClampNeg x2)) + r22) + r56)) (fun S87 => jk S87 a0 = 5 ∧ ∃ b89, jr S87 a0 5 = some b89 ∧ (jk S87 b89 = 12 ∧ vp_in (ji S a4 2) (jl S87 b89) ∧ (Q (jput S87 b89 (Int32.toNatClampNeg (ji S a4 2)) y86)))))))))))))))))))))) ∧ (¬ (((ji S21 b24 (Int32.toNatClampNeg x2)) + r22) + r56) ≤ (ji S55 a0 9) → Q S55))))) ∧ (¬ (r35 &&& (jshl 1 (ji S a4 2))) = 0 → Q S34))))) ∧ (¬ (ji S34 a4 6) = 0 → Q S34)))))))))))))))))) : jFv E mX5_tryMaster (d + 1) 0 0 [.ref a0, .ref a1, .int x2, .int x3, .ref a4] S Q := by
  refine jF_of (by decide) (jle rfl) ?_
  refine jx_lv (lv1 := [(0, .ref a0), (1, .ref a1), (2, .int x2), (3, .int x3), (4, .ref a4)]) [0, 1, 2, 3, 4] rfl ?_
  refine jx_iload_n 2 kd194.1 rfl rfl ?_
  refine jx_iconst (v := 1) kd194.2.1 (by decide) ?_
  refine jx_iadd kd194.2.2.1 ?_
  refine jx_istore (lv1 := [(5, .int (x2 + 1)), (0, .ref a0), (1, .ref a1), (2, .int x2), (3, .int x3), (4, .ref a4)]) kd194.2.2.2.1 (by decide) rfl ?_
  refine jx_aload 5 kd194.2.2.2.2.1 rfl ?_
  obtain ⟨hk1, h⟩ := h
  refine jx_geti jc_2 (j := 2) (by decide) rfl jwF_X5_104 kd194.2.2.2.2.2.1 hk1 ?_
  refine jx_istore (lv1 := [(6, .int (ji S a4 2)), (5, .int (x2 + 1)), (0, .ref a0), (1, .ref a1), (2, .int x2), (3, .int x3), (4, .ref a4)]) kd194.2.2.2.2.2.2.1 (by decide) rfl ?_
  refine jx_iload_n 4 kd194.2.2.2.2.2.2.2.1 rfl rfl ?_
  refine jx_iconst (v := 5) kd194.2.2.2.2.2.2.2.2.1 (by decide) ?_
  refine jx_callSNi (M' := mX10_within) (As := [.int x2, .int 5]) (host := "NineMasters") jo_X10_within (by decide) jwS_X10_within kd195.1 (jRok_m _ _ _) rfl (jle rfl) ⟨jle rfl, jle rfl⟩ (c_X10_within (Q := fun v S' => v = (jwi x2 5) ∧ S = S') ⟨rfl, rfl⟩) (fun r2 S3 hq4 => ?_)
  obtain ⟨rfl, rfl⟩ := hq4
  refine jx_if_eq (tgt := 39) kd195.2.1 (by decide) (fun c5 => ?_) (fun c5 => ?_)
  · replace h := h.1 c5
    exact jx_vret kd196.2.1 rfl (jle rfl) (jle rfl) ⟨rfl, h⟩
  replace h := h.2 c5
  refine jx_iload 1 kd195.2.2.1 rfl ?_
  refine jx_iconst (v := 5) kd195.2.2.2.1 (by decide) ?_
  refine jx_callSNi (M' := mX10_within) (As := [.int (x2 + 1), .int 5]) (host := "NineMasters") jo_X10_within (by decide) jwS_X10_within kd195.2.2.2.2.1 (jRok_m _ _ _) rfl (jle rfl) ⟨jle rfl, jle rfl⟩ (c_X10_within (Q := fun v S' => v = (jwi (x2 + 1) 5) ∧ S = S') ⟨rfl, rfl⟩) (fun r6 S7 hq8 => ?_)
  obtain ⟨rfl, rfl⟩ := hq8
  refine jx_if_eq (tgt := 39) kd195.2.2.2.2.2.1 (by decide) (fun c9 => ?_) (fun c9 => ?_)
  · replace h := h.1 c9
    exact jx_vret kd196.2.1 rfl (jle rfl) (jle rfl) ⟨rfl, h⟩
  replace h := h.2 c9
  refine jx_iload 0 kd195.2.2.2.2.2.2.1 rfl ?_
  refine jx_bipush (v := 10) kd195.2.2.2.2.2.2.2.1 (by decide) ?_
  refine jx_callSNi (M' := mX10_within) (As := [.int (ji S a4 2), .int 10]) (host := "NineMasters") jo_X10_within (by decide) jwS_X10_within kd195.2.2.2.2.2.2.2.2.1 (jRok_m _ _ _) rfl (jle rfl) ⟨jle rfl, jle rfl⟩ (c_X10_within (Q := fun v S' => v = (jwi (ji S a4 2) 10) ∧ S = S') ⟨rfl, rfl⟩) (fun r10 S11 hq12 => ?_)
  obtain ⟨rfl, rfl⟩ := hq12
  refine jx_if_ne (tgt := 40) kd196.1 (by decide) (fun c13 => ?_) (fun c13 => ?_)
  · replace h := h.2 c13
    refine jx_aload_n 3 kd196.2.2.1 rfl rfl ?_
    obtain ⟨hk14, h⟩ := h
    obtain ⟨b15, hb15, h⟩ := h
    refine jx_getr jc_3 (j := 1) (by decide) rfl jwF_X5_113 kd196.2.2.2.1 hk14 hb15 ?_
    refine jx_aload_n 2 kd196.2.2.2.2.1 rfl rfl ?_
    obtain ⟨hk16, h⟩ := h
    obtain ⟨b17, hb17, h⟩ := h
    refine jx_getr jc_5 (j := 0) (by decide) rfl jwF_X5_11 kd196.2.2.2.2.2.1 hk16 hb17 ?_
    refine jx_iload_n 4 kd196.2.2.2.2.2.2.1 rfl rfl ?_
    obtain ⟨hk18, h⟩ := h
    obtain ⟨hi19, h⟩ := h
    refine jx_iald kd196.2.2.2.2.2.2.2.1 hk18 hi19 ?_
    refine jx_aload 6 kd196.2.2.2.2.2.2.2.2.1 rfl ?_
    refine jx_geti jc_2 (j := 1) (by decide) rfl jwF_X5_117 kd197.1 hk1 ?_
    obtain ⟨hk20, h⟩ := h
    refine jx_callVi (M' := mX4_fewest) (As := [.int (ji S b17 (Int32.toNatClampNeg x2)), .int (ji S a4 1)]) jo_X4_fewest jc_4 rfl jwM_X5_119 jwN_X4_fewest jwX_X4_fewest kd197.2.1 (jRok_m _ _ _) rfl (jle rfl) ⟨jle rfl, jle rfl⟩ hk20 h (fun r22 S21 h => ?_)
    refine jx_istore (lv1 := [(7, .int r22), (6, .int (ji S a4 2)), (5, .int (x2 + 1)), (0, .ref a0), (1, .ref a1), (2, .int x2), (3, .int x3), (4, .ref a4)]) kd197.2.2.1 (by decide) rfl ?_
    refine jx_aload_n 3 kd197.2.2.2.1 rfl rfl ?_
    obtain ⟨hk23, h⟩ := h
    obtain ⟨b24, hb24, h⟩ := h
    refine jx_getr jc_5 (j := 2) (by decide) rfl jwF_X5_18 kd197.2.2.2.2.1 hk23 hb24 ?_
    refine jx_iload_n 5 kd197.2.2.2.2.2.1 rfl rfl ?_
    obtain ⟨hk25, h⟩ := h
    obtain ⟨hi26, h⟩ := h
    refine jx_iald kd197.2.2.2.2.2.2.1 hk25 hi26 ?_
    refine jx_iload 0 kd197.2.2.2.2.2.2.2.1 rfl ?_
    refine jx_iadd kd197.2.2.2.2.2.2.2.2.1 ?_
    refine jx_istore (lv1 := [(8, .int ((ji S21 b24 (Int32.toNatClampNeg x2)) + r22)), (7, .int r22), (6, .int (ji S a4 2)), (5, .int (x2 + 1)), (0, .ref a0), (1, .ref a1), (2, .int x2), (3, .int x3), (4, .ref a4)]) kd198.1 (by decide) rfl ?_
    refine jx_aload_n 5 kd198.2.1 rfl rfl ?_
    obtain ⟨hk27, h⟩ := h
    obtain ⟨b28, hb28, h⟩ := h
    refine jx_getr jc_3 (j := 2) (by decide) rfl jwF_X5_64 kd198.2.2.1 hk27 hb28 ?_
    obtain ⟨hk29, h⟩ := h
    refine jx_geti jc_1 (j := 3) (by decide) rfl jwF_X5_125 kd198.2.2.2.1 hk29 ?_
    refine jx_istore (lv1 := [(9, .int (ji S21 b28 3)), (8, .int ((ji S21 b24 (Int32.toNatClampNeg x2)) + r22)), (7, .int r22), (6, .int (ji S a4 2)), (5, .int (x2 + 1)), (0, .ref a0), (1, .ref a1), (2, .int x2), (3, .int x3), (4, .ref a4)]) kd198.2.2.2.2.1 (by decide) rfl ?_
    refine jx_iload 2 kd198.2.2.2.2.2.1 rfl ?_
    refine jx_if_ne (tgt := 94) kd198.2.2.2.2.2.2.1 (by decide) (fun c30 => ?_) (fun c30 => ?_)
    · replace h := h.2 c30
      refine jx_aload_n 5 kd199.2.2.2.1 rfl rfl ?_
      refine jx_aload_n 5 kd199.2.2.2.2.1 rfl rfl ?_
      obtain ⟨b31, hb31, h⟩ := h
      refine jx_getr jc_5 (j := 1) (by decide) rfl jwF_X5_15 kd199.2.2.2.2.2.1 hk23 hb31 ?_
      refine jx_iload_n 7 kd199.2.2.2.2.2.2.1 rfl rfl ?_
      obtain ⟨hk32, h⟩ := h
      obtain ⟨hi33, h⟩ := h
      refine jx_iald kd199.2.2.2.2.2.2.2.1 hk32 hi33 ?_
      refine jx_iload 1 kd199.2.2.2.2.2.2.2.2.1 rfl ?_
      refine jx_iload 0 kd200.1 rfl ?_
      refine jx_callVi (M' := mX5_keptOf) (As := [.int (ji S21 b31 (Int32.toNatClampNeg x2)), .int ((ji S21 b24 (Int32.toNatClampNeg x2)) + r22), .int (ji S21 b28 3)]) jo_X5_keptOf jc_5 rfl jwM_X5_128 jwN_X5_keptOf jwX_X5_keptOf kd200.2.1 (jRok_m _ _ _) rfl (jle rfl) ⟨jle rfl, jle rfl⟩ hk23 h (fun r35 S34 h => ?_)
      refine jx_istore (lv1 := [(10, .int r35), (9, .int (ji S21 b28 3)), (8, .int ((ji S21 b24 (Int32.toNatClampNeg x2)) + r22)), (7, .int r22), (6, .int (ji S a4 2)), (5, .int (x2 + 1)), (0, .ref a0), (1, .ref a1), (2, .int x2), (3, .int x3), (4, .ref a4)]) kd200.2.2.1 (by decide) rfl ?_
      refine jx_aload_n 6 kd200.2.2.2.1 rfl rfl ?_
      obtain ⟨hk36, h⟩ := h
      obtain ⟨b37, hb37, h⟩ := h
      refine jx_getr jc_5 (j := 3) (by decide) rfl jwF_X5_21 kd200.2.2.2.2.1 hk36 hb37 ?_
      refine jx_iload_n 8 kd200.2.2.2.2.2.1 rfl rfl ?_
      obtain ⟨hk38, h⟩ := h
      obtain ⟨hi39, h⟩ := h
      refine jx_iald kd200.2.2.2.2.2.2.1 hk38 hi39 ?_
      refine jx_aload 10 kd200.2.2.2.2.2.2.2.1 rfl ?_
      obtain ⟨hk40, h⟩ := h
      refine jx_geti jc_2 (j := 4) (by decide) rfl jwF_X5_132 kd200.2.2.2.2.2.2.2.2.1 hk40 ?_
      refine jx_iadd kd201.1 ?_
      refine jx_istore (lv1 := [(11, .int ((ji S34 b37 (Int32.toNatClampNeg x2)) + (ji S34 a4 4))), (10, .int r35), (9, .int (ji S21 b28 3)), (8, .int ((ji S21 b24 (Int32.toNatClampNeg x2)) + r22)), (7, .int r22), (6, .int (ji S a4 2)), (5, .int (x2 + 1)), (0, .ref a0), (1, .ref a1), (2, .int x2), (3, .int x3), (4, .ref a4)]) kd201.2.1 (by decide) rfl ?_
      refine jx_aload 11 kd201.2.2.1 rfl ?_
      refine jx_geti jc_2 (j := 6) (by decide) rfl jwF_X5_135 kd201.2.2.2.1 hk40 ?_
      refine jx_if_ne (tgt := 172) kd201.2.2.2.2.1 (by decide) (fun c41 => ?_) (fun c41 => ?_)
      · replace h := h.2 c41
        exact jx_vret kd203.2.2.2.2.2.1 rfl (jle rfl) (jle rfl) ⟨rfl, h⟩
      replace h := h.1 c41
      refine jx_iload 4 kd201.2.2.2.2.2.1 rfl ?_
      refine jx_sipush (v := 9999) kd201.2.2.2.2.2.2.1 (by decide) ?_
      refine jx_icmp_eq (tgt := 172) kd201.2.2.2.2.2.2.2.1 (by decide) (fun c42 => ?_) (fun c42 => ?_)
      · replace h := h.1 c42
        exact jx_vret kd203.2.2.2.2.2.1 rfl (jle rfl) (jle rfl) ⟨rfl, h⟩
      replace h := h.2 c42
      refine jx_iload 0 kd201.2.2.2.2.2.2.2.2.1 rfl ?_
      refine jx_aload_n 8 kd202.1 rfl rfl ?_
      obtain ⟨hk43, h⟩ := h
      obtain ⟨b44, hb44, h⟩ := h
      refine jx_getr jc_3 (j := 2) (by decide) rfl jwF_X5_64 kd202.2.1 hk43 hb44 ?_
      obtain ⟨hk45, h⟩ := h
      refine jx_geti jc_1 (j := 2) (by decide) rfl jwF_X5_139 kd202.2.2.1 hk45 ?_
      refine jx_icmp_gt (tgt := 172) kd202.2.2.2.1 (by decide) (fun c46 => ?_) (fun c46 => ?_)
      · replace h := h.1 c46
        exact jx_vret kd203.2.2.2.2.2.1 rfl (jle rfl) (jle rfl) ⟨rfl, h⟩
      replace h := h.2 c46
      refine jx_iload 1 kd202.2.2.2.2.1 rfl ?_
      refine jx_iconst (v := 1) kd202.2.2.2.2.2.1 (by decide) ?_
      refine jx_iload 5 kd202.2.2.2.2.2.2.1 rfl ?_
      refine jx_ishl kd202.2.2.2.2.2.2.2.1 ?_
      refine jx_iand kd202.2.2.2.2.2.2.2.2.1 ?_
      refine jx_if_ne (tgt := 172) kd203.1 (by decide) (fun c47 => ?_) (fun c47 => ?_)
      · replace h := h.2 c47
        exact jx_vret kd203.2.2.2.2.2.1 rfl (jle rfl) (jle rfl) ⟨rfl, h⟩
      replace h := h.1 c47
      refine jx_aload 11 kd203.2.1 rfl ?_
      refine jx_iload 1 kd203.2.2.1 rfl ?_
      refine jx_callVi (M' := mX2_teaches) (As := [.int r35]) jo_X2_teaches jc_2 rfl jwM_X5_142 jwN_X2_teaches jwX_X2_teaches kd203.2.2.2.1 (jRok_m _ _ _) rfl (jle rfl) ⟨jle rfl, jle rfl⟩ hk40 h (fun r49 S48 h => ?_)
      refine jx_if_ne (tgt := 173) kd203.2.2.2.2.1 (by decide) (fun c50 => ?_) (fun c50 => ?_)
      · replace h := h.2 c50
        refine jx_iload 3 kd203.2.2.2.2.2.2.1 rfl ?_
        refine jx_aload_n 7 kd203.2.2.2.2.2.2.2.1 rfl rfl ?_
        refine jx_aload_n 8 kd203.2.2.2.2.2.2.2.2.1 rfl rfl ?_
        refine jx_iload_n 10 kd204.1 rfl rfl ?_
        refine jx_aload 11 kd204.2.1 rfl ?_
        refine jx_iload 1 kd204.2.2.1 rfl ?_
        refine jx_callSi (M' := mJ6_bitCount_0f7a4) (As := [.int r35]) jo_J6_bitCount_0f7a4 jwM_X5_91 jwS_J6_bitCount_0f7a4 kd204.2.2.2.1 (jRok_m _ _ _) rfl (jle rfl) ⟨jle rfl, jle rfl⟩ (c_J6_bitCount_0f7a4 (Q := fun v S' => v = (jbc r35) ∧ S48 = S') ⟨rfl, rfl⟩) (fun r51 S52 hq53 => ?_)
        obtain ⟨rfl, rfl⟩ := hq53
        obtain ⟨hk54, h⟩ := h
        refine jx_callVi (M' := mX5_daysTaken) (As := [.ref a1, .int x3, .ref a4, .int (jbc r35)]) jo_X5_daysTaken jc_5 rfl jwM_X5_146 jwN_X5_daysTaken jwX_X5_daysTaken kd204.2.2.2.2.1 (jRok_m _ _ _) rfl (jle rfl) ⟨jle rfl, jle rfl⟩ hk54 h (fun r56 S55 h => ?_)
        refine jx_iadd kd204.2.2.2.2.2.1 ?_
        refine jx_istore (lv1 := [(12, .int (((ji S21 b24 (Int32.toNatClampNeg x2)) + r22) + r56)), (11, .int ((ji S34 b37 (Int32.toNatClampNeg x2)) + (ji S34 a4 4))), (10, .int r35), (9, .int (ji S21 b28 3)), (8, .int ((ji S21 b24 (Int32.toNatClampNeg x2)) + r22)), (7, .int r22), (6, .int (ji S a4 2)), (5, .int (x2 + 1)), (0, .ref a0), (1, .ref a1), (2, .int x2), (3, .int x3), (4, .ref a4)]) kd204.2.2.2.2.2.2.1 (by decide) rfl ?_
        refine jx_iload 0 kd204.2.2.2.2.2.2.2.1 rfl ?_
        refine jx_aload_n 8 kd204.2.2.2.2.2.2.2.2.1 rfl rfl ?_
        obtain ⟨hk57, h⟩ := h
        refine jx_geti jc_5 (j := 9) (by decide) rfl jwF_X5_34 kd205.1 hk57 ?_
        refine jx_icmp_le (tgt := 201) kd205.2.1 (by decide) (fun c58 => ?_) (fun c58 => ?_)
        · replace h := h.1 c58
          refine jx_aload_n 8 kd205.2.2.2.1 rfl rfl ?_
          obtain ⟨b59, hb59, h⟩ := h
          refine jx_getr jc_5 (j := 0) (by decide) rfl jwF_X5_11 kd205.2.2.2.2.1 hk57 hb59 ?_
          refine jx_iload 7 kd205.2.2.2.2.2.1 rfl ?_
          refine jx_aload 12 kd205.2.2.2.2.2.2.1 rfl ?_
          obtain ⟨hk60, h⟩ := h
          refine jx_geti jc_2 (j := 1) (by decide) rfl jwF_X5_117 kd205.2.2.2.2.2.2.2.1 hk60 ?_
          obtain ⟨hk61, h⟩ := h
          obtain ⟨hi62, h⟩ := h
          refine jx_iast kd205.2.2.2.2.2.2.2.2.1 hk61 hi62 ?_
          refine jx_aload_n 8 kd206.1 rfl rfl ?_
          obtain ⟨b63, hb63, h⟩ := h
          refine jx_getr jc_5 (j := 1) (by decide) rfl jwF_X5_15 kd206.2.1 hk57 hb63 ?_
          refine jx_iload 7 kd206.2.2.1 rfl ?_
          refine jx_aload_n 8 kd206.2.2.2.1 rfl rfl ?_
          refine jx_iload 2 kd206.2.2.2.2.1 rfl ?_
          refine jx_iload 0 kd206.2.2.2.2.2.1 rfl ?_
          refine jx_iload 3 kd206.2.2.2.2.2.2.1 rfl ?_
          refine jx_callVi (M' := mX5_keptOf) (As := [.int r35, .int (((ji S21 b24 (Int32.toNatClampNeg x2)) + r22) + r56), .int (ji S21 b28 3)]) jo_X5_keptOf jc_5 rfl jwM_X5_128 jwN_X5_keptOf jwX_X5_keptOf kd206.2.2.2.2.2.2.2.1 (jRok_m _ _ _) rfl (jle rfl) ⟨jle rfl, jle rfl⟩ hk57 h (fun r65 S64 h => ?_)
          refine jx_aload 12 kd206.2.2.2.2.2.2.2.2.1 rfl ?_
          obtain ⟨hk66, h⟩ := h
          refine jx_callVi (M' := mX2_unlearnt) (As := []) jo_X2_unlearnt jc_2 rfl jwM_X5_150 jwN_X2_unlearnt jwX_X2_unlearnt kd207.1 (jRok_m _ _ _) rfl (jle rfl) ⟨jle rfl, jle rfl⟩ hk66 h (fun r68 S67 h => ?_)
          refine jx_iconst (v := (-1)) kd207.2.1 (by decide) ?_
          refine jx_ixor kd207.2.2.1 ?_
          refine jx_iand kd207.2.2.2.1 ?_
          refine jx_iconst (v := 1) kd207.2.2.2.2.1 (by decide) ?_
          refine jx_iload 6 kd207.2.2.2.2.2.1 rfl ?_
          refine jx_ishl kd207.2.2.2.2.2.2.1 ?_
          refine jx_ior kd207.2.2.2.2.2.2.2.1 ?_
          obtain ⟨hk69, h⟩ := h
          obtain ⟨hi70, h⟩ := h
          refine jx_iast kd207.2.2.2.2.2.2.2.2.1 hk69 hi70 ?_
          refine jx_aload_n 8 kd208.1 rfl rfl ?_
          obtain ⟨hk71, h⟩ := h
          obtain ⟨b72, hb72, h⟩ := h
          refine jx_getr jc_5 (j := 2) (by decide) rfl jwF_X5_18 kd208.2.1 hk71 hb72 ?_
          refine jx_iload 7 kd208.2.2.1 rfl ?_
          refine jx_iload 0 kd208.2.2.2.1 rfl ?_
          obtain ⟨hk73, h⟩ := h
          obtain ⟨hi74, h⟩ := h
          refine jx_iast kd208.2.2.2.2.1 hk73 hi74 ?_
          refine jx_aload_n 8 kd208.2.2.2.2.2.1 rfl rfl ?_
          obtain ⟨b75, hb75, h⟩ := h
          refine jx_getr jc_5 (j := 3) (by decide) rfl jwF_X5_21 kd208.2.2.2.2.2.2.1 hk71 hb75 ?_
          refine jx_iload 7 kd208.2.2.2.2.2.2.2.1 rfl ?_
          refine jx_iload 1 kd208.2.2.2.2.2.2.2.2.1 rfl ?_
          obtain ⟨hk76, h⟩ := h
          obtain ⟨hi77, h⟩ := h
          refine jx_iast kd209.1 hk76 hi77 ?_
          refine jx_aload_n 8 kd209.2.1 rfl rfl ?_
          obtain ⟨b78, hb78, h⟩ := h
          refine jx_getr jc_5 (j := 4) (by decide) rfl jwF_X5_24 kd209.2.2.1 hk71 hb78 ?_
          refine jx_iload 7 kd209.2.2.2.1 rfl ?_
          refine jx_iload_n 10 kd209.2.2.2.2.1 rfl rfl ?_
          refine jx_if_ne (tgt := 275) kd209.2.2.2.2.2.1 (by decide) (fun c79 => ?_) (fun c79 => ?_)
          · replace h := h.2 c79
            refine jx_aload_n 8 kd209.2.2.2.2.2.2.2.2.1 rfl rfl ?_
            refine jx_getr jc_5 (j := 4) (by decide) rfl jwF_X5_24 kd210.1 hk71 hb78 ?_
            refine jx_iload_n 10 kd210.2.1 rfl rfl ?_
            obtain ⟨hk80, h⟩ := h
            obtain ⟨hi81, h⟩ := h
            refine jx_iald kd210.2.2.1 hk80 hi81 ?_
            obtain ⟨hi82, h⟩ := h
            refine jx_iast kd210.2.2.2.1 hk80 hi82 ?_
            refine jx_aload_n 8 kd210.2.2.2.2.1 rfl rfl ?_
            obtain ⟨b83, hb83, h⟩ := h
            refine jx_getr jc_5 (j := 5) (by decide) rfl jwF_X5_27 kd210.2.2.2.2.2.1 hk71 hb83 ?_
            refine jx_iload 6 kd210.2.2.2.2.2.2.1 rfl ?_
            obtain ⟨hk84, h⟩ := h
            obtain ⟨hi85, h⟩ := h
            refine jx_iald kd210.2.2.2.2.2.2.2.1 hk84 hi85 ?_
            refine jx_nm (fun y86 ey86 => ?_)
            replace h := h y86 ey86
            refine jx_istore (lv1 := [(13, .int y86), (12, .int (((ji S21 b24 (Int32.toNatClampNeg x2)) + r22) + r56)), (11, .int ((ji S34 b37 (Int32.toNatClampNeg x2)) + (ji S34 a4 4))), (10, .int r35), (9, .int (ji S21 b28 3)), (8, .int ((ji S21 b24 (Int32.toNatClampNeg x2)) + r22)), (7, .int r22), (6, .int (ji S a4 2)), (5, .int (x2 + 1)), (0, .ref a0), (1, .ref a1), (2, .int x2), (3, .int x3), (4, .ref a4)]) kd210.2.2.2.2.2.2.2.2.1 (by decide) rfl ?_
            refine jx_aload_n 9 kd211.1 rfl rfl ?_
            refine jx_getr jc_5 (j := 5) (by decide) rfl jwF_X5_27 kd211.2.1 hk71 hb83 ?_
            refine jx_iload 7 kd211.2.2.1 rfl ?_
            refine jx_iload 1 kd211.2.2.2.1 rfl ?_
            refine jx_iast kd211.2.2.2.2.1 hk84 hi85 ?_
            refine jx_aload_n 9 kd211.2.2.2.2.2.1 rfl rfl ?_
            refine jx_aload_n 10 kd211.2.2.2.2.2.2.1 rfl rfl ?_
            refine jx_iload 8 kd211.2.2.2.2.2.2.2.1 rfl ?_
            refine jx_callVv (M' := mX5_goOn) (As := [.ref a1, .int (x2 + 1)]) jo_X5_goOn jc_5 rfl jwM_X5_79 jwN_X5_goOn jwX_X5_goOn kd211.2.2.2.2.2.2.2.2.1 (jRok_m _ _ _) rfl (jle rfl) ⟨jle rfl, jle rfl⟩ hk71 h (fun S87 h => ?_)
            refine jx_aload_n 9 kd212.1 rfl rfl ?_
            obtain ⟨hk88, h⟩ := h
            obtain ⟨b89, hb89, h⟩ := h
            refine jx_getr jc_5 (j := 5) (by decide) rfl jwF_X5_27 kd212.2.1 hk88 hb89 ?_
            refine jx_iload 7 kd212.2.2.1 rfl ?_
            refine jx_iload 0 kd212.2.2.2.1 rfl ?_
            obtain ⟨hk90, h⟩ := h
            obtain ⟨hi91, h⟩ := h
            refine jx_iast kd212.2.2.2.2.1 hk90 hi91 ?_
            exact jx_vret kd212.2.2.2.2.2.1 rfl (jle rfl) (jle rfl) ⟨rfl, h⟩
          replace h := h.1 c79
          refine jx_iload_n 11 kd209.2.2.2.2.2.2.1 rfl rfl ?_
          refine jx_goto (tgt := 281) kd209.2.2.2.2.2.2.2.1 (by decide) ?_
          obtain ⟨hk92, h⟩ := h
          obtain ⟨hi93, h⟩ := h
          refine jx_iast kd210.2.2.2.1 hk92 hi93 ?_
          refine jx_aload_n 8 kd210.2.2.2.2.1 rfl rfl ?_
          obtain ⟨b94, hb94, h⟩ := h
          refine jx_getr jc_5 (j := 5) (by decide) rfl jwF_X5_27 kd210.2.2.2.2.2.1 hk71 hb94 ?_
          refine jx_iload 6 kd210.2.2.2.2.2.2.1 rfl ?_
          obtain ⟨hk95, h⟩ := h
          obtain ⟨hi96, h⟩ := h
          refine jx_iald kd210.2.2.2.2.2.2.2.1 hk95 hi96 ?_
          refine jx_nm (fun y97 ey97 => ?_)
          replace h := h y97 ey97
          refine jx_istore (lv1 := [(13, .int y97), (12, .int (((ji S21 b24 (Int32.toNatClampNeg x2)) + r22) + r56)), (11, .int ((ji S34 b37 (Int32.toNatClampNeg x2)) + (ji S34 a4 4))), (10, .int r35), (9, .int (ji S21 b28 3)), (8, .int ((ji S21 b24 (Int32.toNatClampNeg x2)) + r22)), (7, .int r22), (6, .int (ji S a4 2)), (5, .int (x2 + 1)), (0, .ref a0), (1, .ref a1), (2, .int x2), (3, .int x3), (4, .ref a4)]) kd210.2.2.2.2.2.2.2.2.1 (by decide) rfl ?_
          refine jx_aload_n 9 kd211.1 rfl rfl ?_
          refine jx_getr jc_5 (j := 5) (by decide) rfl jwF_X5_27 kd211.2.1 hk71 hb94 ?_
          refine jx_iload 7 kd211.2.2.1 rfl ?_
          refine jx_iload 1 kd211.2.2.2.1 rfl ?_
          refine jx_iast kd211.2.2.2.2.1 hk95 hi96 ?_
          refine jx_aload_n 9 kd211.2.2.2.2.2.1 rfl rfl ?_
          refine jx_aload_n 10 kd211.2.2.2.2.2.2.1 rfl rfl ?_
          refine jx_iload 8 kd211.2.2.2.2.2.2.2.1 rfl ?_
          refine jx_callVv (M' := mX5_goOn) (As := [.ref a1, .int (x2 + 1)]) jo_X5_goOn jc_5 rfl jwM_X5_79 jwN_X5_goOn jwX_X5_goOn kd211.2.2.2.2.2.2.2.2.1 (jRok_m _ _ _) rfl (jle rfl) ⟨jle rfl, jle rfl⟩ hk71 h (fun S98 h => ?_)
          refine jx_aload_n 9 kd212.1 rfl rfl ?_
          obtain ⟨hk99, h⟩ := h
          obtain ⟨b100, hb100, h⟩ := h
          refine jx_getr jc_5 (j := 5) (by decide) rfl jwF_X5_27 kd212.2.1 hk99 hb100 ?_
          refine jx_iload 7 kd212.2.2.1 rfl ?_
          refine jx_iload 0 kd212.2.2.2.1 rfl ?_
          obtain ⟨hk101, h⟩ := h
          obtain ⟨hi102, h⟩ := h
          refine jx_iast kd212.2.2.2.2.1 hk101 hi102 ?_
          exact jx_vret kd212.2.2.2.2.2.1 rfl (jle rfl) (jle rfl) ⟨rfl, h⟩
        replace h := h.2 c58
        exact jx_vret kd205.2.2.1 rfl (jle rfl) (jle rfl) ⟨rfl, h⟩
      replace h := h.1 c50
      exact jx_vret kd203.2.2.2.2.2.1 rfl (jle rfl) (jle rfl) ⟨rfl, h⟩
    replace h := h.1 c30
    refine jx_aload_n 5 kd198.2.2.2.2.2.2.2.1 rfl rfl ?_
    obtain ⟨b103, hb103, h⟩ := h
    refine jx_getr jc_5 (j := 1) (by decide) rfl jwF_X5_15 kd198.2.2.2.2.2.2.2.2.1 hk23 hb103 ?_
    refine jx_iload_n 7 kd199.1 rfl rfl ?_
    obtain ⟨hk104, h⟩ := h
    obtain ⟨hi105, h⟩ := h
    refine jx_iald kd199.2.1 hk104 hi105 ?_
    refine jx_goto (tgt := 108) kd199.2.2.1 (by decide) ?_
    refine jx_istore (lv1 := [(10, .int (ji S21 b103 (Int32.toNatClampNeg x2))), (9, .int (ji S21 b28 3)), (8, .int ((ji S21 b24 (Int32.toNatClampNeg x2)) + r22)), (7, .int r22), (6, .int (ji S a4 2)), (5, .int (x2 + 1)), (0, .ref a0), (1, .ref a1), (2, .int x2), (3, .int x3), (4, .ref a4)]) kd200.2.2.1 (by decide) rfl ?_
    refine jx_aload_n 6 kd200.2.2.2.1 rfl rfl ?_
    obtain ⟨b106, hb106, h⟩ := h
    refine jx_getr jc_5 (j := 3) (by decide) rfl jwF_X5_21 kd200.2.2.2.2.1 hk23 hb106 ?_
    refine jx_iload_n 8 kd200.2.2.2.2.2.1 rfl rfl ?_
    obtain ⟨hk107, h⟩ := h
    obtain ⟨hi108, h⟩ := h
    refine jx_iald kd200.2.2.2.2.2.2.1 hk107 hi108 ?_
    refine jx_aload 10 kd200.2.2.2.2.2.2.2.1 rfl ?_
    obtain ⟨hk109, h⟩ := h
    refine jx_geti jc_2 (j := 4) (by decide) rfl jwF_X5_132 kd200.2.2.2.2.2.2.2.2.1 hk109 ?_
    refine jx_iadd kd201.1 ?_
    refine jx_istore (lv1 := [(11, .int ((ji S21 b106 (Int32.toNatClampNeg x2)) + (ji S21 a4 4))), (10, .int (ji S21 b103 (Int32.toNatClampNeg x2))), (9, .int (ji S21 b28 3)), (8, .int ((ji S21 b24 (Int32.toNatClampNeg x2)) + r22)), (7, .int r22), (6, .int (ji S a4 2)), (5, .int (x2 + 1)), (0, .ref a0), (1, .ref a1), (2, .int x2), (3, .int x3), (4, .ref a4)]) kd201.2.1 (by decide) rfl ?_
    refine jx_aload 11 kd201.2.2.1 rfl ?_
    refine jx_geti jc_2 (j := 6) (by decide) rfl jwF_X5_135 kd201.2.2.2.1 hk109 ?_
    refine jx_if_ne (tgt := 172) kd201.2.2.2.2.1 (by decide) (fun c110 => ?_) (fun c110 => ?_)
    · replace h := h.2 c110
      exact jx_vret kd203.2.2.2.2.2.1 rfl (jle rfl) (jle rfl) ⟨rfl, h⟩
    replace h := h.1 c110
    refine jx_iload 4 kd201.2.2.2.2.2.1 rfl ?_
    refine jx_sipush (v := 9999) kd201.2.2.2.2.2.2.1 (by decide) ?_
    refine jx_icmp_eq (tgt := 172) kd201.2.2.2.2.2.2.2.1 (by decide) (fun c111 => ?_) (fun c111 => ?_)
    · replace h := h.1 c111
      exact jx_vret kd203.2.2.2.2.2.1 rfl (jle rfl) (jle rfl) ⟨rfl, h⟩
    replace h := h.2 c111
    refine jx_iload 0 kd201.2.2.2.2.2.2.2.2.1 rfl ?_
    refine jx_aload_n 8 kd202.1 rfl rfl ?_
    refine jx_getr jc_3 (j := 2) (by decide) rfl jwF_X5_64 kd202.2.1 hk27 hb28 ?_
    refine jx_geti jc_1 (j := 2) (by decide) rfl jwF_X5_139 kd202.2.2.1 hk29 ?_
    refine jx_icmp_gt (tgt := 172) kd202.2.2.2.1 (by decide) (fun c112 => ?_) (fun c112 => ?_)
    · replace h := h.1 c112
      exact jx_vret kd203.2.2.2.2.2.1 rfl (jle rfl) (jle rfl) ⟨rfl, h⟩
    replace h := h.2 c112
    refine jx_iload 1 kd202.2.2.2.2.1 rfl ?_
    refine jx_iconst (v := 1) kd202.2.2.2.2.2.1 (by decide) ?_
    refine jx_iload 5 kd202.2.2.2.2.2.2.1 rfl ?_
    refine jx_ishl kd202.2.2.2.2.2.2.2.1 ?_
    refine jx_iand kd202.2.2.2.2.2.2.2.2.1 ?_
    refine jx_if_ne (tgt := 172) kd203.1 (by decide) (fun c113 => ?_) (fun c113 => ?_)
    · replace h := h.2 c113
      exact jx_vret kd203.2.2.2.2.2.1 rfl (jle rfl) (jle rfl) ⟨rfl, h⟩
    replace h := h.1 c113
    refine jx_aload 11 kd203.2.1 rfl ?_
    refine jx_iload 1 kd203.2.2.1 rfl ?_
    refine jx_callVi (M' := mX2_teaches) (As := [.int (ji S21 b103 (Int32.toNatClampNeg x2))]) jo_X2_teaches jc_2 rfl jwM_X5_142 jwN_X2_teaches jwX_X2_teaches kd203.2.2.2.1 (jRok_m _ _ _) rfl (jle rfl) ⟨jle rfl, jle rfl⟩ hk109 h (fun r115 S114 h => ?_)
    refine jx_if_ne (tgt := 173) kd203.2.2.2.2.1 (by decide) (fun c116 => ?_) (fun c116 => ?_)
    · replace h := h.2 c116
      refine jx_iload 3 kd203.2.2.2.2.2.2.1 rfl ?_
      refine jx_aload_n 7 kd203.2.2.2.2.2.2.2.1 rfl rfl ?_
      refine jx_aload_n 8 kd203.2.2.2.2.2.2.2.2.1 rfl rfl ?_
      refine jx_iload_n 10 kd204.1 rfl rfl ?_
      refine jx_aload 11 kd204.2.1 rfl ?_
      refine jx_iload 1 kd204.2.2.1 rfl ?_
      refine jx_callSi (M' := mJ6_bitCount_0f7a4) (As := [.int (ji S21 b103 (Int32.toNatClampNeg x2))]) jo_J6_bitCount_0f7a4 jwM_X5_91 jwS_J6_bitCount_0f7a4 kd204.2.2.2.1 (jRok_m _ _ _) rfl (jle rfl) ⟨jle rfl, jle rfl⟩ (c_J6_bitCount_0f7a4 (Q := fun v S' => v = (jbc (ji S21 b103 (Int32.toNatClampNeg x2))) ∧ S114 = S') ⟨rfl, rfl⟩) (fun r117 S118 hq119 => ?_)
      obtain ⟨rfl, rfl⟩ := hq119
      obtain ⟨hk120, h⟩ := h
      refine jx_callVi (M' := mX5_daysTaken) (As := [.ref a1, .int x3, .ref a4, .int (jbc (ji S21 b103 (Int32.toNatClampNeg x2)))]) jo_X5_daysTaken jc_5 rfl jwM_X5_146 jwN_X5_daysTaken jwX_X5_daysTaken kd204.2.2.2.2.1 (jRok_m _ _ _) rfl (jle rfl) ⟨jle rfl, jle rfl⟩ hk120 h (fun r122 S121 h => ?_)
      refine jx_iadd kd204.2.2.2.2.2.1 ?_
      refine jx_istore (lv1 := [(12, .int (((ji S21 b24 (Int32.toNatClampNeg x2)) + r22) + r122)), (11, .int ((ji S21 b106 (Int32.toNatClampNeg x2)) + (ji S21 a4 4))), (10, .int (ji S21 b103 (Int32.toNatClampNeg x2))), (9, .int (ji S21 b28 3)), (8, .int ((ji S21 b24 (Int32.toNatClampNeg x2)) + r22)), (7, .int r22), (6, .int (ji S a4 2)), (5, .int (x2 + 1)), (0, .ref a0), (1, .ref a1), (2, .int x2), (3, .int x3), (4, .ref a4)]) kd204.2.2.2.2.2.2.1 (by decide) rfl ?_
      refine jx_iload 0 kd204.2.2.2.2.2.2.2.1 rfl ?_
      refine jx_aload_n 8 kd204.2.2.2.2.2.2.2.2.1 rfl rfl ?_
      obtain ⟨hk123, h⟩ := h
      refine jx_geti jc_5 (j := 9) (by decide) rfl jwF_X5_34 kd205.1 hk123 ?_
      refine jx_icmp_le (tgt := 201) kd205.2.1 (by decide) (fun c124 => ?_) (fun c124 => ?_)
      · replace h := h.1 c124
        refine jx_aload_n 8 kd205.2.2.2.1 rfl rfl ?_
        obtain ⟨b125, hb125, h⟩ := h
        refine jx_getr jc_5 (j := 0) (by decide) rfl jwF_X5_11 kd205.2.2.2.2.1 hk123 hb125 ?_
        refine jx_iload 7 kd205.2.2.2.2.2.1 rfl ?_
        refine jx_aload 12 kd205.2.2.2.2.2.2.1 rfl ?_
        obtain ⟨hk126, h⟩ := h
        refine jx_geti jc_2 (j := 1) (by decide) rfl jwF_X5_117 kd205.2.2.2.2.2.2.2.1 hk126 ?_
        obtain ⟨hk127, h⟩ := h
        obtain ⟨hi128, h⟩ := h
        refine jx_iast kd205.2.2.2.2.2.2.2.2.1 hk127 hi128 ?_
        refine jx_aload_n 8 kd206.1 rfl rfl ?_
        obtain ⟨b129, hb129, h⟩ := h
        refine jx_getr jc_5 (j := 1) (by decide) rfl jwF_X5_15 kd206.2.1 hk123 hb129 ?_
        refine jx_iload 7 kd206.2.2.1 rfl ?_
        refine jx_aload_n 8 kd206.2.2.2.1 rfl rfl ?_
        refine jx_iload 2 kd206.2.2.2.2.1 rfl ?_
        refine jx_iload 0 kd206.2.2.2.2.2.1 rfl ?_
        refine jx_iload 3 kd206.2.2.2.2.2.2.1 rfl ?_
        refine jx_callVi (M' := mX5_keptOf) (As := [.int (ji S21 b103 (Int32.toNatClampNeg x2)), .int (((ji S21 b24 (Int32.toNatClampNeg x2)) + r22) + r122), .int (ji S21 b28 3)]) jo_X5_keptOf jc_5 rfl jwM_X5_128 jwN_X5_keptOf jwX_X5_keptOf kd206.2.2.2.2.2.2.2.1 (jRok_m _ _ _) rfl (jle rfl) ⟨jle rfl, jle rfl⟩ hk123 h (fun r131 S130 h => ?_)
        refine jx_aload 12 kd206.2.2.2.2.2.2.2.2.1 rfl ?_
        obtain ⟨hk132, h⟩ := h
        refine jx_callVi (M' := mX2_unlearnt) (As := []) jo_X2_unlearnt jc_2 rfl jwM_X5_150 jwN_X2_unlearnt jwX_X2_unlearnt kd207.1 (jRok_m _ _ _) rfl (jle rfl) ⟨jle rfl, jle rfl⟩ hk132 h (fun r134 S133 h => ?_)
        refine jx_iconst (v := (-1)) kd207.2.1 (by decide) ?_
        refine jx_ixor kd207.2.2.1 ?_
        refine jx_iand kd207.2.2.2.1 ?_
        refine jx_iconst (v := 1) kd207.2.2.2.2.1 (by decide) ?_
        refine jx_iload 6 kd207.2.2.2.2.2.1 rfl ?_
        refine jx_ishl kd207.2.2.2.2.2.2.1 ?_
        refine jx_ior kd207.2.2.2.2.2.2.2.1 ?_
        obtain ⟨hk135, h⟩ := h
        obtain ⟨hi136, h⟩ := h
        refine jx_iast kd207.2.2.2.2.2.2.2.2.1 hk135 hi136 ?_
        refine jx_aload_n 8 kd208.1 rfl rfl ?_
        obtain ⟨hk137, h⟩ := h
        obtain ⟨b138, hb138, h⟩ := h
        refine jx_getr jc_5 (j := 2) (by decide) rfl jwF_X5_18 kd208.2.1 hk137 hb138 ?_
        refine jx_iload 7 kd208.2.2.1 rfl ?_
        refine jx_iload 0 kd208.2.2.2.1 rfl ?_
        obtain ⟨hk139, h⟩ := h
        obtain ⟨hi140, h⟩ := h
        refine jx_iast kd208.2.2.2.2.1 hk139 hi140 ?_
        refine jx_aload_n 8 kd208.2.2.2.2.2.1 rfl rfl ?_
        obtain ⟨b141, hb141, h⟩ := h
        refine jx_getr jc_5 (j := 3) (by decide) rfl jwF_X5_21 kd208.2.2.2.2.2.2.1 hk137 hb141 ?_
        refine jx_iload 7 kd208.2.2.2.2.2.2.2.1 rfl ?_
        refine jx_iload 1 kd208.2.2.2.2.2.2.2.2.1 rfl ?_
        obtain ⟨hk142, h⟩ := h
        obtain ⟨hi143, h⟩ := h
        refine jx_iast kd209.1 hk142 hi143 ?_
        refine jx_aload_n 8 kd209.2.1 rfl rfl ?_
        obtain ⟨b144, hb144, h⟩ := h
        refine jx_getr jc_5 (j := 4) (by decide) rfl jwF_X5_24 kd209.2.2.1 hk137 hb144 ?_
        refine jx_iload 7 kd209.2.2.2.1 rfl ?_
        refine jx_iload_n 10 kd209.2.2.2.2.1 rfl rfl ?_
        refine jx_if_ne (tgt := 275) kd209.2.2.2.2.2.1 (by decide) (fun c145 => ?_) (fun c145 => ?_)
        · replace h := h.2 c145
          refine jx_aload_n 8 kd209.2.2.2.2.2.2.2.2.1 rfl rfl ?_
          refine jx_getr jc_5 (j := 4) (by decide) rfl jwF_X5_24 kd210.1 hk137 hb144 ?_
          refine jx_iload_n 10 kd210.2.1 rfl rfl ?_
          obtain ⟨hk146, h⟩ := h
          obtain ⟨hi147, h⟩ := h
          refine jx_iald kd210.2.2.1 hk146 hi147 ?_
          obtain ⟨hi148, h⟩ := h
          refine jx_iast kd210.2.2.2.1 hk146 hi148 ?_
          refine jx_aload_n 8 kd210.2.2.2.2.1 rfl rfl ?_
          obtain ⟨b149, hb149, h⟩ := h
          refine jx_getr jc_5 (j := 5) (by decide) rfl jwF_X5_27 kd210.2.2.2.2.2.1 hk137 hb149 ?_
          refine jx_iload 6 kd210.2.2.2.2.2.2.1 rfl ?_
          obtain ⟨hk150, h⟩ := h
          obtain ⟨hi151, h⟩ := h
          refine jx_iald kd210.2.2.2.2.2.2.2.1 hk150 hi151 ?_
          refine jx_nm (fun y152 ey152 => ?_)
          replace h := h y152 ey152
          refine jx_istore (lv1 := [(13, .int y152), (12, .int (((ji S21 b24 (Int32.toNatClampNeg x2)) + r22) + r122)), (11, .int ((ji S21 b106 (Int32.toNatClampNeg x2)) + (ji S21 a4 4))), (10, .int (ji S21 b103 (Int32.toNatClampNeg x2))), (9, .int (ji S21 b28 3)), (8, .int ((ji S21 b24 (Int32.toNatClampNeg x2)) + r22)), (7, .int r22), (6, .int (ji S a4 2)), (5, .int (x2 + 1)), (0, .ref a0), (1, .ref a1), (2, .int x2), (3, .int x3), (4, .ref a4)]) kd210.2.2.2.2.2.2.2.2.1 (by decide) rfl ?_
          refine jx_aload_n 9 kd211.1 rfl rfl ?_
          refine jx_getr jc_5 (j := 5) (by decide) rfl jwF_X5_27 kd211.2.1 hk137 hb149 ?_
          refine jx_iload 7 kd211.2.2.1 rfl ?_
          refine jx_iload 1 kd211.2.2.2.1 rfl ?_
          refine jx_iast kd211.2.2.2.2.1 hk150 hi151 ?_
          refine jx_aload_n 9 kd211.2.2.2.2.2.1 rfl rfl ?_
          refine jx_aload_n 10 kd211.2.2.2.2.2.2.1 rfl rfl ?_
          refine jx_iload 8 kd211.2.2.2.2.2.2.2.1 rfl ?_
          refine jx_callVv (M' := mX5_goOn) (As := [.ref a1, .int (x2 + 1)]) jo_X5_goOn jc_5 rfl jwM_X5_79 jwN_X5_goOn jwX_X5_goOn kd211.2.2.2.2.2.2.2.2.1 (jRok_m _ _ _) rfl (jle rfl) ⟨jle rfl, jle rfl⟩ hk137 h (fun S153 h => ?_)
          refine jx_aload_n 9 kd212.1 rfl rfl ?_
          obtain ⟨hk154, h⟩ := h
          obtain ⟨b155, hb155, h⟩ := h
          refine jx_getr jc_5 (j := 5) (by decide) rfl jwF_X5_27 kd212.2.1 hk154 hb155 ?_
          refine jx_iload 7 kd212.2.2.1 rfl ?_
          refine jx_iload 0 kd212.2.2.2.1 rfl ?_
          obtain ⟨hk156, h⟩ := h
          obtain ⟨hi157, h⟩ := h
          refine jx_iast kd212.2.2.2.2.1 hk156 hi157 ?_
          exact jx_vret kd212.2.2.2.2.2.1 rfl (jle rfl) (jle rfl) ⟨rfl, h⟩
        replace h := h.1 c145
        refine jx_iload_n 11 kd209.2.2.2.2.2.2.1 rfl rfl ?_
        refine jx_goto (tgt := 281) kd209.2.2.2.2.2.2.2.1 (by decide) ?_
        obtain ⟨hk158, h⟩ := h
        obtain ⟨hi159, h⟩ := h
        refine jx_iast kd210.2.2.2.1 hk158 hi159 ?_
        refine jx_aload_n 8 kd210.2.2.2.2.1 rfl rfl ?_
        obtain ⟨b160, hb160, h⟩ := h
        refine jx_getr jc_5 (j := 5) (by decide) rfl jwF_X5_27 kd210.2.2.2.2.2.1 hk137 hb160 ?_
        refine jx_iload 6 kd210.2.2.2.2.2.2.1 rfl ?_
        obtain ⟨hk161, h⟩ := h
        obtain ⟨hi162, h⟩ := h
        refine jx_iald kd210.2.2.2.2.2.2.2.1 hk161 hi162 ?_
        refine jx_nm (fun y163 ey163 => ?_)
        replace h := h y163 ey163
        refine jx_istore (lv1 := [(13, .int y163), (12, .int (((ji S21 b24 (Int32.toNatClampNeg x2)) + r22) + r122)), (11, .int ((ji S21 b106 (Int32.toNatClampNeg x2)) + (ji S21 a4 4))), (10, .int (ji S21 b103 (Int32.toNatClampNeg x2))), (9, .int (ji S21 b28 3)), (8, .int ((ji S21 b24 (Int32.toNatClampNeg x2)) + r22)), (7, .int r22), (6, .int (ji S a4 2)), (5, .int (x2 + 1)), (0, .ref a0), (1, .ref a1), (2, .int x2), (3, .int x3), (4, .ref a4)]) kd210.2.2.2.2.2.2.2.2.1 (by decide) rfl ?_
        refine jx_aload_n 9 kd211.1 rfl rfl ?_
        refine jx_getr jc_5 (j := 5) (by decide) rfl jwF_X5_27 kd211.2.1 hk137 hb160 ?_
        refine jx_iload 7 kd211.2.2.1 rfl ?_
        refine jx_iload 1 kd211.2.2.2.1 rfl ?_
        refine jx_iast kd211.2.2.2.2.1 hk161 hi162 ?_
        refine jx_aload_n 9 kd211.2.2.2.2.2.1 rfl rfl ?_
        refine jx_aload_n 10 kd211.2.2.2.2.2.2.1 rfl rfl ?_
        refine jx_iload 8 kd211.2.2.2.2.2.2.2.1 rfl ?_
        refine jx_callVv (M' := mX5_goOn) (As := [.ref a1, .int (x2 + 1)]) jo_X5_goOn jc_5 rfl jwM_X5_79 jwN_X5_goOn jwX_X5_goOn kd211.2.2.2.2.2.2.2.2.1 (jRok_m _ _ _) rfl (jle rfl) ⟨jle rfl, jle rfl⟩ hk137 h (fun S164 h => ?_)
        refine jx_aload_n 9 kd212.1 rfl rfl ?_
        obtain ⟨hk165, h⟩ := h
        obtain ⟨b166, hb166, h⟩ := h
        refine jx_getr jc_5 (j := 5) (by decide) rfl jwF_X5_27 kd212.2.1 hk165 hb166 ?_
        refine jx_iload 7 kd212.2.2.1 rfl ?_
        refine jx_iload 0 kd212.2.2.2.1 rfl ?_
        obtain ⟨hk167, h⟩ := h
        obtain ⟨hi168, h⟩ := h
        refine jx_iast kd212.2.2.2.2.1 hk167 hi168 ?_
        exact jx_vret kd212.2.2.2.2.2.1 rfl (jle rfl) (jle rfl) ⟨rfl, h⟩
      replace h := h.2 c124
      exact jx_vret kd205.2.2.1 rfl (jle rfl) (jle rfl) ⟨rfl, h⟩
    replace h := h.1 c116
    exact jx_vret kd203.2.2.2.2.2.1 rfl (jle rfl) (jle rfl) ⟨rfl, h⟩
  replace h := h.1 c13
  exact jx_vret kd196.2.1 rfl (jle rfl) (jle rfl) ⟨rfl, h⟩
/-- X5_keptOf at its loop's head 12 -/
abbrev L_X5_keptOf_12 (E : jEnv) (d : Nat) (Q : Int32 → jM → Prop) (a0 : Nat) (x2 : Int32) (x3 : Int32) (x4 : Int32) (x5 : Int32) (S : jM) : Prop := jX E mX5_keptOf (jRm d 0 0) (jZm E (fun r S' => ∃ v : Int32, r = some (.int v) ∧ Q v S') 0 0) 12 [(0, .ref a0), (2, .int x2), (3, .int x3), (4, .int x4), (5, .int x5)] [] S 0 0
set_option maxRecDepth 100000 in
set_option maxHeartbeats 4000000 in
theorem T_X5_keptOf {E : jEnv} {d : Nat} {Q : Int32 → jM → Prop} {a0 : Nat} {x1 : Int32} {x2 : Int32} {x3 : Int32} {S : jM} (h : (x3 = 0 → Q x1 S) ∧ (¬ x3 = 0 → L_X5_keptOf_12 E d Q a0 x2 x3 x1 0 S)) : jFi E mX5_keptOf d 0 0 [.ref a0, .int x1, .int x2, .int x3] S Q := by
  refine jF_of (by decide) (jle rfl) ?_
  refine jx_lv (lv1 := [(0, .ref a0), (1, .int x1), (2, .int x2), (3, .int x3)]) [0, 1, 2, 3] rfl ?_
  refine jx_iload_n 3 kd213.1 rfl rfl ?_
  refine jx_if_ne (tgt := 6) kd213.2.1 (by decide) (fun c1 => ?_) (fun c1 => ?_)
  · replace h := h.2 c1
    refine jx_iload_n 1 kd213.2.2.2.2.1 rfl rfl ?_
    refine jx_istore (lv1 := [(4, .int x1), (0, .ref a0), (1, .int x1), (2, .int x2), (3, .int x3)]) kd213.2.2.2.2.2.1 (by decide) rfl ?_
    refine jx_iconst (v := 0) kd213.2.2.2.2.2.2.1 (by decide) ?_
    refine jx_istore (lv1 := [(5, .int 0), (4, .int x1), (0, .ref a0), (1, .int x1), (2, .int x2), (3, .int x3)]) kd213.2.2.2.2.2.2.2.1 (by decide) rfl ?_
    exact jx_lv [2, 4, 5, 1, 0] rfl h
  replace h := h.1 c1
  refine jx_iload_n 1 kd213.2.2.1 rfl rfl ?_
  exact jx_iret kd213.2.2.2.1 rfl rfl (jle rfl) (jle rfl) ⟨_, rfl, h⟩
set_option maxRecDepth 100000 in
set_option maxHeartbeats 4000000 in
theorem T_X5_keptOf_12 {E : jEnv} {d : Nat} {Q : Int32 → jM → Prop} {a0 : Nat} {x2 : Int32} {x3 : Int32} {x4 : Int32} {x5 : Int32} {S : jM} (h : (10 ≤ x5 → Q x4 S) ∧ (¬ 10 ≤ x5 → jk S a0 = 5 ∧ ∃ b4, jr S a0 5 = some b4 ∧ (jk S b4 = 12 ∧ vp_in x5 (jl S b4) ∧ (((x2 - (ji S b4 (Int32.toNatClampNeg x5))) ≤ x3 → L_X5_keptOf_12 E d Q a0 x2 x3 x4 (x5 + 1) S) ∧ (¬ (x2 - (ji S b4 (Int32.toNatClampNeg x5))) ≤ x3 → L_X5_keptOf_12 E d Q a0 x2 x3 (x4 &&& ((jshl 1 x5) ^^^ (-1))) (x5 + 1) S))))) : L_X5_keptOf_12 E d Q a0 x2 x3 x4 x5 S := by
  show jX E mX5_keptOf (jRm d 0 0) (jZm E (fun r S' => ∃ v : Int32, r = some (.int v) ∧ Q v S') 0 0) 12 [(0, .ref a0), (2, .int x2), (3, .int x3), (4, .int x4), (5, .int x5)] [] S 0 0
  refine jx_iload 4 kd213.2.2.2.2.2.2.2.2.1 rfl ?_
  refine jx_bipush (v := 10) kd214.1 (by decide) ?_
  refine jx_icmp_ge (tgt := 49) kd214.2.1 (by decide) (fun c2 => ?_) (fun c2 => ?_)
  · replace h := h.1 c2
    refine jx_iload 3 kd216.2.2.1 rfl ?_
    exact jx_iret kd216.2.2.2.1 rfl rfl (jle rfl) (jle rfl) ⟨_, rfl, h⟩
  replace h := h.2 c2
  refine jx_iload_n 1 kd214.2.2.1 rfl rfl ?_
  refine jx_aload_n 0 kd214.2.2.2.1 rfl rfl ?_
  obtain ⟨hk3, h⟩ := h
  obtain ⟨b4, hb4, h⟩ := h
  refine jx_getr jc_5 (j := 5) (by decide) rfl jwF_X5_27 kd214.2.2.2.2.1 hk3 hb4 ?_
  refine jx_iload 4 kd214.2.2.2.2.2.1 rfl ?_
  obtain ⟨hk5, h⟩ := h
  obtain ⟨hi6, h⟩ := h
  refine jx_iald kd214.2.2.2.2.2.2.1 hk5 hi6 ?_
  refine jx_isub kd214.2.2.2.2.2.2.2.1 ?_
  refine jx_iload_n 2 kd214.2.2.2.2.2.2.2.2.1 rfl rfl ?_
  refine jx_icmp_le (tgt := 43) kd215.1 (by decide) (fun c7 => ?_) (fun c7 => ?_)
  · replace h := h.1 c7
    refine jx_iinc 4 (v := (x5 + 1)) (lv1 := [(5, .int (x5 + 1)), (0, .ref a0), (2, .int x2), (3, .int x3), (4, .int x4)]) kd216.1 rfl rfl (by decide) rfl ?_
    refine jx_goto (tgt := 12) kd216.2.1 (by decide) ?_
    exact jx_lv [1, 2, 3, 4, 0] rfl h
  replace h := h.2 c7
  refine jx_iload 3 kd215.2.1 rfl ?_
  refine jx_iconst (v := 1) kd215.2.2.1 (by decide) ?_
  refine jx_iload 4 kd215.2.2.2.1 rfl ?_
  refine jx_ishl kd215.2.2.2.2.1 ?_
  refine jx_iconst (v := (-1)) kd215.2.2.2.2.2.1 (by decide) ?_
  refine jx_ixor kd215.2.2.2.2.2.2.1 ?_
  refine jx_iand kd215.2.2.2.2.2.2.2.1 ?_
  refine jx_istore (lv1 := [(4, .int (x4 &&& ((jshl 1 x5) ^^^ (-1)))), (0, .ref a0), (2, .int x2), (3, .int x3), (5, .int x5)]) kd215.2.2.2.2.2.2.2.2.1 (by decide) rfl ?_
  refine jx_iinc 4 (v := (x5 + 1)) (lv1 := [(5, .int (x5 + 1)), (4, .int (x4 &&& ((jshl 1 x5) ^^^ (-1)))), (0, .ref a0), (2, .int x2), (3, .int x3)]) kd216.1 rfl rfl (by decide) rfl ?_
  refine jx_goto (tgt := 12) kd216.2.1 (by decide) ?_
  exact jx_lv [2, 3, 4, 1, 0] rfl h
set_option maxRecDepth 100000 in
set_option maxHeartbeats 4000000 in
theorem T_X5_daysTaken {E : jEnv} {d : Nat} {Q : Int32 → jM → Prop} {a0 : Nat} {a1 : Nat} {x2 : Int32} {a3 : Nat} {x4 : Int32} {S : jM} (h : jk S a0 = 5 ∧ ∃ b2, jr S a0 6 = some b2 ∧ (jk S b2 = 12 ∧ ((jwi ((x2 * 11) + x4) (nI (jl S b2))) = 0 → jk S a1 = 3 ∧ jFi E mX3_daysTaken d 0 0 [.ref a1, .ref a3, .int x4] S (fun r21 S20 => Q r21 S20)) ∧ (¬ (jwi ((x2 * 11) + x4) (nI (jl S b2))) = 0 → vp_in ((x2 * 11) + x4) (jl S b2) ∧ (((ji S b2 (Int32.toNatClampNeg ((x2 * 11) + x4))) = 0 → jk S a1 = 3 ∧ jFi E mX3_daysTaken d 0 0 [.ref a1, .ref a3, .int x4] S (fun r12 S11 => jk S11 b2 = 12 ∧ vp_in ((x2 * 11) + x4) (jl S11 b2) ∧ (jk S11 a0 = 5 ∧ ∃ b16, jr S11 a0 6 = some b16 ∧ (jk S11 b16 = 12 ∧ vp_in ((x2 * 11) + x4) (jl S11 b16) ∧ (Q (ji (jput S11 b2 (Int32.toNatClampNeg ((x2 * 11) + x4)) r12) b16 (Int32.toNatClampNeg ((x2 * 11) + x4))) (jput S11 b2 (Int32.toNatClampNeg ((x2 * 11) + x4)) r12)))))) ∧ (¬ (ji S b2 (Int32.toNatClampNeg ((x2 * 11) + x4))) = 0 → (Q (ji S b2 (Int32.toNatClampNeg ((x2 * 11) + x4))) S)))))) : jFi E mX5_daysTaken (d + 1) 0 0 [.ref a0, .ref a1, .int x2, .ref a3, .int x4] S Q := by
  refine jF_of (by decide) (jle rfl) ?_
  refine jx_lv (lv1 := [(0, .ref a0), (1, .ref a1), (2, .int x2), (3, .ref a3), (4, .int x4)]) [0, 1, 2, 3, 4] rfl ?_
  refine jx_iload_n 2 kd217.1 rfl rfl ?_
  refine jx_bipush (v := 11) kd217.2.1 (by decide) ?_
  refine jx_imul kd217.2.2.1 ?_
  refine jx_iload 4 kd217.2.2.2.1 rfl ?_
  refine jx_iadd kd217.2.2.2.2.1 ?_
  refine jx_istore (lv1 := [(5, .int ((x2 * 11) + x4)), (0, .ref a0), (1, .ref a1), (2, .int x2), (3, .ref a3), (4, .int x4)]) kd217.2.2.2.2.2.1 (by decide) rfl ?_
  refine jx_iload 0 kd217.2.2.2.2.2.2.1 rfl ?_
  refine jx_aload_n 1 kd217.2.2.2.2.2.2.2.1 rfl rfl ?_
  obtain ⟨hk1, h⟩ := h
  obtain ⟨b2, hb2, h⟩ := h
  refine jx_getr jc_5 (j := 6) (by decide) rfl jwF_X5_30 kd217.2.2.2.2.2.2.2.2.1 hk1 hb2 ?_
  obtain ⟨hk3, h⟩ := h
  refine jx_alen kd218.1 hk3 ?_
  refine jx_callSNi (M' := mX10_within) (As := [.int ((x2 * 11) + x4), .int (nI (jl S b2))]) (host := "NineMasters") jo_X10_within (by decide) jwS_X10_within kd218.2.1 (jRok_m _ _ _) rfl (jle rfl) ⟨jle rfl, jle rfl⟩ (c_X10_within (Q := fun v S' => v = (jwi ((x2 * 11) + x4) (nI (jl S b2))) ∧ S = S') ⟨rfl, rfl⟩) (fun r4 S5 hq6 => ?_)
  obtain ⟨rfl, rfl⟩ := hq6
  refine jx_if_ne (tgt := 30) kd218.2.2.1 (by decide) (fun c7 => ?_) (fun c7 => ?_)
  · replace h := h.2 c7
    refine jx_aload_n 1 kd218.2.2.2.2.2.2.2.2.1 rfl rfl ?_
    refine jx_getr jc_5 (j := 6) (by decide) rfl jwF_X5_30 kd219.1 hk1 hb2 ?_
    refine jx_iload 0 kd219.2.1 rfl ?_
    obtain ⟨hi8, h⟩ := h
    refine jx_iald kd219.2.2.1 hk3 hi8 ?_
    refine jx_if_ne (tgt := 54) kd219.2.2.2.1 (by decide) (fun c9 => ?_) (fun c9 => ?_)
    · replace h := h.2 c9
      refine jx_aload_n 1 kd220.2.2.2.1 rfl rfl ?_
      refine jx_getr jc_5 (j := 6) (by decide) rfl jwF_X5_30 kd220.2.2.2.2.1 hk1 hb2 ?_
      refine jx_iload 0 kd220.2.2.2.2.2.1 rfl ?_
      refine jx_iald kd220.2.2.2.2.2.2.1 hk3 hi8 ?_
      exact jx_iret kd220.2.2.2.2.2.2.2.1 rfl rfl (jle rfl) (jle rfl) ⟨_, rfl, h⟩
    replace h := h.1 c9
    refine jx_aload_n 1 kd219.2.2.2.2.1 rfl rfl ?_
    refine jx_getr jc_5 (j := 6) (by decide) rfl jwF_X5_30 kd219.2.2.2.2.2.1 hk1 hb2 ?_
    refine jx_iload 0 kd219.2.2.2.2.2.2.1 rfl ?_
    refine jx_aload_n 2 kd219.2.2.2.2.2.2.2.1 rfl rfl ?_
    refine jx_aload_n 4 kd219.2.2.2.2.2.2.2.2.1 rfl rfl ?_
    refine jx_iload 5 kd220.1 rfl ?_
    obtain ⟨hk10, h⟩ := h
    refine jx_callVi (M' := mX3_daysTaken) (As := [.ref a3, .int x4]) jo_X3_daysTaken jc_3 rfl jwM_X5_153 jwN_X3_daysTaken jwX_X3_daysTaken kd220.2.1 (jRok_m _ _ _) rfl (jle rfl) ⟨jle rfl, jle rfl⟩ hk10 h (fun r12 S11 h => ?_)
    obtain ⟨hk13, h⟩ := h
    obtain ⟨hi14, h⟩ := h
    refine jx_iast kd220.2.2.1 hk13 hi14 ?_
    refine jx_aload_n 1 kd220.2.2.2.1 rfl rfl ?_
    obtain ⟨hk15, h⟩ := h
    obtain ⟨b16, hb16, h⟩ := h
    refine jx_getr jc_5 (j := 6) (by decide) rfl jwF_X5_30 kd220.2.2.2.2.1 hk15 hb16 ?_
    refine jx_iload 0 kd220.2.2.2.2.2.1 rfl ?_
    obtain ⟨hk17, h⟩ := h
    obtain ⟨hi18, h⟩ := h
    refine jx_iald kd220.2.2.2.2.2.2.1 hk17 hi18 ?_
    exact jx_iret kd220.2.2.2.2.2.2.2.1 rfl rfl (jle rfl) (jle rfl) ⟨_, rfl, h⟩
  replace h := h.1 c7
  refine jx_aload_n 2 kd218.2.2.2.1 rfl rfl ?_
  refine jx_aload_n 4 kd218.2.2.2.2.1 rfl rfl ?_
  refine jx_iload 5 kd218.2.2.2.2.2.1 rfl ?_
  obtain ⟨hk19, h⟩ := h
  refine jx_callVi (M' := mX3_daysTaken) (As := [.ref a3, .int x4]) jo_X3_daysTaken jc_3 rfl jwM_X5_153 jwN_X3_daysTaken jwX_X3_daysTaken kd218.2.2.2.2.2.2.1 (jRok_m _ _ _) rfl (jle rfl) ⟨jle rfl, jle rfl⟩ hk19 h (fun r21 S20 h => ?_)
  exact jx_iret kd218.2.2.2.2.2.2.2.1 rfl rfl (jle rfl) (jle rfl) ⟨_, rfl, h⟩
set_option maxRecDepth 100000 in
set_option maxHeartbeats 4000000 in
theorem T_X5_offer {E : jEnv} {d : Nat} {Q : jM → Prop} {a0 : Nat} {x1 : Int32} {S : jM} (h : ((jwi x1 5) = 0 → Q S) ∧ (¬ (jwi x1 5) = 0 → jk S a0 = 5 ∧ ∃ b6, jr S a0 2 = some b6 ∧ (jk S b6 = 12 ∧ vp_in x1 (jl S b6) ∧ (∃ b9, jr S a0 3 = some b9 ∧ (jk S b9 = 12 ∧ vp_in x1 (jl S b9) ∧ (∃ b12, jr S a0 4 = some b12 ∧ (jk S b12 = 12 ∧ vp_in x1 (jl S b12) ∧ (jFi E mX5_isBetter d 0 0 [.ref a0, .int (ji S b6 (Int32.toNatClampNeg x1)), .int (ji S b9 (Int32.toNatClampNeg x1)), .int (ji S b12 (Int32.toNatClampNeg x1))] S (fun r16 S15 => (r16 = 0 → Q S15) ∧ (¬ r16 = 0 → jk S15 a0 = 5 ∧ ∃ b19, jr S15 a0 2 = some b19 ∧ (jk S15 b19 = 12 ∧ vp_in x1 (jl S15 b19) ∧ (∃ b22, jr S15 a0 3 = some b22 ∧ (jk S15 b22 = 12 ∧ vp_in x1 (jl S15 b22) ∧ (∃ b25, jr S15 a0 4 = some b25 ∧ (jk S15 b25 = 12 ∧ vp_in x1 (jl S15 b25) ∧ (Q (jput (jput (jput S15 a0 9 (ji S15 b19 (Int32.toNatClampNeg x1))) a0 10 (ji S15 b22 (Int32.toNatClampNeg x1))) a0 11 (ji S15 b25 (Int32.toNatClampNeg x1))))))))))))))))))) : jFv E mX5_offer (d + 1) 0 0 [.ref a0, .int x1] S Q := by
  refine jF_of (by decide) (jle rfl) ?_
  refine jx_lv (lv1 := [(0, .ref a0), (1, .int x1)]) [0, 1] rfl ?_
  refine jx_iload_n 1 kd221.1 rfl rfl ?_
  refine jx_iconst (v := 5) kd221.2.1 (by decide) ?_
  refine jx_callSNi (M' := mX10_within) (As := [.int x1, .int 5]) (host := "NineMasters") jo_X10_within (by decide) jwS_X10_within kd221.2.2.1 (jRok_m _ _ _) rfl (jle rfl) ⟨jle rfl, jle rfl⟩ (c_X10_within (Q := fun v S' => v = (jwi x1 5) ∧ S = S') ⟨rfl, rfl⟩) (fun r1 S2 hq3 => ?_)
  obtain ⟨rfl, rfl⟩ := hq3
  refine jx_if_eq (tgt := 63) kd221.2.2.2.1 (by decide) (fun c4 => ?_) (fun c4 => ?_)
  · replace h := h.1 c4
    exact jx_vret kd225.2.1 rfl (jle rfl) (jle rfl) ⟨rfl, h⟩
  replace h := h.2 c4
  refine jx_aload_n 0 kd221.2.2.2.2.1 rfl rfl ?_
  refine jx_aload_n 0 kd221.2.2.2.2.2.1 rfl rfl ?_
  obtain ⟨hk5, h⟩ := h
  obtain ⟨b6, hb6, h⟩ := h
  refine jx_getr jc_5 (j := 2) (by decide) rfl jwF_X5_18 kd221.2.2.2.2.2.2.1 hk5 hb6 ?_
  refine jx_iload_n 1 kd221.2.2.2.2.2.2.2.1 rfl rfl ?_
  obtain ⟨hk7, h⟩ := h
  obtain ⟨hi8, h⟩ := h
  refine jx_iald kd221.2.2.2.2.2.2.2.2.1 hk7 hi8 ?_
  refine jx_aload_n 0 kd222.1 rfl rfl ?_
  obtain ⟨b9, hb9, h⟩ := h
  refine jx_getr jc_5 (j := 3) (by decide) rfl jwF_X5_21 kd222.2.1 hk5 hb9 ?_
  refine jx_iload_n 1 kd222.2.2.1 rfl rfl ?_
  obtain ⟨hk10, h⟩ := h
  obtain ⟨hi11, h⟩ := h
  refine jx_iald kd222.2.2.2.1 hk10 hi11 ?_
  refine jx_aload_n 0 kd222.2.2.2.2.1 rfl rfl ?_
  obtain ⟨b12, hb12, h⟩ := h
  refine jx_getr jc_5 (j := 4) (by decide) rfl jwF_X5_24 kd222.2.2.2.2.2.1 hk5 hb12 ?_
  refine jx_iload_n 1 kd222.2.2.2.2.2.2.1 rfl rfl ?_
  obtain ⟨hk13, h⟩ := h
  obtain ⟨hi14, h⟩ := h
  refine jx_iald kd222.2.2.2.2.2.2.2.1 hk13 hi14 ?_
  refine jx_callVi (M' := mX5_isBetter) (As := [.int (ji S b6 (Int32.toNatClampNeg x1)), .int (ji S b9 (Int32.toNatClampNeg x1)), .int (ji S b12 (Int32.toNatClampNeg x1))]) jo_X5_isBetter jc_5 rfl jwM_X5_156 jwN_X5_isBetter jwX_X5_isBetter kd222.2.2.2.2.2.2.2.2.1 (jRok_m _ _ _) rfl (jle rfl) ⟨jle rfl, jle rfl⟩ hk5 h (fun r16 S15 h => ?_)
  refine jx_if_eq (tgt := 63) kd223.1 (by decide) (fun c17 => ?_) (fun c17 => ?_)
  · replace h := h.1 c17
    exact jx_vret kd225.2.1 rfl (jle rfl) (jle rfl) ⟨rfl, h⟩
  replace h := h.2 c17
  refine jx_aload_n 0 kd223.2.1 rfl rfl ?_
  refine jx_aload_n 0 kd223.2.2.1 rfl rfl ?_
  obtain ⟨hk18, h⟩ := h
  obtain ⟨b19, hb19, h⟩ := h
  refine jx_getr jc_5 (j := 2) (by decide) rfl jwF_X5_18 kd223.2.2.2.1 hk18 hb19 ?_
  refine jx_iload_n 1 kd223.2.2.2.2.1 rfl rfl ?_
  obtain ⟨hk20, h⟩ := h
  obtain ⟨hi21, h⟩ := h
  refine jx_iald kd223.2.2.2.2.2.1 hk20 hi21 ?_
  refine jx_puti jc_5 (j := 9) (by decide) rfl jwF_X5_34 rfl rfl rfl kd223.2.2.2.2.2.2.1 hk18 ?_
  refine jx_aload_n 0 kd223.2.2.2.2.2.2.2.1 rfl rfl ?_
  refine jx_aload_n 0 kd223.2.2.2.2.2.2.2.2.1 rfl rfl ?_
  obtain ⟨b22, hb22, h⟩ := h
  refine jx_getr jc_5 (j := 3) (by decide) rfl jwF_X5_21 kd224.1 hk18 hb22 ?_
  refine jx_iload_n 1 kd224.2.1 rfl rfl ?_
  obtain ⟨hk23, h⟩ := h
  obtain ⟨hi24, h⟩ := h
  refine jx_iald kd224.2.2.1 hk23 hi24 ?_
  refine jx_topi (y := (ji S15 b22 (Int32.toNatClampNeg x1))) (by simp [ji_put, ji_row, ji_putr, jne hk23 hk18 (by decide)]) ?_
  refine jx_puti jc_5 (j := 10) (by decide) rfl jwF_X5_38 rfl rfl rfl kd224.2.2.2.1 hk18 ?_
  refine jx_aload_n 0 kd224.2.2.2.2.1 rfl rfl ?_
  refine jx_aload_n 0 kd224.2.2.2.2.2.1 rfl rfl ?_
  obtain ⟨b25, hb25, h⟩ := h
  refine jx_getr jc_5 (j := 4) (by decide) rfl jwF_X5_24 kd224.2.2.2.2.2.2.1 hk18 hb25 ?_
  refine jx_iload_n 1 kd224.2.2.2.2.2.2.2.1 rfl rfl ?_
  obtain ⟨hk26, h⟩ := h
  obtain ⟨hi27, h⟩ := h
  refine jx_iald kd224.2.2.2.2.2.2.2.2.1 hk26 hi27 ?_
  refine jx_topi (y := (ji S15 b25 (Int32.toNatClampNeg x1))) (by simp [ji_put, ji_row, ji_putr, jne hk26 hk18 (by decide), jne hk26 hk18 (by decide)]) ?_
  refine jx_puti jc_5 (j := 11) (by decide) rfl jwF_X5_41 rfl rfl rfl kd225.1 hk18 ?_
  exact jx_vret kd225.2.1 rfl (jle rfl) (jle rfl) ⟨rfl, h⟩
set_option maxRecDepth 100000 in
set_option maxHeartbeats 4000000 in
theorem T_X5_isBetter {E : jEnv} {d : Nat} {Q : Int32 → jM → Prop} {a0 : Nat} {x1 : Int32} {x2 : Int32} {x3 : Int32} {S : jM} (h : jk S a0 = 5 ∧ (x1 = (ji S a0 9) → (x2 = (ji S a0 10) → ((ji S a0 11) ≤ x3 → Q 0 S) ∧ (¬ (ji S a0 11) ≤ x3 → Q 1 S)) ∧ (¬ x2 = (ji S a0 10) → ((ji S a0 10) ≤ x2 → Q 0 S) ∧ (¬ (ji S a0 10) ≤ x2 → Q 1 S))) ∧ (¬ x1 = (ji S a0 9) → ((ji S a0 9) ≤ x1 → Q 0 S) ∧ (¬ (ji S a0 9) ≤ x1 → Q 1 S))) : jFi E mX5_isBetter d 0 0 [.ref a0, .int x1, .int x2, .int x3] S Q := by
  refine jF_of (by decide) (jle rfl) ?_
  refine jx_lv (lv1 := [(0, .ref a0), (1, .int x1), (2, .int x2), (3, .int x3)]) [0, 1, 2, 3] rfl ?_
  refine jx_iload_n 1 kd226.1 rfl rfl ?_
  refine jx_aload_n 0 kd226.2.1 rfl rfl ?_
  obtain ⟨hk1, h⟩ := h
  refine jx_geti jc_5 (j := 9) (by decide) rfl jwF_X5_34 kd226.2.2.1 hk1 ?_
  refine jx_icmp_eq (tgt := 22) kd226.2.2.2.1 (by decide) (fun c2 => ?_) (fun c2 => ?_)
  · replace h := h.1 c2
    refine jx_iload_n 2 kd227.2.2.2.1 rfl rfl ?_
    refine jx_aload_n 0 kd227.2.2.2.2.1 rfl rfl ?_
    refine jx_geti jc_5 (j := 10) (by decide) rfl jwF_X5_38 kd227.2.2.2.2.2.1 hk1 ?_
    refine jx_icmp_eq (tgt := 46) kd227.2.2.2.2.2.2.1 (by decide) (fun c3 => ?_) (fun c3 => ?_)
    · replace h := h.1 c3
      refine jx_iload_n 3 kd228.2.2.2.2.2.2.1 rfl rfl ?_
      refine jx_aload_n 0 kd228.2.2.2.2.2.2.2.1 rfl rfl ?_
      refine jx_geti jc_5 (j := 11) (by decide) rfl jwF_X5_41 kd228.2.2.2.2.2.2.2.2.1 hk1 ?_
      refine jx_icmp_ge (tgt := 58) kd229.1 (by decide) (fun c4 => ?_) (fun c4 => ?_)
      · replace h := h.1 c4
        refine jx_iconst (v := 0) kd229.2.2.2.1 (by decide) ?_
        exact jx_iret kd229.2.2.2.2.1 rfl (by decide) (jle rfl) (jle rfl) ⟨_, rfl, h⟩
      replace h := h.2 c4
      refine jx_iconst (v := 1) kd229.2.1 (by decide) ?_
      refine jx_goto (tgt := 59) kd229.2.2.1 (by decide) ?_
      exact jx_iret kd229.2.2.2.2.1 rfl (by decide) (jle rfl) (jle rfl) ⟨_, rfl, h⟩
    replace h := h.2 c3
    refine jx_iload_n 2 kd227.2.2.2.2.2.2.2.1 rfl rfl ?_
    refine jx_aload_n 0 kd227.2.2.2.2.2.2.2.2.1 rfl rfl ?_
    refine jx_geti jc_5 (j := 10) (by decide) rfl jwF_X5_38 kd228.1 hk1 ?_
    refine jx_icmp_ge (tgt := 42) kd228.2.1 (by decide) (fun c5 => ?_) (fun c5 => ?_)
    · replace h := h.1 c5
      refine jx_iconst (v := 0) kd228.2.2.2.2.1 (by decide) ?_
      refine jx_goto (tgt := 59) kd228.2.2.2.2.2.1 (by decide) ?_
      exact jx_iret kd229.2.2.2.2.1 rfl (by decide) (jle rfl) (jle rfl) ⟨_, rfl, h⟩
    replace h := h.2 c5
    refine jx_iconst (v := 1) kd228.2.2.1 (by decide) ?_
    refine jx_goto (tgt := 59) kd228.2.2.2.1 (by decide) ?_
    exact jx_iret kd229.2.2.2.2.1 rfl (by decide) (jle rfl) (jle rfl) ⟨_, rfl, h⟩
  replace h := h.2 c2
  refine jx_iload_n 1 kd226.2.2.2.2.1 rfl rfl ?_
  refine jx_aload_n 0 kd226.2.2.2.2.2.1 rfl rfl ?_
  refine jx_geti jc_5 (j := 9) (by decide) rfl jwF_X5_34 kd226.2.2.2.2.2.2.1 hk1 ?_
  refine jx_icmp_ge (tgt := 20) kd226.2.2.2.2.2.2.2.1 (by decide) (fun c6 => ?_) (fun c6 => ?_)
  · replace h := h.1 c6
    refine jx_iconst (v := 0) kd227.2.1 (by decide) ?_
    exact jx_iret kd227.2.2.1 rfl (by decide) (jle rfl) (jle rfl) ⟨_, rfl, h⟩
  replace h := h.2 c6
  refine jx_iconst (v := 1) kd226.2.2.2.2.2.2.2.2.1 (by decide) ?_
  refine jx_goto (tgt := 21) kd227.1 (by decide) ?_
  exact jx_iret kd227.2.2.1 rfl (by decide) (jle rfl) (jle rfl) ⟨_, rfl, h⟩
end
section
/-- X10_init at its loop's head 85 -/
abbrev L_X10_init_85 (E : jEnv) (d : Nat) (Q : jM → Prop) (a0 : Nat) (x1 : Int32) (S : jM) (c9 k9 : Nat) : Prop := jX E mX10_init (jRm (d + 1) 93 1196) (jZm E (fun r S' => r = none ∧ Q S') 93 1196) 85 [(0, .ref a0), (1, .int x1)] [] S c9 k9
/-- X10_init at its loop's head 111 -/
abbrev L_X10_init_111 (E : jEnv) (d : Nat) (Q : jM → Prop) (a0 : Nat) (x1 : Int32) (S : jM) (c9 k9 : Nat) : Prop := jX E mX10_init (jRm (d + 1) 93 1196) (jZm E (fun r S' => r = none ∧ Q S') 93 1196) 111 [(0, .ref a0), (1, .int x1)] [] S c9 k9
set_option maxRecDepth 100000 in
set_option maxHeartbeats 4000000 in
theorem T_X10_init {E : jEnv} {d : Nat} {Q : jM → Prop} {a0 : Nat} {S : jM} (h : ∀ q1, q1 = jn S → jFv E mX3_init d 19 196 [.ref q1] (jnew S 3 0) (fun S2 => jk S2 a0 = 10 ∧ ∀ q5, q5 = jn (jputr S2 a0 0 (some q1)) → jFv E mX3_init d 19 196 [.ref q5] (jnew (jputr S2 a0 0 (some q1)) 3 0) (fun S6 => jk S6 a0 = 10 ∧ ∀ q9, q9 = jn (jputr S6 a0 1 (some q5)) → jFv E mX0_init d 10 72 [.ref q9] (jnew (jputr S6 a0 1 (some q5)) 0 0) (fun S10 => jk S10 a0 = 10 ∧ ∀ q13, q13 = jn (jputr S10 a0 3 (some q9)) → jFv E mX5_init d 7 134 [.ref q13] (jnew (jputr S10 a0 3 (some q9)) 5 0) (fun S14 => jk S14 a0 = 10 ∧ ∀ q17, q17 = jn (jputr S14 a0 4 (some q13)) → jFv E mX8_init d 2 192 [.ref q17] (jnew (jputr S14 a0 4 (some q13)) 8 0) (fun S18 => jk S18 a0 = 10 ∧ ∀ q21, q21 = jn (jputr S18 a0 5 (some q17)) → jk (jnew (jputr S18 a0 5 (some q17)) 14 4) a0 = 10 ∧ ∀ q24, q24 = jn (jputr (jnew (jputr S18 a0 5 (some q17)) 14 4) a0 6 (some q21)) → jk (jnew (jputr (jnew (jputr S18 a0 5 (some q17)) 14 4) a0 6 (some q21)) 15 5) a0 = 10 ∧ ∀ q27, q27 = jn (jputr (jnew (jputr (jnew (jputr S18 a0 5 (some q17)) 14 4) a0 6 (some q21)) 15 5) a0 7 (some q24)) → jk (jnew (jputr (jnew (jputr (jnew (jputr S18 a0 5 (some q17)) 14 4) a0 6 (some q21)) 15 5) a0 7 (some q24)) 12 60) a0 = 10 ∧ L_X10_init_85 E d Q a0 0 (jputr (jnew (jputr (jnew (jputr (jnew (jputr S18 a0 5 (some q17)) 14 4) a0 6 (some q21)) 15 5) a0 7 (some q24)) 12 60) a0 8 (some q27)) 65 898)))))) : jFv E mX10_init (d + 1) 93 1196 [.ref a0] S Q := by
  refine jF_of (by decide) (jle rfl) ?_
  refine jx_lv (lv1 := [(0, .ref a0)]) [0] rfl ?_
  refine jx_aload_n 0 kd339.1 rfl rfl ?_
  refine jx_objInit jwM_X10_3 jwN_obj jwO_obj kd339.2.1 (jRok_m _ _ _) (jle rfl) ?_
  refine jx_aload_n 0 kd339.2.2.1 rfl rfl ?_
  refine jx_new jc_3 jwK_X10_9 jwI_X3 jwZ_X3 jdv_3 kd339.2.2.2.1 ⟨jle rfl, jle rfl⟩ ?_
  obtain ⟨q1, hq1⟩ : ∃ q, q = jn S := ⟨_, rfl⟩
  rw [← hq1]
  replace h := h q1 hq1
  refine jx_dup kd339.2.2.2.2.1 rfl ?_
  refine jx_callINv (M' := mX3_init) (As := []) (b := q1) (host := "NineMasters") jo_X3_init rfl (by decide) jwN_X3_init rfl kd339.2.2.2.2.2.1 (jRok_m _ _ _) rfl (jle rfl) ⟨jle rfl, jle rfl⟩ h (fun S2 h => ?_)
  obtain ⟨hk3, h⟩ := h
  refine jx_putrF jc_10 (j := 0) (by decide) rfl jwF_X10_12 rfl rfl rfl rfl rfl kd339.2.2.2.2.2.2.1 hk3 ?_
  refine jx_aload_n 0 kd339.2.2.2.2.2.2.2.1 rfl rfl ?_
  refine jx_new jc_3 jwK_X10_9 jwI_X3 jwZ_X3 jdv_3 kd339.2.2.2.2.2.2.2.2.1 ⟨jle rfl, jle rfl⟩ ?_
  obtain ⟨q5, hq5⟩ : ∃ q, q = jn (jputr S2 a0 0 (some q1)) := ⟨_, rfl⟩
  rw [← hq5]
  replace h := h q5 hq5
  refine jx_dup kd340.1 rfl ?_
  refine jx_callINv (M' := mX3_init) (As := []) (b := q5) (host := "NineMasters") jo_X3_init rfl (by decide) jwN_X3_init rfl kd340.2.1 (jRok_m _ _ _) rfl (jle rfl) ⟨jle rfl, jle rfl⟩ h (fun S6 h => ?_)
  obtain ⟨hk7, h⟩ := h
  refine jx_putrF jc_10 (j := 1) (by decide) rfl jwF_X10_16 rfl rfl rfl rfl rfl kd340.2.2.1 hk7 ?_
  refine jx_aload_n 0 kd340.2.2.2.1 rfl rfl ?_
  refine jx_new jc_0 jwK_X10_19 jwI_X0 jwZ_X0 jdv_0 kd340.2.2.2.2.1 ⟨jle rfl, jle rfl⟩ ?_
  obtain ⟨q9, hq9⟩ : ∃ q, q = jn (jputr S6 a0 1 (some q5)) := ⟨_, rfl⟩
  rw [← hq9]
  replace h := h q9 hq9
  refine jx_dup kd340.2.2.2.2.2.1 rfl ?_
  refine jx_callIv (M' := mX0_init) (As := []) (b := q9) jo_X0_init rfl jwM_X10_21 jwN_X0_init rfl kd340.2.2.2.2.2.2.1 (jRok_m _ _ _) rfl (jle rfl) ⟨jle rfl, jle rfl⟩ h (fun S10 h => ?_)
  obtain ⟨hk11, h⟩ := h
  refine jx_putrF jc_10 (j := 3) (by decide) rfl jwF_X10_22 rfl rfl rfl rfl rfl kd340.2.2.2.2.2.2.2.1 hk11 ?_
  refine jx_aload_n 0 kd340.2.2.2.2.2.2.2.2.1 rfl rfl ?_
  refine jx_new jc_5 jwK_X10_26 jwI_X5 jwZ_X5 jdv_5 kd341.1 ⟨jle rfl, jle rfl⟩ ?_
  obtain ⟨q13, hq13⟩ : ∃ q, q = jn (jputr S10 a0 3 (some q9)) := ⟨_, rfl⟩
  rw [← hq13]
  replace h := h q13 hq13
  refine jx_dup kd341.2.1 rfl ?_
  refine jx_callINv (M' := mX5_init) (As := []) (b := q13) (host := "NineMasters") jo_X5_init rfl (by decide) jwN_X5_init rfl kd341.2.2.1 (jRok_m _ _ _) rfl (jle rfl) ⟨jle rfl, jle rfl⟩ h (fun S14 h => ?_)
  obtain ⟨hk15, h⟩ := h
  refine jx_putrF jc_10 (j := 4) (by decide) rfl jwF_X10_29 rfl rfl rfl rfl rfl kd341.2.2.2.1 hk15 ?_
  refine jx_aload_n 0 kd341.2.2.2.2.1 rfl rfl ?_
  refine jx_new jc_8 jwK_X10_33 jwI_X8 jwZ_X8 jdv_8 kd341.2.2.2.2.2.1 ⟨jle rfl, jle rfl⟩ ?_
  obtain ⟨q17, hq17⟩ : ∃ q, q = jn (jputr S14 a0 4 (some q13)) := ⟨_, rfl⟩
  rw [← hq17]
  replace h := h q17 hq17
  refine jx_dup kd341.2.2.2.2.2.2.1 rfl ?_
  refine jx_callINv (M' := mX8_init) (As := []) (b := q17) (host := "NineMasters") jo_X8_init rfl (by decide) jwN_X8_init rfl kd341.2.2.2.2.2.2.2.1 (jRok_m _ _ _) rfl (jle rfl) ⟨jle rfl, jle rfl⟩ h (fun S18 h => ?_)
  obtain ⟨hk19, h⟩ := h
  refine jx_putrF jc_10 (j := 5) (by decide) rfl jwF_X10_36 rfl rfl rfl rfl rfl kd341.2.2.2.2.2.2.2.2.1 hk19 ?_
  refine jx_aload_n 0 kd342.1 rfl rfl ?_
  refine jx_iconst (v := 4) kd342.2.1 (by decide) ?_
  refine jx_anew (kk := 14) (N := 4) jc_6 (by decide) (by decide) rfl jwK_X10_40 kd342.2.2.1 (by decide) (by decide) (by decide) ⟨jle rfl, jle rfl⟩ ?_
  obtain ⟨q21, hq21⟩ : ∃ q, q = jn (jputr S18 a0 5 (some q17)) := ⟨_, rfl⟩
  rw [← hq21]
  replace h := h q21 hq21
  obtain ⟨hk22, h⟩ := h
  refine jx_putrF jc_10 (j := 6) (by decide) rfl jwF_X10_42 rfl rfl rfl rfl rfl kd342.2.2.2.1 hk22 ?_
  refine jx_aload_n 0 kd342.2.2.2.2.1 rfl rfl ?_
  refine jx_iconst (v := 5) kd342.2.2.2.2.2.1 (by decide) ?_
  refine jx_anew (kk := 15) (N := 5) jc_7 (by decide) (by decide) rfl jwK_X10_46 kd342.2.2.2.2.2.2.1 (by decide) (by decide) (by decide) ⟨jle rfl, jle rfl⟩ ?_
  obtain ⟨q24, hq24⟩ : ∃ q, q = jn (jputr (jnew (jputr S18 a0 5 (some q17)) 14 4) a0 6 (some q21)) := ⟨_, rfl⟩
  rw [← hq24]
  replace h := h q24 hq24
  obtain ⟨hk25, h⟩ := h
  refine jx_putrF jc_10 (j := 7) (by decide) rfl jwF_X10_48 rfl rfl rfl rfl rfl kd342.2.2.2.2.2.2.2.1 hk25 ?_
  refine jx_aload_n 0 kd342.2.2.2.2.2.2.2.2.1 rfl rfl ?_
  refine jx_bipush (v := 60) kd343.1 (by decide) ?_
  refine jx_newa (N := 60) jwA kd343.2.1 (by decide) (by decide) (by decide) ⟨jle rfl, jle rfl⟩ ?_
  obtain ⟨q27, hq27⟩ : ∃ q, q = jn (jputr (jnew (jputr (jnew (jputr S18 a0 5 (some q17)) 14 4) a0 6 (some q21)) 15 5) a0 7 (some q24)) := ⟨_, rfl⟩
  rw [← hq27]
  replace h := h q27 hq27
  obtain ⟨hk28, h⟩ := h
  refine jx_putrF jc_10 (j := 8) (by decide) rfl jwF_X10_52 rfl rfl rfl rfl rfl kd343.2.2.1 hk28 ?_
  refine jx_iconst (v := 0) kd343.2.2.2.1 (by decide) ?_
  refine jx_istore_n (lv1 := [(1, .int 0), (0, .ref a0)]) kd343.2.2.2.2.1 rfl (by decide) rfl ?_
  exact jx_lv [1, 0] rfl h
set_option maxRecDepth 100000 in
set_option maxHeartbeats 4000000 in
theorem T_X10_init_85 {E : jEnv} {d : Nat} {Q : jM → Prop} {a0 : Nat} {x1 : Int32} {S : jM} {c9 k9 : Nat} (h : (4 ≤ x1 → L_X10_init_111 E d Q a0 0 S c9 k9) ∧ (¬ 4 ≤ x1 → jk S a0 = 10 ∧ ∃ b32, jr S a0 6 = some b32 ∧ ((c9 + 1 ≤ 93 ∧ k9 + 3 ≤ 1196) ∧ ∀ q34, q34 = jn S → ((c9 + 1) + 1 ≤ 93 ∧ (k9 + 3) + 24 ≤ 1196) ∧ jFv E mX6_init d 1 24 [.ref q34] (jnew S 6 0) (fun S36 => jk S36 b32 = 14 ∧ jk S36 q34 = 6 ∧ vp_in x1 (jl S36 b32) ∧ (L_X10_init_85 E d Q a0 (x1 + 1) (jputr S36 b32 (Int32.toNatClampNeg x1) (some q34)) ((c9 + 1) + 1) ((k9 + 3) + 24)))))) : L_X10_init_85 E d Q a0 x1 S c9 k9 := by
  show jX E mX10_init (jRm (d + 1) 93 1196) (jZm E (fun r S' => r = none ∧ Q S') 93 1196) 85 [(0, .ref a0), (1, .int x1)] [] S c9 k9
  refine jx_iload_n 1 kd343.2.2.2.2.2.1 rfl rfl ?_
  refine jx_iconst (v := 4) kd343.2.2.2.2.2.2.1 (by decide) ?_
  refine jx_icmp_ge (tgt := 109) kd343.2.2.2.2.2.2.2.1 (by decide) (fun c30 => ?_) (fun c30 => ?_)
  · replace h := h.1 c30
    refine jx_iconst (v := 0) kd344.2.2.2.2.2.2.2.2.1 (by decide) ?_
    refine jx_istore_n (lv1 := [(1, .int 0), (0, .ref a0)]) kd345.1 rfl (by decide) rfl ?_
    exact jx_lv [1, 0] rfl h
  replace h := h.2 c30
  refine jx_aload_n 0 kd343.2.2.2.2.2.2.2.2.1 rfl rfl ?_
  obtain ⟨hk31, h⟩ := h
  obtain ⟨b32, hb32, h⟩ := h
  refine jx_getr jc_10 (j := 6) (by decide) rfl jwF_X10_42 kd344.1 hk31 hb32 ?_
  refine jx_iload_n 1 kd344.2.1 rfl rfl ?_
  obtain ⟨hm33, h⟩ := h
  refine jx_new jc_6 jwK_X10_40 jwI_X6 jwZ_X6 jdv_6 kd344.2.2.1 hm33 ?_
  obtain ⟨q34, hq34⟩ : ∃ q, q = jn S := ⟨_, rfl⟩
  rw [← hq34]
  replace h := h q34 hq34
  refine jx_dup kd344.2.2.2.1 rfl ?_
  obtain ⟨hm35, h⟩ := h
  refine jx_callINv (M' := mX6_init) (As := []) (b := q34) (host := "NineMasters") jo_X6_init rfl (by decide) jwN_X6_init rfl kd344.2.2.2.2.1 (jRok_m _ _ _) rfl (jle rfl) hm35 h (fun S36 h => ?_)
  obtain ⟨hk37, h⟩ := h
  obtain ⟨hk39, h⟩ := h
  obtain ⟨hi38, h⟩ := h
  refine jx_aast kd344.2.2.2.2.2.1 hk37 (by decide) (by decide) jc_6 rfl hk39 hi38 ?_
  refine jx_iinc 1 (v := (x1 + 1)) (lv1 := [(1, .int (x1 + 1)), (0, .ref a0)]) kd344.2.2.2.2.2.2.1 rfl rfl (by decide) rfl ?_
  refine jx_goto (tgt := 85) kd344.2.2.2.2.2.2.2.1 (by decide) ?_
  exact jx_lv [1, 0] rfl h
set_option maxRecDepth 100000 in
set_option maxHeartbeats 4000000 in
theorem T_X10_init_111 {E : jEnv} {d : Nat} {Q : jM → Prop} {a0 : Nat} {x1 : Int32} {S : jM} {c9 k9 : Nat} (h : (5 ≤ x1 → (c9 ≤ 93 ∧ k9 ≤ 1196) ∧ Q S) ∧ (¬ 5 ≤ x1 → jk S a0 = 10 ∧ ∃ b43, jr S a0 7 = some b43 ∧ ((c9 + 1 ≤ 93 ∧ k9 + 4 ≤ 1196) ∧ ∀ q45, q45 = jn S → ((c9 + 1) + 3 ≤ 93 ∧ (k9 + 4) + 34 ≤ 1196) ∧ jFv E mX7_init d 3 34 [.ref q45] (jnew S 7 0) (fun S47 => jk S47 b43 = 15 ∧ jk S47 q45 = 7 ∧ vp_in x1 (jl S47 b43) ∧ (L_X10_init_111 E d Q a0 (x1 + 1) (jputr S47 b43 (Int32.toNatClampNeg x1) (some q45)) ((c9 + 1) + 3) ((k9 + 4) + 34)))))) : L_X10_init_111 E d Q a0 x1 S c9 k9 := by
  show jX E mX10_init (jRm (d + 1) 93 1196) (jZm E (fun r S' => r = none ∧ Q S') 93 1196) 111 [(0, .ref a0), (1, .int x1)] [] S c9 k9
  refine jx_iload_n 1 kd345.2.1 rfl rfl ?_
  refine jx_iconst (v := 5) kd345.2.2.1 (by decide) ?_
  refine jx_icmp_ge (tgt := 135) kd345.2.2.2.1 (by decide) (fun c40 => ?_) (fun c40 => ?_)
  · replace h := h.1 c40
    obtain ⟨hm41, h⟩ := h
    exact jx_vret kd346.2.2.2.2.1 rfl hm41.1 hm41.2 ⟨rfl, h⟩
  replace h := h.2 c40
  refine jx_aload_n 0 kd345.2.2.2.2.1 rfl rfl ?_
  obtain ⟨hk42, h⟩ := h
  obtain ⟨b43, hb43, h⟩ := h
  refine jx_getr jc_10 (j := 7) (by decide) rfl jwF_X10_48 kd345.2.2.2.2.2.1 hk42 hb43 ?_
  refine jx_iload_n 1 kd345.2.2.2.2.2.2.1 rfl rfl ?_
  obtain ⟨hm44, h⟩ := h
  refine jx_new jc_7 jwK_X10_46 jwI_X7 jwZ_X7 jdv_7 kd345.2.2.2.2.2.2.2.1 hm44 ?_
  obtain ⟨q45, hq45⟩ : ∃ q, q = jn S := ⟨_, rfl⟩
  rw [← hq45]
  replace h := h q45 hq45
  refine jx_dup kd345.2.2.2.2.2.2.2.2.1 rfl ?_
  obtain ⟨hm46, h⟩ := h
  refine jx_callINv (M' := mX7_init) (As := []) (b := q45) (host := "NineMasters") jo_X7_init rfl (by decide) jwN_X7_init rfl kd346.1 (jRok_m _ _ _) rfl (jle rfl) hm46 h (fun S47 h => ?_)
  obtain ⟨hk48, h⟩ := h
  obtain ⟨hk50, h⟩ := h
  obtain ⟨hi49, h⟩ := h
  refine jx_aast kd346.2.1 hk48 (by decide) (by decide) jc_7 rfl hk50 hi49 ?_
  refine jx_iinc 1 (v := (x1 + 1)) (lv1 := [(1, .int (x1 + 1)), (0, .ref a0)]) kd346.2.2.1 rfl rfl (by decide) rfl ?_
  refine jx_goto (tgt := 111) kd346.2.2.2.1 (by decide) ?_
  exact jx_lv [1, 0] rfl h
set_option maxRecDepth 100000 in
set_option maxHeartbeats 4000000 in
theorem T_X10_master {E : jEnv} {d : Nat} {Q : Int32 → jM → Prop} {a0 : Nat} {x1 : Int32} {x2 : Int32} {x3 : Int32} {x4 : Int32} {S : jM} (h : ((jwi x1 6) = 0 → Q (-1000000001) S) ∧ (¬ (jwi x1 6) = 0 → ((jwi x2 6) = 0 → Q (-1000000001) S) ∧ (¬ (jwi x2 6) = 0 → ((jwi x3 10) = 0 → Q (-1000000001) S) ∧ (¬ (jwi x3 10) = 0 → ((jwi x4 100) = 0 → Q (-1000000001) S) ∧ (¬ (jwi x4 100) = 0 → jk S a0 = 10 ∧ ∃ b18, jr S a0 0 = some b18 ∧ (jk S b18 = 3 ∧ ∃ b20, jr S b18 0 = some b20 ∧ (jk S b20 = 0 ∧ jFi E mX0_join d 0 0 [.ref b20, .int x1, .int x2, .int x3, .int x4] S (fun r23 S22 => (r23 = 0 → Q (-1000000003) S22) ∧ (¬ r23 = 0 → Q (ji S b20 1) S22))))))))) : jFi E mX10_master (d + 1) 0 0 [.ref a0, .int x1, .int x2, .int x3, .int x4] S Q := by
  refine jF_of (by decide) (jle rfl) ?_
  refine jx_lv (lv1 := [(0, .ref a0), (1, .int x1), (2, .int x2), (3, .int x3), (4, .int x4)]) [0, 1, 2, 3, 4] rfl ?_
  refine jx_iload_n 1 kd347.1 rfl rfl ?_
  refine jx_bipush (v := 6) kd347.2.1 (by decide) ?_
  refine jx_callSi (M' := mX10_within) (As := [.int x1, .int 6]) jo_X10_within jwM_X10_58 jwS_X10_within kd347.2.2.1 (jRok_m _ _ _) rfl (jle rfl) ⟨jle rfl, jle rfl⟩ (c_X10_within (Q := fun v S' => v = (jwi x1 6) ∧ S = S') ⟨rfl, rfl⟩) (fun r1 S2 hq3 => ?_)
  obtain ⟨rfl, rfl⟩ := hq3
  refine jx_if_eq (tgt := 37) kd347.2.2.2.1 (by decide) (fun c4 => ?_) (fun c4 => ?_)
  · replace h := h.1 c4
    refine jx_ldc jwC_X10_62 kd348.2.2.2.2.2.2.2.1 ?_
    exact jx_iret kd348.2.2.2.2.2.2.2.2.1 rfl rfl (jle rfl) (jle rfl) ⟨_, rfl, h⟩
  replace h := h.2 c4
  refine jx_iload_n 2 kd347.2.2.2.2.1 rfl rfl ?_
  refine jx_bipush (v := 6) kd347.2.2.2.2.2.1 (by decide) ?_
  refine jx_callSi (M' := mX10_within) (As := [.int x2, .int 6]) jo_X10_within jwM_X10_58 jwS_X10_within kd347.2.2.2.2.2.2.1 (jRok_m _ _ _) rfl (jle rfl) ⟨jle rfl, jle rfl⟩ (c_X10_within (Q := fun v S' => v = (jwi x2 6) ∧ S = S') ⟨rfl, rfl⟩) (fun r5 S6 hq7 => ?_)
  obtain ⟨rfl, rfl⟩ := hq7
  refine jx_if_eq (tgt := 37) kd347.2.2.2.2.2.2.2.1 (by decide) (fun c8 => ?_) (fun c8 => ?_)
  · replace h := h.1 c8
    refine jx_ldc jwC_X10_62 kd348.2.2.2.2.2.2.2.1 ?_
    exact jx_iret kd348.2.2.2.2.2.2.2.2.1 rfl rfl (jle rfl) (jle rfl) ⟨_, rfl, h⟩
  replace h := h.2 c8
  refine jx_iload_n 3 kd347.2.2.2.2.2.2.2.2.1 rfl rfl ?_
  refine jx_bipush (v := 10) kd348.1 (by decide) ?_
  refine jx_callSi (M' := mX10_within) (As := [.int x3, .int 10]) jo_X10_within jwM_X10_58 jwS_X10_within kd348.2.1 (jRok_m _ _ _) rfl (jle rfl) ⟨jle rfl, jle rfl⟩ (c_X10_within (Q := fun v S' => v = (jwi x3 10) ∧ S = S') ⟨rfl, rfl⟩) (fun r9 S10 hq11 => ?_)
  obtain ⟨rfl, rfl⟩ := hq11
  refine jx_if_eq (tgt := 37) kd348.2.2.1 (by decide) (fun c12 => ?_) (fun c12 => ?_)
  · replace h := h.1 c12
    refine jx_ldc jwC_X10_62 kd348.2.2.2.2.2.2.2.1 ?_
    exact jx_iret kd348.2.2.2.2.2.2.2.2.1 rfl rfl (jle rfl) (jle rfl) ⟨_, rfl, h⟩
  replace h := h.2 c12
  refine jx_iload 4 kd348.2.2.2.1 rfl ?_
  refine jx_bipush (v := 100) kd348.2.2.2.2.1 (by decide) ?_
  refine jx_callSi (M' := mX10_within) (As := [.int x4, .int 100]) jo_X10_within jwM_X10_58 jwS_X10_within kd348.2.2.2.2.2.1 (jRok_m _ _ _) rfl (jle rfl) ⟨jle rfl, jle rfl⟩ (c_X10_within (Q := fun v S' => v = (jwi x4 100) ∧ S = S') ⟨rfl, rfl⟩) (fun r13 S14 hq15 => ?_)
  obtain ⟨rfl, rfl⟩ := hq15
  refine jx_if_ne (tgt := 40) kd348.2.2.2.2.2.2.1 (by decide) (fun c16 => ?_) (fun c16 => ?_)
  · replace h := h.2 c16
    refine jx_aload_n 0 kd349.1 rfl rfl ?_
    obtain ⟨hk17, h⟩ := h
    obtain ⟨b18, hb18, h⟩ := h
    refine jx_getr jc_10 (j := 0) (by decide) rfl jwF_X10_12 kd349.2.1 hk17 hb18 ?_
    obtain ⟨hk19, h⟩ := h
    obtain ⟨b20, hb20, h⟩ := h
    refine jx_getr jc_3 (j := 0) (by decide) rfl jwF_X10_63 kd349.2.2.1 hk19 hb20 ?_
    obtain ⟨hk21, h⟩ := h
    refine jx_geti jc_0 (j := 1) (by decide) rfl jwF_X10_66 kd349.2.2.2.1 hk21 ?_
    refine jx_istore (lv1 := [(5, .int (ji S b20 1)), (0, .ref a0), (1, .int x1), (2, .int x2), (3, .int x3), (4, .int x4)]) kd349.2.2.2.2.1 (by decide) rfl ?_
    refine jx_aload_n 1 kd349.2.2.2.2.2.1 rfl rfl ?_
    refine jx_getr jc_10 (j := 0) (by decide) rfl jwF_X10_12 kd349.2.2.2.2.2.2.1 hk17 hb18 ?_
    refine jx_getr jc_3 (j := 0) (by decide) rfl jwF_X10_63 kd349.2.2.2.2.2.2.2.1 hk19 hb20 ?_
    refine jx_iload_n 2 kd349.2.2.2.2.2.2.2.2.1 rfl rfl ?_
    refine jx_iload_n 3 kd350.1 rfl rfl ?_
    refine jx_iload_n 4 kd350.2.1 rfl rfl ?_
    refine jx_iload 5 kd350.2.2.1 rfl ?_
    refine jx_callVi (M' := mX0_join) (As := [.int x1, .int x2, .int x3, .int x4]) jo_X0_join jc_0 rfl jwM_X10_70 jwN_X0_join jwX_X0_join kd350.2.2.2.1 (jRok_m _ _ _) rfl (jle rfl) ⟨jle rfl, jle rfl⟩ hk21 h (fun r23 S22 h => ?_)
    refine jx_if_eq (tgt := 75) kd350.2.2.2.2.1 (by decide) (fun c24 => ?_) (fun c24 => ?_)
    · replace h := h.1 c24
      refine jx_ldc jwC_X10_74 kd350.2.2.2.2.2.2.2.1 ?_
      exact jx_iret kd350.2.2.2.2.2.2.2.2.1 rfl rfl (jle rfl) (jle rfl) ⟨_, rfl, h⟩
    replace h := h.2 c24
    refine jx_iload 0 kd350.2.2.2.2.2.1 rfl ?_
    refine jx_goto (tgt := 77) kd350.2.2.2.2.2.2.1 (by decide) ?_
    exact jx_iret kd350.2.2.2.2.2.2.2.2.1 rfl rfl (jle rfl) (jle rfl) ⟨_, rfl, h⟩
  replace h := h.1 c16
  refine jx_ldc jwC_X10_62 kd348.2.2.2.2.2.2.2.1 ?_
  exact jx_iret kd348.2.2.2.2.2.2.2.2.1 rfl rfl (jle rfl) (jle rfl) ⟨_, rfl, h⟩
set_option maxRecDepth 100000 in
set_option maxHeartbeats 4000000 in
theorem T_X10_told {E : jEnv} {d : Nat} {Q : Int32 → jM → Prop} {a0 : Nat} {x1 : Int32} {x2 : Int32} {S : jM} (h : jk S a0 = 10 ∧ ∃ b2, jr S a0 0 = some b2 ∧ (jk S b2 = 3 ∧ ∃ b4, jr S b2 0 = some b4 ∧ (jk S b4 = 0 ∧ jFr E mX0_find d 0 0 [.ref b4, .int x1] S (fun o7 S6 => (o7 = none → Q (-1000000001) S6) ∧ (∀ b8, o7 = some b8 → jk S6 a0 = 10 ∧ ∃ b10, jr S6 a0 0 = some b10 ∧ (jk S6 b10 = 3 ∧ ∃ b12, jr S6 b10 2 = some b12 ∧ ((x2 = 0 → jk S6 b8 = 2 ∧ Q (ji S6 b8 0) S6) ∧ (x2 = 1 → jk S6 b8 = 2 ∧ Q (ji S6 b8 1) S6) ∧ (x2 = 2 → jk S6 b8 = 2 ∧ Q (ji S6 b8 2) S6) ∧ (x2 = 3 → jk S6 b8 = 2 ∧ Q (ji S6 b8 3) S6) ∧ (x2 = 4 → jk S6 b8 = 2 ∧ Q (ji S6 b8 4) S6) ∧ (x2 = 5 → jk S6 b8 = 2 ∧ Q (ji S6 b8 5) S6) ∧ (x2 = 6 → jk S6 b8 = 2 ∧ ((ji S6 b8 6) = 0 → Q 0 S6) ∧ (¬ (ji S6 b8 6) = 0 → Q 1 S6)) ∧ (x2 = 7 → jk S6 b12 = 1 ∧ jFi E mX3_daysTaken d 0 0 [.ref b10, .ref b8, .int (jbc (ji S6 b12 1))] S6 (fun r34 S33 => Q r34 S33)) ∧ (x2 = 8 → jk S6 b12 = 1 ∧ jk S6 b8 = 2 ∧ jFi E mX2_teaches d 0 0 [.ref b8, .int (ji S6 b12 1)] S6 (fun r39 S38 => (r39 = 0 → Q 0 S38) ∧ (¬ r39 = 0 → Q 1 S38))) ∧ (x2 = 9 → jk S6 b8 = 2 ∧ jFi E mX2_worth d 0 0 [.ref b8] S6 (fun r44 S43 => Q r44 S43)) ∧ (¬ x2 = 0 → ¬ x2 = 1 → ¬ x2 = 2 → ¬ x2 = 3 → ¬ x2 = 4 → ¬ x2 = 5 → ¬ x2 = 6 → ¬ x2 = 7 → ¬ x2 = 8 → ¬ x2 = 9 → Q (-1000000001) S6)))))))) : jFi E mX10_told (d + 1) 0 0 [.ref a0, .int x1, .int x2] S Q := by
  refine jF_of (by decide) (jle rfl) ?_
  refine jx_lv (lv1 := [(0, .ref a0), (1, .int x1), (2, .int x2)]) [0, 1, 2] rfl ?_
  refine jx_aload_n 0 kd351.1 rfl rfl ?_
  obtain ⟨hk1, h⟩ := h
  obtain ⟨b2, hb2, h⟩ := h
  refine jx_getr jc_10 (j := 0) (by decide) rfl jwF_X10_12 kd351.2.1 hk1 hb2 ?_
  obtain ⟨hk3, h⟩ := h
  obtain ⟨b4, hb4, h⟩ := h
  refine jx_getr jc_3 (j := 0) (by decide) rfl jwF_X10_63 kd351.2.2.1 hk3 hb4 ?_
  refine jx_iload_n 1 kd351.2.2.2.1 rfl rfl ?_
  obtain ⟨hk5, h⟩ := h
  refine jx_callVr (M' := mX0_find) (As := [.int x1]) jo_X0_find jc_0 rfl jwM_X10_75 jwN_X0_find jwX_X0_find kd351.2.2.2.2.1 (jRok_m _ _ _) rfl (jle rfl) ⟨jle rfl, jle rfl⟩ hk5 h (fun o7 S6 h => ?_)
  rcases o7 with _ | b8
  · replace h := h.1 rfl
    refine jx_astore_nN (lv1 := [(3, .null), (0, .ref a0), (1, .int x1), (2, .int x2)]) kd351.2.2.2.2.2.1 rfl (by decide) rfl ?_
    refine jx_aload_nN 0 kd351.2.2.2.2.2.2.1 rfl rfl ?_
    refine jx_ifnonnullN kd351.2.2.2.2.2.2.2.1 ?_
    refine jx_ldc jwC_X10_62 kd351.2.2.2.2.2.2.2.2.1 ?_
    exact jx_iret kd352.1 rfl rfl (jle rfl) (jle rfl) ⟨_, rfl, h⟩
  replace h := h.2 b8 rfl
  refine jx_astore_n (lv1 := [(3, .ref b8), (0, .ref a0), (1, .int x1), (2, .int x2)]) kd351.2.2.2.2.2.1 rfl (by decide) rfl ?_
  refine jx_aload_n 0 kd351.2.2.2.2.2.2.1 rfl rfl ?_
  refine jx_ifnonnull (tgt := 19) kd351.2.2.2.2.2.2.2.1 (by decide) ?_
  refine jx_aload_n 1 kd352.2.1 rfl rfl ?_
  obtain ⟨hk9, h⟩ := h
  obtain ⟨b10, hb10, h⟩ := h
  refine jx_getr jc_10 (j := 0) (by decide) rfl jwF_X10_12 kd352.2.2.1 hk9 hb10 ?_
  obtain ⟨hk11, h⟩ := h
  obtain ⟨b12, hb12, h⟩ := h
  refine jx_getr jc_3 (j := 2) (by decide) rfl jwF_X10_79 kd352.2.2.2.1 hk11 hb12 ?_
  refine jx_astore (lv1 := [(4, .ref b12), (3, .ref b8), (0, .ref a0), (1, .int x1), (2, .int x2)]) kd352.2.2.2.2.1 (by decide) rfl ?_
  refine jx_iload_n 4 kd352.2.2.2.2.2.1 rfl rfl ?_
  by_cases c13 : x2 = 0
  · replace h := h.1 c13
    refine jx_tableIn (v := 0) (tgt := 84) (off := 55) kd352.2.2.2.2.2.2.1 c13 (by decide) (by decide) (by decide) (by decide) ?_
    refine jx_aload_n 1 kd352.2.2.2.2.2.2.2.1 rfl rfl ?_
    obtain ⟨hk14, h⟩ := h
    refine jx_geti jc_2 (j := 0) (by decide) rfl jwF_X10_83 kd352.2.2.2.2.2.2.2.2.1 hk14 ?_
    exact jx_iret kd353.1 rfl rfl (jle rfl) (jle rfl) ⟨_, rfl, h⟩
  replace h := h.2
  by_cases c15 : x2 = 1
  · replace h := h.1 c15
    refine jx_tableIn (v := 1) (tgt := 89) (off := 60) kd352.2.2.2.2.2.2.1 c15 (by decide) (by decide) (by decide) (by decide) ?_
    refine jx_aload_n 1 kd353.2.1 rfl rfl ?_
    obtain ⟨hk16, h⟩ := h
    refine jx_geti jc_2 (j := 1) (by decide) rfl jwF_X10_88 kd353.2.2.1 hk16 ?_
    exact jx_iret kd353.2.2.2.1 rfl rfl (jle rfl) (jle rfl) ⟨_, rfl, h⟩
  replace h := h.2
  by_cases c17 : x2 = 2
  · replace h := h.1 c17
    refine jx_tableIn (v := 2) (tgt := 94) (off := 65) kd352.2.2.2.2.2.2.1 c17 (by decide) (by decide) (by decide) (by decide) ?_
    refine jx_aload_n 1 kd353.2.2.2.2.1 rfl rfl ?_
    obtain ⟨hk18, h⟩ := h
    refine jx_geti jc_2 (j := 2) (by decide) rfl jwF_X10_91 kd353.2.2.2.2.2.1 hk18 ?_
    exact jx_iret kd353.2.2.2.2.2.2.1 rfl rfl (jle rfl) (jle rfl) ⟨_, rfl, h⟩
  replace h := h.2
  by_cases c19 : x2 = 3
  · replace h := h.1 c19
    refine jx_tableIn (v := 3) (tgt := 99) (off := 70) kd352.2.2.2.2.2.2.1 c19 (by decide) (by decide) (by decide) (by decide) ?_
    refine jx_aload_n 1 kd353.2.2.2.2.2.2.2.1 rfl rfl ?_
    obtain ⟨hk20, h⟩ := h
    refine jx_geti jc_2 (j := 3) (by decide) rfl jwF_X10_94 kd353.2.2.2.2.2.2.2.2.1 hk20 ?_
    exact jx_iret kd354.1 rfl rfl (jle rfl) (jle rfl) ⟨_, rfl, h⟩
  replace h := h.2
  by_cases c21 : x2 = 4
  · replace h := h.1 c21
    refine jx_tableIn (v := 4) (tgt := 104) (off := 75) kd352.2.2.2.2.2.2.1 c21 (by decide) (by decide) (by decide) (by decide) ?_
    refine jx_aload_n 1 kd354.2.1 rfl rfl ?_
    obtain ⟨hk22, h⟩ := h
    refine jx_geti jc_2 (j := 4) (by decide) rfl jwF_X10_97 kd354.2.2.1 hk22 ?_
    exact jx_iret kd354.2.2.2.1 rfl rfl (jle rfl) (jle rfl) ⟨_, rfl, h⟩
  replace h := h.2
  by_cases c23 : x2 = 5
  · replace h := h.1 c23
    refine jx_tableIn (v := 5) (tgt := 109) (off := 80) kd352.2.2.2.2.2.2.1 c23 (by decide) (by decide) (by decide) (by decide) ?_
    refine jx_aload_n 1 kd354.2.2.2.2.1 rfl rfl ?_
    obtain ⟨hk24, h⟩ := h
    refine jx_geti jc_2 (j := 5) (by decide) rfl jwF_X10_100 kd354.2.2.2.2.2.1 hk24 ?_
    exact jx_iret kd354.2.2.2.2.2.2.1 rfl rfl (jle rfl) (jle rfl) ⟨_, rfl, h⟩
  replace h := h.2
  by_cases c25 : x2 = 6
  · replace h := h.1 c25
    refine jx_tableIn (v := 6) (tgt := 114) (off := 85) kd352.2.2.2.2.2.2.1 c25 (by decide) (by decide) (by decide) (by decide) ?_
    refine jx_aload_n 1 kd354.2.2.2.2.2.2.2.1 rfl rfl ?_
    obtain ⟨hk26, h⟩ := h
    refine jx_geti jc_2 (j := 6) (by decide) rfl jwF_X10_103 kd354.2.2.2.2.2.2.2.2.1 hk26 ?_
    refine jx_if_eq (tgt := 125) kd355.1 (by decide) (fun c27 => ?_) (fun c27 => ?_)
    · replace h := h.1 c27
      refine jx_iconst (v := 0) kd355.2.2.2.1 (by decide) ?_
      exact jx_iret kd355.2.2.2.2.1 rfl rfl (jle rfl) (jle rfl) ⟨_, rfl, h⟩
    replace h := h.2 c27
    refine jx_iconst (v := 1) kd355.2.1 (by decide) ?_
    refine jx_goto (tgt := 126) kd355.2.2.1 (by decide) ?_
    exact jx_iret kd355.2.2.2.2.1 rfl rfl (jle rfl) (jle rfl) ⟨_, rfl, h⟩
  replace h := h.2
  by_cases c28 : x2 = 7
  · replace h := h.1 c28
    refine jx_tableIn (v := 7) (tgt := 127) (off := 98) kd352.2.2.2.2.2.2.1 c28 (by decide) (by decide) (by decide) (by decide) ?_
    refine jx_aload_n 2 kd355.2.2.2.2.2.1 rfl rfl ?_
    refine jx_getr jc_10 (j := 0) (by decide) rfl jwF_X10_12 kd355.2.2.2.2.2.2.1 hk9 hb10 ?_
    refine jx_aload_n 1 kd355.2.2.2.2.2.2.2.1 rfl rfl ?_
    refine jx_aload 0 kd355.2.2.2.2.2.2.2.2.1 rfl ?_
    obtain ⟨hk29, h⟩ := h
    refine jx_geti jc_1 (j := 1) (by decide) rfl jwF_X10_107 kd356.1 hk29 ?_
    refine jx_callSi (M' := mJ6_bitCount_0f7a4) (As := [.int (ji S6 b12 1)]) jo_J6_bitCount_0f7a4 jwM_X10_112 jwS_J6_bitCount_0f7a4 kd356.2.1 (jRok_m _ _ _) rfl (jle rfl) ⟨jle rfl, jle rfl⟩ (c_J6_bitCount_0f7a4 (Q := fun v S' => v = (jbc (ji S6 b12 1)) ∧ S6 = S') ⟨rfl, rfl⟩) (fun r30 S31 hq32 => ?_)
    obtain ⟨rfl, rfl⟩ := hq32
    refine jx_callVi (M' := mX3_daysTaken) (As := [.ref b8, .int (jbc (ji S6 b12 1))]) jo_X3_daysTaken jc_3 rfl jwM_X10_118 jwN_X3_daysTaken jwX_X3_daysTaken kd356.2.2.1 (jRok_m _ _ _) rfl (jle rfl) ⟨jle rfl, jle rfl⟩ hk11 h (fun r34 S33 h => ?_)
    exact jx_iret kd356.2.2.2.1 rfl rfl (jle rfl) (jle rfl) ⟨_, rfl, h⟩
  replace h := h.2
  by_cases c35 : x2 = 8
  · replace h := h.1 c35
    refine jx_tableIn (v := 8) (tgt := 144) (off := 115) kd352.2.2.2.2.2.2.1 c35 (by decide) (by decide) (by decide) (by decide) ?_
    refine jx_aload_n 1 kd356.2.2.2.2.1 rfl rfl ?_
    refine jx_aload 0 kd356.2.2.2.2.2.1 rfl ?_
    obtain ⟨hk36, h⟩ := h
    refine jx_geti jc_1 (j := 1) (by decide) rfl jwF_X10_107 kd356.2.2.2.2.2.2.1 hk36 ?_
    obtain ⟨hk37, h⟩ := h
    refine jx_callVi (M' := mX2_teaches) (As := [.int (ji S6 b12 1)]) jo_X2_teaches jc_2 rfl jwM_X10_122 jwN_X2_teaches jwX_X2_teaches kd356.2.2.2.2.2.2.2.1 (jRok_m _ _ _) rfl (jle rfl) ⟨jle rfl, jle rfl⟩ hk37 h (fun r39 S38 h => ?_)
    refine jx_if_eq (tgt := 160) kd356.2.2.2.2.2.2.2.2.1 (by decide) (fun c40 => ?_) (fun c40 => ?_)
    · replace h := h.1 c40
      refine jx_iconst (v := 0) kd357.2.2.1 (by decide) ?_
      exact jx_iret kd357.2.2.2.1 rfl rfl (jle rfl) (jle rfl) ⟨_, rfl, h⟩
    replace h := h.2 c40
    refine jx_iconst (v := 1) kd357.1 (by decide) ?_
    refine jx_goto (tgt := 161) kd357.2.1 (by decide) ?_
    exact jx_iret kd357.2.2.2.1 rfl rfl (jle rfl) (jle rfl) ⟨_, rfl, h⟩
  replace h := h.2
  by_cases c41 : x2 = 9
  · replace h := h.1 c41
    refine jx_tableIn (v := 9) (tgt := 162) (off := 133) kd352.2.2.2.2.2.2.1 c41 (by decide) (by decide) (by decide) (by decide) ?_
    refine jx_aload_n 1 kd357.2.2.2.2.1 rfl rfl ?_
    obtain ⟨hk42, h⟩ := h
    refine jx_callVi (M' := mX2_worth) (As := []) jo_X2_worth jc_2 rfl jwM_X10_126 jwN_X2_worth jwX_X2_worth kd357.2.2.2.2.2.1 (jRok_m _ _ _) rfl (jle rfl) ⟨jle rfl, jle rfl⟩ hk42 h (fun r44 S43 h => ?_)
    exact jx_iret kd357.2.2.2.2.2.2.1 rfl rfl (jle rfl) (jle rfl) ⟨_, rfl, h⟩
  replace h := h.2
  replace h := h c13 c15 c17 c19 c21 c23 c25 c28 c35 c41
  refine jx_tableD (tgt := 167) ([0, 1, 2, 3, 4, 5, 6, 7, 8, 9] : List Int) kd352.2.2.2.2.2.2.1 (by simp only [List.mem_cons, List.not_mem_nil, or_false, forall_eq_or_imp, forall_eq]; exact ⟨lv_neT c13 (by decide), lv_neT c15 (by decide), lv_neT c17 (by decide), lv_neT c19 (by decide), lv_neT c21 (by decide), lv_neT c23 (by decide), lv_neT c25 (by decide), lv_neT c28 (by decide), lv_neT c35 (by decide), lv_neT c41 (by decide)⟩) (by decide) (by decide) (by decide) ?_
  refine jx_ldc jwC_X10_62 kd357.2.2.2.2.2.2.2.1 ?_
  exact jx_iret kd357.2.2.2.2.2.2.2.2.1 rfl rfl (jle rfl) (jle rfl) ⟨_, rfl, h⟩
set_option maxRecDepth 100000 in
set_option maxHeartbeats 4000000 in
theorem T_X10_as {E : jEnv} {d : Nat} {Q : Int32 → jM → Prop} {a0 : Nat} {x1 : Int32} {x2 : Int32} {S : jM} (h : jk S a0 = 10 ∧ ∃ b2, jr S a0 0 = some b2 ∧ (jk S b2 = 3 ∧ ∃ b4, jr S b2 0 = some b4 ∧ (jk S b4 = 0 ∧ jFr E mX0_find d 0 0 [.ref b4, .int x1] S (fun o7 S6 => (o7 = none → Q (-1000000001) S6) ∧ (∀ b8, o7 = some b8 → ((jwi x2 6) = 0 → Q (-1000000001) S6) ∧ (¬ (jwi x2 6) = 0 → jk S6 b8 = 2 ∧ jFi E mX2_isOf d 0 0 [.ref b8, .int x2] S6 (fun r15 S14 => (r15 = 0 → Q (-1000000012) S14) ∧ (¬ r15 = 0 → jk S14 b8 = 2 ∧ Q (ji S14 b8 4) S14)))))))) : jFi E mX10_as (d + 1) 0 0 [.ref a0, .int x1, .int x2] S Q := by
  refine jF_of (by decide) (jle rfl) ?_
  refine jx_lv (lv1 := [(0, .ref a0), (1, .int x1), (2, .int x2)]) [0, 1, 2] rfl ?_
  refine jx_aload_n 0 kd358.1 rfl rfl ?_
  obtain ⟨hk1, h⟩ := h
  obtain ⟨b2, hb2, h⟩ := h
  refine jx_getr jc_10 (j := 0) (by decide) rfl jwF_X10_12 kd358.2.1 hk1 hb2 ?_
  obtain ⟨hk3, h⟩ := h
  obtain ⟨b4, hb4, h⟩ := h
  refine jx_getr jc_3 (j := 0) (by decide) rfl jwF_X10_63 kd358.2.2.1 hk3 hb4 ?_
  refine jx_iload_n 1 kd358.2.2.2.1 rfl rfl ?_
  obtain ⟨hk5, h⟩ := h
  refine jx_callVr (M' := mX0_find) (As := [.int x1]) jo_X0_find jc_0 rfl jwM_X10_75 jwN_X0_find jwX_X0_find kd358.2.2.2.2.1 (jRok_m _ _ _) rfl (jle rfl) ⟨jle rfl, jle rfl⟩ hk5 h (fun o7 S6 h => ?_)
  rcases o7 with _ | b8
  · replace h := h.1 rfl
    refine jx_astore_nN (lv1 := [(3, .null), (0, .ref a0), (1, .int x1), (2, .int x2)]) kd358.2.2.2.2.2.1 rfl (by decide) rfl ?_
    refine jx_aload_nN 0 kd358.2.2.2.2.2.2.1 rfl rfl ?_
    refine jx_ifnullN (tgt := 25) kd358.2.2.2.2.2.2.2.1 (by decide) ?_
    refine jx_ldc jwC_X10_62 kd359.2.2.2.1 ?_
    exact jx_iret kd359.2.2.2.2.1 rfl rfl (jle rfl) (jle rfl) ⟨_, rfl, h⟩
  replace h := h.2 b8 rfl
  refine jx_astore_n (lv1 := [(3, .ref b8), (0, .ref a0), (1, .int x1), (2, .int x2)]) kd358.2.2.2.2.2.1 rfl (by decide) rfl ?_
  refine jx_aload_n 0 kd358.2.2.2.2.2.2.1 rfl rfl ?_
  refine jx_ifnull kd358.2.2.2.2.2.2.2.1 ?_
  refine jx_iload_n 3 kd358.2.2.2.2.2.2.2.2.1 rfl rfl ?_
  refine jx_bipush (v := 6) kd359.1 (by decide) ?_
  refine jx_callSi (M' := mX10_within) (As := [.int x2, .int 6]) jo_X10_within jwM_X10_58 jwS_X10_within kd359.2.1 (jRok_m _ _ _) rfl (jle rfl) ⟨jle rfl, jle rfl⟩ (c_X10_within (Q := fun v S' => v = (jwi x2 6) ∧ S6 = S') ⟨rfl, rfl⟩) (fun r9 S10 hq11 => ?_)
  obtain ⟨rfl, rfl⟩ := hq11
  refine jx_if_ne (tgt := 28) kd359.2.2.1 (by decide) (fun c12 => ?_) (fun c12 => ?_)
  · replace h := h.2 c12
    refine jx_aload_n 0 kd359.2.2.2.2.2.1 rfl rfl ?_
    refine jx_iload_n 3 kd359.2.2.2.2.2.2.1 rfl rfl ?_
    obtain ⟨hk13, h⟩ := h
    refine jx_callVi (M' := mX2_isOf) (As := [.int x2]) jo_X2_isOf jc_2 rfl jwM_X10_130 jwN_X2_isOf jwX_X2_isOf kd359.2.2.2.2.2.2.2.1 (jRok_m _ _ _) rfl (jle rfl) ⟨jle rfl, jle rfl⟩ hk13 h (fun r15 S14 h => ?_)
    refine jx_if_eq (tgt := 43) kd359.2.2.2.2.2.2.2.2.1 (by decide) (fun c16 => ?_) (fun c16 => ?_)
    · replace h := h.1 c16
      refine jx_ldc jwC_X10_133 kd360.2.2.2.1 ?_
      exact jx_iret kd360.2.2.2.2.1 rfl rfl (jle rfl) (jle rfl) ⟨_, rfl, h⟩
    replace h := h.2 c16
    refine jx_aload_n 0 kd360.1 rfl rfl ?_
    obtain ⟨hk17, h⟩ := h
    refine jx_geti jc_2 (j := 4) (by decide) rfl jwF_X10_97 kd360.2.1 hk17 ?_
    refine jx_goto (tgt := 45) kd360.2.2.1 (by decide) ?_
    exact jx_iret kd360.2.2.2.2.1 rfl rfl (jle rfl) (jle rfl) ⟨_, rfl, h⟩
  replace h := h.1 c12
  refine jx_ldc jwC_X10_62 kd359.2.2.2.1 ?_
  exact jx_iret kd359.2.2.2.2.1 rfl rfl (jle rfl) (jle rfl) ⟨_, rfl, h⟩
set_option maxRecDepth 100000 in
set_option maxHeartbeats 4000000 in
theorem T_X10_turns {E : jEnv} {d : Nat} {Q : Int32 → jM → Prop} {a0 : Nat} {x1 : Int32} {x2 : Int32} {S : jM} (h : jk S a0 = 10 ∧ ∃ b2, jr S a0 0 = some b2 ∧ (jk S b2 = 3 ∧ ∃ b4, jr S b2 0 = some b4 ∧ (jk S b4 = 0 ∧ jFr E mX0_find d 0 0 [.ref b4, .int x1] S (fun o7 S6 => (o7 = none → Q (-1000000001) S6) ∧ (∀ b8, o7 = some b8 → ((jwi x2 6) = 0 → Q (-1000000001) S6) ∧ (¬ (jwi x2 6) = 0 → jk S6 b8 = 2 ∧ Q (ji S6 b8 0) (jput S6 b8 0 x2))))))) : jFi E mX10_turns (d + 1) 0 0 [.ref a0, .int x1, .int x2] S Q := by
  refine jF_of (by decide) (jle rfl) ?_
  refine jx_lv (lv1 := [(0, .ref a0), (1, .int x1), (2, .int x2)]) [0, 1, 2] rfl ?_
  refine jx_aload_n 0 kd361.1 rfl rfl ?_
  obtain ⟨hk1, h⟩ := h
  obtain ⟨b2, hb2, h⟩ := h
  refine jx_getr jc_10 (j := 0) (by decide) rfl jwF_X10_12 kd361.2.1 hk1 hb2 ?_
  obtain ⟨hk3, h⟩ := h
  obtain ⟨b4, hb4, h⟩ := h
  refine jx_getr jc_3 (j := 0) (by decide) rfl jwF_X10_63 kd361.2.2.1 hk3 hb4 ?_
  refine jx_iload_n 1 kd361.2.2.2.1 rfl rfl ?_
  obtain ⟨hk5, h⟩ := h
  refine jx_callVr (M' := mX0_find) (As := [.int x1]) jo_X0_find jc_0 rfl jwM_X10_75 jwN_X0_find jwX_X0_find kd361.2.2.2.2.1 (jRok_m _ _ _) rfl (jle rfl) ⟨jle rfl, jle rfl⟩ hk5 h (fun o7 S6 h => ?_)
  rcases o7 with _ | b8
  · replace h := h.1 rfl
    refine jx_astore_nN (lv1 := [(3, .null), (0, .ref a0), (1, .int x1), (2, .int x2)]) kd361.2.2.2.2.2.1 rfl (by decide) rfl ?_
    refine jx_aload_nN 0 kd361.2.2.2.2.2.2.1 rfl rfl ?_
    refine jx_ifnullN (tgt := 25) kd361.2.2.2.2.2.2.2.1 (by decide) ?_
    refine jx_ldc jwC_X10_62 kd362.2.2.2.1 ?_
    exact jx_iret kd362.2.2.2.2.1 rfl rfl (jle rfl) (jle rfl) ⟨_, rfl, h⟩
  replace h := h.2 b8 rfl
  refine jx_astore_n (lv1 := [(3, .ref b8), (0, .ref a0), (1, .int x1), (2, .int x2)]) kd361.2.2.2.2.2.1 rfl (by decide) rfl ?_
  refine jx_aload_n 0 kd361.2.2.2.2.2.2.1 rfl rfl ?_
  refine jx_ifnull kd361.2.2.2.2.2.2.2.1 ?_
  refine jx_iload_n 3 kd361.2.2.2.2.2.2.2.2.1 rfl rfl ?_
  refine jx_bipush (v := 6) kd362.1 (by decide) ?_
  refine jx_callSi (M' := mX10_within) (As := [.int x2, .int 6]) jo_X10_within jwM_X10_58 jwS_X10_within kd362.2.1 (jRok_m _ _ _) rfl (jle rfl) ⟨jle rfl, jle rfl⟩ (c_X10_within (Q := fun v S' => v = (jwi x2 6) ∧ S6 = S') ⟨rfl, rfl⟩) (fun r9 S10 hq11 => ?_)
  obtain ⟨rfl, rfl⟩ := hq11
  refine jx_if_ne (tgt := 28) kd362.2.2.1 (by decide) (fun c12 => ?_) (fun c12 => ?_)
  · replace h := h.2 c12
    refine jx_aload_n 0 kd362.2.2.2.2.2.1 rfl rfl ?_
    obtain ⟨hk13, h⟩ := h
    refine jx_geti jc_2 (j := 0) (by decide) rfl jwF_X10_83 kd362.2.2.2.2.2.2.1 hk13 ?_
    refine jx_istore (lv1 := [(4, .int (ji S6 b8 0)), (3, .ref b8), (0, .ref a0), (1, .int x1), (2, .int x2)]) kd362.2.2.2.2.2.2.2.1 (by decide) rfl ?_
    refine jx_aload_n 1 kd362.2.2.2.2.2.2.2.2.1 rfl rfl ?_
    refine jx_iload_n 4 kd363.1 rfl rfl ?_
    refine jx_puti jc_2 (j := 0) (by decide) rfl jwF_X10_83 rfl rfl rfl kd363.2.1 hk13 ?_
    refine jx_iload 0 kd363.2.2.1 rfl ?_
    exact jx_iret kd363.2.2.2.1 rfl rfl (jle rfl) (jle rfl) ⟨_, rfl, h⟩
  replace h := h.1 c12
  refine jx_ldc jwC_X10_62 kd362.2.2.2.1 ?_
  exact jx_iret kd362.2.2.2.2.1 rfl rfl (jle rfl) (jle rfl) ⟨_, rfl, h⟩
set_option maxRecDepth 100000 in
set_option maxHeartbeats 4000000 in
theorem T_X10_set {E : jEnv} {d : Nat} {Q : Int32 → jM → Prop} {a0 : Nat} {x1 : Int32} {x2 : Int32} {x3 : Int32} {S : jM} (h : jk S a0 = 10 ∧ ∃ b2, jr S a0 0 = some b2 ∧ (jk S b2 = 3 ∧ ∃ b4, jr S b2 0 = some b4 ∧ (jk S b4 = 0 ∧ jFr E mX0_find d 0 0 [.ref b4, .int x1] S (fun o7 S6 => (o7 = none → Q (-1000000001) S6) ∧ (∀ b8, o7 = some b8 → (x2 = 4 → jFi E mX10_setFee d 0 0 [.ref b8, .int x3] S6 (fun r11 S10 => Q r11 S10)) ∧ (x2 = 5 → jFi E mX10_setAge d 0 0 [.ref b8, .int x3] S6 (fun r14 S13 => Q r14 S13)) ∧ (x2 = 6 → jFi E mX10_setDead d 0 0 [.ref b8, .int x3] S6 (fun r17 S16 => Q r17 S16)) ∧ (¬ x2 = 4 → ¬ x2 = 5 → ¬ x2 = 6 → Q (-1000000001) S6)))))) : jFi E mX10_set (d + 1) 0 0 [.ref a0, .int x1, .int x2, .int x3] S Q := by
  refine jF_of (by decide) (jle rfl) ?_
  refine jx_lv (lv1 := [(0, .ref a0), (1, .int x1), (2, .int x2), (3, .int x3)]) [0, 1, 2, 3] rfl ?_
  refine jx_aload_n 0 kd364.1 rfl rfl ?_
  obtain ⟨hk1, h⟩ := h
  obtain ⟨b2, hb2, h⟩ := h
  refine jx_getr jc_10 (j := 0) (by decide) rfl jwF_X10_12 kd364.2.1 hk1 hb2 ?_
  obtain ⟨hk3, h⟩ := h
  obtain ⟨b4, hb4, h⟩ := h
  refine jx_getr jc_3 (j := 0) (by decide) rfl jwF_X10_63 kd364.2.2.1 hk3 hb4 ?_
  refine jx_iload_n 1 kd364.2.2.2.1 rfl rfl ?_
  obtain ⟨hk5, h⟩ := h
  refine jx_callVr (M' := mX0_find) (As := [.int x1]) jo_X0_find jc_0 rfl jwM_X10_75 jwN_X0_find jwX_X0_find kd364.2.2.2.2.1 (jRok_m _ _ _) rfl (jle rfl) ⟨jle rfl, jle rfl⟩ hk5 h (fun o7 S6 h => ?_)
  rcases o7 with _ | b8
  · replace h := h.1 rfl
    refine jx_astoreN (lv1 := [(4, .null), (0, .ref a0), (1, .int x1), (2, .int x2), (3, .int x3)]) kd364.2.2.2.2.2.1 (by decide) rfl ?_
    refine jx_aloadN 0 kd364.2.2.2.2.2.2.1 rfl ?_
    refine jx_ifnonnullN kd364.2.2.2.2.2.2.2.1 ?_
    refine jx_ldc jwC_X10_62 kd364.2.2.2.2.2.2.2.2.1 ?_
    exact jx_iret kd365.1 rfl rfl (jle rfl) (jle rfl) ⟨_, rfl, h⟩
  replace h := h.2 b8 rfl
  refine jx_astore (lv1 := [(4, .ref b8), (0, .ref a0), (1, .int x1), (2, .int x2), (3, .int x3)]) kd364.2.2.2.2.2.1 (by decide) rfl ?_
  refine jx_aload 0 kd364.2.2.2.2.2.2.1 rfl ?_
  refine jx_ifnonnull (tgt := 21) kd364.2.2.2.2.2.2.2.1 (by decide) ?_
  refine jx_iload_n 3 kd365.2.1 rfl rfl ?_
  by_cases c9 : x2 = 4
  · replace h := h.1 c9
    refine jx_tableIn (v := 4) (tgt := 48) (off := 26) kd365.2.2.1 c9 (by decide) (by decide) (by decide) (by decide) ?_
    refine jx_aload 0 kd365.2.2.2.1 rfl ?_
    refine jx_iload_n 4 kd365.2.2.2.2.1 rfl rfl ?_
    refine jx_callSi (M' := mX10_setFee) (As := [.ref b8, .int x3]) jo_X10_setFee jwM_X10_134 jwS_X10_setFee kd365.2.2.2.2.2.1 (jRok_m _ _ _) rfl (jle rfl) ⟨jle rfl, jle rfl⟩ h (fun r11 S10 h => ?_)
    exact jx_iret kd365.2.2.2.2.2.2.1 rfl rfl (jle rfl) (jle rfl) ⟨_, rfl, h⟩
  replace h := h.2
  by_cases c12 : x2 = 5
  · replace h := h.1 c12
    refine jx_tableIn (v := 5) (tgt := 55) (off := 33) kd365.2.2.1 c12 (by decide) (by decide) (by decide) (by decide) ?_
    refine jx_aload 0 kd365.2.2.2.2.2.2.2.1 rfl ?_
    refine jx_iload_n 4 kd365.2.2.2.2.2.2.2.2.1 rfl rfl ?_
    refine jx_callSi (M' := mX10_setAge) (As := [.ref b8, .int x3]) jo_X10_setAge jwM_X10_137 jwS_X10_setAge kd366.1 (jRok_m _ _ _) rfl (jle rfl) ⟨jle rfl, jle rfl⟩ h (fun r14 S13 h => ?_)
    exact jx_iret kd366.2.1 rfl rfl (jle rfl) (jle rfl) ⟨_, rfl, h⟩
  replace h := h.2
  by_cases c15 : x2 = 6
  · replace h := h.1 c15
    refine jx_tableIn (v := 6) (tgt := 62) (off := 40) kd365.2.2.1 c15 (by decide) (by decide) (by decide) (by decide) ?_
    refine jx_aload 0 kd366.2.2.1 rfl ?_
    refine jx_iload_n 4 kd366.2.2.2.1 rfl rfl ?_
    refine jx_callSi (M' := mX10_setDead) (As := [.ref b8, .int x3]) jo_X10_setDead jwM_X10_140 jwS_X10_setDead kd366.2.2.2.2.1 (jRok_m _ _ _) rfl (jle rfl) ⟨jle rfl, jle rfl⟩ h (fun r17 S16 h => ?_)
    exact jx_iret kd366.2.2.2.2.2.1 rfl rfl (jle rfl) (jle rfl) ⟨_, rfl, h⟩
  replace h := h.2
  replace h := h c9 c12 c15
  refine jx_tableD (tgt := 69) ([4, 5, 6] : List Int) kd365.2.2.1 (by simp only [List.mem_cons, List.not_mem_nil, or_false, forall_eq_or_imp, forall_eq]; exact ⟨lv_neT c9 (by decide), lv_neT c12 (by decide), lv_neT c15 (by decide)⟩) (by decide) (by decide) (by decide) ?_
  refine jx_ldc jwC_X10_62 kd366.2.2.2.2.2.2.1 ?_
  exact jx_iret kd366.2.2.2.2.2.2.2.1 rfl rfl (jle rfl) (jle rfl) ⟨_, rfl, h⟩
set_option maxRecDepth 100000 in
set_option maxHeartbeats 4000000 in
theorem T_X10_setFee {E : jEnv} {d : Nat} {Q : Int32 → jM → Prop} {a0 : Nat} {x1 : Int32} {S : jM} (h : ((jwi x1 100) = 0 → Q (-1000000001) S) ∧ (¬ (jwi x1 100) = 0 → jk S a0 = 2 ∧ Q (ji S a0 4) (jput S a0 4 x1))) : jFi E mX10_setFee (d + 1) 0 0 [.ref a0, .int x1] S Q := by
  refine jF_of (by decide) (jle rfl) ?_
  refine jx_lv (lv1 := [(0, .ref a0), (1, .int x1)]) [0, 1] rfl ?_
  refine jx_iload_n 1 kd367.1 rfl rfl ?_
  refine jx_bipush (v := 100) kd367.2.1 (by decide) ?_
  refine jx_callSi (M' := mX10_within) (As := [.int x1, .int 100]) jo_X10_within jwM_X10_58 jwS_X10_within kd367.2.2.1 (jRok_m _ _ _) rfl (jle rfl) ⟨jle rfl, jle rfl⟩ (c_X10_within (Q := fun v S' => v = (jwi x1 100) ∧ S = S') ⟨rfl, rfl⟩) (fun r1 S2 hq3 => ?_)
  obtain ⟨rfl, rfl⟩ := hq3
  refine jx_if_ne (tgt := 12) kd367.2.2.2.1 (by decide) (fun c4 => ?_) (fun c4 => ?_)
  · replace h := h.2 c4
    refine jx_aload_n 0 kd367.2.2.2.2.2.2.1 rfl rfl ?_
    obtain ⟨hk5, h⟩ := h
    refine jx_geti jc_2 (j := 4) (by decide) rfl jwF_X10_97 kd367.2.2.2.2.2.2.2.1 hk5 ?_
    refine jx_istore_n (lv1 := [(2, .int (ji S a0 4)), (0, .ref a0), (1, .int x1)]) kd367.2.2.2.2.2.2.2.2.1 rfl (by decide) rfl ?_
    refine jx_aload_n 1 kd368.1 rfl rfl ?_
    refine jx_iload_n 2 kd368.2.1 rfl rfl ?_
    refine jx_puti jc_2 (j := 4) (by decide) rfl jwF_X10_97 rfl rfl rfl kd368.2.2.1 hk5 ?_
    refine jx_iload_n 0 kd368.2.2.2.1 rfl rfl ?_
    exact jx_iret kd368.2.2.2.2.1 rfl rfl (jle rfl) (jle rfl) ⟨_, rfl, h⟩
  replace h := h.1 c4
  refine jx_ldc jwC_X10_62 kd367.2.2.2.2.1 ?_
  exact jx_iret kd367.2.2.2.2.2.1 rfl rfl (jle rfl) (jle rfl) ⟨_, rfl, h⟩
set_option maxRecDepth 100000 in
set_option maxHeartbeats 4000000 in
theorem T_X10_setAge {E : jEnv} {d : Nat} {Q : Int32 → jM → Prop} {a0 : Nat} {x1 : Int32} {S : jM} (h : ((jwi x1 100) = 0 → Q (-1000000001) S) ∧ (¬ (jwi x1 100) = 0 → jk S a0 = 2 ∧ Q (ji S a0 5) (jput S a0 5 x1))) : jFi E mX10_setAge (d + 1) 0 0 [.ref a0, .int x1] S Q := by
  refine jF_of (by decide) (jle rfl) ?_
  refine jx_lv (lv1 := [(0, .ref a0), (1, .int x1)]) [0, 1] rfl ?_
  refine jx_iload_n 1 kd369.1 rfl rfl ?_
  refine jx_bipush (v := 100) kd369.2.1 (by decide) ?_
  refine jx_callSi (M' := mX10_within) (As := [.int x1, .int 100]) jo_X10_within jwM_X10_58 jwS_X10_within kd369.2.2.1 (jRok_m _ _ _) rfl (jle rfl) ⟨jle rfl, jle rfl⟩ (c_X10_within (Q := fun v S' => v = (jwi x1 100) ∧ S = S') ⟨rfl, rfl⟩) (fun r1 S2 hq3 => ?_)
  obtain ⟨rfl, rfl⟩ := hq3
  refine jx_if_ne (tgt := 12) kd369.2.2.2.1 (by decide) (fun c4 => ?_) (fun c4 => ?_)
  · replace h := h.2 c4
    refine jx_aload_n 0 kd369.2.2.2.2.2.2.1 rfl rfl ?_
    obtain ⟨hk5, h⟩ := h
    refine jx_geti jc_2 (j := 5) (by decide) rfl jwF_X10_100 kd369.2.2.2.2.2.2.2.1 hk5 ?_
    refine jx_istore_n (lv1 := [(2, .int (ji S a0 5)), (0, .ref a0), (1, .int x1)]) kd369.2.2.2.2.2.2.2.2.1 rfl (by decide) rfl ?_
    refine jx_aload_n 1 kd370.1 rfl rfl ?_
    refine jx_iload_n 2 kd370.2.1 rfl rfl ?_
    refine jx_puti jc_2 (j := 5) (by decide) rfl jwF_X10_100 rfl rfl rfl kd370.2.2.1 hk5 ?_
    refine jx_iload_n 0 kd370.2.2.2.1 rfl rfl ?_
    exact jx_iret kd370.2.2.2.2.1 rfl rfl (jle rfl) (jle rfl) ⟨_, rfl, h⟩
  replace h := h.1 c4
  refine jx_ldc jwC_X10_62 kd369.2.2.2.2.1 ?_
  exact jx_iret kd369.2.2.2.2.2.1 rfl rfl (jle rfl) (jle rfl) ⟨_, rfl, h⟩
set_option maxRecDepth 100000 in
set_option maxHeartbeats 4000000 in
theorem T_X10_setDead {E : jEnv} {d : Nat} {Q : Int32 → jM → Prop} {a0 : Nat} {x1 : Int32} {S : jM} (h : ((jwi x1 2) = 0 → Q (-1000000001) S) ∧ (¬ (jwi x1 2) = 0 → jk S a0 = 2 ∧ ((ji S a0 6) = 0 → (x1 = 1 → Q 0 (jput S a0 6 1)) ∧ (¬ x1 = 1 → Q 0 (jput S a0 6 0))) ∧ (¬ (ji S a0 6) = 0 → (x1 = 1 → Q 1 (jput S a0 6 1)) ∧ (¬ x1 = 1 → Q 1 (jput S a0 6 0))))) : jFi E mX10_setDead (d + 1) 0 0 [.ref a0, .int x1] S Q := by
  refine jF_of (by decide) (jle rfl) ?_
  refine jx_lv (lv1 := [(0, .ref a0), (1, .int x1)]) [0, 1] rfl ?_
  refine jx_iload_n 1 kd371.1 rfl rfl ?_
  refine jx_iconst (v := 2) kd371.2.1 (by decide) ?_
  refine jx_callSi (M' := mX10_within) (As := [.int x1, .int 2]) jo_X10_within jwM_X10_58 jwS_X10_within kd371.2.2.1 (jRok_m _ _ _) rfl (jle rfl) ⟨jle rfl, jle rfl⟩ (c_X10_within (Q := fun v S' => v = (jwi x1 2) ∧ S = S') ⟨rfl, rfl⟩) (fun r1 S2 hq3 => ?_)
  obtain ⟨rfl, rfl⟩ := hq3
  refine jx_if_ne (tgt := 11) kd371.2.2.2.1 (by decide) (fun c4 => ?_) (fun c4 => ?_)
  · replace h := h.2 c4
    refine jx_aload_n 0 kd371.2.2.2.2.2.2.1 rfl rfl ?_
    obtain ⟨hk5, h⟩ := h
    refine jx_geti jc_2 (j := 6) (by decide) rfl jwF_X10_103 kd371.2.2.2.2.2.2.2.1 hk5 ?_
    refine jx_if_eq (tgt := 22) kd371.2.2.2.2.2.2.2.2.1 (by decide) (fun c6 => ?_) (fun c6 => ?_)
    · replace h := h.1 c6
      refine jx_iconst (v := 0) kd372.2.2.1 (by decide) ?_
      refine jx_istore_n (lv1 := [(2, .int 0), (0, .ref a0), (1, .int x1)]) kd372.2.2.2.1 rfl (by decide) rfl ?_
      refine jx_aload_n 1 kd372.2.2.2.2.1 rfl rfl ?_
      refine jx_iload_n 2 kd372.2.2.2.2.2.1 rfl rfl ?_
      refine jx_iconst (v := 1) kd372.2.2.2.2.2.2.1 (by decide) ?_
      refine jx_icmp_ne (tgt := 34) kd372.2.2.2.2.2.2.2.1 (by decide) (fun c7 => ?_) (fun c7 => ?_)
      · replace h := h.2 c7
        refine jx_iconst (v := 0) kd373.2.1 (by decide) ?_
        refine jx_puti jc_2 (j := 6) (by decide) rfl jwF_X10_103 rfl (by decide) (by decide) kd373.2.2.1 hk5 ?_
        refine jx_iload_n 0 kd373.2.2.2.1 rfl rfl ?_
        exact jx_iret kd373.2.2.2.2.1 rfl rfl (jle rfl) (jle rfl) ⟨_, rfl, h⟩
      replace h := h.1 c7
      refine jx_iconst (v := 1) kd372.2.2.2.2.2.2.2.2.1 (by decide) ?_
      refine jx_goto (tgt := 35) kd373.1 (by decide) ?_
      refine jx_puti jc_2 (j := 6) (by decide) rfl jwF_X10_103 rfl (by decide) (by decide) kd373.2.2.1 hk5 ?_
      refine jx_iload_n 0 kd373.2.2.2.1 rfl rfl ?_
      exact jx_iret kd373.2.2.2.2.1 rfl rfl (jle rfl) (jle rfl) ⟨_, rfl, h⟩
    replace h := h.2 c6
    refine jx_iconst (v := 1) kd372.1 (by decide) ?_
    refine jx_goto (tgt := 23) kd372.2.1 (by decide) ?_
    refine jx_istore_n (lv1 := [(2, .int 1), (0, .ref a0), (1, .int x1)]) kd372.2.2.2.1 rfl (by decide) rfl ?_
    refine jx_aload_n 1 kd372.2.2.2.2.1 rfl rfl ?_
    refine jx_iload_n 2 kd372.2.2.2.2.2.1 rfl rfl ?_
    refine jx_iconst (v := 1) kd372.2.2.2.2.2.2.1 (by decide) ?_
    refine jx_icmp_ne (tgt := 34) kd372.2.2.2.2.2.2.2.1 (by decide) (fun c8 => ?_) (fun c8 => ?_)
    · replace h := h.2 c8
      refine jx_iconst (v := 0) kd373.2.1 (by decide) ?_
      refine jx_puti jc_2 (j := 6) (by decide) rfl jwF_X10_103 rfl (by decide) (by decide) kd373.2.2.1 hk5 ?_
      refine jx_iload_n 0 kd373.2.2.2.1 rfl rfl ?_
      exact jx_iret kd373.2.2.2.2.1 rfl rfl (jle rfl) (jle rfl) ⟨_, rfl, h⟩
    replace h := h.1 c8
    refine jx_iconst (v := 1) kd372.2.2.2.2.2.2.2.2.1 (by decide) ?_
    refine jx_goto (tgt := 35) kd373.1 (by decide) ?_
    refine jx_puti jc_2 (j := 6) (by decide) rfl jwF_X10_103 rfl (by decide) (by decide) kd373.2.2.1 hk5 ?_
    refine jx_iload_n 0 kd373.2.2.2.1 rfl rfl ?_
    exact jx_iret kd373.2.2.2.2.1 rfl rfl (jle rfl) (jle rfl) ⟨_, rfl, h⟩
  replace h := h.1 c4
  refine jx_ldc jwC_X10_62 kd371.2.2.2.2.1 ?_
  exact jx_iret kd371.2.2.2.2.2.1 rfl rfl (jle rfl) (jle rfl) ⟨_, rfl, h⟩
set_option maxRecDepth 100000 in
set_option maxHeartbeats 4000000 in
theorem T_X10_bars {E : jEnv} {d : Nat} {Q : Int32 → jM → Prop} {a0 : Nat} {x1 : Int32} {x2 : Int32} {x3 : Int32} {S : jM} (h : jk S a0 = 10 ∧ ∃ b2, jr S a0 0 = some b2 ∧ (jk S b2 = 3 ∧ ∃ b4, jr S b2 0 = some b4 ∧ (jk S b4 = 0 ∧ jFr E mX0_find d 0 0 [.ref b4, .int x1] S (fun o7 S6 => (o7 = none → Q (-1000000001) S6) ∧ (∀ b8, o7 = some b8 → ((jwi x2 10) = 0 → Q (-1000000001) S6) ∧ (¬ (jwi x2 10) = 0 → ((jwi x3 10) = 0 → Q (-1000000001) S6) ∧ (¬ (jwi x3 10) = 0 → jk S6 b8 = 2 ∧ (x2 = (ji S6 b8 2) → Q (-1000000001) S6) ∧ (¬ x2 = (ji S6 b8 2) → (x3 = (ji S6 b8 2) → Q (-1000000001) S6) ∧ (¬ x3 = (ji S6 b8 2) → Q (ji S6 b8 3) (jput S6 b8 3 ((jshl 1 x2) ||| (jshl 1 x3)))))))))))) : jFi E mX10_bars (d + 1) 0 0 [.ref a0, .int x1, .int x2, .int x3] S Q := by
  refine jF_of (by decide) (jle rfl) ?_
  refine jx_lv (lv1 := [(0, .ref a0), (1, .int x1), (2, .int x2), (3, .int x3)]) [0, 1, 2, 3] rfl ?_
  refine jx_aload_n 0 kd374.1 rfl rfl ?_
  obtain ⟨hk1, h⟩ := h
  obtain ⟨b2, hb2, h⟩ := h
  refine jx_getr jc_10 (j := 0) (by decide) rfl jwF_X10_12 kd374.2.1 hk1 hb2 ?_
  obtain ⟨hk3, h⟩ := h
  obtain ⟨b4, hb4, h⟩ := h
  refine jx_getr jc_3 (j := 0) (by decide) rfl jwF_X10_63 kd374.2.2.1 hk3 hb4 ?_
  refine jx_iload_n 1 kd374.2.2.2.1 rfl rfl ?_
  obtain ⟨hk5, h⟩ := h
  refine jx_callVr (M' := mX0_find) (As := [.int x1]) jo_X0_find jc_0 rfl jwM_X10_75 jwN_X0_find jwX_X0_find kd374.2.2.2.2.1 (jRok_m _ _ _) rfl (jle rfl) ⟨jle rfl, jle rfl⟩ hk5 h (fun o7 S6 h => ?_)
  rcases o7 with _ | b8
  · replace h := h.1 rfl
    refine jx_astoreN (lv1 := [(4, .null), (0, .ref a0), (1, .int x1), (2, .int x2), (3, .int x3)]) kd374.2.2.2.2.2.1 (by decide) rfl ?_
    refine jx_aloadN 0 kd374.2.2.2.2.2.2.1 rfl ?_
    refine jx_ifnullN (tgt := 36) kd374.2.2.2.2.2.2.2.1 (by decide) ?_
    refine jx_ldc jwC_X10_62 kd375.2.2.2.2.2.2.2.1 ?_
    exact jx_iret kd375.2.2.2.2.2.2.2.2.1 rfl rfl (jle rfl) (jle rfl) ⟨_, rfl, h⟩
  replace h := h.2 b8 rfl
  refine jx_astore (lv1 := [(4, .ref b8), (0, .ref a0), (1, .int x1), (2, .int x2), (3, .int x3)]) kd374.2.2.2.2.2.1 (by decide) rfl ?_
  refine jx_aload 0 kd374.2.2.2.2.2.2.1 rfl ?_
  refine jx_ifnull kd374.2.2.2.2.2.2.2.1 ?_
  refine jx_iload_n 3 kd374.2.2.2.2.2.2.2.2.1 rfl rfl ?_
  refine jx_bipush (v := 10) kd375.1 (by decide) ?_
  refine jx_callSi (M' := mX10_within) (As := [.int x2, .int 10]) jo_X10_within jwM_X10_58 jwS_X10_within kd375.2.1 (jRok_m _ _ _) rfl (jle rfl) ⟨jle rfl, jle rfl⟩ (c_X10_within (Q := fun v S' => v = (jwi x2 10) ∧ S6 = S') ⟨rfl, rfl⟩) (fun r9 S10 hq11 => ?_)
  obtain ⟨rfl, rfl⟩ := hq11
  refine jx_if_eq (tgt := 36) kd375.2.2.1 (by decide) (fun c12 => ?_) (fun c12 => ?_)
  · replace h := h.1 c12
    refine jx_ldc jwC_X10_62 kd375.2.2.2.2.2.2.2.1 ?_
    exact jx_iret kd375.2.2.2.2.2.2.2.2.1 rfl rfl (jle rfl) (jle rfl) ⟨_, rfl, h⟩
  replace h := h.2 c12
  refine jx_iload_n 4 kd375.2.2.2.1 rfl rfl ?_
  refine jx_bipush (v := 10) kd375.2.2.2.2.1 (by decide) ?_
  refine jx_callSi (M' := mX10_within) (As := [.int x3, .int 10]) jo_X10_within jwM_X10_58 jwS_X10_within kd375.2.2.2.2.2.1 (jRok_m _ _ _) rfl (jle rfl) ⟨jle rfl, jle rfl⟩ (c_X10_within (Q := fun v S' => v = (jwi x3 10) ∧ S6 = S') ⟨rfl, rfl⟩) (fun r13 S14 hq15 => ?_)
  obtain ⟨rfl, rfl⟩ := hq15
  refine jx_if_ne (tgt := 39) kd375.2.2.2.2.2.2.1 (by decide) (fun c16 => ?_) (fun c16 => ?_)
  · replace h := h.2 c16
    refine jx_iload_n 3 kd376.1 rfl rfl ?_
    refine jx_aload 0 kd376.2.1 rfl ?_
    obtain ⟨hk17, h⟩ := h
    refine jx_geti jc_2 (j := 2) (by decide) rfl jwF_X10_91 kd376.2.2.1 hk17 ?_
    refine jx_icmp_eq (tgt := 57) kd376.2.2.2.1 (by decide) (fun c18 => ?_) (fun c18 => ?_)
    · replace h := h.1 c18
      refine jx_ldc jwC_X10_62 kd376.2.2.2.2.2.2.2.2.1 ?_
      exact jx_iret kd377.1 rfl rfl (jle rfl) (jle rfl) ⟨_, rfl, h⟩
    replace h := h.2 c18
    refine jx_iload_n 4 kd376.2.2.2.2.1 rfl rfl ?_
    refine jx_aload 0 kd376.2.2.2.2.2.1 rfl ?_
    refine jx_geti jc_2 (j := 2) (by decide) rfl jwF_X10_91 kd376.2.2.2.2.2.2.1 hk17 ?_
    refine jx_icmp_ne (tgt := 60) kd376.2.2.2.2.2.2.2.1 (by decide) (fun c19 => ?_) (fun c19 => ?_)
    · replace h := h.2 c19
      refine jx_aload 0 kd377.2.1 rfl ?_
      refine jx_geti jc_2 (j := 3) (by decide) rfl jwF_X10_94 kd377.2.2.1 hk17 ?_
      refine jx_istore (lv1 := [(5, .int (ji S6 b8 3)), (4, .ref b8), (0, .ref a0), (1, .int x1), (2, .int x2), (3, .int x3)]) kd377.2.2.2.1 (by decide) rfl ?_
      refine jx_aload 1 kd377.2.2.2.2.1 rfl ?_
      refine jx_iconst (v := 1) kd377.2.2.2.2.2.1 (by decide) ?_
      refine jx_iload_n 4 kd377.2.2.2.2.2.2.1 rfl rfl ?_
      refine jx_ishl kd377.2.2.2.2.2.2.2.1 ?_
      refine jx_iconst (v := 1) kd377.2.2.2.2.2.2.2.2.1 (by decide) ?_
      refine jx_iload_n 5 kd378.1 rfl rfl ?_
      refine jx_ishl kd378.2.1 ?_
      refine jx_ior kd378.2.2.1 ?_
      refine jx_puti jc_2 (j := 3) (by decide) rfl jwF_X10_94 rfl rfl rfl kd378.2.2.2.1 hk17 ?_
      refine jx_iload 0 kd378.2.2.2.2.1 rfl ?_
      exact jx_iret kd378.2.2.2.2.2.1 rfl rfl (jle rfl) (jle rfl) ⟨_, rfl, h⟩
    replace h := h.1 c19
    refine jx_ldc jwC_X10_62 kd376.2.2.2.2.2.2.2.2.1 ?_
    exact jx_iret kd377.1 rfl rfl (jle rfl) (jle rfl) ⟨_, rfl, h⟩
  replace h := h.1 c16
  refine jx_ldc jwC_X10_62 kd375.2.2.2.2.2.2.2.1 ?_
  exact jx_iret kd375.2.2.2.2.2.2.2.2.1 rfl rfl (jle rfl) (jle rfl) ⟨_, rfl, h⟩
set_option maxRecDepth 100000 in
set_option maxHeartbeats 4000000 in
theorem T_X10_road {E : jEnv} {d : Nat} {Q : Int32 → jM → Prop} {a0 : Nat} {x1 : Int32} {x2 : Int32} {x3 : Int32} {S : jM} (h : ((jwi x1 6) = 0 → Q (-1000000001) S) ∧ (¬ (jwi x1 6) = 0 → ((jwi x2 6) = 0 → Q (-1000000001) S) ∧ (¬ (jwi x2 6) = 0 → (x1 = x2 → Q (-1000000001) S) ∧ (¬ x1 = x2 → ((jwi x3 10) = 0 → Q (-1000000001) S) ∧ (¬ (jwi x3 10) = 0 → jk S a0 = 10 ∧ ∃ b15, jr S a0 0 = some b15 ∧ (jk S b15 = 3 ∧ ∃ b17, jr S b15 1 = some b17 ∧ (jk S b17 = 4 ∧ jFi E mX4_direct d 0 0 [.ref b17, .int x1, .int x2] S (fun r20 S19 => jk S19 a0 = 10 ∧ ∃ b22, jr S19 a0 0 = some b22 ∧ (jk S19 b22 = 3 ∧ ∃ b24, jr S19 b22 1 = some b24 ∧ (jk S19 b24 = 4 ∧ jFv E mX4_build d 0 0 [.ref b24, .int x1, .int x2, .int x3] S19 (fun S26 => Q r20 S26))))))))))) : jFi E mX10_road (d + 1) 0 0 [.ref a0, .int x1, .int x2, .int x3] S Q := by
  refine jF_of (by decide) (jle rfl) ?_
  refine jx_lv (lv1 := [(0, .ref a0), (1, .int x1), (2, .int x2), (3, .int x3)]) [0, 1, 2, 3] rfl ?_
  refine jx_iload_n 1 kd379.1 rfl rfl ?_
  refine jx_bipush (v := 6) kd379.2.1 (by decide) ?_
  refine jx_callSi (M' := mX10_within) (As := [.int x1, .int 6]) jo_X10_within jwM_X10_58 jwS_X10_within kd379.2.2.1 (jRok_m _ _ _) rfl (jle rfl) ⟨jle rfl, jle rfl⟩ (c_X10_within (Q := fun v S' => v = (jwi x1 6) ∧ S = S') ⟨rfl, rfl⟩) (fun r1 S2 hq3 => ?_)
  obtain ⟨rfl, rfl⟩ := hq3
  refine jx_if_eq (tgt := 32) kd379.2.2.2.1 (by decide) (fun c4 => ?_) (fun c4 => ?_)
  · replace h := h.1 c4
    refine jx_ldc jwC_X10_62 kd380.2.2.2.2.2.2.1 ?_
    exact jx_iret kd380.2.2.2.2.2.2.2.1 rfl rfl (jle rfl) (jle rfl) ⟨_, rfl, h⟩
  replace h := h.2 c4
  refine jx_iload_n 2 kd379.2.2.2.2.1 rfl rfl ?_
  refine jx_bipush (v := 6) kd379.2.2.2.2.2.1 (by decide) ?_
  refine jx_callSi (M' := mX10_within) (As := [.int x2, .int 6]) jo_X10_within jwM_X10_58 jwS_X10_within kd379.2.2.2.2.2.2.1 (jRok_m _ _ _) rfl (jle rfl) ⟨jle rfl, jle rfl⟩ (c_X10_within (Q := fun v S' => v = (jwi x2 6) ∧ S = S') ⟨rfl, rfl⟩) (fun r5 S6 hq7 => ?_)
  obtain ⟨rfl, rfl⟩ := hq7
  refine jx_if_eq (tgt := 32) kd379.2.2.2.2.2.2.2.1 (by decide) (fun c8 => ?_) (fun c8 => ?_)
  · replace h := h.1 c8
    refine jx_ldc jwC_X10_62 kd380.2.2.2.2.2.2.1 ?_
    exact jx_iret kd380.2.2.2.2.2.2.2.1 rfl rfl (jle rfl) (jle rfl) ⟨_, rfl, h⟩
  replace h := h.2 c8
  refine jx_iload_n 1 kd379.2.2.2.2.2.2.2.2.1 rfl rfl ?_
  refine jx_iload_n 2 kd380.1 rfl rfl ?_
  refine jx_icmp_eq (tgt := 32) kd380.2.1 (by decide) (fun c9 => ?_) (fun c9 => ?_)
  · replace h := h.1 c9
    refine jx_ldc jwC_X10_62 kd380.2.2.2.2.2.2.1 ?_
    exact jx_iret kd380.2.2.2.2.2.2.2.1 rfl rfl (jle rfl) (jle rfl) ⟨_, rfl, h⟩
  replace h := h.2 c9
  refine jx_iload_n 3 kd380.2.2.1 rfl rfl ?_
  refine jx_bipush (v := 10) kd380.2.2.2.1 (by decide) ?_
  refine jx_callSi (M' := mX10_within) (As := [.int x3, .int 10]) jo_X10_within jwM_X10_58 jwS_X10_within kd380.2.2.2.2.1 (jRok_m _ _ _) rfl (jle rfl) ⟨jle rfl, jle rfl⟩ (c_X10_within (Q := fun v S' => v = (jwi x3 10) ∧ S = S') ⟨rfl, rfl⟩) (fun r10 S11 hq12 => ?_)
  obtain ⟨rfl, rfl⟩ := hq12
  refine jx_if_ne (tgt := 35) kd380.2.2.2.2.2.1 (by decide) (fun c13 => ?_) (fun c13 => ?_)
  · replace h := h.2 c13
    refine jx_aload_n 0 kd380.2.2.2.2.2.2.2.2.1 rfl rfl ?_
    obtain ⟨hk14, h⟩ := h
    obtain ⟨b15, hb15, h⟩ := h
    refine jx_getr jc_10 (j := 0) (by decide) rfl jwF_X10_12 kd381.1 hk14 hb15 ?_
    obtain ⟨hk16, h⟩ := h
    obtain ⟨b17, hb17, h⟩ := h
    refine jx_getr jc_3 (j := 1) (by decide) rfl jwF_X10_143 kd381.2.1 hk16 hb17 ?_
    refine jx_iload_n 1 kd381.2.2.1 rfl rfl ?_
    refine jx_iload_n 2 kd381.2.2.2.1 rfl rfl ?_
    obtain ⟨hk18, h⟩ := h
    refine jx_callVi (M' := mX4_direct) (As := [.int x1, .int x2]) jo_X4_direct jc_4 rfl jwM_X10_147 jwN_X4_direct jwX_X4_direct kd381.2.2.2.2.1 (jRok_m _ _ _) rfl (jle rfl) ⟨jle rfl, jle rfl⟩ hk18 h (fun r20 S19 h => ?_)
    refine jx_istore (lv1 := [(4, .int r20), (0, .ref a0), (1, .int x1), (2, .int x2), (3, .int x3)]) kd381.2.2.2.2.2.1 (by decide) rfl ?_
    refine jx_aload_n 1 kd381.2.2.2.2.2.2.1 rfl rfl ?_
    obtain ⟨hk21, h⟩ := h
    obtain ⟨b22, hb22, h⟩ := h
    refine jx_getr jc_10 (j := 0) (by decide) rfl jwF_X10_12 kd381.2.2.2.2.2.2.2.1 hk21 hb22 ?_
    obtain ⟨hk23, h⟩ := h
    obtain ⟨b24, hb24, h⟩ := h
    refine jx_getr jc_3 (j := 1) (by decide) rfl jwF_X10_143 kd381.2.2.2.2.2.2.2.2.1 hk23 hb24 ?_
    refine jx_iload_n 2 kd382.1 rfl rfl ?_
    refine jx_iload_n 3 kd382.2.1 rfl rfl ?_
    refine jx_iload_n 4 kd382.2.2.1 rfl rfl ?_
    obtain ⟨hk25, h⟩ := h
    refine jx_callVv (M' := mX4_build) (As := [.int x1, .int x2, .int x3]) jo_X4_build jc_4 rfl jwM_X10_153 jwN_X4_build jwX_X4_build kd382.2.2.2.1 (jRok_m _ _ _) rfl (jle rfl) ⟨jle rfl, jle rfl⟩ hk25 h (fun S26 h => ?_)
    refine jx_iload 0 kd382.2.2.2.2.1 rfl ?_
    exact jx_iret kd382.2.2.2.2.2.1 rfl rfl (jle rfl) (jle rfl) ⟨_, rfl, h⟩
  replace h := h.1 c13
  refine jx_ldc jwC_X10_62 kd380.2.2.2.2.2.2.1 ?_
  exact jx_iret kd380.2.2.2.2.2.2.2.1 rfl rfl (jle rfl) (jle rfl) ⟨_, rfl, h⟩
set_option maxRecDepth 100000 in
set_option maxHeartbeats 4000000 in
theorem T_X10_far {E : jEnv} {d : Nat} {Q : Int32 → jM → Prop} {a0 : Nat} {x1 : Int32} {x2 : Int32} {S : jM} (h : ((jwi x1 6) = 0 → Q (-1000000001) S) ∧ (¬ (jwi x1 6) = 0 → ((jwi x2 6) = 0 → Q (-1000000001) S) ∧ (¬ (jwi x2 6) = 0 → jk S a0 = 10 ∧ ∃ b10, jr S a0 0 = some b10 ∧ (jk S b10 = 3 ∧ ∃ b12, jr S b10 1 = some b12 ∧ (jk S b12 = 4 ∧ jFi E mX4_fewest d 0 0 [.ref b12, .int x1, .int x2] S (fun r15 S14 => (r15 = 9999 → Q (-1000000005) S14) ∧ (¬ r15 = 9999 → Q r15 S14))))))) : jFi E mX10_far (d + 1) 0 0 [.ref a0, .int x1, .int x2] S Q := by
  refine jF_of (by decide) (jle rfl) ?_
  refine jx_lv (lv1 := [(0, .ref a0), (1, .int x1), (2, .int x2)]) [0, 1, 2] rfl ?_
  refine jx_iload_n 1 kd383.1 rfl rfl ?_
  refine jx_bipush (v := 6) kd383.2.1 (by decide) ?_
  refine jx_callSi (M' := mX10_within) (As := [.int x1, .int 6]) jo_X10_within jwM_X10_58 jwS_X10_within kd383.2.2.1 (jRok_m _ _ _) rfl (jle rfl) ⟨jle rfl, jle rfl⟩ (c_X10_within (Q := fun v S' => v = (jwi x1 6) ∧ S = S') ⟨rfl, rfl⟩) (fun r1 S2 hq3 => ?_)
  obtain ⟨rfl, rfl⟩ := hq3
  refine jx_if_eq (tgt := 18) kd383.2.2.2.1 (by decide) (fun c4 => ?_) (fun c4 => ?_)
  · replace h := h.1 c4
    refine jx_ldc jwC_X10_62 kd383.2.2.2.2.2.2.2.2.1 ?_
    exact jx_iret kd384.1 rfl rfl (jle rfl) (jle rfl) ⟨_, rfl, h⟩
  replace h := h.2 c4
  refine jx_iload_n 2 kd383.2.2.2.2.1 rfl rfl ?_
  refine jx_bipush (v := 6) kd383.2.2.2.2.2.1 (by decide) ?_
  refine jx_callSi (M' := mX10_within) (As := [.int x2, .int 6]) jo_X10_within jwM_X10_58 jwS_X10_within kd383.2.2.2.2.2.2.1 (jRok_m _ _ _) rfl (jle rfl) ⟨jle rfl, jle rfl⟩ (c_X10_within (Q := fun v S' => v = (jwi x2 6) ∧ S = S') ⟨rfl, rfl⟩) (fun r5 S6 hq7 => ?_)
  obtain ⟨rfl, rfl⟩ := hq7
  refine jx_if_ne (tgt := 21) kd383.2.2.2.2.2.2.2.1 (by decide) (fun c8 => ?_) (fun c8 => ?_)
  · replace h := h.2 c8
    refine jx_aload_n 0 kd384.2.1 rfl rfl ?_
    obtain ⟨hk9, h⟩ := h
    obtain ⟨b10, hb10, h⟩ := h
    refine jx_getr jc_10 (j := 0) (by decide) rfl jwF_X10_12 kd384.2.2.1 hk9 hb10 ?_
    obtain ⟨hk11, h⟩ := h
    obtain ⟨b12, hb12, h⟩ := h
    refine jx_getr jc_3 (j := 1) (by decide) rfl jwF_X10_143 kd384.2.2.2.1 hk11 hb12 ?_
    refine jx_iload_n 1 kd384.2.2.2.2.1 rfl rfl ?_
    refine jx_iload_n 2 kd384.2.2.2.2.2.1 rfl rfl ?_
    obtain ⟨hk13, h⟩ := h
    refine jx_callVi (M' := mX4_fewest) (As := [.int x1, .int x2]) jo_X4_fewest jc_4 rfl jwM_X10_157 jwN_X4_fewest jwX_X4_fewest kd384.2.2.2.2.2.2.1 (jRok_m _ _ _) rfl (jle rfl) ⟨jle rfl, jle rfl⟩ hk13 h (fun r15 S14 h => ?_)
    refine jx_istore_n (lv1 := [(3, .int r15), (0, .ref a0), (1, .int x1), (2, .int x2)]) kd384.2.2.2.2.2.2.2.1 rfl (by decide) rfl ?_
    refine jx_iload_n 0 kd384.2.2.2.2.2.2.2.2.1 rfl rfl ?_
    refine jx_sipush (v := 9999) kd385.1 (by decide) ?_
    refine jx_icmp_ne (tgt := 46) kd385.2.1 (by decide) (fun c16 => ?_) (fun c16 => ?_)
    · replace h := h.2 c16
      refine jx_iload_n 0 kd385.2.2.2.2.1 rfl rfl ?_
      exact jx_iret kd385.2.2.2.2.2.1 rfl rfl (jle rfl) (jle rfl) ⟨_, rfl, h⟩
    replace h := h.1 c16
    refine jx_ldc jwC_X10_160 kd385.2.2.1 ?_
    refine jx_goto (tgt := 47) kd385.2.2.2.1 (by decide) ?_
    exact jx_iret kd385.2.2.2.2.2.1 rfl rfl (jle rfl) (jle rfl) ⟨_, rfl, h⟩
  replace h := h.1 c8
  refine jx_ldc jwC_X10_62 kd383.2.2.2.2.2.2.2.2.1 ?_
  exact jx_iret kd384.1 rfl rfl (jle rfl) (jle rfl) ⟨_, rfl, h⟩
/-- X10_deal at its loop's head 34 -/
abbrev L_X10_deal_34 (E : jEnv) (d : Nat) (Q : Int32 → jM → Prop) (a0 : Nat) (x2 : Int32) (x3 : Int32) (S : jM) : Prop := jX E mX10_deal (jRm (d + 1) 0 0) (jZm E (fun r S' => ∃ v : Int32, r = some (.int v) ∧ Q v S') 0 0) 34 [(0, .ref a0), (2, .int x2), (3, .int x3)] [] S 0 0
set_option maxRecDepth 100000 in
set_option maxHeartbeats 4000000 in
theorem T_X10_deal {E : jEnv} {d : Nat} {Q : Int32 → jM → Prop} {a0 : Nat} {x1 : Int32} {S : jM} (h : (x1 < 1 → Q (-1000000001) S) ∧ (¬ x1 < 1 → (x1 ≤ 9 → jk S a0 = 10 ∧ ∃ b4, jr S a0 0 = some b4 ∧ (jk S b4 = 3 ∧ ∃ b6, jr S b4 0 = some b6 ∧ (jk S b6 = 0 ∧ L_X10_deal_34 E d Q a0 (jmin x1 (9 - (ji S b6 1))) 0 S))) ∧ (¬ x1 ≤ 9 → Q (-1000000001) S))) : jFi E mX10_deal (d + 1) 0 0 [.ref a0, .int x1] S Q := by
  refine jF_of (by decide) (jle rfl) ?_
  refine jx_lv (lv1 := [(0, .ref a0), (1, .int x1)]) [0, 1] rfl ?_
  refine jx_iload_n 1 kd386.1 rfl rfl ?_
  refine jx_iconst (v := 1) kd386.2.1 (by decide) ?_
  refine jx_icmp_lt (tgt := 11) kd386.2.2.1 (by decide) (fun c1 => ?_) (fun c1 => ?_)
  · replace h := h.1 c1
    refine jx_ldc jwC_X10_62 kd386.2.2.2.2.2.2.1 ?_
    exact jx_iret kd386.2.2.2.2.2.2.2.1 rfl rfl (jle rfl) (jle rfl) ⟨_, rfl, h⟩
  replace h := h.2 c1
  refine jx_iload_n 1 kd386.2.2.2.1 rfl rfl ?_
  refine jx_bipush (v := 9) kd386.2.2.2.2.1 (by decide) ?_
  refine jx_icmp_le (tgt := 14) kd386.2.2.2.2.2.1 (by decide) (fun c2 => ?_) (fun c2 => ?_)
  · replace h := h.1 c2
    refine jx_iload_n 1 kd386.2.2.2.2.2.2.2.2.1 rfl rfl ?_
    refine jx_bipush (v := 9) kd387.1 (by decide) ?_
    refine jx_aload_n 0 kd387.2.1 rfl rfl ?_
    obtain ⟨hk3, h⟩ := h
    obtain ⟨b4, hb4, h⟩ := h
    refine jx_getr jc_10 (j := 0) (by decide) rfl jwF_X10_12 kd387.2.2.1 hk3 hb4 ?_
    obtain ⟨hk5, h⟩ := h
    obtain ⟨b6, hb6, h⟩ := h
    refine jx_getr jc_3 (j := 0) (by decide) rfl jwF_X10_63 kd387.2.2.2.1 hk5 hb6 ?_
    obtain ⟨hk7, h⟩ := h
    refine jx_geti jc_0 (j := 1) (by decide) rfl jwF_X10_66 kd387.2.2.2.2.1 hk7 ?_
    refine jx_isub kd387.2.2.2.2.2.1 ?_
    refine jx_min jwM_X10_161 jwS_min jwZ_J9 jwO_min kd387.2.2.2.2.2.2.1 (jRok_m _ _ _) (jle rfl) ⟨Nat.zero_le _, Nat.zero_le _⟩ ?_
    refine jx_istore_n (lv1 := [(2, .int (jmin x1 (9 - (ji S b6 1)))), (0, .ref a0), (1, .int x1)]) kd387.2.2.2.2.2.2.2.1 rfl (by decide) rfl ?_
    refine jx_iconst (v := 0) kd387.2.2.2.2.2.2.2.2.1 (by decide) ?_
    refine jx_istore_n (lv1 := [(3, .int 0), (2, .int (jmin x1 (9 - (ji S b6 1)))), (0, .ref a0), (1, .int x1)]) kd388.1 rfl (by decide) rfl ?_
    exact jx_lv [2, 1, 0] rfl h
  replace h := h.2 c2
  refine jx_ldc jwC_X10_62 kd386.2.2.2.2.2.2.1 ?_
  exact jx_iret kd386.2.2.2.2.2.2.2.1 rfl rfl (jle rfl) (jle rfl) ⟨_, rfl, h⟩
set_option maxRecDepth 100000 in
set_option maxHeartbeats 4000000 in
theorem T_X10_deal_34 {E : jEnv} {d : Nat} {Q : Int32 → jM → Prop} {a0 : Nat} {x2 : Int32} {x3 : Int32} {S : jM} (h : (x2 ≤ x3 → Q x2 S) ∧ (¬ x2 ≤ x3 → jk S a0 = 10 ∧ ∃ b10, jr S a0 0 = some b10 ∧ (jk S b10 = 3 ∧ ∃ b12, jr S b10 0 = some b12 ∧ (jk S b12 = 0 ∧ jFv E mX0_joinByLot d 0 0 [.ref b12] S (fun S14 => L_X10_deal_34 E d Q a0 x2 (x3 + 1) S14))))) : L_X10_deal_34 E d Q a0 x2 x3 S := by
  show jX E mX10_deal (jRm (d + 1) 0 0) (jZm E (fun r S' => ∃ v : Int32, r = some (.int v) ∧ Q v S') 0 0) 34 [(0, .ref a0), (2, .int x2), (3, .int x3)] [] S 0 0
  refine jx_iload_n 2 kd388.2.1 rfl rfl ?_
  refine jx_iload_n 1 kd388.2.2.1 rfl rfl ?_
  refine jx_icmp_ge (tgt := 55) kd388.2.2.2.1 (by decide) (fun c8 => ?_) (fun c8 => ?_)
  · replace h := h.1 c8
    refine jx_iload_n 1 kd389.2.1 rfl rfl ?_
    exact jx_iret kd389.2.2.1 rfl rfl (jle rfl) (jle rfl) ⟨_, rfl, h⟩
  replace h := h.2 c8
  refine jx_aload_n 0 kd388.2.2.2.2.1 rfl rfl ?_
  obtain ⟨hk9, h⟩ := h
  obtain ⟨b10, hb10, h⟩ := h
  refine jx_getr jc_10 (j := 0) (by decide) rfl jwF_X10_12 kd388.2.2.2.2.2.1 hk9 hb10 ?_
  obtain ⟨hk11, h⟩ := h
  obtain ⟨b12, hb12, h⟩ := h
  refine jx_getr jc_3 (j := 0) (by decide) rfl jwF_X10_63 kd388.2.2.2.2.2.2.1 hk11 hb12 ?_
  obtain ⟨hk13, h⟩ := h
  refine jx_callVv (M' := mX0_joinByLot) (As := []) jo_X0_joinByLot jc_0 rfl jwM_X10_166 jwN_X0_joinByLot jwX_X0_joinByLot kd388.2.2.2.2.2.2.2.1 (jRok_m _ _ _) rfl (jle rfl) ⟨jle rfl, jle rfl⟩ hk13 h (fun S14 h => ?_)
  refine jx_iinc 2 (v := (x3 + 1)) (lv1 := [(3, .int (x3 + 1)), (0, .ref a0), (2, .int x2)]) kd388.2.2.2.2.2.2.2.2.1 rfl rfl (by decide) rfl ?_
  refine jx_goto (tgt := 34) kd389.1 (by decide) ?_
  exact jx_lv [1, 2, 0] rfl h
set_option maxRecDepth 100000 in
set_option maxHeartbeats 4000000 in
theorem T_X10_seed {E : jEnv} {d : Nat} {Q : Int32 → jM → Prop} {a0 : Nat} {x1 : Int32} {S : jM} (h : jk S a0 = 10 ∧ ∃ b2, jr S a0 0 = some b2 ∧ (jk S b2 = 3 ∧ ∃ b4, jr S b2 0 = some b4 ∧ (jk S b4 = 0 ∧ Q (ji S b4 2) (jput S b4 2 x1)))) : jFi E mX10_seed d 0 0 [.ref a0, .int x1] S Q := by
  refine jF_of (by decide) (jle rfl) ?_
  refine jx_lv (lv1 := [(0, .ref a0), (1, .int x1)]) [0, 1] rfl ?_
  refine jx_aload_n 0 kd390.1 rfl rfl ?_
  obtain ⟨hk1, h⟩ := h
  obtain ⟨b2, hb2, h⟩ := h
  refine jx_getr jc_10 (j := 0) (by decide) rfl jwF_X10_12 kd390.2.1 hk1 hb2 ?_
  obtain ⟨hk3, h⟩ := h
  obtain ⟨b4, hb4, h⟩ := h
  refine jx_getr jc_3 (j := 0) (by decide) rfl jwF_X10_63 kd390.2.2.1 hk3 hb4 ?_
  obtain ⟨hk5, h⟩ := h
  refine jx_geti jc_0 (j := 2) (by decide) rfl jwF_X10_169 kd390.2.2.2.1 hk5 ?_
  refine jx_istore_n (lv1 := [(2, .int (ji S b4 2)), (0, .ref a0), (1, .int x1)]) kd390.2.2.2.2.1 rfl (by decide) rfl ?_
  refine jx_aload_n 1 kd390.2.2.2.2.2.1 rfl rfl ?_
  refine jx_getr jc_10 (j := 0) (by decide) rfl jwF_X10_12 kd390.2.2.2.2.2.2.1 hk1 hb2 ?_
  refine jx_getr jc_3 (j := 0) (by decide) rfl jwF_X10_63 kd390.2.2.2.2.2.2.2.1 hk3 hb4 ?_
  refine jx_iload_n 2 kd390.2.2.2.2.2.2.2.2.1 rfl rfl ?_
  refine jx_puti jc_0 (j := 2) (by decide) rfl jwF_X10_169 rfl rfl rfl kd391.1 hk5 ?_
  refine jx_iload_n 0 kd391.2.1 rfl rfl ?_
  exact jx_iret kd391.2.2.1 rfl rfl (jle rfl) (jle rfl) ⟨_, rfl, h⟩
set_option maxRecDepth 100000 in
set_option maxHeartbeats 4000000 in
theorem T_X10_apprentice {E : jEnv} {d : Nat} {Q : Int32 → jM → Prop} {a0 : Nat} {x1 : Int32} {S : jM} (h : (x1 = 0 → jk S a0 = 10 ∧ ∃ b3, jr S a0 0 = some b3 ∧ (jk S b3 = 3 ∧ ∃ b5, jr S b3 2 = some b5 ∧ (jk S b5 = 1 ∧ Q (ji S b5 0) S))) ∧ (x1 = 1 → jk S a0 = 10 ∧ ∃ b9, jr S a0 0 = some b9 ∧ (jk S b9 = 3 ∧ ∃ b11, jr S b9 2 = some b11 ∧ (jk S b11 = 1 ∧ Q (ji S b11 1) S))) ∧ (x1 = 2 → jk S a0 = 10 ∧ ∃ b15, jr S a0 0 = some b15 ∧ (jk S b15 = 3 ∧ ∃ b17, jr S b15 2 = some b17 ∧ (jk S b17 = 1 ∧ Q (ji S b17 2) S))) ∧ (x1 = 3 → jk S a0 = 10 ∧ ∃ b21, jr S a0 0 = some b21 ∧ (jk S b21 = 3 ∧ ∃ b23, jr S b21 2 = some b23 ∧ (jk S b23 = 1 ∧ Q (ji S b23 3) S))) ∧ (¬ x1 = 0 → ¬ x1 = 1 → ¬ x1 = 2 → ¬ x1 = 3 → Q (-1000000001) S)) : jFi E mX10_apprentice d 0 0 [.ref a0, .int x1] S Q := by
  refine jF_of (by decide) (jle rfl) ?_
  refine jx_lv (lv1 := [(0, .ref a0), (1, .int x1)]) [0, 1] rfl ?_
  refine jx_iload_n 1 kd392.1 rfl rfl ?_
  by_cases c1 : x1 = 0
  · replace h := h.1 c1
    refine jx_tableIn (v := 0) (tgt := 32) (off := 31) kd392.2.1 c1 (by decide) (by decide) (by decide) (by decide) ?_
    refine jx_aload_n 0 kd392.2.2.1 rfl rfl ?_
    obtain ⟨hk2, h⟩ := h
    obtain ⟨b3, hb3, h⟩ := h
    refine jx_getr jc_10 (j := 0) (by decide) rfl jwF_X10_12 kd392.2.2.2.1 hk2 hb3 ?_
    obtain ⟨hk4, h⟩ := h
    obtain ⟨b5, hb5, h⟩ := h
    refine jx_getr jc_3 (j := 2) (by decide) rfl jwF_X10_79 kd392.2.2.2.2.1 hk4 hb5 ?_
    obtain ⟨hk6, h⟩ := h
    refine jx_geti jc_1 (j := 0) (by decide) rfl jwF_X10_172 kd392.2.2.2.2.2.1 hk6 ?_
    exact jx_iret kd392.2.2.2.2.2.2.1 rfl rfl (jle rfl) (jle rfl) ⟨_, rfl, h⟩
  replace h := h.2
  by_cases c7 : x1 = 1
  · replace h := h.1 c7
    refine jx_tableIn (v := 1) (tgt := 43) (off := 42) kd392.2.1 c7 (by decide) (by decide) (by decide) (by decide) ?_
    refine jx_aload_n 0 kd392.2.2.2.2.2.2.2.1 rfl rfl ?_
    obtain ⟨hk8, h⟩ := h
    obtain ⟨b9, hb9, h⟩ := h
    refine jx_getr jc_10 (j := 0) (by decide) rfl jwF_X10_12 kd392.2.2.2.2.2.2.2.2.1 hk8 hb9 ?_
    obtain ⟨hk10, h⟩ := h
    obtain ⟨b11, hb11, h⟩ := h
    refine jx_getr jc_3 (j := 2) (by decide) rfl jwF_X10_79 kd393.1 hk10 hb11 ?_
    obtain ⟨hk12, h⟩ := h
    refine jx_geti jc_1 (j := 1) (by decide) rfl jwF_X10_107 kd393.2.1 hk12 ?_
    exact jx_iret kd393.2.2.1 rfl rfl (jle rfl) (jle rfl) ⟨_, rfl, h⟩
  replace h := h.2
  by_cases c13 : x1 = 2
  · replace h := h.1 c13
    refine jx_tableIn (v := 2) (tgt := 54) (off := 53) kd392.2.1 c13 (by decide) (by decide) (by decide) (by decide) ?_
    refine jx_aload_n 0 kd393.2.2.2.1 rfl rfl ?_
    obtain ⟨hk14, h⟩ := h
    obtain ⟨b15, hb15, h⟩ := h
    refine jx_getr jc_10 (j := 0) (by decide) rfl jwF_X10_12 kd393.2.2.2.2.1 hk14 hb15 ?_
    obtain ⟨hk16, h⟩ := h
    obtain ⟨b17, hb17, h⟩ := h
    refine jx_getr jc_3 (j := 2) (by decide) rfl jwF_X10_79 kd393.2.2.2.2.2.1 hk16 hb17 ?_
    obtain ⟨hk18, h⟩ := h
    refine jx_geti jc_1 (j := 2) (by decide) rfl jwF_X10_175 kd393.2.2.2.2.2.2.1 hk18 ?_
    exact jx_iret kd393.2.2.2.2.2.2.2.1 rfl rfl (jle rfl) (jle rfl) ⟨_, rfl, h⟩
  replace h := h.2
  by_cases c19 : x1 = 3
  · replace h := h.1 c19
    refine jx_tableIn (v := 3) (tgt := 65) (off := 64) kd392.2.1 c19 (by decide) (by decide) (by decide) (by decide) ?_
    refine jx_aload_n 0 kd393.2.2.2.2.2.2.2.2.1 rfl rfl ?_
    obtain ⟨hk20, h⟩ := h
    obtain ⟨b21, hb21, h⟩ := h
    refine jx_getr jc_10 (j := 0) (by decide) rfl jwF_X10_12 kd394.1 hk20 hb21 ?_
    obtain ⟨hk22, h⟩ := h
    obtain ⟨b23, hb23, h⟩ := h
    refine jx_getr jc_3 (j := 2) (by decide) rfl jwF_X10_79 kd394.2.1 hk22 hb23 ?_
    obtain ⟨hk24, h⟩ := h
    refine jx_geti jc_1 (j := 3) (by decide) rfl jwF_X10_178 kd394.2.2.1 hk24 ?_
    exact jx_iret kd394.2.2.2.1 rfl rfl (jle rfl) (jle rfl) ⟨_, rfl, h⟩
  replace h := h.2
  replace h := h c1 c7 c13 c19
  refine jx_tableD (tgt := 76) ([0, 1, 2, 3] : List Int) kd392.2.1 (by simp only [List.mem_cons, List.not_mem_nil, or_false, forall_eq_or_imp, forall_eq]; exact ⟨lv_neT c1 (by decide), lv_neT c7 (by decide), lv_neT c13 (by decide), lv_neT c19 (by decide)⟩) (by decide) (by decide) (by decide) ?_
  refine jx_ldc jwC_X10_62 kd394.2.2.2.2.1 ?_
  exact jx_iret kd394.2.2.2.2.2.1 rfl rfl (jle rfl) (jle rfl) ⟨_, rfl, h⟩
set_option maxRecDepth 100000 in
set_option maxHeartbeats 4000000 in
theorem T_X10_has {E : jEnv} {d : Nat} {Q : Int32 → jM → Prop} {a0 : Nat} {x1 : Int32} {x2 : Int32} {S : jM} (h : jk S a0 = 10 ∧ ∃ b2, jr S a0 0 = some b2 ∧ (jk S b2 = 3 ∧ ∃ b4, jr S b2 2 = some b4 ∧ ((x1 = 2 → ((jwi x2 10000) = 0 → (x1 = 3 → ((jwi x2 100) = 0 → Q (-1000000001) S) ∧ (¬ (jwi x2 100) = 0 → jk S b4 = 1 ∧ Q (ji S b4 3) (jput S b4 3 x2))) ∧ (¬ x1 = 3 → Q (-1000000001) S)) ∧ (¬ (jwi x2 10000) = 0 → jk S b4 = 1 ∧ Q (ji S b4 2) (jput S b4 2 x2))) ∧ (¬ x1 = 2 → (x1 = 3 → ((jwi x2 100) = 0 → Q (-1000000001) S) ∧ (¬ (jwi x2 100) = 0 → jk S b4 = 1 ∧ Q (ji S b4 3) (jput S b4 3 x2))) ∧ (¬ x1 = 3 → Q (-1000000001) S))))) : jFi E mX10_has (d + 1) 0 0 [.ref a0, .int x1, .int x2] S Q := by
  refine jF_of (by decide) (jle rfl) ?_
  refine jx_lv (lv1 := [(0, .ref a0), (1, .int x1), (2, .int x2)]) [0, 1, 2] rfl ?_
  refine jx_aload_n 0 kd395.1 rfl rfl ?_
  obtain ⟨hk1, h⟩ := h
  obtain ⟨b2, hb2, h⟩ := h
  refine jx_getr jc_10 (j := 0) (by decide) rfl jwF_X10_12 kd395.2.1 hk1 hb2 ?_
  obtain ⟨hk3, h⟩ := h
  obtain ⟨b4, hb4, h⟩ := h
  refine jx_getr jc_3 (j := 2) (by decide) rfl jwF_X10_79 kd395.2.2.1 hk3 hb4 ?_
  refine jx_astore_n (lv1 := [(3, .ref b4), (0, .ref a0), (1, .int x1), (2, .int x2)]) kd395.2.2.2.1 rfl (by decide) rfl ?_
  refine jx_iload_n 2 kd395.2.2.2.2.1 rfl rfl ?_
  refine jx_iconst (v := 2) kd395.2.2.2.2.2.1 (by decide) ?_
  refine jx_icmp_ne (tgt := 37) kd395.2.2.2.2.2.2.1 (by decide) (fun c5 => ?_) (fun c5 => ?_)
  · replace h := h.2 c5
    refine jx_iload_n 2 kd397.2.1 rfl rfl ?_
    refine jx_iconst (v := 3) kd397.2.2.1 (by decide) ?_
    refine jx_icmp_ne (tgt := 65) kd397.2.2.2.1 (by decide) (fun c6 => ?_) (fun c6 => ?_)
    · replace h := h.2 c6
      refine jx_ldc jwC_X10_62 kd398.2.2.2.2.2.2.2.1 ?_
      exact jx_iret kd398.2.2.2.2.2.2.2.2.1 rfl rfl (jle rfl) (jle rfl) ⟨_, rfl, h⟩
    replace h := h.1 c6
    refine jx_iload_n 3 kd397.2.2.2.2.1 rfl rfl ?_
    refine jx_bipush (v := 100) kd397.2.2.2.2.2.1 (by decide) ?_
    refine jx_callSi (M' := mX10_within) (As := [.int x2, .int 100]) jo_X10_within jwM_X10_58 jwS_X10_within kd397.2.2.2.2.2.2.1 (jRok_m _ _ _) rfl (jle rfl) ⟨jle rfl, jle rfl⟩ (c_X10_within (Q := fun v S' => v = (jwi x2 100) ∧ S = S') ⟨rfl, rfl⟩) (fun r7 S8 hq9 => ?_)
    obtain ⟨rfl, rfl⟩ := hq9
    refine jx_if_eq (tgt := 65) kd397.2.2.2.2.2.2.2.1 (by decide) (fun c10 => ?_) (fun c10 => ?_)
    · replace h := h.1 c10
      refine jx_ldc jwC_X10_62 kd398.2.2.2.2.2.2.2.1 ?_
      exact jx_iret kd398.2.2.2.2.2.2.2.2.1 rfl rfl (jle rfl) (jle rfl) ⟨_, rfl, h⟩
    replace h := h.2 c10
    refine jx_aload_n 0 kd397.2.2.2.2.2.2.2.2.1 rfl rfl ?_
    obtain ⟨hk11, h⟩ := h
    refine jx_geti jc_1 (j := 3) (by decide) rfl jwF_X10_178 kd398.1 hk11 ?_
    refine jx_istore (lv1 := [(4, .int (ji S b4 3)), (3, .ref b4), (0, .ref a0), (1, .int x1), (2, .int x2)]) kd398.2.1 (by decide) rfl ?_
    refine jx_aload_n 1 kd398.2.2.1 rfl rfl ?_
    refine jx_iload_n 4 kd398.2.2.2.1 rfl rfl ?_
    refine jx_puti jc_1 (j := 3) (by decide) rfl jwF_X10_178 rfl rfl rfl kd398.2.2.2.2.1 hk11 ?_
    refine jx_iload 0 kd398.2.2.2.2.2.1 rfl ?_
    exact jx_iret kd398.2.2.2.2.2.2.1 rfl rfl (jle rfl) (jle rfl) ⟨_, rfl, h⟩
  replace h := h.1 c5
  refine jx_iload_n 3 kd395.2.2.2.2.2.2.2.1 rfl rfl ?_
  refine jx_sipush (v := 10000) kd395.2.2.2.2.2.2.2.2.1 (by decide) ?_
  refine jx_callSi (M' := mX10_within) (As := [.int x2, .int 10000]) jo_X10_within jwM_X10_58 jwS_X10_within kd396.1 (jRok_m _ _ _) rfl (jle rfl) ⟨jle rfl, jle rfl⟩ (c_X10_within (Q := fun v S' => v = (jwi x2 10000) ∧ S = S') ⟨rfl, rfl⟩) (fun r12 S13 hq14 => ?_)
  obtain ⟨rfl, rfl⟩ := hq14
  refine jx_if_eq (tgt := 37) kd396.2.1 (by decide) (fun c15 => ?_) (fun c15 => ?_)
  · replace h := h.1 c15
    refine jx_iload_n 2 kd397.2.1 rfl rfl ?_
    refine jx_iconst (v := 3) kd397.2.2.1 (by decide) ?_
    refine jx_icmp_ne (tgt := 65) kd397.2.2.2.1 (by decide) (fun c16 => ?_) (fun c16 => ?_)
    · replace h := h.2 c16
      refine jx_ldc jwC_X10_62 kd398.2.2.2.2.2.2.2.1 ?_
      exact jx_iret kd398.2.2.2.2.2.2.2.2.1 rfl rfl (jle rfl) (jle rfl) ⟨_, rfl, h⟩
    replace h := h.1 c16
    refine jx_iload_n 3 kd397.2.2.2.2.1 rfl rfl ?_
    refine jx_bipush (v := 100) kd397.2.2.2.2.2.1 (by decide) ?_
    refine jx_callSi (M' := mX10_within) (As := [.int x2, .int 100]) jo_X10_within jwM_X10_58 jwS_X10_within kd397.2.2.2.2.2.2.1 (jRok_m _ _ _) rfl (jle rfl) ⟨jle rfl, jle rfl⟩ (c_X10_within (Q := fun v S' => v = (jwi x2 100) ∧ S = S') ⟨rfl, rfl⟩) (fun r17 S18 hq19 => ?_)
    obtain ⟨rfl, rfl⟩ := hq19
    refine jx_if_eq (tgt := 65) kd397.2.2.2.2.2.2.2.1 (by decide) (fun c20 => ?_) (fun c20 => ?_)
    · replace h := h.1 c20
      refine jx_ldc jwC_X10_62 kd398.2.2.2.2.2.2.2.1 ?_
      exact jx_iret kd398.2.2.2.2.2.2.2.2.1 rfl rfl (jle rfl) (jle rfl) ⟨_, rfl, h⟩
    replace h := h.2 c20
    refine jx_aload_n 0 kd397.2.2.2.2.2.2.2.2.1 rfl rfl ?_
    obtain ⟨hk21, h⟩ := h
    refine jx_geti jc_1 (j := 3) (by decide) rfl jwF_X10_178 kd398.1 hk21 ?_
    refine jx_istore (lv1 := [(4, .int (ji S b4 3)), (3, .ref b4), (0, .ref a0), (1, .int x1), (2, .int x2)]) kd398.2.1 (by decide) rfl ?_
    refine jx_aload_n 1 kd398.2.2.1 rfl rfl ?_
    refine jx_iload_n 4 kd398.2.2.2.1 rfl rfl ?_
    refine jx_puti jc_1 (j := 3) (by decide) rfl jwF_X10_178 rfl rfl rfl kd398.2.2.2.2.1 hk21 ?_
    refine jx_iload 0 kd398.2.2.2.2.2.1 rfl ?_
    exact jx_iret kd398.2.2.2.2.2.2.1 rfl rfl (jle rfl) (jle rfl) ⟨_, rfl, h⟩
  replace h := h.2 c15
  refine jx_aload_n 0 kd396.2.2.1 rfl rfl ?_
  obtain ⟨hk22, h⟩ := h
  refine jx_geti jc_1 (j := 2) (by decide) rfl jwF_X10_175 kd396.2.2.2.1 hk22 ?_
  refine jx_istore (lv1 := [(4, .int (ji S b4 2)), (3, .ref b4), (0, .ref a0), (1, .int x1), (2, .int x2)]) kd396.2.2.2.2.1 (by decide) rfl ?_
  refine jx_aload_n 1 kd396.2.2.2.2.2.1 rfl rfl ?_
  refine jx_iload_n 4 kd396.2.2.2.2.2.2.1 rfl rfl ?_
  refine jx_puti jc_1 (j := 2) (by decide) rfl jwF_X10_175 rfl rfl rfl kd396.2.2.2.2.2.2.2.1 hk22 ?_
  refine jx_iload 0 kd396.2.2.2.2.2.2.2.2.1 rfl ?_
  exact jx_iret kd397.1 rfl rfl (jle rfl) (jle rfl) ⟨_, rfl, h⟩
set_option maxRecDepth 100000 in
set_option maxHeartbeats 4000000 in
theorem T_X10_knows {E : jEnv} {d : Nat} {Q : Int32 → jM → Prop} {a0 : Nat} {x1 : Int32} {x2 : Int32} {S : jM} (h : ((jwi x1 10) = 0 → Q (-1000000001) S) ∧ (¬ (jwi x1 10) = 0 → ((jwi x2 2) = 0 → Q (-1000000001) S) ∧ (¬ (jwi x2 2) = 0 → jk S a0 = 10 ∧ ∃ b10, jr S a0 0 = some b10 ∧ (jk S b10 = 3 ∧ ∃ b12, jr S b10 2 = some b12 ∧ (jk S b12 = 1 ∧ jFi E mX1_isAble d 0 0 [.ref b12, .int x1] S (fun r15 S14 => (r15 = 0 → Q (-1000000002) S14) ∧ (¬ r15 = 0 → (x2 = 0 → jk S14 b12 = 1 ∧ ∃ b23, jr S14 b12 5 = some b23 ∧ (jk S14 b23 = 12 ∧ vp_in x1 (jl S14 b23) ∧ (Q (ji S14 b23 (Int32.toNatClampNeg x1)) S14))) ∧ (¬ x2 = 0 → jk S14 b12 = 1 ∧ ∃ b19, jr S14 b12 6 = some b19 ∧ (jk S14 b19 = 12 ∧ vp_in x1 (jl S14 b19) ∧ (Q (ji S14 b19 (Int32.toNatClampNeg x1)) S14)))))))))) : jFi E mX10_knows (d + 1) 0 0 [.ref a0, .int x1, .int x2] S Q := by
  refine jF_of (by decide) (jle rfl) ?_
  refine jx_lv (lv1 := [(0, .ref a0), (1, .int x1), (2, .int x2)]) [0, 1, 2] rfl ?_
  refine jx_iload_n 1 kd399.1 rfl rfl ?_
  refine jx_bipush (v := 10) kd399.2.1 (by decide) ?_
  refine jx_callSi (M' := mX10_within) (As := [.int x1, .int 10]) jo_X10_within jwM_X10_58 jwS_X10_within kd399.2.2.1 (jRok_m _ _ _) rfl (jle rfl) ⟨jle rfl, jle rfl⟩ (c_X10_within (Q := fun v S' => v = (jwi x1 10) ∧ S = S') ⟨rfl, rfl⟩) (fun r1 S2 hq3 => ?_)
  obtain ⟨rfl, rfl⟩ := hq3
  refine jx_if_eq (tgt := 17) kd399.2.2.2.1 (by decide) (fun c4 => ?_) (fun c4 => ?_)
  · replace h := h.1 c4
    refine jx_ldc jwC_X10_62 kd399.2.2.2.2.2.2.2.2.1 ?_
    exact jx_iret kd400.1 rfl rfl (jle rfl) (jle rfl) ⟨_, rfl, h⟩
  replace h := h.2 c4
  refine jx_iload_n 2 kd399.2.2.2.2.1 rfl rfl ?_
  refine jx_iconst (v := 2) kd399.2.2.2.2.2.1 (by decide) ?_
  refine jx_callSi (M' := mX10_within) (As := [.int x2, .int 2]) jo_X10_within jwM_X10_58 jwS_X10_within kd399.2.2.2.2.2.2.1 (jRok_m _ _ _) rfl (jle rfl) ⟨jle rfl, jle rfl⟩ (c_X10_within (Q := fun v S' => v = (jwi x2 2) ∧ S = S') ⟨rfl, rfl⟩) (fun r5 S6 hq7 => ?_)
  obtain ⟨rfl, rfl⟩ := hq7
  refine jx_if_ne (tgt := 20) kd399.2.2.2.2.2.2.2.1 (by decide) (fun c8 => ?_) (fun c8 => ?_)
  · replace h := h.2 c8
    refine jx_aload_n 0 kd400.2.1 rfl rfl ?_
    obtain ⟨hk9, h⟩ := h
    obtain ⟨b10, hb10, h⟩ := h
    refine jx_getr jc_10 (j := 0) (by decide) rfl jwF_X10_12 kd400.2.2.1 hk9 hb10 ?_
    obtain ⟨hk11, h⟩ := h
    obtain ⟨b12, hb12, h⟩ := h
    refine jx_getr jc_3 (j := 2) (by decide) rfl jwF_X10_79 kd400.2.2.2.1 hk11 hb12 ?_
    refine jx_astore_n (lv1 := [(3, .ref b12), (0, .ref a0), (1, .int x1), (2, .int x2)]) kd400.2.2.2.2.1 rfl (by decide) rfl ?_
    refine jx_aload_n 0 kd400.2.2.2.2.2.1 rfl rfl ?_
    refine jx_iload_n 2 kd400.2.2.2.2.2.2.1 rfl rfl ?_
    obtain ⟨hk13, h⟩ := h
    refine jx_callVi (M' := mX1_isAble) (As := [.int x1]) jo_X1_isAble jc_1 rfl jwM_X10_181 jwN_X1_isAble jwX_X1_isAble kd400.2.2.2.2.2.2.2.1 (jRok_m _ _ _) rfl (jle rfl) ⟨jle rfl, jle rfl⟩ hk13 h (fun r15 S14 h => ?_)
    refine jx_if_ne (tgt := 39) kd400.2.2.2.2.2.2.2.2.1 (by decide) (fun c16 => ?_) (fun c16 => ?_)
    · replace h := h.2 c16
      refine jx_iload_n 3 kd401.2.2.1 rfl rfl ?_
      refine jx_if_ne (tgt := 52) kd401.2.2.2.1 (by decide) (fun c17 => ?_) (fun c17 => ?_)
      · replace h := h.2 c17
        refine jx_aload_n 0 kd402.1 rfl rfl ?_
        obtain ⟨hk18, h⟩ := h
        obtain ⟨b19, hb19, h⟩ := h
        refine jx_getr jc_1 (j := 6) (by decide) rfl jwF_X10_188 kd402.2.1 hk18 hb19 ?_
        refine jx_iload_n 2 kd402.2.2.1 rfl rfl ?_
        obtain ⟨hk20, h⟩ := h
        obtain ⟨hi21, h⟩ := h
        refine jx_iald kd402.2.2.2.1 hk20 hi21 ?_
        exact jx_iret kd402.2.2.2.2.1 rfl rfl (jle rfl) (jle rfl) ⟨_, rfl, h⟩
      replace h := h.1 c17
      refine jx_aload_n 0 kd401.2.2.2.2.1 rfl rfl ?_
      obtain ⟨hk22, h⟩ := h
      obtain ⟨b23, hb23, h⟩ := h
      refine jx_getr jc_1 (j := 5) (by decide) rfl jwF_X10_185 kd401.2.2.2.2.2.1 hk22 hb23 ?_
      refine jx_iload_n 2 kd401.2.2.2.2.2.2.1 rfl rfl ?_
      obtain ⟨hk24, h⟩ := h
      obtain ⟨hi25, h⟩ := h
      refine jx_iald kd401.2.2.2.2.2.2.2.1 hk24 hi25 ?_
      refine jx_goto (tgt := 58) kd401.2.2.2.2.2.2.2.2.1 (by decide) ?_
      exact jx_iret kd402.2.2.2.2.1 rfl rfl (jle rfl) (jle rfl) ⟨_, rfl, h⟩
    replace h := h.1 c16
    refine jx_ldc jwC_X10_184 kd401.1 ?_
    exact jx_iret kd401.2.1 rfl rfl (jle rfl) (jle rfl) ⟨_, rfl, h⟩
  replace h := h.1 c8
  refine jx_ldc jwC_X10_62 kd399.2.2.2.2.2.2.2.2.1 ?_
  exact jx_iret kd400.1 rfl rfl (jle rfl) (jle rfl) ⟨_, rfl, h⟩
set_option maxRecDepth 100000 in
set_option maxHeartbeats 4000000 in
theorem T_X10_go {E : jEnv} {d : Nat} {Q : Int32 → jM → Prop} {a0 : Nat} {x1 : Int32} {S : jM} (h : jk S a0 = 10 ∧ ∃ b2, jr S a0 0 = some b2 ∧ (jk S b2 = 3 ∧ ∃ b4, jr S b2 2 = some b4 ∧ (((jwi x1 6) = 0 → Q (-1000000001) S) ∧ (¬ (jwi x1 6) = 0 → jk S b4 = 1 ∧ (x1 = (ji S b4 0) → Q (-1000000001) S) ∧ (¬ x1 = (ji S b4 0) → ∃ b11, jr S b2 1 = some b11 ∧ (jk S b11 = 4 ∧ jFi E mX4_direct d 0 0 [.ref b11, .int (ji S b4 0), .int x1] S (fun r14 S13 => (r14 = 0 → Q (-1000000002) S13) ∧ (¬ r14 = 0 → jk S13 b4 = 1 ∧ jFv E mX1_passDays d 0 0 [.ref b4, .int r14] S13 (fun S17 => jk S17 b4 = 1 ∧ Q (ji S17 b4 4) (jput S17 b4 0 x1)))))))))) : jFi E mX10_go (d + 1) 0 0 [.ref a0, .int x1] S Q := by
  refine jF_of (by decide) (jle rfl) ?_
  refine jx_lv (lv1 := [(0, .ref a0), (1, .int x1)]) [0, 1] rfl ?_
  refine jx_aload_n 0 kd403.1 rfl rfl ?_
  obtain ⟨hk1, h⟩ := h
  obtain ⟨b2, hb2, h⟩ := h
  refine jx_getr jc_10 (j := 0) (by decide) rfl jwF_X10_12 kd403.2.1 hk1 hb2 ?_
  obtain ⟨hk3, h⟩ := h
  obtain ⟨b4, hb4, h⟩ := h
  refine jx_getr jc_3 (j := 2) (by decide) rfl jwF_X10_79 kd403.2.2.1 hk3 hb4 ?_
  refine jx_astore_n (lv1 := [(2, .ref b4), (0, .ref a0), (1, .int x1)]) kd403.2.2.2.1 rfl (by decide) rfl ?_
  refine jx_iload_n 2 kd403.2.2.2.2.1 rfl rfl ?_
  refine jx_bipush (v := 6) kd403.2.2.2.2.2.1 (by decide) ?_
  refine jx_callSi (M' := mX10_within) (As := [.int x1, .int 6]) jo_X10_within jwM_X10_58 jwS_X10_within kd403.2.2.2.2.2.2.1 (jRok_m _ _ _) rfl (jle rfl) ⟨jle rfl, jle rfl⟩ (c_X10_within (Q := fun v S' => v = (jwi x1 6) ∧ S = S') ⟨rfl, rfl⟩) (fun r5 S6 hq7 => ?_)
  obtain ⟨rfl, rfl⟩ := hq7
  refine jx_if_eq (tgt := 25) kd403.2.2.2.2.2.2.2.1 (by decide) (fun c8 => ?_) (fun c8 => ?_)
  · replace h := h.1 c8
    refine jx_ldc jwC_X10_62 kd404.2.2.2.1 ?_
    exact jx_iret kd404.2.2.2.2.1 rfl rfl (jle rfl) (jle rfl) ⟨_, rfl, h⟩
  replace h := h.2 c8
  refine jx_iload_n 2 kd403.2.2.2.2.2.2.2.2.1 rfl rfl ?_
  refine jx_aload_n 0 kd404.1 rfl rfl ?_
  obtain ⟨hk9, h⟩ := h
  refine jx_geti jc_1 (j := 0) (by decide) rfl jwF_X10_172 kd404.2.1 hk9 ?_
  refine jx_icmp_ne (tgt := 28) kd404.2.2.1 (by decide) (fun c10 => ?_) (fun c10 => ?_)
  · replace h := h.2 c10
    refine jx_aload_n 1 kd404.2.2.2.2.2.1 rfl rfl ?_
    refine jx_getr jc_10 (j := 0) (by decide) rfl jwF_X10_12 kd404.2.2.2.2.2.2.1 hk1 hb2 ?_
    obtain ⟨b11, hb11, h⟩ := h
    refine jx_getr jc_3 (j := 1) (by decide) rfl jwF_X10_143 kd404.2.2.2.2.2.2.2.1 hk3 hb11 ?_
    refine jx_aload_n 0 kd404.2.2.2.2.2.2.2.2.1 rfl rfl ?_
    refine jx_geti jc_1 (j := 0) (by decide) rfl jwF_X10_172 kd405.1 hk9 ?_
    refine jx_iload_n 2 kd405.2.1 rfl rfl ?_
    obtain ⟨hk12, h⟩ := h
    refine jx_callVi (M' := mX4_direct) (As := [.int (ji S b4 0), .int x1]) jo_X4_direct jc_4 rfl jwM_X10_147 jwN_X4_direct jwX_X4_direct kd405.2.2.1 (jRok_m _ _ _) rfl (jle rfl) ⟨jle rfl, jle rfl⟩ hk12 h (fun r14 S13 h => ?_)
    refine jx_istore_n (lv1 := [(3, .int r14), (2, .ref b4), (0, .ref a0), (1, .int x1)]) kd405.2.2.2.1 rfl (by decide) rfl ?_
    refine jx_iload_n 0 kd405.2.2.2.2.1 rfl rfl ?_
    refine jx_if_ne (tgt := 51) kd405.2.2.2.2.2.1 (by decide) (fun c15 => ?_) (fun c15 => ?_)
    · replace h := h.2 c15
      refine jx_aload_n 1 kd405.2.2.2.2.2.2.2.2.1 rfl rfl ?_
      refine jx_iload_n 0 kd406.1 rfl rfl ?_
      obtain ⟨hk16, h⟩ := h
      refine jx_callVv (M' := mX1_passDays) (As := [.int r14]) jo_X1_passDays jc_1 rfl jwM_X10_191 jwN_X1_passDays jwX_X1_passDays kd406.2.1 (jRok_m _ _ _) rfl (jle rfl) ⟨jle rfl, jle rfl⟩ hk16 h (fun S17 h => ?_)
      refine jx_aload_n 1 kd406.2.2.1 rfl rfl ?_
      refine jx_iload_n 3 kd406.2.2.2.1 rfl rfl ?_
      obtain ⟨hk18, h⟩ := h
      refine jx_puti jc_1 (j := 0) (by decide) rfl jwF_X10_172 rfl rfl rfl kd406.2.2.2.2.1 hk18 ?_
      refine jx_aload_n 1 kd406.2.2.2.2.2.1 rfl rfl ?_
      refine jx_geti jc_1 (j := 4) (by decide) rfl jwF_X10_195 kd406.2.2.2.2.2.2.1 hk18 ?_
      refine jx_topi (y := (ji S17 b4 4)) (by simp [ji_put, ji_row, ji_putr]) ?_
      exact jx_iret kd406.2.2.2.2.2.2.2.1 rfl rfl (jle rfl) (jle rfl) ⟨_, rfl, h⟩
    replace h := h.1 c15
    refine jx_ldc jwC_X10_184 kd405.2.2.2.2.2.2.1 ?_
    exact jx_iret kd405.2.2.2.2.2.2.2.1 rfl rfl (jle rfl) (jle rfl) ⟨_, rfl, h⟩
  replace h := h.1 c10
  refine jx_ldc jwC_X10_62 kd404.2.2.2.1 ?_
  exact jx_iret kd404.2.2.2.2.1 rfl rfl (jle rfl) (jle rfl) ⟨_, rfl, h⟩
set_option maxRecDepth 100000 in
set_option maxHeartbeats 4000000 in
theorem T_X10_learn {E : jEnv} {d : Nat} {Q : Int32 → jM → Prop} {a0 : Nat} {x1 : Int32} {S : jM} (h : jk S a0 = 10 ∧ ∃ b2, jr S a0 0 = some b2 ∧ (jk S b2 = 3 ∧ ∃ b4, jr S b2 0 = some b4 ∧ (jk S b4 = 0 ∧ jFr E mX0_find d 0 0 [.ref b4, .int x1] S (fun o7 S6 => (o7 = none → Q (-1000000001) S6) ∧ (∀ b8, o7 = some b8 → jk S6 a0 = 10 ∧ ∃ b10, jr S6 a0 0 = some b10 ∧ (jk S6 b10 = 3 ∧ ∃ b12, jr S6 b10 2 = some b12 ∧ (jk S6 b12 = 1 ∧ jFi E mX1_canLearnOf d 0 0 [.ref b12, .ref b8] S6 (fun r15 S14 => (r15 = 0 → Q (-1000000002) S14) ∧ (¬ r15 = 0 → jk S14 a0 = 10 ∧ ∃ b18, jr S14 a0 0 = some b18 ∧ (jk S14 b12 = 1 ∧ jk S14 b18 = 3 ∧ jFi E mX3_daysTaken d 0 0 [.ref b18, .ref b8, .int (jbc (ji S14 b12 1))] S14 (fun r25 S24 => jk S24 b12 = 1 ∧ jFv E mX1_learnOf d 0 0 [.ref b12, .int x1, .ref b8, .int r25] S24 (fun S27 => jk S27 b12 = 1 ∧ Q (ji S27 b12 1) S27)))))))))))) : jFi E mX10_learn (d + 1) 0 0 [.ref a0, .int x1] S Q := by
  refine jF_of (by decide) (jle rfl) ?_
  refine jx_lv (lv1 := [(0, .ref a0), (1, .int x1)]) [0, 1] rfl ?_
  refine jx_aload_n 0 kd407.1 rfl rfl ?_
  obtain ⟨hk1, h⟩ := h
  obtain ⟨b2, hb2, h⟩ := h
  refine jx_getr jc_10 (j := 0) (by decide) rfl jwF_X10_12 kd407.2.1 hk1 hb2 ?_
  obtain ⟨hk3, h⟩ := h
  obtain ⟨b4, hb4, h⟩ := h
  refine jx_getr jc_3 (j := 0) (by decide) rfl jwF_X10_63 kd407.2.2.1 hk3 hb4 ?_
  refine jx_iload_n 1 kd407.2.2.2.1 rfl rfl ?_
  obtain ⟨hk5, h⟩ := h
  refine jx_callVr (M' := mX0_find) (As := [.int x1]) jo_X0_find jc_0 rfl jwM_X10_75 jwN_X0_find jwX_X0_find kd407.2.2.2.2.1 (jRok_m _ _ _) rfl (jle rfl) ⟨jle rfl, jle rfl⟩ hk5 h (fun o7 S6 h => ?_)
  rcases o7 with _ | b8
  · replace h := h.1 rfl
    refine jx_astore_nN (lv1 := [(2, .null), (0, .ref a0), (1, .int x1)]) kd407.2.2.2.2.2.1 rfl (by decide) rfl ?_
    refine jx_aload_nN 0 kd407.2.2.2.2.2.2.1 rfl rfl ?_
    refine jx_ifnonnullN kd407.2.2.2.2.2.2.2.1 ?_
    refine jx_ldc jwC_X10_62 kd407.2.2.2.2.2.2.2.2.1 ?_
    exact jx_iret kd408.1 rfl rfl (jle rfl) (jle rfl) ⟨_, rfl, h⟩
  replace h := h.2 b8 rfl
  refine jx_astore_n (lv1 := [(2, .ref b8), (0, .ref a0), (1, .int x1)]) kd407.2.2.2.2.2.1 rfl (by decide) rfl ?_
  refine jx_aload_n 0 kd407.2.2.2.2.2.2.1 rfl rfl ?_
  refine jx_ifnonnull (tgt := 19) kd407.2.2.2.2.2.2.2.1 (by decide) ?_
  refine jx_aload_n 1 kd408.2.1 rfl rfl ?_
  obtain ⟨hk9, h⟩ := h
  obtain ⟨b10, hb10, h⟩ := h
  refine jx_getr jc_10 (j := 0) (by decide) rfl jwF_X10_12 kd408.2.2.1 hk9 hb10 ?_
  obtain ⟨hk11, h⟩ := h
  obtain ⟨b12, hb12, h⟩ := h
  refine jx_getr jc_3 (j := 2) (by decide) rfl jwF_X10_79 kd408.2.2.2.1 hk11 hb12 ?_
  refine jx_astore_n (lv1 := [(3, .ref b12), (2, .ref b8), (0, .ref a0), (1, .int x1)]) kd408.2.2.2.2.1 rfl (by decide) rfl ?_
  refine jx_aload_n 0 kd408.2.2.2.2.2.1 rfl rfl ?_
  refine jx_aload_n 1 kd408.2.2.2.2.2.2.1 rfl rfl ?_
  obtain ⟨hk13, h⟩ := h
  refine jx_callVi (M' := mX1_canLearnOf) (As := [.ref b8]) jo_X1_canLearnOf jc_1 rfl jwM_X10_198 jwN_X1_canLearnOf jwX_X1_canLearnOf kd408.2.2.2.2.2.2.2.1 (jRok_m _ _ _) rfl (jle rfl) ⟨jle rfl, jle rfl⟩ hk13 h (fun r15 S14 h => ?_)
  refine jx_if_ne (tgt := 38) kd408.2.2.2.2.2.2.2.2.1 (by decide) (fun c16 => ?_) (fun c16 => ?_)
  · replace h := h.2 c16
    refine jx_aload_n 0 kd409.2.2.1 rfl rfl ?_
    refine jx_iload_n 3 kd409.2.2.2.1 rfl rfl ?_
    refine jx_aload_n 1 kd409.2.2.2.2.1 rfl rfl ?_
    refine jx_aload_n 2 kd409.2.2.2.2.2.1 rfl rfl ?_
    obtain ⟨hk17, h⟩ := h
    obtain ⟨b18, hb18, h⟩ := h
    refine jx_getr jc_10 (j := 0) (by decide) rfl jwF_X10_12 kd409.2.2.2.2.2.2.1 hk17 hb18 ?_
    refine jx_aload_n 1 kd409.2.2.2.2.2.2.2.1 rfl rfl ?_
    refine jx_aload_n 0 kd409.2.2.2.2.2.2.2.2.1 rfl rfl ?_
    obtain ⟨hk19, h⟩ := h
    refine jx_geti jc_1 (j := 1) (by decide) rfl jwF_X10_107 kd410.1 hk19 ?_
    refine jx_callSi (M' := mJ6_bitCount_0f7a4) (As := [.int (ji S14 b12 1)]) jo_J6_bitCount_0f7a4 jwM_X10_112 jwS_J6_bitCount_0f7a4 kd410.2.1 (jRok_m _ _ _) rfl (jle rfl) ⟨jle rfl, jle rfl⟩ (c_J6_bitCount_0f7a4 (Q := fun v S' => v = (jbc (ji S14 b12 1)) ∧ S14 = S') ⟨rfl, rfl⟩) (fun r20 S21 hq22 => ?_)
    obtain ⟨rfl, rfl⟩ := hq22
    obtain ⟨hk23, h⟩ := h
    refine jx_callVi (M' := mX3_daysTaken) (As := [.ref b8, .int (jbc (ji S14 b12 1))]) jo_X3_daysTaken jc_3 rfl jwM_X10_118 jwN_X3_daysTaken jwX_X3_daysTaken kd410.2.2.1 (jRok_m _ _ _) rfl (jle rfl) ⟨jle rfl, jle rfl⟩ hk23 h (fun r25 S24 h => ?_)
    obtain ⟨hk26, h⟩ := h
    refine jx_callVv (M' := mX1_learnOf) (As := [.int x1, .ref b8, .int r25]) jo_X1_learnOf jc_1 rfl jwM_X10_202 jwN_X1_learnOf jwX_X1_learnOf kd410.2.2.2.1 (jRok_m _ _ _) rfl (jle rfl) ⟨jle rfl, jle rfl⟩ hk26 h (fun S27 h => ?_)
    refine jx_aload_n 0 kd410.2.2.2.2.1 rfl rfl ?_
    obtain ⟨hk28, h⟩ := h
    refine jx_geti jc_1 (j := 1) (by decide) rfl jwF_X10_107 kd410.2.2.2.2.2.1 hk28 ?_
    exact jx_iret kd410.2.2.2.2.2.2.1 rfl rfl (jle rfl) (jle rfl) ⟨_, rfl, h⟩
  replace h := h.1 c16
  refine jx_ldc jwC_X10_184 kd409.1 ?_
  exact jx_iret kd409.2.1 rfl rfl (jle rfl) (jle rfl) ⟨_, rfl, h⟩
set_option maxRecDepth 100000 in
set_option maxHeartbeats 4000000 in
theorem T_X10_use {E : jEnv} {d : Nat} {Q : Int32 → jM → Prop} {a0 : Nat} {x1 : Int32} {S : jM} (h : ((jwi x1 10) = 0 → Q (-1000000001) S) ∧ (¬ (jwi x1 10) = 0 → jk S a0 = 10 ∧ ∃ b6, jr S a0 0 = some b6 ∧ (jk S b6 = 3 ∧ ∃ b8, jr S b6 2 = some b8 ∧ (jk S b8 = 1 ∧ jFi E mX1_practise d 0 0 [.ref b8, .int x1] S (fun r11 S10 => (r11 = 0 → Q (-1000000002) S10) ∧ (¬ r11 = 0 → jk S10 a0 = 10 ∧ ∃ b14, jr S10 a0 0 = some b14 ∧ (jk S10 b14 = 3 ∧ ∃ b16, jr S10 b14 2 = some b16 ∧ (jk S10 b16 = 1 ∧ Q (ji S10 b16 1) S10)))))))) : jFi E mX10_use (d + 1) 0 0 [.ref a0, .int x1] S Q := by
  refine jF_of (by decide) (jle rfl) ?_
  refine jx_lv (lv1 := [(0, .ref a0), (1, .int x1)]) [0, 1] rfl ?_
  refine jx_iload_n 1 kd411.1 rfl rfl ?_
  refine jx_bipush (v := 10) kd411.2.1 (by decide) ?_
  refine jx_callSi (M' := mX10_within) (As := [.int x1, .int 10]) jo_X10_within jwM_X10_58 jwS_X10_within kd411.2.2.1 (jRok_m _ _ _) rfl (jle rfl) ⟨jle rfl, jle rfl⟩ (c_X10_within (Q := fun v S' => v = (jwi x1 10) ∧ S = S') ⟨rfl, rfl⟩) (fun r1 S2 hq3 => ?_)
  obtain ⟨rfl, rfl⟩ := hq3
  refine jx_if_ne (tgt := 12) kd411.2.2.2.1 (by decide) (fun c4 => ?_) (fun c4 => ?_)
  · replace h := h.2 c4
    refine jx_aload_n 0 kd411.2.2.2.2.2.2.1 rfl rfl ?_
    obtain ⟨hk5, h⟩ := h
    obtain ⟨b6, hb6, h⟩ := h
    refine jx_getr jc_10 (j := 0) (by decide) rfl jwF_X10_12 kd411.2.2.2.2.2.2.2.1 hk5 hb6 ?_
    obtain ⟨hk7, h⟩ := h
    obtain ⟨b8, hb8, h⟩ := h
    refine jx_getr jc_3 (j := 2) (by decide) rfl jwF_X10_79 kd411.2.2.2.2.2.2.2.2.1 hk7 hb8 ?_
    refine jx_iload_n 1 kd412.1 rfl rfl ?_
    obtain ⟨hk9, h⟩ := h
    refine jx_callVi (M' := mX1_practise) (As := [.int x1]) jo_X1_practise jc_1 rfl jwM_X10_206 jwN_X1_practise jwX_X1_practise kd412.2.1 (jRok_m _ _ _) rfl (jle rfl) ⟨jle rfl, jle rfl⟩ hk9 h (fun r11 S10 h => ?_)
    refine jx_if_eq (tgt := 39) kd412.2.2.1 (by decide) (fun c12 => ?_) (fun c12 => ?_)
    · replace h := h.1 c12
      refine jx_ldc jwC_X10_184 kd412.2.2.2.2.2.2.2.2.1 ?_
      exact jx_iret kd413.1 rfl rfl (jle rfl) (jle rfl) ⟨_, rfl, h⟩
    replace h := h.2 c12
    refine jx_aload_n 0 kd412.2.2.2.1 rfl rfl ?_
    obtain ⟨hk13, h⟩ := h
    obtain ⟨b14, hb14, h⟩ := h
    refine jx_getr jc_10 (j := 0) (by decide) rfl jwF_X10_12 kd412.2.2.2.2.1 hk13 hb14 ?_
    obtain ⟨hk15, h⟩ := h
    obtain ⟨b16, hb16, h⟩ := h
    refine jx_getr jc_3 (j := 2) (by decide) rfl jwF_X10_79 kd412.2.2.2.2.2.1 hk15 hb16 ?_
    obtain ⟨hk17, h⟩ := h
    refine jx_geti jc_1 (j := 1) (by decide) rfl jwF_X10_107 kd412.2.2.2.2.2.2.1 hk17 ?_
    refine jx_goto (tgt := 41) kd412.2.2.2.2.2.2.2.1 (by decide) ?_
    exact jx_iret kd413.1 rfl rfl (jle rfl) (jle rfl) ⟨_, rfl, h⟩
  replace h := h.1 c4
  refine jx_ldc jwC_X10_62 kd411.2.2.2.2.1 ?_
  exact jx_iret kd411.2.2.2.2.2.1 rfl rfl (jle rfl) (jle rfl) ⟨_, rfl, h⟩
set_option maxRecDepth 100000 in
set_option maxHeartbeats 4000000 in
theorem T_X10_rests {E : jEnv} {d : Nat} {Q : Int32 → jM → Prop} {a0 : Nat} {x1 : Int32} {S : jM} (h : (x1 < 1 → Q (-1000000001) S) ∧ (¬ x1 < 1 → (x1 ≤ 100 → jk S a0 = 10 ∧ ∃ b4, jr S a0 0 = some b4 ∧ (jk S b4 = 3 ∧ ∃ b6, jr S b4 2 = some b6 ∧ (jk S b6 = 1 ∧ jFv E mX1_passDays d 0 0 [.ref b6, .int x1] S (fun S8 => jk S8 a0 = 10 ∧ ∃ b10, jr S8 a0 0 = some b10 ∧ (jk S8 b10 = 3 ∧ ∃ b12, jr S8 b10 2 = some b12 ∧ (jk S8 b12 = 1 ∧ Q (ji S8 b12 1) S8)))))) ∧ (¬ x1 ≤ 100 → Q (-1000000001) S))) : jFi E mX10_rests (d + 1) 0 0 [.ref a0, .int x1] S Q := by
  refine jF_of (by decide) (jle rfl) ?_
  refine jx_lv (lv1 := [(0, .ref a0), (1, .int x1)]) [0, 1] rfl ?_
  refine jx_iload_n 1 kd414.1 rfl rfl ?_
  refine jx_iconst (v := 1) kd414.2.1 (by decide) ?_
  refine jx_icmp_lt (tgt := 11) kd414.2.2.1 (by decide) (fun c1 => ?_) (fun c1 => ?_)
  · replace h := h.1 c1
    refine jx_ldc jwC_X10_62 kd414.2.2.2.2.2.2.1 ?_
    exact jx_iret kd414.2.2.2.2.2.2.2.1 rfl rfl (jle rfl) (jle rfl) ⟨_, rfl, h⟩
  replace h := h.2 c1
  refine jx_iload_n 1 kd414.2.2.2.1 rfl rfl ?_
  refine jx_bipush (v := 100) kd414.2.2.2.2.1 (by decide) ?_
  refine jx_icmp_le (tgt := 14) kd414.2.2.2.2.2.1 (by decide) (fun c2 => ?_) (fun c2 => ?_)
  · replace h := h.1 c2
    refine jx_aload_n 0 kd414.2.2.2.2.2.2.2.2.1 rfl rfl ?_
    obtain ⟨hk3, h⟩ := h
    obtain ⟨b4, hb4, h⟩ := h
    refine jx_getr jc_10 (j := 0) (by decide) rfl jwF_X10_12 kd415.1 hk3 hb4 ?_
    obtain ⟨hk5, h⟩ := h
    obtain ⟨b6, hb6, h⟩ := h
    refine jx_getr jc_3 (j := 2) (by decide) rfl jwF_X10_79 kd415.2.1 hk5 hb6 ?_
    refine jx_iload_n 1 kd415.2.2.1 rfl rfl ?_
    obtain ⟨hk7, h⟩ := h
    refine jx_callVv (M' := mX1_passDays) (As := [.int x1]) jo_X1_passDays jc_1 rfl jwM_X10_191 jwN_X1_passDays jwX_X1_passDays kd415.2.2.2.1 (jRok_m _ _ _) rfl (jle rfl) ⟨jle rfl, jle rfl⟩ hk7 h (fun S8 h => ?_)
    refine jx_aload_n 0 kd415.2.2.2.2.1 rfl rfl ?_
    obtain ⟨hk9, h⟩ := h
    obtain ⟨b10, hb10, h⟩ := h
    refine jx_getr jc_10 (j := 0) (by decide) rfl jwF_X10_12 kd415.2.2.2.2.2.1 hk9 hb10 ?_
    obtain ⟨hk11, h⟩ := h
    obtain ⟨b12, hb12, h⟩ := h
    refine jx_getr jc_3 (j := 2) (by decide) rfl jwF_X10_79 kd415.2.2.2.2.2.2.1 hk11 hb12 ?_
    obtain ⟨hk13, h⟩ := h
    refine jx_geti jc_1 (j := 1) (by decide) rfl jwF_X10_107 kd415.2.2.2.2.2.2.2.1 hk13 ?_
    exact jx_iret kd415.2.2.2.2.2.2.2.2.1 rfl rfl (jle rfl) (jle rfl) ⟨_, rfl, h⟩
  replace h := h.2 c2
  refine jx_ldc jwC_X10_62 kd414.2.2.2.2.2.2.1 ?_
  exact jx_iret kd414.2.2.2.2.2.2.2.1 rfl rfl (jle rfl) (jle rfl) ⟨_, rfl, h⟩
set_option maxRecDepth 100000 in
set_option maxHeartbeats 4000000 in
theorem T_X10_wants {E : jEnv} {d : Nat} {Q : Int32 → jM → Prop} {a0 : Nat} {x1 : Int32} {S : jM} (h : ((jwi x1 10) = 0 → Q (-1000000001) S) ∧ (¬ (jwi x1 10) = 0 → jk S a0 = 10 ∧ ∃ b6, jr S a0 0 = some b6 ∧ (jk S b6 = 3 ∧ jFi E mX3_addWish d 0 0 [.ref b6, .int x1] S (fun r9 S8 => (r9 = 0 → Q (-1000000003) S8) ∧ (¬ r9 = 0 → jk S8 a0 = 10 ∧ ∃ b12, jr S8 a0 0 = some b12 ∧ (jk S8 b12 = 3 ∧ Q (ji S8 b12 4) S8)))))) : jFi E mX10_wants (d + 1) 0 0 [.ref a0, .int x1] S Q := by
  refine jF_of (by decide) (jle rfl) ?_
  refine jx_lv (lv1 := [(0, .ref a0), (1, .int x1)]) [0, 1] rfl ?_
  refine jx_iload_n 1 kd416.1 rfl rfl ?_
  refine jx_bipush (v := 10) kd416.2.1 (by decide) ?_
  refine jx_callSi (M' := mX10_within) (As := [.int x1, .int 10]) jo_X10_within jwM_X10_58 jwS_X10_within kd416.2.2.1 (jRok_m _ _ _) rfl (jle rfl) ⟨jle rfl, jle rfl⟩ (c_X10_within (Q := fun v S' => v = (jwi x1 10) ∧ S = S') ⟨rfl, rfl⟩) (fun r1 S2 hq3 => ?_)
  obtain ⟨rfl, rfl⟩ := hq3
  refine jx_if_ne (tgt := 12) kd416.2.2.2.1 (by decide) (fun c4 => ?_) (fun c4 => ?_)
  · replace h := h.2 c4
    refine jx_aload_n 0 kd416.2.2.2.2.2.2.1 rfl rfl ?_
    obtain ⟨hk5, h⟩ := h
    obtain ⟨b6, hb6, h⟩ := h
    refine jx_getr jc_10 (j := 0) (by decide) rfl jwF_X10_12 kd416.2.2.2.2.2.2.2.1 hk5 hb6 ?_
    refine jx_iload_n 1 kd416.2.2.2.2.2.2.2.2.1 rfl rfl ?_
    obtain ⟨hk7, h⟩ := h
    refine jx_callVi (M' := mX3_addWish) (As := [.int x1]) jo_X3_addWish jc_3 rfl jwM_X10_209 jwN_X3_addWish jwX_X3_addWish kd417.1 (jRok_m _ _ _) rfl (jle rfl) ⟨jle rfl, jle rfl⟩ hk7 h (fun r9 S8 h => ?_)
    refine jx_if_eq (tgt := 33) kd417.2.1 (by decide) (fun c10 => ?_) (fun c10 => ?_)
    · replace h := h.1 c10
      refine jx_ldc jwC_X10_74 kd417.2.2.2.2.2.2.1 ?_
      exact jx_iret kd417.2.2.2.2.2.2.2.1 rfl rfl (jle rfl) (jle rfl) ⟨_, rfl, h⟩
    replace h := h.2 c10
    refine jx_aload_n 0 kd417.2.2.1 rfl rfl ?_
    obtain ⟨hk11, h⟩ := h
    obtain ⟨b12, hb12, h⟩ := h
    refine jx_getr jc_10 (j := 0) (by decide) rfl jwF_X10_12 kd417.2.2.2.1 hk11 hb12 ?_
    obtain ⟨hk13, h⟩ := h
    refine jx_geti jc_3 (j := 4) (by decide) rfl jwF_X10_212 kd417.2.2.2.2.1 hk13 ?_
    refine jx_goto (tgt := 35) kd417.2.2.2.2.2.1 (by decide) ?_
    exact jx_iret kd417.2.2.2.2.2.2.2.1 rfl rfl (jle rfl) (jle rfl) ⟨_, rfl, h⟩
  replace h := h.1 c4
  refine jx_ldc jwC_X10_62 kd416.2.2.2.2.1 ?_
  exact jx_iret kd416.2.2.2.2.2.1 rfl rfl (jle rfl) (jle rfl) ⟨_, rfl, h⟩
set_option maxRecDepth 100000 in
set_option maxHeartbeats 4000000 in
theorem T_X10_clear {E : jEnv} {d : Nat} {Q : Int32 → jM → Prop} {a0 : Nat} {S : jM} (h : jk S a0 = 10 ∧ ∃ b2, jr S a0 0 = some b2 ∧ (jk S b2 = 3 ∧ Q (ji S b2 4) (jput S b2 4 0))) : jFi E mX10_clear d 0 0 [.ref a0] S Q := by
  refine jF_of (by decide) (jle rfl) ?_
  refine jx_lv (lv1 := [(0, .ref a0)]) [0] rfl ?_
  refine jx_aload_n 0 kd418.1 rfl rfl ?_
  obtain ⟨hk1, h⟩ := h
  obtain ⟨b2, hb2, h⟩ := h
  refine jx_getr jc_10 (j := 0) (by decide) rfl jwF_X10_12 kd418.2.1 hk1 hb2 ?_
  obtain ⟨hk3, h⟩ := h
  refine jx_geti jc_3 (j := 4) (by decide) rfl jwF_X10_212 kd418.2.2.1 hk3 ?_
  refine jx_istore_n (lv1 := [(1, .int (ji S b2 4)), (0, .ref a0)]) kd418.2.2.2.1 rfl (by decide) rfl ?_
  refine jx_aload_n 1 kd418.2.2.2.2.1 rfl rfl ?_
  refine jx_getr jc_10 (j := 0) (by decide) rfl jwF_X10_12 kd418.2.2.2.2.2.1 hk1 hb2 ?_
  refine jx_iconst (v := 0) kd418.2.2.2.2.2.2.1 (by decide) ?_
  refine jx_puti jc_3 (j := 4) (by decide) rfl jwF_X10_212 rfl rfl rfl kd418.2.2.2.2.2.2.2.1 hk3 ?_
  refine jx_iload_n 0 kd418.2.2.2.2.2.2.2.2.1 rfl rfl ?_
  exact jx_iret kd419.1 rfl rfl (jle rfl) (jle rfl) ⟨_, rfl, h⟩
set_option maxRecDepth 100000 in
set_option maxHeartbeats 4000000 in
theorem T_X10_made {E : jEnv} {d : Nat} {Q : Int32 → jM → Prop} {a0 : Nat} {S : jM} (h : jk S a0 = 10 ∧ ∃ b2, jr S a0 0 = some b2 ∧ (jk S b2 = 3 ∧ jFi E mX3_canMakeChair d 0 0 [.ref b2] S (fun r5 S4 => (r5 = 0 → Q (-1000000002) S4) ∧ (¬ r5 = 0 → jk S4 a0 = 10 ∧ ∃ b8, jr S4 a0 0 = some b8 ∧ (jk S4 b8 = 3 ∧ jFv E mX3_makeChair d 0 0 [.ref b8] S4 (fun S10 => jk S10 a0 = 10 ∧ ∃ b12, jr S10 a0 0 = some b12 ∧ (jk S10 b12 = 3 ∧ ∃ b14, jr S10 b12 2 = some b14 ∧ (jk S10 b14 = 1 ∧ Q (ji S10 b14 4) S10)))))))) : jFi E mX10_made (d + 1) 0 0 [.ref a0] S Q := by
  refine jF_of (by decide) (jle rfl) ?_
  refine jx_lv (lv1 := [(0, .ref a0)]) [0] rfl ?_
  refine jx_aload_n 0 kd420.1 rfl rfl ?_
  obtain ⟨hk1, h⟩ := h
  obtain ⟨b2, hb2, h⟩ := h
  refine jx_getr jc_10 (j := 0) (by decide) rfl jwF_X10_12 kd420.2.1 hk1 hb2 ?_
  obtain ⟨hk3, h⟩ := h
  refine jx_callVi (M' := mX3_canMakeChair) (As := []) jo_X3_canMakeChair jc_3 rfl jwM_X10_215 jwN_X3_canMakeChair jwX_X3_canMakeChair kd420.2.2.1 (jRok_m _ _ _) rfl (jle rfl) ⟨jle rfl, jle rfl⟩ hk3 h (fun r5 S4 h => ?_)
  refine jx_if_ne (tgt := 13) kd420.2.2.2.1 (by decide) (fun c6 => ?_) (fun c6 => ?_)
  · replace h := h.2 c6
    refine jx_aload_n 0 kd420.2.2.2.2.2.2.1 rfl rfl ?_
    obtain ⟨hk7, h⟩ := h
    obtain ⟨b8, hb8, h⟩ := h
    refine jx_getr jc_10 (j := 0) (by decide) rfl jwF_X10_12 kd420.2.2.2.2.2.2.2.1 hk7 hb8 ?_
    obtain ⟨hk9, h⟩ := h
    refine jx_callVv (M' := mX3_makeChair) (As := []) jo_X3_makeChair jc_3 rfl jwM_X10_219 jwN_X3_makeChair jwX_X3_makeChair kd420.2.2.2.2.2.2.2.2.1 (jRok_m _ _ _) rfl (jle rfl) ⟨jle rfl, jle rfl⟩ hk9 h (fun S10 h => ?_)
    refine jx_aload_n 0 kd421.1 rfl rfl ?_
    obtain ⟨hk11, h⟩ := h
    obtain ⟨b12, hb12, h⟩ := h
    refine jx_getr jc_10 (j := 0) (by decide) rfl jwF_X10_12 kd421.2.1 hk11 hb12 ?_
    obtain ⟨hk13, h⟩ := h
    obtain ⟨b14, hb14, h⟩ := h
    refine jx_getr jc_3 (j := 2) (by decide) rfl jwF_X10_79 kd421.2.2.1 hk13 hb14 ?_
    obtain ⟨hk15, h⟩ := h
    refine jx_geti jc_1 (j := 4) (by decide) rfl jwF_X10_195 kd421.2.2.2.1 hk15 ?_
    exact jx_iret kd421.2.2.2.2.1 rfl rfl (jle rfl) (jle rfl) ⟨_, rfl, h⟩
  replace h := h.1 c6
  refine jx_ldc jwC_X10_184 kd420.2.2.2.2.1 ?_
  exact jx_iret kd420.2.2.2.2.2.1 rfl rfl (jle rfl) (jle rfl) ⟨_, rfl, h⟩
set_option maxRecDepth 100000 in
set_option maxHeartbeats 4000000 in
theorem T_X10_soonest {E : jEnv} {d : Nat} {Q : Int32 → jM → Prop} {a0 : Nat} {x1 : Int32} {S : jM} (h : ((jwi x1 3) = 0 → Q (-1000000001) S) ∧ (¬ (jwi x1 3) = 0 → jk S a0 = 10 ∧ ∃ b6, jr S a0 4 = some b6 ∧ (∃ b7, jr S a0 0 = some b7 ∧ (jk S b6 = 5 ∧ jFi E mX5_finds d 0 0 [.ref b6, .ref b7] S (fun r10 S9 => (r10 = 0 → Q (-1000000005) S9) ∧ (¬ r10 = 0 → (x1 = 0 → jk S9 a0 = 10 ∧ ∃ b14, jr S9 a0 4 = some b14 ∧ (jk S9 b14 = 5 ∧ Q (ji S9 b14 9) S9)) ∧ (x1 = 1 → jk S9 a0 = 10 ∧ ∃ b18, jr S9 a0 4 = some b18 ∧ (jk S9 b18 = 5 ∧ Q (ji S9 b18 10) S9)) ∧ (¬ x1 = 0 → ¬ x1 = 1 → jk S9 a0 = 10 ∧ ∃ b21, jr S9 a0 4 = some b21 ∧ (jk S9 b21 = 5 ∧ Q (ji S9 b21 11) S9)))))))) : jFi E mX10_soonest (d + 1) 0 0 [.ref a0, .int x1] S Q := by
  refine jF_of (by decide) (jle rfl) ?_
  refine jx_lv (lv1 := [(0, .ref a0), (1, .int x1)]) [0, 1] rfl ?_
  refine jx_iload_n 1 kd422.1 rfl rfl ?_
  refine jx_iconst (v := 3) kd422.2.1 (by decide) ?_
  refine jx_callSi (M' := mX10_within) (As := [.int x1, .int 3]) jo_X10_within jwM_X10_58 jwS_X10_within kd422.2.2.1 (jRok_m _ _ _) rfl (jle rfl) ⟨jle rfl, jle rfl⟩ (c_X10_within (Q := fun v S' => v = (jwi x1 3) ∧ S = S') ⟨rfl, rfl⟩) (fun r1 S2 hq3 => ?_)
  obtain ⟨rfl, rfl⟩ := hq3
  refine jx_if_ne (tgt := 11) kd422.2.2.2.1 (by decide) (fun c4 => ?_) (fun c4 => ?_)
  · replace h := h.2 c4
    refine jx_aload_n 0 kd422.2.2.2.2.2.2.1 rfl rfl ?_
    obtain ⟨hk5, h⟩ := h
    obtain ⟨b6, hb6, h⟩ := h
    refine jx_getr jc_10 (j := 4) (by decide) rfl jwF_X10_29 kd422.2.2.2.2.2.2.2.1 hk5 hb6 ?_
    refine jx_aload_n 0 kd422.2.2.2.2.2.2.2.2.1 rfl rfl ?_
    obtain ⟨b7, hb7, h⟩ := h
    refine jx_getr jc_10 (j := 0) (by decide) rfl jwF_X10_12 kd423.1 hk5 hb7 ?_
    obtain ⟨hk8, h⟩ := h
    refine jx_callVi (M' := mX5_finds) (As := [.ref b7]) jo_X5_finds jc_5 rfl jwM_X10_222 jwN_X5_finds jwX_X5_finds kd423.2.1 (jRok_m _ _ _) rfl (jle rfl) ⟨jle rfl, jle rfl⟩ hk8 h (fun r10 S9 h => ?_)
    refine jx_if_ne (tgt := 28) kd423.2.2.1 (by decide) (fun c11 => ?_) (fun c11 => ?_)
    · replace h := h.2 c11
      refine jx_iload_n 1 kd423.2.2.2.2.2.1 rfl rfl ?_
      by_cases c12 : x1 = 0
      · replace h := h.1 c12
        refine jx_lookIn (v := 0) (tgt := 56) (off := 27) kd423.2.2.2.2.2.2.1 (by decide) c12 (by decide) (by decide) ?_
        refine jx_aload_n 0 kd423.2.2.2.2.2.2.2.1 rfl rfl ?_
        obtain ⟨hk13, h⟩ := h
        obtain ⟨b14, hb14, h⟩ := h
        refine jx_getr jc_10 (j := 4) (by decide) rfl jwF_X10_29 kd423.2.2.2.2.2.2.2.2.1 hk13 hb14 ?_
        obtain ⟨hk15, h⟩ := h
        refine jx_geti jc_5 (j := 9) (by decide) rfl jwF_X10_226 kd424.1 hk15 ?_
        exact jx_iret kd424.2.1 rfl rfl (jle rfl) (jle rfl) ⟨_, rfl, h⟩
      replace h := h.2
      by_cases c16 : x1 = 1
      · replace h := h.1 c16
        refine jx_lookIn (v := 1) (tgt := 64) (off := 35) kd423.2.2.2.2.2.2.1 (by decide) c16 (by decide) (by decide) ?_
        refine jx_aload_n 0 kd424.2.2.1 rfl rfl ?_
        obtain ⟨hk17, h⟩ := h
        obtain ⟨b18, hb18, h⟩ := h
        refine jx_getr jc_10 (j := 4) (by decide) rfl jwF_X10_29 kd424.2.2.2.1 hk17 hb18 ?_
        obtain ⟨hk19, h⟩ := h
        refine jx_geti jc_5 (j := 10) (by decide) rfl jwF_X10_229 kd424.2.2.2.2.1 hk19 ?_
        exact jx_iret kd424.2.2.2.2.2.1 rfl rfl (jle rfl) (jle rfl) ⟨_, rfl, h⟩
      replace h := h.2
      replace h := h c12 c16
      refine jx_lookD (tgt := 72) kd423.2.2.2.2.2.2.1 (by decide) (by simp only [List.mem_cons, List.not_mem_nil, or_false, forall_eq_or_imp, forall_eq]; exact ⟨lv_neT c12 (by decide), lv_neT c16 (by decide)⟩) (by decide) ?_
      refine jx_aload_n 0 kd424.2.2.2.2.2.2.1 rfl rfl ?_
      obtain ⟨hk20, h⟩ := h
      obtain ⟨b21, hb21, h⟩ := h
      refine jx_getr jc_10 (j := 4) (by decide) rfl jwF_X10_29 kd424.2.2.2.2.2.2.2.1 hk20 hb21 ?_
      obtain ⟨hk22, h⟩ := h
      refine jx_geti jc_5 (j := 11) (by decide) rfl jwF_X10_232 kd424.2.2.2.2.2.2.2.2.1 hk22 ?_
      exact jx_iret kd425.1 rfl rfl (jle rfl) (jle rfl) ⟨_, rfl, h⟩
    replace h := h.1 c11
    refine jx_ldc jwC_X10_160 kd423.2.2.2.1 ?_
    exact jx_iret kd423.2.2.2.2.1 rfl rfl (jle rfl) (jle rfl) ⟨_, rfl, h⟩
  replace h := h.1 c4
  refine jx_ldc jwC_X10_62 kd422.2.2.2.2.1 ?_
  exact jx_iret kd422.2.2.2.2.2.1 rfl rfl (jle rfl) (jle rfl) ⟨_, rfl, h⟩
set_option maxRecDepth 100000 in
set_option maxHeartbeats 4000000 in
theorem T_X10_together {E : jEnv} {d : Nat} {Q : Int32 → jM → Prop} {a0 : Nat} {x1 : Int32} {S : jM} (h : ((jwi x1 1024) = 0 → Q (-1000000001) S) ∧ (¬ (jwi x1 1024) = 0 → ((jbc x1) ≤ 3 → jk S a0 = 10 ∧ ∃ b10, jr S a0 0 = some b10 ∧ (jk S b10 = 3 ∧ ∃ b12, jr S b10 0 = some b12 ∧ (jk S b12 = 0 ∧ jFi E mX0_canBringTogether d 0 0 [.ref b12, .int x1] S (fun r15 S14 => (r15 = 0 → Q 0 S14) ∧ (¬ r15 = 0 → Q 1 S14))))) ∧ (¬ (jbc x1) ≤ 3 → Q (-1000000001) S))) : jFi E mX10_together (d + 1) 0 0 [.ref a0, .int x1] S Q := by
  refine jF_of (by decide) (jle rfl) ?_
  refine jx_lv (lv1 := [(0, .ref a0), (1, .int x1)]) [0, 1] rfl ?_
  refine jx_iload_n 1 kd426.1 rfl rfl ?_
  refine jx_sipush (v := 1024) kd426.2.1 (by decide) ?_
  refine jx_callSi (M' := mX10_within) (As := [.int x1, .int 1024]) jo_X10_within jwM_X10_58 jwS_X10_within kd426.2.2.1 (jRok_m _ _ _) rfl (jle rfl) ⟨jle rfl, jle rfl⟩ (c_X10_within (Q := fun v S' => v = (jwi x1 1024) ∧ S = S') ⟨rfl, rfl⟩) (fun r1 S2 hq3 => ?_)
  obtain ⟨rfl, rfl⟩ := hq3
  refine jx_if_eq (tgt := 18) kd426.2.2.2.1 (by decide) (fun c4 => ?_) (fun c4 => ?_)
  · replace h := h.1 c4
    refine jx_ldc jwC_X10_62 kd426.2.2.2.2.2.2.2.2.1 ?_
    exact jx_iret kd427.1 rfl rfl (jle rfl) (jle rfl) ⟨_, rfl, h⟩
  replace h := h.2 c4
  refine jx_iload_n 1 kd426.2.2.2.2.1 rfl rfl ?_
  refine jx_callSi (M' := mJ6_bitCount_0f7a4) (As := [.int x1]) jo_J6_bitCount_0f7a4 jwM_X10_112 jwS_J6_bitCount_0f7a4 kd426.2.2.2.2.2.1 (jRok_m _ _ _) rfl (jle rfl) ⟨jle rfl, jle rfl⟩ (c_J6_bitCount_0f7a4 (Q := fun v S' => v = (jbc x1) ∧ S = S') ⟨rfl, rfl⟩) (fun r5 S6 hq7 => ?_)
  obtain ⟨rfl, rfl⟩ := hq7
  refine jx_iconst (v := 3) kd426.2.2.2.2.2.2.1 (by decide) ?_
  refine jx_icmp_le (tgt := 21) kd426.2.2.2.2.2.2.2.1 (by decide) (fun c8 => ?_) (fun c8 => ?_)
  · replace h := h.1 c8
    refine jx_aload_n 0 kd427.2.1 rfl rfl ?_
    obtain ⟨hk9, h⟩ := h
    obtain ⟨b10, hb10, h⟩ := h
    refine jx_getr jc_10 (j := 0) (by decide) rfl jwF_X10_12 kd427.2.2.1 hk9 hb10 ?_
    obtain ⟨hk11, h⟩ := h
    obtain ⟨b12, hb12, h⟩ := h
    refine jx_getr jc_3 (j := 0) (by decide) rfl jwF_X10_63 kd427.2.2.2.1 hk11 hb12 ?_
    refine jx_iload_n 1 kd427.2.2.2.2.1 rfl rfl ?_
    obtain ⟨hk13, h⟩ := h
    refine jx_callVi (M' := mX0_canBringTogether) (As := [.int x1]) jo_X0_canBringTogether jc_0 rfl jwM_X10_235 jwN_X0_canBringTogether jwX_X0_canBringTogether kd427.2.2.2.2.2.1 (jRok_m _ _ _) rfl (jle rfl) ⟨jle rfl, jle rfl⟩ hk13 h (fun r15 S14 h => ?_)
    refine jx_if_eq (tgt := 39) kd427.2.2.2.2.2.2.1 (by decide) (fun c16 => ?_) (fun c16 => ?_)
    · replace h := h.1 c16
      refine jx_iconst (v := 0) kd428.1 (by decide) ?_
      exact jx_iret kd428.2.1 rfl rfl (jle rfl) (jle rfl) ⟨_, rfl, h⟩
    replace h := h.2 c16
    refine jx_iconst (v := 1) kd427.2.2.2.2.2.2.2.1 (by decide) ?_
    refine jx_goto (tgt := 40) kd427.2.2.2.2.2.2.2.2.1 (by decide) ?_
    exact jx_iret kd428.2.1 rfl rfl (jle rfl) (jle rfl) ⟨_, rfl, h⟩
  replace h := h.2 c8
  refine jx_ldc jwC_X10_62 kd426.2.2.2.2.2.2.2.2.1 ?_
  exact jx_iret kd427.1 rfl rfl (jle rfl) (jle rfl) ⟨_, rfl, h⟩
/-- X10_never at its loop's head 13 -/
abbrev L_X10_never_13 (E : jEnv) (d : Nat) (Q : Int32 → jM → Prop) (a0 : Nat) (x1 : Int32) (x2 : Int32) (S : jM) : Prop := jX E mX10_never (jRm (d + 1) 0 0) (jZm E (fun r S' => ∃ v : Int32, r = some (.int v) ∧ Q v S') 0 0) 13 [(0, .ref a0), (1, .int x1), (2, .int x2)] [] S 0 0
/-- X10_never at its loop's head 23 -/
abbrev L_X10_never_23 (E : jEnv) (d : Nat) (Q : Int32 → jM → Prop) (a0 : Nat) (x1 : Int32) (x2 : Int32) (x3 : Int32) (S : jM) : Prop := jX E mX10_never (jRm (d + 1) 0 0) (jZm E (fun r S' => ∃ v : Int32, r = some (.int v) ∧ Q v S') 0 0) 23 [(0, .ref a0), (1, .int x1), (2, .int x2), (3, .int x3)] [] S 0 0
set_option maxRecDepth 100000 in
set_option maxHeartbeats 4000000 in
theorem T_X10_never {E : jEnv} {d : Nat} {Q : Int32 → jM → Prop} {a0 : Nat} {S : jM} (h : jk S a0 = 10 ∧ ∃ b2, jr S a0 0 = some b2 ∧ (jk S b2 = 3 ∧ ∃ b4, jr S b2 0 = some b4 ∧ (jk S b4 = 0 ∧ jFi E mX0_taught d 0 0 [.ref b4] S (fun r7 S6 => L_X10_never_13 E d Q a0 r7 0 S6)))) : jFi E mX10_never (d + 1) 0 0 [.ref a0] S Q := by
  refine jF_of (by decide) (jle rfl) ?_
  refine jx_lv (lv1 := [(0, .ref a0)]) [0] rfl ?_
  refine jx_aload_n 0 kd429.1 rfl rfl ?_
  obtain ⟨hk1, h⟩ := h
  obtain ⟨b2, hb2, h⟩ := h
  refine jx_getr jc_10 (j := 0) (by decide) rfl jwF_X10_12 kd429.2.1 hk1 hb2 ?_
  obtain ⟨hk3, h⟩ := h
  obtain ⟨b4, hb4, h⟩ := h
  refine jx_getr jc_3 (j := 0) (by decide) rfl jwF_X10_63 kd429.2.2.1 hk3 hb4 ?_
  obtain ⟨hk5, h⟩ := h
  refine jx_callVi (M' := mX0_taught) (As := []) jo_X0_taught jc_0 rfl jwM_X10_238 jwN_X0_taught jwX_X0_taught kd429.2.2.2.1 (jRok_m _ _ _) rfl (jle rfl) ⟨jle rfl, jle rfl⟩ hk5 h (fun r7 S6 h => ?_)
  refine jx_istore_n (lv1 := [(1, .int r7), (0, .ref a0)]) kd429.2.2.2.2.1 rfl (by decide) rfl ?_
  refine jx_iconst (v := 0) kd429.2.2.2.2.2.1 (by decide) ?_
  refine jx_istore_n (lv1 := [(2, .int 0), (1, .int r7), (0, .ref a0)]) kd429.2.2.2.2.2.2.1 rfl (by decide) rfl ?_
  exact jx_lv [2, 1, 0] rfl h
set_option maxRecDepth 100000 in
set_option maxHeartbeats 4000000 in
theorem T_X10_never_13 {E : jEnv} {d : Nat} {Q : Int32 → jM → Prop} {a0 : Nat} {x1 : Int32} {x2 : Int32} {S : jM} (h : (10 ≤ x2 → Q (-1000000005) S) ∧ (¬ 10 ≤ x2 → L_X10_never_23 E d Q a0 x1 x2 (x2 + 1) S)) : L_X10_never_13 E d Q a0 x1 x2 S := by
  show jX E mX10_never (jRm (d + 1) 0 0) (jZm E (fun r S' => ∃ v : Int32, r = some (.int v) ∧ Q v S') 0 0) 13 [(0, .ref a0), (1, .int x1), (2, .int x2)] [] S 0 0
  refine jx_iload_n 2 kd429.2.2.2.2.2.2.2.1 rfl rfl ?_
  refine jx_bipush (v := 10) kd429.2.2.2.2.2.2.2.2.1 (by decide) ?_
  refine jx_icmp_ge (tgt := 81) kd430.1 (by decide) (fun c8 => ?_) (fun c8 => ?_)
  · replace h := h.1 c8
    refine jx_ldc jwC_X10_160 kd434.2.1 ?_
    exact jx_iret kd434.2.2.1 rfl rfl (jle rfl) (jle rfl) ⟨_, rfl, h⟩
  replace h := h.2 c8
  refine jx_iload_n 2 kd430.2.1 rfl rfl ?_
  refine jx_iconst (v := 1) kd430.2.2.1 (by decide) ?_
  refine jx_iadd kd430.2.2.2.1 ?_
  refine jx_istore_n (lv1 := [(3, .int (x2 + 1)), (0, .ref a0), (1, .int x1), (2, .int x2)]) kd430.2.2.2.2.1 rfl (by decide) rfl ?_
  exact jx_lv [1, 2, 3, 0] rfl h
set_option maxRecDepth 100000 in
set_option maxHeartbeats 4000000 in
theorem T_X10_never_23 {E : jEnv} {d : Nat} {Q : Int32 → jM → Prop} {a0 : Nat} {x1 : Int32} {x2 : Int32} {x3 : Int32} {S : jM} (h : (10 ≤ x3 → L_X10_never_13 E d Q a0 x1 (x2 + 1) S) ∧ (¬ 10 ≤ x3 → ((x1 &&& ((jshl 1 x2) ||| (jshl 1 x3))) = ((jshl 1 x2) ||| (jshl 1 x3)) → jk S a0 = 10 ∧ ∃ b12, jr S a0 0 = some b12 ∧ (jk S b12 = 3 ∧ ∃ b14, jr S b12 0 = some b14 ∧ (jk S b14 = 0 ∧ jFi E mX0_canBringTogether d 0 0 [.ref b14, .int ((jshl 1 x2) ||| (jshl 1 x3))] S (fun r17 S16 => (r17 = 0 → Q ((10 * x2) + x3) S16) ∧ (¬ r17 = 0 → L_X10_never_23 E d Q a0 x1 x2 (x3 + 1) S16))))) ∧ (¬ (x1 &&& ((jshl 1 x2) ||| (jshl 1 x3))) = ((jshl 1 x2) ||| (jshl 1 x3)) → L_X10_never_23 E d Q a0 x1 x2 (x3 + 1) S))) : L_X10_never_23 E d Q a0 x1 x2 x3 S := by
  show jX E mX10_never (jRm (d + 1) 0 0) (jZm E (fun r S' => ∃ v : Int32, r = some (.int v) ∧ Q v S') 0 0) 23 [(0, .ref a0), (1, .int x1), (2, .int x2), (3, .int x3)] [] S 0 0
  refine jx_iload_n 3 kd430.2.2.2.2.2.1 rfl rfl ?_
  refine jx_bipush (v := 10) kd430.2.2.2.2.2.2.1 (by decide) ?_
  refine jx_icmp_ge (tgt := 75) kd430.2.2.2.2.2.2.2.1 (by decide) (fun c9 => ?_) (fun c9 => ?_)
  · replace h := h.1 c9
    refine jx_iinc 2 (v := (x2 + 1)) (lv1 := [(2, .int (x2 + 1)), (0, .ref a0), (1, .int x1), (3, .int x3)]) kd433.2.2.2.2.2.2.2.2.1 rfl rfl (by decide) rfl ?_
    refine jx_goto (tgt := 13) kd434.1 (by decide) ?_
    exact jx_lv [1, 2, 0] rfl h
  replace h := h.2 c9
  refine jx_iconst (v := 1) kd430.2.2.2.2.2.2.2.2.1 (by decide) ?_
  refine jx_iload_n 2 kd431.1 rfl rfl ?_
  refine jx_ishl kd431.2.1 ?_
  refine jx_iconst (v := 1) kd431.2.2.1 (by decide) ?_
  refine jx_iload_n 3 kd431.2.2.2.1 rfl rfl ?_
  refine jx_ishl kd431.2.2.2.2.1 ?_
  refine jx_ior kd431.2.2.2.2.2.1 ?_
  refine jx_istore (lv1 := [(4, .int ((jshl 1 x2) ||| (jshl 1 x3))), (0, .ref a0), (1, .int x1), (2, .int x2), (3, .int x3)]) kd431.2.2.2.2.2.2.1 (by decide) rfl ?_
  refine jx_iload_n 2 kd431.2.2.2.2.2.2.2.1 rfl rfl ?_
  refine jx_iload 0 kd431.2.2.2.2.2.2.2.2.1 rfl ?_
  refine jx_iand kd432.1 ?_
  refine jx_iload 0 kd432.2.1 rfl ?_
  refine jx_icmp_ne (tgt := 69) kd432.2.2.1 (by decide) (fun c10 => ?_) (fun c10 => ?_)
  · replace h := h.2 c10
    refine jx_iinc 4 (v := (x3 + 1)) (lv1 := [(3, .int (x3 + 1)), (4, .int ((jshl 1 x2) ||| (jshl 1 x3))), (0, .ref a0), (1, .int x1), (2, .int x2)]) kd433.2.2.2.2.2.2.1 rfl rfl (by decide) rfl ?_
    refine jx_goto (tgt := 23) kd433.2.2.2.2.2.2.2.1 (by decide) ?_
    exact jx_lv [2, 3, 4, 0] rfl h
  replace h := h.1 c10
  refine jx_aload_n 1 kd432.2.2.2.1 rfl rfl ?_
  obtain ⟨hk11, h⟩ := h
  obtain ⟨b12, hb12, h⟩ := h
  refine jx_getr jc_10 (j := 0) (by decide) rfl jwF_X10_12 kd432.2.2.2.2.1 hk11 hb12 ?_
  obtain ⟨hk13, h⟩ := h
  obtain ⟨b14, hb14, h⟩ := h
  refine jx_getr jc_3 (j := 0) (by decide) rfl jwF_X10_63 kd432.2.2.2.2.2.1 hk13 hb14 ?_
  refine jx_iload 0 kd432.2.2.2.2.2.2.1 rfl ?_
  obtain ⟨hk15, h⟩ := h
  refine jx_callVi (M' := mX0_canBringTogether) (As := [.int ((jshl 1 x2) ||| (jshl 1 x3))]) jo_X0_canBringTogether jc_0 rfl jwM_X10_235 jwN_X0_canBringTogether jwX_X0_canBringTogether kd432.2.2.2.2.2.2.2.1 (jRok_m _ _ _) rfl (jle rfl) ⟨jle rfl, jle rfl⟩ hk15 h (fun r17 S16 h => ?_)
  refine jx_if_ne (tgt := 69) kd432.2.2.2.2.2.2.2.2.1 (by decide) (fun c18 => ?_) (fun c18 => ?_)
  · replace h := h.2 c18
    refine jx_iinc 4 (v := (x3 + 1)) (lv1 := [(3, .int (x3 + 1)), (4, .int ((jshl 1 x2) ||| (jshl 1 x3))), (0, .ref a0), (1, .int x1), (2, .int x2)]) kd433.2.2.2.2.2.2.1 rfl rfl (by decide) rfl ?_
    refine jx_goto (tgt := 23) kd433.2.2.2.2.2.2.2.1 (by decide) ?_
    exact jx_lv [2, 3, 4, 0] rfl h
  replace h := h.1 c18
  refine jx_bipush (v := 10) kd433.1 (by decide) ?_
  refine jx_iload_n 3 kd433.2.1 rfl rfl ?_
  refine jx_imul kd433.2.2.1 ?_
  refine jx_iload_n 4 kd433.2.2.2.1 rfl rfl ?_
  refine jx_iadd kd433.2.2.2.2.1 ?_
  exact jx_iret kd433.2.2.2.2.2.1 rfl rfl (jle rfl) (jle rfl) ⟨_, rfl, h⟩
set_option maxRecDepth 100000 in
set_option maxHeartbeats 4000000 in
theorem T_X10_last {E : jEnv} {d : Nat} {Q : Int32 → jM → Prop} {a0 : Nat} {x1 : Int32} {S : jM} (h : ((jwi x1 10) = 0 → Q (-1000000001) S) ∧ (¬ (jwi x1 10) = 0 → jk S a0 = 10 ∧ ∃ b6, jr S a0 0 = some b6 ∧ (jk S b6 = 3 ∧ ∃ b8, jr S b6 0 = some b8 ∧ (jk S b8 = 0 ∧ jFi E mX0_onlyTeacher d 0 0 [.ref b8, .int x1] S (fun r11 S10 => Q r11 S10))))) : jFi E mX10_last (d + 1) 0 0 [.ref a0, .int x1] S Q := by
  refine jF_of (by decide) (jle rfl) ?_
  refine jx_lv (lv1 := [(0, .ref a0), (1, .int x1)]) [0, 1] rfl ?_
  refine jx_iload_n 1 kd435.1 rfl rfl ?_
  refine jx_bipush (v := 10) kd435.2.1 (by decide) ?_
  refine jx_callSi (M' := mX10_within) (As := [.int x1, .int 10]) jo_X10_within jwM_X10_58 jwS_X10_within kd435.2.2.1 (jRok_m _ _ _) rfl (jle rfl) ⟨jle rfl, jle rfl⟩ (c_X10_within (Q := fun v S' => v = (jwi x1 10) ∧ S = S') ⟨rfl, rfl⟩) (fun r1 S2 hq3 => ?_)
  obtain ⟨rfl, rfl⟩ := hq3
  refine jx_if_ne (tgt := 12) kd435.2.2.2.1 (by decide) (fun c4 => ?_) (fun c4 => ?_)
  · replace h := h.2 c4
    refine jx_aload_n 0 kd435.2.2.2.2.2.2.1 rfl rfl ?_
    obtain ⟨hk5, h⟩ := h
    obtain ⟨b6, hb6, h⟩ := h
    refine jx_getr jc_10 (j := 0) (by decide) rfl jwF_X10_12 kd435.2.2.2.2.2.2.2.1 hk5 hb6 ?_
    obtain ⟨hk7, h⟩ := h
    obtain ⟨b8, hb8, h⟩ := h
    refine jx_getr jc_3 (j := 0) (by decide) rfl jwF_X10_63 kd435.2.2.2.2.2.2.2.2.1 hk7 hb8 ?_
    refine jx_iload_n 1 kd436.1 rfl rfl ?_
    obtain ⟨hk9, h⟩ := h
    refine jx_callVi (M' := mX0_onlyTeacher) (As := [.int x1]) jo_X0_onlyTeacher jc_0 rfl jwM_X10_241 jwN_X0_onlyTeacher jwX_X0_onlyTeacher kd436.2.1 (jRok_m _ _ _) rfl (jle rfl) ⟨jle rfl, jle rfl⟩ hk9 h (fun r11 S10 h => ?_)
    exact jx_iret kd436.2.2.1 rfl rfl (jle rfl) (jle rfl) ⟨_, rfl, h⟩
  replace h := h.1 c4
  refine jx_ldc jwC_X10_62 kd435.2.2.2.2.1 ?_
  exact jx_iret kd435.2.2.2.2.2.1 rfl rfl (jle rfl) (jle rfl) ⟨_, rfl, h⟩
set_option maxRecDepth 100000 in
set_option maxHeartbeats 4000000 in
theorem T_X10_years {E : jEnv} {d : Nat} {Q : Int32 → jM → Prop} {a0 : Nat} {x1 : Int32} {S : jM} (h : (x1 < 1 → Q (-1000000001) S) ∧ (¬ x1 < 1 → (x1 ≤ 60 → jk S a0 = 10 ∧ ∃ b4, jr S a0 0 = some b4 ∧ (jk S b4 = 3 ∧ ∃ b6, jr S b4 0 = some b6 ∧ (jk S b6 = 0 ∧ jFi E mX0_countDead d 0 0 [.ref b6] S (fun r9 S8 => jk S8 a0 = 10 ∧ ∃ b11, jr S8 a0 0 = some b11 ∧ (jk S8 b11 = 3 ∧ ∃ b13, jr S8 b11 0 = some b13 ∧ (jk S8 b13 = 0 ∧ jFv E mX0_liveYears d 0 0 [.ref b13, .int x1] S8 (fun S15 => jk S15 a0 = 10 ∧ ∃ b17, jr S15 a0 0 = some b17 ∧ (jk S15 b17 = 3 ∧ ∃ b19, jr S15 b17 0 = some b19 ∧ (jk S15 b19 = 0 ∧ jFi E mX0_countDead d 0 0 [.ref b19] S15 (fun r22 S21 => Q (r22 - r9) S21)))))))))) ∧ (¬ x1 ≤ 60 → Q (-1000000001) S))) : jFi E mX10_years (d + 1) 0 0 [.ref a0, .int x1] S Q := by
  refine jF_of (by decide) (jle rfl) ?_
  refine jx_lv (lv1 := [(0, .ref a0), (1, .int x1)]) [0, 1] rfl ?_
  refine jx_iload_n 1 kd437.1 rfl rfl ?_
  refine jx_iconst (v := 1) kd437.2.1 (by decide) ?_
  refine jx_icmp_lt (tgt := 11) kd437.2.2.1 (by decide) (fun c1 => ?_) (fun c1 => ?_)
  · replace h := h.1 c1
    refine jx_ldc jwC_X10_62 kd437.2.2.2.2.2.2.1 ?_
    exact jx_iret kd437.2.2.2.2.2.2.2.1 rfl rfl (jle rfl) (jle rfl) ⟨_, rfl, h⟩
  replace h := h.2 c1
  refine jx_iload_n 1 kd437.2.2.2.1 rfl rfl ?_
  refine jx_bipush (v := 60) kd437.2.2.2.2.1 (by decide) ?_
  refine jx_icmp_le (tgt := 14) kd437.2.2.2.2.2.1 (by decide) (fun c2 => ?_) (fun c2 => ?_)
  · replace h := h.1 c2
    refine jx_aload_n 0 kd437.2.2.2.2.2.2.2.2.1 rfl rfl ?_
    obtain ⟨hk3, h⟩ := h
    obtain ⟨b4, hb4, h⟩ := h
    refine jx_getr jc_10 (j := 0) (by decide) rfl jwF_X10_12 kd438.1 hk3 hb4 ?_
    obtain ⟨hk5, h⟩ := h
    obtain ⟨b6, hb6, h⟩ := h
    refine jx_getr jc_3 (j := 0) (by decide) rfl jwF_X10_63 kd438.2.1 hk5 hb6 ?_
    obtain ⟨hk7, h⟩ := h
    refine jx_callVi (M' := mX0_countDead) (As := []) jo_X0_countDead jc_0 rfl jwM_X10_244 jwN_X0_countDead jwX_X0_countDead kd438.2.2.1 (jRok_m _ _ _) rfl (jle rfl) ⟨jle rfl, jle rfl⟩ hk7 h (fun r9 S8 h => ?_)
    refine jx_istore_n (lv1 := [(2, .int r9), (0, .ref a0), (1, .int x1)]) kd438.2.2.2.1 rfl (by decide) rfl ?_
    refine jx_aload_n 1 kd438.2.2.2.2.1 rfl rfl ?_
    obtain ⟨hk10, h⟩ := h
    obtain ⟨b11, hb11, h⟩ := h
    refine jx_getr jc_10 (j := 0) (by decide) rfl jwF_X10_12 kd438.2.2.2.2.2.1 hk10 hb11 ?_
    obtain ⟨hk12, h⟩ := h
    obtain ⟨b13, hb13, h⟩ := h
    refine jx_getr jc_3 (j := 0) (by decide) rfl jwF_X10_63 kd438.2.2.2.2.2.2.1 hk12 hb13 ?_
    refine jx_iload_n 2 kd438.2.2.2.2.2.2.2.1 rfl rfl ?_
    obtain ⟨hk14, h⟩ := h
    refine jx_callVv (M' := mX0_liveYears) (As := [.int x1]) jo_X0_liveYears jc_0 rfl jwM_X10_247 jwN_X0_liveYears jwX_X0_liveYears kd438.2.2.2.2.2.2.2.2.1 (jRok_m _ _ _) rfl (jle rfl) ⟨jle rfl, jle rfl⟩ hk14 h (fun S15 h => ?_)
    refine jx_aload_n 1 kd439.1 rfl rfl ?_
    obtain ⟨hk16, h⟩ := h
    obtain ⟨b17, hb17, h⟩ := h
    refine jx_getr jc_10 (j := 0) (by decide) rfl jwF_X10_12 kd439.2.1 hk16 hb17 ?_
    obtain ⟨hk18, h⟩ := h
    obtain ⟨b19, hb19, h⟩ := h
    refine jx_getr jc_3 (j := 0) (by decide) rfl jwF_X10_63 kd439.2.2.1 hk18 hb19 ?_
    obtain ⟨hk20, h⟩ := h
    refine jx_callVi (M' := mX0_countDead) (As := []) jo_X0_countDead jc_0 rfl jwM_X10_244 jwN_X0_countDead jwX_X0_countDead kd439.2.2.2.1 (jRok_m _ _ _) rfl (jle rfl) ⟨jle rfl, jle rfl⟩ hk20 h (fun r22 S21 h => ?_)
    refine jx_iload_n 0 kd439.2.2.2.2.1 rfl rfl ?_
    refine jx_isub kd439.2.2.2.2.2.1 ?_
    exact jx_iret kd439.2.2.2.2.2.2.1 rfl rfl (jle rfl) (jle rfl) ⟨_, rfl, h⟩
  replace h := h.2 c2
  refine jx_ldc jwC_X10_62 kd437.2.2.2.2.2.2.1 ?_
  exact jx_iret kd437.2.2.2.2.2.2.2.1 rfl rfl (jle rfl) (jle rfl) ⟨_, rfl, h⟩
set_option maxRecDepth 100000 in
set_option maxHeartbeats 4000000 in
theorem T_X10_gone {E : jEnv} {d : Nat} {Q : Int32 → jM → Prop} {a0 : Nat} {x1 : Int32} {S : jM} (h : (x1 < 0 → Q (-1000000001) S) ∧ (¬ x1 < 0 → (x1 ≤ 60 → jk S a0 = 10 ∧ ∃ b4, jr S a0 3 = some b4 ∧ (∃ b5, jr S a0 0 = some b5 ∧ (jk S b5 = 3 ∧ ∃ b7, jr S b5 0 = some b7 ∧ (jk S b4 = 0 ∧ jFv E mX0_become d 0 0 [.ref b4, .ref b7] S (fun S9 => jk S9 a0 = 10 ∧ ∃ b11, jr S9 a0 3 = some b11 ∧ (jk S9 b11 = 0 ∧ jFv E mX0_liveYears d 0 0 [.ref b11, .int x1] S9 (fun S13 => jk S13 a0 = 10 ∧ ∃ b15, jr S13 a0 0 = some b15 ∧ (jk S13 b15 = 3 ∧ ∃ b17, jr S13 b15 0 = some b17 ∧ (jk S13 b17 = 0 ∧ jFi E mX0_taught d 0 0 [.ref b17] S13 (fun r20 S19 => jk S19 a0 = 10 ∧ ∃ b22, jr S19 a0 3 = some b22 ∧ (jk S19 b22 = 0 ∧ jFi E mX0_taught d 0 0 [.ref b22] S19 (fun r25 S24 => Q (jbc (r20 &&& (r25 ^^^ (-1)))) S24)))))))))))) ∧ (¬ x1 ≤ 60 → Q (-1000000001) S))) : jFi E mX10_gone (d + 1) 0 0 [.ref a0, .int x1] S Q := by
  refine jF_of (by decide) (jle rfl) ?_
  refine jx_lv (lv1 := [(0, .ref a0), (1, .int x1)]) [0, 1] rfl ?_
  refine jx_iload_n 1 kd440.1 rfl rfl ?_
  refine jx_if_lt (tgt := 10) kd440.2.1 (by decide) (fun c1 => ?_) (fun c1 => ?_)
  · replace h := h.1 c1
    refine jx_ldc jwC_X10_62 kd440.2.2.2.2.2.1 ?_
    exact jx_iret kd440.2.2.2.2.2.2.1 rfl rfl (jle rfl) (jle rfl) ⟨_, rfl, h⟩
  replace h := h.2 c1
  refine jx_iload_n 1 kd440.2.2.1 rfl rfl ?_
  refine jx_bipush (v := 60) kd440.2.2.2.1 (by decide) ?_
  refine jx_icmp_le (tgt := 13) kd440.2.2.2.2.1 (by decide) (fun c2 => ?_) (fun c2 => ?_)
  · replace h := h.1 c2
    refine jx_aload_n 0 kd440.2.2.2.2.2.2.2.1 rfl rfl ?_
    obtain ⟨hk3, h⟩ := h
    obtain ⟨b4, hb4, h⟩ := h
    refine jx_getr jc_10 (j := 3) (by decide) rfl jwF_X10_22 kd440.2.2.2.2.2.2.2.2.1 hk3 hb4 ?_
    refine jx_aload_n 0 kd441.1 rfl rfl ?_
    obtain ⟨b5, hb5, h⟩ := h
    refine jx_getr jc_10 (j := 0) (by decide) rfl jwF_X10_12 kd441.2.1 hk3 hb5 ?_
    obtain ⟨hk6, h⟩ := h
    obtain ⟨b7, hb7, h⟩ := h
    refine jx_getr jc_3 (j := 0) (by decide) rfl jwF_X10_63 kd441.2.2.1 hk6 hb7 ?_
    obtain ⟨hk8, h⟩ := h
    refine jx_callVv (M' := mX0_become) (As := [.ref b7]) jo_X0_become jc_0 rfl jwM_X10_250 jwN_X0_become jwX_X0_become kd441.2.2.2.1 (jRok_m _ _ _) rfl (jle rfl) ⟨jle rfl, jle rfl⟩ hk8 h (fun S9 h => ?_)
    refine jx_aload_n 0 kd441.2.2.2.2.1 rfl rfl ?_
    obtain ⟨hk10, h⟩ := h
    obtain ⟨b11, hb11, h⟩ := h
    refine jx_getr jc_10 (j := 3) (by decide) rfl jwF_X10_22 kd441.2.2.2.2.2.1 hk10 hb11 ?_
    refine jx_iload_n 1 kd441.2.2.2.2.2.2.1 rfl rfl ?_
    obtain ⟨hk12, h⟩ := h
    refine jx_callVv (M' := mX0_liveYears) (As := [.int x1]) jo_X0_liveYears jc_0 rfl jwM_X10_247 jwN_X0_liveYears jwX_X0_liveYears kd441.2.2.2.2.2.2.2.1 (jRok_m _ _ _) rfl (jle rfl) ⟨jle rfl, jle rfl⟩ hk12 h (fun S13 h => ?_)
    refine jx_aload_n 0 kd441.2.2.2.2.2.2.2.2.1 rfl rfl ?_
    obtain ⟨hk14, h⟩ := h
    obtain ⟨b15, hb15, h⟩ := h
    refine jx_getr jc_10 (j := 0) (by decide) rfl jwF_X10_12 kd442.1 hk14 hb15 ?_
    obtain ⟨hk16, h⟩ := h
    obtain ⟨b17, hb17, h⟩ := h
    refine jx_getr jc_3 (j := 0) (by decide) rfl jwF_X10_63 kd442.2.1 hk16 hb17 ?_
    obtain ⟨hk18, h⟩ := h
    refine jx_callVi (M' := mX0_taught) (As := []) jo_X0_taught jc_0 rfl jwM_X10_238 jwN_X0_taught jwX_X0_taught kd442.2.2.1 (jRok_m _ _ _) rfl (jle rfl) ⟨jle rfl, jle rfl⟩ hk18 h (fun r20 S19 h => ?_)
    refine jx_aload_n 0 kd442.2.2.2.1 rfl rfl ?_
    obtain ⟨hk21, h⟩ := h
    obtain ⟨b22, hb22, h⟩ := h
    refine jx_getr jc_10 (j := 3) (by decide) rfl jwF_X10_22 kd442.2.2.2.2.1 hk21 hb22 ?_
    obtain ⟨hk23, h⟩ := h
    refine jx_callVi (M' := mX0_taught) (As := []) jo_X0_taught jc_0 rfl jwM_X10_238 jwN_X0_taught jwX_X0_taught kd442.2.2.2.2.2.1 (jRok_m _ _ _) rfl (jle rfl) ⟨jle rfl, jle rfl⟩ hk23 h (fun r25 S24 h => ?_)
    refine jx_iconst (v := (-1)) kd442.2.2.2.2.2.2.1 (by decide) ?_
    refine jx_ixor kd442.2.2.2.2.2.2.2.1 ?_
    refine jx_iand kd442.2.2.2.2.2.2.2.2.1 ?_
    refine jx_callSi (M' := mJ6_bitCount_0f7a4) (As := [.int (r20 &&& (r25 ^^^ (-1)))]) jo_J6_bitCount_0f7a4 jwM_X10_112 jwS_J6_bitCount_0f7a4 kd443.1 (jRok_m _ _ _) rfl (jle rfl) ⟨jle rfl, jle rfl⟩ (c_J6_bitCount_0f7a4 (Q := fun v S' => v = (jbc (r20 &&& (r25 ^^^ (-1)))) ∧ S24 = S') ⟨rfl, rfl⟩) (fun r26 S27 hq28 => ?_)
    obtain ⟨rfl, rfl⟩ := hq28
    exact jx_iret kd443.2.1 rfl rfl (jle rfl) (jle rfl) ⟨_, rfl, h⟩
  replace h := h.2 c2
  refine jx_ldc jwC_X10_62 kd440.2.2.2.2.2.1 ?_
  exact jx_iret kd440.2.2.2.2.2.2.1 rfl rfl (jle rfl) (jle rfl) ⟨_, rfl, h⟩
end
section
/-- X10_fresh at its loop's head 4 -/
abbrev L_X10_fresh_4 (E : jEnv) (d : Nat) (Q : Int32 → jM → Prop) (a0 : Nat) (x1 : Int32) (x2 : Int32) (S : jM) : Prop := jX E mX10_fresh (jRm (d + 1) 0 0) (jZm E (fun r S' => ∃ v : Int32, r = some (.int v) ∧ Q v S') 0 0) 4 [(0, .ref a0), (1, .int x1), (2, .int x2)] [] S 0 0
set_option maxRecDepth 100000 in
set_option maxHeartbeats 4000000 in
theorem T_X10_fresh {E : jEnv} {d : Nat} {Q : Int32 → jM → Prop} {a0 : Nat} {S : jM} (h : L_X10_fresh_4 E d Q a0 0 1 S) : jFi E mX10_fresh (d + 1) 0 0 [.ref a0] S Q := by
  refine jF_of (by decide) (jle rfl) ?_
  refine jx_lv (lv1 := [(0, .ref a0)]) [0] rfl ?_
  refine jx_iconst (v := 0) kd444.1 (by decide) ?_
  refine jx_istore_n (lv1 := [(1, .int 0), (0, .ref a0)]) kd444.2.1 rfl (by decide) rfl ?_
  refine jx_iconst (v := 1) kd444.2.2.1 (by decide) ?_
  refine jx_istore_n (lv1 := [(2, .int 1), (1, .int 0), (0, .ref a0)]) kd444.2.2.2.1 rfl (by decide) rfl ?_
  exact jx_lv [2, 1, 0] rfl h
set_option maxRecDepth 100000 in
set_option maxHeartbeats 4000000 in
theorem T_X10_fresh_4 {E : jEnv} {d : Nat} {Q : Int32 → jM → Prop} {a0 : Nat} {x1 : Int32} {x2 : Int32} {S : jM} (h : (6 ≤ x2 → Q x1 S) ∧ (¬ 6 ≤ x2 → jk S a0 = 10 ∧ ∃ b3, jr S a0 0 = some b3 ∧ (jk S b3 = 3 ∧ jFi E mX3_waysToMasters d 0 0 [.ref b3, .int x2] S (fun r6 S5 => jk S5 a0 = 10 ∧ ∃ b8, jr S5 a0 0 = some b8 ∧ (jk S5 b8 = 3 ∧ jFi E mX3_waysToMasters d 0 0 [.ref b8, .int x1] S5 (fun r11 S10 => (r11 ≤ r6 → L_X10_fresh_4 E d Q a0 x1 (x2 + 1) S10) ∧ (¬ r11 ≤ r6 → L_X10_fresh_4 E d Q a0 x2 (x2 + 1) S10))))))) : L_X10_fresh_4 E d Q a0 x1 x2 S := by
  show jX E mX10_fresh (jRm (d + 1) 0 0) (jZm E (fun r S' => ∃ v : Int32, r = some (.int v) ∧ Q v S') 0 0) 4 [(0, .ref a0), (1, .int x1), (2, .int x2)] [] S 0 0
  refine jx_iload_n 2 kd444.2.2.2.2.1 rfl rfl ?_
  refine jx_bipush (v := 6) kd444.2.2.2.2.2.1 (by decide) ?_
  refine jx_icmp_ge (tgt := 37) kd444.2.2.2.2.2.2.1 (by decide) (fun c1 => ?_) (fun c1 => ?_)
  · replace h := h.1 c1
    refine jx_iload_n 1 kd446.2.2.1 rfl rfl ?_
    exact jx_iret kd446.2.2.2.1 rfl rfl (jle rfl) (jle rfl) ⟨_, rfl, h⟩
  replace h := h.2 c1
  refine jx_aload_n 0 kd444.2.2.2.2.2.2.2.1 rfl rfl ?_
  obtain ⟨hk2, h⟩ := h
  obtain ⟨b3, hb3, h⟩ := h
  refine jx_getr jc_10 (j := 0) (by decide) rfl jwF_X10_12 kd444.2.2.2.2.2.2.2.2.1 hk2 hb3 ?_
  refine jx_iload_n 2 kd445.1 rfl rfl ?_
  obtain ⟨hk4, h⟩ := h
  refine jx_callVi (M' := mX3_waysToMasters) (As := [.int x2]) jo_X3_waysToMasters jc_3 rfl jwM_X10_254 jwN_X3_waysToMasters jwX_X3_waysToMasters kd445.2.1 (jRok_m _ _ _) rfl (jle rfl) ⟨jle rfl, jle rfl⟩ hk4 h (fun r6 S5 h => ?_)
  refine jx_aload_n 0 kd445.2.2.1 rfl rfl ?_
  obtain ⟨hk7, h⟩ := h
  obtain ⟨b8, hb8, h⟩ := h
  refine jx_getr jc_10 (j := 0) (by decide) rfl jwF_X10_12 kd445.2.2.2.1 hk7 hb8 ?_
  refine jx_iload_n 1 kd445.2.2.2.2.1 rfl rfl ?_
  obtain ⟨hk9, h⟩ := h
  refine jx_callVi (M' := mX3_waysToMasters) (As := [.int x1]) jo_X3_waysToMasters jc_3 rfl jwM_X10_254 jwN_X3_waysToMasters jwX_X3_waysToMasters kd445.2.2.2.2.2.1 (jRok_m _ _ _) rfl (jle rfl) ⟨jle rfl, jle rfl⟩ hk9 h (fun r11 S10 h => ?_)
  refine jx_icmp_ge (tgt := 31) kd445.2.2.2.2.2.2.1 (by decide) (fun c12 => ?_) (fun c12 => ?_)
  · replace h := h.1 c12
    refine jx_iinc 2 (v := (x2 + 1)) (lv1 := [(2, .int (x2 + 1)), (0, .ref a0), (1, .int x1)]) kd446.1 rfl rfl (by decide) rfl ?_
    refine jx_goto (tgt := 4) kd446.2.1 (by decide) ?_
    exact jx_lv [1, 2, 0] rfl h
  replace h := h.2 c12
  refine jx_iload_n 2 kd445.2.2.2.2.2.2.2.1 rfl rfl ?_
  refine jx_istore_n (lv1 := [(1, .int x2), (0, .ref a0), (2, .int x2)]) kd445.2.2.2.2.2.2.2.2.1 rfl (by decide) rfl ?_
  refine jx_iinc 2 (v := (x2 + 1)) (lv1 := [(2, .int (x2 + 1)), (1, .int x2), (0, .ref a0)]) kd446.1 rfl rfl (by decide) rfl ?_
  refine jx_goto (tgt := 4) kd446.2.1 (by decide) ?_
  exact jx_lv [2, 1, 0] rfl h
/-- X10_cut at its loop's head 45 -/
abbrev L_X10_cut_45 (E : jEnv) (d : Nat) (Q : Int32 → jM → Prop) (a0 : Nat) (x2 : Int32) (a3 : Nat) (x4 : Int32) (x5 : Int32) (x6 : Int32) (S : jM) : Prop := jX E mX10_cut (jRm (d + 1) 0 0) (jZm E (fun r S' => ∃ v : Int32, r = some (.int v) ∧ Q v S') 0 0) 45 [(0, .ref a0), (2, .int x2), (3, .ref a3), (4, .int x4), (5, .int x5), (6, .int x6)] [] S 0 0
set_option maxRecDepth 100000 in
set_option maxHeartbeats 4000000 in
theorem T_X10_cut {E : jEnv} {d : Nat} {Q : Int32 → jM → Prop} {a0 : Nat} {x1 : Int32} {x2 : Int32} {S : jM} (h : jk S a0 = 10 ∧ jFr E mX10_findSheet d 0 0 [.ref a0, .int x1] S (fun o3 S2 => (o3 = none → Q (-1000000001) S2) ∧ (∀ b4, o3 = some b4 → ((jwi x2 2) = 0 → Q (-1000000001) S2) ∧ (¬ (jwi x2 2) = 0 → jk S2 b4 = 6 ∧ ((ji S2 b4 0) = (-1) → Q (-1000000011) S2) ∧ (¬ (ji S2 b4 0) = (-1) → L_X10_cut_45 E d Q a0 x2 b4 (-1000000005) 1000000000 0 S2))))) : jFi E mX10_cut (d + 1) 0 0 [.ref a0, .int x1, .int x2] S Q := by
  refine jF_of (by decide) (jle rfl) ?_
  refine jx_lv (lv1 := [(0, .ref a0), (1, .int x1), (2, .int x2)]) [0, 1, 2] rfl ?_
  refine jx_aload_n 0 kd447.1 rfl rfl ?_
  refine jx_iload_n 1 kd447.2.1 rfl rfl ?_
  obtain ⟨hk1, h⟩ := h
  refine jx_callVr (M' := mX10_findSheet) (As := [.int x1]) jo_X10_findSheet jc_10 rfl jwM_X10_257 jwN_X10_findSheet jwX_X10_findSheet kd447.2.2.1 (jRok_m _ _ _) rfl (jle rfl) ⟨jle rfl, jle rfl⟩ hk1 h (fun o3 S2 h => ?_)
  rcases o3 with _ | b4
  · replace h := h.1 rfl
    refine jx_astore_nN (lv1 := [(3, .null), (0, .ref a0), (1, .int x1), (2, .int x2)]) kd447.2.2.2.1 rfl (by decide) rfl ?_
    refine jx_aload_nN 0 kd447.2.2.2.2.1 rfl rfl ?_
    refine jx_ifnullN (tgt := 18) kd447.2.2.2.2.2.1 (by decide) ?_
    refine jx_ldc jwC_X10_62 kd448.2.1 ?_
    exact jx_iret kd448.2.2.1 rfl rfl (jle rfl) (jle rfl) ⟨_, rfl, h⟩
  replace h := h.2 b4 rfl
  refine jx_astore_n (lv1 := [(3, .ref b4), (0, .ref a0), (1, .int x1), (2, .int x2)]) kd447.2.2.2.1 rfl (by decide) rfl ?_
  refine jx_aload_n 0 kd447.2.2.2.2.1 rfl rfl ?_
  refine jx_ifnull kd447.2.2.2.2.2.1 ?_
  refine jx_iload_n 3 kd447.2.2.2.2.2.2.1 rfl rfl ?_
  refine jx_iconst (v := 2) kd447.2.2.2.2.2.2.2.1 (by decide) ?_
  refine jx_callSi (M' := mX10_within) (As := [.int x2, .int 2]) jo_X10_within jwM_X10_58 jwS_X10_within kd447.2.2.2.2.2.2.2.2.1 (jRok_m _ _ _) rfl (jle rfl) ⟨jle rfl, jle rfl⟩ (c_X10_within (Q := fun v S' => v = (jwi x2 2) ∧ S2 = S') ⟨rfl, rfl⟩) (fun r5 S6 hq7 => ?_)
  obtain ⟨rfl, rfl⟩ := hq7
  refine jx_if_ne (tgt := 21) kd448.1 (by decide) (fun c8 => ?_) (fun c8 => ?_)
  · replace h := h.2 c8
    refine jx_aload_n 0 kd448.2.2.2.1 rfl rfl ?_
    obtain ⟨hk9, h⟩ := h
    refine jx_geti jc_6 (j := 0) (by decide) rfl jwF_X10_261 kd448.2.2.2.2.1 hk9 ?_
    refine jx_iconst (v := (-1)) kd448.2.2.2.2.2.1 (by decide) ?_
    refine jx_icmp_ne (tgt := 33) kd448.2.2.2.2.2.2.1 (by decide) (fun c10 => ?_) (fun c10 => ?_)
    · replace h := h.2 c10
      refine jx_ldc jwC_X10_160 kd449.1 ?_
      refine jx_istore (lv1 := [(4, .int (-1000000005)), (3, .ref b4), (0, .ref a0), (1, .int x1), (2, .int x2)]) kd449.2.1 (by decide) rfl ?_
      refine jx_ldcw jwC_X10_265 kd449.2.2.1 ?_
      refine jx_istore (lv1 := [(5, .int 1000000000), (4, .int (-1000000005)), (3, .ref b4), (0, .ref a0), (1, .int x1), (2, .int x2)]) kd449.2.2.2.1 (by decide) rfl ?_
      refine jx_iconst (v := 0) kd449.2.2.2.2.1 (by decide) ?_
      refine jx_istore (lv1 := [(6, .int 0), (5, .int 1000000000), (4, .int (-1000000005)), (3, .ref b4), (0, .ref a0), (1, .int x1), (2, .int x2)]) kd449.2.2.2.2.2.1 (by decide) rfl ?_
      exact jx_lv [4, 6, 3, 2, 1, 0] rfl h
    replace h := h.1 c10
    refine jx_ldcw jwC_X10_264 kd448.2.2.2.2.2.2.2.1 ?_
    exact jx_iret kd448.2.2.2.2.2.2.2.2.1 rfl rfl (jle rfl) (jle rfl) ⟨_, rfl, h⟩
  replace h := h.1 c8
  refine jx_ldc jwC_X10_62 kd448.2.1 ?_
  exact jx_iret kd448.2.2.1 rfl rfl (jle rfl) (jle rfl) ⟨_, rfl, h⟩
set_option maxRecDepth 100000 in
set_option maxHeartbeats 4000000 in
theorem T_X10_cut_45 {E : jEnv} {d : Nat} {Q : Int32 → jM → Prop} {a0 : Nat} {x2 : Int32} {a3 : Nat} {x4 : Int32} {x5 : Int32} {x6 : Int32} {S : jM} (h : (9 ≤ x6 → (x2 = 0 → Q x4 S) ∧ (¬ x2 = 0 → (x4 = (-1000000005) → Q x4 S) ∧ (¬ x4 = (-1000000005) → Q x5 S))) ∧ (¬ 9 ≤ x6 → jk S a0 = 10 ∧ ∃ b15, jr S a0 0 = some b15 ∧ (jk S b15 = 3 ∧ ∃ b17, jr S b15 0 = some b17 ∧ (jk S b17 = 0 ∧ jFr E mX0_find d 0 0 [.ref b17, .int x6] S (fun o20 S19 => (o20 = none → (x5 ≤ x5 → L_X10_cut_45 E d Q a0 x2 a3 x4 x5 (x6 + 1) S19) ∧ (¬ x5 ≤ x5 → L_X10_cut_45 E d Q a0 x2 a3 x6 x5 (x6 + 1) S19)) ∧ (∀ b21, o20 = some b21 → jk S19 a0 = 10 ∧ ∃ b24, jr S19 a0 0 = some b24 ∧ (jk S19 b24 = 3 ∧ jFi E mX3_apart d 0 0 [.ref b24, .ref b21, .ref a3] S19 (fun r27 S26 => (x5 ≤ r27 → L_X10_cut_45 E d Q a0 x2 a3 x4 x5 (x6 + 1) S26) ∧ (¬ x5 ≤ r27 → L_X10_cut_45 E d Q a0 x2 a3 x6 r27 (x6 + 1) S26))))))))) : L_X10_cut_45 E d Q a0 x2 a3 x4 x5 x6 S := by
  show jX E mX10_cut (jRm (d + 1) 0 0) (jZm E (fun r S' => ∃ v : Int32, r = some (.int v) ∧ Q v S') 0 0) 45 [(0, .ref a0), (2, .int x2), (3, .ref a3), (4, .int x4), (5, .int x5), (6, .int x6)] [] S 0 0
  refine jx_iload 5 kd449.2.2.2.2.2.2.1 rfl ?_
  refine jx_bipush (v := 9) kd449.2.2.2.2.2.2.2.1 (by decide) ?_
  refine jx_icmp_ge (tgt := 109) kd449.2.2.2.2.2.2.2.2.1 (by decide) (fun c11 => ?_) (fun c11 => ?_)
  · replace h := h.1 c11
    refine jx_iload_n 1 kd452.2.2.2.2.2.2.2.1 rfl rfl ?_
    refine jx_if_eq (tgt := 120) kd452.2.2.2.2.2.2.2.2.1 (by decide) (fun c12 => ?_) (fun c12 => ?_)
    · replace h := h.1 c12
      refine jx_iload 3 kd453.2.2.2.1 rfl ?_
      refine jx_goto (tgt := 127) kd453.2.2.2.2.1 (by decide) ?_
      exact jx_iret kd453.2.2.2.2.2.2.1 rfl rfl (jle rfl) (jle rfl) ⟨_, rfl, h⟩
    replace h := h.2 c12
    refine jx_iload 3 kd453.1 rfl ?_
    refine jx_ldc jwC_X10_160 kd453.2.1 ?_
    refine jx_icmp_ne (tgt := 125) kd453.2.2.1 (by decide) (fun c13 => ?_) (fun c13 => ?_)
    · replace h := h.2 c13
      refine jx_iload 4 kd453.2.2.2.2.2.1 rfl ?_
      exact jx_iret kd453.2.2.2.2.2.2.1 rfl rfl (jle rfl) (jle rfl) ⟨_, rfl, h⟩
    replace h := h.1 c13
    refine jx_iload 3 kd453.2.2.2.1 rfl ?_
    refine jx_goto (tgt := 127) kd453.2.2.2.2.1 (by decide) ?_
    exact jx_iret kd453.2.2.2.2.2.2.1 rfl rfl (jle rfl) (jle rfl) ⟨_, rfl, h⟩
  replace h := h.2 c11
  refine jx_aload_n 0 kd450.1 rfl rfl ?_
  obtain ⟨hk14, h⟩ := h
  obtain ⟨b15, hb15, h⟩ := h
  refine jx_getr jc_10 (j := 0) (by decide) rfl jwF_X10_12 kd450.2.1 hk14 hb15 ?_
  obtain ⟨hk16, h⟩ := h
  obtain ⟨b17, hb17, h⟩ := h
  refine jx_getr jc_3 (j := 0) (by decide) rfl jwF_X10_63 kd450.2.2.1 hk16 hb17 ?_
  refine jx_iload 5 kd450.2.2.2.1 rfl ?_
  obtain ⟨hk18, h⟩ := h
  refine jx_callVr (M' := mX0_find) (As := [.int x6]) jo_X0_find jc_0 rfl jwM_X10_75 jwN_X0_find jwX_X0_find kd450.2.2.2.2.1 (jRok_m _ _ _) rfl (jle rfl) ⟨jle rfl, jle rfl⟩ hk18 h (fun o20 S19 h => ?_)
  rcases o20 with _ | b21
  · replace h := h.1 rfl
    refine jx_astoreN (lv1 := [(7, .null), (0, .ref a0), (2, .int x2), (3, .ref a3), (4, .int x4), (5, .int x5), (6, .int x6)]) kd450.2.2.2.2.2.1 (by decide) rfl ?_
    refine jx_aloadN 0 kd450.2.2.2.2.2.2.1 rfl ?_
    refine jx_ifnonnullN kd450.2.2.2.2.2.2.2.1 ?_
    refine jx_iload 5 kd450.2.2.2.2.2.2.2.2.1 rfl ?_
    refine jx_goto (tgt := 86) kd451.1 (by decide) ?_
    refine jx_istore (lv1 := [(8, .int x5), (7, .null), (0, .ref a0), (2, .int x2), (3, .ref a3), (4, .int x4), (5, .int x5), (6, .int x6)]) kd451.2.2.2.2.2.2.1 (by decide) rfl ?_
    refine jx_iload 0 kd451.2.2.2.2.2.2.2.1 rfl ?_
    refine jx_iload 6 kd451.2.2.2.2.2.2.2.2.1 rfl ?_
    refine jx_icmp_ge (tgt := 103) kd452.1 (by decide) (fun c22 => ?_) (fun c22 => ?_)
    · replace h := h.1 c22
      refine jx_iinc 7 (v := (x6 + 1)) (lv1 := [(6, .int (x6 + 1)), (8, .int x5), (7, .null), (0, .ref a0), (2, .int x2), (3, .ref a3), (4, .int x4), (5, .int x5)]) kd452.2.2.2.2.2.1 rfl rfl (by decide) rfl ?_
      refine jx_goto (tgt := 45) kd452.2.2.2.2.2.2.1 (by decide) ?_
      exact jx_lv [3, 4, 5, 6, 7, 0] rfl h
    replace h := h.2 c22
    refine jx_iload 7 kd452.2.1 rfl ?_
    refine jx_istore (lv1 := [(4, .int x6), (8, .int x5), (7, .null), (0, .ref a0), (2, .int x2), (3, .ref a3), (5, .int x5), (6, .int x6)]) kd452.2.2.1 (by decide) rfl ?_
    refine jx_iload 1 kd452.2.2.2.1 rfl ?_
    refine jx_istore (lv1 := [(5, .int x5), (4, .int x6), (8, .int x5), (7, .null), (0, .ref a0), (2, .int x2), (3, .ref a3), (6, .int x6)]) kd452.2.2.2.2.1 (by decide) rfl ?_
    refine jx_iinc 7 (v := (x6 + 1)) (lv1 := [(6, .int (x6 + 1)), (5, .int x5), (4, .int x6), (8, .int x5), (7, .null), (0, .ref a0), (2, .int x2), (3, .ref a3)]) kd452.2.2.2.2.2.1 rfl rfl (by decide) rfl ?_
    refine jx_goto (tgt := 45) kd452.2.2.2.2.2.2.1 (by decide) ?_
    exact jx_lv [5, 6, 7, 2, 1, 0] rfl h
  replace h := h.2 b21 rfl
  refine jx_astore (lv1 := [(7, .ref b21), (0, .ref a0), (2, .int x2), (3, .ref a3), (4, .int x4), (5, .int x5), (6, .int x6)]) kd450.2.2.2.2.2.1 (by decide) rfl ?_
  refine jx_aload 0 kd450.2.2.2.2.2.2.1 rfl ?_
  refine jx_ifnonnull (tgt := 76) kd450.2.2.2.2.2.2.2.1 (by decide) ?_
  refine jx_aload_n 1 kd451.2.1 rfl rfl ?_
  obtain ⟨hk23, h⟩ := h
  obtain ⟨b24, hb24, h⟩ := h
  refine jx_getr jc_10 (j := 0) (by decide) rfl jwF_X10_12 kd451.2.2.1 hk23 hb24 ?_
  refine jx_aload 0 kd451.2.2.2.1 rfl ?_
  refine jx_aload_n 3 kd451.2.2.2.2.1 rfl rfl ?_
  obtain ⟨hk25, h⟩ := h
  refine jx_callVi (M' := mX3_apart) (As := [.ref b21, .ref a3]) jo_X3_apart jc_3 rfl jwM_X10_266 jwN_X3_apart jwX_X3_apart kd451.2.2.2.2.2.1 (jRok_m _ _ _) rfl (jle rfl) ⟨jle rfl, jle rfl⟩ hk25 h (fun r27 S26 h => ?_)
  refine jx_istore (lv1 := [(8, .int r27), (7, .ref b21), (0, .ref a0), (2, .int x2), (3, .ref a3), (4, .int x4), (5, .int x5), (6, .int x6)]) kd451.2.2.2.2.2.2.1 (by decide) rfl ?_
  refine jx_iload 0 kd451.2.2.2.2.2.2.2.1 rfl ?_
  refine jx_iload 6 kd451.2.2.2.2.2.2.2.2.1 rfl ?_
  refine jx_icmp_ge (tgt := 103) kd452.1 (by decide) (fun c28 => ?_) (fun c28 => ?_)
  · replace h := h.1 c28
    refine jx_iinc 7 (v := (x6 + 1)) (lv1 := [(6, .int (x6 + 1)), (8, .int r27), (7, .ref b21), (0, .ref a0), (2, .int x2), (3, .ref a3), (4, .int x4), (5, .int x5)]) kd452.2.2.2.2.2.1 rfl rfl (by decide) rfl ?_
    refine jx_goto (tgt := 45) kd452.2.2.2.2.2.2.1 (by decide) ?_
    exact jx_lv [3, 4, 5, 6, 7, 0] rfl h
  replace h := h.2 c28
  refine jx_iload 7 kd452.2.1 rfl ?_
  refine jx_istore (lv1 := [(4, .int x6), (8, .int r27), (7, .ref b21), (0, .ref a0), (2, .int x2), (3, .ref a3), (5, .int x5), (6, .int x6)]) kd452.2.2.1 (by decide) rfl ?_
  refine jx_iload 1 kd452.2.2.2.1 rfl ?_
  refine jx_istore (lv1 := [(5, .int r27), (4, .int x6), (8, .int r27), (7, .ref b21), (0, .ref a0), (2, .int x2), (3, .ref a3), (6, .int x6)]) kd452.2.2.2.2.1 (by decide) rfl ?_
  refine jx_iinc 7 (v := (x6 + 1)) (lv1 := [(6, .int (x6 + 1)), (5, .int r27), (4, .int x6), (8, .int r27), (7, .ref b21), (0, .ref a0), (2, .int x2), (3, .ref a3)]) kd452.2.2.2.2.2.1 rfl rfl (by decide) rfl ?_
  refine jx_goto (tgt := 45) kd452.2.2.2.2.2.2.1 (by decide) ?_
  exact jx_lv [5, 6, 7, 2, 1, 0] rfl h
set_option maxRecDepth 100000 in
set_option maxHeartbeats 4000000 in
theorem T_X10_fame {E : jEnv} {d : Nat} {Q : Int32 → jM → Prop} {a0 : Nat} {x1 : Int32} {S : jM} (h : jk S a0 = 10 ∧ ∃ b2, jr S a0 0 = some b2 ∧ (jk S b2 = 3 ∧ ∃ b4, jr S b2 0 = some b4 ∧ (jk S b4 = 0 ∧ jFr E mX0_find d 0 0 [.ref b4, .int x1] S (fun o7 S6 => (o7 = none → Q (-1000000001) S6) ∧ (∀ b8, o7 = some b8 → jk S6 a0 = 10 ∧ ∃ b10, jr S6 a0 0 = some b10 ∧ (jk S6 b10 = 3 ∧ jFi E mX3_fameOf d 0 0 [.ref b10, .ref b8] S6 (fun r13 S12 => Q r13 S12))))))) : jFi E mX10_fame (d + 1) 0 0 [.ref a0, .int x1] S Q := by
  refine jF_of (by decide) (jle rfl) ?_
  refine jx_lv (lv1 := [(0, .ref a0), (1, .int x1)]) [0, 1] rfl ?_
  refine jx_aload_n 0 kd454.1 rfl rfl ?_
  obtain ⟨hk1, h⟩ := h
  obtain ⟨b2, hb2, h⟩ := h
  refine jx_getr jc_10 (j := 0) (by decide) rfl jwF_X10_12 kd454.2.1 hk1 hb2 ?_
  obtain ⟨hk3, h⟩ := h
  obtain ⟨b4, hb4, h⟩ := h
  refine jx_getr jc_3 (j := 0) (by decide) rfl jwF_X10_63 kd454.2.2.1 hk3 hb4 ?_
  refine jx_iload_n 1 kd454.2.2.2.1 rfl rfl ?_
  obtain ⟨hk5, h⟩ := h
  refine jx_callVr (M' := mX0_find) (As := [.int x1]) jo_X0_find jc_0 rfl jwM_X10_75 jwN_X0_find jwX_X0_find kd454.2.2.2.2.1 (jRok_m _ _ _) rfl (jle rfl) ⟨jle rfl, jle rfl⟩ hk5 h (fun o7 S6 h => ?_)
  rcases o7 with _ | b8
  · replace h := h.1 rfl
    refine jx_astore_nN (lv1 := [(2, .null), (0, .ref a0), (1, .int x1)]) kd454.2.2.2.2.2.1 rfl (by decide) rfl ?_
    refine jx_aload_nN 0 kd454.2.2.2.2.2.2.1 rfl rfl ?_
    refine jx_ifnonnullN kd454.2.2.2.2.2.2.2.1 ?_
    refine jx_ldc jwC_X10_62 kd454.2.2.2.2.2.2.2.2.1 ?_
    refine jx_goto (tgt := 29) kd455.1 (by decide) ?_
    exact jx_iret kd455.2.2.2.2.2.1 rfl rfl (jle rfl) (jle rfl) ⟨_, rfl, h⟩
  replace h := h.2 b8 rfl
  refine jx_astore_n (lv1 := [(2, .ref b8), (0, .ref a0), (1, .int x1)]) kd454.2.2.2.2.2.1 rfl (by decide) rfl ?_
  refine jx_aload_n 0 kd454.2.2.2.2.2.2.1 rfl rfl ?_
  refine jx_ifnonnull (tgt := 21) kd454.2.2.2.2.2.2.2.1 (by decide) ?_
  refine jx_aload_n 1 kd455.2.1 rfl rfl ?_
  obtain ⟨hk9, h⟩ := h
  obtain ⟨b10, hb10, h⟩ := h
  refine jx_getr jc_10 (j := 0) (by decide) rfl jwF_X10_12 kd455.2.2.1 hk9 hb10 ?_
  refine jx_aload_n 0 kd455.2.2.2.1 rfl rfl ?_
  obtain ⟨hk11, h⟩ := h
  refine jx_callVi (M' := mX3_fameOf) (As := [.ref b8]) jo_X3_fameOf jc_3 rfl jwM_X10_270 jwN_X3_fameOf jwX_X3_fameOf kd455.2.2.2.2.1 (jRok_m _ _ _) rfl (jle rfl) ⟨jle rfl, jle rfl⟩ hk11 h (fun r13 S12 h => ?_)
  exact jx_iret kd455.2.2.2.2.2.1 rfl rfl (jle rfl) (jle rfl) ⟨_, rfl, h⟩
set_option maxRecDepth 100000 in
set_option maxHeartbeats 4000000 in
theorem T_X10_fine {E : jEnv} {d : Nat} {Q : Int32 → jM → Prop} {a0 : Nat} {S : jM} (h : jk S a0 = 10 ∧ ∃ b2, jr S a0 0 = some b2 ∧ (jk S b2 = 3 ∧ jFi E mX3_fineNow d 0 0 [.ref b2] S (fun r5 S4 => Q r5 S4))) : jFi E mX10_fine (d + 1) 0 0 [.ref a0] S Q := by
  refine jF_of (by decide) (jle rfl) ?_
  refine jx_lv (lv1 := [(0, .ref a0)]) [0] rfl ?_
  refine jx_aload_n 0 kd456.1 rfl rfl ?_
  obtain ⟨hk1, h⟩ := h
  obtain ⟨b2, hb2, h⟩ := h
  refine jx_getr jc_10 (j := 0) (by decide) rfl jwF_X10_12 kd456.2.1 hk1 hb2 ?_
  obtain ⟨hk3, h⟩ := h
  refine jx_callVi (M' := mX3_fineNow) (As := []) jo_X3_fineNow jc_3 rfl jwM_X10_274 jwN_X3_fineNow jwX_X3_fineNow kd456.2.2.1 (jRok_m _ _ _) rfl (jle rfl) ⟨jle rfl, jle rfl⟩ hk3 h (fun r5 S4 h => ?_)
  exact jx_iret kd456.2.2.2.1 rfl rfl (jle rfl) (jle rfl) ⟨_, rfl, h⟩
set_option maxRecDepth 100000 in
set_option maxHeartbeats 4000000 in
theorem T_X10_feed {E : jEnv} {d : Nat} {Q : Int32 → jM → Prop} {a0 : Nat} {x1 : Int32} {x2 : Int32} {x3 : Int32} {S : jM} (h : jk S a0 = 10 ∧ ∃ b2, jr S a0 5 = some b2 ∧ (jk S b2 = 8 ∧ ((ji S b2 1) ≤ 84 → jFv E mX8_addNumber d 0 0 [.ref b2, .int x1] S (fun S5 => jk S5 a0 = 10 ∧ ∃ b7, jr S5 a0 5 = some b7 ∧ (jk S5 b7 = 8 ∧ jFv E mX8_addNumber d 0 0 [.ref b7, .int x2] S5 (fun S9 => jk S9 a0 = 10 ∧ ∃ b11, jr S9 a0 5 = some b11 ∧ (jk S9 b11 = 8 ∧ jFv E mX8_addNumber d 0 0 [.ref b11, .int x3] S9 (fun S13 => jk S13 a0 = 10 ∧ ∃ b15, jr S13 a0 5 = some b15 ∧ (jk S13 b15 = 8 ∧ Q (ji S13 b15 1) S13))))))) ∧ (¬ (ji S b2 1) ≤ 84 → Q (-1000000003) S))) : jFi E mX10_feed (d + 1) 0 0 [.ref a0, .int x1, .int x2, .int x3] S Q := by
  refine jF_of (by decide) (jle rfl) ?_
  refine jx_lv (lv1 := [(0, .ref a0), (1, .int x1), (2, .int x2), (3, .int x3)]) [0, 1, 2, 3] rfl ?_
  refine jx_aload_n 0 kd457.1 rfl rfl ?_
  obtain ⟨hk1, h⟩ := h
  obtain ⟨b2, hb2, h⟩ := h
  refine jx_getr jc_10 (j := 5) (by decide) rfl jwF_X10_36 kd457.2.1 hk1 hb2 ?_
  obtain ⟨hk3, h⟩ := h
  refine jx_geti jc_8 (j := 1) (by decide) rfl jwF_X10_277 kd457.2.2.1 hk3 ?_
  refine jx_bipush (v := 84) kd457.2.2.2.1 (by decide) ?_
  refine jx_icmp_le (tgt := 15) kd457.2.2.2.2.1 (by decide) (fun c4 => ?_) (fun c4 => ?_)
  · replace h := h.1 c4
    refine jx_aload_n 0 kd457.2.2.2.2.2.2.2.1 rfl rfl ?_
    refine jx_getr jc_10 (j := 5) (by decide) rfl jwF_X10_36 kd457.2.2.2.2.2.2.2.2.1 hk1 hb2 ?_
    refine jx_iload_n 1 kd458.1 rfl rfl ?_
    refine jx_callVv (M' := mX8_addNumber) (As := [.int x1]) jo_X8_addNumber jc_8 rfl jwM_X10_278 jwN_X8_addNumber jwX_X8_addNumber kd458.2.1 (jRok_m _ _ _) rfl (jle rfl) ⟨jle rfl, jle rfl⟩ hk3 h (fun S5 h => ?_)
    refine jx_aload_n 0 kd458.2.2.1 rfl rfl ?_
    obtain ⟨hk6, h⟩ := h
    obtain ⟨b7, hb7, h⟩ := h
    refine jx_getr jc_10 (j := 5) (by decide) rfl jwF_X10_36 kd458.2.2.2.1 hk6 hb7 ?_
    refine jx_iload_n 2 kd458.2.2.2.2.1 rfl rfl ?_
    obtain ⟨hk8, h⟩ := h
    refine jx_callVv (M' := mX8_addNumber) (As := [.int x2]) jo_X8_addNumber jc_8 rfl jwM_X10_278 jwN_X8_addNumber jwX_X8_addNumber kd458.2.2.2.2.2.1 (jRok_m _ _ _) rfl (jle rfl) ⟨jle rfl, jle rfl⟩ hk8 h (fun S9 h => ?_)
    refine jx_aload_n 0 kd458.2.2.2.2.2.2.1 rfl rfl ?_
    obtain ⟨hk10, h⟩ := h
    obtain ⟨b11, hb11, h⟩ := h
    refine jx_getr jc_10 (j := 5) (by decide) rfl jwF_X10_36 kd458.2.2.2.2.2.2.2.1 hk10 hb11 ?_
    refine jx_iload_n 3 kd458.2.2.2.2.2.2.2.2.1 rfl rfl ?_
    obtain ⟨hk12, h⟩ := h
    refine jx_callVv (M' := mX8_addNumber) (As := [.int x3]) jo_X8_addNumber jc_8 rfl jwM_X10_278 jwN_X8_addNumber jwX_X8_addNumber kd459.1 (jRok_m _ _ _) rfl (jle rfl) ⟨jle rfl, jle rfl⟩ hk12 h (fun S13 h => ?_)
    refine jx_aload_n 0 kd459.2.1 rfl rfl ?_
    obtain ⟨hk14, h⟩ := h
    obtain ⟨b15, hb15, h⟩ := h
    refine jx_getr jc_10 (j := 5) (by decide) rfl jwF_X10_36 kd459.2.2.1 hk14 hb15 ?_
    obtain ⟨hk16, h⟩ := h
    refine jx_geti jc_8 (j := 1) (by decide) rfl jwF_X10_277 kd459.2.2.2.1 hk16 ?_
    exact jx_iret kd459.2.2.2.2.1 rfl rfl (jle rfl) (jle rfl) ⟨_, rfl, h⟩
  replace h := h.2 c4
  refine jx_ldc jwC_X10_74 kd457.2.2.2.2.2.1 ?_
  exact jx_iret kd457.2.2.2.2.2.2.1 rfl rfl (jle rfl) (jle rfl) ⟨_, rfl, h⟩
set_option maxRecDepth 100000 in
set_option maxHeartbeats 4000000 in
theorem T_X10_trim {E : jEnv} {d : Nat} {Q : Int32 → jM → Prop} {a0 : Nat} {x1 : Int32} {S : jM} (h : (x1 < 0 → Q (-1000000001) S) ∧ (¬ x1 < 0 → jk S a0 = 10 ∧ ∃ b3, jr S a0 5 = some b3 ∧ (jk S b3 = 8 ∧ (x1 ≤ (ji S b3 1) → Q x1 (jput S b3 1 x1)) ∧ (¬ x1 ≤ (ji S b3 1) → Q (-1000000001) S)))) : jFi E mX10_trim d 0 0 [.ref a0, .int x1] S Q := by
  refine jF_of (by decide) (jle rfl) ?_
  refine jx_lv (lv1 := [(0, .ref a0), (1, .int x1)]) [0, 1] rfl ?_
  refine jx_iload_n 1 kd460.1 rfl rfl ?_
  refine jx_if_lt (tgt := 15) kd460.2.1 (by decide) (fun c1 => ?_) (fun c1 => ?_)
  · replace h := h.1 c1
    refine jx_ldc jwC_X10_62 kd460.2.2.2.2.2.2.2.1 ?_
    exact jx_iret kd460.2.2.2.2.2.2.2.2.1 rfl rfl (jle rfl) (jle rfl) ⟨_, rfl, h⟩
  replace h := h.2 c1
  refine jx_iload_n 1 kd460.2.2.1 rfl rfl ?_
  refine jx_aload_n 0 kd460.2.2.2.1 rfl rfl ?_
  obtain ⟨hk2, h⟩ := h
  obtain ⟨b3, hb3, h⟩ := h
  refine jx_getr jc_10 (j := 5) (by decide) rfl jwF_X10_36 kd460.2.2.2.2.1 hk2 hb3 ?_
  obtain ⟨hk4, h⟩ := h
  refine jx_geti jc_8 (j := 1) (by decide) rfl jwF_X10_277 kd460.2.2.2.2.2.1 hk4 ?_
  refine jx_icmp_le (tgt := 18) kd460.2.2.2.2.2.2.1 (by decide) (fun c5 => ?_) (fun c5 => ?_)
  · replace h := h.1 c5
    refine jx_aload_n 0 kd461.1 rfl rfl ?_
    refine jx_getr jc_10 (j := 5) (by decide) rfl jwF_X10_36 kd461.2.1 hk2 hb3 ?_
    refine jx_iload_n 1 kd461.2.2.1 rfl rfl ?_
    refine jx_puti jc_8 (j := 1) (by decide) rfl jwF_X10_277 rfl rfl rfl kd461.2.2.2.1 hk4 ?_
    refine jx_iload_n 1 kd461.2.2.2.2.1 rfl rfl ?_
    exact jx_iret kd461.2.2.2.2.2.1 rfl rfl (jle rfl) (jle rfl) ⟨_, rfl, h⟩
  replace h := h.2 c5
  refine jx_ldc jwC_X10_62 kd460.2.2.2.2.2.2.2.1 ?_
  exact jx_iret kd460.2.2.2.2.2.2.2.2.1 rfl rfl (jle rfl) (jle rfl) ⟨_, rfl, h⟩
set_option maxRecDepth 100000 in
set_option maxHeartbeats 4000000 in
theorem T_X10_text {E : jEnv} {d : Nat} {Q : Int32 → jM → Prop} {a0 : Nat} {S : jM} (h : jk S a0 = 10 ∧ ∃ b2, jr S a0 5 = some b2 ∧ (jk S b2 = 8 ∧ jFi E mX8_isText d 0 0 [.ref b2] S (fun r5 S4 => jk S4 a0 = 10 ∧ ∃ b7, jr S4 a0 5 = some b7 ∧ (jk S4 b7 = 8 ∧ (r5 = 0 → Q ((-100) - (ji S4 b7 2)) (jput S4 b7 1 0)) ∧ (¬ r5 = 0 → ∃ b10, jr S4 a0 0 = some b10 ∧ (jk S4 b10 = 3 ∧ jFr E mX8_textRead d 3 196 [.ref b7] (jput S4 b7 1 0) (fun o13 S12 => (o13 = none → jk S12 b10 = 3 ∧ jFi E mX3_addText d 0 0 [.ref b10, .null] S12 (fun r17 S16 => (r17 = 0 → Q (-1000000003) S16) ∧ (¬ r17 = 0 → Q (ji S4 b10 6) S16))) ∧ (∀ b14, o13 = some b14 → jk S12 b10 = 3 ∧ jFi E mX3_addText d 0 0 [.ref b10, .ref b14] S12 (fun r21 S20 => (r21 = 0 → Q (-1000000003) S20) ∧ (¬ r21 = 0 → Q (ji S4 b10 6) S20)))))))))) : jFi E mX10_text (d + 1) 3 196 [.ref a0] S Q := by
  refine jF_of (by decide) (jle rfl) ?_
  refine jx_lv (lv1 := [(0, .ref a0)]) [0] rfl ?_
  refine jx_aload_n 0 kd462.1 rfl rfl ?_
  obtain ⟨hk1, h⟩ := h
  obtain ⟨b2, hb2, h⟩ := h
  refine jx_getr jc_10 (j := 5) (by decide) rfl jwF_X10_36 kd462.2.1 hk1 hb2 ?_
  obtain ⟨hk3, h⟩ := h
  refine jx_callVi (M' := mX8_isText) (As := []) jo_X8_isText jc_8 rfl jwM_X10_281 jwN_X8_isText jwX_X8_isText kd462.2.2.1 (jRok_m _ _ _) rfl (jle rfl) ⟨jle rfl, jle rfl⟩ hk3 h (fun r5 S4 h => ?_)
  refine jx_istore_n (lv1 := [(1, .int r5), (0, .ref a0)]) kd462.2.2.2.1 rfl (by decide) rfl ?_
  refine jx_aload_n 1 kd462.2.2.2.2.1 rfl rfl ?_
  obtain ⟨hk6, h⟩ := h
  obtain ⟨b7, hb7, h⟩ := h
  refine jx_getr jc_10 (j := 5) (by decide) rfl jwF_X10_36 kd462.2.2.2.2.2.1 hk6 hb7 ?_
  refine jx_iconst (v := 0) kd462.2.2.2.2.2.2.1 (by decide) ?_
  obtain ⟨hk8, h⟩ := h
  refine jx_puti jc_8 (j := 1) (by decide) rfl jwF_X10_277 rfl rfl rfl kd462.2.2.2.2.2.2.2.1 hk8 ?_
  refine jx_iload_n 0 kd462.2.2.2.2.2.2.2.2.1 rfl rfl ?_
  refine jx_if_ne (tgt := 31) kd463.1 (by decide) (fun c9 => ?_) (fun c9 => ?_)
  · replace h := h.2 c9
    refine jx_aload_n 1 kd463.2.2.2.2.2.2.2.1 rfl rfl ?_
    obtain ⟨b10, hb10, h⟩ := h
    refine jx_getr jc_10 (j := 0) (by decide) rfl jwF_X10_12 kd463.2.2.2.2.2.2.2.2.1 hk6 hb10 ?_
    obtain ⟨hk11, h⟩ := h
    refine jx_geti jc_3 (j := 6) (by decide) rfl jwF_X10_287 kd464.1 hk11 ?_
    refine jx_topi (y := (ji S4 b10 6)) (by simp [ji_put, ji_row, ji_putr]) ?_
    refine jx_istore_n (lv1 := [(2, .int (ji S4 b10 6)), (1, .int r5), (0, .ref a0)]) kd464.2.1 rfl (by decide) rfl ?_
    refine jx_aload_n 2 kd464.2.2.1 rfl rfl ?_
    refine jx_getr jc_10 (j := 0) (by decide) rfl jwF_X10_12 kd464.2.2.2.1 hk6 hb10 ?_
    refine jx_aload_n 2 kd464.2.2.2.2.1 rfl rfl ?_
    refine jx_getr jc_10 (j := 5) (by decide) rfl jwF_X10_36 kd464.2.2.2.2.2.1 hk6 hb7 ?_
    refine jx_callVr (M' := mX8_textRead) (As := []) jo_X8_textRead jc_8 rfl jwM_X10_290 jwN_X8_textRead jwX_X8_textRead kd464.2.2.2.2.2.2.1 (jRok_m _ _ _) rfl (jle rfl) ⟨jle rfl, jle rfl⟩ hk8 h (fun o13 S12 h => ?_)
    rcases o13 with _ | b14
    · replace h := h.1 rfl
      obtain ⟨hk15, h⟩ := h
      refine jx_callVi (M' := mX3_addText) (As := [.null]) jo_X3_addText jc_3 rfl jwM_X10_294 jwN_X3_addText jwX_X3_addText kd464.2.2.2.2.2.2.2.1 (jRok_m _ _ _) rfl (jle rfl) ⟨jle rfl, jle rfl⟩ hk15 h (fun r17 S16 h => ?_)
      refine jx_if_eq (tgt := 60) kd464.2.2.2.2.2.2.2.2.1 (by decide) (fun c18 => ?_) (fun c18 => ?_)
      · replace h := h.1 c18
        refine jx_ldc jwC_X10_74 kd465.2.2.1 ?_
        exact jx_iret kd465.2.2.2.1 rfl rfl (jle rfl) (jle rfl) ⟨_, rfl, h⟩
      replace h := h.2 c18
      refine jx_iload_n 0 kd465.1 rfl rfl ?_
      refine jx_goto (tgt := 62) kd465.2.1 (by decide) ?_
      exact jx_iret kd465.2.2.2.1 rfl rfl (jle rfl) (jle rfl) ⟨_, rfl, h⟩
    replace h := h.2 b14 rfl
    obtain ⟨hk19, h⟩ := h
    refine jx_callVi (M' := mX3_addText) (As := [.ref b14]) jo_X3_addText jc_3 rfl jwM_X10_294 jwN_X3_addText jwX_X3_addText kd464.2.2.2.2.2.2.2.1 (jRok_m _ _ _) rfl (jle rfl) ⟨jle rfl, jle rfl⟩ hk19 h (fun r21 S20 h => ?_)
    refine jx_if_eq (tgt := 60) kd464.2.2.2.2.2.2.2.2.1 (by decide) (fun c22 => ?_) (fun c22 => ?_)
    · replace h := h.1 c22
      refine jx_ldc jwC_X10_74 kd465.2.2.1 ?_
      exact jx_iret kd465.2.2.2.1 rfl rfl (jle rfl) (jle rfl) ⟨_, rfl, h⟩
    replace h := h.2 c22
    refine jx_iload_n 0 kd465.1 rfl rfl ?_
    refine jx_goto (tgt := 62) kd465.2.1 (by decide) ?_
    exact jx_iret kd465.2.2.2.1 rfl rfl (jle rfl) (jle rfl) ⟨_, rfl, h⟩
  replace h := h.1 c9
  refine jx_bipush (v := (-100)) kd463.2.1 (by decide) ?_
  refine jx_aload_n 1 kd463.2.2.1 rfl rfl ?_
  refine jx_getr jc_10 (j := 5) (by decide) rfl jwF_X10_36 kd463.2.2.2.1 hk6 hb7 ?_
  refine jx_geti jc_8 (j := 2) (by decide) rfl jwF_X10_284 kd463.2.2.2.2.1 hk8 ?_
  refine jx_topi (y := (ji S4 b7 2)) (by simp [ji_put, ji_row, ji_putr]) ?_
  refine jx_isub kd463.2.2.2.2.2.1 ?_
  exact jx_iret kd463.2.2.2.2.2.2.1 rfl rfl (jle rfl) (jle rfl) ⟨_, rfl, h⟩
set_option maxRecDepth 100000 in
set_option maxHeartbeats 4000000 in
theorem T_X10_textTold {E : jEnv} {d : Nat} {Q : Int32 → jM → Prop} {a0 : Nat} {x1 : Int32} {x2 : Int32} {S : jM} (h : jk S a0 = 10 ∧ ∃ b2, jr S a0 0 = some b2 ∧ (jk S b2 = 3 ∧ jFr E mX3_findText d 0 0 [.ref b2, .int x1] S (fun o5 S4 => (o5 = none → Q (-1000000001) S4) ∧ (∀ b6, o5 = some b6 → ((jwi x2 2) = 0 → Q (-1000000001) S4) ∧ (¬ (jwi x2 2) = 0 → (x2 = 0 → jk S4 b6 = 9 ∧ Q (ji S4 b6 0) S4) ∧ (¬ x2 = 0 → jk S4 b6 = 9 ∧ Q (ji S4 b6 1) S4)))))) : jFi E mX10_textTold (d + 1) 0 0 [.ref a0, .int x1, .int x2] S Q := by
  refine jF_of (by decide) (jle rfl) ?_
  refine jx_lv (lv1 := [(0, .ref a0), (1, .int x1), (2, .int x2)]) [0, 1, 2] rfl ?_
  refine jx_aload_n 0 kd466.1 rfl rfl ?_
  obtain ⟨hk1, h⟩ := h
  obtain ⟨b2, hb2, h⟩ := h
  refine jx_getr jc_10 (j := 0) (by decide) rfl jwF_X10_12 kd466.2.1 hk1 hb2 ?_
  refine jx_iload_n 1 kd466.2.2.1 rfl rfl ?_
  obtain ⟨hk3, h⟩ := h
  refine jx_callVr (M' := mX3_findText) (As := [.int x1]) jo_X3_findText jc_3 rfl jwM_X10_298 jwN_X3_findText jwX_X3_findText kd466.2.2.2.1 (jRok_m _ _ _) rfl (jle rfl) ⟨jle rfl, jle rfl⟩ hk3 h (fun o5 S4 h => ?_)
  rcases o5 with _ | b6
  · replace h := h.1 rfl
    refine jx_astore_nN (lv1 := [(3, .null), (0, .ref a0), (1, .int x1), (2, .int x2)]) kd466.2.2.2.2.1 rfl (by decide) rfl ?_
    refine jx_aload_nN 0 kd466.2.2.2.2.2.1 rfl rfl ?_
    refine jx_ifnullN (tgt := 21) kd466.2.2.2.2.2.2.1 (by decide) ?_
    refine jx_ldc jwC_X10_62 kd467.2.2.1 ?_
    exact jx_iret kd467.2.2.2.1 rfl rfl (jle rfl) (jle rfl) ⟨_, rfl, h⟩
  replace h := h.2 b6 rfl
  refine jx_astore_n (lv1 := [(3, .ref b6), (0, .ref a0), (1, .int x1), (2, .int x2)]) kd466.2.2.2.2.1 rfl (by decide) rfl ?_
  refine jx_aload_n 0 kd466.2.2.2.2.2.1 rfl rfl ?_
  refine jx_ifnull kd466.2.2.2.2.2.2.1 ?_
  refine jx_iload_n 3 kd466.2.2.2.2.2.2.2.1 rfl rfl ?_
  refine jx_iconst (v := 2) kd466.2.2.2.2.2.2.2.2.1 (by decide) ?_
  refine jx_callSi (M' := mX10_within) (As := [.int x2, .int 2]) jo_X10_within jwM_X10_58 jwS_X10_within kd467.1 (jRok_m _ _ _) rfl (jle rfl) ⟨jle rfl, jle rfl⟩ (c_X10_within (Q := fun v S' => v = (jwi x2 2) ∧ S4 = S') ⟨rfl, rfl⟩) (fun r7 S8 hq9 => ?_)
  obtain ⟨rfl, rfl⟩ := hq9
  refine jx_if_ne (tgt := 24) kd467.2.1 (by decide) (fun c10 => ?_) (fun c10 => ?_)
  · replace h := h.2 c10
    refine jx_iload_n 3 kd467.2.2.2.2.1 rfl rfl ?_
    refine jx_if_ne (tgt := 35) kd467.2.2.2.2.2.1 (by decide) (fun c11 => ?_) (fun c11 => ?_)
    · replace h := h.2 c11
      refine jx_aload_n 0 kd468.1 rfl rfl ?_
      obtain ⟨hk12, h⟩ := h
      refine jx_geti jc_9 (j := 1) (by decide) rfl jwF_X10_307 kd468.2.1 hk12 ?_
      exact jx_iret kd468.2.2.1 rfl rfl (jle rfl) (jle rfl) ⟨_, rfl, h⟩
    replace h := h.1 c11
    refine jx_aload_n 0 kd467.2.2.2.2.2.2.1 rfl rfl ?_
    obtain ⟨hk13, h⟩ := h
    refine jx_geti jc_9 (j := 0) (by decide) rfl jwF_X10_302 kd467.2.2.2.2.2.2.2.1 hk13 ?_
    refine jx_goto (tgt := 39) kd467.2.2.2.2.2.2.2.2.1 (by decide) ?_
    exact jx_iret kd468.2.2.1 rfl rfl (jle rfl) (jle rfl) ⟨_, rfl, h⟩
  replace h := h.1 c10
  refine jx_ldc jwC_X10_62 kd467.2.2.1 ?_
  exact jx_iret kd467.2.2.2.1 rfl rfl (jle rfl) (jle rfl) ⟨_, rfl, h⟩
set_option maxRecDepth 100000 in
set_option maxHeartbeats 4000000 in
theorem T_X10_why {E : jEnv} {d : Nat} {Q : Int32 → jM → Prop} {a0 : Nat} {x1 : Int32} {S : jM} (h : ((jwi x1 3) = 0 → Q (-1000000001) S) ∧ (¬ (jwi x1 3) = 0 → jk S a0 = 10 ∧ ∃ b6, jr S a0 0 = some b6 ∧ (jk S b6 = 3 ∧ jFi E mX3_numberOfLaw d 0 0 [.ref b6, .int x1] S (fun r9 S8 => (0 ≤ r9 → Q r9 S8) ∧ (¬ 0 ≤ r9 → Q (-1000000005) S8))))) : jFi E mX10_why (d + 1) 0 0 [.ref a0, .int x1] S Q := by
  refine jF_of (by decide) (jle rfl) ?_
  refine jx_lv (lv1 := [(0, .ref a0), (1, .int x1)]) [0, 1] rfl ?_
  refine jx_iload_n 1 kd469.1 rfl rfl ?_
  refine jx_iconst (v := 3) kd469.2.1 (by decide) ?_
  refine jx_callSi (M' := mX10_within) (As := [.int x1, .int 3]) jo_X10_within jwM_X10_58 jwS_X10_within kd469.2.2.1 (jRok_m _ _ _) rfl (jle rfl) ⟨jle rfl, jle rfl⟩ (c_X10_within (Q := fun v S' => v = (jwi x1 3) ∧ S = S') ⟨rfl, rfl⟩) (fun r1 S2 hq3 => ?_)
  obtain ⟨rfl, rfl⟩ := hq3
  refine jx_if_ne (tgt := 11) kd469.2.2.2.1 (by decide) (fun c4 => ?_) (fun c4 => ?_)
  · replace h := h.2 c4
    refine jx_aload_n 0 kd469.2.2.2.2.2.2.1 rfl rfl ?_
    obtain ⟨hk5, h⟩ := h
    obtain ⟨b6, hb6, h⟩ := h
    refine jx_getr jc_10 (j := 0) (by decide) rfl jwF_X10_12 kd469.2.2.2.2.2.2.2.1 hk5 hb6 ?_
    refine jx_iload_n 1 kd469.2.2.2.2.2.2.2.2.1 rfl rfl ?_
    obtain ⟨hk7, h⟩ := h
    refine jx_callVi (M' := mX3_numberOfLaw) (As := [.int x1]) jo_X3_numberOfLaw jc_3 rfl jwM_X10_310 jwN_X3_numberOfLaw jwX_X3_numberOfLaw kd470.1 (jRok_m _ _ _) rfl (jle rfl) ⟨jle rfl, jle rfl⟩ hk7 h (fun r9 S8 h => ?_)
    refine jx_istore_n (lv1 := [(2, .int r9), (0, .ref a0), (1, .int x1)]) kd470.2.1 rfl (by decide) rfl ?_
    refine jx_iload_n 0 kd470.2.2.1 rfl rfl ?_
    refine jx_if_ge (tgt := 29) kd470.2.2.2.1 (by decide) (fun c10 => ?_) (fun c10 => ?_)
    · replace h := h.1 c10
      refine jx_iload_n 0 kd470.2.2.2.2.2.2.1 rfl rfl ?_
      exact jx_iret kd470.2.2.2.2.2.2.2.1 rfl rfl (jle rfl) (jle rfl) ⟨_, rfl, h⟩
    replace h := h.2 c10
    refine jx_ldc jwC_X10_160 kd470.2.2.2.2.1 ?_
    refine jx_goto (tgt := 30) kd470.2.2.2.2.2.1 (by decide) ?_
    exact jx_iret kd470.2.2.2.2.2.2.2.1 rfl rfl (jle rfl) (jle rfl) ⟨_, rfl, h⟩
  replace h := h.1 c4
  refine jx_ldc jwC_X10_62 kd469.2.2.2.2.1 ?_
  exact jx_iret kd469.2.2.2.2.2.1 rfl rfl (jle rfl) (jle rfl) ⟨_, rfl, h⟩
set_option maxRecDepth 100000 in
set_option maxHeartbeats 4000000 in
theorem T_X10_sheet {E : jEnv} {d : Nat} {Q : Int32 → jM → Prop} {a0 : Nat} {x1 : Int32} {x2 : Int32} {x3 : Int32} {S : jM} (h : jk S a0 = 10 ∧ jFr E mX10_findSheet d 0 0 [.ref a0, .int x1] S (fun o3 S2 => (o3 = none → Q (-1000000001) S2) ∧ (∀ b4, o3 = some b4 → (x2 < (-1) → Q (-1000000001) S2) ∧ (¬ x2 < (-1) → (x2 ≤ 1 → (x2 = (-1) → jk S2 b4 = 6 ∧ jFv E mX6_begin d 0 0 [.ref b4, .int (-1), .int 0] S2 (fun S13 => Q 0 S13)) ∧ (¬ x2 = (-1) → (x3 ≤ 24 → (0 ≤ x3 → jk S2 b4 = 6 ∧ jFv E mX6_begin d 0 0 [.ref b4, .int x2, .int x3] S2 (fun S11 => Q x3 S11)) ∧ (¬ 0 ≤ x3 → Q (-1000000014) S2)) ∧ (¬ x3 ≤ 24 → Q (-1000000001) S2))) ∧ (¬ x2 ≤ 1 → Q (-1000000001) S2))))) : jFi E mX10_sheet (d + 1) 0 0 [.ref a0, .int x1, .int x2, .int x3] S Q := by
  refine jF_of (by decide) (jle rfl) ?_
  refine jx_lv (lv1 := [(0, .ref a0), (1, .int x1), (2, .int x2), (3, .int x3)]) [0, 1, 2, 3] rfl ?_
  refine jx_aload_n 0 kd471.1 rfl rfl ?_
  refine jx_iload_n 1 kd471.2.1 rfl rfl ?_
  obtain ⟨hk1, h⟩ := h
  refine jx_callVr (M' := mX10_findSheet) (As := [.int x1]) jo_X10_findSheet jc_10 rfl jwM_X10_257 jwN_X10_findSheet jwX_X10_findSheet kd471.2.2.1 (jRok_m _ _ _) rfl (jle rfl) ⟨jle rfl, jle rfl⟩ hk1 h (fun o3 S2 h => ?_)
  rcases o3 with _ | b4
  · replace h := h.1 rfl
    refine jx_astoreN (lv1 := [(4, .null), (0, .ref a0), (1, .int x1), (2, .int x2), (3, .int x3)]) kd471.2.2.2.1 (by decide) rfl ?_
    refine jx_aloadN 0 kd471.2.2.2.2.1 rfl ?_
    refine jx_ifnullN (tgt := 22) kd471.2.2.2.2.2.1 (by decide) ?_
    refine jx_ldc jwC_X10_62 kd472.2.2.2.1 ?_
    exact jx_iret kd472.2.2.2.2.1 rfl rfl (jle rfl) (jle rfl) ⟨_, rfl, h⟩
  replace h := h.2 b4 rfl
  refine jx_astore (lv1 := [(4, .ref b4), (0, .ref a0), (1, .int x1), (2, .int x2), (3, .int x3)]) kd471.2.2.2.1 (by decide) rfl ?_
  refine jx_aload 0 kd471.2.2.2.2.1 rfl ?_
  refine jx_ifnull kd471.2.2.2.2.2.1 ?_
  refine jx_iload_n 3 kd471.2.2.2.2.2.2.1 rfl rfl ?_
  refine jx_iconst (v := (-1)) kd471.2.2.2.2.2.2.2.1 (by decide) ?_
  refine jx_icmp_lt (tgt := 22) kd471.2.2.2.2.2.2.2.2.1 (by decide) (fun c5 => ?_) (fun c5 => ?_)
  · replace h := h.1 c5
    refine jx_ldc jwC_X10_62 kd472.2.2.2.1 ?_
    exact jx_iret kd472.2.2.2.2.1 rfl rfl (jle rfl) (jle rfl) ⟨_, rfl, h⟩
  replace h := h.2 c5
  refine jx_iload_n 3 kd472.1 rfl rfl ?_
  refine jx_iconst (v := 1) kd472.2.1 (by decide) ?_
  refine jx_icmp_le (tgt := 25) kd472.2.2.1 (by decide) (fun c6 => ?_) (fun c6 => ?_)
  · replace h := h.1 c6
    refine jx_iload_n 3 kd472.2.2.2.2.2.1 rfl rfl ?_
    refine jx_iconst (v := (-1)) kd472.2.2.2.2.2.2.1 (by decide) ?_
    refine jx_icmp_ne (tgt := 39) kd472.2.2.2.2.2.2.2.1 (by decide) (fun c7 => ?_) (fun c7 => ?_)
    · replace h := h.2 c7
      refine jx_iload_n 4 kd473.2.2.2.2.2.1 rfl rfl ?_
      refine jx_bipush (v := 24) kd473.2.2.2.2.2.2.1 (by decide) ?_
      refine jx_icmp_le (tgt := 48) kd473.2.2.2.2.2.2.2.1 (by decide) (fun c8 => ?_) (fun c8 => ?_)
      · replace h := h.1 c8
        refine jx_iload_n 4 kd474.2.1 rfl rfl ?_
        refine jx_if_ge (tgt := 56) kd474.2.2.1 (by decide) (fun c9 => ?_) (fun c9 => ?_)
        · replace h := h.1 c9
          refine jx_aload 0 kd474.2.2.2.2.2.1 rfl ?_
          refine jx_iload_n 3 kd474.2.2.2.2.2.2.1 rfl rfl ?_
          refine jx_iload_n 4 kd474.2.2.2.2.2.2.2.1 rfl rfl ?_
          obtain ⟨hk10, h⟩ := h
          refine jx_callVv (M' := mX6_begin) (As := [.int x2, .int x3]) jo_X6_begin jc_6 rfl jwM_X10_313 jwN_X6_begin jwX_X6_begin kd474.2.2.2.2.2.2.2.2.1 (jRok_m _ _ _) rfl (jle rfl) ⟨jle rfl, jle rfl⟩ hk10 h (fun S11 h => ?_)
          refine jx_iload_n 4 kd475.1 rfl rfl ?_
          exact jx_iret kd475.2.1 rfl rfl (jle rfl) (jle rfl) ⟨_, rfl, h⟩
        replace h := h.2 c9
        refine jx_ldcw jwC_X10_317 kd474.2.2.2.1 ?_
        exact jx_iret kd474.2.2.2.2.1 rfl rfl (jle rfl) (jle rfl) ⟨_, rfl, h⟩
      replace h := h.2 c8
      refine jx_ldc jwC_X10_62 kd473.2.2.2.2.2.2.2.2.1 ?_
      exact jx_iret kd474.1 rfl rfl (jle rfl) (jle rfl) ⟨_, rfl, h⟩
    replace h := h.1 c7
    refine jx_aload 0 kd472.2.2.2.2.2.2.2.2.1 rfl ?_
    refine jx_iconst (v := (-1)) kd473.1 (by decide) ?_
    refine jx_iconst (v := 0) kd473.2.1 (by decide) ?_
    obtain ⟨hk12, h⟩ := h
    refine jx_callVv (M' := mX6_begin) (As := [.int (-1), .int 0]) jo_X6_begin jc_6 rfl jwM_X10_313 jwN_X6_begin jwX_X6_begin kd473.2.2.1 (jRok_m _ _ _) rfl (jle rfl) ⟨jle rfl, jle rfl⟩ hk12 h (fun S13 h => ?_)
    refine jx_iconst (v := 0) kd473.2.2.2.1 (by decide) ?_
    exact jx_iret kd473.2.2.2.2.1 rfl rfl (jle rfl) (jle rfl) ⟨_, rfl, h⟩
  replace h := h.2 c6
  refine jx_ldc jwC_X10_62 kd472.2.2.2.1 ?_
  exact jx_iret kd472.2.2.2.2.1 rfl rfl (jle rfl) (jle rfl) ⟨_, rfl, h⟩
set_option maxRecDepth 100000 in
set_option maxHeartbeats 4000000 in
theorem T_X10_mark {E : jEnv} {d : Nat} {Q : Int32 → jM → Prop} {a0 : Nat} {x1 : Int32} {x2 : Int32} {x3 : Int32} {S : jM} (h : jk S a0 = 10 ∧ jFr E mX10_findSheet d 0 0 [.ref a0, .int x1] S (fun o3 S2 => (o3 = none → Q (-1000000001) S2) ∧ (∀ b4, o3 = some b4 → jk S2 b4 = 6 ∧ ((ji S2 b4 0) = (-1) → Q (-1000000011) S2) ∧ (¬ (ji S2 b4 0) = (-1) → jFi E mX6_hasPlace d 0 0 [.ref b4, .int x2] S2 (fun r8 S7 => (r8 = 0 → Q (-1000000013) S7) ∧ (¬ r8 = 0 → jk S7 b4 = 6 ∧ ((ji S7 b4 0) = 0 → (x3 = (-1000000005) → Q (-1000000012) S7) ∧ (¬ x3 = (-1000000005) → ∃ b22, jr S7 b4 2 = some b22 ∧ (jk S7 b22 = 12 ∧ vp_in x2 (jl S7 b22) ∧ (Q 1 (jput S7 b22 (Int32.toNatClampNeg x2) (Int16.toInt32 (Int32.toInt16 x3))))))) ∧ (¬ (ji S7 b4 0) = 0 → (x3 = (-1000000005) → ∃ b13, jr S7 b4 2 = some b13 ∧ (jk S7 b13 = 12 ∧ vp_in x2 (jl S7 b13) ∧ (Q 1 (jput S7 b13 (Int32.toNatClampNeg x2) x3)))) ∧ (¬ x3 = (-1000000005) → (x3 < (-99999) → Q (-1000000001) S7) ∧ (¬ x3 < (-99999) → (x3 ≤ 99999 → ∃ b18, jr S7 b4 2 = some b18 ∧ (jk S7 b18 = 12 ∧ vp_in x2 (jl S7 b18) ∧ (Q 1 (jput S7 b18 (Int32.toNatClampNeg x2) x3)))) ∧ (¬ x3 ≤ 99999 → Q (-1000000001) S7)))))))))) : jFi E mX10_mark (d + 1) 0 0 [.ref a0, .int x1, .int x2, .int x3] S Q := by
  refine jF_of (by decide) (jle rfl) ?_
  refine jx_lv (lv1 := [(0, .ref a0), (1, .int x1), (2, .int x2), (3, .int x3)]) [0, 1, 2, 3] rfl ?_
  refine jx_aload_n 0 kd476.1 rfl rfl ?_
  refine jx_iload_n 1 kd476.2.1 rfl rfl ?_
  obtain ⟨hk1, h⟩ := h
  refine jx_callVr (M' := mX10_findSheet) (As := [.int x1]) jo_X10_findSheet jc_10 rfl jwM_X10_257 jwN_X10_findSheet jwX_X10_findSheet kd476.2.2.1 (jRok_m _ _ _) rfl (jle rfl) ⟨jle rfl, jle rfl⟩ hk1 h (fun o3 S2 h => ?_)
  rcases o3 with _ | b4
  · replace h := h.1 rfl
    refine jx_astoreN (lv1 := [(4, .null), (0, .ref a0), (1, .int x1), (2, .int x2), (3, .int x3)]) kd476.2.2.2.1 (by decide) rfl ?_
    refine jx_aloadN 0 kd476.2.2.2.2.1 rfl ?_
    refine jx_ifnonnullN kd476.2.2.2.2.2.1 ?_
    refine jx_ldc jwC_X10_62 kd476.2.2.2.2.2.2.1 ?_
    exact jx_iret kd476.2.2.2.2.2.2.2.1 rfl rfl (jle rfl) (jle rfl) ⟨_, rfl, h⟩
  replace h := h.2 b4 rfl
  refine jx_astore (lv1 := [(4, .ref b4), (0, .ref a0), (1, .int x1), (2, .int x2), (3, .int x3)]) kd476.2.2.2.1 (by decide) rfl ?_
  refine jx_aload 0 kd476.2.2.2.2.1 rfl ?_
  refine jx_ifnonnull (tgt := 15) kd476.2.2.2.2.2.1 (by decide) ?_
  refine jx_aload 0 kd476.2.2.2.2.2.2.2.2.1 rfl ?_
  obtain ⟨hk5, h⟩ := h
  refine jx_geti jc_6 (j := 0) (by decide) rfl jwF_X10_261 kd477.1 hk5 ?_
  refine jx_iconst (v := (-1)) kd477.2.1 (by decide) ?_
  refine jx_icmp_ne (tgt := 28) kd477.2.2.1 (by decide) (fun c6 => ?_) (fun c6 => ?_)
  · replace h := h.2 c6
    refine jx_aload 0 kd477.2.2.2.2.2.1 rfl ?_
    refine jx_iload_n 3 kd477.2.2.2.2.2.2.1 rfl rfl ?_
    refine jx_callVi (M' := mX6_hasPlace) (As := [.int x2]) jo_X6_hasPlace jc_6 rfl jwM_X10_318 jwN_X6_hasPlace jwX_X6_hasPlace kd477.2.2.2.2.2.2.2.1 (jRok_m _ _ _) rfl (jle rfl) ⟨jle rfl, jle rfl⟩ hk5 h (fun r8 S7 h => ?_)
    refine jx_if_ne (tgt := 41) kd477.2.2.2.2.2.2.2.2.1 (by decide) (fun c9 => ?_) (fun c9 => ?_)
    · replace h := h.2 c9
      refine jx_aload 0 kd478.2.2.1 rfl ?_
      obtain ⟨hk10, h⟩ := h
      refine jx_geti jc_6 (j := 0) (by decide) rfl jwF_X10_261 kd478.2.2.2.1 hk10 ?_
      refine jx_if_ne (tgt := 69) kd478.2.2.2.2.1 (by decide) (fun c11 => ?_) (fun c11 => ?_)
      · replace h := h.2 c11
        refine jx_iload_n 4 kd480.1 rfl rfl ?_
        refine jx_ldc jwC_X10_160 kd480.2.1 ?_
        refine jx_icmp_eq (tgt := 92) kd480.2.2.1 (by decide) (fun c12 => ?_) (fun c12 => ?_)
        · replace h := h.1 c12
          refine jx_aload 0 kd481.2.2.1 rfl ?_
          obtain ⟨b13, hb13, h⟩ := h
          refine jx_getr jc_6 (j := 2) (by decide) rfl jwF_X10_322 kd481.2.2.2.1 hk10 hb13 ?_
          refine jx_iload_n 3 kd481.2.2.2.2.1 rfl rfl ?_
          refine jx_iload_n 4 kd481.2.2.2.2.2.1 rfl rfl ?_
          obtain ⟨hk14, h⟩ := h
          obtain ⟨hi15, h⟩ := h
          refine jx_iast kd481.2.2.2.2.2.2.1 hk14 hi15 ?_
          refine jx_iconst (v := 1) kd481.2.2.2.2.2.2.2.1 (by decide) ?_
          exact jx_iret kd481.2.2.2.2.2.2.2.2.1 rfl rfl (jle rfl) (jle rfl) ⟨_, rfl, h⟩
        replace h := h.2 c12
        refine jx_iload_n 4 kd480.2.2.2.1 rfl rfl ?_
        refine jx_ldcw jwC_X10_325 kd480.2.2.2.2.1 ?_
        refine jx_icmp_lt (tgt := 89) kd480.2.2.2.2.2.1 (by decide) (fun c16 => ?_) (fun c16 => ?_)
        · replace h := h.1 c16
          refine jx_ldc jwC_X10_62 kd481.1 ?_
          exact jx_iret kd481.2.1 rfl rfl (jle rfl) (jle rfl) ⟨_, rfl, h⟩
        replace h := h.2 c16
        refine jx_iload_n 4 kd480.2.2.2.2.2.2.1 rfl rfl ?_
        refine jx_ldcw jwC_X10_326 kd480.2.2.2.2.2.2.2.1 ?_
        refine jx_icmp_le (tgt := 92) kd480.2.2.2.2.2.2.2.2.1 (by decide) (fun c17 => ?_) (fun c17 => ?_)
        · replace h := h.1 c17
          refine jx_aload 0 kd481.2.2.1 rfl ?_
          obtain ⟨b18, hb18, h⟩ := h
          refine jx_getr jc_6 (j := 2) (by decide) rfl jwF_X10_322 kd481.2.2.2.1 hk10 hb18 ?_
          refine jx_iload_n 3 kd481.2.2.2.2.1 rfl rfl ?_
          refine jx_iload_n 4 kd481.2.2.2.2.2.1 rfl rfl ?_
          obtain ⟨hk19, h⟩ := h
          obtain ⟨hi20, h⟩ := h
          refine jx_iast kd481.2.2.2.2.2.2.1 hk19 hi20 ?_
          refine jx_iconst (v := 1) kd481.2.2.2.2.2.2.2.1 (by decide) ?_
          exact jx_iret kd481.2.2.2.2.2.2.2.2.1 rfl rfl (jle rfl) (jle rfl) ⟨_, rfl, h⟩
        replace h := h.2 c17
        refine jx_ldc jwC_X10_62 kd481.1 ?_
        exact jx_iret kd481.2.1 rfl rfl (jle rfl) (jle rfl) ⟨_, rfl, h⟩
      replace h := h.1 c11
      refine jx_iload_n 4 kd478.2.2.2.2.2.1 rfl rfl ?_
      refine jx_ldc jwC_X10_160 kd478.2.2.2.2.2.2.1 ?_
      refine jx_icmp_ne (tgt := 58) kd478.2.2.2.2.2.2.2.1 (by decide) (fun c21 => ?_) (fun c21 => ?_)
      · replace h := h.2 c21
        refine jx_aload 0 kd479.2.1 rfl ?_
        obtain ⟨b22, hb22, h⟩ := h
        refine jx_getr jc_6 (j := 2) (by decide) rfl jwF_X10_322 kd479.2.2.1 hk10 hb22 ?_
        refine jx_iload_n 3 kd479.2.2.2.1 rfl rfl ?_
        refine jx_iload_n 4 kd479.2.2.2.2.1 rfl rfl ?_
        refine jx_i2s kd479.2.2.2.2.2.1 ?_
        obtain ⟨hk23, h⟩ := h
        obtain ⟨hi24, h⟩ := h
        refine jx_iast kd479.2.2.2.2.2.2.1 hk23 hi24 ?_
        refine jx_iconst (v := 1) kd479.2.2.2.2.2.2.2.1 (by decide) ?_
        exact jx_iret kd479.2.2.2.2.2.2.2.2.1 rfl rfl (jle rfl) (jle rfl) ⟨_, rfl, h⟩
      replace h := h.1 c21
      refine jx_ldc jwC_X10_133 kd478.2.2.2.2.2.2.2.2.1 ?_
      exact jx_iret kd479.1 rfl rfl (jle rfl) (jle rfl) ⟨_, rfl, h⟩
    replace h := h.1 c9
    refine jx_ldcw jwC_X10_321 kd478.1 ?_
    exact jx_iret kd478.2.1 rfl rfl (jle rfl) (jle rfl) ⟨_, rfl, h⟩
  replace h := h.1 c6
  refine jx_ldcw jwC_X10_264 kd477.2.2.2.1 ?_
  exact jx_iret kd477.2.2.2.2.1 rfl rfl (jle rfl) (jle rfl) ⟨_, rfl, h⟩
/-- X10_pour at its loop's head 30 -/
abbrev L_X10_pour_30 (E : jEnv) (d : Nat) (Q : Int32 → jM → Prop) (a0 : Nat) (a2 : Nat) (x3 : Int32) (x4 : Int32) (S : jM) : Prop := jX E mX10_pour (jRm (d + 1) 0 0) (jZm E (fun r S' => ∃ v : Int32, r = some (.int v) ∧ Q v S') 0 0) 30 [(0, .ref a0), (2, .ref a2), (3, .int x3), (4, .int x4)] [] S 0 0
set_option maxRecDepth 100000 in
set_option maxHeartbeats 4000000 in
theorem T_X10_pour {E : jEnv} {d : Nat} {Q : Int32 → jM → Prop} {a0 : Nat} {x1 : Int32} {S : jM} (h : jk S a0 = 10 ∧ jFr E mX10_findSheet d 0 0 [.ref a0, .int x1] S (fun o3 S2 => (o3 = none → Q (-1000000001) S2) ∧ (∀ b4, o3 = some b4 → jk S2 b4 = 6 ∧ ((ji S2 b4 0) = (-1) → Q (-1000000011) S2) ∧ (¬ (ji S2 b4 0) = (-1) → L_X10_pour_30 E d Q a0 b4 0 0 S2)))) : jFi E mX10_pour (d + 1) 0 0 [.ref a0, .int x1] S Q := by
  refine jF_of (by decide) (jle rfl) ?_
  refine jx_lv (lv1 := [(0, .ref a0), (1, .int x1)]) [0, 1] rfl ?_
  refine jx_aload_n 0 kd482.1 rfl rfl ?_
  refine jx_iload_n 1 kd482.2.1 rfl rfl ?_
  obtain ⟨hk1, h⟩ := h
  refine jx_callVr (M' := mX10_findSheet) (As := [.int x1]) jo_X10_findSheet jc_10 rfl jwM_X10_257 jwN_X10_findSheet jwX_X10_findSheet kd482.2.2.1 (jRok_m _ _ _) rfl (jle rfl) ⟨jle rfl, jle rfl⟩ hk1 h (fun o3 S2 h => ?_)
  rcases o3 with _ | b4
  · replace h := h.1 rfl
    refine jx_astore_nN (lv1 := [(2, .null), (0, .ref a0), (1, .int x1)]) kd482.2.2.2.1 rfl (by decide) rfl ?_
    refine jx_aload_nN 0 kd482.2.2.2.2.1 rfl rfl ?_
    refine jx_ifnonnullN kd482.2.2.2.2.2.1 ?_
    refine jx_ldc jwC_X10_62 kd482.2.2.2.2.2.2.1 ?_
    exact jx_iret kd482.2.2.2.2.2.2.2.1 rfl rfl (jle rfl) (jle rfl) ⟨_, rfl, h⟩
  replace h := h.2 b4 rfl
  refine jx_astore_n (lv1 := [(2, .ref b4), (0, .ref a0), (1, .int x1)]) kd482.2.2.2.1 rfl (by decide) rfl ?_
  refine jx_aload_n 0 kd482.2.2.2.2.1 rfl rfl ?_
  refine jx_ifnonnull (tgt := 13) kd482.2.2.2.2.2.1 (by decide) ?_
  refine jx_aload_n 0 kd482.2.2.2.2.2.2.2.2.1 rfl rfl ?_
  obtain ⟨hk5, h⟩ := h
  refine jx_geti jc_6 (j := 0) (by decide) rfl jwF_X10_261 kd483.1 hk5 ?_
  refine jx_iconst (v := (-1)) kd483.2.1 (by decide) ?_
  refine jx_icmp_ne (tgt := 25) kd483.2.2.1 (by decide) (fun c6 => ?_) (fun c6 => ?_)
  · replace h := h.2 c6
    refine jx_iconst (v := 0) kd483.2.2.2.2.2.1 (by decide) ?_
    refine jx_istore_n (lv1 := [(3, .int 0), (2, .ref b4), (0, .ref a0), (1, .int x1)]) kd483.2.2.2.2.2.2.1 rfl (by decide) rfl ?_
    refine jx_iconst (v := 0) kd483.2.2.2.2.2.2.2.1 (by decide) ?_
    refine jx_istore (lv1 := [(4, .int 0), (3, .int 0), (2, .ref b4), (0, .ref a0), (1, .int x1)]) kd483.2.2.2.2.2.2.2.2.1 (by decide) rfl ?_
    exact jx_lv [3, 2, 1, 0] rfl h
  replace h := h.1 c6
  refine jx_ldcw jwC_X10_264 kd483.2.2.2.1 ?_
  exact jx_iret kd483.2.2.2.2.1 rfl rfl (jle rfl) (jle rfl) ⟨_, rfl, h⟩
set_option maxRecDepth 100000 in
set_option maxHeartbeats 4000000 in
theorem T_X10_pour_30 {E : jEnv} {d : Nat} {Q : Int32 → jM → Prop} {a0 : Nat} {a2 : Nat} {x3 : Int32} {x4 : Int32} {S : jM} (h : jk S a2 = 6 ∧ ((ji S a2 1) ≤ x4 → Q x3 S) ∧ (¬ (ji S a2 1) ≤ x4 → jk S a0 = 10 ∧ ∃ b10, jr S a0 0 = some b10 ∧ (jk S b10 = 3 ∧ ∃ b12, jr S b10 0 = some b12 ∧ (jk S b12 = 0 ∧ jFr E mX0_find d 0 0 [.ref b12, .int x4] S (fun o15 S14 => (o15 = none → L_X10_pour_30 E d Q a0 a2 x3 (x4 + 1) S14) ∧ (∀ b16, o15 = some b16 → jk S14 a2 = 6 ∧ jFi E mX6_isNumber d 0 0 [.ref a2, .int x4] S14 (fun r19 S18 => (r19 = 0 → L_X10_pour_30 E d Q a0 a2 x3 (x4 + 1) S18) ∧ (¬ r19 = 0 → jk S18 a2 = 6 ∧ ∃ b22, jr S18 a2 2 = some b22 ∧ (jk S18 b22 = 12 ∧ vp_in x4 (jl S18 b22) ∧ (jk S18 b16 = 2 ∧ ((jmax 0 (jmin 99 (ji S18 b22 (Int32.toNatClampNeg x4)))) = (ji S18 b16 4) → L_X10_pour_30 E d Q a0 a2 (x3 + 0) (x4 + 1) (jput S18 b16 4 (jmax 0 (jmin 99 (ji S18 b22 (Int32.toNatClampNeg x4)))))) ∧ (¬ (jmax 0 (jmin 99 (ji S18 b22 (Int32.toNatClampNeg x4)))) = (ji S18 b16 4) → L_X10_pour_30 E d Q a0 a2 (x3 + 1) (x4 + 1) (jput S18 b16 4 (jmax 0 (jmin 99 (ji S18 b22 (Int32.toNatClampNeg x4)))))))))))))))) : L_X10_pour_30 E d Q a0 a2 x3 x4 S := by
  show jX E mX10_pour (jRm (d + 1) 0 0) (jZm E (fun r S' => ∃ v : Int32, r = some (.int v) ∧ Q v S') 0 0) 30 [(0, .ref a0), (2, .ref a2), (3, .int x3), (4, .int x4)] [] S 0 0
  refine jx_iload 3 kd484.1 rfl ?_
  refine jx_aload_n 1 kd484.2.1 rfl rfl ?_
  obtain ⟨hk7, h⟩ := h
  refine jx_geti jc_6 (j := 1) (by decide) rfl jwF_X10_327 kd484.2.2.1 hk7 ?_
  refine jx_icmp_ge (tgt := 116) kd484.2.2.2.1 (by decide) (fun c8 => ?_) (fun c8 => ?_)
  · replace h := h.1 c8
    refine jx_iload_n 2 kd488.2.2.2.2.1 rfl rfl ?_
    exact jx_iret kd488.2.2.2.2.2.1 rfl rfl (jle rfl) (jle rfl) ⟨_, rfl, h⟩
  replace h := h.2 c8
  refine jx_aload_n 0 kd484.2.2.2.2.1 rfl rfl ?_
  obtain ⟨hk9, h⟩ := h
  obtain ⟨b10, hb10, h⟩ := h
  refine jx_getr jc_10 (j := 0) (by decide) rfl jwF_X10_12 kd484.2.2.2.2.2.1 hk9 hb10 ?_
  obtain ⟨hk11, h⟩ := h
  obtain ⟨b12, hb12, h⟩ := h
  refine jx_getr jc_3 (j := 0) (by decide) rfl jwF_X10_63 kd484.2.2.2.2.2.2.1 hk11 hb12 ?_
  refine jx_iload 3 kd484.2.2.2.2.2.2.2.1 rfl ?_
  obtain ⟨hk13, h⟩ := h
  refine jx_callVr (M' := mX0_find) (As := [.int x4]) jo_X0_find jc_0 rfl jwM_X10_75 jwN_X0_find jwX_X0_find kd484.2.2.2.2.2.2.2.2.1 (jRok_m _ _ _) rfl (jle rfl) ⟨jle rfl, jle rfl⟩ hk13 h (fun o15 S14 h => ?_)
  rcases o15 with _ | b16
  · replace h := h.1 rfl
    refine jx_astoreN (lv1 := [(5, .null), (0, .ref a0), (2, .ref a2), (3, .int x3), (4, .int x4)]) kd485.1 (by decide) rfl ?_
    refine jx_aloadN 0 kd485.2.1 rfl ?_
    refine jx_ifnullN (tgt := 110) kd485.2.2.1 (by decide) ?_
    refine jx_iinc 4 (v := (x4 + 1)) (lv1 := [(4, .int (x4 + 1)), (5, .null), (0, .ref a0), (2, .ref a2), (3, .int x3)]) kd488.2.2.1 rfl rfl (by decide) rfl ?_
    refine jx_goto (tgt := 30) kd488.2.2.2.1 (by decide) ?_
    exact jx_lv [2, 3, 4, 0] rfl h
  replace h := h.2 b16 rfl
  refine jx_astore (lv1 := [(5, .ref b16), (0, .ref a0), (2, .ref a2), (3, .int x3), (4, .int x4)]) kd485.1 (by decide) rfl ?_
  refine jx_aload 0 kd485.2.1 rfl ?_
  refine jx_ifnull kd485.2.2.1 ?_
  refine jx_aload_n 2 kd485.2.2.2.1 rfl rfl ?_
  refine jx_iload 4 kd485.2.2.2.2.1 rfl ?_
  obtain ⟨hk17, h⟩ := h
  refine jx_callVi (M' := mX6_isNumber) (As := [.int x4]) jo_X6_isNumber jc_6 rfl jwM_X10_328 jwN_X6_isNumber jwX_X6_isNumber kd485.2.2.2.2.2.1 (jRok_m _ _ _) rfl (jle rfl) ⟨jle rfl, jle rfl⟩ hk17 h (fun r19 S18 h => ?_)
  refine jx_if_eq (tgt := 110) kd485.2.2.2.2.2.2.1 (by decide) (fun c20 => ?_) (fun c20 => ?_)
  · replace h := h.1 c20
    refine jx_iinc 4 (v := (x4 + 1)) (lv1 := [(4, .int (x4 + 1)), (5, .ref b16), (0, .ref a0), (2, .ref a2), (3, .int x3)]) kd488.2.2.1 rfl rfl (by decide) rfl ?_
    refine jx_goto (tgt := 30) kd488.2.2.2.1 (by decide) ?_
    exact jx_lv [2, 3, 4, 0] rfl h
  replace h := h.2 c20
  refine jx_iconst (v := 0) kd485.2.2.2.2.2.2.2.1 (by decide) ?_
  refine jx_bipush (v := 99) kd485.2.2.2.2.2.2.2.2.1 (by decide) ?_
  refine jx_aload_n 2 kd486.1 rfl rfl ?_
  obtain ⟨hk21, h⟩ := h
  obtain ⟨b22, hb22, h⟩ := h
  refine jx_getr jc_6 (j := 2) (by decide) rfl jwF_X10_322 kd486.2.1 hk21 hb22 ?_
  refine jx_iload 4 kd486.2.2.1 rfl ?_
  obtain ⟨hk23, h⟩ := h
  obtain ⟨hi24, h⟩ := h
  refine jx_iald kd486.2.2.2.1 hk23 hi24 ?_
  refine jx_min jwM_X10_161 jwS_min jwZ_J9 jwO_min kd486.2.2.2.2.1 (jRok_m _ _ _) (jle rfl) ⟨Nat.zero_le _, Nat.zero_le _⟩ ?_
  refine jx_max jwM_X10_331 jwS_max jwZ_J9 jwO_max kd486.2.2.2.2.2.1 (jRok_m _ _ _) (jle rfl) ⟨Nat.zero_le _, Nat.zero_le _⟩ ?_
  refine jx_istore (lv1 := [(6, .int (jmax 0 (jmin 99 (ji S18 b22 (Int32.toNatClampNeg x4))))), (5, .ref b16), (0, .ref a0), (2, .ref a2), (3, .int x3), (4, .int x4)]) kd486.2.2.2.2.2.2.1 (by decide) rfl ?_
  refine jx_iload_n 4 kd486.2.2.2.2.2.2.2.1 rfl rfl ?_
  refine jx_iload 0 kd486.2.2.2.2.2.2.2.2.1 rfl ?_
  refine jx_aload 1 kd487.1 rfl ?_
  obtain ⟨hk25, h⟩ := h
  refine jx_geti jc_2 (j := 4) (by decide) rfl jwF_X10_97 kd487.2.1 hk25 ?_
  refine jx_icmp_ne (tgt := 100) kd487.2.2.1 (by decide) (fun c26 => ?_) (fun c26 => ?_)
  · replace h := h.2 c26
    refine jx_iconst (v := 1) kd487.2.2.2.2.2.1 (by decide) ?_
    refine jx_iadd kd487.2.2.2.2.2.2.1 ?_
    refine jx_istore_n (lv1 := [(3, .int (x3 + 1)), (6, .int (jmax 0 (jmin 99 (ji S18 b22 (Int32.toNatClampNeg x4))))), (5, .ref b16), (0, .ref a0), (2, .ref a2), (4, .int x4)]) kd487.2.2.2.2.2.2.2.1 rfl (by decide) rfl ?_
    refine jx_aload 2 kd487.2.2.2.2.2.2.2.2.1 rfl ?_
    refine jx_iload 1 kd488.1 rfl ?_
    refine jx_puti jc_2 (j := 4) (by decide) rfl jwF_X10_97 rfl rfl rfl kd488.2.1 hk25 ?_
    refine jx_iinc 5 (v := (x4 + 1)) (lv1 := [(4, .int (x4 + 1)), (3, .int (x3 + 1)), (6, .int (jmax 0 (jmin 99 (ji S18 b22 (Int32.toNatClampNeg x4))))), (5, .ref b16), (0, .ref a0), (2, .ref a2)]) kd488.2.2.1 rfl rfl (by decide) rfl ?_
    refine jx_goto (tgt := 30) kd488.2.2.2.1 (by decide) ?_
    exact jx_lv [4, 5, 1, 0] rfl h
  replace h := h.1 c26
  refine jx_iconst (v := 0) kd487.2.2.2.1 (by decide) ?_
  refine jx_goto (tgt := 101) kd487.2.2.2.2.1 (by decide) ?_
  refine jx_iadd kd487.2.2.2.2.2.2.1 ?_
  refine jx_istore_n (lv1 := [(3, .int (x3 + 0)), (6, .int (jmax 0 (jmin 99 (ji S18 b22 (Int32.toNatClampNeg x4))))), (5, .ref b16), (0, .ref a0), (2, .ref a2), (4, .int x4)]) kd487.2.2.2.2.2.2.2.1 rfl (by decide) rfl ?_
  refine jx_aload 2 kd487.2.2.2.2.2.2.2.2.1 rfl ?_
  refine jx_iload 1 kd488.1 rfl ?_
  refine jx_puti jc_2 (j := 4) (by decide) rfl jwF_X10_97 rfl rfl rfl kd488.2.1 hk25 ?_
  refine jx_iinc 5 (v := (x4 + 1)) (lv1 := [(4, .int (x4 + 1)), (3, .int (x3 + 0)), (6, .int (jmax 0 (jmin 99 (ji S18 b22 (Int32.toNatClampNeg x4))))), (5, .ref b16), (0, .ref a0), (2, .ref a2)]) kd488.2.2.1 rfl rfl (by decide) rfl ?_
  refine jx_goto (tgt := 30) kd488.2.2.2.1 (by decide) ?_
  exact jx_lv [4, 5, 1, 0] rfl h
/-- X10_reads at its loop's head 27 -/
abbrev L_X10_reads_27 (E : jEnv) (d : Nat) (Q : Int32 → jM → Prop) (a0 : Nat) (a2 : Nat) (x3 : Int32) (S : jM) : Prop := jX E mX10_reads (jRm (d + 1) 0 0) (jZm E (fun r S' => ∃ v : Int32, r = some (.int v) ∧ Q v S') 0 0) 27 [(0, .ref a0), (2, .ref a2), (3, .int x3)] [] S 0 0
set_option maxRecDepth 100000 in
set_option maxHeartbeats 4000000 in
theorem T_X10_reads {E : jEnv} {d : Nat} {Q : Int32 → jM → Prop} {a0 : Nat} {x1 : Int32} {S : jM} (h : jk S a0 = 10 ∧ jFr E mX10_findSheet d 0 0 [.ref a0, .int x1] S (fun o3 S2 => (o3 = none → Q (-1000000001) S2) ∧ (∀ b4, o3 = some b4 → jk S2 b4 = 6 ∧ ((ji S2 b4 0) = (-1) → Q (-1000000011) S2) ∧ (¬ (ji S2 b4 0) = (-1) → L_X10_reads_27 E d Q a0 b4 0 S2)))) : jFi E mX10_reads (d + 1) 0 0 [.ref a0, .int x1] S Q := by
  refine jF_of (by decide) (jle rfl) ?_
  refine jx_lv (lv1 := [(0, .ref a0), (1, .int x1)]) [0, 1] rfl ?_
  refine jx_aload_n 0 kd489.1 rfl rfl ?_
  refine jx_iload_n 1 kd489.2.1 rfl rfl ?_
  obtain ⟨hk1, h⟩ := h
  refine jx_callVr (M' := mX10_findSheet) (As := [.int x1]) jo_X10_findSheet jc_10 rfl jwM_X10_257 jwN_X10_findSheet jwX_X10_findSheet kd489.2.2.1 (jRok_m _ _ _) rfl (jle rfl) ⟨jle rfl, jle rfl⟩ hk1 h (fun o3 S2 h => ?_)
  rcases o3 with _ | b4
  · replace h := h.1 rfl
    refine jx_astore_nN (lv1 := [(2, .null), (0, .ref a0), (1, .int x1)]) kd489.2.2.2.1 rfl (by decide) rfl ?_
    refine jx_aload_nN 0 kd489.2.2.2.2.1 rfl rfl ?_
    refine jx_ifnonnullN kd489.2.2.2.2.2.1 ?_
    refine jx_ldc jwC_X10_62 kd489.2.2.2.2.2.2.1 ?_
    exact jx_iret kd489.2.2.2.2.2.2.2.1 rfl rfl (jle rfl) (jle rfl) ⟨_, rfl, h⟩
  replace h := h.2 b4 rfl
  refine jx_astore_n (lv1 := [(2, .ref b4), (0, .ref a0), (1, .int x1)]) kd489.2.2.2.1 rfl (by decide) rfl ?_
  refine jx_aload_n 0 kd489.2.2.2.2.1 rfl rfl ?_
  refine jx_ifnonnull (tgt := 13) kd489.2.2.2.2.2.1 (by decide) ?_
  refine jx_aload_n 0 kd489.2.2.2.2.2.2.2.2.1 rfl rfl ?_
  obtain ⟨hk5, h⟩ := h
  refine jx_geti jc_6 (j := 0) (by decide) rfl jwF_X10_261 kd490.1 hk5 ?_
  refine jx_iconst (v := (-1)) kd490.2.1 (by decide) ?_
  refine jx_icmp_ne (tgt := 25) kd490.2.2.1 (by decide) (fun c6 => ?_) (fun c6 => ?_)
  · replace h := h.2 c6
    refine jx_iconst (v := 0) kd490.2.2.2.2.2.1 (by decide) ?_
    refine jx_istore_n (lv1 := [(3, .int 0), (2, .ref b4), (0, .ref a0), (1, .int x1)]) kd490.2.2.2.2.2.2.1 rfl (by decide) rfl ?_
    exact jx_lv [2, 1, 0] rfl h
  replace h := h.1 c6
  refine jx_ldcw jwC_X10_264 kd490.2.2.2.1 ?_
  exact jx_iret kd490.2.2.2.2.1 rfl rfl (jle rfl) (jle rfl) ⟨_, rfl, h⟩
set_option maxRecDepth 100000 in
set_option maxHeartbeats 4000000 in
theorem T_X10_reads_27 {E : jEnv} {d : Nat} {Q : Int32 → jM → Prop} {a0 : Nat} {a2 : Nat} {x3 : Int32} {S : jM} (h : jk S a2 = 6 ∧ ((ji S a2 1) ≤ x3 → Q (-1000000005) S) ∧ (¬ (ji S a2 1) ≤ x3 → jk S a0 = 10 ∧ ∃ b10, jr S a0 0 = some b10 ∧ (jk S b10 = 3 ∧ ∃ b12, jr S b10 0 = some b12 ∧ (jk S b12 = 0 ∧ jFr E mX0_find d 0 0 [.ref b12, .int x3] S (fun o15 S14 => (o15 = none → jk S14 a2 = 6 ∧ jFi E mX6_isNumber d 0 0 [.ref a2, .int x3] S14 (fun r19 S18 => (r19 = 0 → L_X10_reads_27 E d Q a0 a2 (x3 + 1) S18) ∧ (¬ r19 = 0 → Q x3 S18))) ∧ (∀ b16, o15 = some b16 → jk S14 a2 = 6 ∧ jFi E mX6_isNumber d 0 0 [.ref a2, .int x3] S14 (fun r23 S22 => (r23 = 0 → L_X10_reads_27 E d Q a0 a2 (x3 + 1) S22) ∧ (¬ r23 = 0 → jk S22 a2 = 6 ∧ ∃ b26, jr S22 a2 2 = some b26 ∧ (jk S22 b26 = 12 ∧ vp_in x3 (jl S22 b26) ∧ (jk S22 b16 = 2 ∧ ((ji S22 b26 (Int32.toNatClampNeg x3)) = (ji S22 b16 5) → L_X10_reads_27 E d Q a0 a2 (x3 + 1) S22) ∧ (¬ (ji S22 b26 (Int32.toNatClampNeg x3)) = (ji S22 b16 5) → Q x3 S22))))))))))) : L_X10_reads_27 E d Q a0 a2 x3 S := by
  show jX E mX10_reads (jRm (d + 1) 0 0) (jZm E (fun r S' => ∃ v : Int32, r = some (.int v) ∧ Q v S') 0 0) 27 [(0, .ref a0), (2, .ref a2), (3, .int x3)] [] S 0 0
  refine jx_iload_n 2 kd490.2.2.2.2.2.2.2.1 rfl rfl ?_
  refine jx_aload_n 1 kd490.2.2.2.2.2.2.2.2.1 rfl rfl ?_
  obtain ⟨hk7, h⟩ := h
  refine jx_geti jc_6 (j := 1) (by decide) rfl jwF_X10_327 kd491.1 hk7 ?_
  refine jx_icmp_ge (tgt := 83) kd491.2.1 (by decide) (fun c8 => ?_) (fun c8 => ?_)
  · replace h := h.1 c8
    refine jx_ldc jwC_X10_160 kd493.2.2.2.2.2.2.2.1 ?_
    exact jx_iret kd493.2.2.2.2.2.2.2.2.1 rfl rfl (jle rfl) (jle rfl) ⟨_, rfl, h⟩
  replace h := h.2 c8
  refine jx_aload_n 0 kd491.2.2.1 rfl rfl ?_
  obtain ⟨hk9, h⟩ := h
  obtain ⟨b10, hb10, h⟩ := h
  refine jx_getr jc_10 (j := 0) (by decide) rfl jwF_X10_12 kd491.2.2.2.1 hk9 hb10 ?_
  obtain ⟨hk11, h⟩ := h
  obtain ⟨b12, hb12, h⟩ := h
  refine jx_getr jc_3 (j := 0) (by decide) rfl jwF_X10_63 kd491.2.2.2.2.1 hk11 hb12 ?_
  refine jx_iload_n 2 kd491.2.2.2.2.2.1 rfl rfl ?_
  obtain ⟨hk13, h⟩ := h
  refine jx_callVr (M' := mX0_find) (As := [.int x3]) jo_X0_find jc_0 rfl jwM_X10_75 jwN_X0_find jwX_X0_find kd491.2.2.2.2.2.2.1 (jRok_m _ _ _) rfl (jle rfl) ⟨jle rfl, jle rfl⟩ hk13 h (fun o15 S14 h => ?_)
  rcases o15 with _ | b16
  · replace h := h.1 rfl
    refine jx_astoreN (lv1 := [(4, .null), (0, .ref a0), (2, .ref a2), (3, .int x3)]) kd491.2.2.2.2.2.2.2.1 (by decide) rfl ?_
    refine jx_aload_n 2 kd491.2.2.2.2.2.2.2.2.1 rfl rfl ?_
    refine jx_iload_n 3 kd492.1 rfl rfl ?_
    obtain ⟨hk17, h⟩ := h
    refine jx_callVi (M' := mX6_isNumber) (As := [.int x3]) jo_X6_isNumber jc_6 rfl jwM_X10_328 jwN_X6_isNumber jwX_X6_isNumber kd492.2.1 (jRok_m _ _ _) rfl (jle rfl) ⟨jle rfl, jle rfl⟩ hk17 h (fun r19 S18 h => ?_)
    refine jx_if_eq (tgt := 77) kd492.2.2.1 (by decide) (fun c20 => ?_) (fun c20 => ?_)
    · replace h := h.1 c20
      refine jx_iinc 3 (v := (x3 + 1)) (lv1 := [(3, .int (x3 + 1)), (4, .null), (0, .ref a0), (2, .ref a2)]) kd493.2.2.2.2.2.1 rfl rfl (by decide) rfl ?_
      refine jx_goto (tgt := 27) kd493.2.2.2.2.2.2.1 (by decide) ?_
      exact jx_lv [2, 3, 0] rfl h
    replace h := h.2 c20
    refine jx_aloadN 0 kd492.2.2.2.1 rfl ?_
    refine jx_ifnullN (tgt := 75) kd492.2.2.2.2.1 (by decide) ?_
    refine jx_iload_n 3 kd493.2.2.2.1 rfl rfl ?_
    exact jx_iret kd493.2.2.2.2.1 rfl rfl (jle rfl) (jle rfl) ⟨_, rfl, h⟩
  replace h := h.2 b16 rfl
  refine jx_astore (lv1 := [(4, .ref b16), (0, .ref a0), (2, .ref a2), (3, .int x3)]) kd491.2.2.2.2.2.2.2.1 (by decide) rfl ?_
  refine jx_aload_n 2 kd491.2.2.2.2.2.2.2.2.1 rfl rfl ?_
  refine jx_iload_n 3 kd492.1 rfl rfl ?_
  obtain ⟨hk21, h⟩ := h
  refine jx_callVi (M' := mX6_isNumber) (As := [.int x3]) jo_X6_isNumber jc_6 rfl jwM_X10_328 jwN_X6_isNumber jwX_X6_isNumber kd492.2.1 (jRok_m _ _ _) rfl (jle rfl) ⟨jle rfl, jle rfl⟩ hk21 h (fun r23 S22 h => ?_)
  refine jx_if_eq (tgt := 77) kd492.2.2.1 (by decide) (fun c24 => ?_) (fun c24 => ?_)
  · replace h := h.1 c24
    refine jx_iinc 3 (v := (x3 + 1)) (lv1 := [(3, .int (x3 + 1)), (4, .ref b16), (0, .ref a0), (2, .ref a2)]) kd493.2.2.2.2.2.1 rfl rfl (by decide) rfl ?_
    refine jx_goto (tgt := 27) kd493.2.2.2.2.2.2.1 (by decide) ?_
    exact jx_lv [2, 3, 0] rfl h
  replace h := h.2 c24
  refine jx_aload 0 kd492.2.2.2.1 rfl ?_
  refine jx_ifnull kd492.2.2.2.2.1 ?_
  refine jx_aload_n 2 kd492.2.2.2.2.2.1 rfl rfl ?_
  obtain ⟨hk25, h⟩ := h
  obtain ⟨b26, hb26, h⟩ := h
  refine jx_getr jc_6 (j := 2) (by decide) rfl jwF_X10_322 kd492.2.2.2.2.2.2.1 hk25 hb26 ?_
  refine jx_iload_n 3 kd492.2.2.2.2.2.2.2.1 rfl rfl ?_
  obtain ⟨hk27, h⟩ := h
  obtain ⟨hi28, h⟩ := h
  refine jx_iald kd492.2.2.2.2.2.2.2.2.1 hk27 hi28 ?_
  refine jx_aload 0 kd493.1 rfl ?_
  obtain ⟨hk29, h⟩ := h
  refine jx_geti jc_2 (j := 5) (by decide) rfl jwF_X10_100 kd493.2.1 hk29 ?_
  refine jx_icmp_eq (tgt := 77) kd493.2.2.1 (by decide) (fun c30 => ?_) (fun c30 => ?_)
  · replace h := h.1 c30
    refine jx_iinc 3 (v := (x3 + 1)) (lv1 := [(3, .int (x3 + 1)), (4, .ref b16), (0, .ref a0), (2, .ref a2)]) kd493.2.2.2.2.2.1 rfl rfl (by decide) rfl ?_
    refine jx_goto (tgt := 27) kd493.2.2.2.2.2.2.1 (by decide) ?_
    exact jx_lv [2, 3, 0] rfl h
  replace h := h.2 c30
  refine jx_iload_n 3 kd493.2.2.2.1 rfl rfl ?_
  exact jx_iret kd493.2.2.2.2.1 rfl rfl (jle rfl) (jle rfl) ⟨_, rfl, h⟩
set_option maxRecDepth 100000 in
set_option maxHeartbeats 4000000 in
theorem T_X10_copy {E : jEnv} {d : Nat} {Q : Int32 → jM → Prop} {a0 : Nat} {x1 : Int32} {x2 : Int32} {x3 : Int32} {x4 : Int32} {x5 : Int32} {S : jM} (h : jk S a0 = 10 ∧ jFr E mX10_findSheet d 0 0 [.ref a0, .int x1] S (fun o3 S2 => (o3 = none → jk S2 a0 = 10 ∧ jFr E mX10_findSheet d 0 0 [.ref a0, .int x3] S2 (fun o7 S6 => (o7 = none → Q (-1000000001) S6) ∧ (∀ b8, o7 = some b8 → Q (-1000000001) S6))) ∧ (∀ b4, o3 = some b4 → jk S2 a0 = 10 ∧ jFr E mX10_findSheet d 0 0 [.ref a0, .int x3] S2 (fun o11 S10 => (o11 = none → Q (-1000000001) S10) ∧ (∀ b12, o11 = some b12 → jk S10 b4 = 6 ∧ ((ji S10 b4 0) = (-1) → Q (-1000000011) S10) ∧ (¬ (ji S10 b4 0) = (-1) → jk S10 b12 = 6 ∧ ((ji S10 b12 0) = (-1) → Q (-1000000011) S10) ∧ (¬ (ji S10 b12 0) = (-1) → ((ji S10 b4 0) = (ji S10 b12 0) → jFi E mX6_hasPlaces d 0 0 [.ref b4, .int x2, .int x5] S10 (fun r19 S18 => (r19 = 0 → Q (-1000000013) S18) ∧ (¬ r19 = 0 → jk S18 b12 = 6 ∧ jFi E mX6_hasPlaces d 0 0 [.ref b12, .int x4, .int x5] S18 (fun r23 S22 => (r23 = 0 → Q (-1000000013) S22) ∧ (¬ r23 = 0 → jk S22 b4 = 6 ∧ ∃ b26, jr S22 b4 2 = some b26 ∧ (jk S22 b12 = 6 ∧ ∃ b28, jr S22 b12 2 = some b28 ∧ (jk S22 b26 = 12 ∧ jk S22 b28 = 12 ∧ (¬ x2 < 0 ∧ ¬ x4 < 0 ∧ ¬ x5 < 0 ∧ (Int32.toNatClampNeg x2) + (Int32.toNatClampNeg x5) ≤ jl S22 b26 ∧ (Int32.toNatClampNeg x4) + (Int32.toNatClampNeg x5) ≤ jl S22 b28) ∧ (Q x5 (jrow S22 b28 (va_cpy (ji S22 b26) (ji S22 b28) (Int32.toNatClampNeg x2) (Int32.toNatClampNeg x4) (Int32.toNatClampNeg x5))))))))))) ∧ (¬ (ji S10 b4 0) = (ji S10 b12 0) → Q (-1000000012) S10)))))))) : jFi E mX10_copy (d + 1) 0 0 [.ref a0, .int x1, .int x2, .int x3, .int x4, .int x5] S Q := by
  refine jF_of (by decide) (jle rfl) ?_
  refine jx_lv (lv1 := [(0, .ref a0), (1, .int x1), (2, .int x2), (3, .int x3), (4, .int x4), (5, .int x5)]) [0, 1, 2, 3, 4, 5] rfl ?_
  refine jx_aload_n 0 kd494.1 rfl rfl ?_
  refine jx_iload_n 1 kd494.2.1 rfl rfl ?_
  obtain ⟨hk1, h⟩ := h
  refine jx_callVr (M' := mX10_findSheet) (As := [.int x1]) jo_X10_findSheet jc_10 rfl jwM_X10_257 jwN_X10_findSheet jwX_X10_findSheet kd494.2.2.1 (jRok_m _ _ _) rfl (jle rfl) ⟨jle rfl, jle rfl⟩ hk1 h (fun o3 S2 h => ?_)
  rcases o3 with _ | b4
  · replace h := h.1 rfl
    refine jx_astoreN (lv1 := [(6, .null), (0, .ref a0), (1, .int x1), (2, .int x2), (3, .int x3), (4, .int x4), (5, .int x5)]) kd494.2.2.2.1 (by decide) rfl ?_
    refine jx_aload_n 1 kd494.2.2.2.2.1 rfl rfl ?_
    refine jx_iload_n 4 kd494.2.2.2.2.2.1 rfl rfl ?_
    obtain ⟨hk5, h⟩ := h
    refine jx_callVr (M' := mX10_findSheet) (As := [.int x3]) jo_X10_findSheet jc_10 rfl jwM_X10_257 jwN_X10_findSheet jwX_X10_findSheet kd494.2.2.2.2.2.2.1 (jRok_m _ _ _) rfl (jle rfl) ⟨jle rfl, jle rfl⟩ hk5 h (fun o7 S6 h => ?_)
    rcases o7 with _ | b8
    · replace h := h.1 rfl
      refine jx_astoreN (lv1 := [(7, .null), (6, .null), (0, .ref a0), (1, .int x1), (2, .int x2), (3, .int x3), (4, .int x4), (5, .int x5)]) kd494.2.2.2.2.2.2.2.1 (by decide) rfl ?_
      refine jx_aloadN 1 kd494.2.2.2.2.2.2.2.2.1 rfl ?_
      refine jx_ifnullN (tgt := 24) kd495.1 (by decide) ?_
      refine jx_ldc jwC_X10_62 kd495.2.2.2.1 ?_
      exact jx_iret kd495.2.2.2.2.1 rfl rfl (jle rfl) (jle rfl) ⟨_, rfl, h⟩
    replace h := h.2 b8 rfl
    refine jx_astore (lv1 := [(7, .ref b8), (6, .null), (0, .ref a0), (1, .int x1), (2, .int x2), (3, .int x3), (4, .int x4), (5, .int x5)]) kd494.2.2.2.2.2.2.2.1 (by decide) rfl ?_
    refine jx_aloadN 1 kd494.2.2.2.2.2.2.2.2.1 rfl ?_
    refine jx_ifnullN (tgt := 24) kd495.1 (by decide) ?_
    refine jx_ldc jwC_X10_62 kd495.2.2.2.1 ?_
    exact jx_iret kd495.2.2.2.2.1 rfl rfl (jle rfl) (jle rfl) ⟨_, rfl, h⟩
  replace h := h.2 b4 rfl
  refine jx_astore (lv1 := [(6, .ref b4), (0, .ref a0), (1, .int x1), (2, .int x2), (3, .int x3), (4, .int x4), (5, .int x5)]) kd494.2.2.2.1 (by decide) rfl ?_
  refine jx_aload_n 1 kd494.2.2.2.2.1 rfl rfl ?_
  refine jx_iload_n 4 kd494.2.2.2.2.2.1 rfl rfl ?_
  obtain ⟨hk9, h⟩ := h
  refine jx_callVr (M' := mX10_findSheet) (As := [.int x3]) jo_X10_findSheet jc_10 rfl jwM_X10_257 jwN_X10_findSheet jwX_X10_findSheet kd494.2.2.2.2.2.2.1 (jRok_m _ _ _) rfl (jle rfl) ⟨jle rfl, jle rfl⟩ hk9 h (fun o11 S10 h => ?_)
  rcases o11 with _ | b12
  · replace h := h.1 rfl
    refine jx_astoreN (lv1 := [(7, .null), (6, .ref b4), (0, .ref a0), (1, .int x1), (2, .int x2), (3, .int x3), (4, .int x4), (5, .int x5)]) kd494.2.2.2.2.2.2.2.1 (by decide) rfl ?_
    refine jx_aload 1 kd494.2.2.2.2.2.2.2.2.1 rfl ?_
    refine jx_ifnull kd495.1 ?_
    refine jx_aloadN 0 kd495.2.1 rfl ?_
    refine jx_ifnonnullN kd495.2.2.1 ?_
    refine jx_ldc jwC_X10_62 kd495.2.2.2.1 ?_
    exact jx_iret kd495.2.2.2.2.1 rfl rfl (jle rfl) (jle rfl) ⟨_, rfl, h⟩
  replace h := h.2 b12 rfl
  refine jx_astore (lv1 := [(7, .ref b12), (6, .ref b4), (0, .ref a0), (1, .int x1), (2, .int x2), (3, .int x3), (4, .int x4), (5, .int x5)]) kd494.2.2.2.2.2.2.2.1 (by decide) rfl ?_
  refine jx_aload 1 kd494.2.2.2.2.2.2.2.2.1 rfl ?_
  refine jx_ifnull kd495.1 ?_
  refine jx_aload 0 kd495.2.1 rfl ?_
  refine jx_ifnonnull (tgt := 27) kd495.2.2.1 (by decide) ?_
  refine jx_aload 1 kd495.2.2.2.2.2.1 rfl ?_
  obtain ⟨hk13, h⟩ := h
  refine jx_geti jc_6 (j := 0) (by decide) rfl jwF_X10_261 kd495.2.2.2.2.2.2.1 hk13 ?_
  refine jx_iconst (v := (-1)) kd495.2.2.2.2.2.2.2.1 (by decide) ?_
  refine jx_icmp_eq (tgt := 45) kd495.2.2.2.2.2.2.2.2.1 (by decide) (fun c14 => ?_) (fun c14 => ?_)
  · replace h := h.1 c14
    refine jx_ldcw jwC_X10_264 kd496.2.2.2.2.1 ?_
    exact jx_iret kd496.2.2.2.2.2.1 rfl rfl (jle rfl) (jle rfl) ⟨_, rfl, h⟩
  replace h := h.2 c14
  refine jx_aload 0 kd496.1 rfl ?_
  obtain ⟨hk15, h⟩ := h
  refine jx_geti jc_6 (j := 0) (by decide) rfl jwF_X10_261 kd496.2.1 hk15 ?_
  refine jx_iconst (v := (-1)) kd496.2.2.1 (by decide) ?_
  refine jx_icmp_ne (tgt := 49) kd496.2.2.2.1 (by decide) (fun c16 => ?_) (fun c16 => ?_)
  · replace h := h.2 c16
    refine jx_aload 1 kd496.2.2.2.2.2.2.1 rfl ?_
    refine jx_geti jc_6 (j := 0) (by decide) rfl jwF_X10_261 kd496.2.2.2.2.2.2.2.1 hk13 ?_
    refine jx_aload 0 kd496.2.2.2.2.2.2.2.2.1 rfl ?_
    refine jx_geti jc_6 (j := 0) (by decide) rfl jwF_X10_261 kd497.1 hk15 ?_
    refine jx_icmp_eq (tgt := 65) kd497.2.1 (by decide) (fun c17 => ?_) (fun c17 => ?_)
    · replace h := h.1 c17
      refine jx_aload 1 kd497.2.2.2.2.1 rfl ?_
      refine jx_iload_n 4 kd497.2.2.2.2.2.1 rfl rfl ?_
      refine jx_iload 7 kd497.2.2.2.2.2.2.1 rfl ?_
      refine jx_callVi (M' := mX6_hasPlaces) (As := [.int x2, .int x5]) jo_X6_hasPlaces jc_6 rfl jwM_X10_334 jwN_X6_hasPlaces jwX_X6_hasPlaces kd497.2.2.2.2.2.2.2.1 (jRok_m _ _ _) rfl (jle rfl) ⟨jle rfl, jle rfl⟩ hk13 h (fun r19 S18 h => ?_)
      refine jx_if_eq (tgt := 88) kd497.2.2.2.2.2.2.2.2.1 (by decide) (fun c20 => ?_) (fun c20 => ?_)
      · replace h := h.1 c20
        refine jx_ldcw jwC_X10_321 kd498.2.2.2.2.2.1 ?_
        exact jx_iret kd498.2.2.2.2.2.2.1 rfl rfl (jle rfl) (jle rfl) ⟨_, rfl, h⟩
      replace h := h.2 c20
      refine jx_aload 0 kd498.1 rfl ?_
      refine jx_iload 6 kd498.2.1 rfl ?_
      refine jx_iload 7 kd498.2.2.1 rfl ?_
      obtain ⟨hk21, h⟩ := h
      refine jx_callVi (M' := mX6_hasPlaces) (As := [.int x4, .int x5]) jo_X6_hasPlaces jc_6 rfl jwM_X10_334 jwN_X6_hasPlaces jwX_X6_hasPlaces kd498.2.2.2.1 (jRok_m _ _ _) rfl (jle rfl) ⟨jle rfl, jle rfl⟩ hk21 h (fun r23 S22 h => ?_)
      refine jx_if_ne (tgt := 92) kd498.2.2.2.2.1 (by decide) (fun c24 => ?_) (fun c24 => ?_)
      · replace h := h.2 c24
        refine jx_aload 1 kd498.2.2.2.2.2.2.2.1 rfl ?_
        obtain ⟨hk25, h⟩ := h
        obtain ⟨b26, hb26, h⟩ := h
        refine jx_getr jc_6 (j := 2) (by decide) rfl jwF_X10_322 kd498.2.2.2.2.2.2.2.2.1 hk25 hb26 ?_
        refine jx_iload_n 4 kd499.1 rfl rfl ?_
        refine jx_aload 0 kd499.2.1 rfl ?_
        obtain ⟨hk27, h⟩ := h
        obtain ⟨b28, hb28, h⟩ := h
        refine jx_getr jc_6 (j := 2) (by decide) rfl jwF_X10_322 kd499.2.2.1 hk27 hb28 ?_
        refine jx_iload 6 kd499.2.2.2.1 rfl ?_
        refine jx_iload 7 kd499.2.2.2.2.1 rfl ?_
        obtain ⟨hk29, h⟩ := h
        obtain ⟨hk30, h⟩ := h
        obtain ⟨⟨hc31, hc32, hc33, hc34, hc35⟩, h⟩ := h
        refine jx_copy jwM_X10_337 jwV_copy jwS_copy jwZ_J10 kd499.2.2.2.2.2.1 (jRok_m _ _ _) (jle rfl) hk29 hk30 hc31 hc32 hc33 hc34 hc35 ?_
        refine jx_iload 7 kd499.2.2.2.2.2.2.1 rfl ?_
        exact jx_iret kd499.2.2.2.2.2.2.2.1 rfl rfl (jle rfl) (jle rfl) ⟨_, rfl, h⟩
      replace h := h.1 c24
      refine jx_ldcw jwC_X10_321 kd498.2.2.2.2.2.1 ?_
      exact jx_iret kd498.2.2.2.2.2.2.1 rfl rfl (jle rfl) (jle rfl) ⟨_, rfl, h⟩
    replace h := h.2 c17
    refine jx_ldc jwC_X10_133 kd497.2.2.1 ?_
    exact jx_iret kd497.2.2.2.1 rfl rfl (jle rfl) (jle rfl) ⟨_, rfl, h⟩
  replace h := h.1 c16
  refine jx_ldcw jwC_X10_264 kd496.2.2.2.2.1 ?_
  exact jx_iret kd496.2.2.2.2.2.1 rfl rfl (jle rfl) (jle rfl) ⟨_, rfl, h⟩
set_option maxRecDepth 100000 in
set_option maxHeartbeats 4000000 in
theorem T_X10_lay {E : jEnv} {d : Nat} {Q : Int32 → jM → Prop} {a0 : Nat} {x1 : Int32} {x2 : Int32} {x3 : Int32} {S : jM} (h : jk S a0 = 10 ∧ jFr E mX10_findSlot d 0 0 [.ref a0, .int x1] S (fun o3 S2 => (o3 = none → Q (-1000000001) S2) ∧ (∀ b4, o3 = some b4 → jk S2 b4 = 7 ∧ (x2 = 0 → Q (ji S2 b4 0) (jput S2 b4 0 0)) ∧ (x2 = 1 → jk S2 a0 = 10 ∧ jFi E mX10_layMaster d 0 0 [.ref a0, .ref b4, .int x3] S2 (fun r10 S9 => Q r10 S9)) ∧ (x2 = 2 → jk S2 a0 = 10 ∧ jFi E mX10_laySheet d 0 0 [.ref a0, .ref b4, .int x3] S2 (fun r14 S13 => Q r14 S13)) ∧ (x2 = 3 → Q (ji S2 b4 0) (jput (jput S2 b4 0 3) b4 3 x3)) ∧ (¬ x2 = 0 → ¬ x2 = 1 → ¬ x2 = 2 → ¬ x2 = 3 → Q (-1000000001) S2)))) : jFi E mX10_lay (d + 1) 0 0 [.ref a0, .int x1, .int x2, .int x3] S Q := by
  refine jF_of (by decide) (jle rfl) ?_
  refine jx_lv (lv1 := [(0, .ref a0), (1, .int x1), (2, .int x2), (3, .int x3)]) [0, 1, 2, 3] rfl ?_
  refine jx_aload_n 0 kd500.1 rfl rfl ?_
  refine jx_iload_n 1 kd500.2.1 rfl rfl ?_
  obtain ⟨hk1, h⟩ := h
  refine jx_callVr (M' := mX10_findSlot) (As := [.int x1]) jo_X10_findSlot jc_10 rfl jwM_X10_343 jwN_X10_findSlot jwX_X10_findSlot kd500.2.2.1 (jRok_m _ _ _) rfl (jle rfl) ⟨jle rfl, jle rfl⟩ hk1 h (fun o3 S2 h => ?_)
  rcases o3 with _ | b4
  · replace h := h.1 rfl
    refine jx_astoreN (lv1 := [(4, .null), (0, .ref a0), (1, .int x1), (2, .int x2), (3, .int x3)]) kd500.2.2.2.1 (by decide) rfl ?_
    refine jx_aloadN 0 kd500.2.2.2.2.1 rfl ?_
    refine jx_ifnonnullN kd500.2.2.2.2.2.1 ?_
    refine jx_ldc jwC_X10_62 kd500.2.2.2.2.2.2.1 ?_
    exact jx_iret kd500.2.2.2.2.2.2.2.1 rfl rfl (jle rfl) (jle rfl) ⟨_, rfl, h⟩
  replace h := h.2 b4 rfl
  refine jx_astore (lv1 := [(4, .ref b4), (0, .ref a0), (1, .int x1), (2, .int x2), (3, .int x3)]) kd500.2.2.2.1 (by decide) rfl ?_
  refine jx_aload 0 kd500.2.2.2.2.1 rfl ?_
  refine jx_ifnonnull (tgt := 15) kd500.2.2.2.2.2.1 (by decide) ?_
  refine jx_aload 0 kd500.2.2.2.2.2.2.2.2.1 rfl ?_
  obtain ⟨hk5, h⟩ := h
  refine jx_geti jc_7 (j := 0) (by decide) rfl jwF_X10_347 kd501.1 hk5 ?_
  refine jx_istore (lv1 := [(5, .int (ji S2 b4 0)), (4, .ref b4), (0, .ref a0), (1, .int x1), (2, .int x2), (3, .int x3)]) kd501.2.1 (by decide) rfl ?_
  refine jx_iload_n 4 kd501.2.2.1 rfl rfl ?_
  by_cases c6 : x2 = 0
  · replace h := h.1 c6
    refine jx_tableIn (v := 0) (tgt := 52) (off := 29) kd501.2.2.2.1 c6 (by decide) (by decide) (by decide) (by decide) ?_
    refine jx_aload 1 kd501.2.2.2.2.1 rfl ?_
    refine jx_iconst (v := 0) kd501.2.2.2.2.2.1 (by decide) ?_
    refine jx_puti jc_7 (j := 0) (by decide) rfl jwF_X10_347 rfl rfl rfl kd501.2.2.2.2.2.2.1 hk5 ?_
    refine jx_iload 0 kd501.2.2.2.2.2.2.2.1 rfl ?_
    exact jx_iret kd501.2.2.2.2.2.2.2.2.1 rfl rfl (jle rfl) (jle rfl) ⟨_, rfl, h⟩
  replace h := h.2
  by_cases c7 : x2 = 1
  · replace h := h.1 c7
    refine jx_tableIn (v := 1) (tgt := 61) (off := 38) kd501.2.2.2.1 c7 (by decide) (by decide) (by decide) (by decide) ?_
    refine jx_aload_n 2 kd502.1 rfl rfl ?_
    refine jx_aload 1 kd502.2.1 rfl ?_
    refine jx_iload_n 5 kd502.2.2.1 rfl rfl ?_
    obtain ⟨hk8, h⟩ := h
    refine jx_callVi (M' := mX10_layMaster) (As := [.ref b4, .int x3]) jo_X10_layMaster jc_10 rfl jwM_X10_350 jwN_X10_layMaster jwX_X10_layMaster kd502.2.2.2.1 (jRok_m _ _ _) rfl (jle rfl) ⟨jle rfl, jle rfl⟩ hk8 h (fun r10 S9 h => ?_)
    exact jx_iret kd502.2.2.2.2.1 rfl rfl (jle rfl) (jle rfl) ⟨_, rfl, h⟩
  replace h := h.2
  by_cases c11 : x2 = 2
  · replace h := h.1 c11
    refine jx_tableIn (v := 2) (tgt := 69) (off := 46) kd501.2.2.2.1 c11 (by decide) (by decide) (by decide) (by decide) ?_
    refine jx_aload_n 2 kd502.2.2.2.2.2.1 rfl rfl ?_
    refine jx_aload 1 kd502.2.2.2.2.2.2.1 rfl ?_
    refine jx_iload_n 5 kd502.2.2.2.2.2.2.2.1 rfl rfl ?_
    obtain ⟨hk12, h⟩ := h
    refine jx_callVi (M' := mX10_laySheet) (As := [.ref b4, .int x3]) jo_X10_laySheet jc_10 rfl jwM_X10_354 jwN_X10_laySheet jwX_X10_laySheet kd502.2.2.2.2.2.2.2.2.1 (jRok_m _ _ _) rfl (jle rfl) ⟨jle rfl, jle rfl⟩ hk12 h (fun r14 S13 h => ?_)
    exact jx_iret kd503.1 rfl rfl (jle rfl) (jle rfl) ⟨_, rfl, h⟩
  replace h := h.2
  by_cases c15 : x2 = 3
  · replace h := h.1 c15
    refine jx_tableIn (v := 3) (tgt := 77) (off := 54) kd501.2.2.2.1 c15 (by decide) (by decide) (by decide) (by decide) ?_
    refine jx_aload 1 kd503.2.1 rfl ?_
    refine jx_iconst (v := 3) kd503.2.2.1 (by decide) ?_
    refine jx_puti jc_7 (j := 0) (by decide) rfl jwF_X10_347 rfl rfl rfl kd503.2.2.2.1 hk5 ?_
    refine jx_aload 1 kd503.2.2.2.2.1 rfl ?_
    refine jx_iload_n 5 kd503.2.2.2.2.2.1 rfl rfl ?_
    refine jx_puti jc_7 (j := 3) (by decide) rfl jwF_X10_357 rfl rfl rfl kd503.2.2.2.2.2.2.1 hk5 ?_
    refine jx_iload 0 kd503.2.2.2.2.2.2.2.1 rfl ?_
    exact jx_iret kd503.2.2.2.2.2.2.2.2.1 rfl rfl (jle rfl) (jle rfl) ⟨_, rfl, h⟩
  replace h := h.2
  replace h := h c6 c7 c11 c15
  refine jx_tableD (tgt := 92) ([0, 1, 2, 3] : List Int) kd501.2.2.2.1 (by simp only [List.mem_cons, List.not_mem_nil, or_false, forall_eq_or_imp, forall_eq]; exact ⟨lv_neT c6 (by decide), lv_neT c7 (by decide), lv_neT c11 (by decide), lv_neT c15 (by decide)⟩) (by decide) (by decide) (by decide) ?_
  refine jx_ldc jwC_X10_62 kd504.1 ?_
  exact jx_iret kd504.2.1 rfl rfl (jle rfl) (jle rfl) ⟨_, rfl, h⟩
set_option maxRecDepth 100000 in
set_option maxHeartbeats 4000000 in
theorem T_X10_layMaster {E : jEnv} {d : Nat} {Q : Int32 → jM → Prop} {a0 : Nat} {a1 : Nat} {x2 : Int32} {S : jM} (h : jk S a0 = 10 ∧ ∃ b2, jr S a0 0 = some b2 ∧ (jk S b2 = 3 ∧ ∃ b4, jr S b2 0 = some b4 ∧ (jk S b4 = 0 ∧ jFr E mX0_find d 0 0 [.ref b4, .int x2] S (fun o7 S6 => (o7 = none → Q (-1000000001) S6) ∧ (∀ b8, o7 = some b8 → jk S6 a1 = 7 ∧ ∃ b10, jr S6 a1 1 = some b10 ∧ (jk S6 b10 = 2 ∧ jFv E mX2_become d 0 0 [.ref b10, .ref b8] (jput S6 a1 0 1) (fun S12 => Q (ji S6 a1 0) S12))))))) : jFi E mX10_layMaster (d + 1) 0 0 [.ref a0, .ref a1, .int x2] S Q := by
  refine jF_of (by decide) (jle rfl) ?_
  refine jx_lv (lv1 := [(0, .ref a0), (1, .ref a1), (2, .int x2)]) [0, 1, 2] rfl ?_
  refine jx_aload_n 0 kd505.1 rfl rfl ?_
  obtain ⟨hk1, h⟩ := h
  obtain ⟨b2, hb2, h⟩ := h
  refine jx_getr jc_10 (j := 0) (by decide) rfl jwF_X10_12 kd505.2.1 hk1 hb2 ?_
  obtain ⟨hk3, h⟩ := h
  obtain ⟨b4, hb4, h⟩ := h
  refine jx_getr jc_3 (j := 0) (by decide) rfl jwF_X10_63 kd505.2.2.1 hk3 hb4 ?_
  refine jx_iload_n 2 kd505.2.2.2.1 rfl rfl ?_
  obtain ⟨hk5, h⟩ := h
  refine jx_callVr (M' := mX0_find) (As := [.int x2]) jo_X0_find jc_0 rfl jwM_X10_75 jwN_X0_find jwX_X0_find kd505.2.2.2.2.1 (jRok_m _ _ _) rfl (jle rfl) ⟨jle rfl, jle rfl⟩ hk5 h (fun o7 S6 h => ?_)
  rcases o7 with _ | b8
  · replace h := h.1 rfl
    refine jx_astore_nN (lv1 := [(3, .null), (0, .ref a0), (1, .ref a1), (2, .int x2)]) kd505.2.2.2.2.2.1 rfl (by decide) rfl ?_
    refine jx_aload_nN 0 kd505.2.2.2.2.2.2.1 rfl rfl ?_
    refine jx_ifnonnullN kd505.2.2.2.2.2.2.2.1 ?_
    refine jx_ldc jwC_X10_62 kd505.2.2.2.2.2.2.2.2.1 ?_
    exact jx_iret kd506.1 rfl rfl (jle rfl) (jle rfl) ⟨_, rfl, h⟩
  replace h := h.2 b8 rfl
  refine jx_astore_n (lv1 := [(3, .ref b8), (0, .ref a0), (1, .ref a1), (2, .int x2)]) kd505.2.2.2.2.2.1 rfl (by decide) rfl ?_
  refine jx_aload_n 0 kd505.2.2.2.2.2.2.1 rfl rfl ?_
  refine jx_ifnonnull (tgt := 19) kd505.2.2.2.2.2.2.2.1 (by decide) ?_
  refine jx_aload_n 2 kd506.2.1 rfl rfl ?_
  obtain ⟨hk9, h⟩ := h
  refine jx_geti jc_7 (j := 0) (by decide) rfl jwF_X10_347 kd506.2.2.1 hk9 ?_
  refine jx_istore (lv1 := [(4, .int (ji S6 a1 0)), (3, .ref b8), (0, .ref a0), (1, .ref a1), (2, .int x2)]) kd506.2.2.2.1 (by decide) rfl ?_
  refine jx_aload_n 3 kd506.2.2.2.2.1 rfl rfl ?_
  refine jx_iconst (v := 1) kd506.2.2.2.2.2.1 (by decide) ?_
  refine jx_puti jc_7 (j := 0) (by decide) rfl jwF_X10_347 rfl rfl rfl kd506.2.2.2.2.2.2.1 hk9 ?_
  refine jx_aload_n 3 kd506.2.2.2.2.2.2.2.1 rfl rfl ?_
  obtain ⟨b10, hb10, h⟩ := h
  refine jx_getr jc_7 (j := 1) (by decide) rfl jwF_X10_360 kd506.2.2.2.2.2.2.2.2.1 hk9 hb10 ?_
  refine jx_aload_n 1 kd507.1 rfl rfl ?_
  obtain ⟨hk11, h⟩ := h
  refine jx_callVv (M' := mX2_become) (As := [.ref b8]) jo_X2_become jc_2 rfl jwM_X10_364 jwN_X2_become jwX_X2_become kd507.2.1 (jRok_m _ _ _) rfl (jle rfl) ⟨jle rfl, jle rfl⟩ hk11 h (fun S12 h => ?_)
  refine jx_iload 0 kd507.2.2.1 rfl ?_
  exact jx_iret kd507.2.2.2.1 rfl rfl (jle rfl) (jle rfl) ⟨_, rfl, h⟩
set_option maxRecDepth 100000 in
set_option maxHeartbeats 4000000 in
theorem T_X10_laySheet {E : jEnv} {d : Nat} {Q : Int32 → jM → Prop} {a0 : Nat} {a1 : Nat} {x2 : Int32} {S : jM} (h : jk S a0 = 10 ∧ jFr E mX10_findSheet d 0 0 [.ref a0, .int x2] S (fun o3 S2 => (o3 = none → Q (-1000000001) S2) ∧ (∀ b4, o3 = some b4 → jk S2 b4 = 6 ∧ ((ji S2 b4 0) = (-1) → Q (-1000000011) S2) ∧ (¬ (ji S2 b4 0) = (-1) → jk S2 a1 = 7 ∧ ∃ b8, jr S2 a1 2 = some b8 ∧ (jk S2 b8 = 6 ∧ jFv E mX6_become d 0 0 [.ref b8, .ref b4] (jput S2 a1 0 2) (fun S10 => Q (ji S2 a1 0) S10)))))) : jFi E mX10_laySheet (d + 1) 0 0 [.ref a0, .ref a1, .int x2] S Q := by
  refine jF_of (by decide) (jle rfl) ?_
  refine jx_lv (lv1 := [(0, .ref a0), (1, .ref a1), (2, .int x2)]) [0, 1, 2] rfl ?_
  refine jx_aload_n 0 kd508.1 rfl rfl ?_
  refine jx_iload_n 2 kd508.2.1 rfl rfl ?_
  obtain ⟨hk1, h⟩ := h
  refine jx_callVr (M' := mX10_findSheet) (As := [.int x2]) jo_X10_findSheet jc_10 rfl jwM_X10_257 jwN_X10_findSheet jwX_X10_findSheet kd508.2.2.1 (jRok_m _ _ _) rfl (jle rfl) ⟨jle rfl, jle rfl⟩ hk1 h (fun o3 S2 h => ?_)
  rcases o3 with _ | b4
  · replace h := h.1 rfl
    refine jx_astore_nN (lv1 := [(3, .null), (0, .ref a0), (1, .ref a1), (2, .int x2)]) kd508.2.2.2.1 rfl (by decide) rfl ?_
    refine jx_aload_nN 0 kd508.2.2.2.2.1 rfl rfl ?_
    refine jx_ifnonnullN kd508.2.2.2.2.2.1 ?_
    refine jx_ldc jwC_X10_62 kd508.2.2.2.2.2.2.1 ?_
    exact jx_iret kd508.2.2.2.2.2.2.2.1 rfl rfl (jle rfl) (jle rfl) ⟨_, rfl, h⟩
  replace h := h.2 b4 rfl
  refine jx_astore_n (lv1 := [(3, .ref b4), (0, .ref a0), (1, .ref a1), (2, .int x2)]) kd508.2.2.2.1 rfl (by decide) rfl ?_
  refine jx_aload_n 0 kd508.2.2.2.2.1 rfl rfl ?_
  refine jx_ifnonnull (tgt := 13) kd508.2.2.2.2.2.1 (by decide) ?_
  refine jx_aload_n 0 kd508.2.2.2.2.2.2.2.2.1 rfl rfl ?_
  obtain ⟨hk5, h⟩ := h
  refine jx_geti jc_6 (j := 0) (by decide) rfl jwF_X10_261 kd509.1 hk5 ?_
  refine jx_iconst (v := (-1)) kd509.2.1 (by decide) ?_
  refine jx_icmp_ne (tgt := 25) kd509.2.2.1 (by decide) (fun c6 => ?_) (fun c6 => ?_)
  · replace h := h.2 c6
    refine jx_aload_n 2 kd509.2.2.2.2.2.1 rfl rfl ?_
    obtain ⟨hk7, h⟩ := h
    refine jx_geti jc_7 (j := 0) (by decide) rfl jwF_X10_347 kd509.2.2.2.2.2.2.1 hk7 ?_
    refine jx_istore (lv1 := [(4, .int (ji S2 a1 0)), (3, .ref b4), (0, .ref a0), (1, .ref a1), (2, .int x2)]) kd509.2.2.2.2.2.2.2.1 (by decide) rfl ?_
    refine jx_aload_n 3 kd509.2.2.2.2.2.2.2.2.1 rfl rfl ?_
    refine jx_iconst (v := 2) kd510.1 (by decide) ?_
    refine jx_puti jc_7 (j := 0) (by decide) rfl jwF_X10_347 rfl rfl rfl kd510.2.1 hk7 ?_
    refine jx_aload_n 3 kd510.2.2.1 rfl rfl ?_
    obtain ⟨b8, hb8, h⟩ := h
    refine jx_getr jc_7 (j := 2) (by decide) rfl jwF_X10_367 kd510.2.2.2.1 hk7 hb8 ?_
    refine jx_aload_n 1 kd510.2.2.2.2.1 rfl rfl ?_
    obtain ⟨hk9, h⟩ := h
    refine jx_callVv (M' := mX6_become) (As := [.ref b4]) jo_X6_become jc_6 rfl jwM_X10_371 jwN_X6_become jwX_X6_become kd510.2.2.2.2.2.1 (jRok_m _ _ _) rfl (jle rfl) ⟨jle rfl, jle rfl⟩ hk9 h (fun S10 h => ?_)
    refine jx_iload 0 kd510.2.2.2.2.2.2.1 rfl ?_
    exact jx_iret kd510.2.2.2.2.2.2.2.1 rfl rfl (jle rfl) (jle rfl) ⟨_, rfl, h⟩
  replace h := h.1 c6
  refine jx_ldcw jwC_X10_264 kd509.2.2.2.1 ?_
  exact jx_iret kd509.2.2.2.2.1 rfl rfl (jle rfl) (jle rfl) ⟨_, rfl, h⟩
set_option maxRecDepth 100000 in
set_option maxHeartbeats 4000000 in
theorem T_X10_ask {E : jEnv} {d : Nat} {Q : Int32 → jM → Prop} {a0 : Nat} {x1 : Int32} {x2 : Int32} {S : jM} (h : jk S a0 = 10 ∧ jFr E mX10_findSlot d 0 0 [.ref a0, .int x1] S (fun o3 S2 => (o3 = none → Q (-1000000001) S2) ∧ (∀ b4, o3 = some b4 → ((jwi x2 6) = 0 → Q (-1000000001) S2) ∧ (¬ (jwi x2 6) = 0 → jk S2 b4 = 7 ∧ ((ji S2 b4 0) = 0 → Q (-1000000011) S2) ∧ (¬ (ji S2 b4 0) = 0 → ((ji S2 b4 0) = 1 → ∃ b12, jr S2 b4 1 = some b12 ∧ (jk S2 b12 = 2 ∧ jFi E mX2_isOf d 0 0 [.ref b12, .int x2] S2 (fun r15 S14 => (r15 = 0 → Q (-1000000012) S14) ∧ (¬ r15 = 0 → jk S14 b4 = 7 ∧ ∃ b18, jr S14 b4 1 = some b18 ∧ (jk S14 b18 = 2 ∧ jFi E mX2_worth d 0 0 [.ref b18] S14 (fun r21 S20 => Q r21 S20)))))) ∧ (¬ (ji S2 b4 0) = 1 → Q (-1000000012) S2)))))) : jFi E mX10_ask (d + 1) 0 0 [.ref a0, .int x1, .int x2] S Q := by
  refine jF_of (by decide) (jle rfl) ?_
  refine jx_lv (lv1 := [(0, .ref a0), (1, .int x1), (2, .int x2)]) [0, 1, 2] rfl ?_
  refine jx_aload_n 0 kd511.1 rfl rfl ?_
  refine jx_iload_n 1 kd511.2.1 rfl rfl ?_
  obtain ⟨hk1, h⟩ := h
  refine jx_callVr (M' := mX10_findSlot) (As := [.int x1]) jo_X10_findSlot jc_10 rfl jwM_X10_343 jwN_X10_findSlot jwX_X10_findSlot kd511.2.2.1 (jRok_m _ _ _) rfl (jle rfl) ⟨jle rfl, jle rfl⟩ hk1 h (fun o3 S2 h => ?_)
  rcases o3 with _ | b4
  · replace h := h.1 rfl
    refine jx_astore_nN (lv1 := [(3, .null), (0, .ref a0), (1, .int x1), (2, .int x2)]) kd511.2.2.2.1 rfl (by decide) rfl ?_
    refine jx_aload_nN 0 kd511.2.2.2.2.1 rfl rfl ?_
    refine jx_ifnullN (tgt := 19) kd511.2.2.2.2.2.1 (by decide) ?_
    refine jx_ldc jwC_X10_62 kd512.2.1 ?_
    exact jx_iret kd512.2.2.1 rfl rfl (jle rfl) (jle rfl) ⟨_, rfl, h⟩
  replace h := h.2 b4 rfl
  refine jx_astore_n (lv1 := [(3, .ref b4), (0, .ref a0), (1, .int x1), (2, .int x2)]) kd511.2.2.2.1 rfl (by decide) rfl ?_
  refine jx_aload_n 0 kd511.2.2.2.2.1 rfl rfl ?_
  refine jx_ifnull kd511.2.2.2.2.2.1 ?_
  refine jx_iload_n 3 kd511.2.2.2.2.2.2.1 rfl rfl ?_
  refine jx_bipush (v := 6) kd511.2.2.2.2.2.2.2.1 (by decide) ?_
  refine jx_callSi (M' := mX10_within) (As := [.int x2, .int 6]) jo_X10_within jwM_X10_58 jwS_X10_within kd511.2.2.2.2.2.2.2.2.1 (jRok_m _ _ _) rfl (jle rfl) ⟨jle rfl, jle rfl⟩ (c_X10_within (Q := fun v S' => v = (jwi x2 6) ∧ S2 = S') ⟨rfl, rfl⟩) (fun r5 S6 hq7 => ?_)
  obtain ⟨rfl, rfl⟩ := hq7
  refine jx_if_ne (tgt := 22) kd512.1 (by decide) (fun c8 => ?_) (fun c8 => ?_)
  · replace h := h.2 c8
    refine jx_aload_n 0 kd512.2.2.2.1 rfl rfl ?_
    obtain ⟨hk9, h⟩ := h
    refine jx_geti jc_7 (j := 0) (by decide) rfl jwF_X10_347 kd512.2.2.2.2.1 hk9 ?_
    refine jx_if_ne (tgt := 33) kd512.2.2.2.2.2.1 (by decide) (fun c10 => ?_) (fun c10 => ?_)
    · replace h := h.2 c10
      refine jx_aload_n 0 kd512.2.2.2.2.2.2.2.2.1 rfl rfl ?_
      refine jx_geti jc_7 (j := 0) (by decide) rfl jwF_X10_347 kd513.1 hk9 ?_
      refine jx_iconst (v := 1) kd513.2.1 (by decide) ?_
      refine jx_icmp_ne (tgt := 52) kd513.2.2.1 (by decide) (fun c11 => ?_) (fun c11 => ?_)
      · replace h := h.2 c11
        refine jx_ldc jwC_X10_133 kd513.2.2.2.2.2.2.2.2.1 ?_
        exact jx_iret kd514.1 rfl rfl (jle rfl) (jle rfl) ⟨_, rfl, h⟩
      replace h := h.1 c11
      refine jx_aload_n 0 kd513.2.2.2.1 rfl rfl ?_
      obtain ⟨b12, hb12, h⟩ := h
      refine jx_getr jc_7 (j := 1) (by decide) rfl jwF_X10_360 kd513.2.2.2.2.1 hk9 hb12 ?_
      refine jx_iload_n 3 kd513.2.2.2.2.2.1 rfl rfl ?_
      obtain ⟨hk13, h⟩ := h
      refine jx_callVi (M' := mX2_isOf) (As := [.int x2]) jo_X2_isOf jc_2 rfl jwM_X10_130 jwN_X2_isOf jwX_X2_isOf kd513.2.2.2.2.2.2.1 (jRok_m _ _ _) rfl (jle rfl) ⟨jle rfl, jle rfl⟩ hk13 h (fun r15 S14 h => ?_)
      refine jx_if_ne (tgt := 55) kd513.2.2.2.2.2.2.2.1 (by decide) (fun c16 => ?_) (fun c16 => ?_)
      · replace h := h.2 c16
        refine jx_aload_n 0 kd514.2.1 rfl rfl ?_
        obtain ⟨hk17, h⟩ := h
        obtain ⟨b18, hb18, h⟩ := h
        refine jx_getr jc_7 (j := 1) (by decide) rfl jwF_X10_360 kd514.2.2.1 hk17 hb18 ?_
        obtain ⟨hk19, h⟩ := h
        refine jx_callVi (M' := mX2_worth) (As := []) jo_X2_worth jc_2 rfl jwM_X10_126 jwN_X2_worth jwX_X2_worth kd514.2.2.2.1 (jRok_m _ _ _) rfl (jle rfl) ⟨jle rfl, jle rfl⟩ hk19 h (fun r21 S20 h => ?_)
        exact jx_iret kd514.2.2.2.2.1 rfl rfl (jle rfl) (jle rfl) ⟨_, rfl, h⟩
      replace h := h.1 c16
      refine jx_ldc jwC_X10_133 kd513.2.2.2.2.2.2.2.2.1 ?_
      exact jx_iret kd514.1 rfl rfl (jle rfl) (jle rfl) ⟨_, rfl, h⟩
    replace h := h.1 c10
    refine jx_ldcw jwC_X10_264 kd512.2.2.2.2.2.2.1 ?_
    exact jx_iret kd512.2.2.2.2.2.2.2.1 rfl rfl (jle rfl) (jle rfl) ⟨_, rfl, h⟩
  replace h := h.1 c8
  refine jx_ldc jwC_X10_62 kd512.2.1 ?_
  exact jx_iret kd512.2.2.1 rfl rfl (jle rfl) (jle rfl) ⟨_, rfl, h⟩
set_option maxRecDepth 100000 in
set_option maxHeartbeats 4000000 in
theorem T_X10_item {E : jEnv} {d : Nat} {Q : Int32 → jM → Prop} {a0 : Nat} {x1 : Int32} {x2 : Int32} {S : jM} (h : jk S a0 = 10 ∧ jFr E mX10_findSlot d 0 0 [.ref a0, .int x1] S (fun o3 S2 => (o3 = none → Q (-1000000001) S2) ∧ (∀ b4, o3 = some b4 → jk S2 b4 = 7 ∧ ((ji S2 b4 0) = 0 → Q (-1000000011) S2) ∧ (¬ (ji S2 b4 0) = 0 → ((ji S2 b4 0) = 2 → ∃ b8, jr S2 b4 2 = some b8 ∧ (jk S2 b8 = 6 ∧ jFi E mX6_hasPlace d 0 0 [.ref b8, .int x2] S2 (fun r11 S10 => (r11 = 0 → Q (-1000000013) S10) ∧ (¬ r11 = 0 → jk S10 b4 = 7 ∧ ∃ b14, jr S10 b4 2 = some b14 ∧ (jk S10 b14 = 6 ∧ jFi E mX6_isNumber d 0 0 [.ref b14, .int x2] S10 (fun r17 S16 => (r17 = 0 → Q (-1000000012) S16) ∧ (¬ r17 = 0 → jk S16 b4 = 7 ∧ ∃ b20, jr S16 b4 2 = some b20 ∧ (jk S16 b20 = 6 ∧ ∃ b22, jr S16 b20 2 = some b22 ∧ (jk S16 b22 = 12 ∧ vp_in x2 (jl S16 b22) ∧ (Q (ji S16 b22 (Int32.toNatClampNeg x2)) S16)))))))))) ∧ (¬ (ji S2 b4 0) = 2 → Q (-1000000012) S2))))) : jFi E mX10_item (d + 1) 0 0 [.ref a0, .int x1, .int x2] S Q := by
  refine jF_of (by decide) (jle rfl) ?_
  refine jx_lv (lv1 := [(0, .ref a0), (1, .int x1), (2, .int x2)]) [0, 1, 2] rfl ?_
  refine jx_aload_n 0 kd515.1 rfl rfl ?_
  refine jx_iload_n 1 kd515.2.1 rfl rfl ?_
  obtain ⟨hk1, h⟩ := h
  refine jx_callVr (M' := mX10_findSlot) (As := [.int x1]) jo_X10_findSlot jc_10 rfl jwM_X10_343 jwN_X10_findSlot jwX_X10_findSlot kd515.2.2.1 (jRok_m _ _ _) rfl (jle rfl) ⟨jle rfl, jle rfl⟩ hk1 h (fun o3 S2 h => ?_)
  rcases o3 with _ | b4
  · replace h := h.1 rfl
    refine jx_astore_nN (lv1 := [(3, .null), (0, .ref a0), (1, .int x1), (2, .int x2)]) kd515.2.2.2.1 rfl (by decide) rfl ?_
    refine jx_aload_nN 0 kd515.2.2.2.2.1 rfl rfl ?_
    refine jx_ifnonnullN kd515.2.2.2.2.2.1 ?_
    refine jx_ldc jwC_X10_62 kd515.2.2.2.2.2.2.1 ?_
    exact jx_iret kd515.2.2.2.2.2.2.2.1 rfl rfl (jle rfl) (jle rfl) ⟨_, rfl, h⟩
  replace h := h.2 b4 rfl
  refine jx_astore_n (lv1 := [(3, .ref b4), (0, .ref a0), (1, .int x1), (2, .int x2)]) kd515.2.2.2.1 rfl (by decide) rfl ?_
  refine jx_aload_n 0 kd515.2.2.2.2.1 rfl rfl ?_
  refine jx_ifnonnull (tgt := 13) kd515.2.2.2.2.2.1 (by decide) ?_
  refine jx_aload_n 0 kd515.2.2.2.2.2.2.2.2.1 rfl rfl ?_
  obtain ⟨hk5, h⟩ := h
  refine jx_geti jc_7 (j := 0) (by decide) rfl jwF_X10_347 kd516.1 hk5 ?_
  refine jx_if_ne (tgt := 24) kd516.2.1 (by decide) (fun c6 => ?_) (fun c6 => ?_)
  · replace h := h.2 c6
    refine jx_aload_n 0 kd516.2.2.2.2.1 rfl rfl ?_
    refine jx_geti jc_7 (j := 0) (by decide) rfl jwF_X10_347 kd516.2.2.2.2.2.1 hk5 ?_
    refine jx_iconst (v := 2) kd516.2.2.2.2.2.2.1 (by decide) ?_
    refine jx_icmp_eq (tgt := 35) kd516.2.2.2.2.2.2.2.1 (by decide) (fun c7 => ?_) (fun c7 => ?_)
    · replace h := h.1 c7
      refine jx_aload_n 0 kd517.2.1 rfl rfl ?_
      obtain ⟨b8, hb8, h⟩ := h
      refine jx_getr jc_7 (j := 2) (by decide) rfl jwF_X10_367 kd517.2.2.1 hk5 hb8 ?_
      refine jx_iload_n 3 kd517.2.2.2.1 rfl rfl ?_
      obtain ⟨hk9, h⟩ := h
      refine jx_callVi (M' := mX6_hasPlace) (As := [.int x2]) jo_X6_hasPlace jc_6 rfl jwM_X10_318 jwN_X6_hasPlace jwX_X6_hasPlace kd517.2.2.2.2.1 (jRok_m _ _ _) rfl (jle rfl) ⟨jle rfl, jle rfl⟩ hk9 h (fun r11 S10 h => ?_)
      refine jx_if_ne (tgt := 50) kd517.2.2.2.2.2.1 (by decide) (fun c12 => ?_) (fun c12 => ?_)
      · replace h := h.2 c12
        refine jx_aload_n 0 kd517.2.2.2.2.2.2.2.2.1 rfl rfl ?_
        obtain ⟨hk13, h⟩ := h
        obtain ⟨b14, hb14, h⟩ := h
        refine jx_getr jc_7 (j := 2) (by decide) rfl jwF_X10_367 kd518.1 hk13 hb14 ?_
        refine jx_iload_n 3 kd518.2.1 rfl rfl ?_
        obtain ⟨hk15, h⟩ := h
        refine jx_callVi (M' := mX6_isNumber) (As := [.int x2]) jo_X6_isNumber jc_6 rfl jwM_X10_328 jwN_X6_isNumber jwX_X6_isNumber kd518.2.2.1 (jRok_m _ _ _) rfl (jle rfl) ⟨jle rfl, jle rfl⟩ hk15 h (fun r17 S16 h => ?_)
        refine jx_if_eq (tgt := 73) kd518.2.2.2.1 (by decide) (fun c18 => ?_) (fun c18 => ?_)
        · replace h := h.1 c18
          refine jx_ldc jwC_X10_133 kd519.2.1 ?_
          exact jx_iret kd519.2.2.1 rfl rfl (jle rfl) (jle rfl) ⟨_, rfl, h⟩
        replace h := h.2 c18
        refine jx_aload_n 0 kd518.2.2.2.2.1 rfl rfl ?_
        obtain ⟨hk19, h⟩ := h
        obtain ⟨b20, hb20, h⟩ := h
        refine jx_getr jc_7 (j := 2) (by decide) rfl jwF_X10_367 kd518.2.2.2.2.2.1 hk19 hb20 ?_
        obtain ⟨hk21, h⟩ := h
        obtain ⟨b22, hb22, h⟩ := h
        refine jx_getr jc_6 (j := 2) (by decide) rfl jwF_X10_322 kd518.2.2.2.2.2.2.1 hk21 hb22 ?_
        refine jx_iload_n 3 kd518.2.2.2.2.2.2.2.1 rfl rfl ?_
        obtain ⟨hk23, h⟩ := h
        obtain ⟨hi24, h⟩ := h
        refine jx_iald kd518.2.2.2.2.2.2.2.2.1 hk23 hi24 ?_
        refine jx_goto (tgt := 75) kd519.1 (by decide) ?_
        exact jx_iret kd519.2.2.1 rfl rfl (jle rfl) (jle rfl) ⟨_, rfl, h⟩
      replace h := h.1 c12
      refine jx_ldcw jwC_X10_321 kd517.2.2.2.2.2.2.1 ?_
      exact jx_iret kd517.2.2.2.2.2.2.2.1 rfl rfl (jle rfl) (jle rfl) ⟨_, rfl, h⟩
    replace h := h.2 c7
    refine jx_ldc jwC_X10_133 kd516.2.2.2.2.2.2.2.2.1 ?_
    exact jx_iret kd517.1 rfl rfl (jle rfl) (jle rfl) ⟨_, rfl, h⟩
  replace h := h.1 c6
  refine jx_ldcw jwC_X10_264 kd516.2.2.1 ?_
  exact jx_iret kd516.2.2.2.1 rfl rfl (jle rfl) (jle rfl) ⟨_, rfl, h⟩
set_option maxRecDepth 100000 in
set_option maxHeartbeats 4000000 in
theorem T_X10_rest {E : jEnv} {d : Nat} {Q : Int32 → jM → Prop} {a0 : Nat} {x1 : Int32} {x2 : Int32} {S : jM} (h : jk S a0 = 10 ∧ jFr E mX10_findSlot d 0 0 [.ref a0, .int x1] S (fun o3 S2 => (o3 = none → Q (-1000000001) S2) ∧ (∀ b4, o3 = some b4 → jk S2 b4 = 7 ∧ ((ji S2 b4 0) = 0 → Q (-1000000011) S2) ∧ (¬ (ji S2 b4 0) = 0 → ((ji S2 b4 0) = 3 → (x2 = 0 → Q (-1000000002) S2) ∧ (¬ x2 = 0 → (¬ x2 = 0) ∧ (Q (jrem (ji S2 b4 3) x2) S2))) ∧ (¬ (ji S2 b4 0) = 3 → Q (-1000000012) S2))))) : jFi E mX10_rest (d + 1) 0 0 [.ref a0, .int x1, .int x2] S Q := by
  refine jF_of (by decide) (jle rfl) ?_
  refine jx_lv (lv1 := [(0, .ref a0), (1, .int x1), (2, .int x2)]) [0, 1, 2] rfl ?_
  refine jx_aload_n 0 kd520.1 rfl rfl ?_
  refine jx_iload_n 1 kd520.2.1 rfl rfl ?_
  obtain ⟨hk1, h⟩ := h
  refine jx_callVr (M' := mX10_findSlot) (As := [.int x1]) jo_X10_findSlot jc_10 rfl jwM_X10_343 jwN_X10_findSlot jwX_X10_findSlot kd520.2.2.1 (jRok_m _ _ _) rfl (jle rfl) ⟨jle rfl, jle rfl⟩ hk1 h (fun o3 S2 h => ?_)
  rcases o3 with _ | b4
  · replace h := h.1 rfl
    refine jx_astore_nN (lv1 := [(3, .null), (0, .ref a0), (1, .int x1), (2, .int x2)]) kd520.2.2.2.1 rfl (by decide) rfl ?_
    refine jx_aload_nN 0 kd520.2.2.2.2.1 rfl rfl ?_
    refine jx_ifnonnullN kd520.2.2.2.2.2.1 ?_
    refine jx_ldc jwC_X10_62 kd520.2.2.2.2.2.2.1 ?_
    exact jx_iret kd520.2.2.2.2.2.2.2.1 rfl rfl (jle rfl) (jle rfl) ⟨_, rfl, h⟩
  replace h := h.2 b4 rfl
  refine jx_astore_n (lv1 := [(3, .ref b4), (0, .ref a0), (1, .int x1), (2, .int x2)]) kd520.2.2.2.1 rfl (by decide) rfl ?_
  refine jx_aload_n 0 kd520.2.2.2.2.1 rfl rfl ?_
  refine jx_ifnonnull (tgt := 13) kd520.2.2.2.2.2.1 (by decide) ?_
  refine jx_aload_n 0 kd520.2.2.2.2.2.2.2.2.1 rfl rfl ?_
  obtain ⟨hk5, h⟩ := h
  refine jx_geti jc_7 (j := 0) (by decide) rfl jwF_X10_347 kd521.1 hk5 ?_
  refine jx_if_ne (tgt := 24) kd521.2.1 (by decide) (fun c6 => ?_) (fun c6 => ?_)
  · replace h := h.2 c6
    refine jx_aload_n 0 kd521.2.2.2.2.1 rfl rfl ?_
    refine jx_geti jc_7 (j := 0) (by decide) rfl jwF_X10_347 kd521.2.2.2.2.2.1 hk5 ?_
    refine jx_iconst (v := 3) kd521.2.2.2.2.2.2.1 (by decide) ?_
    refine jx_icmp_eq (tgt := 35) kd521.2.2.2.2.2.2.2.1 (by decide) (fun c7 => ?_) (fun c7 => ?_)
    · replace h := h.1 c7
      refine jx_iload_n 3 kd522.2.1 rfl rfl ?_
      refine jx_if_ne (tgt := 44) kd522.2.2.1 (by decide) (fun c8 => ?_) (fun c8 => ?_)
      · replace h := h.2 c8
        refine jx_aload_n 0 kd522.2.2.2.2.2.1 rfl rfl ?_
        refine jx_geti jc_7 (j := 3) (by decide) rfl jwF_X10_357 kd522.2.2.2.2.2.2.1 hk5 ?_
        refine jx_iload_n 3 kd522.2.2.2.2.2.2.2.1 rfl rfl ?_
        obtain ⟨hz9, h⟩ := h
        refine jx_irem kd522.2.2.2.2.2.2.2.2.1 hz9 ?_
        exact jx_iret kd523.1 rfl rfl (jle rfl) (jle rfl) ⟨_, rfl, h⟩
      replace h := h.1 c8
      refine jx_ldc jwC_X10_184 kd522.2.2.2.1 ?_
      refine jx_goto (tgt := 50) kd522.2.2.2.2.1 (by decide) ?_
      exact jx_iret kd523.1 rfl rfl (jle rfl) (jle rfl) ⟨_, rfl, h⟩
    replace h := h.2 c7
    refine jx_ldc jwC_X10_133 kd521.2.2.2.2.2.2.2.2.1 ?_
    exact jx_iret kd522.1 rfl rfl (jle rfl) (jle rfl) ⟨_, rfl, h⟩
  replace h := h.1 c6
  refine jx_ldcw jwC_X10_264 kd521.2.2.1 ?_
  exact jx_iret kd521.2.2.2.1 rfl rfl (jle rfl) (jle rfl) ⟨_, rfl, h⟩
set_option maxRecDepth 100000 in
set_option maxHeartbeats 4000000 in
theorem T_X10_tell {E : jEnv} {d : Nat} {Q : Int32 → jM → Prop} {a0 : Nat} {x1 : Int32} {S : jM} (h : jk S a0 = 10 ∧ ((jwi (ji S a0 9) 60) = 0 → Q (-1000000003) S) ∧ (¬ (jwi (ji S a0 9) 60) = 0 → ∃ b6, jr S a0 8 = some b6 ∧ (jk S b6 = 12 ∧ vp_in (ji S a0 9) (jl S b6) ∧ (Q ((ji S a0 9) + 1) (jput (jput S b6 (Int32.toNatClampNeg (ji S a0 9)) x1) a0 9 ((ji S a0 9) + 1)))))) : jFi E mX10_tell (d + 1) 0 0 [.ref a0, .int x1] S Q := by
  refine jF_of (by decide) (jle rfl) ?_
  refine jx_lv (lv1 := [(0, .ref a0), (1, .int x1)]) [0, 1] rfl ?_
  refine jx_aload_n 0 kd524.1 rfl rfl ?_
  obtain ⟨hk1, h⟩ := h
  refine jx_geti jc_10 (j := 9) (by decide) rfl jwF_X10_374 kd524.2.1 hk1 ?_
  refine jx_bipush (v := 60) kd524.2.2.1 (by decide) ?_
  refine jx_callSi (M' := mX10_within) (As := [.int (ji S a0 9), .int 60]) jo_X10_within jwM_X10_58 jwS_X10_within kd524.2.2.2.1 (jRok_m _ _ _) rfl (jle rfl) ⟨jle rfl, jle rfl⟩ (c_X10_within (Q := fun v S' => v = (jwi (ji S a0 9) 60) ∧ S = S') ⟨rfl, rfl⟩) (fun r2 S3 hq4 => ?_)
  obtain ⟨rfl, rfl⟩ := hq4
  refine jx_if_ne (tgt := 15) kd524.2.2.2.2.1 (by decide) (fun c5 => ?_) (fun c5 => ?_)
  · replace h := h.2 c5
    refine jx_aload_n 0 kd524.2.2.2.2.2.2.2.1 rfl rfl ?_
    obtain ⟨b6, hb6, h⟩ := h
    refine jx_getr jc_10 (j := 8) (by decide) rfl jwF_X10_52 kd524.2.2.2.2.2.2.2.2.1 hk1 hb6 ?_
    refine jx_aload_n 0 kd525.1 rfl rfl ?_
    refine jx_geti jc_10 (j := 9) (by decide) rfl jwF_X10_374 kd525.2.1 hk1 ?_
    refine jx_iload_n 1 kd525.2.2.1 rfl rfl ?_
    obtain ⟨hk7, h⟩ := h
    obtain ⟨hi8, h⟩ := h
    refine jx_iast kd525.2.2.2.1 hk7 hi8 ?_
    refine jx_aload_n 0 kd525.2.2.2.2.1 rfl rfl ?_
    refine jx_dup kd525.2.2.2.2.2.1 rfl ?_
    refine jx_geti jc_10 (j := 9) (by decide) rfl jwF_X10_374 kd525.2.2.2.2.2.2.1 hk1 ?_
    refine jx_topi (y := (ji S a0 9)) (by simp [ji_put, ji_row, ji_putr, jne hk1 hk7 (by decide)]) ?_
    refine jx_iconst (v := 1) kd525.2.2.2.2.2.2.2.1 (by decide) ?_
    refine jx_iadd kd525.2.2.2.2.2.2.2.2.1 ?_
    refine jx_puti jc_10 (j := 9) (by decide) rfl jwF_X10_374 rfl rfl rfl kd526.1 hk1 ?_
    refine jx_aload_n 0 kd526.2.1 rfl rfl ?_
    refine jx_geti jc_10 (j := 9) (by decide) rfl jwF_X10_374 kd526.2.2.1 hk1 ?_
    refine jx_topi (y := ((ji S a0 9) + 1)) (by simp [ji_put, ji_row, ji_putr]) ?_
    exact jx_iret kd526.2.2.2.1 rfl rfl (jle rfl) (jle rfl) ⟨_, rfl, h⟩
  replace h := h.1 c5
  refine jx_ldc jwC_X10_74 kd524.2.2.2.2.2.1 ?_
  exact jx_iret kd524.2.2.2.2.2.2.1 rfl rfl (jle rfl) (jle rfl) ⟨_, rfl, h⟩
/-- X10_check at its loop's head 50 -/
abbrev L_X10_check_50 (E : jEnv) (d : Nat) (Q : Int32 → jM → Prop) (a0 : Nat) (x1 : Int32) (x2 : Int32) (x3 : Int32) (S : jM) : Prop := jX E mX10_check (jRm (d + 1) 0 0) (jZm E (fun r S' => ∃ v : Int32, r = some (.int v) ∧ Q v S') 0 0) 50 [(0, .ref a0), (1, .int x1), (2, .int x2), (3, .int x3)] [] S 0 0
set_option maxRecDepth 100000 in
set_option maxHeartbeats 4000000 in
theorem T_X10_check {E : jEnv} {d : Nat} {Q : Int32 → jM → Prop} {a0 : Nat} {x1 : Int32} {S : jM} (h : jk S a0 = 10 ∧ (x1 < 1 → Q (-1000000001) (jput S a0 9 0)) ∧ (¬ x1 < 1 → (x1 ≤ 30 → ((ji S a0 2) = 0 → Q (-1000000002) (jput S a0 9 0)) ∧ (¬ (ji S a0 2) = 0 → ∃ b5, jr S a0 3 = some b5 ∧ (∃ b6, jr S a0 1 = some b6 ∧ (jk S b6 = 3 ∧ ∃ b8, jr S b6 0 = some b8 ∧ (jk S b5 = 0 ∧ jFv E mX0_become d 0 0 [.ref b5, .ref b8] (jput S a0 9 0) (fun S10 => L_X10_check_50 E d Q a0 x1 (ji S a0 9) 0 S10)))))) ∧ (¬ x1 ≤ 30 → Q (-1000000001) (jput S a0 9 0)))) : jFi E mX10_check (d + 1) 0 0 [.ref a0, .int x1] S Q := by
  refine jF_of (by decide) (jle rfl) ?_
  refine jx_lv (lv1 := [(0, .ref a0), (1, .int x1)]) [0, 1] rfl ?_
  refine jx_aload_n 0 kd527.1 rfl rfl ?_
  obtain ⟨hk1, h⟩ := h
  refine jx_geti jc_10 (j := 9) (by decide) rfl jwF_X10_374 kd527.2.1 hk1 ?_
  refine jx_istore_n (lv1 := [(2, .int (ji S a0 9)), (0, .ref a0), (1, .int x1)]) kd527.2.2.1 rfl (by decide) rfl ?_
  refine jx_aload_n 1 kd527.2.2.2.1 rfl rfl ?_
  refine jx_iconst (v := 0) kd527.2.2.2.2.1 (by decide) ?_
  refine jx_puti jc_10 (j := 9) (by decide) rfl jwF_X10_374 rfl rfl rfl kd527.2.2.2.2.2.1 hk1 ?_
  refine jx_iload_n 2 kd527.2.2.2.2.2.2.1 rfl rfl ?_
  refine jx_iconst (v := 1) kd527.2.2.2.2.2.2.2.1 (by decide) ?_
  refine jx_icmp_lt (tgt := 21) kd527.2.2.2.2.2.2.2.2.1 (by decide) (fun c2 => ?_) (fun c2 => ?_)
  · replace h := h.1 c2
    refine jx_ldc jwC_X10_62 kd528.2.2.2.1 ?_
    exact jx_iret kd528.2.2.2.2.1 rfl rfl (jle rfl) (jle rfl) ⟨_, rfl, h⟩
  replace h := h.2 c2
  refine jx_iload_n 2 kd528.1 rfl rfl ?_
  refine jx_bipush (v := 30) kd528.2.1 (by decide) ?_
  refine jx_icmp_le (tgt := 24) kd528.2.2.1 (by decide) (fun c3 => ?_) (fun c3 => ?_)
  · replace h := h.1 c3
    refine jx_aload_n 1 kd528.2.2.2.2.2.1 rfl rfl ?_
    refine jx_geti jc_10 (j := 2) (by decide) rfl jwF_X10_377 kd528.2.2.2.2.2.2.1 hk1 ?_
    refine jx_topi (y := (ji S a0 2)) (by simp [ji_put, ji_row, ji_putr]) ?_
    refine jx_if_ne (tgt := 34) kd528.2.2.2.2.2.2.2.1 (by decide) (fun c4 => ?_) (fun c4 => ?_)
    · replace h := h.2 c4
      refine jx_aload_n 1 kd529.2.1 rfl rfl ?_
      obtain ⟨b5, hb5, h⟩ := h
      refine jx_getr jc_10 (j := 3) (by decide) rfl jwF_X10_22 kd529.2.2.1 hk1 hb5 ?_
      refine jx_aload_n 1 kd529.2.2.2.1 rfl rfl ?_
      obtain ⟨b6, hb6, h⟩ := h
      refine jx_getr jc_10 (j := 1) (by decide) rfl jwF_X10_16 kd529.2.2.2.2.1 hk1 hb6 ?_
      obtain ⟨hk7, h⟩ := h
      obtain ⟨b8, hb8, h⟩ := h
      refine jx_getr jc_3 (j := 0) (by decide) rfl jwF_X10_63 kd529.2.2.2.2.2.1 hk7 hb8 ?_
      obtain ⟨hk9, h⟩ := h
      refine jx_callVv (M' := mX0_become) (As := [.ref b8]) jo_X0_become jc_0 rfl jwM_X10_250 jwN_X0_become jwX_X0_become kd529.2.2.2.2.2.2.1 (jRok_m _ _ _) rfl (jle rfl) ⟨jle rfl, jle rfl⟩ hk9 h (fun S10 h => ?_)
      refine jx_iconst (v := 0) kd529.2.2.2.2.2.2.2.1 (by decide) ?_
      refine jx_istore_n (lv1 := [(3, .int 0), (2, .int (ji S a0 9)), (0, .ref a0), (1, .int x1)]) kd529.2.2.2.2.2.2.2.2.1 rfl (by decide) rfl ?_
      exact jx_lv [2, 3, 1, 0] rfl h
    replace h := h.1 c4
    refine jx_ldc jwC_X10_184 kd528.2.2.2.2.2.2.2.2.1 ?_
    exact jx_iret kd529.1 rfl rfl (jle rfl) (jle rfl) ⟨_, rfl, h⟩
  replace h := h.2 c3
  refine jx_ldc jwC_X10_62 kd528.2.2.2.1 ?_
  exact jx_iret kd528.2.2.2.2.1 rfl rfl (jle rfl) (jle rfl) ⟨_, rfl, h⟩
set_option maxRecDepth 100000 in
set_option maxHeartbeats 4000000 in
theorem T_X10_check_50 {E : jEnv} {d : Nat} {Q : Int32 → jM → Prop} {a0 : Nat} {x1 : Int32} {x2 : Int32} {x3 : Int32} {S : jM} (h : (x1 ≤ x3 → (x2 = (2 * x1) → Q 0 S) ∧ (¬ x2 = (2 * x1) → Q (1 + (2 * x1)) S)) ∧ (¬ x1 ≤ x3 → jk S a0 = 10 ∧ ∃ b14, jr S a0 3 = some b14 ∧ (jk S b14 = 0 ∧ jFv E mX0_liveYear d 0 0 [.ref b14] S (fun S16 => jk S16 a0 = 10 ∧ ∃ b18, jr S16 a0 3 = some b18 ∧ (jk S16 b18 = 0 ∧ jFi E mX0_countDead d 0 0 [.ref b18] S16 (fun r21 S20 => jk S20 a0 = 10 ∧ jFi E mX10_isWaiting d 0 0 [.ref a0, .int (2 * x3), .int x2, .int r21] S20 (fun r24 S23 => (r24 = 0 → Q (1 + (2 * x3)) S23) ∧ (¬ r24 = 0 → jk S23 a0 = 10 ∧ ∃ b27, jr S23 a0 3 = some b27 ∧ (jk S23 b27 = 0 ∧ jFi E mX0_agesTogether d 0 0 [.ref b27] S23 (fun r30 S29 => jk S29 a0 = 10 ∧ jFi E mX10_isWaiting d 0 0 [.ref a0, .int ((2 * x3) + 1), .int x2, .int r30] S29 (fun r33 S32 => (r33 = 0 → Q (2 + (2 * x3)) S32) ∧ (¬ r33 = 0 → L_X10_check_50 E d Q a0 x1 x2 (x3 + 1) S32)))))))))))) : L_X10_check_50 E d Q a0 x1 x2 x3 S := by
  show jX E mX10_check (jRm (d + 1) 0 0) (jZm E (fun r S' => ∃ v : Int32, r = some (.int v) ∧ Q v S') 0 0) 50 [(0, .ref a0), (1, .int x1), (2, .int x2), (3, .int x3)] [] S 0 0
  refine jx_iload_n 3 kd530.1 rfl rfl ?_
  refine jx_iload_n 1 kd530.2.1 rfl rfl ?_
  refine jx_icmp_ge (tgt := 119) kd530.2.2.1 (by decide) (fun c11 => ?_) (fun c11 => ?_)
  · replace h := h.1 c11
    refine jx_iload_n 2 kd534.2.2.1 rfl rfl ?_
    refine jx_iconst (v := 2) kd534.2.2.2.1 (by decide) ?_
    refine jx_iload_n 1 kd534.2.2.2.2.1 rfl rfl ?_
    refine jx_imul kd534.2.2.2.2.2.1 ?_
    refine jx_icmp_ne (tgt := 130) kd534.2.2.2.2.2.2.1 (by decide) (fun c12 => ?_) (fun c12 => ?_)
    · replace h := h.2 c12
      refine jx_iconst (v := 1) kd535.1 (by decide) ?_
      refine jx_iconst (v := 2) kd535.2.1 (by decide) ?_
      refine jx_iload_n 1 kd535.2.2.1 rfl rfl ?_
      refine jx_imul kd535.2.2.2.1 ?_
      refine jx_iadd kd535.2.2.2.2.1 ?_
      exact jx_iret kd535.2.2.2.2.2.1 rfl rfl (jle rfl) (jle rfl) ⟨_, rfl, h⟩
    replace h := h.1 c12
    refine jx_iconst (v := 0) kd534.2.2.2.2.2.2.2.1 (by decide) ?_
    refine jx_goto (tgt := 135) kd534.2.2.2.2.2.2.2.2.1 (by decide) ?_
    exact jx_iret kd535.2.2.2.2.2.1 rfl rfl (jle rfl) (jle rfl) ⟨_, rfl, h⟩
  replace h := h.2 c11
  refine jx_aload_n 0 kd530.2.2.2.1 rfl rfl ?_
  obtain ⟨hk13, h⟩ := h
  obtain ⟨b14, hb14, h⟩ := h
  refine jx_getr jc_10 (j := 3) (by decide) rfl jwF_X10_22 kd530.2.2.2.2.1 hk13 hb14 ?_
  obtain ⟨hk15, h⟩ := h
  refine jx_callVv (M' := mX0_liveYear) (As := []) jo_X0_liveYear jc_0 rfl jwM_X10_380 jwN_X0_liveYear jwX_X0_liveYear kd530.2.2.2.2.2.1 (jRok_m _ _ _) rfl (jle rfl) ⟨jle rfl, jle rfl⟩ hk15 h (fun S16 h => ?_)
  refine jx_iconst (v := 2) kd530.2.2.2.2.2.2.1 (by decide) ?_
  refine jx_iload_n 3 kd530.2.2.2.2.2.2.2.1 rfl rfl ?_
  refine jx_imul kd530.2.2.2.2.2.2.2.2.1 ?_
  refine jx_istore (lv1 := [(4, .int (2 * x3)), (0, .ref a0), (1, .int x1), (2, .int x2), (3, .int x3)]) kd531.1 (by decide) rfl ?_
  refine jx_aload_n 1 kd531.2.1 rfl rfl ?_
  refine jx_iload 0 kd531.2.2.1 rfl ?_
  refine jx_iload_n 3 kd531.2.2.2.1 rfl rfl ?_
  refine jx_aload_n 1 kd531.2.2.2.2.1 rfl rfl ?_
  obtain ⟨hk17, h⟩ := h
  obtain ⟨b18, hb18, h⟩ := h
  refine jx_getr jc_10 (j := 3) (by decide) rfl jwF_X10_22 kd531.2.2.2.2.2.1 hk17 hb18 ?_
  obtain ⟨hk19, h⟩ := h
  refine jx_callVi (M' := mX0_countDead) (As := []) jo_X0_countDead jc_0 rfl jwM_X10_244 jwN_X0_countDead jwX_X0_countDead kd531.2.2.2.2.2.2.1 (jRok_m _ _ _) rfl (jle rfl) ⟨jle rfl, jle rfl⟩ hk19 h (fun r21 S20 h => ?_)
  obtain ⟨hk22, h⟩ := h
  refine jx_callVi (M' := mX10_isWaiting) (As := [.int (2 * x3), .int x2, .int r21]) jo_X10_isWaiting jc_10 rfl jwM_X10_383 jwN_X10_isWaiting jwX_X10_isWaiting kd531.2.2.2.2.2.2.2.1 (jRok_m _ _ _) rfl (jle rfl) ⟨jle rfl, jle rfl⟩ hk22 h (fun r24 S23 h => ?_)
  refine jx_if_ne (tgt := 89) kd531.2.2.2.2.2.2.2.2.1 (by decide) (fun c25 => ?_) (fun c25 => ?_)
  · replace h := h.2 c25
    refine jx_aload_n 1 kd532.2.2.2.2.1 rfl rfl ?_
    refine jx_iload 0 kd532.2.2.2.2.2.1 rfl ?_
    refine jx_iconst (v := 1) kd532.2.2.2.2.2.2.1 (by decide) ?_
    refine jx_iadd kd532.2.2.2.2.2.2.2.1 ?_
    refine jx_iload_n 3 kd532.2.2.2.2.2.2.2.2.1 rfl rfl ?_
    refine jx_aload_n 1 kd533.1 rfl rfl ?_
    obtain ⟨hk26, h⟩ := h
    obtain ⟨b27, hb27, h⟩ := h
    refine jx_getr jc_10 (j := 3) (by decide) rfl jwF_X10_22 kd533.2.1 hk26 hb27 ?_
    obtain ⟨hk28, h⟩ := h
    refine jx_callVi (M' := mX0_agesTogether) (As := []) jo_X0_agesTogether jc_0 rfl jwM_X10_387 jwN_X0_agesTogether jwX_X0_agesTogether kd533.2.2.1 (jRok_m _ _ _) rfl (jle rfl) ⟨jle rfl, jle rfl⟩ hk28 h (fun r30 S29 h => ?_)
    obtain ⟨hk31, h⟩ := h
    refine jx_callVi (M' := mX10_isWaiting) (As := [.int ((2 * x3) + 1), .int x2, .int r30]) jo_X10_isWaiting jc_10 rfl jwM_X10_383 jwN_X10_isWaiting jwX_X10_isWaiting kd533.2.2.2.1 (jRok_m _ _ _) rfl (jle rfl) ⟨jle rfl, jle rfl⟩ hk31 h (fun r33 S32 h => ?_)
    refine jx_if_ne (tgt := 113) kd533.2.2.2.2.1 (by decide) (fun c34 => ?_) (fun c34 => ?_)
    · replace h := h.2 c34
      refine jx_iinc 4 (v := (x3 + 1)) (lv1 := [(3, .int (x3 + 1)), (4, .int (2 * x3)), (0, .ref a0), (1, .int x1), (2, .int x2)]) kd534.1 rfl rfl (by decide) rfl ?_
      refine jx_goto (tgt := 50) kd534.2.1 (by decide) ?_
      exact jx_lv [2, 3, 4, 0] rfl h
    replace h := h.1 c34
    refine jx_iconst (v := 2) kd533.2.2.2.2.2.1 (by decide) ?_
    refine jx_iload 0 kd533.2.2.2.2.2.2.1 rfl ?_
    refine jx_iadd kd533.2.2.2.2.2.2.2.1 ?_
    exact jx_iret kd533.2.2.2.2.2.2.2.2.1 rfl rfl (jle rfl) (jle rfl) ⟨_, rfl, h⟩
  replace h := h.1 c25
  refine jx_iconst (v := 1) kd532.1 (by decide) ?_
  refine jx_iload 0 kd532.2.1 rfl ?_
  refine jx_iadd kd532.2.2.1 ?_
  exact jx_iret kd532.2.2.2.1 rfl rfl (jle rfl) (jle rfl) ⟨_, rfl, h⟩
set_option maxRecDepth 100000 in
set_option maxHeartbeats 4000000 in
theorem T_X10_isWaiting {E : jEnv} {d : Nat} {Q : Int32 → jM → Prop} {a0 : Nat} {x1 : Int32} {x2 : Int32} {x3 : Int32} {S : jM} (h : (x2 ≤ x1 → Q 0 S) ∧ (¬ x2 ≤ x1 → ((jwi x1 60) = 0 → Q 0 S) ∧ (¬ (jwi x1 60) = 0 → jk S a0 = 10 ∧ ∃ b7, jr S a0 8 = some b7 ∧ (jk S b7 = 12 ∧ vp_in x1 (jl S b7) ∧ (((ji S b7 (Int32.toNatClampNeg x1)) = x3 → Q 1 S) ∧ (¬ (ji S b7 (Int32.toNatClampNeg x1)) = x3 → Q 0 S)))))) : jFi E mX10_isWaiting (d + 1) 0 0 [.ref a0, .int x1, .int x2, .int x3] S Q := by
  refine jF_of (by decide) (jle rfl) ?_
  refine jx_lv (lv1 := [(0, .ref a0), (1, .int x1), (2, .int x2), (3, .int x3)]) [0, 1, 2, 3] rfl ?_
  refine jx_iload_n 1 kd536.1 rfl rfl ?_
  refine jx_iload_n 2 kd536.2.1 rfl rfl ?_
  refine jx_icmp_ge (tgt := 28) kd536.2.2.1 (by decide) (fun c1 => ?_) (fun c1 => ?_)
  · replace h := h.1 c1
    refine jx_iconst (v := 0) kd537.2.2.2.2.2.2.1 (by decide) ?_
    exact jx_iret kd537.2.2.2.2.2.2.2.1 rfl (by decide) (jle rfl) (jle rfl) ⟨_, rfl, h⟩
  replace h := h.2 c1
  refine jx_iload_n 1 kd536.2.2.2.1 rfl rfl ?_
  refine jx_bipush (v := 60) kd536.2.2.2.2.1 (by decide) ?_
  refine jx_callSi (M' := mX10_within) (As := [.int x1, .int 60]) jo_X10_within jwM_X10_58 jwS_X10_within kd536.2.2.2.2.2.1 (jRok_m _ _ _) rfl (jle rfl) ⟨jle rfl, jle rfl⟩ (c_X10_within (Q := fun v S' => v = (jwi x1 60) ∧ S = S') ⟨rfl, rfl⟩) (fun r2 S3 hq4 => ?_)
  obtain ⟨rfl, rfl⟩ := hq4
  refine jx_if_eq (tgt := 28) kd536.2.2.2.2.2.2.1 (by decide) (fun c5 => ?_) (fun c5 => ?_)
  · replace h := h.1 c5
    refine jx_iconst (v := 0) kd537.2.2.2.2.2.2.1 (by decide) ?_
    exact jx_iret kd537.2.2.2.2.2.2.2.1 rfl (by decide) (jle rfl) (jle rfl) ⟨_, rfl, h⟩
  replace h := h.2 c5
  refine jx_aload_n 0 kd536.2.2.2.2.2.2.2.1 rfl rfl ?_
  obtain ⟨hk6, h⟩ := h
  obtain ⟨b7, hb7, h⟩ := h
  refine jx_getr jc_10 (j := 8) (by decide) rfl jwF_X10_52 kd536.2.2.2.2.2.2.2.2.1 hk6 hb7 ?_
  refine jx_iload_n 1 kd537.1 rfl rfl ?_
  obtain ⟨hk8, h⟩ := h
  obtain ⟨hi9, h⟩ := h
  refine jx_iald kd537.2.1 hk8 hi9 ?_
  refine jx_iload_n 3 kd537.2.2.1 rfl rfl ?_
  refine jx_icmp_ne (tgt := 28) kd537.2.2.2.1 (by decide) (fun c10 => ?_) (fun c10 => ?_)
  · replace h := h.2 c10
    refine jx_iconst (v := 0) kd537.2.2.2.2.2.2.1 (by decide) ?_
    exact jx_iret kd537.2.2.2.2.2.2.2.1 rfl (by decide) (jle rfl) (jle rfl) ⟨_, rfl, h⟩
  replace h := h.1 c10
  refine jx_iconst (v := 1) kd537.2.2.2.2.1 (by decide) ?_
  refine jx_goto (tgt := 29) kd537.2.2.2.2.2.1 (by decide) ?_
  exact jx_iret kd537.2.2.2.2.2.2.2.1 rfl (by decide) (jle rfl) (jle rfl) ⟨_, rfl, h⟩
set_option maxRecDepth 100000 in
set_option maxHeartbeats 4000000 in
theorem T_X10_keep {E : jEnv} {d : Nat} {Q : Int32 → jM → Prop} {a0 : Nat} {S : jM} (h : jk S a0 = 10 ∧ ∃ b2, jr S a0 1 = some b2 ∧ (∃ b3, jr S a0 0 = some b3 ∧ (jk S b2 = 3 ∧ jFv E mX3_become d 0 0 [.ref b2, .ref b3] S (fun S5 => jk S5 a0 = 10 ∧ ∃ b7, jr S5 a0 1 = some b7 ∧ (jk S5 b7 = 3 ∧ ∃ b9, jr S5 b7 0 = some b9 ∧ (jk S5 b9 = 0 ∧ Q (ji S5 b9 1) (jput S5 a0 2 1))))))) : jFi E mX10_keep (d + 1) 0 0 [.ref a0] S Q := by
  refine jF_of (by decide) (jle rfl) ?_
  refine jx_lv (lv1 := [(0, .ref a0)]) [0] rfl ?_
  refine jx_aload_n 0 kd538.1 rfl rfl ?_
  obtain ⟨hk1, h⟩ := h
  obtain ⟨b2, hb2, h⟩ := h
  refine jx_getr jc_10 (j := 1) (by decide) rfl jwF_X10_16 kd538.2.1 hk1 hb2 ?_
  refine jx_aload_n 0 kd538.2.2.1 rfl rfl ?_
  obtain ⟨b3, hb3, h⟩ := h
  refine jx_getr jc_10 (j := 0) (by decide) rfl jwF_X10_12 kd538.2.2.2.1 hk1 hb3 ?_
  obtain ⟨hk4, h⟩ := h
  refine jx_callVv (M' := mX3_become) (As := [.ref b3]) jo_X3_become jc_3 rfl jwM_X10_390 jwN_X3_become jwX_X3_become kd538.2.2.2.2.1 (jRok_m _ _ _) rfl (jle rfl) ⟨jle rfl, jle rfl⟩ hk4 h (fun S5 h => ?_)
  refine jx_aload_n 0 kd538.2.2.2.2.2.1 rfl rfl ?_
  refine jx_iconst (v := 1) kd538.2.2.2.2.2.2.1 (by decide) ?_
  obtain ⟨hk6, h⟩ := h
  refine jx_puti jc_10 (j := 2) (by decide) rfl jwF_X10_377 rfl (by decide) (by decide) kd538.2.2.2.2.2.2.2.1 hk6 ?_
  refine jx_aload_n 0 kd538.2.2.2.2.2.2.2.2.1 rfl rfl ?_
  obtain ⟨b7, hb7, h⟩ := h
  refine jx_getr jc_10 (j := 1) (by decide) rfl jwF_X10_16 kd539.1 hk6 hb7 ?_
  obtain ⟨hk8, h⟩ := h
  obtain ⟨b9, hb9, h⟩ := h
  refine jx_getr jc_3 (j := 0) (by decide) rfl jwF_X10_63 kd539.2.1 hk8 hb9 ?_
  obtain ⟨hk10, h⟩ := h
  refine jx_geti jc_0 (j := 1) (by decide) rfl jwF_X10_66 kd539.2.2.1 hk10 ?_
  refine jx_topi (y := (ji S5 b9 1)) (by simp [ji_put, ji_row, ji_putr]) ?_
  exact jx_iret kd539.2.2.2.1 rfl rfl (jle rfl) (jle rfl) ⟨_, rfl, h⟩
set_option maxRecDepth 100000 in
set_option maxHeartbeats 4000000 in
theorem T_X10_back {E : jEnv} {d : Nat} {Q : Int32 → jM → Prop} {a0 : Nat} {S : jM} (h : jk S a0 = 10 ∧ ((ji S a0 2) = 0 → Q (-1000000002) S) ∧ (¬ (ji S a0 2) = 0 → ∃ b3, jr S a0 0 = some b3 ∧ (∃ b4, jr S a0 1 = some b4 ∧ (jk S b3 = 3 ∧ jFv E mX3_become d 0 0 [.ref b3, .ref b4] S (fun S6 => jk S6 a0 = 10 ∧ ∃ b8, jr S6 a0 0 = some b8 ∧ (jk S6 b8 = 3 ∧ ∃ b10, jr S6 b8 0 = some b10 ∧ (jk S6 b10 = 0 ∧ Q (ji S6 b10 1) S6))))))) : jFi E mX10_back (d + 1) 0 0 [.ref a0] S Q := by
  refine jF_of (by decide) (jle rfl) ?_
  refine jx_lv (lv1 := [(0, .ref a0)]) [0] rfl ?_
  refine jx_aload_n 0 kd540.1 rfl rfl ?_
  obtain ⟨hk1, h⟩ := h
  refine jx_geti jc_10 (j := 2) (by decide) rfl jwF_X10_377 kd540.2.1 hk1 ?_
  refine jx_if_ne (tgt := 10) kd540.2.2.1 (by decide) (fun c2 => ?_) (fun c2 => ?_)
  · replace h := h.2 c2
    refine jx_aload_n 0 kd540.2.2.2.2.2.1 rfl rfl ?_
    obtain ⟨b3, hb3, h⟩ := h
    refine jx_getr jc_10 (j := 0) (by decide) rfl jwF_X10_12 kd540.2.2.2.2.2.2.1 hk1 hb3 ?_
    refine jx_aload_n 0 kd540.2.2.2.2.2.2.2.1 rfl rfl ?_
    obtain ⟨b4, hb4, h⟩ := h
    refine jx_getr jc_10 (j := 1) (by decide) rfl jwF_X10_16 kd540.2.2.2.2.2.2.2.2.1 hk1 hb4 ?_
    obtain ⟨hk5, h⟩ := h
    refine jx_callVv (M' := mX3_become) (As := [.ref b4]) jo_X3_become jc_3 rfl jwM_X10_390 jwN_X3_become jwX_X3_become kd541.1 (jRok_m _ _ _) rfl (jle rfl) ⟨jle rfl, jle rfl⟩ hk5 h (fun S6 h => ?_)
    refine jx_aload_n 0 kd541.2.1 rfl rfl ?_
    obtain ⟨hk7, h⟩ := h
    obtain ⟨b8, hb8, h⟩ := h
    refine jx_getr jc_10 (j := 0) (by decide) rfl jwF_X10_12 kd541.2.2.1 hk7 hb8 ?_
    obtain ⟨hk9, h⟩ := h
    obtain ⟨b10, hb10, h⟩ := h
    refine jx_getr jc_3 (j := 0) (by decide) rfl jwF_X10_63 kd541.2.2.2.1 hk9 hb10 ?_
    obtain ⟨hk11, h⟩ := h
    refine jx_geti jc_0 (j := 1) (by decide) rfl jwF_X10_66 kd541.2.2.2.2.1 hk11 ?_
    exact jx_iret kd541.2.2.2.2.2.1 rfl rfl (jle rfl) (jle rfl) ⟨_, rfl, h⟩
  replace h := h.1 c2
  refine jx_ldc jwC_X10_184 kd540.2.2.2.1 ?_
  exact jx_iret kd540.2.2.2.2.1 rfl rfl (jle rfl) (jle rfl) ⟨_, rfl, h⟩
set_option maxRecDepth 100000 in
set_option maxHeartbeats 4000000 in
theorem T_X10_count {E : jEnv} {d : Nat} {Q : Int32 → jM → Prop} {a0 : Nat} {x1 : Int32} {S : jM} (h : (x1 = 0 → jk S a0 = 10 ∧ ∃ b3, jr S a0 0 = some b3 ∧ (jk S b3 = 3 ∧ ∃ b5, jr S b3 0 = some b5 ∧ (jk S b5 = 0 ∧ Q (ji S b5 1) S))) ∧ (x1 = 1 → jk S a0 = 10 ∧ ∃ b9, jr S a0 0 = some b9 ∧ (jk S b9 = 3 ∧ ∃ b11, jr S b9 0 = some b11 ∧ (jk S b11 = 0 ∧ jFi E mX0_countDead d 0 0 [.ref b11] S (fun r14 S13 => Q r14 S13)))) ∧ (x1 = 2 → jk S a0 = 10 ∧ ∃ b17, jr S a0 0 = some b17 ∧ (jk S b17 = 3 ∧ ∃ b19, jr S b17 2 = some b19 ∧ (jk S b19 = 1 ∧ Q (ji S b19 4) S))) ∧ (x1 = 3 → jk S a0 = 10 ∧ ∃ b23, jr S a0 0 = some b23 ∧ (jk S b23 = 3 ∧ ∃ b25, jr S b23 2 = some b25 ∧ (jk S b25 = 1 ∧ Q (jbc (ji S b25 1)) S))) ∧ (x1 = 4 → jk S a0 = 10 ∧ ∃ b32, jr S a0 0 = some b32 ∧ (jk S b32 = 3 ∧ Q (ji S b32 4) S)) ∧ (x1 = 5 → jk S a0 = 10 ∧ ∃ b36, jr S a0 0 = some b36 ∧ (jk S b36 = 3 ∧ jFi E mX3_canMakeChair d 0 0 [.ref b36] S (fun r39 S38 => (r39 = 0 → Q 0 S38) ∧ (¬ r39 = 0 → Q 1 S38)))) ∧ (x1 = 6 → jk S a0 = 10 ∧ ∃ b43, jr S a0 0 = some b43 ∧ (jk S b43 = 3 ∧ Q (ji S b43 6) S)) ∧ (x1 = 7 → jk S a0 = 10 ∧ Q (ji S a0 9) S) ∧ (x1 = 8 → jk S a0 = 10 ∧ ∃ b49, jr S a0 5 = some b49 ∧ (jk S b49 = 8 ∧ Q (ji S b49 1) S)) ∧ (x1 = 9 → jk S a0 = 10 ∧ ∃ b53, jr S a0 0 = some b53 ∧ (jk S b53 = 3 ∧ ∃ b55, jr S b53 0 = some b55 ∧ (jk S b55 = 0 ∧ Q (ji S b55 2) S))) ∧ (¬ x1 = 0 → ¬ x1 = 1 → ¬ x1 = 2 → ¬ x1 = 3 → ¬ x1 = 4 → ¬ x1 = 5 → ¬ x1 = 6 → ¬ x1 = 7 → ¬ x1 = 8 → ¬ x1 = 9 → Q (-1000000001) S)) : jFi E mX10_count (d + 1) 0 0 [.ref a0, .int x1] S Q := by
  refine jF_of (by decide) (jle rfl) ?_
  refine jx_lv (lv1 := [(0, .ref a0), (1, .int x1)]) [0, 1] rfl ?_
  refine jx_iload_n 1 kd542.1 rfl rfl ?_
  by_cases c1 : x1 = 0
  · replace h := h.1 c1
    refine jx_tableIn (v := 0) (tgt := 56) (off := 55) kd542.2.1 c1 (by decide) (by decide) (by decide) (by decide) ?_
    refine jx_aload_n 0 kd542.2.2.1 rfl rfl ?_
    obtain ⟨hk2, h⟩ := h
    obtain ⟨b3, hb3, h⟩ := h
    refine jx_getr jc_10 (j := 0) (by decide) rfl jwF_X10_12 kd542.2.2.2.1 hk2 hb3 ?_
    obtain ⟨hk4, h⟩ := h
    obtain ⟨b5, hb5, h⟩ := h
    refine jx_getr jc_3 (j := 0) (by decide) rfl jwF_X10_63 kd542.2.2.2.2.1 hk4 hb5 ?_
    obtain ⟨hk6, h⟩ := h
    refine jx_geti jc_0 (j := 1) (by decide) rfl jwF_X10_66 kd542.2.2.2.2.2.1 hk6 ?_
    exact jx_iret kd542.2.2.2.2.2.2.1 rfl rfl (jle rfl) (jle rfl) ⟨_, rfl, h⟩
  replace h := h.2
  by_cases c7 : x1 = 1
  · replace h := h.1 c7
    refine jx_tableIn (v := 1) (tgt := 67) (off := 66) kd542.2.1 c7 (by decide) (by decide) (by decide) (by decide) ?_
    refine jx_aload_n 0 kd542.2.2.2.2.2.2.2.1 rfl rfl ?_
    obtain ⟨hk8, h⟩ := h
    obtain ⟨b9, hb9, h⟩ := h
    refine jx_getr jc_10 (j := 0) (by decide) rfl jwF_X10_12 kd542.2.2.2.2.2.2.2.2.1 hk8 hb9 ?_
    obtain ⟨hk10, h⟩ := h
    obtain ⟨b11, hb11, h⟩ := h
    refine jx_getr jc_3 (j := 0) (by decide) rfl jwF_X10_63 kd543.1 hk10 hb11 ?_
    obtain ⟨hk12, h⟩ := h
    refine jx_callVi (M' := mX0_countDead) (As := []) jo_X0_countDead jc_0 rfl jwM_X10_244 jwN_X0_countDead jwX_X0_countDead kd543.2.1 (jRok_m _ _ _) rfl (jle rfl) ⟨jle rfl, jle rfl⟩ hk12 h (fun r14 S13 h => ?_)
    exact jx_iret kd543.2.2.1 rfl rfl (jle rfl) (jle rfl) ⟨_, rfl, h⟩
  replace h := h.2
  by_cases c15 : x1 = 2
  · replace h := h.1 c15
    refine jx_tableIn (v := 2) (tgt := 78) (off := 77) kd542.2.1 c15 (by decide) (by decide) (by decide) (by decide) ?_
    refine jx_aload_n 0 kd543.2.2.2.1 rfl rfl ?_
    obtain ⟨hk16, h⟩ := h
    obtain ⟨b17, hb17, h⟩ := h
    refine jx_getr jc_10 (j := 0) (by decide) rfl jwF_X10_12 kd543.2.2.2.2.1 hk16 hb17 ?_
    obtain ⟨hk18, h⟩ := h
    obtain ⟨b19, hb19, h⟩ := h
    refine jx_getr jc_3 (j := 2) (by decide) rfl jwF_X10_79 kd543.2.2.2.2.2.1 hk18 hb19 ?_
    obtain ⟨hk20, h⟩ := h
    refine jx_geti jc_1 (j := 4) (by decide) rfl jwF_X10_195 kd543.2.2.2.2.2.2.1 hk20 ?_
    exact jx_iret kd543.2.2.2.2.2.2.2.1 rfl rfl (jle rfl) (jle rfl) ⟨_, rfl, h⟩
  replace h := h.2
  by_cases c21 : x1 = 3
  · replace h := h.1 c21
    refine jx_tableIn (v := 3) (tgt := 89) (off := 88) kd542.2.1 c21 (by decide) (by decide) (by decide) (by decide) ?_
    refine jx_aload_n 0 kd543.2.2.2.2.2.2.2.2.1 rfl rfl ?_
    obtain ⟨hk22, h⟩ := h
    obtain ⟨b23, hb23, h⟩ := h
    refine jx_getr jc_10 (j := 0) (by decide) rfl jwF_X10_12 kd544.1 hk22 hb23 ?_
    obtain ⟨hk24, h⟩ := h
    obtain ⟨b25, hb25, h⟩ := h
    refine jx_getr jc_3 (j := 2) (by decide) rfl jwF_X10_79 kd544.2.1 hk24 hb25 ?_
    obtain ⟨hk26, h⟩ := h
    refine jx_geti jc_1 (j := 1) (by decide) rfl jwF_X10_107 kd544.2.2.1 hk26 ?_
    refine jx_callSi (M' := mJ6_bitCount_0f7a4) (As := [.int (ji S b25 1)]) jo_J6_bitCount_0f7a4 jwM_X10_112 jwS_J6_bitCount_0f7a4 kd544.2.2.2.1 (jRok_m _ _ _) rfl (jle rfl) ⟨jle rfl, jle rfl⟩ (c_J6_bitCount_0f7a4 (Q := fun v S' => v = (jbc (ji S b25 1)) ∧ S = S') ⟨rfl, rfl⟩) (fun r27 S28 hq29 => ?_)
    obtain ⟨rfl, rfl⟩ := hq29
    exact jx_iret kd544.2.2.2.2.1 rfl rfl (jle rfl) (jle rfl) ⟨_, rfl, h⟩
  replace h := h.2
  by_cases c30 : x1 = 4
  · replace h := h.1 c30
    refine jx_tableIn (v := 4) (tgt := 103) (off := 102) kd542.2.1 c30 (by decide) (by decide) (by decide) (by decide) ?_
    refine jx_aload_n 0 kd544.2.2.2.2.2.1 rfl rfl ?_
    obtain ⟨hk31, h⟩ := h
    obtain ⟨b32, hb32, h⟩ := h
    refine jx_getr jc_10 (j := 0) (by decide) rfl jwF_X10_12 kd544.2.2.2.2.2.2.1 hk31 hb32 ?_
    obtain ⟨hk33, h⟩ := h
    refine jx_geti jc_3 (j := 4) (by decide) rfl jwF_X10_212 kd544.2.2.2.2.2.2.2.1 hk33 ?_
    exact jx_iret kd544.2.2.2.2.2.2.2.2.1 rfl rfl (jle rfl) (jle rfl) ⟨_, rfl, h⟩
  replace h := h.2
  by_cases c34 : x1 = 5
  · replace h := h.1 c34
    refine jx_tableIn (v := 5) (tgt := 111) (off := 110) kd542.2.1 c34 (by decide) (by decide) (by decide) (by decide) ?_
    refine jx_aload_n 0 kd545.1 rfl rfl ?_
    obtain ⟨hk35, h⟩ := h
    obtain ⟨b36, hb36, h⟩ := h
    refine jx_getr jc_10 (j := 0) (by decide) rfl jwF_X10_12 kd545.2.1 hk35 hb36 ?_
    obtain ⟨hk37, h⟩ := h
    refine jx_callVi (M' := mX3_canMakeChair) (As := []) jo_X3_canMakeChair jc_3 rfl jwM_X10_215 jwN_X3_canMakeChair jwX_X3_canMakeChair kd545.2.2.1 (jRok_m _ _ _) rfl (jle rfl) ⟨jle rfl, jle rfl⟩ hk37 h (fun r39 S38 h => ?_)
    refine jx_if_eq (tgt := 125) kd545.2.2.2.1 (by decide) (fun c40 => ?_) (fun c40 => ?_)
    · replace h := h.1 c40
      refine jx_iconst (v := 0) kd545.2.2.2.2.2.2.1 (by decide) ?_
      exact jx_iret kd545.2.2.2.2.2.2.2.1 rfl rfl (jle rfl) (jle rfl) ⟨_, rfl, h⟩
    replace h := h.2 c40
    refine jx_iconst (v := 1) kd545.2.2.2.2.1 (by decide) ?_
    refine jx_goto (tgt := 126) kd545.2.2.2.2.2.1 (by decide) ?_
    exact jx_iret kd545.2.2.2.2.2.2.2.1 rfl rfl (jle rfl) (jle rfl) ⟨_, rfl, h⟩
  replace h := h.2
  by_cases c41 : x1 = 6
  · replace h := h.1 c41
    refine jx_tableIn (v := 6) (tgt := 127) (off := 126) kd542.2.1 c41 (by decide) (by decide) (by decide) (by decide) ?_
    refine jx_aload_n 0 kd545.2.2.2.2.2.2.2.2.1 rfl rfl ?_
    obtain ⟨hk42, h⟩ := h
    obtain ⟨b43, hb43, h⟩ := h
    refine jx_getr jc_10 (j := 0) (by decide) rfl jwF_X10_12 kd546.1 hk42 hb43 ?_
    obtain ⟨hk44, h⟩ := h
    refine jx_geti jc_3 (j := 6) (by decide) rfl jwF_X10_287 kd546.2.1 hk44 ?_
    exact jx_iret kd546.2.2.1 rfl rfl (jle rfl) (jle rfl) ⟨_, rfl, h⟩
  replace h := h.2
  by_cases c45 : x1 = 7
  · replace h := h.1 c45
    refine jx_tableIn (v := 7) (tgt := 135) (off := 134) kd542.2.1 c45 (by decide) (by decide) (by decide) (by decide) ?_
    refine jx_aload_n 0 kd546.2.2.2.1 rfl rfl ?_
    obtain ⟨hk46, h⟩ := h
    refine jx_geti jc_10 (j := 9) (by decide) rfl jwF_X10_374 kd546.2.2.2.2.1 hk46 ?_
    exact jx_iret kd546.2.2.2.2.2.1 rfl rfl (jle rfl) (jle rfl) ⟨_, rfl, h⟩
  replace h := h.2
  by_cases c47 : x1 = 8
  · replace h := h.1 c47
    refine jx_tableIn (v := 8) (tgt := 140) (off := 139) kd542.2.1 c47 (by decide) (by decide) (by decide) (by decide) ?_
    refine jx_aload_n 0 kd546.2.2.2.2.2.2.1 rfl rfl ?_
    obtain ⟨hk48, h⟩ := h
    obtain ⟨b49, hb49, h⟩ := h
    refine jx_getr jc_10 (j := 5) (by decide) rfl jwF_X10_36 kd546.2.2.2.2.2.2.2.1 hk48 hb49 ?_
    obtain ⟨hk50, h⟩ := h
    refine jx_geti jc_8 (j := 1) (by decide) rfl jwF_X10_277 kd546.2.2.2.2.2.2.2.2.1 hk50 ?_
    exact jx_iret kd547.1 rfl rfl (jle rfl) (jle rfl) ⟨_, rfl, h⟩
  replace h := h.2
  by_cases c51 : x1 = 9
  · replace h := h.1 c51
    refine jx_tableIn (v := 9) (tgt := 148) (off := 147) kd542.2.1 c51 (by decide) (by decide) (by decide) (by decide) ?_
    refine jx_aload_n 0 kd547.2.1 rfl rfl ?_
    obtain ⟨hk52, h⟩ := h
    obtain ⟨b53, hb53, h⟩ := h
    refine jx_getr jc_10 (j := 0) (by decide) rfl jwF_X10_12 kd547.2.2.1 hk52 hb53 ?_
    obtain ⟨hk54, h⟩ := h
    obtain ⟨b55, hb55, h⟩ := h
    refine jx_getr jc_3 (j := 0) (by decide) rfl jwF_X10_63 kd547.2.2.2.1 hk54 hb55 ?_
    obtain ⟨hk56, h⟩ := h
    refine jx_geti jc_0 (j := 2) (by decide) rfl jwF_X10_169 kd547.2.2.2.2.1 hk56 ?_
    exact jx_iret kd547.2.2.2.2.2.1 rfl rfl (jle rfl) (jle rfl) ⟨_, rfl, h⟩
  replace h := h.2
  replace h := h c1 c7 c15 c21 c30 c34 c41 c45 c47 c51
  refine jx_tableD (tgt := 159) ([0, 1, 2, 3, 4, 5, 6, 7, 8, 9] : List Int) kd542.2.1 (by simp only [List.mem_cons, List.not_mem_nil, or_false, forall_eq_or_imp, forall_eq]; exact ⟨lv_neT c1 (by decide), lv_neT c7 (by decide), lv_neT c15 (by decide), lv_neT c21 (by decide), lv_neT c30 (by decide), lv_neT c34 (by decide), lv_neT c41 (by decide), lv_neT c45 (by decide), lv_neT c47 (by decide), lv_neT c51 (by decide)⟩) (by decide) (by decide) (by decide) ?_
  refine jx_ldc jwC_X10_62 kd547.2.2.2.2.2.2.1 ?_
  exact jx_iret kd547.2.2.2.2.2.2.2.1 rfl rfl (jle rfl) (jle rfl) ⟨_, rfl, h⟩
set_option maxRecDepth 100000 in
set_option maxHeartbeats 4000000 in
theorem T_X10_findSheet {E : jEnv} {d : Nat} {Q : Option Nat → jM → Prop} {a0 : Nat} {x1 : Int32} {S : jM} (h : ((jwi x1 4) = 0 → Q none S) ∧ (¬ (jwi x1 4) = 0 → jk S a0 = 10 ∧ ∃ b6, jr S a0 6 = some b6 ∧ (jk S b6 = 14 ∧ vp_in x1 (jl S b6) ∧ ∃ b9, jr S b6 (Int32.toNatClampNeg x1) = some b9 ∧ (Q (some b9) S)))) : jFr E mX10_findSheet (d + 1) 0 0 [.ref a0, .int x1] S Q := by
  refine jF_of (by decide) (jle rfl) ?_
  refine jx_lv (lv1 := [(0, .ref a0), (1, .int x1)]) [0, 1] rfl ?_
  refine jx_iload_n 1 kd548.1 rfl rfl ?_
  refine jx_iconst (v := 4) kd548.2.1 (by decide) ?_
  refine jx_callSi (M' := mX10_within) (As := [.int x1, .int 4]) jo_X10_within jwM_X10_58 jwS_X10_within kd548.2.2.1 (jRok_m _ _ _) rfl (jle rfl) ⟨jle rfl, jle rfl⟩ (c_X10_within (Q := fun v S' => v = (jwi x1 4) ∧ S = S') ⟨rfl, rfl⟩) (fun r1 S2 hq3 => ?_)
  obtain ⟨rfl, rfl⟩ := hq3
  refine jx_if_eq (tgt := 17) kd548.2.2.2.1 (by decide) (fun c4 => ?_) (fun c4 => ?_)
  · replace h := h.1 c4
    refine jx_null kd549.1 ?_
    exact jx_aret (o := none) kd549.2.1 rfl (jle rfl) (jle rfl) ⟨_, rfl, h⟩
  replace h := h.2 c4
  refine jx_aload_n 0 kd548.2.2.2.2.1 rfl rfl ?_
  obtain ⟨hk5, h⟩ := h
  obtain ⟨b6, hb6, h⟩ := h
  refine jx_getr jc_10 (j := 6) (by decide) rfl jwF_X10_42 kd548.2.2.2.2.2.1 hk5 hb6 ?_
  refine jx_iload_n 1 kd548.2.2.2.2.2.2.1 rfl rfl ?_
  obtain ⟨hk7, h⟩ := h
  obtain ⟨hi8, h⟩ := h
  obtain ⟨b9, hb9, h⟩ := h
  refine jx_aaldS kd548.2.2.2.2.2.2.2.1 hk7 (by decide) (by decide) hi8 hb9 ?_
  refine jx_goto (tgt := 18) kd548.2.2.2.2.2.2.2.2.1 (by decide) ?_
  exact jx_aret (o := (some b9)) kd549.2.1 rfl (jle rfl) (jle rfl) ⟨_, rfl, h⟩
set_option maxRecDepth 100000 in
set_option maxHeartbeats 4000000 in
theorem T_X10_findSlot {E : jEnv} {d : Nat} {Q : Option Nat → jM → Prop} {a0 : Nat} {x1 : Int32} {S : jM} (h : ((jwi x1 5) = 0 → Q none S) ∧ (¬ (jwi x1 5) = 0 → jk S a0 = 10 ∧ ∃ b6, jr S a0 7 = some b6 ∧ (jk S b6 = 15 ∧ vp_in x1 (jl S b6) ∧ ∃ b9, jr S b6 (Int32.toNatClampNeg x1) = some b9 ∧ (Q (some b9) S)))) : jFr E mX10_findSlot (d + 1) 0 0 [.ref a0, .int x1] S Q := by
  refine jF_of (by decide) (jle rfl) ?_
  refine jx_lv (lv1 := [(0, .ref a0), (1, .int x1)]) [0, 1] rfl ?_
  refine jx_iload_n 1 kd550.1 rfl rfl ?_
  refine jx_iconst (v := 5) kd550.2.1 (by decide) ?_
  refine jx_callSi (M' := mX10_within) (As := [.int x1, .int 5]) jo_X10_within jwM_X10_58 jwS_X10_within kd550.2.2.1 (jRok_m _ _ _) rfl (jle rfl) ⟨jle rfl, jle rfl⟩ (c_X10_within (Q := fun v S' => v = (jwi x1 5) ∧ S = S') ⟨rfl, rfl⟩) (fun r1 S2 hq3 => ?_)
  obtain ⟨rfl, rfl⟩ := hq3
  refine jx_if_eq (tgt := 17) kd550.2.2.2.1 (by decide) (fun c4 => ?_) (fun c4 => ?_)
  · replace h := h.1 c4
    refine jx_null kd551.1 ?_
    exact jx_aret (o := none) kd551.2.1 rfl (jle rfl) (jle rfl) ⟨_, rfl, h⟩
  replace h := h.2 c4
  refine jx_aload_n 0 kd550.2.2.2.2.1 rfl rfl ?_
  obtain ⟨hk5, h⟩ := h
  obtain ⟨b6, hb6, h⟩ := h
  refine jx_getr jc_10 (j := 7) (by decide) rfl jwF_X10_48 kd550.2.2.2.2.2.1 hk5 hb6 ?_
  refine jx_iload_n 1 kd550.2.2.2.2.2.2.1 rfl rfl ?_
  obtain ⟨hk7, h⟩ := h
  obtain ⟨hi8, h⟩ := h
  obtain ⟨b9, hb9, h⟩ := h
  refine jx_aaldS kd550.2.2.2.2.2.2.2.1 hk7 (by decide) (by decide) hi8 hb9 ?_
  refine jx_goto (tgt := 18) kd550.2.2.2.2.2.2.2.2.1 (by decide) ?_
  exact jx_aret (o := (some b9)) kd551.2.1 rfl (jle rfl) (jle rfl) ⟨_, rfl, h⟩
end
