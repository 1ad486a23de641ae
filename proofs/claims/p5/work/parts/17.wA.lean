section
set_option maxRecDepth 100000 in
set_option maxHeartbeats 4000000 in
theorem T_X2_init {E : jEnv} {d : Nat} {Q : jM → Prop} {a0 : Nat} {S : jM} (h : Q S) : jFv E mX2_init (d + 1) 0 0 [.ref a0] S Q := by
  refine jF_of (by decide) (jle rfl) ?_
  refine jx_lv (lv1 := [(0, .ref a0)]) [0] rfl ?_
  refine jx_aload_n 0 dX2_init_0 rfl rfl ?_
  refine jx_objInit jwM_X2_3 jwN_obj jwO_obj dX2_init_1 (jRok_m _ _ _) (jle rfl) ?_
  exact jx_vret dX2_init_4 rfl (jle rfl) (jle rfl) ⟨rfl, h⟩
set_option maxRecDepth 100000 in
set_option maxHeartbeats 4000000 in
theorem T_X2_begin {E : jEnv} {d : Nat} {Q : jM → Prop} {a0 : Nat} {x1 : Int32} {x2 : Int32} {x3 : Int32} {x4 : Int32} {S : jM} (h : jk S a0 = 2 ∧ Q (jput (jput (jput (jput (jput (jput (jput S a0 0 x1) a0 1 x2) a0 2 x3) a0 4 x4) a0 3 0) a0 5 40) a0 6 0)) : jFv E mX2_begin d 0 0 [.ref a0, .int x1, .int x2, .int x3, .int x4] S Q := by
  refine jF_of (by decide) (jle rfl) ?_
  refine jx_lv (lv1 := [(0, .ref a0), (1, .int x1), (2, .int x2), (3, .int x3), (4, .int x4)]) [0, 1, 2, 3, 4] rfl ?_
  refine jx_aload_n 0 dX2_begin_0 rfl rfl ?_
  refine jx_iload_n 1 dX2_begin_1 rfl rfl ?_
  obtain ⟨hk1, h⟩ := h
  refine jx_puti jc_2 (j := 0) (by decide) rfl jwF_X2_9 rfl rfl rfl dX2_begin_2 hk1 ?_
  refine jx_aload_n 0 dX2_begin_5 rfl rfl ?_
  refine jx_iload_n 2 dX2_begin_6 rfl rfl ?_
  refine jx_puti jc_2 (j := 1) (by decide) rfl jwF_X2_15 rfl rfl rfl dX2_begin_7 hk1 ?_
  refine jx_aload_n 0 dX2_begin_10 rfl rfl ?_
  refine jx_iload_n 3 dX2_begin_11 rfl rfl ?_
  refine jx_puti jc_2 (j := 2) (by decide) rfl jwF_X2_18 rfl rfl rfl dX2_begin_12 hk1 ?_
  refine jx_aload_n 0 dX2_begin_15 rfl rfl ?_
  refine jx_iload 4 dX2_begin_16 rfl ?_
  refine jx_puti jc_2 (j := 4) (by decide) rfl jwF_X2_21 rfl rfl rfl dX2_begin_18 hk1 ?_
  refine jx_aload_n 0 dX2_begin_21 rfl rfl ?_
  refine jx_iconst (v := 0) dX2_begin_22 (by decide) ?_
  refine jx_puti jc_2 (j := 3) (by decide) rfl jwF_X2_24 rfl rfl rfl dX2_begin_23 hk1 ?_
  refine jx_aload_n 0 dX2_begin_26 rfl rfl ?_
  refine jx_bipush (v := 40) dX2_begin_27 (by decide) ?_
  refine jx_puti jc_2 (j := 5) (by decide) rfl jwF_X2_27 rfl rfl rfl dX2_begin_29 hk1 ?_
  refine jx_aload_n 0 dX2_begin_32 rfl rfl ?_
  refine jx_iconst (v := 0) dX2_begin_33 (by decide) ?_
  refine jx_puti jc_2 (j := 6) (by decide) rfl jwF_X2_30 rfl (by decide) (by decide) dX2_begin_34 hk1 ?_
  exact jx_vret dX2_begin_37 rfl (jle rfl) (jle rfl) ⟨rfl, h⟩
set_option maxRecDepth 100000 in
set_option maxHeartbeats 4000000 in
theorem T_X2_become {E : jEnv} {d : Nat} {Q : jM → Prop} {a0 : Nat} {a1 : Nat} {S : jM} (h : jk S a1 = 2 ∧ jk S a0 = 2 ∧ ((ji S a1 6) = 0 ∨ (ji S a1 6) = 1) ∧ Q (jput (jput (jput (jput (jput (jput (jput S a0 0 (ji S a1 0)) a0 1 (ji S a1 1)) a0 2 (ji S a1 2)) a0 3 (ji S a1 3)) a0 4 (ji S a1 4)) a0 5 (ji S a1 5)) a0 6 (ji S a1 6))) : jFv E mX2_become d 0 0 [.ref a0, .ref a1] S Q := by
  refine jF_of (by decide) (jle rfl) ?_
  refine jx_lv (lv1 := [(0, .ref a0), (1, .ref a1)]) [0, 1] rfl ?_
  refine jx_aload_n 0 dX2_become_0 rfl rfl ?_
  refine jx_aload_n 1 dX2_become_1 rfl rfl ?_
  obtain ⟨hk1, h⟩ := h
  refine jx_geti jc_2 (j := 0) (by decide) rfl jwF_X2_9 dX2_become_2 hk1 ?_
  obtain ⟨hk2, h⟩ := h
  refine jx_puti jc_2 (j := 0) (by decide) rfl jwF_X2_9 rfl rfl rfl dX2_become_5 hk2 ?_
  refine jx_aload_n 0 dX2_become_8 rfl rfl ?_
  refine jx_aload_n 1 dX2_become_9 rfl rfl ?_
  refine jx_geti jc_2 (j := 1) (by decide) rfl jwF_X2_15 dX2_become_10 hk1 ?_
  refine jx_topi (y := (ji S a1 1)) (by simp [ji_put, ji_row, ji_putr]) ?_
  refine jx_puti jc_2 (j := 1) (by decide) rfl jwF_X2_15 rfl rfl rfl dX2_become_13 hk2 ?_
  refine jx_aload_n 0 dX2_become_16 rfl rfl ?_
  refine jx_aload_n 1 dX2_become_17 rfl rfl ?_
  refine jx_geti jc_2 (j := 2) (by decide) rfl jwF_X2_18 dX2_become_18 hk1 ?_
  refine jx_topi (y := (ji S a1 2)) (by simp [ji_put, ji_row, ji_putr]) ?_
  refine jx_puti jc_2 (j := 2) (by decide) rfl jwF_X2_18 rfl rfl rfl dX2_become_21 hk2 ?_
  refine jx_aload_n 0 dX2_become_24 rfl rfl ?_
  refine jx_aload_n 1 dX2_become_25 rfl rfl ?_
  refine jx_geti jc_2 (j := 3) (by decide) rfl jwF_X2_24 dX2_become_26 hk1 ?_
  refine jx_topi (y := (ji S a1 3)) (by simp [ji_put, ji_row, ji_putr]) ?_
  refine jx_puti jc_2 (j := 3) (by decide) rfl jwF_X2_24 rfl rfl rfl dX2_become_29 hk2 ?_
  refine jx_aload_n 0 dX2_become_32 rfl rfl ?_
  refine jx_aload_n 1 dX2_become_33 rfl rfl ?_
  refine jx_geti jc_2 (j := 4) (by decide) rfl jwF_X2_21 dX2_become_34 hk1 ?_
  refine jx_topi (y := (ji S a1 4)) (by simp [ji_put, ji_row, ji_putr]) ?_
  refine jx_puti jc_2 (j := 4) (by decide) rfl jwF_X2_21 rfl rfl rfl dX2_become_37 hk2 ?_
  refine jx_aload_n 0 dX2_become_40 rfl rfl ?_
  refine jx_aload_n 1 dX2_become_41 rfl rfl ?_
  refine jx_geti jc_2 (j := 5) (by decide) rfl jwF_X2_27 dX2_become_42 hk1 ?_
  refine jx_topi (y := (ji S a1 5)) (by simp [ji_put, ji_row, ji_putr]) ?_
  refine jx_puti jc_2 (j := 5) (by decide) rfl jwF_X2_27 rfl rfl rfl dX2_become_45 hk2 ?_
  refine jx_aload_n 0 dX2_become_48 rfl rfl ?_
  refine jx_aload_n 1 dX2_become_49 rfl rfl ?_
  refine jx_geti jc_2 (j := 6) (by decide) rfl jwF_X2_30 dX2_become_50 hk1 ?_
  refine jx_topi (y := (ji S a1 6)) (by simp [ji_put, ji_row, ji_putr]) ?_
  obtain ⟨hb3, h⟩ := h
  refine jx_puti jc_2 (j := 6) (by decide) rfl jwF_X2_30 rfl (jb_nar hb3) (jb_fit hb3) dX2_become_53 hk2 ?_
  exact jx_vret dX2_become_56 rfl (jle rfl) (jle rfl) ⟨rfl, h⟩
/-- X2_isOf at its loop's head 7 -/
abbrev L_X2_isOf_7 (E : jEnv) (d : Nat) (Q : Int32 → jM → Prop) (x1 : Int32) (x2 : Int32) (x3 : Int32) (S : jM) : Prop := jX E mX2_isOf (jRm (d + 1) 0 0) (jZm E (fun r S' => ∃ v : Int32, r = some (.int v) ∧ Q v S') 0 0) 7 [(1, .int x1), (2, .int x2), (3, .int x3)] [] S 0 0
set_option maxRecDepth 100000 in
set_option maxHeartbeats 4000000 in
theorem T_X2_isOf {E : jEnv} {d : Nat} {Q : Int32 → jM → Prop} {a0 : Nat} {x1 : Int32} {S : jM} (h : jk S a0 = 2 ∧ L_X2_isOf_7 E d Q x1 (ji S a0 0) 0 S) : jFi E mX2_isOf (d + 1) 0 0 [.ref a0, .int x1] S Q := by
  refine jF_of (by decide) (jle rfl) ?_
  refine jx_lv (lv1 := [(0, .ref a0), (1, .int x1)]) [0, 1] rfl ?_
  refine jx_aload_n 0 dX2_isOf_0 rfl rfl ?_
  obtain ⟨hk1, h⟩ := h
  refine jx_geti jc_2 (j := 0) (by decide) rfl jwF_X2_9 dX2_isOf_1 hk1 ?_
  refine jx_istore_n (lv1 := [(2, .int (ji S a0 0)), (0, .ref a0), (1, .int x1)]) dX2_isOf_4 rfl (by decide) rfl ?_
  refine jx_iconst (v := 0) dX2_isOf_5 (by decide) ?_
  refine jx_istore_n (lv1 := [(3, .int 0), (2, .int (ji S a0 0)), (0, .ref a0), (1, .int x1)]) dX2_isOf_6 rfl (by decide) rfl ?_
  exact jx_lv [3, 1, 0] rfl h
set_option maxRecDepth 100000 in
set_option maxHeartbeats 4000000 in
theorem T_X2_isOf_7 {E : jEnv} {d : Nat} {Q : Int32 → jM → Prop} {x1 : Int32} {x2 : Int32} {x3 : Int32} {S : jM} (h : (6 ≤ x3 → Q 0 S) ∧ (¬ 6 ≤ x3 → ((jwi x2 6) = 0 → Q 0 S) ∧ (¬ (jwi x2 6) = 0 → (x2 = x1 → Q 1 S) ∧ (¬ x2 = x1 → vp_in x2 6 ∧ (L_X2_isOf_7 E d Q x1 (jab x2) (x3 + 1) S))))) : L_X2_isOf_7 E d Q x1 x2 x3 S := by
  show jX E mX2_isOf (jRm (d + 1) 0 0) (jZm E (fun r S' => ∃ v : Int32, r = some (.int v) ∧ Q v S') 0 0) 7 [(1, .int x1), (2, .int x2), (3, .int x3)] [] S 0 0
  refine jx_iload_n 2 dX2_isOf_7 rfl rfl ?_
  refine jx_bipush (v := 6) dX2_isOf_8 (by decide) ?_
  refine jx_icmp_ge (tgt := 41) dX2_isOf_10 (by decide) (fun c2 => ?_) (fun c2 => ?_)
  · replace h := h.1 c2
    refine jx_iconst (v := 0) dX2_isOf_41 (by decide) ?_
    exact jx_iret dX2_isOf_42 rfl (by decide) (jle rfl) (jle rfl) ⟨_, rfl, h⟩
  replace h := h.2 c2
  refine jx_iload_n 1 dX2_isOf_13 rfl rfl ?_
  refine jx_bipush (v := 6) dX2_isOf_14 (by decide) ?_
  refine jx_callSNi (M' := mX10_within) (As := [.int x2, .int 6]) (host := "NineMasters") jo_X10_within (by decide) jwS_X10_within dX2_isOf_16 (jRok_m _ _ _) rfl (jle rfl) ⟨jle rfl, jle rfl⟩ (c_X10_within (Q := fun v S' => v = (jwi x2 6) ∧ S = S') ⟨rfl, rfl⟩) (fun r3 S4 hq5 => ?_)
  obtain ⟨rfl, rfl⟩ := hq5
  refine jx_if_eq (tgt := 41) dX2_isOf_19 (by decide) (fun c6 => ?_) (fun c6 => ?_)
  · replace h := h.1 c6
    refine jx_iconst (v := 0) dX2_isOf_41 (by decide) ?_
    exact jx_iret dX2_isOf_42 rfl (by decide) (jle rfl) (jle rfl) ⟨_, rfl, h⟩
  replace h := h.2 c6
  refine jx_iload_n 1 dX2_isOf_22 rfl rfl ?_
  refine jx_iload_n 0 dX2_isOf_23 rfl rfl ?_
  refine jx_icmp_ne (tgt := 29) dX2_isOf_24 (by decide) (fun c7 => ?_) (fun c7 => ?_)
  · replace h := h.2 c7
    refine jx_above rfl dX2_isOf_29 ?_
    refine jx_iload_n 1 dX2_isOf_32 rfl rfl ?_
    obtain ⟨hi8, h⟩ := h
    refine jx_aboveLd dX2_isOf_33 hi8 ?_
    refine jx_istore_n (lv1 := [(2, .int (jab x2)), (1, .int x1), (3, .int x3)]) dX2_isOf_34 rfl (by decide) rfl ?_
    refine jx_iinc 2 (v := (x3 + 1)) (lv1 := [(3, .int (x3 + 1)), (2, .int (jab x2)), (1, .int x1)]) kd11.1 rfl rfl (by decide) rfl ?_
    refine jx_goto (tgt := 7) kd11.2 (by decide) ?_
    exact jx_lv [2, 1, 0] rfl h
  replace h := h.1 c7
  refine jx_iconst (v := 1) dX2_isOf_27 (by decide) ?_
  exact jx_iret dX2_isOf_28 rfl (by decide) (jle rfl) (jle rfl) ⟨_, rfl, h⟩
set_option maxRecDepth 100000 in
set_option maxHeartbeats 4000000 in
theorem T_X2_daysFrom {E : jEnv} {d : Nat} {Q : Int32 → jM → Prop} {a0 : Nat} {x1 : Int32} {S : jM} (h : jk S a0 = 2 ∧ ((ji S a0 0) = 1 → Q (2 * x1) S) ∧ ((ji S a0 0) = 2 → Q (jmax 1 (x1 - 1)) S) ∧ ((ji S a0 0) = 3 → Q ((2 * x1) + ((ji S a0 5) / 10)) S) ∧ ((ji S a0 0) = 4 → Q (jmax 1 ((jmax 1 (x1 - 1)) / 2)) S) ∧ ((ji S a0 0) = 5 → Q 1 S) ∧ (¬ (ji S a0 0) = 1 → ¬ (ji S a0 0) = 2 → ¬ (ji S a0 0) = 3 → ¬ (ji S a0 0) = 4 → ¬ (ji S a0 0) = 5 → Q x1 S)) : jFi E mX2_daysFrom (d + 1) 0 0 [.ref a0, .int x1] S Q := by
  refine jF_of (by decide) (jle rfl) ?_
  refine jx_lv (lv1 := [(0, .ref a0), (1, .int x1)]) [0, 1] rfl ?_
  refine jx_iconst (v := 1) dX2_daysFrom_0 (by decide) ?_
  refine jx_iload_n 1 dX2_daysFrom_1 rfl rfl ?_
  refine jx_iconst (v := 1) dX2_daysFrom_2 (by decide) ?_
  refine jx_isub dX2_daysFrom_3 ?_
  refine jx_max jwM_X2_42 jwS_max jwZ_J9 jwO_max dX2_daysFrom_4 (jRok_m _ _ _) (jle rfl) ⟨Nat.zero_le _, Nat.zero_le _⟩ ?_
  refine jx_istore_n (lv1 := [(2, .int (jmax 1 (x1 - 1))), (0, .ref a0), (1, .int x1)]) dX2_daysFrom_7 rfl (by decide) rfl ?_
  refine jx_aload_n 1 dX2_daysFrom_8 rfl rfl ?_
  obtain ⟨hk1, h⟩ := h
  refine jx_geti jc_2 (j := 0) (by decide) rfl jwF_X2_9 dX2_daysFrom_9 hk1 ?_
  by_cases c2 : (ji S a0 0) = 1
  · replace h := h.1 c2
    refine jx_tableIn (v := 1) (tgt := 48) (off := 36) kd12 c2 (by decide) (by decide) (by decide) (by decide) ?_
    refine jx_iconst (v := 2) dX2_daysFrom_48 (by decide) ?_
    refine jx_iload_n 2 dX2_daysFrom_49 rfl rfl ?_
    refine jx_imul dX2_daysFrom_50 ?_
    exact jx_iret dX2_daysFrom_51 rfl rfl (jle rfl) (jle rfl) ⟨_, rfl, h⟩
  replace h := h.2
  by_cases c3 : (ji S a0 0) = 2
  · replace h := h.1 c3
    refine jx_tableIn (v := 2) (tgt := 64) (off := 52) kd12 c3 (by decide) (by decide) (by decide) (by decide) ?_
    refine jx_iload_n 0 dX2_daysFrom_64 rfl rfl ?_
    exact jx_iret dX2_daysFrom_65 rfl rfl (jle rfl) (jle rfl) ⟨_, rfl, h⟩
  replace h := h.2
  by_cases c4 : (ji S a0 0) = 3
  · replace h := h.1 c4
    refine jx_tableIn (v := 3) (tgt := 52) (off := 40) kd12 c4 (by decide) (by decide) (by decide) (by decide) ?_
    refine jx_iconst (v := 2) dX2_daysFrom_52 (by decide) ?_
    refine jx_iload_n 2 dX2_daysFrom_53 rfl rfl ?_
    refine jx_imul dX2_daysFrom_54 ?_
    refine jx_aload_n 1 dX2_daysFrom_55 rfl rfl ?_
    refine jx_geti jc_2 (j := 5) (by decide) rfl jwF_X2_27 dX2_daysFrom_56 hk1 ?_
    refine jx_bipush (v := 10) dX2_daysFrom_59 (by decide) ?_
    refine jx_idiv dX2_daysFrom_61 (by decide) ?_
    refine jx_iadd dX2_daysFrom_62 ?_
    exact jx_iret dX2_daysFrom_63 rfl rfl (jle rfl) (jle rfl) ⟨_, rfl, h⟩
  replace h := h.2
  by_cases c5 : (ji S a0 0) = 4
  · replace h := h.1 c5
    refine jx_tableIn (v := 4) (tgt := 66) (off := 54) kd12 c5 (by decide) (by decide) (by decide) (by decide) ?_
    refine jx_iconst (v := 1) dX2_daysFrom_66 (by decide) ?_
    refine jx_iload_n 0 dX2_daysFrom_67 rfl rfl ?_
    refine jx_iconst (v := 2) dX2_daysFrom_68 (by decide) ?_
    refine jx_idiv dX2_daysFrom_69 (by decide) ?_
    refine jx_max jwM_X2_42 jwS_max jwZ_J9 jwO_max dX2_daysFrom_70 (jRok_m _ _ _) (jle rfl) ⟨Nat.zero_le _, Nat.zero_le _⟩ ?_
    exact jx_iret dX2_daysFrom_73 rfl rfl (jle rfl) (jle rfl) ⟨_, rfl, h⟩
  replace h := h.2
  by_cases c6 : (ji S a0 0) = 5
  · replace h := h.1 c6
    refine jx_tableIn (v := 5) (tgt := 74) (off := 62) kd12 c6 (by decide) (by decide) (by decide) (by decide) ?_
    refine jx_iconst (v := 1) dX2_daysFrom_74 (by decide) ?_
    exact jx_iret dX2_daysFrom_75 rfl rfl (jle rfl) (jle rfl) ⟨_, rfl, h⟩
  replace h := h.2
  replace h := h c2 c3 c4 c5 c6
  refine jx_tableD (tgt := 76) ([1, 2, 3, 4, 5] : List Int) kd12 (by simp only [List.mem_cons, List.not_mem_nil, or_false, forall_eq_or_imp, forall_eq]; exact ⟨lv_neT c2 (by decide), lv_neT c3 (by decide), lv_neT c4 (by decide), lv_neT c5 (by decide), lv_neT c6 (by decide)⟩) (by decide) (by decide) (by decide) ?_
  refine jx_iload_n 2 dX2_daysFrom_76 rfl rfl ?_
  exact jx_iret dX2_daysFrom_77 rfl rfl (jle rfl) (jle rfl) ⟨_, rfl, h⟩
set_option maxRecDepth 100000 in
set_option maxHeartbeats 4000000 in
theorem T_X2_teaches {E : jEnv} {d : Nat} {Q : Int32 → jM → Prop} {a0 : Nat} {x1 : Int32} {S : jM} (h : jk S a0 = 2 ∧ ((ji S a0 0) = 2 → Q 1 S) ∧ ((ji S a0 0) = 3 → ((jbc ((ji S a0 3) &&& x1)) = 0 → ((jbc x1) < 3 → Q 0 S) ∧ (¬ (jbc x1) < 3 → Q 1 S)) ∧ (¬ (jbc ((ji S a0 3) &&& x1)) = 0 → Q 0 S)) ∧ ((ji S a0 0) = 4 → Q 1 S) ∧ ((ji S a0 0) = 5 → (1 < (jbc ((ji S a0 3) &&& x1)) → Q 0 S) ∧ (¬ 1 < (jbc ((ji S a0 3) &&& x1)) → Q 1 S)) ∧ (¬ (ji S a0 0) = 2 → ¬ (ji S a0 0) = 3 → ¬ (ji S a0 0) = 4 → ¬ (ji S a0 0) = 5 → ((jbc ((ji S a0 3) &&& x1)) = 0 → Q 1 S) ∧ (¬ (jbc ((ji S a0 3) &&& x1)) = 0 → Q 0 S))) : jFi E mX2_teaches (d + 1) 0 0 [.ref a0, .int x1] S Q := by
  refine jF_of (by decide) (jle rfl) ?_
  refine jx_lv (lv1 := [(0, .ref a0), (1, .int x1)]) [0, 1] rfl ?_
  refine jx_aload_n 0 dX2_teaches_0 rfl rfl ?_
  obtain ⟨hk1, h⟩ := h
  refine jx_geti jc_2 (j := 3) (by decide) rfl jwF_X2_24 dX2_teaches_1 hk1 ?_
  refine jx_iload_n 1 dX2_teaches_4 rfl rfl ?_
  refine jx_iand dX2_teaches_5 ?_
  refine jx_callSi (M' := mJ6_bitCount_0f7a4) (As := [.int ((ji S a0 3) &&& x1)]) jo_J6_bitCount_0f7a4 jwM_X2_48 jwS_J6_bitCount_0f7a4 dX2_teaches_6 (jRok_m _ _ _) rfl (jle rfl) ⟨jle rfl, jle rfl⟩ (c_J6_bitCount_0f7a4 (Q := fun v S' => v = (jbc ((ji S a0 3) &&& x1)) ∧ S = S') ⟨rfl, rfl⟩) (fun r2 S3 hq4 => ?_)
  obtain ⟨rfl, rfl⟩ := hq4
  refine jx_istore_n (lv1 := [(2, .int (jbc ((ji S a0 3) &&& x1))), (0, .ref a0), (1, .int x1)]) dX2_teaches_9 rfl (by decide) rfl ?_
  refine jx_aload_n 1 dX2_teaches_10 rfl rfl ?_
  refine jx_geti jc_2 (j := 0) (by decide) rfl jwF_X2_9 dX2_teaches_11 hk1 ?_
  by_cases c5 : (ji S a0 0) = 2
  · replace h := h.1 c5
    refine jx_tableIn (v := 2) (tgt := 62) (off := 48) kd13 c5 (by decide) (by decide) (by decide) (by decide) ?_
    refine jx_iconst (v := 1) dX2_teaches_62 (by decide) ?_
    exact jx_iret dX2_teaches_63 rfl (by decide) (jle rfl) (jle rfl) ⟨_, rfl, h⟩
  replace h := h.2
  by_cases c6 : (ji S a0 0) = 3
  · replace h := h.1 c6
    refine jx_tableIn (v := 3) (tgt := 44) (off := 30) kd13 c6 (by decide) (by decide) (by decide) (by decide) ?_
    refine jx_iload_n 0 dX2_teaches_44 rfl rfl ?_
    refine jx_if_ne (tgt := 60) dX2_teaches_45 (by decide) (fun c7 => ?_) (fun c7 => ?_)
    · replace h := h.2 c7
      refine jx_iconst (v := 0) dX2_teaches_60 (by decide) ?_
      exact jx_iret dX2_teaches_61 rfl (by decide) (jle rfl) (jle rfl) ⟨_, rfl, h⟩
    replace h := h.1 c7
    refine jx_iload_n 2 dX2_teaches_48 rfl rfl ?_
    refine jx_callSi (M' := mJ6_bitCount_0f7a4) (As := [.int x1]) jo_J6_bitCount_0f7a4 jwM_X2_48 jwS_J6_bitCount_0f7a4 dX2_teaches_49 (jRok_m _ _ _) rfl (jle rfl) ⟨jle rfl, jle rfl⟩ (c_J6_bitCount_0f7a4 (Q := fun v S' => v = (jbc x1) ∧ S = S') ⟨rfl, rfl⟩) (fun r8 S9 hq10 => ?_)
    obtain ⟨rfl, rfl⟩ := hq10
    refine jx_iconst (v := 3) dX2_teaches_52 (by decide) ?_
    refine jx_icmp_lt (tgt := 60) dX2_teaches_53 (by decide) (fun c11 => ?_) (fun c11 => ?_)
    · replace h := h.1 c11
      refine jx_iconst (v := 0) dX2_teaches_60 (by decide) ?_
      exact jx_iret dX2_teaches_61 rfl (by decide) (jle rfl) (jle rfl) ⟨_, rfl, h⟩
    replace h := h.2 c11
    refine jx_iconst (v := 1) dX2_teaches_56 (by decide) ?_
    refine jx_goto (tgt := 61) dX2_teaches_57 (by decide) ?_
    exact jx_iret dX2_teaches_61 rfl (by decide) (jle rfl) (jle rfl) ⟨_, rfl, h⟩
  replace h := h.2
  by_cases c12 : (ji S a0 0) = 4
  · replace h := h.1 c12
    refine jx_tableIn (v := 4) (tgt := 64) (off := 50) kd13 c12 (by decide) (by decide) (by decide) (by decide) ?_
    refine jx_iconst (v := 1) dX2_teaches_64 (by decide) ?_
    exact jx_iret dX2_teaches_65 rfl (by decide) (jle rfl) (jle rfl) ⟨_, rfl, h⟩
  replace h := h.2
  by_cases c13 : (ji S a0 0) = 5
  · replace h := h.1 c13
    refine jx_tableIn (v := 5) (tgt := 66) (off := 52) kd13 c13 (by decide) (by decide) (by decide) (by decide) ?_
    refine jx_iload_n 0 dX2_teaches_66 rfl rfl ?_
    refine jx_iconst (v := 1) dX2_teaches_67 (by decide) ?_
    refine jx_icmp_gt (tgt := 75) dX2_teaches_68 (by decide) (fun c14 => ?_) (fun c14 => ?_)
    · replace h := h.1 c14
      refine jx_iconst (v := 0) dX2_teaches_75 (by decide) ?_
      exact jx_iret dX2_teaches_76 rfl (by decide) (jle rfl) (jle rfl) ⟨_, rfl, h⟩
    replace h := h.2 c14
    refine jx_iconst (v := 1) dX2_teaches_71 (by decide) ?_
    refine jx_goto (tgt := 76) dX2_teaches_72 (by decide) ?_
    exact jx_iret dX2_teaches_76 rfl (by decide) (jle rfl) (jle rfl) ⟨_, rfl, h⟩
  replace h := h.2
  replace h := h c5 c6 c12 c13
  refine jx_tableD (tgt := 77) ([2, 3, 4, 5] : List Int) kd13 (by simp only [List.mem_cons, List.not_mem_nil, or_false, forall_eq_or_imp, forall_eq]; exact ⟨lv_neT c5 (by decide), lv_neT c6 (by decide), lv_neT c12 (by decide), lv_neT c13 (by decide)⟩) (by decide) (by decide) (by decide) ?_
  refine jx_iload_n 0 dX2_teaches_77 rfl rfl ?_
  refine jx_if_ne (tgt := 85) dX2_teaches_78 (by decide) (fun c15 => ?_) (fun c15 => ?_)
  · replace h := h.2 c15
    refine jx_iconst (v := 0) dX2_teaches_85 (by decide) ?_
    exact jx_iret dX2_teaches_86 rfl (by decide) (jle rfl) (jle rfl) ⟨_, rfl, h⟩
  replace h := h.1 c15
  refine jx_iconst (v := 1) dX2_teaches_81 (by decide) ?_
  refine jx_goto (tgt := 86) dX2_teaches_82 (by decide) ?_
  exact jx_iret dX2_teaches_86 rfl (by decide) (jle rfl) (jle rfl) ⟨_, rfl, h⟩
set_option maxRecDepth 100000 in
set_option maxHeartbeats 4000000 in
theorem T_X2_unlearnt {E : jEnv} {d : Nat} {Q : Int32 → jM → Prop} {a0 : Nat} {S : jM} (h : jk S a0 = 2 ∧ ((ji S a0 0) = 2 → Q (ji S a0 3) S) ∧ (¬ (ji S a0 0) = 2 → Q 0 S)) : jFi E mX2_unlearnt d 0 0 [.ref a0] S Q := by
  refine jF_of (by decide) (jle rfl) ?_
  refine jx_lv (lv1 := [(0, .ref a0)]) [0] rfl ?_
  refine jx_aload_n 0 dX2_unlearnt_0 rfl rfl ?_
  obtain ⟨hk1, h⟩ := h
  refine jx_geti jc_2 (j := 0) (by decide) rfl jwF_X2_9 dX2_unlearnt_1 hk1 ?_
  refine jx_iconst (v := 2) dX2_unlearnt_4 (by decide) ?_
  refine jx_icmp_ne (tgt := 15) dX2_unlearnt_5 (by decide) (fun c2 => ?_) (fun c2 => ?_)
  · replace h := h.2 c2
    refine jx_iconst (v := 0) dX2_unlearnt_15 (by decide) ?_
    exact jx_iret dX2_unlearnt_16 rfl rfl (jle rfl) (jle rfl) ⟨_, rfl, h⟩
  replace h := h.1 c2
  refine jx_aload_n 0 dX2_unlearnt_8 rfl rfl ?_
  refine jx_geti jc_2 (j := 3) (by decide) rfl jwF_X2_24 dX2_unlearnt_9 hk1 ?_
  refine jx_goto (tgt := 16) dX2_unlearnt_12 (by decide) ?_
  exact jx_iret dX2_unlearnt_16 rfl rfl (jle rfl) (jle rfl) ⟨_, rfl, h⟩
set_option maxRecDepth 100000 in
set_option maxHeartbeats 4000000 in
theorem T_X2_worth {E : jEnv} {d : Nat} {Q : Int32 → jM → Prop} {a0 : Nat} {S : jM} (h : jk S a0 = 2 ∧ ((ji S a0 0) = 1 → Q ((ji S a0 4) + 11) S) ∧ ((ji S a0 0) = 2 → Q (99 - (ji S a0 4)) S) ∧ ((ji S a0 0) = 3 → Q (2 * ((ji S a0 4) + 11)) S) ∧ ((ji S a0 0) = 4 → Q ((99 - (ji S a0 4)) - 4) S) ∧ ((ji S a0 0) = 5 → Q 8 S) ∧ (¬ (ji S a0 0) = 1 → ¬ (ji S a0 0) = 2 → ¬ (ji S a0 0) = 3 → ¬ (ji S a0 0) = 4 → ¬ (ji S a0 0) = 5 → Q (ji S a0 4) S)) : jFi E mX2_worth d 0 0 [.ref a0] S Q := by
  refine jF_of (by decide) (jle rfl) ?_
  refine jx_lv (lv1 := [(0, .ref a0)]) [0] rfl ?_
  refine jx_aload_n 0 dX2_worth_0 rfl rfl ?_
  obtain ⟨hk1, h⟩ := h
  refine jx_geti jc_2 (j := 0) (by decide) rfl jwF_X2_9 dX2_worth_1 hk1 ?_
  by_cases c2 : (ji S a0 0) = 1
  · replace h := h.1 c2
    refine jx_tableIn (v := 1) (tgt := 40) (off := 36) kd14 c2 (by decide) (by decide) (by decide) (by decide) ?_
    refine jx_aload_n 0 dX2_worth_40 rfl rfl ?_
    refine jx_geti jc_2 (j := 4) (by decide) rfl jwF_X2_21 dX2_worth_41 hk1 ?_
    refine jx_bipush (v := 11) dX2_worth_44 (by decide) ?_
    refine jx_iadd dX2_worth_46 ?_
    exact jx_iret dX2_worth_47 rfl rfl (jle rfl) (jle rfl) ⟨_, rfl, h⟩
  replace h := h.2
  by_cases c3 : (ji S a0 0) = 2
  · replace h := h.1 c3
    refine jx_tableIn (v := 2) (tgt := 58) (off := 54) kd14 c3 (by decide) (by decide) (by decide) (by decide) ?_
    refine jx_bipush (v := 99) dX2_worth_58 (by decide) ?_
    refine jx_aload_n 0 dX2_worth_60 rfl rfl ?_
    refine jx_geti jc_2 (j := 4) (by decide) rfl jwF_X2_21 dX2_worth_61 hk1 ?_
    refine jx_isub dX2_worth_64 ?_
    exact jx_iret dX2_worth_65 rfl rfl (jle rfl) (jle rfl) ⟨_, rfl, h⟩
  replace h := h.2
  by_cases c4 : (ji S a0 0) = 3
  · replace h := h.1 c4
    refine jx_tableIn (v := 3) (tgt := 48) (off := 44) kd14 c4 (by decide) (by decide) (by decide) (by decide) ?_
    refine jx_iconst (v := 2) dX2_worth_48 (by decide) ?_
    refine jx_aload_n 0 dX2_worth_49 rfl rfl ?_
    refine jx_geti jc_2 (j := 4) (by decide) rfl jwF_X2_21 dX2_worth_50 hk1 ?_
    refine jx_bipush (v := 11) dX2_worth_53 (by decide) ?_
    refine jx_iadd dX2_worth_55 ?_
    refine jx_imul dX2_worth_56 ?_
    exact jx_iret dX2_worth_57 rfl rfl (jle rfl) (jle rfl) ⟨_, rfl, h⟩
  replace h := h.2
  by_cases c5 : (ji S a0 0) = 4
  · replace h := h.1 c5
    refine jx_tableIn (v := 4) (tgt := 66) (off := 62) kd14 c5 (by decide) (by decide) (by decide) (by decide) ?_
    refine jx_bipush (v := 99) dX2_worth_66 (by decide) ?_
    refine jx_aload_n 0 dX2_worth_68 rfl rfl ?_
    refine jx_geti jc_2 (j := 4) (by decide) rfl jwF_X2_21 dX2_worth_69 hk1 ?_
    refine jx_isub dX2_worth_72 ?_
    refine jx_iconst (v := 4) dX2_worth_73 (by decide) ?_
    refine jx_isub dX2_worth_74 ?_
    exact jx_iret dX2_worth_75 rfl rfl (jle rfl) (jle rfl) ⟨_, rfl, h⟩
  replace h := h.2
  by_cases c6 : (ji S a0 0) = 5
  · replace h := h.1 c6
    refine jx_tableIn (v := 5) (tgt := 76) (off := 72) kd14 c6 (by decide) (by decide) (by decide) (by decide) ?_
    refine jx_bipush (v := 8) dX2_worth_76 (by decide) ?_
    exact jx_iret dX2_worth_78 rfl rfl (jle rfl) (jle rfl) ⟨_, rfl, h⟩
  replace h := h.2
  replace h := h c2 c3 c4 c5 c6
  refine jx_tableD (tgt := 79) ([1, 2, 3, 4, 5] : List Int) kd14 (by simp only [List.mem_cons, List.not_mem_nil, or_false, forall_eq_or_imp, forall_eq]; exact ⟨lv_neT c2 (by decide), lv_neT c3 (by decide), lv_neT c4 (by decide), lv_neT c5 (by decide), lv_neT c6 (by decide)⟩) (by decide) (by decide) (by decide) ?_
  refine jx_aload_n 0 dX2_worth_79 rfl rfl ?_
  refine jx_geti jc_2 (j := 4) (by decide) rfl jwF_X2_21 dX2_worth_80 hk1 ?_
  exact jx_iret dX2_worth_83 rfl rfl (jle rfl) (jle rfl) ⟨_, rfl, h⟩
set_option maxRecDepth 100000 in
set_option maxHeartbeats 4000000 in
theorem T_X6_init {E : jEnv} {d : Nat} {Q : jM → Prop} {a0 : Nat} {S : jM} (h : jk S a0 = 6 ∧ ∀ q2, q2 = jn (jput S a0 0 (-1)) → jk (jnew (jput S a0 0 (-1)) 12 24) a0 = 6 ∧ Q (jputr (jnew (jput S a0 0 (-1)) 12 24) a0 2 (some q2))) : jFv E mX6_init (d + 1) 1 24 [.ref a0] S Q := by
  refine jF_of (by decide) (jle rfl) ?_
  refine jx_lv (lv1 := [(0, .ref a0)]) [0] rfl ?_
  refine jx_aload_n 0 dX6_init_0 rfl rfl ?_
  refine jx_objInit jwM_X6_3 jwN_obj jwO_obj dX6_init_1 (jRok_m _ _ _) (jle rfl) ?_
  refine jx_aload_n 0 dX6_init_4 rfl rfl ?_
  refine jx_iconst (v := (-1)) dX6_init_5 (by decide) ?_
  obtain ⟨hk1, h⟩ := h
  refine jx_puti jc_6 (j := 0) (by decide) rfl jwF_X6_9 rfl rfl rfl dX6_init_6 hk1 ?_
  refine jx_aload_n 0 dX6_init_9 rfl rfl ?_
  refine jx_bipush (v := 24) dX6_init_10 (by decide) ?_
  refine jx_newa (N := 24) jwA kd28 (by decide) (by decide) (by decide) ⟨jle rfl, jle rfl⟩ ?_
  obtain ⟨q2, hq2⟩ : ∃ q, q = jn (jput S a0 0 (-1)) := ⟨_, rfl⟩
  rw [← hq2]
  replace h := h q2 hq2
  obtain ⟨hk3, h⟩ := h
  refine jx_putrF jc_6 (j := 2) (by decide) rfl jwF_X6_15 rfl rfl rfl rfl rfl dX6_init_14 hk3 ?_
  exact jx_vret dX6_init_17 rfl (jle rfl) (jle rfl) ⟨rfl, h⟩
/-- X6_begin at its loop's head 12 -/
abbrev L_X6_begin_12 (E : jEnv) (d : Nat) (Q : jM → Prop) (a0 : Nat) (x3 : Int32) (S : jM) : Prop := jX E mX6_begin (jRm d 0 0) (jZm E (fun r S' => r = none ∧ Q S') 0 0) 12 [(0, .ref a0), (3, .int x3)] [] S 0 0
set_option maxRecDepth 100000 in
set_option maxHeartbeats 4000000 in
theorem T_X6_begin {E : jEnv} {d : Nat} {Q : jM → Prop} {a0 : Nat} {x1 : Int32} {x2 : Int32} {S : jM} (h : jk S a0 = 6 ∧ L_X6_begin_12 E d Q a0 0 (jput (jput S a0 0 x1) a0 1 x2)) : jFv E mX6_begin d 0 0 [.ref a0, .int x1, .int x2] S Q := by
  refine jF_of (by decide) (jle rfl) ?_
  refine jx_lv (lv1 := [(0, .ref a0), (1, .int x1), (2, .int x2)]) [0, 1, 2] rfl ?_
  refine jx_aload_n 0 dX6_begin_0 rfl rfl ?_
  refine jx_iload_n 1 dX6_begin_1 rfl rfl ?_
  obtain ⟨hk1, h⟩ := h
  refine jx_puti jc_6 (j := 0) (by decide) rfl jwF_X6_9 rfl rfl rfl dX6_begin_2 hk1 ?_
  refine jx_aload_n 0 dX6_begin_5 rfl rfl ?_
  refine jx_iload_n 2 dX6_begin_6 rfl rfl ?_
  refine jx_puti jc_6 (j := 1) (by decide) rfl jwF_X6_19 rfl rfl rfl dX6_begin_7 hk1 ?_
  refine jx_iconst (v := 0) dX6_begin_10 (by decide) ?_
  refine jx_istore_n (lv1 := [(3, .int 0), (0, .ref a0), (1, .int x1), (2, .int x2)]) dX6_begin_11 rfl (by decide) rfl ?_
  exact jx_lv [1, 0] rfl h
set_option maxRecDepth 100000 in
set_option maxHeartbeats 4000000 in
theorem T_X6_begin_12 {E : jEnv} {d : Nat} {Q : jM → Prop} {a0 : Nat} {x3 : Int32} {S : jM} (h : (24 ≤ x3 → Q S) ∧ (¬ 24 ≤ x3 → jk S a0 = 6 ∧ ∃ b4, jr S a0 2 = some b4 ∧ (jk S b4 = 12 ∧ vp_in x3 (jl S b4) ∧ (L_X6_begin_12 E d Q a0 (x3 + 1) (jput S b4 (Int32.toNatClampNeg x3) 0))))) : L_X6_begin_12 E d Q a0 x3 S := by
  show jX E mX6_begin (jRm d 0 0) (jZm E (fun r S' => r = none ∧ Q S') 0 0) 12 [(0, .ref a0), (3, .int x3)] [] S 0 0
  refine jx_iload_n 1 dX6_begin_12 rfl rfl ?_
  refine jx_bipush (v := 24) dX6_begin_13 (by decide) ?_
  refine jx_icmp_ge (tgt := 31) dX6_begin_15 (by decide) (fun c2 => ?_) (fun c2 => ?_)
  · replace h := h.1 c2
    exact jx_vret dX6_begin_31 rfl (jle rfl) (jle rfl) ⟨rfl, h⟩
  replace h := h.2 c2
  refine jx_aload_n 0 dX6_begin_18 rfl rfl ?_
  obtain ⟨hk3, h⟩ := h
  obtain ⟨b4, hb4, h⟩ := h
  refine jx_getr jc_6 (j := 2) (by decide) rfl jwF_X6_15 dX6_begin_19 hk3 hb4 ?_
  refine jx_iload_n 1 dX6_begin_22 rfl rfl ?_
  refine jx_iconst (v := 0) dX6_begin_23 (by decide) ?_
  obtain ⟨hk5, h⟩ := h
  obtain ⟨hi6, h⟩ := h
  refine jx_iast dX6_begin_24 hk5 hi6 ?_
  refine jx_iinc 1 (v := (x3 + 1)) (lv1 := [(3, .int (x3 + 1)), (0, .ref a0)]) kd29.1 rfl rfl (by decide) rfl ?_
  refine jx_goto (tgt := 12) kd29.2 (by decide) ?_
  exact jx_lv [1, 0] rfl h
set_option maxRecDepth 100000 in
set_option maxHeartbeats 4000000 in
theorem T_X6_become {E : jEnv} {d : Nat} {Q : jM → Prop} {a0 : Nat} {a1 : Nat} {S : jM} (h : jk S a1 = 6 ∧ jk S a0 = 6 ∧ ∃ b3, jr S a1 2 = some b3 ∧ (∃ b4, jr S a0 2 = some b4 ∧ (jk S b3 = 12 ∧ jk S b4 = 12 ∧ (¬ (0 : Int32) < 0 ∧ ¬ (0 : Int32) < 0 ∧ ¬ (24 : Int32) < 0 ∧ (Int32.toNatClampNeg 0) + (Int32.toNatClampNeg 24) ≤ jl S b3 ∧ (Int32.toNatClampNeg 0) + (Int32.toNatClampNeg 24) ≤ jl S b4) ∧ (Q (jrow (jput (jput S a0 0 (ji S a1 0)) a0 1 (ji S a1 1)) b4 (va_cpy (ji (jput (jput S a0 0 (ji S a1 0)) a0 1 (ji S a1 1)) b3) (ji (jput (jput S a0 0 (ji S a1 0)) a0 1 (ji S a1 1)) b4) (Int32.toNatClampNeg 0) (Int32.toNatClampNeg 0) (Int32.toNatClampNeg 24))))))) : jFv E mX6_become (d + 1) 0 0 [.ref a0, .ref a1] S Q := by
  refine jF_of (by decide) (jle rfl) ?_
  refine jx_lv (lv1 := [(0, .ref a0), (1, .ref a1)]) [0, 1] rfl ?_
  refine jx_aload_n 0 dX6_become_0 rfl rfl ?_
  refine jx_aload_n 1 dX6_become_1 rfl rfl ?_
  obtain ⟨hk1, h⟩ := h
  refine jx_geti jc_6 (j := 0) (by decide) rfl jwF_X6_9 dX6_become_2 hk1 ?_
  obtain ⟨hk2, h⟩ := h
  refine jx_puti jc_6 (j := 0) (by decide) rfl jwF_X6_9 rfl rfl rfl dX6_become_5 hk2 ?_
  refine jx_aload_n 0 dX6_become_8 rfl rfl ?_
  refine jx_aload_n 1 dX6_become_9 rfl rfl ?_
  refine jx_geti jc_6 (j := 1) (by decide) rfl jwF_X6_19 dX6_become_10 hk1 ?_
  refine jx_topi (y := (ji S a1 1)) (by simp [ji_put, ji_row, ji_putr]) ?_
  refine jx_puti jc_6 (j := 1) (by decide) rfl jwF_X6_19 rfl rfl rfl dX6_become_13 hk2 ?_
  refine jx_aload_n 1 dX6_become_16 rfl rfl ?_
  obtain ⟨b3, hb3, h⟩ := h
  refine jx_getr jc_6 (j := 2) (by decide) rfl jwF_X6_15 dX6_become_17 hk1 hb3 ?_
  refine jx_iconst (v := 0) dX6_become_20 (by decide) ?_
  refine jx_aload_n 0 dX6_become_21 rfl rfl ?_
  obtain ⟨b4, hb4, h⟩ := h
  refine jx_getr jc_6 (j := 2) (by decide) rfl jwF_X6_15 dX6_become_22 hk2 hb4 ?_
  refine jx_iconst (v := 0) dX6_become_25 (by decide) ?_
  refine jx_bipush (v := 24) dX6_become_26 (by decide) ?_
  obtain ⟨hk5, h⟩ := h
  obtain ⟨hk6, h⟩ := h
  obtain ⟨⟨hc7, hc8, hc9, hc10, hc11⟩, h⟩ := h
  refine jx_copy jwM_X6_22 jwV_copy jwS_copy jwZ_J10 dX6_become_28 (jRok_m _ _ _) (jle rfl) hk5 hk6 hc7 hc8 hc9 hc10 hc11 ?_
  exact jx_vret dX6_become_31 rfl (jle rfl) (jle rfl) ⟨rfl, h⟩
set_option maxRecDepth 100000 in
set_option maxHeartbeats 4000000 in
theorem T_X6_hasPlace {E : jEnv} {d : Nat} {Q : Int32 → jM → Prop} {a0 : Nat} {x1 : Int32} {S : jM} (h : jk S a0 = 6 ∧ ((jwi x1 (ji S a0 1)) = 0 → Q 0 S) ∧ (¬ (jwi x1 (ji S a0 1)) = 0 → (24 ≤ x1 → Q 0 S) ∧ (¬ 24 ≤ x1 → Q 1 S))) : jFi E mX6_hasPlace (d + 1) 0 0 [.ref a0, .int x1] S Q := by
  refine jF_of (by decide) (jle rfl) ?_
  refine jx_lv (lv1 := [(0, .ref a0), (1, .int x1)]) [0, 1] rfl ?_
  refine jx_iload_n 1 dX6_hasPlace_0 rfl rfl ?_
  refine jx_aload_n 0 dX6_hasPlace_1 rfl rfl ?_
  obtain ⟨hk1, h⟩ := h
  refine jx_geti jc_6 (j := 1) (by decide) rfl jwF_X6_19 dX6_hasPlace_2 hk1 ?_
  refine jx_callSNi (M' := mX10_within) (As := [.int x1, .int (ji S a0 1)]) (host := "NineMasters") jo_X10_within (by decide) jwS_X10_within dX6_hasPlace_5 (jRok_m _ _ _) rfl (jle rfl) ⟨jle rfl, jle rfl⟩ (c_X10_within (Q := fun v S' => v = (jwi x1 (ji S a0 1)) ∧ S = S') ⟨rfl, rfl⟩) (fun r2 S3 hq4 => ?_)
  obtain ⟨rfl, rfl⟩ := hq4
  refine jx_if_eq (tgt := 21) dX6_hasPlace_8 (by decide) (fun c5 => ?_) (fun c5 => ?_)
  · replace h := h.1 c5
    refine jx_iconst (v := 0) dX6_hasPlace_21 (by decide) ?_
    exact jx_iret dX6_hasPlace_22 rfl (by decide) (jle rfl) (jle rfl) ⟨_, rfl, h⟩
  replace h := h.2 c5
  refine jx_iload_n 1 dX6_hasPlace_11 rfl rfl ?_
  refine jx_bipush (v := 24) dX6_hasPlace_12 (by decide) ?_
  refine jx_icmp_ge (tgt := 21) dX6_hasPlace_14 (by decide) (fun c6 => ?_) (fun c6 => ?_)
  · replace h := h.1 c6
    refine jx_iconst (v := 0) dX6_hasPlace_21 (by decide) ?_
    exact jx_iret dX6_hasPlace_22 rfl (by decide) (jle rfl) (jle rfl) ⟨_, rfl, h⟩
  replace h := h.2 c6
  refine jx_iconst (v := 1) dX6_hasPlace_17 (by decide) ?_
  refine jx_goto (tgt := 22) dX6_hasPlace_18 (by decide) ?_
  exact jx_iret dX6_hasPlace_22 rfl (by decide) (jle rfl) (jle rfl) ⟨_, rfl, h⟩
set_option maxRecDepth 100000 in
set_option maxHeartbeats 4000000 in
theorem T_X6_hasPlaces {E : jEnv} {d : Nat} {Q : Int32 → jM → Prop} {a0 : Nat} {x1 : Int32} {x2 : Int32} {S : jM} (h : (x1 < 0 → Q 0 S) ∧ (¬ x1 < 0 → (x2 < 0 → Q 0 S) ∧ (¬ x2 < 0 → jk S a0 = 6 ∧ ((ji S a0 1) < x2 → Q 0 S) ∧ (¬ (ji S a0 1) < x2 → (((ji S a0 1) - x2) < x1 → Q 0 S) ∧ (¬ ((ji S a0 1) - x2) < x1 → Q 1 S))))) : jFi E mX6_hasPlaces d 0 0 [.ref a0, .int x1, .int x2] S Q := by
  refine jF_of (by decide) (jle rfl) ?_
  refine jx_lv (lv1 := [(0, .ref a0), (1, .int x1), (2, .int x2)]) [0, 1, 2] rfl ?_
  refine jx_iload_n 1 dX6_hasPlaces_0 rfl rfl ?_
  refine jx_if_lt (tgt := 30) dX6_hasPlaces_1 (by decide) (fun c1 => ?_) (fun c1 => ?_)
  · replace h := h.1 c1
    refine jx_iconst (v := 0) dX6_hasPlaces_30 (by decide) ?_
    exact jx_iret dX6_hasPlaces_31 rfl (by decide) (jle rfl) (jle rfl) ⟨_, rfl, h⟩
  replace h := h.2 c1
  refine jx_iload_n 2 dX6_hasPlaces_4 rfl rfl ?_
  refine jx_if_lt (tgt := 30) dX6_hasPlaces_5 (by decide) (fun c2 => ?_) (fun c2 => ?_)
  · replace h := h.1 c2
    refine jx_iconst (v := 0) dX6_hasPlaces_30 (by decide) ?_
    exact jx_iret dX6_hasPlaces_31 rfl (by decide) (jle rfl) (jle rfl) ⟨_, rfl, h⟩
  replace h := h.2 c2
  refine jx_iload_n 2 dX6_hasPlaces_8 rfl rfl ?_
  refine jx_aload_n 0 dX6_hasPlaces_9 rfl rfl ?_
  obtain ⟨hk3, h⟩ := h
  refine jx_geti jc_6 (j := 1) (by decide) rfl jwF_X6_19 dX6_hasPlaces_10 hk3 ?_
  refine jx_icmp_gt (tgt := 30) dX6_hasPlaces_13 (by decide) (fun c4 => ?_) (fun c4 => ?_)
  · replace h := h.1 c4
    refine jx_iconst (v := 0) dX6_hasPlaces_30 (by decide) ?_
    exact jx_iret dX6_hasPlaces_31 rfl (by decide) (jle rfl) (jle rfl) ⟨_, rfl, h⟩
  replace h := h.2 c4
  refine jx_iload_n 1 dX6_hasPlaces_16 rfl rfl ?_
  refine jx_aload_n 0 dX6_hasPlaces_17 rfl rfl ?_
  refine jx_geti jc_6 (j := 1) (by decide) rfl jwF_X6_19 dX6_hasPlaces_18 hk3 ?_
  refine jx_iload_n 2 dX6_hasPlaces_21 rfl rfl ?_
  refine jx_isub dX6_hasPlaces_22 ?_
  refine jx_icmp_gt (tgt := 30) dX6_hasPlaces_23 (by decide) (fun c5 => ?_) (fun c5 => ?_)
  · replace h := h.1 c5
    refine jx_iconst (v := 0) dX6_hasPlaces_30 (by decide) ?_
    exact jx_iret dX6_hasPlaces_31 rfl (by decide) (jle rfl) (jle rfl) ⟨_, rfl, h⟩
  replace h := h.2 c5
  refine jx_iconst (v := 1) dX6_hasPlaces_26 (by decide) ?_
  refine jx_goto (tgt := 31) dX6_hasPlaces_27 (by decide) ?_
  exact jx_iret dX6_hasPlaces_31 rfl (by decide) (jle rfl) (jle rfl) ⟨_, rfl, h⟩
set_option maxRecDepth 100000 in
set_option maxHeartbeats 4000000 in
theorem T_X6_isNumber {E : jEnv} {d : Nat} {Q : Int32 → jM → Prop} {a0 : Nat} {x1 : Int32} {S : jM} (h : jk S a0 = 6 ∧ jFi E mX6_hasPlace d 0 0 [.ref a0, .int x1] S (fun r3 S2 => (r3 = 0 → Q 0 S2) ∧ (¬ r3 = 0 → jk S2 a0 = 6 ∧ ∃ b6, jr S2 a0 2 = some b6 ∧ (jk S2 b6 = 12 ∧ vp_in x1 (jl S2 b6) ∧ (((ji S2 b6 (Int32.toNatClampNeg x1)) = (-1000000005) → Q 0 S2) ∧ (¬ (ji S2 b6 (Int32.toNatClampNeg x1)) = (-1000000005) → Q 1 S2)))))) : jFi E mX6_isNumber (d + 1) 0 0 [.ref a0, .int x1] S Q := by
  refine jF_of (by decide) (jle rfl) ?_
  refine jx_lv (lv1 := [(0, .ref a0), (1, .int x1)]) [0, 1] rfl ?_
  refine jx_aload_n 0 dX6_isNumber_0 rfl rfl ?_
  refine jx_iload_n 1 dX6_isNumber_1 rfl rfl ?_
  obtain ⟨hk1, h⟩ := h
  refine jx_callVi (M' := mX6_hasPlace) (As := [.int x1]) jo_X6_hasPlace jc_6 rfl jwM_X6_32 jwN_X6_hasPlace jwX_X6_hasPlace dX6_isNumber_2 (jRok_m _ _ _) rfl (jle rfl) ⟨jle rfl, jle rfl⟩ hk1 h (fun r3 S2 h => ?_)
  refine jx_if_eq (tgt := 23) dX6_isNumber_5 (by decide) (fun c4 => ?_) (fun c4 => ?_)
  · replace h := h.1 c4
    refine jx_iconst (v := 0) dX6_isNumber_23 (by decide) ?_
    exact jx_iret dX6_isNumber_24 rfl (by decide) (jle rfl) (jle rfl) ⟨_, rfl, h⟩
  replace h := h.2 c4
  refine jx_aload_n 0 dX6_isNumber_8 rfl rfl ?_
  obtain ⟨hk5, h⟩ := h
  obtain ⟨b6, hb6, h⟩ := h
  refine jx_getr jc_6 (j := 2) (by decide) rfl jwF_X6_15 dX6_isNumber_9 hk5 hb6 ?_
  refine jx_iload_n 1 dX6_isNumber_12 rfl rfl ?_
  obtain ⟨hk7, h⟩ := h
  obtain ⟨hi8, h⟩ := h
  refine jx_iald dX6_isNumber_13 hk7 hi8 ?_
  refine jx_ldc jwC_X6_36 dX6_isNumber_14 ?_
  refine jx_icmp_eq (tgt := 23) dX6_isNumber_16 (by decide) (fun c9 => ?_) (fun c9 => ?_)
  · replace h := h.1 c9
    refine jx_iconst (v := 0) dX6_isNumber_23 (by decide) ?_
    exact jx_iret dX6_isNumber_24 rfl (by decide) (jle rfl) (jle rfl) ⟨_, rfl, h⟩
  replace h := h.2 c9
  refine jx_iconst (v := 1) dX6_isNumber_19 (by decide) ?_
  refine jx_goto (tgt := 24) dX6_isNumber_20 (by decide) ?_
  exact jx_iret dX6_isNumber_24 rfl (by decide) (jle rfl) (jle rfl) ⟨_, rfl, h⟩
set_option maxRecDepth 100000 in
set_option maxHeartbeats 4000000 in
theorem T_X7_init {E : jEnv} {d : Nat} {Q : jM → Prop} {a0 : Nat} {S : jM} (h : jk S a0 = 7 ∧ ∀ q2, q2 = jn (jput S a0 0 0) → jFv E mX2_init d 0 0 [.ref q2] (jnew (jput S a0 0 0) 2 0) (fun S3 => jk S3 a0 = 7 ∧ ∀ q6, q6 = jn (jputr S3 a0 1 (some q2)) → jFv E mX6_init d 1 24 [.ref q6] (jnew (jputr S3 a0 1 (some q2)) 6 0) (fun S7 => jk S7 a0 = 7 ∧ Q (jputr S7 a0 2 (some q6))))) : jFv E mX7_init (d + 1) 3 34 [.ref a0] S Q := by
  refine jF_of (by decide) (jle rfl) ?_
  refine jx_lv (lv1 := [(0, .ref a0)]) [0] rfl ?_
  refine jx_aload_n 0 dX7_init_0 rfl rfl ?_
  refine jx_objInit jwM_X7_3 jwN_obj jwO_obj dX7_init_1 (jRok_m _ _ _) (jle rfl) ?_
  refine jx_aload_n 0 dX7_init_4 rfl rfl ?_
  refine jx_iconst (v := 0) dX7_init_5 (by decide) ?_
  obtain ⟨hk1, h⟩ := h
  refine jx_puti jc_7 (j := 0) (by decide) rfl jwF_X7_9 rfl rfl rfl dX7_init_6 hk1 ?_
  refine jx_aload_n 0 dX7_init_9 rfl rfl ?_
  refine jx_new jc_2 jwK_X7_15 jwI_X2 jwZ_X2 jdv_2 dX7_init_10 ⟨jle rfl, jle rfl⟩ ?_
  obtain ⟨q2, hq2⟩ : ∃ q, q = jn (jput S a0 0 0) := ⟨_, rfl⟩
  rw [← hq2]
  replace h := h q2 hq2
  refine jx_dup dX7_init_13 rfl ?_
  refine jx_callINv (M' := mX2_init) (As := []) (b := q2) (host := "NineMasters") jo_X2_init rfl (by decide) jwN_X2_init rfl dX7_init_14 (jRok_m _ _ _) rfl (jle rfl) ⟨jle rfl, jle rfl⟩ h (fun S3 h => ?_)
  obtain ⟨hk4, h⟩ := h
  refine jx_putrF jc_7 (j := 1) (by decide) rfl jwF_X7_18 rfl rfl rfl rfl rfl dX7_init_17 hk4 ?_
  refine jx_aload_n 0 dX7_init_20 rfl rfl ?_
  refine jx_new jc_6 jwK_X7_22 jwI_X6 jwZ_X6 jdv_6 dX7_init_21 ⟨jle rfl, jle rfl⟩ ?_
  obtain ⟨q6, hq6⟩ : ∃ q, q = jn (jputr S3 a0 1 (some q2)) := ⟨_, rfl⟩
  rw [← hq6]
  replace h := h q6 hq6
  refine jx_dup dX7_init_24 rfl ?_
  refine jx_callINv (M' := mX6_init) (As := []) (b := q6) (host := "NineMasters") jo_X6_init rfl (by decide) jwN_X6_init rfl dX7_init_25 (jRok_m _ _ _) rfl (jle rfl) ⟨jle rfl, jle rfl⟩ h (fun S7 h => ?_)
  obtain ⟨hk8, h⟩ := h
  refine jx_putrF jc_7 (j := 2) (by decide) rfl jwF_X7_25 rfl rfl rfl rfl rfl dX7_init_28 hk8 ?_
  exact jx_vret dX7_init_31 rfl (jle rfl) (jle rfl) ⟨rfl, h⟩
set_option maxRecDepth 100000 in
set_option maxHeartbeats 4000000 in
theorem T_X4_init {E : jEnv} {d : Nat} {Q : jM → Prop} {a0 : Nat} {S : jM} (h : ∀ q1, q1 = jn S → jk (jnew S 12 36) a0 = 4 ∧ ∀ q4, q4 = jn (jputr (jnew S 12 36) a0 0 (some q1)) → jk (jnew (jputr (jnew S 12 36) a0 0 (some q1)) 12 36) a0 = 4 ∧ jFv E mX4_measure d 0 0 [.ref a0] (jputr (jnew (jputr (jnew S 12 36) a0 0 (some q1)) 12 36) a0 1 (some q4)) (fun S7 => Q S7)) : jFv E mX4_init (d + 1) 2 72 [.ref a0] S Q := by
  refine jF_of (by decide) (jle rfl) ?_
  refine jx_lv (lv1 := [(0, .ref a0)]) [0] rfl ?_
  refine jx_aload_n 0 dX4_init_0 rfl rfl ?_
  refine jx_objInit jwM_X4_3 jwN_obj jwO_obj dX4_init_1 (jRok_m _ _ _) (jle rfl) ?_
  refine jx_aload_n 0 dX4_init_4 rfl rfl ?_
  refine jx_bipush (v := 36) dX4_init_5 (by decide) ?_
  refine jx_newa (N := 36) jwA kd22.1 (by decide) (by decide) (by decide) ⟨jle rfl, jle rfl⟩ ?_
  obtain ⟨q1, hq1⟩ : ∃ q, q = jn S := ⟨_, rfl⟩
  rw [← hq1]
  replace h := h q1 hq1
  obtain ⟨hk2, h⟩ := h
  refine jx_putrF jc_4 (j := 0) (by decide) rfl jwF_X4_9 rfl rfl rfl rfl rfl dX4_init_9 hk2 ?_
  refine jx_aload_n 0 dX4_init_12 rfl rfl ?_
  refine jx_bipush (v := 36) dX4_init_13 (by decide) ?_
  refine jx_newa (N := 36) jwA kd22.2 (by decide) (by decide) (by decide) ⟨jle rfl, jle rfl⟩ ?_
  obtain ⟨q4, hq4⟩ : ∃ q, q = jn (jputr (jnew S 12 36) a0 0 (some q1)) := ⟨_, rfl⟩
  rw [← hq4]
  replace h := h q4 hq4
  obtain ⟨hk5, h⟩ := h
  refine jx_putrF jc_4 (j := 1) (by decide) rfl jwF_X4_15 rfl rfl rfl rfl rfl dX4_init_17 hk5 ?_
  refine jx_aload_n 0 dX4_init_20 rfl rfl ?_
  refine jx_callVv (M' := mX4_measure) (As := []) jo_X4_measure jc_4 rfl jwM_X4_18 jwN_X4_measure jwX_X4_measure dX4_init_21 (jRok_m _ _ _) rfl (jle rfl) ⟨jle rfl, jle rfl⟩ hk5 h (fun S7 h => ?_)
  exact jx_vret dX4_init_24 rfl (jle rfl) (jle rfl) ⟨rfl, h⟩
set_option maxRecDepth 100000 in
set_option maxHeartbeats 4000000 in
theorem T_X4_become {E : jEnv} {d : Nat} {Q : jM → Prop} {a0 : Nat} {a1 : Nat} {S : jM} (h : jk S a1 = 4 ∧ ∃ b2, jr S a1 0 = some b2 ∧ (jk S a0 = 4 ∧ ∃ b4, jr S a0 0 = some b4 ∧ (jk S b2 = 12 ∧ jk S b4 = 12 ∧ (¬ (0 : Int32) < 0 ∧ ¬ (0 : Int32) < 0 ∧ ¬ (36 : Int32) < 0 ∧ (Int32.toNatClampNeg 0) + (Int32.toNatClampNeg 36) ≤ jl S b2 ∧ (Int32.toNatClampNeg 0) + (Int32.toNatClampNeg 36) ≤ jl S b4) ∧ (∃ b12, jr S a1 1 = some b12 ∧ (∃ b13, jr S a0 1 = some b13 ∧ (jk S b12 = 12 ∧ jk S b13 = 12 ∧ (¬ (0 : Int32) < 0 ∧ ¬ (0 : Int32) < 0 ∧ ¬ (36 : Int32) < 0 ∧ (Int32.toNatClampNeg 0) + (Int32.toNatClampNeg 36) ≤ jl S b12 ∧ (Int32.toNatClampNeg 0) + (Int32.toNatClampNeg 36) ≤ jl S b13) ∧ (Q (jrow (jrow S b4 (va_cpy (ji S b2) (ji S b4) (Int32.toNatClampNeg 0) (Int32.toNatClampNeg 0) (Int32.toNatClampNeg 36))) b13 (va_cpy (ji (jrow S b4 (va_cpy (ji S b2) (ji S b4) (Int32.toNatClampNeg 0) (Int32.toNatClampNeg 0) (Int32.toNatClampNeg 36))) b12) (ji (jrow S b4 (va_cpy (ji S b2) (ji S b4) (Int32.toNatClampNeg 0) (Int32.toNatClampNeg 0) (Int32.toNatClampNeg 36))) b13) (Int32.toNatClampNeg 0) (Int32.toNatClampNeg 0) (Int32.toNatClampNeg 36)))))))))) : jFv E mX4_become (d + 1) 0 0 [.ref a0, .ref a1] S Q := by
  refine jF_of (by decide) (jle rfl) ?_
  refine jx_lv (lv1 := [(0, .ref a0), (1, .ref a1)]) [0, 1] rfl ?_
  refine jx_aload_n 1 dX4_become_0 rfl rfl ?_
  obtain ⟨hk1, h⟩ := h
  obtain ⟨b2, hb2, h⟩ := h
  refine jx_getr jc_4 (j := 0) (by decide) rfl jwF_X4_9 dX4_become_1 hk1 hb2 ?_
  refine jx_iconst (v := 0) dX4_become_4 (by decide) ?_
  refine jx_aload_n 0 dX4_become_5 rfl rfl ?_
  obtain ⟨hk3, h⟩ := h
  obtain ⟨b4, hb4, h⟩ := h
  refine jx_getr jc_4 (j := 0) (by decide) rfl jwF_X4_9 dX4_become_6 hk3 hb4 ?_
  refine jx_iconst (v := 0) dX4_become_9 (by decide) ?_
  refine jx_bipush (v := 36) dX4_become_10 (by decide) ?_
  obtain ⟨hk5, h⟩ := h
  obtain ⟨hk6, h⟩ := h
  obtain ⟨⟨hc7, hc8, hc9, hc10, hc11⟩, h⟩ := h
  refine jx_copy jwM_X4_21 jwV_copy jwS_copy jwZ_J10 dX4_become_12 (jRok_m _ _ _) (jle rfl) hk5 hk6 hc7 hc8 hc9 hc10 hc11 ?_
  refine jx_aload_n 1 dX4_become_15 rfl rfl ?_
  obtain ⟨b12, hb12, h⟩ := h
  refine jx_getr jc_4 (j := 1) (by decide) rfl jwF_X4_15 dX4_become_16 hk1 hb12 ?_
  refine jx_iconst (v := 0) dX4_become_19 (by decide) ?_
  refine jx_aload_n 0 dX4_become_20 rfl rfl ?_
  obtain ⟨b13, hb13, h⟩ := h
  refine jx_getr jc_4 (j := 1) (by decide) rfl jwF_X4_15 dX4_become_21 hk3 hb13 ?_
  refine jx_iconst (v := 0) dX4_become_24 (by decide) ?_
  refine jx_bipush (v := 36) dX4_become_25 (by decide) ?_
  obtain ⟨hk14, h⟩ := h
  obtain ⟨hk15, h⟩ := h
  obtain ⟨⟨hc16, hc17, hc18, hc19, hc20⟩, h⟩ := h
  refine jx_copy jwM_X4_21 jwV_copy jwS_copy jwZ_J10 dX4_become_27 (jRok_m _ _ _) (jle rfl) hk14 hk15 hc16 hc17 hc18 hc19 hc20 ?_
  exact jx_vret dX4_become_30 rfl (jle rfl) (jle rfl) ⟨rfl, h⟩
set_option maxRecDepth 100000 in
set_option maxHeartbeats 4000000 in
theorem T_X4_direct {E : jEnv} {d : Nat} {Q : Int32 → jM → Prop} {a0 : Nat} {x1 : Int32} {x2 : Int32} {S : jM} (h : ((jwi x1 6) = 0 → Q 0 S) ∧ (¬ (jwi x1 6) = 0 → ((jwi x2 6) = 0 → Q 0 S) ∧ (¬ (jwi x2 6) = 0 → jk S a0 = 4 ∧ ∃ b10, jr S a0 0 = some b10 ∧ (jk S b10 = 12 ∧ vp_in ((x1 * 6) + x2) (jl S b10) ∧ (Q (ji S b10 (Int32.toNatClampNeg ((x1 * 6) + x2))) S))))) : jFi E mX4_direct (d + 1) 0 0 [.ref a0, .int x1, .int x2] S Q := by
  refine jF_of (by decide) (jle rfl) ?_
  refine jx_lv (lv1 := [(0, .ref a0), (1, .int x1), (2, .int x2)]) [0, 1, 2] rfl ?_
  refine jx_iload_n 1 dX4_direct_0 rfl rfl ?_
  refine jx_bipush (v := 6) dX4_direct_1 (by decide) ?_
  refine jx_callSNi (M' := mX10_within) (As := [.int x1, .int 6]) (host := "NineMasters") jo_X10_within (by decide) jwS_X10_within dX4_direct_3 (jRok_m _ _ _) rfl (jle rfl) ⟨jle rfl, jle rfl⟩ (c_X10_within (Q := fun v S' => v = (jwi x1 6) ∧ S = S') ⟨rfl, rfl⟩) (fun r1 S2 hq3 => ?_)
  obtain ⟨rfl, rfl⟩ := hq3
  refine jx_if_eq (tgt := 32) dX4_direct_6 (by decide) (fun c4 => ?_) (fun c4 => ?_)
  · replace h := h.1 c4
    refine jx_iconst (v := 0) dX4_direct_32 (by decide) ?_
    exact jx_iret dX4_direct_33 rfl rfl (jle rfl) (jle rfl) ⟨_, rfl, h⟩
  replace h := h.2 c4
  refine jx_iload_n 2 dX4_direct_9 rfl rfl ?_
  refine jx_bipush (v := 6) dX4_direct_10 (by decide) ?_
  refine jx_callSNi (M' := mX10_within) (As := [.int x2, .int 6]) (host := "NineMasters") jo_X10_within (by decide) jwS_X10_within dX4_direct_12 (jRok_m _ _ _) rfl (jle rfl) ⟨jle rfl, jle rfl⟩ (c_X10_within (Q := fun v S' => v = (jwi x2 6) ∧ S = S') ⟨rfl, rfl⟩) (fun r5 S6 hq7 => ?_)
  obtain ⟨rfl, rfl⟩ := hq7
  refine jx_if_eq (tgt := 32) dX4_direct_15 (by decide) (fun c8 => ?_) (fun c8 => ?_)
  · replace h := h.1 c8
    refine jx_iconst (v := 0) dX4_direct_32 (by decide) ?_
    exact jx_iret dX4_direct_33 rfl rfl (jle rfl) (jle rfl) ⟨_, rfl, h⟩
  replace h := h.2 c8
  refine jx_aload_n 0 dX4_direct_18 rfl rfl ?_
  obtain ⟨hk9, h⟩ := h
  obtain ⟨b10, hb10, h⟩ := h
  refine jx_getr jc_4 (j := 0) (by decide) rfl jwF_X4_9 dX4_direct_19 hk9 hb10 ?_
  refine jx_iload_n 1 dX4_direct_22 rfl rfl ?_
  refine jx_bipush (v := 6) dX4_direct_23 (by decide) ?_
  refine jx_imul dX4_direct_25 ?_
  refine jx_iload_n 2 dX4_direct_26 rfl rfl ?_
  refine jx_iadd dX4_direct_27 ?_
  obtain ⟨hk11, h⟩ := h
  obtain ⟨hi12, h⟩ := h
  refine jx_iald dX4_direct_28 hk11 hi12 ?_
  refine jx_goto (tgt := 33) dX4_direct_29 (by decide) ?_
  exact jx_iret dX4_direct_33 rfl rfl (jle rfl) (jle rfl) ⟨_, rfl, h⟩
set_option maxRecDepth 100000 in
set_option maxHeartbeats 4000000 in
theorem T_X4_fewest {E : jEnv} {d : Nat} {Q : Int32 → jM → Prop} {a0 : Nat} {x1 : Int32} {x2 : Int32} {S : jM} (h : ((jwi x1 6) = 0 → Q 9999 S) ∧ (¬ (jwi x1 6) = 0 → ((jwi x2 6) = 0 → Q 9999 S) ∧ (¬ (jwi x2 6) = 0 → jk S a0 = 4 ∧ ∃ b10, jr S a0 1 = some b10 ∧ (jk S b10 = 12 ∧ vp_in ((x1 * 6) + x2) (jl S b10) ∧ (Q (ji S b10 (Int32.toNatClampNeg ((x1 * 6) + x2))) S))))) : jFi E mX4_fewest (d + 1) 0 0 [.ref a0, .int x1, .int x2] S Q := by
  refine jF_of (by decide) (jle rfl) ?_
  refine jx_lv (lv1 := [(0, .ref a0), (1, .int x1), (2, .int x2)]) [0, 1, 2] rfl ?_
  refine jx_iload_n 1 dX4_fewest_0 rfl rfl ?_
  refine jx_bipush (v := 6) dX4_fewest_1 (by decide) ?_
  refine jx_callSNi (M' := mX10_within) (As := [.int x1, .int 6]) (host := "NineMasters") jo_X10_within (by decide) jwS_X10_within dX4_fewest_3 (jRok_m _ _ _) rfl (jle rfl) ⟨jle rfl, jle rfl⟩ (c_X10_within (Q := fun v S' => v = (jwi x1 6) ∧ S = S') ⟨rfl, rfl⟩) (fun r1 S2 hq3 => ?_)
  obtain ⟨rfl, rfl⟩ := hq3
  refine jx_if_eq (tgt := 32) dX4_fewest_6 (by decide) (fun c4 => ?_) (fun c4 => ?_)
  · replace h := h.1 c4
    refine jx_sipush (v := 9999) dX4_fewest_32 (by decide) ?_
    exact jx_iret dX4_fewest_35 rfl rfl (jle rfl) (jle rfl) ⟨_, rfl, h⟩
  replace h := h.2 c4
  refine jx_iload_n 2 dX4_fewest_9 rfl rfl ?_
  refine jx_bipush (v := 6) dX4_fewest_10 (by decide) ?_
  refine jx_callSNi (M' := mX10_within) (As := [.int x2, .int 6]) (host := "NineMasters") jo_X10_within (by decide) jwS_X10_within dX4_fewest_12 (jRok_m _ _ _) rfl (jle rfl) ⟨jle rfl, jle rfl⟩ (c_X10_within (Q := fun v S' => v = (jwi x2 6) ∧ S = S') ⟨rfl, rfl⟩) (fun r5 S6 hq7 => ?_)
  obtain ⟨rfl, rfl⟩ := hq7
  refine jx_if_eq (tgt := 32) dX4_fewest_15 (by decide) (fun c8 => ?_) (fun c8 => ?_)
  · replace h := h.1 c8
    refine jx_sipush (v := 9999) dX4_fewest_32 (by decide) ?_
    exact jx_iret dX4_fewest_35 rfl rfl (jle rfl) (jle rfl) ⟨_, rfl, h⟩
  replace h := h.2 c8
  refine jx_aload_n 0 dX4_fewest_18 rfl rfl ?_
  obtain ⟨hk9, h⟩ := h
  obtain ⟨b10, hb10, h⟩ := h
  refine jx_getr jc_4 (j := 1) (by decide) rfl jwF_X4_15 dX4_fewest_19 hk9 hb10 ?_
  refine jx_iload_n 1 dX4_fewest_22 rfl rfl ?_
  refine jx_bipush (v := 6) dX4_fewest_23 (by decide) ?_
  refine jx_imul dX4_fewest_25 ?_
  refine jx_iload_n 2 dX4_fewest_26 rfl rfl ?_
  refine jx_iadd dX4_fewest_27 ?_
  obtain ⟨hk11, h⟩ := h
  obtain ⟨hi12, h⟩ := h
  refine jx_iald dX4_fewest_28 hk11 hi12 ?_
  refine jx_goto (tgt := 35) dX4_fewest_29 (by decide) ?_
  exact jx_iret dX4_fewest_35 rfl rfl (jle rfl) (jle rfl) ⟨_, rfl, h⟩
set_option maxRecDepth 100000 in
set_option maxHeartbeats 4000000 in
theorem T_X4_build {E : jEnv} {d : Nat} {Q : jM → Prop} {a0 : Nat} {x1 : Int32} {x2 : Int32} {x3 : Int32} {S : jM} (h : ((jwi x1 6) = 0 → Q S) ∧ (¬ (jwi x1 6) = 0 → ((jwi x2 6) = 0 → Q S) ∧ (¬ (jwi x2 6) = 0 → jk S a0 = 4 ∧ ∃ b10, jr S a0 0 = some b10 ∧ (jk S b10 = 12 ∧ vp_in ((x1 * 6) + x2) (jl S b10) ∧ (vp_in ((x2 * 6) + x1) (jl S b10) ∧ (jFv E mX4_measure d 0 0 [.ref a0] (jput (jput S b10 (Int32.toNatClampNeg ((x1 * 6) + x2)) x3) b10 (Int32.toNatClampNeg ((x2 * 6) + x1)) x3) (fun S14 => Q S14))))))) : jFv E mX4_build (d + 1) 0 0 [.ref a0, .int x1, .int x2, .int x3] S Q := by
  refine jF_of (by decide) (jle rfl) ?_
  refine jx_lv (lv1 := [(0, .ref a0), (1, .int x1), (2, .int x2), (3, .int x3)]) [0, 1, 2, 3] rfl ?_
  refine jx_iload_n 1 dX4_build_0 rfl rfl ?_
  refine jx_bipush (v := 6) dX4_build_1 (by decide) ?_
  refine jx_callSNi (M' := mX10_within) (As := [.int x1, .int 6]) (host := "NineMasters") jo_X10_within (by decide) jwS_X10_within dX4_build_3 (jRok_m _ _ _) rfl (jle rfl) ⟨jle rfl, jle rfl⟩ (c_X10_within (Q := fun v S' => v = (jwi x1 6) ∧ S = S') ⟨rfl, rfl⟩) (fun r1 S2 hq3 => ?_)
  obtain ⟨rfl, rfl⟩ := hq3
  refine jx_if_eq (tgt := 46) dX4_build_6 (by decide) (fun c4 => ?_) (fun c4 => ?_)
  · replace h := h.1 c4
    exact jx_vret dX4_build_46 rfl (jle rfl) (jle rfl) ⟨rfl, h⟩
  replace h := h.2 c4
  refine jx_iload_n 2 dX4_build_9 rfl rfl ?_
  refine jx_bipush (v := 6) dX4_build_10 (by decide) ?_
  refine jx_callSNi (M' := mX10_within) (As := [.int x2, .int 6]) (host := "NineMasters") jo_X10_within (by decide) jwS_X10_within dX4_build_12 (jRok_m _ _ _) rfl (jle rfl) ⟨jle rfl, jle rfl⟩ (c_X10_within (Q := fun v S' => v = (jwi x2 6) ∧ S = S') ⟨rfl, rfl⟩) (fun r5 S6 hq7 => ?_)
  obtain ⟨rfl, rfl⟩ := hq7
  refine jx_if_eq (tgt := 46) dX4_build_15 (by decide) (fun c8 => ?_) (fun c8 => ?_)
  · replace h := h.1 c8
    exact jx_vret dX4_build_46 rfl (jle rfl) (jle rfl) ⟨rfl, h⟩
  replace h := h.2 c8
  refine jx_aload_n 0 dX4_build_18 rfl rfl ?_
  obtain ⟨hk9, h⟩ := h
  obtain ⟨b10, hb10, h⟩ := h
  refine jx_getr jc_4 (j := 0) (by decide) rfl jwF_X4_9 dX4_build_19 hk9 hb10 ?_
  refine jx_iload_n 1 dX4_build_22 rfl rfl ?_
  refine jx_bipush (v := 6) dX4_build_23 (by decide) ?_
  refine jx_imul dX4_build_25 ?_
  refine jx_iload_n 2 dX4_build_26 rfl rfl ?_
  refine jx_iadd dX4_build_27 ?_
  refine jx_iload_n 3 dX4_build_28 rfl rfl ?_
  obtain ⟨hk11, h⟩ := h
  obtain ⟨hi12, h⟩ := h
  refine jx_iast dX4_build_29 hk11 hi12 ?_
  refine jx_aload_n 0 dX4_build_30 rfl rfl ?_
  refine jx_getr jc_4 (j := 0) (by decide) rfl jwF_X4_9 dX4_build_31 hk9 hb10 ?_
  refine jx_iload_n 2 dX4_build_34 rfl rfl ?_
  refine jx_bipush (v := 6) dX4_build_35 (by decide) ?_
  refine jx_imul dX4_build_37 ?_
  refine jx_iload_n 1 dX4_build_38 rfl rfl ?_
  refine jx_iadd dX4_build_39 ?_
  refine jx_iload_n 3 dX4_build_40 rfl rfl ?_
  obtain ⟨hi13, h⟩ := h
  refine jx_iast dX4_build_41 hk11 hi13 ?_
  refine jx_aload_n 0 dX4_build_42 rfl rfl ?_
  refine jx_callVv (M' := mX4_measure) (As := []) jo_X4_measure jc_4 rfl jwM_X4_18 jwN_X4_measure jwX_X4_measure dX4_build_43 (jRok_m _ _ _) rfl (jle rfl) ⟨jle rfl, jle rfl⟩ hk9 h (fun S14 h => ?_)
  exact jx_vret dX4_build_46 rfl (jle rfl) (jle rfl) ⟨rfl, h⟩
/-- X4_measure at its loop's head 2 -/
abbrev L_X4_measure_2 (E : jEnv) (d : Nat) (Q : jM → Prop) (a0 : Nat) (x1 : Int32) (S : jM) : Prop := jX E mX4_measure (jRm (d + 1) 0 0) (jZm E (fun r S' => r = none ∧ Q S') 0 0) 2 [(0, .ref a0), (1, .int x1)] [] S 0 0
/-- X4_measure at its loop's head 73 -/
abbrev L_X4_measure_73 (E : jEnv) (d : Nat) (Q : jM → Prop) (a0 : Nat) (x1 : Int32) (S : jM) : Prop := jX E mX4_measure (jRm (d + 1) 0 0) (jZm E (fun r S' => r = none ∧ Q S') 0 0) 73 [(0, .ref a0), (1, .int x1)] [] S 0 0
/-- X4_measure at its loop's head 10 -/
abbrev L_X4_measure_10 (E : jEnv) (d : Nat) (Q : jM → Prop) (a0 : Nat) (x1 : Int32) (x2 : Int32) (S : jM) : Prop := jX E mX4_measure (jRm (d + 1) 0 0) (jZm E (fun r S' => r = none ∧ Q S') 0 0) 10 [(0, .ref a0), (1, .int x1), (2, .int x2)] [] S 0 0
/-- X4_measure at its loop's head 81 -/
abbrev L_X4_measure_81 (E : jEnv) (d : Nat) (Q : jM → Prop) (a0 : Nat) (x1 : Int32) (x2 : Int32) (S : jM) : Prop := jX E mX4_measure (jRm (d + 1) 0 0) (jZm E (fun r S' => r = none ∧ Q S') 0 0) 81 [(0, .ref a0), (1, .int x1), (2, .int x2)] [] S 0 0
/-- X4_measure at its loop's head 89 -/
abbrev L_X4_measure_89 (E : jEnv) (d : Nat) (Q : jM → Prop) (a0 : Nat) (x1 : Int32) (x2 : Int32) (x3 : Int32) (S : jM) : Prop := jX E mX4_measure (jRm (d + 1) 0 0) (jZm E (fun r S' => r = none ∧ Q S') 0 0) 89 [(0, .ref a0), (1, .int x1), (2, .int x2), (3, .int x3)] [] S 0 0
set_option maxRecDepth 100000 in
set_option maxHeartbeats 4000000 in
theorem T_X4_measure {E : jEnv} {d : Nat} {Q : jM → Prop} {a0 : Nat} {S : jM} (h : L_X4_measure_2 E d Q a0 0 S) : jFv E mX4_measure (d + 1) 0 0 [.ref a0] S Q := by
  refine jF_of (by decide) (jle rfl) ?_
  refine jx_lv (lv1 := [(0, .ref a0)]) [0] rfl ?_
  refine jx_iconst (v := 0) dX4_measure_0 (by decide) ?_
  refine jx_istore_n (lv1 := [(1, .int 0), (0, .ref a0)]) dX4_measure_1 rfl (by decide) rfl ?_
  exact jx_lv [1, 0] rfl h
set_option maxRecDepth 100000 in
set_option maxHeartbeats 4000000 in
theorem T_X4_measure_2 {E : jEnv} {d : Nat} {Q : jM → Prop} {a0 : Nat} {x1 : Int32} {S : jM} (h : (6 ≤ x1 → L_X4_measure_73 E d Q a0 0 S) ∧ (¬ 6 ≤ x1 → L_X4_measure_10 E d Q a0 x1 0 S)) : L_X4_measure_2 E d Q a0 x1 S := by
  show jX E mX4_measure (jRm (d + 1) 0 0) (jZm E (fun r S' => r = none ∧ Q S') 0 0) 2 [(0, .ref a0), (1, .int x1)] [] S 0 0
  refine jx_iload_n 1 dX4_measure_2 rfl rfl ?_
  refine jx_bipush (v := 6) dX4_measure_3 (by decide) ?_
  refine jx_icmp_ge (tgt := 71) dX4_measure_5 (by decide) (fun c1 => ?_) (fun c1 => ?_)
  · replace h := h.1 c1
    refine jx_iconst (v := 0) dX4_measure_71 (by decide) ?_
    refine jx_istore_n (lv1 := [(1, .int 0), (0, .ref a0)]) dX4_measure_72 rfl (by decide) rfl ?_
    exact jx_lv [1, 0] rfl h
  replace h := h.2 c1
  refine jx_iconst (v := 0) dX4_measure_8 (by decide) ?_
  refine jx_istore_n (lv1 := [(2, .int 0), (0, .ref a0), (1, .int x1)]) dX4_measure_9 rfl (by decide) rfl ?_
  exact jx_lv [1, 2, 0] rfl h
set_option maxRecDepth 100000 in
set_option maxHeartbeats 4000000 in
theorem T_X4_measure_73 {E : jEnv} {d : Nat} {Q : jM → Prop} {a0 : Nat} {x1 : Int32} {S : jM} (h : (6 ≤ x1 → Q S) ∧ (¬ 6 ≤ x1 → L_X4_measure_81 E d Q a0 x1 0 S)) : L_X4_measure_73 E d Q a0 x1 S := by
  show jX E mX4_measure (jRm (d + 1) 0 0) (jZm E (fun r S' => r = none ∧ Q S') 0 0) 73 [(0, .ref a0), (1, .int x1)] [] S 0 0
  refine jx_iload_n 1 dX4_measure_73 rfl rfl ?_
  refine jx_bipush (v := 6) dX4_measure_74 (by decide) ?_
  refine jx_icmp_ge (tgt := 165) dX4_measure_76 (by decide) (fun c2 => ?_) (fun c2 => ?_)
  · replace h := h.1 c2
    exact jx_vret dX4_measure_165 rfl (jle rfl) (jle rfl) ⟨rfl, h⟩
  replace h := h.2 c2
  refine jx_iconst (v := 0) dX4_measure_79 (by decide) ?_
  refine jx_istore_n (lv1 := [(2, .int 0), (0, .ref a0), (1, .int x1)]) dX4_measure_80 rfl (by decide) rfl ?_
  exact jx_lv [1, 2, 0] rfl h
set_option maxRecDepth 100000 in
set_option maxHeartbeats 4000000 in
theorem T_X4_measure_10 {E : jEnv} {d : Nat} {Q : jM → Prop} {a0 : Nat} {x1 : Int32} {x2 : Int32} {S : jM} (h : (6 ≤ x2 → L_X4_measure_2 E d Q a0 (x1 + 1) S) ∧ (¬ 6 ≤ x2 → jk S a0 = 4 ∧ ∃ b5, jr S a0 0 = some b5 ∧ (jk S b5 = 12 ∧ vp_in ((x1 * 6) + x2) (jl S b5) ∧ (∃ b8, jr S a0 1 = some b8 ∧ ((x1 = x2 → jk S b8 = 12 ∧ vp_in ((x1 * 6) + x2) (jl S b8) ∧ (L_X4_measure_10 E d Q a0 x1 (x2 + 1) (jput S b8 (Int32.toNatClampNeg ((x1 * 6) + x2)) 0))) ∧ (¬ x1 = x2 → ((ji S b5 (Int32.toNatClampNeg ((x1 * 6) + x2))) = 0 → jk S b8 = 12 ∧ vp_in ((x1 * 6) + x2) (jl S b8) ∧ (L_X4_measure_10 E d Q a0 x1 (x2 + 1) (jput S b8 (Int32.toNatClampNeg ((x1 * 6) + x2)) 9999))) ∧ (¬ (ji S b5 (Int32.toNatClampNeg ((x1 * 6) + x2))) = 0 → jk S b8 = 12 ∧ vp_in ((x1 * 6) + x2) (jl S b8) ∧ (L_X4_measure_10 E d Q a0 x1 (x2 + 1) (jput S b8 (Int32.toNatClampNeg ((x1 * 6) + x2)) (ji S b5 (Int32.toNatClampNeg ((x1 * 6) + x2)))))))))))) : L_X4_measure_10 E d Q a0 x1 x2 S := by
  show jX E mX4_measure (jRm (d + 1) 0 0) (jZm E (fun r S' => r = none ∧ Q S') 0 0) 10 [(0, .ref a0), (1, .int x1), (2, .int x2)] [] S 0 0
  refine jx_iload_n 2 dX4_measure_10 rfl rfl ?_
  refine jx_bipush (v := 6) dX4_measure_11 (by decide) ?_
  refine jx_icmp_ge (tgt := 65) dX4_measure_13 (by decide) (fun c3 => ?_) (fun c3 => ?_)
  · replace h := h.1 c3
    refine jx_iinc 1 (v := (x1 + 1)) (lv1 := [(1, .int (x1 + 1)), (0, .ref a0), (2, .int x2)]) kd23.2.2.1 rfl rfl (by decide) rfl ?_
    refine jx_goto (tgt := 2) kd23.2.2.2.1 (by decide) ?_
    exact jx_lv [1, 0] rfl h
  replace h := h.2 c3
  refine jx_aload_n 0 dX4_measure_16 rfl rfl ?_
  obtain ⟨hk4, h⟩ := h
  obtain ⟨b5, hb5, h⟩ := h
  refine jx_getr jc_4 (j := 0) (by decide) rfl jwF_X4_9 dX4_measure_17 hk4 hb5 ?_
  refine jx_iload_n 1 dX4_measure_20 rfl rfl ?_
  refine jx_bipush (v := 6) dX4_measure_21 (by decide) ?_
  refine jx_imul dX4_measure_23 ?_
  refine jx_iload_n 2 dX4_measure_24 rfl rfl ?_
  refine jx_iadd dX4_measure_25 ?_
  obtain ⟨hk6, h⟩ := h
  obtain ⟨hi7, h⟩ := h
  refine jx_iald dX4_measure_26 hk6 hi7 ?_
  refine jx_istore_n (lv1 := [(3, .int (ji S b5 (Int32.toNatClampNeg ((x1 * 6) + x2)))), (0, .ref a0), (1, .int x1), (2, .int x2)]) dX4_measure_27 rfl (by decide) rfl ?_
  refine jx_aload_n 1 dX4_measure_28 rfl rfl ?_
  obtain ⟨b8, hb8, h⟩ := h
  refine jx_getr jc_4 (j := 1) (by decide) rfl jwF_X4_15 dX4_measure_29 hk4 hb8 ?_
  refine jx_iload_n 2 dX4_measure_32 rfl rfl ?_
  refine jx_bipush (v := 6) dX4_measure_33 (by decide) ?_
  refine jx_imul dX4_measure_35 ?_
  refine jx_iload_n 3 dX4_measure_36 rfl rfl ?_
  refine jx_iadd dX4_measure_37 ?_
  refine jx_iload_n 2 dX4_measure_38 rfl rfl ?_
  refine jx_iload_n 3 dX4_measure_39 rfl rfl ?_
  refine jx_icmp_ne (tgt := 47) dX4_measure_40 (by decide) (fun c9 => ?_) (fun c9 => ?_)
  · replace h := h.2 c9
    refine jx_iload_n 0 dX4_measure_47 rfl rfl ?_
    refine jx_if_ne (tgt := 57) dX4_measure_48 (by decide) (fun c10 => ?_) (fun c10 => ?_)
    · replace h := h.2 c10
      refine jx_iload_n 0 dX4_measure_57 rfl rfl ?_
      obtain ⟨hk11, h⟩ := h
      obtain ⟨hi12, h⟩ := h
      refine jx_iast dX4_measure_58 hk11 hi12 ?_
      refine jx_iinc 3 (v := (x2 + 1)) (lv1 := [(2, .int (x2 + 1)), (3, .int (ji S b5 (Int32.toNatClampNeg ((x1 * 6) + x2)))), (0, .ref a0), (1, .int x1)]) kd23.1 rfl rfl (by decide) rfl ?_
      refine jx_goto (tgt := 10) kd23.2.1 (by decide) ?_
      exact jx_lv [2, 3, 0] rfl h
    replace h := h.1 c10
    refine jx_sipush (v := 9999) dX4_measure_51 (by decide) ?_
    refine jx_goto (tgt := 58) dX4_measure_54 (by decide) ?_
    obtain ⟨hk13, h⟩ := h
    obtain ⟨hi14, h⟩ := h
    refine jx_iast dX4_measure_58 hk13 hi14 ?_
    refine jx_iinc 3 (v := (x2 + 1)) (lv1 := [(2, .int (x2 + 1)), (3, .int (ji S b5 (Int32.toNatClampNeg ((x1 * 6) + x2)))), (0, .ref a0), (1, .int x1)]) kd23.1 rfl rfl (by decide) rfl ?_
    refine jx_goto (tgt := 10) kd23.2.1 (by decide) ?_
    exact jx_lv [2, 3, 0] rfl h
  replace h := h.1 c9
  refine jx_iconst (v := 0) dX4_measure_43 (by decide) ?_
  refine jx_goto (tgt := 58) dX4_measure_44 (by decide) ?_
  obtain ⟨hk15, h⟩ := h
  obtain ⟨hi16, h⟩ := h
  refine jx_iast dX4_measure_58 hk15 hi16 ?_
  refine jx_iinc 3 (v := (x2 + 1)) (lv1 := [(2, .int (x2 + 1)), (3, .int (ji S b5 (Int32.toNatClampNeg ((x1 * 6) + x2)))), (0, .ref a0), (1, .int x1)]) kd23.1 rfl rfl (by decide) rfl ?_
  refine jx_goto (tgt := 10) kd23.2.1 (by decide) ?_
  exact jx_lv [2, 3, 0] rfl h
set_option maxRecDepth 100000 in
set_option maxHeartbeats 4000000 in
theorem T_X4_measure_81 {E : jEnv} {d : Nat} {Q : jM → Prop} {a0 : Nat} {x1 : Int32} {x2 : Int32} {S : jM} (h : (6 ≤ x2 → L_X4_measure_73 E d Q a0 (x1 + 1) S) ∧ (¬ 6 ≤ x2 → L_X4_measure_89 E d Q a0 x1 x2 0 S)) : L_X4_measure_81 E d Q a0 x1 x2 S := by
  show jX E mX4_measure (jRm (d + 1) 0 0) (jZm E (fun r S' => r = none ∧ Q S') 0 0) 81 [(0, .ref a0), (1, .int x1), (2, .int x2)] [] S 0 0
  refine jx_iload_n 2 dX4_measure_81 rfl rfl ?_
  refine jx_bipush (v := 6) dX4_measure_82 (by decide) ?_
  refine jx_icmp_ge (tgt := 159) dX4_measure_84 (by decide) (fun c17 => ?_) (fun c17 => ?_)
  · replace h := h.1 c17
    refine jx_iinc 1 (v := (x1 + 1)) (lv1 := [(1, .int (x1 + 1)), (0, .ref a0), (2, .int x2)]) kd23.2.2.2.2.2.2.2.2.1 rfl rfl (by decide) rfl ?_
    refine jx_goto (tgt := 73) kd23.2.2.2.2.2.2.2.2.2 (by decide) ?_
    exact jx_lv [1, 0] rfl h
  replace h := h.2 c17
  refine jx_iconst (v := 0) dX4_measure_87 (by decide) ?_
  refine jx_istore_n (lv1 := [(3, .int 0), (0, .ref a0), (1, .int x1), (2, .int x2)]) dX4_measure_88 rfl (by decide) rfl ?_
  exact jx_lv [1, 2, 3, 0] rfl h
set_option maxRecDepth 100000 in
set_option maxHeartbeats 4000000 in
theorem T_X4_measure_89 {E : jEnv} {d : Nat} {Q : jM → Prop} {a0 : Nat} {x1 : Int32} {x2 : Int32} {x3 : Int32} {S : jM} (h : (6 ≤ x3 → L_X4_measure_81 E d Q a0 x1 (x2 + 1) S) ∧ (¬ 6 ≤ x3 → jk S a0 = 4 ∧ ∃ b20, jr S a0 1 = some b20 ∧ (jk S b20 = 12 ∧ vp_in ((x2 * 6) + x1) (jl S b20) ∧ (vp_in ((x1 * 6) + x3) (jl S b20) ∧ (∀ y24 : Int32, y24 = ((ji S b20 (Int32.toNatClampNeg ((x2 * 6) + x1))) + (ji S b20 (Int32.toNatClampNeg ((x1 * 6) + x3)))) → vp_in ((x2 * 6) + x3) (jl S b20) ∧ ((L_X4_measure_89 E d Q a0 x1 x2 (x3 + 1) (jput S b20 (Int32.toNatClampNeg ((x2 * 6) + x3)) (jmin (ji S b20 (Int32.toNatClampNeg ((x2 * 6) + x3))) y24))))))))) : L_X4_measure_89 E d Q a0 x1 x2 x3 S := by
  show jX E mX4_measure (jRm (d + 1) 0 0) (jZm E (fun r S' => r = none ∧ Q S') 0 0) 89 [(0, .ref a0), (1, .int x1), (2, .int x2), (3, .int x3)] [] S 0 0
  refine jx_iload_n 3 dX4_measure_89 rfl rfl ?_
  refine jx_bipush (v := 6) dX4_measure_90 (by decide) ?_
  refine jx_icmp_ge (tgt := 153) dX4_measure_92 (by decide) (fun c18 => ?_) (fun c18 => ?_)
  · replace h := h.1 c18
    refine jx_iinc 2 (v := (x2 + 1)) (lv1 := [(2, .int (x2 + 1)), (0, .ref a0), (1, .int x1), (3, .int x3)]) kd23.2.2.2.2.2.2.1 rfl rfl (by decide) rfl ?_
    refine jx_goto (tgt := 81) kd23.2.2.2.2.2.2.2.1 (by decide) ?_
    exact jx_lv [1, 2, 0] rfl h
  replace h := h.2 c18
  refine jx_aload_n 0 dX4_measure_95 rfl rfl ?_
  obtain ⟨hk19, h⟩ := h
  obtain ⟨b20, hb20, h⟩ := h
  refine jx_getr jc_4 (j := 1) (by decide) rfl jwF_X4_15 dX4_measure_96 hk19 hb20 ?_
  refine jx_iload_n 2 dX4_measure_99 rfl rfl ?_
  refine jx_bipush (v := 6) dX4_measure_100 (by decide) ?_
  refine jx_imul dX4_measure_102 ?_
  refine jx_iload_n 1 dX4_measure_103 rfl rfl ?_
  refine jx_iadd dX4_measure_104 ?_
  obtain ⟨hk21, h⟩ := h
  obtain ⟨hi22, h⟩ := h
  refine jx_iald dX4_measure_105 hk21 hi22 ?_
  refine jx_aload_n 0 dX4_measure_106 rfl rfl ?_
  refine jx_getr jc_4 (j := 1) (by decide) rfl jwF_X4_15 dX4_measure_107 hk19 hb20 ?_
  refine jx_iload_n 1 dX4_measure_110 rfl rfl ?_
  refine jx_bipush (v := 6) dX4_measure_111 (by decide) ?_
  refine jx_imul dX4_measure_113 ?_
  refine jx_iload_n 3 dX4_measure_114 rfl rfl ?_
  refine jx_iadd dX4_measure_115 ?_
  obtain ⟨hi23, h⟩ := h
  refine jx_iald dX4_measure_116 hk21 hi23 ?_
  refine jx_iadd dX4_measure_117 ?_
  refine jx_nm (fun y24 ey24 => ?_)
  replace h := h y24 ey24
  refine jx_istore (lv1 := [(4, .int y24), (0, .ref a0), (1, .int x1), (2, .int x2), (3, .int x3)]) dX4_measure_118 (by decide) rfl ?_
  refine jx_aload_n 1 dX4_measure_120 rfl rfl ?_
  refine jx_getr jc_4 (j := 1) (by decide) rfl jwF_X4_15 dX4_measure_121 hk19 hb20 ?_
  refine jx_iload_n 3 dX4_measure_124 rfl rfl ?_
  refine jx_bipush (v := 6) dX4_measure_125 (by decide) ?_
  refine jx_imul dX4_measure_127 ?_
  refine jx_iload_n 4 dX4_measure_128 rfl rfl ?_
  refine jx_iadd dX4_measure_129 ?_
  refine jx_aload_n 1 dX4_measure_130 rfl rfl ?_
  refine jx_getr jc_4 (j := 1) (by decide) rfl jwF_X4_15 dX4_measure_131 hk19 hb20 ?_
  refine jx_iload_n 3 dX4_measure_134 rfl rfl ?_
  refine jx_bipush (v := 6) dX4_measure_135 (by decide) ?_
  refine jx_imul dX4_measure_137 ?_
  refine jx_iload_n 4 dX4_measure_138 rfl rfl ?_
  refine jx_iadd dX4_measure_139 ?_
  obtain ⟨hi25, h⟩ := h
  refine jx_iald dX4_measure_140 hk21 hi25 ?_
  refine jx_iload 0 dX4_measure_141 rfl ?_
  refine jx_min jwM_X4_31 jwS_min jwZ_J9 jwO_min dX4_measure_143 (jRok_m _ _ _) (jle rfl) ⟨Nat.zero_le _, Nat.zero_le _⟩ ?_
  refine jx_iast dX4_measure_146 hk21 hi25 ?_
  refine jx_iinc 4 (v := (x3 + 1)) (lv1 := [(3, .int (x3 + 1)), (4, .int y24), (0, .ref a0), (1, .int x1), (2, .int x2)]) kd23.2.2.2.2.1 rfl rfl (by decide) rfl ?_
  refine jx_goto (tgt := 89) kd23.2.2.2.2.2.1 (by decide) ?_
  exact jx_lv [2, 3, 4, 0] rfl h
set_option maxRecDepth 100000 in
set_option maxHeartbeats 4000000 in
theorem T_X1_init {E : jEnv} {d : Nat} {Q : jM → Prop} {a0 : Nat} {S : jM} (h : jk S a0 = 1 ∧ ∀ q2, q2 = jn (jput S a0 2 100) → jk (jnew (jput S a0 2 100) 12 10) a0 = 1 ∧ ∀ q5, q5 = jn (jputr (jnew (jput S a0 2 100) 12 10) a0 5 (some q2)) → jk (jnew (jputr (jnew (jput S a0 2 100) 12 10) a0 5 (some q2)) 12 10) a0 = 1 ∧ Q (jputr (jnew (jputr (jnew (jput S a0 2 100) 12 10) a0 5 (some q2)) 12 10) a0 6 (some q5))) : jFv E mX1_init (d + 1) 2 20 [.ref a0] S Q := by
  refine jF_of (by decide) (jle rfl) ?_
  refine jx_lv (lv1 := [(0, .ref a0)]) [0] rfl ?_
  refine jx_aload_n 0 dX1_init_0 rfl rfl ?_
  refine jx_objInit jwM_X1_3 jwN_obj jwO_obj dX1_init_1 (jRok_m _ _ _) (jle rfl) ?_
  refine jx_aload_n 0 dX1_init_4 rfl rfl ?_
  refine jx_bipush (v := 100) dX1_init_5 (by decide) ?_
  obtain ⟨hk1, h⟩ := h
  refine jx_puti jc_1 (j := 2) (by decide) rfl jwF_X1_9 rfl rfl rfl dX1_init_7 hk1 ?_
  refine jx_aload_n 0 dX1_init_10 rfl rfl ?_
  refine jx_bipush (v := 10) dX1_init_11 (by decide) ?_
  refine jx_newa (N := 10) jwA kd9.1 (by decide) (by decide) (by decide) ⟨jle rfl, jle rfl⟩ ?_
  obtain ⟨q2, hq2⟩ : ∃ q, q = jn (jput S a0 2 100) := ⟨_, rfl⟩
  rw [← hq2]
  replace h := h q2 hq2
  obtain ⟨hk3, h⟩ := h
  refine jx_putrF jc_1 (j := 5) (by decide) rfl jwF_X1_15 rfl rfl rfl rfl rfl dX1_init_15 hk3 ?_
  refine jx_aload_n 0 dX1_init_18 rfl rfl ?_
  refine jx_bipush (v := 10) dX1_init_19 (by decide) ?_
  refine jx_newa (N := 10) jwA kd9.2 (by decide) (by decide) (by decide) ⟨jle rfl, jle rfl⟩ ?_
  obtain ⟨q5, hq5⟩ : ∃ q, q = jn (jputr (jnew (jput S a0 2 100) 12 10) a0 5 (some q2)) := ⟨_, rfl⟩
  rw [← hq5]
  replace h := h q5 hq5
  obtain ⟨hk6, h⟩ := h
  refine jx_putrF jc_1 (j := 6) (by decide) rfl jwF_X1_19 rfl rfl rfl rfl rfl dX1_init_23 hk6 ?_
  exact jx_vret dX1_init_26 rfl (jle rfl) (jle rfl) ⟨rfl, h⟩
set_option maxRecDepth 100000 in
set_option maxHeartbeats 4000000 in
theorem T_X1_become {E : jEnv} {d : Nat} {Q : jM → Prop} {a0 : Nat} {a1 : Nat} {S : jM} (h : jk S a1 = 1 ∧ jk S a0 = 1 ∧ ∃ b3, jr S a1 5 = some b3 ∧ (∃ b4, jr S a0 5 = some b4 ∧ (jk S b3 = 12 ∧ jk S b4 = 12 ∧ (¬ (0 : Int32) < 0 ∧ ¬ (0 : Int32) < 0 ∧ ¬ (10 : Int32) < 0 ∧ (Int32.toNatClampNeg 0) + (Int32.toNatClampNeg 10) ≤ jl S b3 ∧ (Int32.toNatClampNeg 0) + (Int32.toNatClampNeg 10) ≤ jl S b4) ∧ (∃ b12, jr S a1 6 = some b12 ∧ (∃ b13, jr S a0 6 = some b13 ∧ (jk S b12 = 12 ∧ jk S b13 = 12 ∧ (¬ (0 : Int32) < 0 ∧ ¬ (0 : Int32) < 0 ∧ ¬ (10 : Int32) < 0 ∧ (Int32.toNatClampNeg 0) + (Int32.toNatClampNeg 10) ≤ jl S b12 ∧ (Int32.toNatClampNeg 0) + (Int32.toNatClampNeg 10) ≤ jl S b13) ∧ (Q (jrow (jrow (jput (jput (jput (jput (jput S a0 0 (ji S a1 0)) a0 1 (ji S a1 1)) a0 2 (ji S a1 2)) a0 3 (ji S a1 3)) a0 4 (ji S a1 4)) b4 (va_cpy (ji (jput (jput (jput (jput (jput S a0 0 (ji S a1 0)) a0 1 (ji S a1 1)) a0 2 (ji S a1 2)) a0 3 (ji S a1 3)) a0 4 (ji S a1 4)) b3) (ji (jput (jput (jput (jput (jput S a0 0 (ji S a1 0)) a0 1 (ji S a1 1)) a0 2 (ji S a1 2)) a0 3 (ji S a1 3)) a0 4 (ji S a1 4)) b4) (Int32.toNatClampNeg 0) (Int32.toNatClampNeg 0) (Int32.toNatClampNeg 10))) b13 (va_cpy (ji (jrow (jput (jput (jput (jput (jput S a0 0 (ji S a1 0)) a0 1 (ji S a1 1)) a0 2 (ji S a1 2)) a0 3 (ji S a1 3)) a0 4 (ji S a1 4)) b4 (va_cpy (ji (jput (jput (jput (jput (jput S a0 0 (ji S a1 0)) a0 1 (ji S a1 1)) a0 2 (ji S a1 2)) a0 3 (ji S a1 3)) a0 4 (ji S a1 4)) b3) (ji (jput (jput (jput (jput (jput S a0 0 (ji S a1 0)) a0 1 (ji S a1 1)) a0 2 (ji S a1 2)) a0 3 (ji S a1 3)) a0 4 (ji S a1 4)) b4) (Int32.toNatClampNeg 0) (Int32.toNatClampNeg 0) (Int32.toNatClampNeg 10))) b12) (ji (jrow (jput (jput (jput (jput (jput S a0 0 (ji S a1 0)) a0 1 (ji S a1 1)) a0 2 (ji S a1 2)) a0 3 (ji S a1 3)) a0 4 (ji S a1 4)) b4 (va_cpy (ji (jput (jput (jput (jput (jput S a0 0 (ji S a1 0)) a0 1 (ji S a1 1)) a0 2 (ji S a1 2)) a0 3 (ji S a1 3)) a0 4 (ji S a1 4)) b3) (ji (jput (jput (jput (jput (jput S a0 0 (ji S a1 0)) a0 1 (ji S a1 1)) a0 2 (ji S a1 2)) a0 3 (ji S a1 3)) a0 4 (ji S a1 4)) b4) (Int32.toNatClampNeg 0) (Int32.toNatClampNeg 0) (Int32.toNatClampNeg 10))) b13) (Int32.toNatClampNeg 0) (Int32.toNatClampNeg 0) (Int32.toNatClampNeg 10)))))))))) : jFv E mX1_become (d + 1) 0 0 [.ref a0, .ref a1] S Q := by
  refine jF_of (by decide) (jle rfl) ?_
  refine jx_lv (lv1 := [(0, .ref a0), (1, .ref a1)]) [0, 1] rfl ?_
  refine jx_aload_n 0 dX1_become_0 rfl rfl ?_
  refine jx_aload_n 1 dX1_become_1 rfl rfl ?_
  obtain ⟨hk1, h⟩ := h
  refine jx_geti jc_1 (j := 0) (by decide) rfl jwF_X1_22 dX1_become_2 hk1 ?_
  obtain ⟨hk2, h⟩ := h
  refine jx_puti jc_1 (j := 0) (by decide) rfl jwF_X1_22 rfl rfl rfl dX1_become_5 hk2 ?_
  refine jx_aload_n 0 dX1_become_8 rfl rfl ?_
  refine jx_aload_n 1 dX1_become_9 rfl rfl ?_
  refine jx_geti jc_1 (j := 1) (by decide) rfl jwF_X1_25 dX1_become_10 hk1 ?_
  refine jx_topi (y := (ji S a1 1)) (by simp [ji_put, ji_row, ji_putr]) ?_
  refine jx_puti jc_1 (j := 1) (by decide) rfl jwF_X1_25 rfl rfl rfl dX1_become_13 hk2 ?_
  refine jx_aload_n 0 dX1_become_16 rfl rfl ?_
  refine jx_aload_n 1 dX1_become_17 rfl rfl ?_
  refine jx_geti jc_1 (j := 2) (by decide) rfl jwF_X1_9 dX1_become_18 hk1 ?_
  refine jx_topi (y := (ji S a1 2)) (by simp [ji_put, ji_row, ji_putr]) ?_
  refine jx_puti jc_1 (j := 2) (by decide) rfl jwF_X1_9 rfl rfl rfl dX1_become_21 hk2 ?_
  refine jx_aload_n 0 dX1_become_24 rfl rfl ?_
  refine jx_aload_n 1 dX1_become_25 rfl rfl ?_
  refine jx_geti jc_1 (j := 3) (by decide) rfl jwF_X1_28 dX1_become_26 hk1 ?_
  refine jx_topi (y := (ji S a1 3)) (by simp [ji_put, ji_row, ji_putr]) ?_
  refine jx_puti jc_1 (j := 3) (by decide) rfl jwF_X1_28 rfl rfl rfl dX1_become_29 hk2 ?_
  refine jx_aload_n 0 dX1_become_32 rfl rfl ?_
  refine jx_aload_n 1 dX1_become_33 rfl rfl ?_
  refine jx_geti jc_1 (j := 4) (by decide) rfl jwF_X1_31 dX1_become_34 hk1 ?_
  refine jx_topi (y := (ji S a1 4)) (by simp [ji_put, ji_row, ji_putr]) ?_
  refine jx_puti jc_1 (j := 4) (by decide) rfl jwF_X1_31 rfl rfl rfl dX1_become_37 hk2 ?_
  refine jx_aload_n 1 dX1_become_40 rfl rfl ?_
  obtain ⟨b3, hb3, h⟩ := h
  refine jx_getr jc_1 (j := 5) (by decide) rfl jwF_X1_15 dX1_become_41 hk1 hb3 ?_
  refine jx_iconst (v := 0) dX1_become_44 (by decide) ?_
  refine jx_aload_n 0 dX1_become_45 rfl rfl ?_
  obtain ⟨b4, hb4, h⟩ := h
  refine jx_getr jc_1 (j := 5) (by decide) rfl jwF_X1_15 dX1_become_46 hk2 hb4 ?_
  refine jx_iconst (v := 0) dX1_become_49 (by decide) ?_
  refine jx_bipush (v := 10) dX1_become_50 (by decide) ?_
  obtain ⟨hk5, h⟩ := h
  obtain ⟨hk6, h⟩ := h
  obtain ⟨⟨hc7, hc8, hc9, hc10, hc11⟩, h⟩ := h
  refine jx_copy jwM_X1_34 jwV_copy jwS_copy jwZ_J10 dX1_become_52 (jRok_m _ _ _) (jle rfl) hk5 hk6 hc7 hc8 hc9 hc10 hc11 ?_
  refine jx_aload_n 1 dX1_become_55 rfl rfl ?_
  obtain ⟨b12, hb12, h⟩ := h
  refine jx_getr jc_1 (j := 6) (by decide) rfl jwF_X1_19 dX1_become_56 hk1 hb12 ?_
  refine jx_iconst (v := 0) dX1_become_59 (by decide) ?_
  refine jx_aload_n 0 dX1_become_60 rfl rfl ?_
  obtain ⟨b13, hb13, h⟩ := h
  refine jx_getr jc_1 (j := 6) (by decide) rfl jwF_X1_19 dX1_become_61 hk2 hb13 ?_
  refine jx_iconst (v := 0) dX1_become_64 (by decide) ?_
  refine jx_bipush (v := 10) dX1_become_65 (by decide) ?_
  obtain ⟨hk14, h⟩ := h
  obtain ⟨hk15, h⟩ := h
  obtain ⟨⟨hc16, hc17, hc18, hc19, hc20⟩, h⟩ := h
  refine jx_copy jwM_X1_34 jwV_copy jwS_copy jwZ_J10 dX1_become_67 (jRok_m _ _ _) (jle rfl) hk14 hk15 hc16 hc17 hc18 hc19 hc20 ?_
  exact jx_vret dX1_become_70 rfl (jle rfl) (jle rfl) ⟨rfl, h⟩
set_option maxRecDepth 100000 in
set_option maxHeartbeats 4000000 in
theorem T_X1_isAble {E : jEnv} {d : Nat} {Q : Int32 → jM → Prop} {a0 : Nat} {x1 : Int32} {S : jM} (h : ((jwi x1 10) = 0 → Q 0 S) ∧ (¬ (jwi x1 10) = 0 → jk S a0 = 1 ∧ (((ji S a0 1) &&& (jshl 1 x1)) = 0 → Q 0 S) ∧ (¬ ((ji S a0 1) &&& (jshl 1 x1)) = 0 → Q 1 S))) : jFi E mX1_isAble (d + 1) 0 0 [.ref a0, .int x1] S Q := by
  refine jF_of (by decide) (jle rfl) ?_
  refine jx_lv (lv1 := [(0, .ref a0), (1, .int x1)]) [0, 1] rfl ?_
  refine jx_iload_n 1 dX1_isAble_0 rfl rfl ?_
  refine jx_bipush (v := 10) dX1_isAble_1 (by decide) ?_
  refine jx_callSNi (M' := mX10_within) (As := [.int x1, .int 10]) (host := "NineMasters") jo_X10_within (by decide) jwS_X10_within dX1_isAble_3 (jRok_m _ _ _) rfl (jle rfl) ⟨jle rfl, jle rfl⟩ (c_X10_within (Q := fun v S' => v = (jwi x1 10) ∧ S = S') ⟨rfl, rfl⟩) (fun r1 S2 hq3 => ?_)
  obtain ⟨rfl, rfl⟩ := hq3
  refine jx_if_eq (tgt := 24) dX1_isAble_6 (by decide) (fun c4 => ?_) (fun c4 => ?_)
  · replace h := h.1 c4
    refine jx_iconst (v := 0) dX1_isAble_24 (by decide) ?_
    exact jx_iret dX1_isAble_25 rfl (by decide) (jle rfl) (jle rfl) ⟨_, rfl, h⟩
  replace h := h.2 c4
  refine jx_aload_n 0 dX1_isAble_9 rfl rfl ?_
  obtain ⟨hk5, h⟩ := h
  refine jx_geti jc_1 (j := 1) (by decide) rfl jwF_X1_25 dX1_isAble_10 hk5 ?_
  refine jx_iconst (v := 1) dX1_isAble_13 (by decide) ?_
  refine jx_iload_n 1 dX1_isAble_14 rfl rfl ?_
  refine jx_ishl dX1_isAble_15 ?_
  refine jx_iand dX1_isAble_16 ?_
  refine jx_if_eq (tgt := 24) dX1_isAble_17 (by decide) (fun c6 => ?_) (fun c6 => ?_)
  · replace h := h.1 c6
    refine jx_iconst (v := 0) dX1_isAble_24 (by decide) ?_
    exact jx_iret dX1_isAble_25 rfl (by decide) (jle rfl) (jle rfl) ⟨_, rfl, h⟩
  replace h := h.2 c6
  refine jx_iconst (v := 1) dX1_isAble_20 (by decide) ?_
  refine jx_goto (tgt := 25) dX1_isAble_21 (by decide) ?_
  exact jx_iret dX1_isAble_25 rfl (by decide) (jle rfl) (jle rfl) ⟨_, rfl, h⟩
/-- X1_passDays at its loop's head 18 -/
abbrev L_X1_passDays_18 (E : jEnv) (d : Nat) (Q : jM → Prop) (a0 : Nat) (x1 : Int32) (x2 : Int32) (S : jM) : Prop := jX E mX1_passDays (jRm (d + 1) 0 0) (jZm E (fun r S' => r = none ∧ Q S') 0 0) 18 [(0, .ref a0), (1, .int x1), (2, .int x2)] [] S 0 0
set_option maxRecDepth 100000 in
set_option maxHeartbeats 4000000 in
theorem T_X1_passDays {E : jEnv} {d : Nat} {Q : jM → Prop} {a0 : Nat} {x1 : Int32} {S : jM} (h : jk S a0 = 1 ∧ L_X1_passDays_18 E d Q a0 x1 0 (jput S a0 4 (jmin 9999 ((ji S a0 4) + x1)))) : jFv E mX1_passDays (d + 1) 0 0 [.ref a0, .int x1] S Q := by
  refine jF_of (by decide) (jle rfl) ?_
  refine jx_lv (lv1 := [(0, .ref a0), (1, .int x1)]) [0, 1] rfl ?_
  refine jx_aload_n 0 dX1_passDays_0 rfl rfl ?_
  refine jx_sipush (v := 9999) dX1_passDays_1 (by decide) ?_
  refine jx_aload_n 0 dX1_passDays_4 rfl rfl ?_
  obtain ⟨hk1, h⟩ := h
  refine jx_geti jc_1 (j := 4) (by decide) rfl jwF_X1_31 dX1_passDays_5 hk1 ?_
  refine jx_iload_n 1 dX1_passDays_8 rfl rfl ?_
  refine jx_iadd dX1_passDays_9 ?_
  refine jx_min jwM_X1_44 jwS_min jwZ_J9 jwO_min dX1_passDays_10 (jRok_m _ _ _) (jle rfl) ⟨Nat.zero_le _, Nat.zero_le _⟩ ?_
  refine jx_puti jc_1 (j := 4) (by decide) rfl jwF_X1_31 rfl rfl rfl dX1_passDays_13 hk1 ?_
  refine jx_iconst (v := 0) dX1_passDays_16 (by decide) ?_
  refine jx_istore_n (lv1 := [(2, .int 0), (0, .ref a0), (1, .int x1)]) dX1_passDays_17 rfl (by decide) rfl ?_
  exact jx_lv [1, 2, 0] rfl h
set_option maxRecDepth 100000 in
set_option maxHeartbeats 4000000 in
theorem T_X1_passDays_18 {E : jEnv} {d : Nat} {Q : jM → Prop} {a0 : Nat} {x1 : Int32} {x2 : Int32} {S : jM} (h : (10 ≤ x2 → Q S) ∧ (¬ 10 ≤ x2 → jk S a0 = 1 ∧ jFi E mX1_isAble d 0 0 [.ref a0, .int x2] S (fun r5 S4 => (r5 = 0 → L_X1_passDays_18 E d Q a0 x1 (x2 + 1) S4) ∧ (¬ r5 = 0 → jk S4 a0 = 1 ∧ ∃ b8, jr S4 a0 6 = some b8 ∧ (jk S4 b8 = 12 ∧ vp_in x2 (jl S4 b8) ∧ ((((ji S4 a0 3) = 0 → L_X1_passDays_18 E d Q a0 x1 (x2 + 1) (jput S4 b8 (Int32.toNatClampNeg x2) ((ji S4 b8 (Int32.toNatClampNeg x2)) + x1))) ∧ (¬ (ji S4 a0 3) = 0 → ((((ji S4 b8 (Int32.toNatClampNeg x2)) + x1) ≤ (ji S4 a0 3) → L_X1_passDays_18 E d Q a0 x1 (x2 + 1) (jput S4 b8 (Int32.toNatClampNeg x2) ((ji S4 b8 (Int32.toNatClampNeg x2)) + x1))) ∧ (¬ ((ji S4 b8 (Int32.toNatClampNeg x2)) + x1) ≤ (ji S4 a0 3) → L_X1_passDays_18 E d Q a0 x1 (x2 + 1) (jput (jput S4 b8 (Int32.toNatClampNeg x2) ((ji S4 b8 (Int32.toNatClampNeg x2)) + x1)) a0 1 ((ji S4 a0 1) &&& ((jshl 1 x2) ^^^ (-1)))))))))))))) : L_X1_passDays_18 E d Q a0 x1 x2 S := by
  show jX E mX1_passDays (jRm (d + 1) 0 0) (jZm E (fun r S' => r = none ∧ Q S') 0 0) 18 [(0, .ref a0), (1, .int x1), (2, .int x2)] [] S 0 0
  refine jx_iload_n 2 dX1_passDays_18 rfl rfl ?_
  refine jx_bipush (v := 10) dX1_passDays_19 (by decide) ?_
  refine jx_icmp_ge (tgt := 82) dX1_passDays_21 (by decide) (fun c2 => ?_) (fun c2 => ?_)
  · replace h := h.1 c2
    exact jx_vret dX1_passDays_82 rfl (jle rfl) (jle rfl) ⟨rfl, h⟩
  replace h := h.2 c2
  refine jx_aload_n 0 dX1_passDays_24 rfl rfl ?_
  refine jx_iload_n 2 dX1_passDays_25 rfl rfl ?_
  obtain ⟨hk3, h⟩ := h
  refine jx_callVi (M' := mX1_isAble) (As := [.int x2]) jo_X1_isAble jc_1 rfl jwM_X1_50 jwN_X1_isAble jwX_X1_isAble dX1_passDays_26 (jRok_m _ _ _) rfl (jle rfl) ⟨jle rfl, jle rfl⟩ hk3 h (fun r5 S4 h => ?_)
  refine jx_if_eq (tgt := 76) dX1_passDays_29 (by decide) (fun c6 => ?_) (fun c6 => ?_)
  · replace h := h.1 c6
    refine jx_iinc 2 (v := (x2 + 1)) (lv1 := [(2, .int (x2 + 1)), (0, .ref a0), (1, .int x1)]) kd10.1 rfl rfl (by decide) rfl ?_
    refine jx_goto (tgt := 18) kd10.2 (by decide) ?_
    exact jx_lv [1, 2, 0] rfl h
  replace h := h.2 c6
  refine jx_aload_n 0 dX1_passDays_32 rfl rfl ?_
  obtain ⟨hk7, h⟩ := h
  obtain ⟨b8, hb8, h⟩ := h
  refine jx_getr jc_1 (j := 6) (by decide) rfl jwF_X1_19 dX1_passDays_33 hk7 hb8 ?_
  refine jx_iload_n 2 dX1_passDays_36 rfl rfl ?_
  refine jx_dup2 dX1_passDays_37 rfl rfl ?_
  obtain ⟨hk9, h⟩ := h
  obtain ⟨hi10, h⟩ := h
  refine jx_iald dX1_passDays_38 hk9 hi10 ?_
  refine jx_iload_n 1 dX1_passDays_39 rfl rfl ?_
  refine jx_iadd dX1_passDays_40 ?_
  refine jx_iast dX1_passDays_41 hk9 hi10 ?_
  refine jx_aload_n 0 dX1_passDays_42 rfl rfl ?_
  refine jx_geti jc_1 (j := 3) (by decide) rfl jwF_X1_28 dX1_passDays_43 hk7 ?_
  refine jx_topi (y := (ji S4 a0 3)) (by simp [ji_put, ji_row, ji_putr, jne hk7 hk9 (by decide)]) ?_
  refine jx_if_eq (tgt := 76) dX1_passDays_46 (by decide) (fun c11 => ?_) (fun c11 => ?_)
  · replace h := h.1 c11
    refine jx_iinc 2 (v := (x2 + 1)) (lv1 := [(2, .int (x2 + 1)), (0, .ref a0), (1, .int x1)]) kd10.1 rfl rfl (by decide) rfl ?_
    refine jx_goto (tgt := 18) kd10.2 (by decide) ?_
    exact jx_lv [1, 2, 0] rfl h
  replace h := h.2 c11
  refine jx_aload_n 0 dX1_passDays_49 rfl rfl ?_
  refine jx_getr jc_1 (j := 6) (by decide) rfl jwF_X1_19 dX1_passDays_50 hk7 hb8 ?_
  refine jx_iload_n 2 dX1_passDays_53 rfl rfl ?_
  refine jx_iald dX1_passDays_54 hk9 hi10 ?_
  refine jx_topi (y := ((ji S4 b8 (Int32.toNatClampNeg x2)) + x1)) (by simp [ji_put, ji_row, ji_putr]) ?_
  refine jx_aload_n 0 dX1_passDays_55 rfl rfl ?_
  refine jx_geti jc_1 (j := 3) (by decide) rfl jwF_X1_28 dX1_passDays_56 hk7 ?_
  refine jx_topi (y := (ji S4 a0 3)) (by simp [ji_put, ji_row, ji_putr, jne hk7 hk9 (by decide)]) ?_
  refine jx_icmp_le (tgt := 76) dX1_passDays_59 (by decide) (fun c12 => ?_) (fun c12 => ?_)
  · replace h := h.1 c12
    refine jx_iinc 2 (v := (x2 + 1)) (lv1 := [(2, .int (x2 + 1)), (0, .ref a0), (1, .int x1)]) kd10.1 rfl rfl (by decide) rfl ?_
    refine jx_goto (tgt := 18) kd10.2 (by decide) ?_
    exact jx_lv [1, 2, 0] rfl h
  replace h := h.2 c12
  refine jx_aload_n 0 dX1_passDays_62 rfl rfl ?_
  refine jx_dup dX1_passDays_63 rfl ?_
  refine jx_geti jc_1 (j := 1) (by decide) rfl jwF_X1_25 dX1_passDays_64 hk7 ?_
  refine jx_topi (y := (ji S4 a0 1)) (by simp [ji_put, ji_row, ji_putr, jne hk7 hk9 (by decide)]) ?_
  refine jx_iconst (v := 1) dX1_passDays_67 (by decide) ?_
  refine jx_iload_n 2 dX1_passDays_68 rfl rfl ?_
  refine jx_ishl dX1_passDays_69 ?_
  refine jx_iconst (v := (-1)) dX1_passDays_70 (by decide) ?_
  refine jx_ixor dX1_passDays_71 ?_
  refine jx_iand dX1_passDays_72 ?_
  refine jx_puti jc_1 (j := 1) (by decide) rfl jwF_X1_25 rfl rfl rfl dX1_passDays_73 hk7 ?_
  refine jx_iinc 2 (v := (x2 + 1)) (lv1 := [(2, .int (x2 + 1)), (0, .ref a0), (1, .int x1)]) kd10.1 rfl rfl (by decide) rfl ?_
  refine jx_goto (tgt := 18) kd10.2 (by decide) ?_
  exact jx_lv [1, 2, 0] rfl h
set_option maxRecDepth 100000 in
set_option maxHeartbeats 4000000 in
theorem T_X1_canLearnOf {E : jEnv} {d : Nat} {Q : Int32 → jM → Prop} {a0 : Nat} {a1 : Nat} {S : jM} (h : jk S a1 = 2 ∧ jk S a0 = 1 ∧ ((ji S a1 1) = (ji S a0 0) → ((ji S a1 6) = 0 → jFi E mX2_teaches d 0 0 [.ref a1, .int (ji S a0 1)] S (fun r6 S5 => (r6 = 0 → Q 0 S5) ∧ (¬ r6 = 0 → jk S5 a1 = 2 ∧ jk S5 a0 = 1 ∧ jFi E mX1_isAble d 0 0 [.ref a0, .int (ji S5 a1 2)] S5 (fun r11 S10 => (r11 = 0 → jk S10 a1 = 2 ∧ jk S10 a0 = 1 ∧ ((ji S10 a0 2) < (ji S10 a1 4) → Q 0 S10) ∧ (¬ (ji S10 a0 2) < (ji S10 a1 4) → Q 1 S10)) ∧ (¬ r11 = 0 → Q 0 S10))))) ∧ (¬ (ji S a1 6) = 0 → Q 0 S)) ∧ (¬ (ji S a1 1) = (ji S a0 0) → Q 0 S)) : jFi E mX1_canLearnOf (d + 1) 0 0 [.ref a0, .ref a1] S Q := by
  refine jF_of (by decide) (jle rfl) ?_
  refine jx_lv (lv1 := [(0, .ref a0), (1, .ref a1)]) [0, 1] rfl ?_
  refine jx_aload_n 1 dX1_canLearnOf_0 rfl rfl ?_
  obtain ⟨hk1, h⟩ := h
  refine jx_geti jc_2 (j := 1) (by decide) rfl jwF_X1_54 dX1_canLearnOf_1 hk1 ?_
  refine jx_aload_n 0 dX1_canLearnOf_4 rfl rfl ?_
  obtain ⟨hk2, h⟩ := h
  refine jx_geti jc_1 (j := 0) (by decide) rfl jwF_X1_22 dX1_canLearnOf_5 hk2 ?_
  refine jx_icmp_ne (tgt := 55) dX1_canLearnOf_8 (by decide) (fun c3 => ?_) (fun c3 => ?_)
  · replace h := h.2 c3
    refine jx_iconst (v := 0) dX1_canLearnOf_55 (by decide) ?_
    exact jx_iret dX1_canLearnOf_56 rfl (by decide) (jle rfl) (jle rfl) ⟨_, rfl, h⟩
  replace h := h.1 c3
  refine jx_aload_n 1 dX1_canLearnOf_11 rfl rfl ?_
  refine jx_geti jc_2 (j := 6) (by decide) rfl jwF_X1_59 dX1_canLearnOf_12 hk1 ?_
  refine jx_if_ne (tgt := 55) dX1_canLearnOf_15 (by decide) (fun c4 => ?_) (fun c4 => ?_)
  · replace h := h.2 c4
    refine jx_iconst (v := 0) dX1_canLearnOf_55 (by decide) ?_
    exact jx_iret dX1_canLearnOf_56 rfl (by decide) (jle rfl) (jle rfl) ⟨_, rfl, h⟩
  replace h := h.1 c4
  refine jx_aload_n 1 dX1_canLearnOf_18 rfl rfl ?_
  refine jx_aload_n 0 dX1_canLearnOf_19 rfl rfl ?_
  refine jx_geti jc_1 (j := 1) (by decide) rfl jwF_X1_25 dX1_canLearnOf_20 hk2 ?_
  refine jx_callVi (M' := mX2_teaches) (As := [.int (ji S a0 1)]) jo_X2_teaches jc_2 rfl jwM_X1_63 jwN_X2_teaches jwX_X2_teaches dX1_canLearnOf_23 (jRok_m _ _ _) rfl (jle rfl) ⟨jle rfl, jle rfl⟩ hk1 h (fun r6 S5 h => ?_)
  refine jx_if_eq (tgt := 55) dX1_canLearnOf_26 (by decide) (fun c7 => ?_) (fun c7 => ?_)
  · replace h := h.1 c7
    refine jx_iconst (v := 0) dX1_canLearnOf_55 (by decide) ?_
    exact jx_iret dX1_canLearnOf_56 rfl (by decide) (jle rfl) (jle rfl) ⟨_, rfl, h⟩
  replace h := h.2 c7
  refine jx_aload_n 0 dX1_canLearnOf_29 rfl rfl ?_
  refine jx_aload_n 1 dX1_canLearnOf_30 rfl rfl ?_
  obtain ⟨hk8, h⟩ := h
  refine jx_geti jc_2 (j := 2) (by decide) rfl jwF_X1_66 dX1_canLearnOf_31 hk8 ?_
  obtain ⟨hk9, h⟩ := h
  refine jx_callVi (M' := mX1_isAble) (As := [.int (ji S5 a1 2)]) jo_X1_isAble jc_1 rfl jwM_X1_50 jwN_X1_isAble jwX_X1_isAble dX1_canLearnOf_34 (jRok_m _ _ _) rfl (jle rfl) ⟨jle rfl, jle rfl⟩ hk9 h (fun r11 S10 h => ?_)
  refine jx_if_ne (tgt := 55) dX1_canLearnOf_37 (by decide) (fun c12 => ?_) (fun c12 => ?_)
  · replace h := h.2 c12
    refine jx_iconst (v := 0) dX1_canLearnOf_55 (by decide) ?_
    exact jx_iret dX1_canLearnOf_56 rfl (by decide) (jle rfl) (jle rfl) ⟨_, rfl, h⟩
  replace h := h.1 c12
  refine jx_aload_n 1 dX1_canLearnOf_40 rfl rfl ?_
  obtain ⟨hk13, h⟩ := h
  refine jx_geti jc_2 (j := 4) (by decide) rfl jwF_X1_69 dX1_canLearnOf_41 hk13 ?_
  refine jx_aload_n 0 dX1_canLearnOf_44 rfl rfl ?_
  obtain ⟨hk14, h⟩ := h
  refine jx_geti jc_1 (j := 2) (by decide) rfl jwF_X1_9 dX1_canLearnOf_45 hk14 ?_
  refine jx_icmp_gt (tgt := 55) dX1_canLearnOf_48 (by decide) (fun c15 => ?_) (fun c15 => ?_)
  · replace h := h.1 c15
    refine jx_iconst (v := 0) dX1_canLearnOf_55 (by decide) ?_
    exact jx_iret dX1_canLearnOf_56 rfl (by decide) (jle rfl) (jle rfl) ⟨_, rfl, h⟩
  replace h := h.2 c15
  refine jx_iconst (v := 1) dX1_canLearnOf_51 (by decide) ?_
  refine jx_goto (tgt := 56) dX1_canLearnOf_52 (by decide) ?_
  exact jx_iret dX1_canLearnOf_56 rfl (by decide) (jle rfl) (jle rfl) ⟨_, rfl, h⟩
set_option maxRecDepth 100000 in
set_option maxHeartbeats 4000000 in
theorem T_X1_learnOf {E : jEnv} {d : Nat} {Q : jM → Prop} {a0 : Nat} {x1 : Int32} {a2 : Nat} {x3 : Int32} {S : jM} (h : jk S a0 = 1 ∧ jk S a2 = 2 ∧ jFv E mX1_passDays d 0 0 [.ref a0, .int x3] (jput S a0 2 ((ji S a0 2) - (ji S a2 4))) (fun S3 => jk S3 a0 = 1 ∧ jk S3 a2 = 2 ∧ jFi E mX2_unlearnt d 0 0 [.ref a2] S3 (fun r7 S6 => jk S6 a0 = 1 ∧ jk S6 a2 = 2 ∧ ((jwi (ji S6 a2 2) 10) = 0 → Q (jput S6 a0 1 ((ji S3 a0 1) &&& (r7 ^^^ (-1))))) ∧ (¬ (jwi (ji S6 a2 2) 10) = 0 → ∃ b14, jr S6 a0 5 = some b14 ∧ (jk S6 b14 = 12 ∧ vp_in (ji S6 a2 2) (jl S6 b14) ∧ (∃ b17, jr S6 a0 6 = some b17 ∧ (jk S6 b17 = 12 ∧ vp_in (ji S6 a2 2) (jl S6 b17) ∧ (Q (jput (jput (jput (jput S6 a0 1 ((ji S3 a0 1) &&& (r7 ^^^ (-1)))) a0 1 (((ji S3 a0 1) &&& (r7 ^^^ (-1))) ||| (jshl 1 (ji S6 a2 2)))) b14 (Int32.toNatClampNeg (ji S6 a2 2)) x1) b17 (Int32.toNatClampNeg (ji S6 a2 2)) 0))))))))) : jFv E mX1_learnOf (d + 1) 0 0 [.ref a0, .int x1, .ref a2, .int x3] S Q := by
  refine jF_of (by decide) (jle rfl) ?_
  refine jx_lv (lv1 := [(0, .ref a0), (1, .int x1), (2, .ref a2), (3, .int x3)]) [0, 1, 2, 3] rfl ?_
  refine jx_aload_n 0 dX1_learnOf_0 rfl rfl ?_
  refine jx_dup dX1_learnOf_1 rfl ?_
  obtain ⟨hk1, h⟩ := h
  refine jx_geti jc_1 (j := 2) (by decide) rfl jwF_X1_9 dX1_learnOf_2 hk1 ?_
  refine jx_aload_n 2 dX1_learnOf_5 rfl rfl ?_
  obtain ⟨hk2, h⟩ := h
  refine jx_geti jc_2 (j := 4) (by decide) rfl jwF_X1_69 dX1_learnOf_6 hk2 ?_
  refine jx_isub dX1_learnOf_9 ?_
  refine jx_puti jc_1 (j := 2) (by decide) rfl jwF_X1_9 rfl rfl rfl dX1_learnOf_10 hk1 ?_
  refine jx_aload_n 0 dX1_learnOf_13 rfl rfl ?_
  refine jx_iload_n 3 dX1_learnOf_14 rfl rfl ?_
  refine jx_callVv (M' := mX1_passDays) (As := [.int x3]) jo_X1_passDays jc_1 rfl jwM_X1_72 jwN_X1_passDays jwX_X1_passDays dX1_learnOf_15 (jRok_m _ _ _) rfl (jle rfl) ⟨jle rfl, jle rfl⟩ hk1 h (fun S3 h => ?_)
  refine jx_aload_n 0 dX1_learnOf_18 rfl rfl ?_
  refine jx_dup dX1_learnOf_19 rfl ?_
  obtain ⟨hk4, h⟩ := h
  refine jx_geti jc_1 (j := 1) (by decide) rfl jwF_X1_25 dX1_learnOf_20 hk4 ?_
  refine jx_aload_n 2 dX1_learnOf_23 rfl rfl ?_
  obtain ⟨hk5, h⟩ := h
  refine jx_callVi (M' := mX2_unlearnt) (As := []) jo_X2_unlearnt jc_2 rfl jwM_X1_76 jwN_X2_unlearnt jwX_X2_unlearnt dX1_learnOf_24 (jRok_m _ _ _) rfl (jle rfl) ⟨jle rfl, jle rfl⟩ hk5 h (fun r7 S6 h => ?_)
  refine jx_iconst (v := (-1)) dX1_learnOf_27 (by decide) ?_
  refine jx_ixor dX1_learnOf_28 ?_
  refine jx_iand dX1_learnOf_29 ?_
  obtain ⟨hk8, h⟩ := h
  refine jx_puti jc_1 (j := 1) (by decide) rfl jwF_X1_25 rfl rfl rfl dX1_learnOf_30 hk8 ?_
  refine jx_aload_n 2 dX1_learnOf_33 rfl rfl ?_
  obtain ⟨hk9, h⟩ := h
  refine jx_geti jc_2 (j := 2) (by decide) rfl jwF_X1_66 dX1_learnOf_34 hk9 ?_
  refine jx_topi (y := (ji S6 a2 2)) (by simp [ji_put, ji_row, ji_putr]) ?_
  refine jx_bipush (v := 10) dX1_learnOf_37 (by decide) ?_
  refine jx_callSNi (M' := mX10_within) (As := [.int (ji S6 a2 2), .int 10]) (host := "NineMasters") jo_X10_within (by decide) jwS_X10_within dX1_learnOf_39 (jRok_m _ _ _) rfl (jle rfl) ⟨jle rfl, jle rfl⟩ (c_X10_within (Q := fun v S' => v = (jwi (ji S6 a2 2) 10) ∧ (jput S6 a0 1 ((ji S3 a0 1) &&& (r7 ^^^ (-1)))) = S') ⟨rfl, rfl⟩) (fun r10 S11 hq12 => ?_)
  obtain ⟨rfl, rfl⟩ := hq12
  refine jx_if_eq (tgt := 80) dX1_learnOf_42 (by decide) (fun c13 => ?_) (fun c13 => ?_)
  · replace h := h.1 c13
    exact jx_vret dX1_learnOf_80 rfl (jle rfl) (jle rfl) ⟨rfl, h⟩
  replace h := h.2 c13
  refine jx_aload_n 0 dX1_learnOf_45 rfl rfl ?_
  refine jx_dup dX1_learnOf_46 rfl ?_
  refine jx_geti jc_1 (j := 1) (by decide) rfl jwF_X1_25 dX1_learnOf_47 hk8 ?_
  refine jx_topi (y := ((ji S3 a0 1) &&& (r7 ^^^ (-1)))) (by simp [ji_put, ji_row, ji_putr]) ?_
  refine jx_iconst (v := 1) dX1_learnOf_50 (by decide) ?_
  refine jx_aload_n 2 dX1_learnOf_51 rfl rfl ?_
  refine jx_geti jc_2 (j := 2) (by decide) rfl jwF_X1_66 dX1_learnOf_52 hk9 ?_
  refine jx_topi (y := (ji S6 a2 2)) (by simp [ji_put, ji_row, ji_putr]) ?_
  refine jx_ishl dX1_learnOf_55 ?_
  refine jx_ior dX1_learnOf_56 ?_
  refine jx_puti jc_1 (j := 1) (by decide) rfl jwF_X1_25 rfl rfl rfl dX1_learnOf_57 hk8 ?_
  refine jx_aload_n 0 dX1_learnOf_60 rfl rfl ?_
  obtain ⟨b14, hb14, h⟩ := h
  refine jx_getr jc_1 (j := 5) (by decide) rfl jwF_X1_15 dX1_learnOf_61 hk8 hb14 ?_
  refine jx_aload_n 2 dX1_learnOf_64 rfl rfl ?_
  refine jx_geti jc_2 (j := 2) (by decide) rfl jwF_X1_66 dX1_learnOf_65 hk9 ?_
  refine jx_topi (y := (ji S6 a2 2)) (by simp [ji_put, ji_row, ji_putr]) ?_
  refine jx_iload_n 1 dX1_learnOf_68 rfl rfl ?_
  obtain ⟨hk15, h⟩ := h
  obtain ⟨hi16, h⟩ := h
  refine jx_iast dX1_learnOf_69 hk15 hi16 ?_
  refine jx_aload_n 0 dX1_learnOf_70 rfl rfl ?_
  obtain ⟨b17, hb17, h⟩ := h
  refine jx_getr jc_1 (j := 6) (by decide) rfl jwF_X1_19 dX1_learnOf_71 hk8 hb17 ?_
  refine jx_aload_n 2 dX1_learnOf_74 rfl rfl ?_
  refine jx_geti jc_2 (j := 2) (by decide) rfl jwF_X1_66 dX1_learnOf_75 hk9 ?_
  refine jx_topi (y := (ji S6 a2 2)) (by simp [ji_put, ji_row, ji_putr, jne hk9 hk15 (by decide)]) ?_
  refine jx_iconst (v := 0) dX1_learnOf_78 (by decide) ?_
  obtain ⟨hk18, h⟩ := h
  obtain ⟨hi19, h⟩ := h
  refine jx_iast dX1_learnOf_79 hk18 hi19 ?_
  exact jx_vret dX1_learnOf_80 rfl (jle rfl) (jle rfl) ⟨rfl, h⟩
set_option maxRecDepth 100000 in
set_option maxHeartbeats 4000000 in
theorem T_X1_practise {E : jEnv} {d : Nat} {Q : Int32 → jM → Prop} {a0 : Nat} {x1 : Int32} {S : jM} (h : ((jwi x1 10) = 0 → Q 0 S) ∧ (¬ (jwi x1 10) = 0 → jk S a0 = 1 ∧ jFi E mX1_isAble d 0 0 [.ref a0, .int x1] S (fun r7 S6 => (r7 = 0 → Q 0 S6) ∧ (¬ r7 = 0 → jk S6 a0 = 1 ∧ ∃ b10, jr S6 a0 6 = some b10 ∧ (jk S6 b10 = 12 ∧ vp_in x1 (jl S6 b10) ∧ (jFv E mX1_passDays d 0 0 [.ref a0, .int 1] (jput S6 b10 (Int32.toNatClampNeg x1) 0) (fun S13 => Q 1 S13))))))) : jFi E mX1_practise (d + 1) 0 0 [.ref a0, .int x1] S Q := by
  refine jF_of (by decide) (jle rfl) ?_
  refine jx_lv (lv1 := [(0, .ref a0), (1, .int x1)]) [0, 1] rfl ?_
  refine jx_iload_n 1 dX1_practise_0 rfl rfl ?_
  refine jx_bipush (v := 10) dX1_practise_1 (by decide) ?_
  refine jx_callSNi (M' := mX10_within) (As := [.int x1, .int 10]) (host := "NineMasters") jo_X10_within (by decide) jwS_X10_within dX1_practise_3 (jRok_m _ _ _) rfl (jle rfl) ⟨jle rfl, jle rfl⟩ (c_X10_within (Q := fun v S' => v = (jwi x1 10) ∧ S = S') ⟨rfl, rfl⟩) (fun r1 S2 hq3 => ?_)
  obtain ⟨rfl, rfl⟩ := hq3
  refine jx_if_eq (tgt := 17) dX1_practise_6 (by decide) (fun c4 => ?_) (fun c4 => ?_)
  · replace h := h.1 c4
    refine jx_iconst (v := 0) dX1_practise_17 (by decide) ?_
    exact jx_iret dX1_practise_18 rfl (by decide) (jle rfl) (jle rfl) ⟨_, rfl, h⟩
  replace h := h.2 c4
  refine jx_aload_n 0 dX1_practise_9 rfl rfl ?_
  refine jx_iload_n 1 dX1_practise_10 rfl rfl ?_
  obtain ⟨hk5, h⟩ := h
  refine jx_callVi (M' := mX1_isAble) (As := [.int x1]) jo_X1_isAble jc_1 rfl jwM_X1_50 jwN_X1_isAble jwX_X1_isAble dX1_practise_11 (jRok_m _ _ _) rfl (jle rfl) ⟨jle rfl, jle rfl⟩ hk5 h (fun r7 S6 h => ?_)
  refine jx_if_ne (tgt := 19) dX1_practise_14 (by decide) (fun c8 => ?_) (fun c8 => ?_)
  · replace h := h.2 c8
    refine jx_aload_n 0 dX1_practise_19 rfl rfl ?_
    obtain ⟨hk9, h⟩ := h
    obtain ⟨b10, hb10, h⟩ := h
    refine jx_getr jc_1 (j := 6) (by decide) rfl jwF_X1_19 dX1_practise_20 hk9 hb10 ?_
    refine jx_iload_n 1 dX1_practise_23 rfl rfl ?_
    refine jx_iconst (v := 0) dX1_practise_24 (by decide) ?_
    obtain ⟨hk11, h⟩ := h
    obtain ⟨hi12, h⟩ := h
    refine jx_iast dX1_practise_25 hk11 hi12 ?_
    refine jx_aload_n 0 dX1_practise_26 rfl rfl ?_
    refine jx_iconst (v := 1) dX1_practise_27 (by decide) ?_
    refine jx_callVv (M' := mX1_passDays) (As := [.int 1]) jo_X1_passDays jc_1 rfl jwM_X1_72 jwN_X1_passDays jwX_X1_passDays dX1_practise_28 (jRok_m _ _ _) rfl (jle rfl) ⟨jle rfl, jle rfl⟩ hk9 h (fun S13 h => ?_)
    refine jx_iconst (v := 1) dX1_practise_31 (by decide) ?_
    exact jx_iret dX1_practise_32 rfl (by decide) (jle rfl) (jle rfl) ⟨_, rfl, h⟩
  replace h := h.1 c8
  refine jx_iconst (v := 0) dX1_practise_17 (by decide) ?_
  exact jx_iret dX1_practise_18 rfl (by decide) (jle rfl) (jle rfl) ⟨_, rfl, h⟩
/-- X0_init at its loop's head 20 -/
abbrev L_X0_init_20 (E : jEnv) (d : Nat) (Q : jM → Prop) (a0 : Nat) (x1 : Int32) (S : jM) (c9 k9 : Nat) : Prop := jX E mX0_init (jRm (d + 1) 10 72) (jZm E (fun r S' => r = none ∧ Q S') 10 72) 20 [(0, .ref a0), (1, .int x1)] [] S c9 k9
set_option maxRecDepth 100000 in
set_option maxHeartbeats 4000000 in
theorem T_X0_init {E : jEnv} {d : Nat} {Q : jM → Prop} {a0 : Nat} {S : jM} (h : ∀ q1, q1 = jn S → jk (jnew S 13 9) a0 = 0 ∧ L_X0_init_20 E d Q a0 0 (jput (jputr (jnew S 13 9) a0 0 (some q1)) a0 2 1) 1 9) : jFv E mX0_init (d + 1) 10 72 [.ref a0] S Q := by
  refine jF_of (by decide) (jle rfl) ?_
  refine jx_lv (lv1 := [(0, .ref a0)]) [0] rfl ?_
  refine jx_aload_n 0 dX0_init_0 rfl rfl ?_
  refine jx_objInit jwM_X0_3 jwN_obj jwO_obj dX0_init_1 (jRok_m _ _ _) (jle rfl) ?_
  refine jx_aload_n 0 dX0_init_4 rfl rfl ?_
  refine jx_bipush (v := 9) dX0_init_5 (by decide) ?_
  refine jx_anew (kk := 13) (N := 9) jc_2 (by decide) (by decide) rfl jwK_X0_9 dX0_init_7 (by decide) (by decide) (by decide) ⟨jle rfl, jle rfl⟩ ?_
  obtain ⟨q1, hq1⟩ : ∃ q, q = jn S := ⟨_, rfl⟩
  rw [← hq1]
  replace h := h q1 hq1
  obtain ⟨hk2, h⟩ := h
  refine jx_putrF jc_0 (j := 0) (by decide) rfl jwF_X0_11 rfl rfl rfl rfl rfl dX0_init_10 hk2 ?_
  refine jx_aload_n 0 dX0_init_13 rfl rfl ?_
  refine jx_iconst (v := 1) dX0_init_14 (by decide) ?_
  refine jx_puti jc_0 (j := 2) (by decide) rfl jwF_X0_17 rfl rfl rfl dX0_init_15 hk2 ?_
  refine jx_iconst (v := 0) dX0_init_18 (by decide) ?_
  refine jx_istore_n (lv1 := [(1, .int 0), (0, .ref a0)]) dX0_init_19 rfl (by decide) rfl ?_
  exact jx_lv [1, 0] rfl h
set_option maxRecDepth 100000 in
set_option maxHeartbeats 4000000 in
theorem T_X0_init_20 {E : jEnv} {d : Nat} {Q : jM → Prop} {a0 : Nat} {x1 : Int32} {S : jM} {c9 k9 : Nat} (h : (9 ≤ x1 → (c9 ≤ 10 ∧ k9 ≤ 72) ∧ Q S) ∧ (¬ 9 ≤ x1 → jk S a0 = 0 ∧ ∃ b7, jr S a0 0 = some b7 ∧ ((c9 + 1 ≤ 10 ∧ k9 + 7 ≤ 72) ∧ ∀ q9, q9 = jn S → ((c9 + 1) + 0 ≤ 10 ∧ (k9 + 7) + 0 ≤ 72) ∧ jFv E mX2_init d 0 0 [.ref q9] (jnew S 2 0) (fun S11 => jk S11 b7 = 13 ∧ jk S11 q9 = 2 ∧ vp_in x1 (jl S11 b7) ∧ (L_X0_init_20 E d Q a0 (x1 + 1) (jputr S11 b7 (Int32.toNatClampNeg x1) (some q9)) ((c9 + 1) + 0) ((k9 + 7) + 0)))))) : L_X0_init_20 E d Q a0 x1 S c9 k9 := by
  show jX E mX0_init (jRm (d + 1) 10 72) (jZm E (fun r S' => r = none ∧ Q S') 10 72) 20 [(0, .ref a0), (1, .int x1)] [] S c9 k9
  refine jx_iload_n 1 dX0_init_20 rfl rfl ?_
  refine jx_bipush (v := 9) dX0_init_21 (by decide) ?_
  refine jx_icmp_ge (tgt := 45) dX0_init_23 (by decide) (fun c4 => ?_) (fun c4 => ?_)
  · replace h := h.1 c4
    obtain ⟨hm5, h⟩ := h
    exact jx_vret dX0_init_45 rfl hm5.1 hm5.2 ⟨rfl, h⟩
  replace h := h.2 c4
  refine jx_aload_n 0 dX0_init_26 rfl rfl ?_
  obtain ⟨hk6, h⟩ := h
  obtain ⟨b7, hb7, h⟩ := h
  refine jx_getr jc_0 (j := 0) (by decide) rfl jwF_X0_11 dX0_init_27 hk6 hb7 ?_
  refine jx_iload_n 1 dX0_init_30 rfl rfl ?_
  obtain ⟨hm8, h⟩ := h
  refine jx_new jc_2 jwK_X0_9 jwI_X2 jwZ_X2 jdv_2 dX0_init_31 hm8 ?_
  obtain ⟨q9, hq9⟩ : ∃ q, q = jn S := ⟨_, rfl⟩
  rw [← hq9]
  replace h := h q9 hq9
  refine jx_dup dX0_init_34 rfl ?_
  obtain ⟨hm10, h⟩ := h
  refine jx_callINv (M' := mX2_init) (As := []) (b := q9) (host := "NineMasters") jo_X2_init rfl (by decide) jwN_X2_init rfl dX0_init_35 (jRok_m _ _ _) rfl (jle rfl) hm10 h (fun S11 h => ?_)
  obtain ⟨hk12, h⟩ := h
  obtain ⟨hk14, h⟩ := h
  obtain ⟨hi13, h⟩ := h
  refine jx_aast dX0_init_38 hk12 (by decide) (by decide) jc_2 rfl hk14 hi13 ?_
  refine jx_iinc 1 (v := (x1 + 1)) (lv1 := [(1, .int (x1 + 1)), (0, .ref a0)]) kd0.1 rfl rfl (by decide) rfl ?_
  refine jx_goto (tgt := 20) kd0.2 (by decide) ?_
  exact jx_lv [1, 0] rfl h
/-- X0_become at its loop's head 18 -/
abbrev L_X0_become_18 (E : jEnv) (d : Nat) (Q : jM → Prop) (a0 : Nat) (a1 : Nat) (x2 : Int32) (S : jM) : Prop := jX E mX0_become (jRm (d + 1) 0 0) (jZm E (fun r S' => r = none ∧ Q S') 0 0) 18 [(0, .ref a0), (1, .ref a1), (2, .int x2)] [] S 0 0
set_option maxRecDepth 100000 in
set_option maxHeartbeats 4000000 in
theorem T_X0_become {E : jEnv} {d : Nat} {Q : jM → Prop} {a0 : Nat} {a1 : Nat} {S : jM} (h : jk S a1 = 0 ∧ jk S a0 = 0 ∧ L_X0_become_18 E d Q a0 a1 0 (jput (jput S a0 1 (ji S a1 1)) a0 2 (ji S a1 2))) : jFv E mX0_become (d + 1) 0 0 [.ref a0, .ref a1] S Q := by
  refine jF_of (by decide) (jle rfl) ?_
  refine jx_lv (lv1 := [(0, .ref a0), (1, .ref a1)]) [0, 1] rfl ?_
  refine jx_aload_n 0 dX0_become_0 rfl rfl ?_
  refine jx_aload_n 1 dX0_become_1 rfl rfl ?_
  obtain ⟨hk1, h⟩ := h
  refine jx_geti jc_0 (j := 1) (by decide) rfl jwF_X0_22 dX0_become_2 hk1 ?_
  obtain ⟨hk2, h⟩ := h
  refine jx_puti jc_0 (j := 1) (by decide) rfl jwF_X0_22 rfl rfl rfl dX0_become_5 hk2 ?_
  refine jx_aload_n 0 dX0_become_8 rfl rfl ?_
  refine jx_aload_n 1 dX0_become_9 rfl rfl ?_
  refine jx_geti jc_0 (j := 2) (by decide) rfl jwF_X0_17 dX0_become_10 hk1 ?_
  refine jx_topi (y := (ji S a1 2)) (by simp [ji_put, ji_row, ji_putr]) ?_
  refine jx_puti jc_0 (j := 2) (by decide) rfl jwF_X0_17 rfl rfl rfl dX0_become_13 hk2 ?_
  refine jx_iconst (v := 0) dX0_become_16 (by decide) ?_
  refine jx_istore_n (lv1 := [(2, .int 0), (0, .ref a0), (1, .ref a1)]) dX0_become_17 rfl (by decide) rfl ?_
  exact jx_lv [1, 2, 0] rfl h
set_option maxRecDepth 100000 in
set_option maxHeartbeats 4000000 in
theorem T_X0_become_18 {E : jEnv} {d : Nat} {Q : jM → Prop} {a0 : Nat} {a1 : Nat} {x2 : Int32} {S : jM} (h : (9 ≤ x2 → Q S) ∧ (¬ 9 ≤ x2 → jk S a0 = 0 ∧ ∃ b5, jr S a0 0 = some b5 ∧ (jk S b5 = 13 ∧ vp_in x2 (jl S b5) ∧ ∃ b8, jr S b5 (Int32.toNatClampNeg x2) = some b8 ∧ (jk S a1 = 0 ∧ ∃ b10, jr S a1 0 = some b10 ∧ (jk S b10 = 13 ∧ vp_in x2 (jl S b10) ∧ ∃ b13, jr S b10 (Int32.toNatClampNeg x2) = some b13 ∧ (jk S b8 = 2 ∧ jFv E mX2_become d 0 0 [.ref b8, .ref b13] S (fun S15 => L_X0_become_18 E d Q a0 a1 (x2 + 1) S15))))))) : L_X0_become_18 E d Q a0 a1 x2 S := by
  show jX E mX0_become (jRm (d + 1) 0 0) (jZm E (fun r S' => r = none ∧ Q S') 0 0) 18 [(0, .ref a0), (1, .ref a1), (2, .int x2)] [] S 0 0
  refine jx_iload_n 2 dX0_become_18 rfl rfl ?_
  refine jx_bipush (v := 9) dX0_become_19 (by decide) ?_
  refine jx_icmp_ge (tgt := 45) dX0_become_21 (by decide) (fun c3 => ?_) (fun c3 => ?_)
  · replace h := h.1 c3
    exact jx_vret dX0_become_45 rfl (jle rfl) (jle rfl) ⟨rfl, h⟩
  replace h := h.2 c3
  refine jx_aload_n 0 dX0_become_24 rfl rfl ?_
  obtain ⟨hk4, h⟩ := h
  obtain ⟨b5, hb5, h⟩ := h
  refine jx_getr jc_0 (j := 0) (by decide) rfl jwF_X0_11 dX0_become_25 hk4 hb5 ?_
  refine jx_iload_n 2 dX0_become_28 rfl rfl ?_
  obtain ⟨hk6, h⟩ := h
  obtain ⟨hi7, h⟩ := h
  obtain ⟨b8, hb8, h⟩ := h
  refine jx_aaldS dX0_become_29 hk6 (by decide) (by decide) hi7 hb8 ?_
  refine jx_aload_n 1 dX0_become_30 rfl rfl ?_
  obtain ⟨hk9, h⟩ := h
  obtain ⟨b10, hb10, h⟩ := h
  refine jx_getr jc_0 (j := 0) (by decide) rfl jwF_X0_11 dX0_become_31 hk9 hb10 ?_
  refine jx_iload_n 2 dX0_become_34 rfl rfl ?_
  obtain ⟨hk11, h⟩ := h
  obtain ⟨hi12, h⟩ := h
  obtain ⟨b13, hb13, h⟩ := h
  refine jx_aaldS dX0_become_35 hk11 (by decide) (by decide) hi12 hb13 ?_
  obtain ⟨hk14, h⟩ := h
  refine jx_callVv (M' := mX2_become) (As := [.ref b13]) jo_X2_become jc_2 rfl jwM_X0_25 jwN_X2_become jwX_X2_become dX0_become_36 (jRok_m _ _ _) rfl (jle rfl) ⟨jle rfl, jle rfl⟩ hk14 h (fun S15 h => ?_)
  refine jx_iinc 2 (v := (x2 + 1)) (lv1 := [(2, .int (x2 + 1)), (0, .ref a0), (1, .ref a1)]) kd1.1 rfl rfl (by decide) rfl ?_
  refine jx_goto (tgt := 18) kd1.2 (by decide) ?_
  exact jx_lv [1, 2, 0] rfl h
set_option maxRecDepth 100000 in
set_option maxHeartbeats 4000000 in
theorem T_X0_find {E : jEnv} {d : Nat} {Q : Option Nat → jM → Prop} {a0 : Nat} {x1 : Int32} {S : jM} (h : jk S a0 = 0 ∧ ((jwi x1 (ji S a0 1)) = 0 → Q none S) ∧ (¬ (jwi x1 (ji S a0 1)) = 0 → (9 ≤ x1 → Q none S) ∧ (¬ 9 ≤ x1 → ∃ b7, jr S a0 0 = some b7 ∧ (jk S b7 = 13 ∧ vp_in x1 (jl S b7) ∧ ∃ b10, jr S b7 (Int32.toNatClampNeg x1) = some b10 ∧ (Q (some b10) S))))) : jFr E mX0_find (d + 1) 0 0 [.ref a0, .int x1] S Q := by
  refine jF_of (by decide) (jle rfl) ?_
  refine jx_lv (lv1 := [(0, .ref a0), (1, .int x1)]) [0, 1] rfl ?_
  refine jx_iload_n 1 dX0_find_0 rfl rfl ?_
  refine jx_aload_n 0 dX0_find_1 rfl rfl ?_
  obtain ⟨hk1, h⟩ := h
  refine jx_geti jc_0 (j := 1) (by decide) rfl jwF_X0_22 dX0_find_2 hk1 ?_
  refine jx_callSNi (M' := mX10_within) (As := [.int x1, .int (ji S a0 1)]) (host := "NineMasters") jo_X10_within (by decide) jwS_X10_within dX0_find_5 (jRok_m _ _ _) rfl (jle rfl) ⟨jle rfl, jle rfl⟩ (c_X10_within (Q := fun v S' => v = (jwi x1 (ji S a0 1)) ∧ S = S') ⟨rfl, rfl⟩) (fun r2 S3 hq4 => ?_)
  obtain ⟨rfl, rfl⟩ := hq4
  refine jx_if_eq (tgt := 26) dX0_find_8 (by decide) (fun c5 => ?_) (fun c5 => ?_)
  · replace h := h.1 c5
    refine jx_null dX0_find_26 ?_
    exact jx_aret (o := none) dX0_find_27 rfl (jle rfl) (jle rfl) ⟨_, rfl, h⟩
  replace h := h.2 c5
  refine jx_iload_n 1 dX0_find_11 rfl rfl ?_
  refine jx_bipush (v := 9) dX0_find_12 (by decide) ?_
  refine jx_icmp_ge (tgt := 26) dX0_find_14 (by decide) (fun c6 => ?_) (fun c6 => ?_)
  · replace h := h.1 c6
    refine jx_null dX0_find_26 ?_
    exact jx_aret (o := none) dX0_find_27 rfl (jle rfl) (jle rfl) ⟨_, rfl, h⟩
  replace h := h.2 c6
  refine jx_aload_n 0 dX0_find_17 rfl rfl ?_
  obtain ⟨b7, hb7, h⟩ := h
  refine jx_getr jc_0 (j := 0) (by decide) rfl jwF_X0_11 dX0_find_18 hk1 hb7 ?_
  refine jx_iload_n 1 dX0_find_21 rfl rfl ?_
  obtain ⟨hk8, h⟩ := h
  obtain ⟨hi9, h⟩ := h
  obtain ⟨b10, hb10, h⟩ := h
  refine jx_aaldS dX0_find_22 hk8 (by decide) (by decide) hi9 hb10 ?_
  refine jx_goto (tgt := 27) dX0_find_23 (by decide) ?_
  exact jx_aret (o := (some b10)) dX0_find_27 rfl (jle rfl) (jle rfl) ⟨_, rfl, h⟩
set_option maxRecDepth 100000 in
set_option maxHeartbeats 4000000 in
theorem T_X0_join {E : jEnv} {d : Nat} {Q : Int32 → jM → Prop} {a0 : Nat} {x1 : Int32} {x2 : Int32} {x3 : Int32} {x4 : Int32} {S : jM} (h : jk S a0 = 0 ∧ ((jwi (ji S a0 1) 9) = 0 → Q 0 S) ∧ (¬ (jwi (ji S a0 1) 9) = 0 → ∃ b6, jr S a0 0 = some b6 ∧ (jk S b6 = 13 ∧ vp_in (ji S a0 1) (jl S b6) ∧ ∃ b9, jr S b6 (Int32.toNatClampNeg (ji S a0 1)) = some b9 ∧ (jk S b9 = 2 ∧ jFv E mX2_begin d 0 0 [.ref b9, .int x1, .int x2, .int x3, .int x4] S (fun S11 => jk S11 a0 = 0 ∧ Q 1 (jput S11 a0 1 ((ji S11 a0 1) + 1))))))) : jFi E mX0_join (d + 1) 0 0 [.ref a0, .int x1, .int x2, .int x3, .int x4] S Q := by
  refine jF_of (by decide) (jle rfl) ?_
  refine jx_lv (lv1 := [(0, .ref a0), (1, .int x1), (2, .int x2), (3, .int x3), (4, .int x4)]) [0, 1, 2, 3, 4] rfl ?_
  refine jx_aload_n 0 dX0_join_0 rfl rfl ?_
  obtain ⟨hk1, h⟩ := h
  refine jx_geti jc_0 (j := 1) (by decide) rfl jwF_X0_22 dX0_join_1 hk1 ?_
  refine jx_bipush (v := 9) dX0_join_4 (by decide) ?_
  refine jx_callSNi (M' := mX10_within) (As := [.int (ji S a0 1), .int 9]) (host := "NineMasters") jo_X10_within (by decide) jwS_X10_within dX0_join_6 (jRok_m _ _ _) rfl (jle rfl) ⟨jle rfl, jle rfl⟩ (c_X10_within (Q := fun v S' => v = (jwi (ji S a0 1) 9) ∧ S = S') ⟨rfl, rfl⟩) (fun r2 S3 hq4 => ?_)
  obtain ⟨rfl, rfl⟩ := hq4
  refine jx_if_ne (tgt := 14) dX0_join_9 (by decide) (fun c5 => ?_) (fun c5 => ?_)
  · replace h := h.2 c5
    refine jx_aload_n 0 dX0_join_14 rfl rfl ?_
    obtain ⟨b6, hb6, h⟩ := h
    refine jx_getr jc_0 (j := 0) (by decide) rfl jwF_X0_11 dX0_join_15 hk1 hb6 ?_
    refine jx_aload_n 0 dX0_join_18 rfl rfl ?_
    refine jx_geti jc_0 (j := 1) (by decide) rfl jwF_X0_22 dX0_join_19 hk1 ?_
    obtain ⟨hk7, h⟩ := h
    obtain ⟨hi8, h⟩ := h
    obtain ⟨b9, hb9, h⟩ := h
    refine jx_aaldS dX0_join_22 hk7 (by decide) (by decide) hi8 hb9 ?_
    refine jx_iload_n 1 dX0_join_23 rfl rfl ?_
    refine jx_iload_n 2 dX0_join_24 rfl rfl ?_
    refine jx_iload_n 3 dX0_join_25 rfl rfl ?_
    refine jx_iload 4 dX0_join_26 rfl ?_
    obtain ⟨hk10, h⟩ := h
    refine jx_callVv (M' := mX2_begin) (As := [.int x1, .int x2, .int x3, .int x4]) jo_X2_begin jc_2 rfl jwM_X0_33 jwN_X2_begin jwX_X2_begin dX0_join_28 (jRok_m _ _ _) rfl (jle rfl) ⟨jle rfl, jle rfl⟩ hk10 h (fun S11 h => ?_)
    refine jx_aload_n 0 dX0_join_31 rfl rfl ?_
    refine jx_dup dX0_join_32 rfl ?_
    obtain ⟨hk12, h⟩ := h
    refine jx_geti jc_0 (j := 1) (by decide) rfl jwF_X0_22 dX0_join_33 hk12 ?_
    refine jx_iconst (v := 1) dX0_join_36 (by decide) ?_
    refine jx_iadd dX0_join_37 ?_
    refine jx_puti jc_0 (j := 1) (by decide) rfl jwF_X0_22 rfl rfl rfl dX0_join_38 hk12 ?_
    refine jx_iconst (v := 1) dX0_join_41 (by decide) ?_
    exact jx_iret dX0_join_42 rfl (by decide) (jle rfl) (jle rfl) ⟨_, rfl, h⟩
  replace h := h.1 c5
  refine jx_iconst (v := 0) dX0_join_12 (by decide) ?_
  exact jx_iret dX0_join_13 rfl (by decide) (jle rfl) (jle rfl) ⟨_, rfl, h⟩
set_option maxRecDepth 100000 in
set_option maxHeartbeats 4000000 in
theorem T_X0_joinByLot {E : jEnv} {d : Nat} {Q : jM → Prop} {a0 : Nat} {S : jM} (h : jk S a0 = 0 ∧ jFi E mX0_draw d 0 0 [.ref a0] S (fun r3 S2 => jk S2 a0 = 0 ∧ jFi E mX0_draw d 0 0 [.ref a0] S2 (fun r6 S5 => jk S5 a0 = 0 ∧ jFi E mX0_draw d 0 0 [.ref a0] S5 (fun r9 S8 => jk S8 a0 = 0 ∧ jFi E mX0_draw d 0 0 [.ref a0] S8 (fun r12 S11 => jk S11 a0 = 0 ∧ jFi E mX0_join d 0 0 [.ref a0, .int (jrem r3 6), .int (jrem r6 6), .int (jrem r9 10), .int (jrem r12 40)] S11 (fun r15 S14 => Q S14)))))) : jFv E mX0_joinByLot (d + 1) 0 0 [.ref a0] S Q := by
  refine jF_of (by decide) (jle rfl) ?_
  refine jx_lv (lv1 := [(0, .ref a0)]) [0] rfl ?_
  refine jx_aload_n 0 dX0_joinByLot_0 rfl rfl ?_
  obtain ⟨hk1, h⟩ := h
  refine jx_callVi (M' := mX0_draw) (As := []) jo_X0_draw jc_0 rfl jwM_X0_37 jwN_X0_draw jwX_X0_draw dX0_joinByLot_1 (jRok_m _ _ _) rfl (jle rfl) ⟨jle rfl, jle rfl⟩ hk1 h (fun r3 S2 h => ?_)
  refine jx_bipush (v := 6) dX0_joinByLot_4 (by decide) ?_
  refine jx_irem dX0_joinByLot_6 (by decide) ?_
  refine jx_istore_n (lv1 := [(1, .int (jrem r3 6)), (0, .ref a0)]) dX0_joinByLot_7 rfl (by decide) rfl ?_
  refine jx_aload_n 1 dX0_joinByLot_8 rfl rfl ?_
  obtain ⟨hk4, h⟩ := h
  refine jx_callVi (M' := mX0_draw) (As := []) jo_X0_draw jc_0 rfl jwM_X0_37 jwN_X0_draw jwX_X0_draw dX0_joinByLot_9 (jRok_m _ _ _) rfl (jle rfl) ⟨jle rfl, jle rfl⟩ hk4 h (fun r6 S5 h => ?_)
  refine jx_bipush (v := 6) dX0_joinByLot_12 (by decide) ?_
  refine jx_irem dX0_joinByLot_14 (by decide) ?_
  refine jx_istore_n (lv1 := [(2, .int (jrem r6 6)), (1, .int (jrem r3 6)), (0, .ref a0)]) dX0_joinByLot_15 rfl (by decide) rfl ?_
  refine jx_aload_n 2 dX0_joinByLot_16 rfl rfl ?_
  obtain ⟨hk7, h⟩ := h
  refine jx_callVi (M' := mX0_draw) (As := []) jo_X0_draw jc_0 rfl jwM_X0_37 jwN_X0_draw jwX_X0_draw dX0_joinByLot_17 (jRok_m _ _ _) rfl (jle rfl) ⟨jle rfl, jle rfl⟩ hk7 h (fun r9 S8 h => ?_)
  refine jx_bipush (v := 10) dX0_joinByLot_20 (by decide) ?_
  refine jx_irem dX0_joinByLot_22 (by decide) ?_
  refine jx_istore_n (lv1 := [(3, .int (jrem r9 10)), (2, .int (jrem r6 6)), (1, .int (jrem r3 6)), (0, .ref a0)]) dX0_joinByLot_23 rfl (by decide) rfl ?_
  refine jx_aload_n 3 dX0_joinByLot_24 rfl rfl ?_
  obtain ⟨hk10, h⟩ := h
  refine jx_callVi (M' := mX0_draw) (As := []) jo_X0_draw jc_0 rfl jwM_X0_37 jwN_X0_draw jwX_X0_draw dX0_joinByLot_25 (jRok_m _ _ _) rfl (jle rfl) ⟨jle rfl, jle rfl⟩ hk10 h (fun r12 S11 h => ?_)
  refine jx_bipush (v := 40) dX0_joinByLot_28 (by decide) ?_
  refine jx_irem dX0_joinByLot_30 (by decide) ?_
  refine jx_istore (lv1 := [(4, .int (jrem r12 40)), (3, .int (jrem r9 10)), (2, .int (jrem r6 6)), (1, .int (jrem r3 6)), (0, .ref a0)]) dX0_joinByLot_31 (by decide) rfl ?_
  refine jx_aload_n 4 dX0_joinByLot_33 rfl rfl ?_
  refine jx_iload_n 3 dX0_joinByLot_34 rfl rfl ?_
  refine jx_iload_n 2 dX0_joinByLot_35 rfl rfl ?_
  refine jx_iload_n 1 dX0_joinByLot_36 rfl rfl ?_
  refine jx_iload 0 dX0_joinByLot_37 rfl ?_
  obtain ⟨hk13, h⟩ := h
  refine jx_callVi (M' := mX0_join) (As := [.int (jrem r3 6), .int (jrem r6 6), .int (jrem r9 10), .int (jrem r12 40)]) jo_X0_join jc_0 rfl jwM_X0_41 jwN_X0_join jwX_X0_join dX0_joinByLot_39 (jRok_m _ _ _) rfl (jle rfl) ⟨jle rfl, jle rfl⟩ hk13 h (fun r15 S14 h => ?_)
  refine jx_pop dX0_joinByLot_42 rfl ?_
  exact jx_vret dX0_joinByLot_43 rfl (jle rfl) (jle rfl) ⟨rfl, h⟩
set_option maxRecDepth 100000 in
set_option maxHeartbeats 4000000 in
theorem T_X0_draw {E : jEnv} {d : Nat} {Q : Int32 → jM → Prop} {a0 : Nat} {S : jM} (h : jk S a0 = 0 ∧ Q (jushr (((ji S a0 2) * 1103515245) + 12345) 8) (jput S a0 2 (((ji S a0 2) * 1103515245) + 12345))) : jFi E mX0_draw d 0 0 [.ref a0] S Q := by
  refine jF_of (by decide) (jle rfl) ?_
  refine jx_lv (lv1 := [(0, .ref a0)]) [0] rfl ?_
  refine jx_aload_n 0 dX0_draw_0 rfl rfl ?_
  refine jx_aload_n 0 dX0_draw_1 rfl rfl ?_
  obtain ⟨hk1, h⟩ := h
  refine jx_geti jc_0 (j := 2) (by decide) rfl jwF_X0_17 dX0_draw_2 hk1 ?_
  refine jx_ldc jwC_X0_45 dX0_draw_5 ?_
  refine jx_imul dX0_draw_7 ?_
  refine jx_sipush (v := 12345) dX0_draw_8 (by decide) ?_
  refine jx_iadd dX0_draw_11 ?_
  refine jx_puti jc_0 (j := 2) (by decide) rfl jwF_X0_17 rfl rfl rfl dX0_draw_12 hk1 ?_
  refine jx_aload_n 0 dX0_draw_15 rfl rfl ?_
  refine jx_geti jc_0 (j := 2) (by decide) rfl jwF_X0_17 dX0_draw_16 hk1 ?_
  refine jx_topi (y := (((ji S a0 2) * 1103515245) + 12345)) (by simp [ji_put, ji_row, ji_putr]) ?_
  refine jx_bipush (v := 8) dX0_draw_19 (by decide) ?_
  refine jx_iushr dX0_draw_21 ?_
  exact jx_iret dX0_draw_22 rfl rfl (jle rfl) (jle rfl) ⟨_, rfl, h⟩
/-- X0_liveYear at its loop's head 2 -/
abbrev L_X0_liveYear_2 (E : jEnv) (d : Nat) (Q : jM → Prop) (a0 : Nat) (x1 : Int32) (S : jM) : Prop := jX E mX0_liveYear (jRm (d + 1) 0 0) (jZm E (fun r S' => r = none ∧ Q S') 0 0) 2 [(0, .ref a0), (1, .int x1)] [] S 0 0
set_option maxRecDepth 100000 in
set_option maxHeartbeats 4000000 in
theorem T_X0_liveYear {E : jEnv} {d : Nat} {Q : jM → Prop} {a0 : Nat} {S : jM} (h : L_X0_liveYear_2 E d Q a0 0 S) : jFv E mX0_liveYear (d + 1) 0 0 [.ref a0] S Q := by
  refine jF_of (by decide) (jle rfl) ?_
  refine jx_lv (lv1 := [(0, .ref a0)]) [0] rfl ?_
  refine jx_iconst (v := 0) dX0_liveYear_0 (by decide) ?_
  refine jx_istore_n (lv1 := [(1, .int 0), (0, .ref a0)]) dX0_liveYear_1 rfl (by decide) rfl ?_
  exact jx_lv [1, 0] rfl h
set_option maxRecDepth 100000 in
set_option maxHeartbeats 4000000 in
theorem T_X0_liveYear_2 {E : jEnv} {d : Nat} {Q : jM → Prop} {a0 : Nat} {x1 : Int32} {S : jM} (h : jk S a0 = 0 ∧ ((ji S a0 1) ≤ x1 → Q S) ∧ (¬ (ji S a0 1) ≤ x1 → jFr E mX0_find d 0 0 [.ref a0, .int x1] S (fun o4 S3 => (o4 = none → L_X0_liveYear_2 E d Q a0 (x1 + 1) S3) ∧ (∀ b5, o4 = some b5 → jk S3 b5 = 2 ∧ ((ji S3 b5 6) = 0 → jk S3 a0 = 0 ∧ jFi E mX0_draw d 0 0 [.ref a0] S3 (fun r10 S9 => jk S9 b5 = 2 ∧ (((ji S9 b5 5) - 50) ≤ (jrem r10 100) → L_X0_liveYear_2 E d Q a0 (x1 + 1) (jput S9 b5 5 (jmin 99 ((ji S9 b5 5) + 1)))) ∧ (¬ ((ji S9 b5 5) - 50) ≤ (jrem r10 100) → L_X0_liveYear_2 E d Q a0 (x1 + 1) (jput S9 b5 6 1)))) ∧ (¬ (ji S3 b5 6) = 0 → L_X0_liveYear_2 E d Q a0 (x1 + 1) S3))))) : L_X0_liveYear_2 E d Q a0 x1 S := by
  show jX E mX0_liveYear (jRm (d + 1) 0 0) (jZm E (fun r S' => r = none ∧ Q S') 0 0) 2 [(0, .ref a0), (1, .int x1)] [] S 0 0
  refine jx_iload_n 1 dX0_liveYear_2 rfl rfl ?_
  refine jx_aload_n 0 dX0_liveYear_3 rfl rfl ?_
  obtain ⟨hk1, h⟩ := h
  refine jx_geti jc_0 (j := 1) (by decide) rfl jwF_X0_22 dX0_liveYear_4 hk1 ?_
  refine jx_icmp_ge (tgt := 73) dX0_liveYear_7 (by decide) (fun c2 => ?_) (fun c2 => ?_)
  · replace h := h.1 c2
    exact jx_vret dX0_liveYear_73 rfl (jle rfl) (jle rfl) ⟨rfl, h⟩
  replace h := h.2 c2
  refine jx_aload_n 0 dX0_liveYear_10 rfl rfl ?_
  refine jx_iload_n 1 dX0_liveYear_11 rfl rfl ?_
  refine jx_callVr (M' := mX0_find) (As := [.int x1]) jo_X0_find jc_0 rfl jwM_X0_46 jwN_X0_find jwX_X0_find dX0_liveYear_12 (jRok_m _ _ _) rfl (jle rfl) ⟨jle rfl, jle rfl⟩ hk1 h (fun o4 S3 h => ?_)
  rcases o4 with _ | b5
  · replace h := h.1 rfl
    refine jx_astore_nN (lv1 := [(2, .null), (0, .ref a0), (1, .int x1)]) dX0_liveYear_15 rfl (by decide) rfl ?_
    refine jx_aload_nN 0 dX0_liveYear_16 rfl rfl ?_
    refine jx_ifnullN (tgt := 67) dX0_liveYear_17 (by decide) ?_
    refine jx_iinc 2 (v := (x1 + 1)) (lv1 := [(1, .int (x1 + 1)), (2, .null), (0, .ref a0)]) kd2.1 rfl rfl (by decide) rfl ?_
    refine jx_goto (tgt := 2) kd2.2 (by decide) ?_
    exact jx_lv [2, 0] rfl h
  replace h := h.2 b5 rfl
  refine jx_astore_n (lv1 := [(2, .ref b5), (0, .ref a0), (1, .int x1)]) dX0_liveYear_15 rfl (by decide) rfl ?_
  refine jx_aload_n 0 dX0_liveYear_16 rfl rfl ?_
  refine jx_ifnull dX0_liveYear_17 ?_
  refine jx_aload_n 0 dX0_liveYear_20 rfl rfl ?_
  obtain ⟨hk6, h⟩ := h
  refine jx_geti jc_2 (j := 6) (by decide) rfl jwF_X0_50 dX0_liveYear_21 hk6 ?_
  refine jx_if_ne (tgt := 67) dX0_liveYear_24 (by decide) (fun c7 => ?_) (fun c7 => ?_)
  · replace h := h.2 c7
    refine jx_iinc 2 (v := (x1 + 1)) (lv1 := [(1, .int (x1 + 1)), (2, .ref b5), (0, .ref a0)]) kd2.1 rfl rfl (by decide) rfl ?_
    refine jx_goto (tgt := 2) kd2.2 (by decide) ?_
    exact jx_lv [2, 0] rfl h
  replace h := h.1 c7
  refine jx_aload_n 1 dX0_liveYear_27 rfl rfl ?_
  obtain ⟨hk8, h⟩ := h
  refine jx_callVi (M' := mX0_draw) (As := []) jo_X0_draw jc_0 rfl jwM_X0_37 jwN_X0_draw jwX_X0_draw dX0_liveYear_28 (jRok_m _ _ _) rfl (jle rfl) ⟨jle rfl, jle rfl⟩ hk8 h (fun r10 S9 h => ?_)
  refine jx_bipush (v := 100) dX0_liveYear_31 (by decide) ?_
  refine jx_irem dX0_liveYear_33 (by decide) ?_
  refine jx_aload_n 0 dX0_liveYear_34 rfl rfl ?_
  obtain ⟨hk11, h⟩ := h
  refine jx_geti jc_2 (j := 5) (by decide) rfl jwF_X0_54 dX0_liveYear_35 hk11 ?_
  refine jx_bipush (v := 50) dX0_liveYear_38 (by decide) ?_
  refine jx_isub dX0_liveYear_40 ?_
  refine jx_icmp_ge (tgt := 52) dX0_liveYear_41 (by decide) (fun c12 => ?_) (fun c12 => ?_)
  · replace h := h.1 c12
    refine jx_aload_n 0 dX0_liveYear_52 rfl rfl ?_
    refine jx_bipush (v := 99) dX0_liveYear_53 (by decide) ?_
    refine jx_aload_n 0 dX0_liveYear_55 rfl rfl ?_
    refine jx_geti jc_2 (j := 5) (by decide) rfl jwF_X0_54 dX0_liveYear_56 hk11 ?_
    refine jx_iconst (v := 1) dX0_liveYear_59 (by decide) ?_
    refine jx_iadd dX0_liveYear_60 ?_
    refine jx_min jwM_X0_57 jwS_min jwZ_J9 jwO_min dX0_liveYear_61 (jRok_m _ _ _) (jle rfl) ⟨Nat.zero_le _, Nat.zero_le _⟩ ?_
    refine jx_puti jc_2 (j := 5) (by decide) rfl jwF_X0_54 rfl rfl rfl dX0_liveYear_64 hk11 ?_
    refine jx_iinc 2 (v := (x1 + 1)) (lv1 := [(1, .int (x1 + 1)), (2, .ref b5), (0, .ref a0)]) kd2.1 rfl rfl (by decide) rfl ?_
    refine jx_goto (tgt := 2) kd2.2 (by decide) ?_
    exact jx_lv [2, 0] rfl h
  replace h := h.2 c12
  refine jx_aload_n 0 dX0_liveYear_44 rfl rfl ?_
  refine jx_iconst (v := 1) dX0_liveYear_45 (by decide) ?_
  refine jx_puti jc_2 (j := 6) (by decide) rfl jwF_X0_50 rfl (by decide) (by decide) dX0_liveYear_46 hk11 ?_
  refine jx_goto (tgt := 67) dX0_liveYear_49 (by decide) ?_
  refine jx_iinc 2 (v := (x1 + 1)) (lv1 := [(1, .int (x1 + 1)), (2, .ref b5), (0, .ref a0)]) kd2.1 rfl rfl (by decide) rfl ?_
  refine jx_goto (tgt := 2) kd2.2 (by decide) ?_
  exact jx_lv [2, 0] rfl h
/-- X0_liveYears at its loop's head 2 -/
abbrev L_X0_liveYears_2 (E : jEnv) (d : Nat) (Q : jM → Prop) (a0 : Nat) (x1 : Int32) (x2 : Int32) (S : jM) : Prop := jX E mX0_liveYears (jRm (d + 1) 0 0) (jZm E (fun r S' => r = none ∧ Q S') 0 0) 2 [(0, .ref a0), (1, .int x1), (2, .int x2)] [] S 0 0
set_option maxRecDepth 100000 in
set_option maxHeartbeats 4000000 in
theorem T_X0_liveYears {E : jEnv} {d : Nat} {Q : jM → Prop} {a0 : Nat} {x1 : Int32} {S : jM} (h : L_X0_liveYears_2 E d Q a0 x1 0 S) : jFv E mX0_liveYears (d + 1) 0 0 [.ref a0, .int x1] S Q := by
  refine jF_of (by decide) (jle rfl) ?_
  refine jx_lv (lv1 := [(0, .ref a0), (1, .int x1)]) [0, 1] rfl ?_
  refine jx_iconst (v := 0) dX0_liveYears_0 (by decide) ?_
  refine jx_istore_n (lv1 := [(2, .int 0), (0, .ref a0), (1, .int x1)]) dX0_liveYears_1 rfl (by decide) rfl ?_
  exact jx_lv [1, 2, 0] rfl h
set_option maxRecDepth 100000 in
set_option maxHeartbeats 4000000 in
theorem T_X0_liveYears_2 {E : jEnv} {d : Nat} {Q : jM → Prop} {a0 : Nat} {x1 : Int32} {x2 : Int32} {S : jM} (h : (x1 ≤ x2 → Q S) ∧ (¬ x1 ≤ x2 → jk S a0 = 0 ∧ jFv E mX0_liveYear d 0 0 [.ref a0] S (fun S3 => L_X0_liveYears_2 E d Q a0 x1 (x2 + 1) S3))) : L_X0_liveYears_2 E d Q a0 x1 x2 S := by
  show jX E mX0_liveYears (jRm (d + 1) 0 0) (jZm E (fun r S' => r = none ∧ Q S') 0 0) 2 [(0, .ref a0), (1, .int x1), (2, .int x2)] [] S 0 0
  refine jx_iload_n 2 dX0_liveYears_2 rfl rfl ?_
  refine jx_iload_n 1 dX0_liveYears_3 rfl rfl ?_
  refine jx_icmp_ge (tgt := 17) dX0_liveYears_4 (by decide) (fun c1 => ?_) (fun c1 => ?_)
  · replace h := h.1 c1
    exact jx_vret dX0_liveYears_17 rfl (jle rfl) (jle rfl) ⟨rfl, h⟩
  replace h := h.2 c1
  refine jx_aload_n 0 dX0_liveYears_7 rfl rfl ?_
  obtain ⟨hk2, h⟩ := h
  refine jx_callVv (M' := mX0_liveYear) (As := []) jo_X0_liveYear jc_0 rfl jwM_X0_63 jwN_X0_liveYear jwX_X0_liveYear dX0_liveYears_8 (jRok_m _ _ _) rfl (jle rfl) ⟨jle rfl, jle rfl⟩ hk2 h (fun S3 h => ?_)
  refine jx_iinc 2 (v := (x2 + 1)) (lv1 := [(2, .int (x2 + 1)), (0, .ref a0), (1, .int x1)]) kd3.1 rfl rfl (by decide) rfl ?_
  refine jx_goto (tgt := 2) kd3.2 (by decide) ?_
  exact jx_lv [1, 2, 0] rfl h
/-- X0_countDead at its loop's head 4 -/
abbrev L_X0_countDead_4 (E : jEnv) (d : Nat) (Q : Int32 → jM → Prop) (a0 : Nat) (x1 : Int32) (x2 : Int32) (S : jM) : Prop := jX E mX0_countDead (jRm (d + 1) 0 0) (jZm E (fun r S' => ∃ v : Int32, r = some (.int v) ∧ Q v S') 0 0) 4 [(0, .ref a0), (1, .int x1), (2, .int x2)] [] S 0 0
set_option maxRecDepth 100000 in
set_option maxHeartbeats 4000000 in
theorem T_X0_countDead {E : jEnv} {d : Nat} {Q : Int32 → jM → Prop} {a0 : Nat} {S : jM} (h : L_X0_countDead_4 E d Q a0 0 0 S) : jFi E mX0_countDead (d + 1) 0 0 [.ref a0] S Q := by
  refine jF_of (by decide) (jle rfl) ?_
  refine jx_lv (lv1 := [(0, .ref a0)]) [0] rfl ?_
  refine jx_iconst (v := 0) dX0_countDead_0 (by decide) ?_
  refine jx_istore_n (lv1 := [(1, .int 0), (0, .ref a0)]) dX0_countDead_1 rfl (by decide) rfl ?_
  refine jx_iconst (v := 0) dX0_countDead_2 (by decide) ?_
  refine jx_istore_n (lv1 := [(2, .int 0), (1, .int 0), (0, .ref a0)]) dX0_countDead_3 rfl (by decide) rfl ?_
  exact jx_lv [2, 1, 0] rfl h
set_option maxRecDepth 100000 in
set_option maxHeartbeats 4000000 in
theorem T_X0_countDead_4 {E : jEnv} {d : Nat} {Q : Int32 → jM → Prop} {a0 : Nat} {x1 : Int32} {x2 : Int32} {S : jM} (h : jk S a0 = 0 ∧ ((ji S a0 1) ≤ x2 → Q x1 S) ∧ (¬ (ji S a0 1) ≤ x2 → jFr E mX0_find d 0 0 [.ref a0, .int x2] S (fun o4 S3 => (o4 = none → L_X0_countDead_4 E d Q a0 (x1 + 0) (x2 + 1) S3) ∧ (∀ b5, o4 = some b5 → jk S3 b5 = 2 ∧ ((ji S3 b5 6) = 0 → L_X0_countDead_4 E d Q a0 (x1 + 0) (x2 + 1) S3) ∧ (¬ (ji S3 b5 6) = 0 → L_X0_countDead_4 E d Q a0 (x1 + 1) (x2 + 1) S3))))) : L_X0_countDead_4 E d Q a0 x1 x2 S := by
  show jX E mX0_countDead (jRm (d + 1) 0 0) (jZm E (fun r S' => ∃ v : Int32, r = some (.int v) ∧ Q v S') 0 0) 4 [(0, .ref a0), (1, .int x1), (2, .int x2)] [] S 0 0
  refine jx_iload_n 2 dX0_countDead_4 rfl rfl ?_
  refine jx_aload_n 0 dX0_countDead_5 rfl rfl ?_
  obtain ⟨hk1, h⟩ := h
  refine jx_geti jc_0 (j := 1) (by decide) rfl jwF_X0_22 dX0_countDead_6 hk1 ?_
  refine jx_icmp_ge (tgt := 43) dX0_countDead_9 (by decide) (fun c2 => ?_) (fun c2 => ?_)
  · replace h := h.1 c2
    refine jx_iload_n 1 dX0_countDead_43 rfl rfl ?_
    exact jx_iret dX0_countDead_44 rfl rfl (jle rfl) (jle rfl) ⟨_, rfl, h⟩
  replace h := h.2 c2
  refine jx_aload_n 0 dX0_countDead_12 rfl rfl ?_
  refine jx_iload_n 2 dX0_countDead_13 rfl rfl ?_
  refine jx_callVr (M' := mX0_find) (As := [.int x2]) jo_X0_find jc_0 rfl jwM_X0_46 jwN_X0_find jwX_X0_find dX0_countDead_14 (jRok_m _ _ _) rfl (jle rfl) ⟨jle rfl, jle rfl⟩ hk1 h (fun o4 S3 h => ?_)
  rcases o4 with _ | b5
  · replace h := h.1 rfl
    refine jx_astore_nN (lv1 := [(3, .null), (0, .ref a0), (1, .int x1), (2, .int x2)]) dX0_countDead_17 rfl (by decide) rfl ?_
    refine jx_iload_n 2 dX0_countDead_18 rfl rfl ?_
    refine jx_aload_nN 0 dX0_countDead_19 rfl rfl ?_
    refine jx_ifnullN (tgt := 34) dX0_countDead_20 (by decide) ?_
    refine jx_iconst (v := 0) dX0_countDead_34 (by decide) ?_
    refine jx_iadd dX0_countDead_35 ?_
    refine jx_istore_n (lv1 := [(1, .int (x1 + 0)), (3, .null), (0, .ref a0), (2, .int x2)]) dX0_countDead_36 rfl (by decide) rfl ?_
    refine jx_iinc 3 (v := (x2 + 1)) (lv1 := [(2, .int (x2 + 1)), (1, .int (x1 + 0)), (3, .null), (0, .ref a0)]) kd4.1 rfl rfl (by decide) rfl ?_
    refine jx_goto (tgt := 4) kd4.2 (by decide) ?_
    exact jx_lv [3, 1, 0] rfl h
  replace h := h.2 b5 rfl
  refine jx_astore_n (lv1 := [(3, .ref b5), (0, .ref a0), (1, .int x1), (2, .int x2)]) dX0_countDead_17 rfl (by decide) rfl ?_
  refine jx_iload_n 2 dX0_countDead_18 rfl rfl ?_
  refine jx_aload_n 0 dX0_countDead_19 rfl rfl ?_
  refine jx_ifnull dX0_countDead_20 ?_
  refine jx_aload_n 0 dX0_countDead_23 rfl rfl ?_
  obtain ⟨hk6, h⟩ := h
  refine jx_geti jc_2 (j := 6) (by decide) rfl jwF_X0_50 dX0_countDead_24 hk6 ?_
  refine jx_if_eq (tgt := 34) dX0_countDead_27 (by decide) (fun c7 => ?_) (fun c7 => ?_)
  · replace h := h.1 c7
    refine jx_iconst (v := 0) dX0_countDead_34 (by decide) ?_
    refine jx_iadd dX0_countDead_35 ?_
    refine jx_istore_n (lv1 := [(1, .int (x1 + 0)), (3, .ref b5), (0, .ref a0), (2, .int x2)]) dX0_countDead_36 rfl (by decide) rfl ?_
    refine jx_iinc 3 (v := (x2 + 1)) (lv1 := [(2, .int (x2 + 1)), (1, .int (x1 + 0)), (3, .ref b5), (0, .ref a0)]) kd4.1 rfl rfl (by decide) rfl ?_
    refine jx_goto (tgt := 4) kd4.2 (by decide) ?_
    exact jx_lv [3, 1, 0] rfl h
  replace h := h.2 c7
  refine jx_iconst (v := 1) dX0_countDead_30 (by decide) ?_
  refine jx_goto (tgt := 35) dX0_countDead_31 (by decide) ?_
  refine jx_iadd dX0_countDead_35 ?_
  refine jx_istore_n (lv1 := [(1, .int (x1 + 1)), (3, .ref b5), (0, .ref a0), (2, .int x2)]) dX0_countDead_36 rfl (by decide) rfl ?_
  refine jx_iinc 3 (v := (x2 + 1)) (lv1 := [(2, .int (x2 + 1)), (1, .int (x1 + 1)), (3, .ref b5), (0, .ref a0)]) kd4.1 rfl rfl (by decide) rfl ?_
  refine jx_goto (tgt := 4) kd4.2 (by decide) ?_
  exact jx_lv [3, 1, 0] rfl h
/-- X0_agesTogether at its loop's head 4 -/
abbrev L_X0_agesTogether_4 (E : jEnv) (d : Nat) (Q : Int32 → jM → Prop) (a0 : Nat) (x1 : Int32) (x2 : Int32) (S : jM) : Prop := jX E mX0_agesTogether (jRm (d + 1) 0 0) (jZm E (fun r S' => ∃ v : Int32, r = some (.int v) ∧ Q v S') 0 0) 4 [(0, .ref a0), (1, .int x1), (2, .int x2)] [] S 0 0
set_option maxRecDepth 100000 in
set_option maxHeartbeats 4000000 in
theorem T_X0_agesTogether {E : jEnv} {d : Nat} {Q : Int32 → jM → Prop} {a0 : Nat} {S : jM} (h : L_X0_agesTogether_4 E d Q a0 0 0 S) : jFi E mX0_agesTogether (d + 1) 0 0 [.ref a0] S Q := by
  refine jF_of (by decide) (jle rfl) ?_
  refine jx_lv (lv1 := [(0, .ref a0)]) [0] rfl ?_
  refine jx_iconst (v := 0) dX0_agesTogether_0 (by decide) ?_
  refine jx_istore_n (lv1 := [(1, .int 0), (0, .ref a0)]) dX0_agesTogether_1 rfl (by decide) rfl ?_
  refine jx_iconst (v := 0) dX0_agesTogether_2 (by decide) ?_
  refine jx_istore_n (lv1 := [(2, .int 0), (1, .int 0), (0, .ref a0)]) dX0_agesTogether_3 rfl (by decide) rfl ?_
  exact jx_lv [2, 1, 0] rfl h
set_option maxRecDepth 100000 in
set_option maxHeartbeats 4000000 in
theorem T_X0_agesTogether_4 {E : jEnv} {d : Nat} {Q : Int32 → jM → Prop} {a0 : Nat} {x1 : Int32} {x2 : Int32} {S : jM} (h : jk S a0 = 0 ∧ ((ji S a0 1) ≤ x2 → Q x1 S) ∧ (¬ (ji S a0 1) ≤ x2 → jFr E mX0_find d 0 0 [.ref a0, .int x2] S (fun o4 S3 => (o4 = none → L_X0_agesTogether_4 E d Q a0 (x1 + 0) (x2 + 1) S3) ∧ (∀ b5, o4 = some b5 → jk S3 b5 = 2 ∧ L_X0_agesTogether_4 E d Q a0 (x1 + (ji S3 b5 5)) (x2 + 1) S3)))) : L_X0_agesTogether_4 E d Q a0 x1 x2 S := by
  show jX E mX0_agesTogether (jRm (d + 1) 0 0) (jZm E (fun r S' => ∃ v : Int32, r = some (.int v) ∧ Q v S') 0 0) 4 [(0, .ref a0), (1, .int x1), (2, .int x2)] [] S 0 0
  refine jx_iload_n 2 dX0_agesTogether_4 rfl rfl ?_
  refine jx_aload_n 0 dX0_agesTogether_5 rfl rfl ?_
  obtain ⟨hk1, h⟩ := h
  refine jx_geti jc_0 (j := 1) (by decide) rfl jwF_X0_22 dX0_agesTogether_6 hk1 ?_
  refine jx_icmp_ge (tgt := 39) dX0_agesTogether_9 (by decide) (fun c2 => ?_) (fun c2 => ?_)
  · replace h := h.1 c2
    refine jx_iload_n 1 dX0_agesTogether_39 rfl rfl ?_
    exact jx_iret dX0_agesTogether_40 rfl rfl (jle rfl) (jle rfl) ⟨_, rfl, h⟩
  replace h := h.2 c2
  refine jx_aload_n 0 dX0_agesTogether_12 rfl rfl ?_
  refine jx_iload_n 2 dX0_agesTogether_13 rfl rfl ?_
  refine jx_callVr (M' := mX0_find) (As := [.int x2]) jo_X0_find jc_0 rfl jwM_X0_46 jwN_X0_find jwX_X0_find dX0_agesTogether_14 (jRok_m _ _ _) rfl (jle rfl) ⟨jle rfl, jle rfl⟩ hk1 h (fun o4 S3 h => ?_)
  rcases o4 with _ | b5
  · replace h := h.1 rfl
    refine jx_astore_nN (lv1 := [(3, .null), (0, .ref a0), (1, .int x1), (2, .int x2)]) dX0_agesTogether_17 rfl (by decide) rfl ?_
    refine jx_iload_n 2 dX0_agesTogether_18 rfl rfl ?_
    refine jx_aload_nN 0 dX0_agesTogether_19 rfl rfl ?_
    refine jx_ifnonnullN dX0_agesTogether_20 ?_
    refine jx_iconst (v := 0) dX0_agesTogether_23 (by decide) ?_
    refine jx_goto (tgt := 31) dX0_agesTogether_24 (by decide) ?_
    refine jx_iadd dX0_agesTogether_31 ?_
    refine jx_istore_n (lv1 := [(1, .int (x1 + 0)), (3, .null), (0, .ref a0), (2, .int x2)]) dX0_agesTogether_32 rfl (by decide) rfl ?_
    refine jx_iinc 3 (v := (x2 + 1)) (lv1 := [(2, .int (x2 + 1)), (1, .int (x1 + 0)), (3, .null), (0, .ref a0)]) kd5.1 rfl rfl (by decide) rfl ?_
    refine jx_goto (tgt := 4) kd5.2 (by decide) ?_
    exact jx_lv [3, 1, 0] rfl h
  replace h := h.2 b5 rfl
  refine jx_astore_n (lv1 := [(3, .ref b5), (0, .ref a0), (1, .int x1), (2, .int x2)]) dX0_agesTogether_17 rfl (by decide) rfl ?_
  refine jx_iload_n 2 dX0_agesTogether_18 rfl rfl ?_
  refine jx_aload_n 0 dX0_agesTogether_19 rfl rfl ?_
  refine jx_ifnonnull (tgt := 27) dX0_agesTogether_20 (by decide) ?_
  refine jx_aload_n 0 dX0_agesTogether_27 rfl rfl ?_
  obtain ⟨hk6, h⟩ := h
  refine jx_geti jc_2 (j := 5) (by decide) rfl jwF_X0_54 dX0_agesTogether_28 hk6 ?_
  refine jx_iadd dX0_agesTogether_31 ?_
  refine jx_istore_n (lv1 := [(1, .int (x1 + (ji S3 b5 5))), (3, .ref b5), (0, .ref a0), (2, .int x2)]) dX0_agesTogether_32 rfl (by decide) rfl ?_
  refine jx_iinc 3 (v := (x2 + 1)) (lv1 := [(2, .int (x2 + 1)), (1, .int (x1 + (ji S3 b5 5))), (3, .ref b5), (0, .ref a0)]) kd5.1 rfl rfl (by decide) rfl ?_
  refine jx_goto (tgt := 4) kd5.2 (by decide) ?_
  exact jx_lv [3, 1, 0] rfl h
/-- X0_taught at its loop's head 4 -/
abbrev L_X0_taught_4 (E : jEnv) (d : Nat) (Q : Int32 → jM → Prop) (a0 : Nat) (x1 : Int32) (x2 : Int32) (S : jM) : Prop := jX E mX0_taught (jRm (d + 1) 0 0) (jZm E (fun r S' => ∃ v : Int32, r = some (.int v) ∧ Q v S') 0 0) 4 [(0, .ref a0), (1, .int x1), (2, .int x2)] [] S 0 0
set_option maxRecDepth 100000 in
set_option maxHeartbeats 4000000 in
theorem T_X0_taught {E : jEnv} {d : Nat} {Q : Int32 → jM → Prop} {a0 : Nat} {S : jM} (h : L_X0_taught_4 E d Q a0 0 0 S) : jFi E mX0_taught (d + 1) 0 0 [.ref a0] S Q := by
  refine jF_of (by decide) (jle rfl) ?_
  refine jx_lv (lv1 := [(0, .ref a0)]) [0] rfl ?_
  refine jx_iconst (v := 0) dX0_taught_0 (by decide) ?_
  refine jx_istore_n (lv1 := [(1, .int 0), (0, .ref a0)]) dX0_taught_1 rfl (by decide) rfl ?_
  refine jx_iconst (v := 0) dX0_taught_2 (by decide) ?_
  refine jx_istore_n (lv1 := [(2, .int 0), (1, .int 0), (0, .ref a0)]) dX0_taught_3 rfl (by decide) rfl ?_
  exact jx_lv [2, 1, 0] rfl h
set_option maxRecDepth 100000 in
set_option maxHeartbeats 4000000 in
theorem T_X0_taught_4 {E : jEnv} {d : Nat} {Q : Int32 → jM → Prop} {a0 : Nat} {x1 : Int32} {x2 : Int32} {S : jM} (h : jk S a0 = 0 ∧ ((ji S a0 1) ≤ x2 → Q x1 S) ∧ (¬ (ji S a0 1) ≤ x2 → jFr E mX0_find d 0 0 [.ref a0, .int x2] S (fun o4 S3 => (o4 = none → L_X0_taught_4 E d Q a0 (x1 ||| 0) (x2 + 1) S3) ∧ (∀ b5, o4 = some b5 → jk S3 b5 = 2 ∧ ((ji S3 b5 6) = 0 → L_X0_taught_4 E d Q a0 (x1 ||| (jshl 1 (ji S3 b5 2))) (x2 + 1) S3) ∧ (¬ (ji S3 b5 6) = 0 → L_X0_taught_4 E d Q a0 (x1 ||| 0) (x2 + 1) S3))))) : L_X0_taught_4 E d Q a0 x1 x2 S := by
  show jX E mX0_taught (jRm (d + 1) 0 0) (jZm E (fun r S' => ∃ v : Int32, r = some (.int v) ∧ Q v S') 0 0) 4 [(0, .ref a0), (1, .int x1), (2, .int x2)] [] S 0 0
  refine jx_iload_n 2 dX0_taught_4 rfl rfl ?_
  refine jx_aload_n 0 dX0_taught_5 rfl rfl ?_
  obtain ⟨hk1, h⟩ := h
  refine jx_geti jc_0 (j := 1) (by decide) rfl jwF_X0_22 dX0_taught_6 hk1 ?_
  refine jx_icmp_ge (tgt := 48) dX0_taught_9 (by decide) (fun c2 => ?_) (fun c2 => ?_)
  · replace h := h.1 c2
    refine jx_iload_n 1 dX0_taught_48 rfl rfl ?_
    exact jx_iret dX0_taught_49 rfl rfl (jle rfl) (jle rfl) ⟨_, rfl, h⟩
  replace h := h.2 c2
  refine jx_aload_n 0 dX0_taught_12 rfl rfl ?_
  refine jx_iload_n 2 dX0_taught_13 rfl rfl ?_
  refine jx_callVr (M' := mX0_find) (As := [.int x2]) jo_X0_find jc_0 rfl jwM_X0_46 jwN_X0_find jwX_X0_find dX0_taught_14 (jRok_m _ _ _) rfl (jle rfl) ⟨jle rfl, jle rfl⟩ hk1 h (fun o4 S3 h => ?_)
  rcases o4 with _ | b5
  · replace h := h.1 rfl
    refine jx_astore_nN (lv1 := [(3, .null), (0, .ref a0), (1, .int x1), (2, .int x2)]) dX0_taught_17 rfl (by decide) rfl ?_
    refine jx_iload_n 2 dX0_taught_18 rfl rfl ?_
    refine jx_aload_nN 0 dX0_taught_19 rfl rfl ?_
    refine jx_ifnullN (tgt := 30) dX0_taught_20 (by decide) ?_
    refine jx_iconst (v := 0) dX0_taught_30 (by decide) ?_
    refine jx_goto (tgt := 40) dX0_taught_31 (by decide) ?_
    refine jx_ior dX0_taught_40 ?_
    refine jx_istore_n (lv1 := [(1, .int (x1 ||| 0)), (3, .null), (0, .ref a0), (2, .int x2)]) dX0_taught_41 rfl (by decide) rfl ?_
    refine jx_iinc 3 (v := (x2 + 1)) (lv1 := [(2, .int (x2 + 1)), (1, .int (x1 ||| 0)), (3, .null), (0, .ref a0)]) kd6.1 rfl rfl (by decide) rfl ?_
    refine jx_goto (tgt := 4) kd6.2 (by decide) ?_
    exact jx_lv [3, 1, 0] rfl h
  replace h := h.2 b5 rfl
  refine jx_astore_n (lv1 := [(3, .ref b5), (0, .ref a0), (1, .int x1), (2, .int x2)]) dX0_taught_17 rfl (by decide) rfl ?_
  refine jx_iload_n 2 dX0_taught_18 rfl rfl ?_
  refine jx_aload_n 0 dX0_taught_19 rfl rfl ?_
  refine jx_ifnull dX0_taught_20 ?_
  refine jx_aload_n 0 dX0_taught_23 rfl rfl ?_
  obtain ⟨hk6, h⟩ := h
  refine jx_geti jc_2 (j := 6) (by decide) rfl jwF_X0_50 dX0_taught_24 hk6 ?_
  refine jx_if_eq (tgt := 34) dX0_taught_27 (by decide) (fun c7 => ?_) (fun c7 => ?_)
  · replace h := h.1 c7
    refine jx_iconst (v := 1) dX0_taught_34 (by decide) ?_
    refine jx_aload_n 0 dX0_taught_35 rfl rfl ?_
    refine jx_geti jc_2 (j := 2) (by decide) rfl jwF_X0_66 dX0_taught_36 hk6 ?_
    refine jx_ishl dX0_taught_39 ?_
    refine jx_ior dX0_taught_40 ?_
    refine jx_istore_n (lv1 := [(1, .int (x1 ||| (jshl 1 (ji S3 b5 2)))), (3, .ref b5), (0, .ref a0), (2, .int x2)]) dX0_taught_41 rfl (by decide) rfl ?_
    refine jx_iinc 3 (v := (x2 + 1)) (lv1 := [(2, .int (x2 + 1)), (1, .int (x1 ||| (jshl 1 (ji S3 b5 2)))), (3, .ref b5), (0, .ref a0)]) kd6.1 rfl rfl (by decide) rfl ?_
    refine jx_goto (tgt := 4) kd6.2 (by decide) ?_
    exact jx_lv [3, 1, 0] rfl h
  replace h := h.2 c7
  refine jx_iconst (v := 0) dX0_taught_30 (by decide) ?_
  refine jx_goto (tgt := 40) dX0_taught_31 (by decide) ?_
  refine jx_ior dX0_taught_40 ?_
  refine jx_istore_n (lv1 := [(1, .int (x1 ||| 0)), (3, .ref b5), (0, .ref a0), (2, .int x2)]) dX0_taught_41 rfl (by decide) rfl ?_
  refine jx_iinc 3 (v := (x2 + 1)) (lv1 := [(2, .int (x2 + 1)), (1, .int (x1 ||| 0)), (3, .ref b5), (0, .ref a0)]) kd6.1 rfl rfl (by decide) rfl ?_
  refine jx_goto (tgt := 4) kd6.2 (by decide) ?_
  exact jx_lv [3, 1, 0] rfl h
/-- X0_onlyTeacher at its loop's head 5 -/
abbrev L_X0_onlyTeacher_5 (E : jEnv) (d : Nat) (Q : Int32 → jM → Prop) (a0 : Nat) (x1 : Int32) (x2 : Int32) (x3 : Int32) (S : jM) : Prop := jX E mX0_onlyTeacher (jRm (d + 1) 0 0) (jZm E (fun r S' => ∃ v : Int32, r = some (.int v) ∧ Q v S') 0 0) 5 [(0, .ref a0), (1, .int x1), (2, .int x2), (3, .int x3)] [] S 0 0
set_option maxRecDepth 100000 in
set_option maxHeartbeats 4000000 in
theorem T_X0_onlyTeacher {E : jEnv} {d : Nat} {Q : Int32 → jM → Prop} {a0 : Nat} {x1 : Int32} {S : jM} (h : L_X0_onlyTeacher_5 E d Q a0 x1 (-1000000005) 0 S) : jFi E mX0_onlyTeacher (d + 1) 0 0 [.ref a0, .int x1] S Q := by
  refine jF_of (by decide) (jle rfl) ?_
  refine jx_lv (lv1 := [(0, .ref a0), (1, .int x1)]) [0, 1] rfl ?_
  refine jx_ldc jwC_X0_69 dX0_onlyTeacher_0 ?_
  refine jx_istore_n (lv1 := [(2, .int (-1000000005)), (0, .ref a0), (1, .int x1)]) dX0_onlyTeacher_2 rfl (by decide) rfl ?_
  refine jx_iconst (v := 0) dX0_onlyTeacher_3 (by decide) ?_
  refine jx_istore_n (lv1 := [(3, .int 0), (2, .int (-1000000005)), (0, .ref a0), (1, .int x1)]) dX0_onlyTeacher_4 rfl (by decide) rfl ?_
  exact jx_lv [2, 3, 1, 0] rfl h
set_option maxRecDepth 100000 in
set_option maxHeartbeats 4000000 in
theorem T_X0_onlyTeacher_5 {E : jEnv} {d : Nat} {Q : Int32 → jM → Prop} {a0 : Nat} {x1 : Int32} {x2 : Int32} {x3 : Int32} {S : jM} (h : jk S a0 = 0 ∧ ((ji S a0 1) ≤ x3 → Q x2 S) ∧ (¬ (ji S a0 1) ≤ x3 → jFr E mX0_find d 0 0 [.ref a0, .int x3] S (fun o4 S3 => (o4 = none → L_X0_onlyTeacher_5 E d Q a0 x1 x2 (x3 + 1) S3) ∧ (∀ b5, o4 = some b5 → jk S3 b5 = 2 ∧ ((ji S3 b5 6) = 0 → ((ji S3 b5 2) = x1 → (x2 = (-1000000005) → L_X0_onlyTeacher_5 E d Q a0 x1 x3 (x3 + 1) S3) ∧ (¬ x2 = (-1000000005) → Q (-1000000005) S3)) ∧ (¬ (ji S3 b5 2) = x1 → L_X0_onlyTeacher_5 E d Q a0 x1 x2 (x3 + 1) S3)) ∧ (¬ (ji S3 b5 6) = 0 → L_X0_onlyTeacher_5 E d Q a0 x1 x2 (x3 + 1) S3))))) : L_X0_onlyTeacher_5 E d Q a0 x1 x2 x3 S := by
  show jX E mX0_onlyTeacher (jRm (d + 1) 0 0) (jZm E (fun r S' => ∃ v : Int32, r = some (.int v) ∧ Q v S') 0 0) 5 [(0, .ref a0), (1, .int x1), (2, .int x2), (3, .int x3)] [] S 0 0
  refine jx_iload_n 3 dX0_onlyTeacher_5 rfl rfl ?_
  refine jx_aload_n 0 dX0_onlyTeacher_6 rfl rfl ?_
  obtain ⟨hk1, h⟩ := h
  refine jx_geti jc_0 (j := 1) (by decide) rfl jwF_X0_22 dX0_onlyTeacher_7 hk1 ?_
  refine jx_icmp_ge (tgt := 59) dX0_onlyTeacher_10 (by decide) (fun c2 => ?_) (fun c2 => ?_)
  · replace h := h.1 c2
    refine jx_iload_n 2 dX0_onlyTeacher_59 rfl rfl ?_
    exact jx_iret dX0_onlyTeacher_60 rfl rfl (jle rfl) (jle rfl) ⟨_, rfl, h⟩
  replace h := h.2 c2
  refine jx_aload_n 0 dX0_onlyTeacher_13 rfl rfl ?_
  refine jx_iload_n 3 dX0_onlyTeacher_14 rfl rfl ?_
  refine jx_callVr (M' := mX0_find) (As := [.int x3]) jo_X0_find jc_0 rfl jwM_X0_46 jwN_X0_find jwX_X0_find dX0_onlyTeacher_15 (jRok_m _ _ _) rfl (jle rfl) ⟨jle rfl, jle rfl⟩ hk1 h (fun o4 S3 h => ?_)
  rcases o4 with _ | b5
  · replace h := h.1 rfl
    refine jx_astoreN (lv1 := [(4, .null), (0, .ref a0), (1, .int x1), (2, .int x2), (3, .int x3)]) dX0_onlyTeacher_18 (by decide) rfl ?_
    refine jx_aloadN 0 dX0_onlyTeacher_20 rfl ?_
    refine jx_ifnullN (tgt := 53) dX0_onlyTeacher_22 (by decide) ?_
    refine jx_iinc 4 (v := (x3 + 1)) (lv1 := [(3, .int (x3 + 1)), (4, .null), (0, .ref a0), (1, .int x1), (2, .int x2)]) kd7.1 rfl rfl (by decide) rfl ?_
    refine jx_goto (tgt := 5) kd7.2 (by decide) ?_
    exact jx_lv [2, 3, 4, 0] rfl h
  replace h := h.2 b5 rfl
  refine jx_astore (lv1 := [(4, .ref b5), (0, .ref a0), (1, .int x1), (2, .int x2), (3, .int x3)]) dX0_onlyTeacher_18 (by decide) rfl ?_
  refine jx_aload 0 dX0_onlyTeacher_20 rfl ?_
  refine jx_ifnull dX0_onlyTeacher_22 ?_
  refine jx_aload 0 dX0_onlyTeacher_25 rfl ?_
  obtain ⟨hk6, h⟩ := h
  refine jx_geti jc_2 (j := 6) (by decide) rfl jwF_X0_50 dX0_onlyTeacher_27 hk6 ?_
  refine jx_if_ne (tgt := 53) dX0_onlyTeacher_30 (by decide) (fun c7 => ?_) (fun c7 => ?_)
  · replace h := h.2 c7
    refine jx_iinc 4 (v := (x3 + 1)) (lv1 := [(3, .int (x3 + 1)), (4, .ref b5), (0, .ref a0), (1, .int x1), (2, .int x2)]) kd7.1 rfl rfl (by decide) rfl ?_
    refine jx_goto (tgt := 5) kd7.2 (by decide) ?_
    exact jx_lv [2, 3, 4, 0] rfl h
  replace h := h.1 c7
  refine jx_aload 0 dX0_onlyTeacher_33 rfl ?_
  refine jx_geti jc_2 (j := 2) (by decide) rfl jwF_X0_66 dX0_onlyTeacher_35 hk6 ?_
  refine jx_iload_n 2 dX0_onlyTeacher_38 rfl rfl ?_
  refine jx_icmp_ne (tgt := 53) dX0_onlyTeacher_39 (by decide) (fun c8 => ?_) (fun c8 => ?_)
  · replace h := h.2 c8
    refine jx_iinc 4 (v := (x3 + 1)) (lv1 := [(3, .int (x3 + 1)), (4, .ref b5), (0, .ref a0), (1, .int x1), (2, .int x2)]) kd7.1 rfl rfl (by decide) rfl ?_
    refine jx_goto (tgt := 5) kd7.2 (by decide) ?_
    exact jx_lv [2, 3, 4, 0] rfl h
  replace h := h.1 c8
  refine jx_iload_n 3 dX0_onlyTeacher_42 rfl rfl ?_
  refine jx_ldc jwC_X0_69 dX0_onlyTeacher_43 ?_
  refine jx_icmp_eq (tgt := 51) dX0_onlyTeacher_45 (by decide) (fun c9 => ?_) (fun c9 => ?_)
  · replace h := h.1 c9
    refine jx_iload_n 4 dX0_onlyTeacher_51 rfl rfl ?_
    refine jx_istore_n (lv1 := [(2, .int x3), (4, .ref b5), (0, .ref a0), (1, .int x1), (3, .int x3)]) dX0_onlyTeacher_52 rfl (by decide) rfl ?_
    refine jx_iinc 4 (v := (x3 + 1)) (lv1 := [(3, .int (x3 + 1)), (2, .int x3), (4, .ref b5), (0, .ref a0), (1, .int x1)]) kd7.1 rfl rfl (by decide) rfl ?_
    refine jx_goto (tgt := 5) kd7.2 (by decide) ?_
    exact jx_lv [3, 4, 1, 0] rfl h
  replace h := h.2 c9
  refine jx_ldc jwC_X0_69 dX0_onlyTeacher_48 ?_
  exact jx_iret dX0_onlyTeacher_50 rfl rfl (jle rfl) (jle rfl) ⟨_, rfl, h⟩
set_option maxRecDepth 100000 in
set_option maxHeartbeats 4000000 in
theorem T_X0_canBringTogether {E : jEnv} {d : Nat} {Q : Int32 → jM → Prop} {a0 : Nat} {x1 : Int32} {S : jM} (h : jFi E mX0_leadsTo d 0 0 [.ref a0, .int 0, .int x1] S (fun r2 S1 => (r2 = 0 ∨ r2 = 1) ∧ Q r2 S1)) : jFi E mX0_canBringTogether (d + 1) 0 0 [.ref a0, .int x1] S Q := by
  refine jF_of (by decide) (jle rfl) ?_
  refine jx_lv (lv1 := [(0, .ref a0), (1, .int x1)]) [0, 1] rfl ?_
  refine jx_aload_n 0 dX0_canBringTogether_0 rfl rfl ?_
  refine jx_iconst (v := 0) dX0_canBringTogether_1 (by decide) ?_
  refine jx_iload_n 1 dX0_canBringTogether_2 rfl rfl ?_
  refine jx_callSi (M' := mX0_leadsTo) (As := [.ref a0, .int 0, .int x1]) jo_X0_leadsTo jwM_X0_70 jwS_X0_leadsTo dX0_canBringTogether_3 (jRok_m _ _ _) rfl (jle rfl) ⟨jle rfl, jle rfl⟩ h (fun r2 S1 h => ?_)
  obtain ⟨hb3, h⟩ := h
  exact jx_iret dX0_canBringTogether_6 rfl (jb_nar hb3) (jle rfl) (jle rfl) ⟨_, rfl, h⟩
/-- X0_leadsTo at its loop's head 23 -/
abbrev L_X0_leadsTo_23 (E : jEnv) (d : Nat) (Q : Int32 → jM → Prop) (a0 : Nat) (x1 : Int32) (x2 : Int32) (x3 : Int32) (S : jM) : Prop := jX E mX0_leadsTo (jRm (d + 1) 0 0) (jZm E (fun r S' => ∃ v : Int32, r = some (.int v) ∧ Q v S') 0 0) 23 [(0, .ref a0), (1, .int x1), (2, .int x2), (3, .int x3)] [] S 0 0
set_option maxRecDepth 100000 in
set_option maxHeartbeats 4000000 in
theorem T_X0_leadsTo {E : jEnv} {d : Nat} {Q : Int32 → jM → Prop} {a0 : Nat} {x1 : Int32} {x2 : Int32} {S : jM} (h : (x1 = x2 → Q 1 S) ∧ (¬ x1 = x2 → ((jbc (x2 &&& (x1 ^^^ (-1)))) ≤ 3 → L_X0_leadsTo_23 E d Q a0 x1 x2 0 S) ∧ (¬ (jbc (x2 &&& (x1 ^^^ (-1)))) ≤ 3 → Q 0 S))) : jFi E mX0_leadsTo (d + 1) 0 0 [.ref a0, .int x1, .int x2] S Q := by
  refine jF_of (by decide) (jle rfl) ?_
  refine jx_lv (lv1 := [(0, .ref a0), (1, .int x1), (2, .int x2)]) [0, 1, 2] rfl ?_
  refine jx_iload_n 1 dX0_leadsTo_0 rfl rfl ?_
  refine jx_iload_n 2 dX0_leadsTo_1 rfl rfl ?_
  refine jx_icmp_ne (tgt := 7) dX0_leadsTo_2 (by decide) (fun c1 => ?_) (fun c1 => ?_)
  · replace h := h.2 c1
    refine jx_iload_n 2 dX0_leadsTo_7 rfl rfl ?_
    refine jx_iload_n 1 dX0_leadsTo_8 rfl rfl ?_
    refine jx_iconst (v := (-1)) dX0_leadsTo_9 (by decide) ?_
    refine jx_ixor dX0_leadsTo_10 ?_
    refine jx_iand dX0_leadsTo_11 ?_
    refine jx_callSi (M' := mJ6_bitCount_0f7a4) (As := [.int (x2 &&& (x1 ^^^ (-1)))]) jo_J6_bitCount_0f7a4 jwM_X0_74 jwS_J6_bitCount_0f7a4 dX0_leadsTo_12 (jRok_m _ _ _) rfl (jle rfl) ⟨jle rfl, jle rfl⟩ (c_J6_bitCount_0f7a4 (Q := fun v S' => v = (jbc (x2 &&& (x1 ^^^ (-1)))) ∧ S = S') ⟨rfl, rfl⟩) (fun r2 S3 hq4 => ?_)
    obtain ⟨rfl, rfl⟩ := hq4
    refine jx_iconst (v := 3) dX0_leadsTo_15 (by decide) ?_
    refine jx_icmp_le (tgt := 21) dX0_leadsTo_16 (by decide) (fun c5 => ?_) (fun c5 => ?_)
    · replace h := h.1 c5
      refine jx_iconst (v := 0) dX0_leadsTo_21 (by decide) ?_
      refine jx_istore_n (lv1 := [(3, .int 0), (0, .ref a0), (1, .int x1), (2, .int x2)]) dX0_leadsTo_22 rfl (by decide) rfl ?_
      exact jx_lv [1, 2, 3, 0] rfl h
    replace h := h.2 c5
    refine jx_iconst (v := 0) dX0_leadsTo_19 (by decide) ?_
    exact jx_iret dX0_leadsTo_20 rfl (by decide) (jle rfl) (jle rfl) ⟨_, rfl, h⟩
  replace h := h.1 c1
  refine jx_iconst (v := 1) dX0_leadsTo_5 (by decide) ?_
  exact jx_iret dX0_leadsTo_6 rfl (by decide) (jle rfl) (jle rfl) ⟨_, rfl, h⟩
set_option maxRecDepth 100000 in
set_option maxHeartbeats 4000000 in
theorem T_X0_leadsTo_23 {E : jEnv} {d : Nat} {Q : Int32 → jM → Prop} {a0 : Nat} {x1 : Int32} {x2 : Int32} {x3 : Int32} {S : jM} (h : jk S a0 = 0 ∧ ((ji S a0 1) ≤ x3 → Q 0 S) ∧ (¬ (ji S a0 1) ≤ x3 → jFr E mX0_find d 0 0 [.ref a0, .int x3] S (fun o9 S8 => (o9 = none → L_X0_leadsTo_23 E d Q a0 x1 x2 (x3 + 1) S8) ∧ (∀ b10, o9 = some b10 → jFi E mX0_helps d 0 0 [.ref b10, .int x1, .int x2] S8 (fun r12 S11 => (r12 = 0 → L_X0_leadsTo_23 E d Q a0 x1 x2 (x3 + 1) S11) ∧ (¬ r12 = 0 → jk S11 b10 = 2 ∧ jFi E mX0_leadsTo d 0 0 [.ref a0, .int (x1 ||| (jshl 1 (ji S11 b10 2))), .int x2] S11 (fun r16 S15 => (r16 = 0 → L_X0_leadsTo_23 E d Q a0 x1 x2 (x3 + 1) S15) ∧ (¬ r16 = 0 → Q 1 S15)))))))) : L_X0_leadsTo_23 E d Q a0 x1 x2 x3 S := by
  show jX E mX0_leadsTo (jRm (d + 1) 0 0) (jZm E (fun r S' => ∃ v : Int32, r = some (.int v) ∧ Q v S') 0 0) 23 [(0, .ref a0), (1, .int x1), (2, .int x2), (3, .int x3)] [] S 0 0
  refine jx_iload_n 3 dX0_leadsTo_23 rfl rfl ?_
  refine jx_aload_n 0 dX0_leadsTo_24 rfl rfl ?_
  obtain ⟨hk6, h⟩ := h
  refine jx_geti jc_0 (j := 1) (by decide) rfl jwF_X0_22 dX0_leadsTo_25 hk6 ?_
  refine jx_icmp_ge (tgt := 78) dX0_leadsTo_28 (by decide) (fun c7 => ?_) (fun c7 => ?_)
  · replace h := h.1 c7
    refine jx_iconst (v := 0) dX0_leadsTo_78 (by decide) ?_
    exact jx_iret dX0_leadsTo_79 rfl (by decide) (jle rfl) (jle rfl) ⟨_, rfl, h⟩
  replace h := h.2 c7
  refine jx_aload_n 0 dX0_leadsTo_31 rfl rfl ?_
  refine jx_iload_n 3 dX0_leadsTo_32 rfl rfl ?_
  refine jx_callVr (M' := mX0_find) (As := [.int x3]) jo_X0_find jc_0 rfl jwM_X0_46 jwN_X0_find jwX_X0_find dX0_leadsTo_33 (jRok_m _ _ _) rfl (jle rfl) ⟨jle rfl, jle rfl⟩ hk6 h (fun o9 S8 h => ?_)
  rcases o9 with _ | b10
  · replace h := h.1 rfl
    refine jx_astoreN (lv1 := [(4, .null), (0, .ref a0), (1, .int x1), (2, .int x2), (3, .int x3)]) dX0_leadsTo_36 (by decide) rfl ?_
    refine jx_aloadN 0 dX0_leadsTo_38 rfl ?_
    refine jx_ifnullN (tgt := 72) dX0_leadsTo_40 (by decide) ?_
    refine jx_iinc 4 (v := (x3 + 1)) (lv1 := [(3, .int (x3 + 1)), (4, .null), (0, .ref a0), (1, .int x1), (2, .int x2)]) kd8.1 rfl rfl (by decide) rfl ?_
    refine jx_goto (tgt := 23) kd8.2 (by decide) ?_
    exact jx_lv [2, 3, 4, 0] rfl h
  replace h := h.2 b10 rfl
  refine jx_astore (lv1 := [(4, .ref b10), (0, .ref a0), (1, .int x1), (2, .int x2), (3, .int x3)]) dX0_leadsTo_36 (by decide) rfl ?_
  refine jx_aload 0 dX0_leadsTo_38 rfl ?_
  refine jx_ifnull dX0_leadsTo_40 ?_
  refine jx_aload 0 dX0_leadsTo_43 rfl ?_
  refine jx_iload_n 2 dX0_leadsTo_45 rfl rfl ?_
  refine jx_iload_n 3 dX0_leadsTo_46 rfl rfl ?_
  refine jx_callSi (M' := mX0_helps) (As := [.ref b10, .int x1, .int x2]) jo_X0_helps jwM_X0_80 jwS_X0_helps dX0_leadsTo_47 (jRok_m _ _ _) rfl (jle rfl) ⟨jle rfl, jle rfl⟩ h (fun r12 S11 h => ?_)
  refine jx_if_eq (tgt := 72) dX0_leadsTo_50 (by decide) (fun c13 => ?_) (fun c13 => ?_)
  · replace h := h.1 c13
    refine jx_iinc 4 (v := (x3 + 1)) (lv1 := [(3, .int (x3 + 1)), (4, .ref b10), (0, .ref a0), (1, .int x1), (2, .int x2)]) kd8.1 rfl rfl (by decide) rfl ?_
    refine jx_goto (tgt := 23) kd8.2 (by decide) ?_
    exact jx_lv [2, 3, 4, 0] rfl h
  replace h := h.2 c13
  refine jx_aload_n 1 dX0_leadsTo_53 rfl rfl ?_
  refine jx_iload_n 2 dX0_leadsTo_54 rfl rfl ?_
  refine jx_iconst (v := 1) dX0_leadsTo_55 (by decide) ?_
  refine jx_aload 0 dX0_leadsTo_56 rfl ?_
  obtain ⟨hk14, h⟩ := h
  refine jx_geti jc_2 (j := 2) (by decide) rfl jwF_X0_66 dX0_leadsTo_58 hk14 ?_
  refine jx_ishl dX0_leadsTo_61 ?_
  refine jx_ior dX0_leadsTo_62 ?_
  refine jx_iload_n 3 dX0_leadsTo_63 rfl rfl ?_
  refine jx_callSi (M' := mX0_leadsTo) (As := [.ref a0, .int (x1 ||| (jshl 1 (ji S11 b10 2))), .int x2]) jo_X0_leadsTo jwM_X0_70 jwS_X0_leadsTo dX0_leadsTo_64 (jRok_m _ _ _) rfl (jle rfl) ⟨jle rfl, jle rfl⟩ h (fun r16 S15 h => ?_)
  refine jx_if_eq (tgt := 72) dX0_leadsTo_67 (by decide) (fun c17 => ?_) (fun c17 => ?_)
  · replace h := h.1 c17
    refine jx_iinc 4 (v := (x3 + 1)) (lv1 := [(3, .int (x3 + 1)), (4, .ref b10), (0, .ref a0), (1, .int x1), (2, .int x2)]) kd8.1 rfl rfl (by decide) rfl ?_
    refine jx_goto (tgt := 23) kd8.2 (by decide) ?_
    exact jx_lv [2, 3, 4, 0] rfl h
  replace h := h.2 c17
  refine jx_iconst (v := 1) dX0_leadsTo_70 (by decide) ?_
  exact jx_iret dX0_leadsTo_71 rfl (by decide) (jle rfl) (jle rfl) ⟨_, rfl, h⟩
set_option maxRecDepth 100000 in
set_option maxHeartbeats 4000000 in
theorem T_X0_helps {E : jEnv} {d : Nat} {Q : Int32 → jM → Prop} {a0 : Nat} {x1 : Int32} {x2 : Int32} {S : jM} (h : jk S a0 = 2 ∧ (((x2 &&& (x1 ^^^ (-1))) &&& (jshl 1 (ji S a0 2))) = 0 → Q 0 S) ∧ (¬ ((x2 &&& (x1 ^^^ (-1))) &&& (jshl 1 (ji S a0 2))) = 0 → ((ji S a0 6) = 0 → jFi E mX2_teaches d 0 0 [.ref a0, .int x1] S (fun r5 S4 => (r5 = 0 → Q 0 S4) ∧ (¬ r5 = 0 → jk S4 a0 = 2 ∧ jFi E mX2_unlearnt d 0 0 [.ref a0] S4 (fun r9 S8 => ((r9 &&& x1) = 0 → Q 1 S8) ∧ (¬ (r9 &&& x1) = 0 → Q 0 S8))))) ∧ (¬ (ji S a0 6) = 0 → Q 0 S))) : jFi E mX0_helps (d + 1) 0 0 [.ref a0, .int x1, .int x2] S Q := by
  refine jF_of (by decide) (jle rfl) ?_
  refine jx_lv (lv1 := [(0, .ref a0), (1, .int x1), (2, .int x2)]) [0, 1, 2] rfl ?_
  refine jx_iload_n 2 dX0_helps_0 rfl rfl ?_
  refine jx_iload_n 1 dX0_helps_1 rfl rfl ?_
  refine jx_iconst (v := (-1)) dX0_helps_2 (by decide) ?_
  refine jx_ixor dX0_helps_3 ?_
  refine jx_iand dX0_helps_4 ?_
  refine jx_iconst (v := 1) dX0_helps_5 (by decide) ?_
  refine jx_aload_n 0 dX0_helps_6 rfl rfl ?_
  obtain ⟨hk1, h⟩ := h
  refine jx_geti jc_2 (j := 2) (by decide) rfl jwF_X0_66 dX0_helps_7 hk1 ?_
  refine jx_ishl dX0_helps_10 ?_
  refine jx_iand dX0_helps_11 ?_
  refine jx_if_eq (tgt := 19) dX0_helps_12 (by decide) (fun c2 => ?_) (fun c2 => ?_)
  · replace h := h.1 c2
    refine jx_iconst (v := 0) dX0_helps_19 (by decide) ?_
    refine jx_istore_n (lv1 := [(3, .int 0), (0, .ref a0), (1, .int x1), (2, .int x2)]) dX0_helps_20 rfl (by decide) rfl ?_
    refine jx_iload_n 0 dX0_helps_21 rfl rfl ?_
    refine jx_if_eq (tgt := 53) dX0_helps_22 (by decide) (fun _ => ?_) (fun z9 => absurd z9 (by decide))
    refine jx_iconst (v := 0) dX0_helps_53 (by decide) ?_
    exact jx_iret dX0_helps_54 rfl (by decide) (jle rfl) (jle rfl) ⟨_, rfl, h⟩
  replace h := h.2 c2
  refine jx_iconst (v := 1) dX0_helps_15 (by decide) ?_
  refine jx_goto (tgt := 20) dX0_helps_16 (by decide) ?_
  refine jx_istore_n (lv1 := [(3, .int 1), (0, .ref a0), (1, .int x1), (2, .int x2)]) dX0_helps_20 rfl (by decide) rfl ?_
  refine jx_iload_n 0 dX0_helps_21 rfl rfl ?_
  refine jx_if_eq (tgt := 53) dX0_helps_22 (by decide) (fun z9 => absurd z9 (by decide)) (fun _ => ?_)
  refine jx_aload_n 1 dX0_helps_25 rfl rfl ?_
  refine jx_geti jc_2 (j := 6) (by decide) rfl jwF_X0_50 dX0_helps_26 hk1 ?_
  refine jx_if_ne (tgt := 53) dX0_helps_29 (by decide) (fun c3 => ?_) (fun c3 => ?_)
  · replace h := h.2 c3
    refine jx_iconst (v := 0) dX0_helps_53 (by decide) ?_
    exact jx_iret dX0_helps_54 rfl (by decide) (jle rfl) (jle rfl) ⟨_, rfl, h⟩
  replace h := h.1 c3
  refine jx_aload_n 1 dX0_helps_32 rfl rfl ?_
  refine jx_iload_n 2 dX0_helps_33 rfl rfl ?_
  refine jx_callVi (M' := mX2_teaches) (As := [.int x1]) jo_X2_teaches jc_2 rfl jwM_X0_84 jwN_X2_teaches jwX_X2_teaches dX0_helps_34 (jRok_m _ _ _) rfl (jle rfl) ⟨jle rfl, jle rfl⟩ hk1 h (fun r5 S4 h => ?_)
  refine jx_if_eq (tgt := 53) dX0_helps_37 (by decide) (fun c6 => ?_) (fun c6 => ?_)
  · replace h := h.1 c6
    refine jx_iconst (v := 0) dX0_helps_53 (by decide) ?_
    exact jx_iret dX0_helps_54 rfl (by decide) (jle rfl) (jle rfl) ⟨_, rfl, h⟩
  replace h := h.2 c6
  refine jx_aload_n 1 dX0_helps_40 rfl rfl ?_
  obtain ⟨hk7, h⟩ := h
  refine jx_callVi (M' := mX2_unlearnt) (As := []) jo_X2_unlearnt jc_2 rfl jwM_X0_88 jwN_X2_unlearnt jwX_X2_unlearnt dX0_helps_41 (jRok_m _ _ _) rfl (jle rfl) ⟨jle rfl, jle rfl⟩ hk7 h (fun r9 S8 h => ?_)
  refine jx_iload_n 2 dX0_helps_44 rfl rfl ?_
  refine jx_iand dX0_helps_45 ?_
  refine jx_if_ne (tgt := 53) dX0_helps_46 (by decide) (fun c10 => ?_) (fun c10 => ?_)
  · replace h := h.2 c10
    refine jx_iconst (v := 0) dX0_helps_53 (by decide) ?_
    exact jx_iret dX0_helps_54 rfl (by decide) (jle rfl) (jle rfl) ⟨_, rfl, h⟩
  replace h := h.1 c10
  refine jx_iconst (v := 1) dX0_helps_49 (by decide) ?_
  refine jx_goto (tgt := 54) dX0_helps_50 (by decide) ?_
  exact jx_iret dX0_helps_54 rfl (by decide) (jle rfl) (jle rfl) ⟨_, rfl, h⟩
set_option maxRecDepth 100000 in
set_option maxHeartbeats 4000000 in
theorem T_X9_init {E : jEnv} {d : Nat} {Q : jM → Prop} {a0 : Nat} {x1 : Int32} {x2 : Int32} {a3 : Nat} {S : jM} (h : jk S a0 = 9 ∧ (¬ (jmax 1 x2) < 0 ∧ (Int32.toNatClampNeg (jmax 1 x2)) ≤ 4000 ∧ (0 + 1 ≤ 1 ∧ 0 + (Int32.toNatClampNeg (jmax 1 x2)) ≤ 96)) ∧ (∀ q6, q6 = jn (jputr (jput (jput S a0 0 x1) a0 1 x2) a0 2 (some a3)) → jk (jnew (jputr (jput (jput S a0 0 x1) a0 1 x2) a0 2 (some a3)) 12 (Int32.toNatClampNeg (jmax 1 x2))) a0 = 9 ∧ (1 ≤ 1 ∧ (0 + (Int32.toNatClampNeg (jmax 1 x2))) ≤ 96) ∧ Q (jputr (jnew (jputr (jput (jput S a0 0 x1) a0 1 x2) a0 2 (some a3)) 12 (Int32.toNatClampNeg (jmax 1 x2))) a0 3 (some q6)))) : jFv E mX9_init (d + 1) 1 96 [.ref a0, .int x1, .int x2, .ref a3] S Q := by
  refine jF_of (by decide) (jle rfl) ?_
  refine jx_lv (lv1 := [(0, .ref a0), (1, .int x1), (2, .int x2), (3, .ref a3)]) [0, 1, 2, 3] rfl ?_
  refine jx_aload_n 0 dX9_init_0 rfl rfl ?_
  refine jx_objInit jwM_X9_3 jwN_obj jwO_obj dX9_init_1 (jRok_m _ _ _) (jle rfl) ?_
  refine jx_aload_n 0 dX9_init_4 rfl rfl ?_
  refine jx_iload_n 1 dX9_init_5 rfl rfl ?_
  obtain ⟨hk1, h⟩ := h
  refine jx_putiF jc_9 (j := 0) (by decide) rfl jwF_X9_9 rfl rfl rfl rfl rfl dX9_init_6 hk1 ?_
  refine jx_aload_n 0 dX9_init_9 rfl rfl ?_
  refine jx_iload_n 2 dX9_init_10 rfl rfl ?_
  refine jx_putiF jc_9 (j := 1) (by decide) rfl jwF_X9_15 rfl rfl rfl rfl rfl dX9_init_11 hk1 ?_
  refine jx_aload_n 0 dX9_init_14 rfl rfl ?_
  refine jx_aload_n 3 dX9_init_15 rfl rfl ?_
  refine jx_putrF jc_9 (j := 2) (by decide) rfl jwF_X9_18 rfl rfl rfl rfl rfl dX9_init_16 hk1 ?_
  refine jx_aload_n 0 dX9_init_19 rfl rfl ?_
  refine jx_iconst (v := 1) dX9_init_20 (by decide) ?_
  refine jx_iload_n 2 dX9_init_21 rfl rfl ?_
  refine jx_max jwM_X9_22 jwS_max jwZ_J9 jwO_max dX9_init_22 (jRok_m _ _ _) (jle rfl) ⟨Nat.zero_le _, Nat.zero_le _⟩ ?_
  obtain ⟨⟨hn3, hn4, hn5⟩, h⟩ := h
  refine jx_newa jwA kd41 hn3 rfl hn4 hn5 ?_
  obtain ⟨q6, hq6⟩ : ∃ q, q = jn (jputr (jput (jput S a0 0 x1) a0 1 x2) a0 2 (some a3)) := ⟨_, rfl⟩
  rw [← hq6]
  replace h := h q6 hq6
  obtain ⟨hk7, h⟩ := h
  refine jx_putrF jc_9 (j := 3) (by decide) rfl jwF_X9_28 rfl rfl rfl rfl rfl dX9_init_27 hk7 ?_
  obtain ⟨hm9, h⟩ := h
  exact jx_vret dX9_init_30 rfl hm9.1 hm9.2 ⟨rfl, h⟩
/-- X9_workOut at its loop's head 6 -/
abbrev L_X9_workOut_6 (E : jEnv) (d : Nat) (Q : Int32 → jM → Prop) (a0 : Nat) (x1 : Int32) (x2 : Int32) (x3 : Int32) (x4 : Int32) (x5 : Int32) (S : jM) : Prop := jX E mX9_workOut (jRm (d + 1) 0 0) (jZm E (fun r S' => ∃ v : Int32, r = some (.int v) ∧ Q v S') 0 0) 6 [(0, .ref a0), (1, .int x1), (2, .int x2), (3, .int x3), (4, .int x4), (5, .int x5)] [] S 0 0
set_option maxRecDepth 100000 in
set_option maxHeartbeats 4000000 in
theorem T_X9_workOut {E : jEnv} {d : Nat} {Q : Int32 → jM → Prop} {a0 : Nat} {x1 : Int32} {x2 : Int32} {x3 : Int32} {S : jM} (h : L_X9_workOut_6 E d Q a0 x1 x2 x3 0 0 S) : jFi E mX9_workOut (d + 1) 0 0 [.ref a0, .int x1, .int x2, .int x3] S Q := by
  refine jF_of (by decide) (jle rfl) ?_
  refine jx_lv (lv1 := [(0, .ref a0), (1, .int x1), (2, .int x2), (3, .int x3)]) [0, 1, 2, 3] rfl ?_
  refine jx_iconst (v := 0) dX9_workOut_0 (by decide) ?_
  refine jx_istore (lv1 := [(4, .int 0), (0, .ref a0), (1, .int x1), (2, .int x2), (3, .int x3)]) dX9_workOut_1 (by decide) rfl ?_
  refine jx_iconst (v := 0) dX9_workOut_3 (by decide) ?_
  refine jx_istore (lv1 := [(5, .int 0), (4, .int 0), (0, .ref a0), (1, .int x1), (2, .int x2), (3, .int x3)]) dX9_workOut_4 (by decide) rfl ?_
  exact jx_lv [2, 3, 4, 5, 1, 0] rfl h
set_option maxRecDepth 100000 in
set_option maxHeartbeats 4000000 in
theorem T_X9_workOut_6 {E : jEnv} {d : Nat} {Q : Int32 → jM → Prop} {a0 : Nat} {x1 : Int32} {x2 : Int32} {x3 : Int32} {x4 : Int32} {x5 : Int32} {S : jM} (h : jk S a0 = 9 ∧ ∃ b2, jr S a0 2 = some b2 ∧ (jk S b2 = 12 ∧ ((nI (jl S b2)) ≤ x5 → (x4 = 1 → ∃ b6, jr S a0 3 = some b6 ∧ (jk S b6 = 12 ∧ vp_in 0 (jl S b6) ∧ (Q (ji S b6 (Int32.toNatClampNeg 0)) S))) ∧ (¬ x4 = 1 → Q 0 S)) ∧ (¬ (nI (jl S b2)) ≤ x5 → vp_in x5 (jl S b2) ∧ ((20000 ≤ (ji S b2 (Int32.toNatClampNeg x5)) → ((ji S b2 (Int32.toNatClampNeg x5)) = 20033 → ∃ b21, jr S a0 3 = some b21 ∧ (jk S b21 = 12 ∧ ((jwi (x4 - 1) (nI (jl S b21))) = 0 → L_X9_workOut_6 E d Q a0 x1 x2 x3 x4 (x5 + 1) S) ∧ (¬ (jwi (x4 - 1) (nI (jl S b21))) = 0 → vp_in (x4 - 1) (jl S b21) ∧ (((ji S b21 (Int32.toNatClampNeg (x4 - 1))) = 0 → (L_X9_workOut_6 E d Q a0 x1 x2 x3 x4 (x5 + 1) (jput S b21 (Int32.toNatClampNeg (x4 - 1)) 1))) ∧ (¬ (ji S b21 (Int32.toNatClampNeg (x4 - 1))) = 0 → (L_X9_workOut_6 E d Q a0 x1 x2 x3 x4 (x5 + 1) (jput S b21 (Int32.toNatClampNeg (x4 - 1)) 0))))))) ∧ (¬ (ji S b2 (Int32.toNatClampNeg x5)) = 20033 → (x4 ≤ 1 → L_X9_workOut_6 E d Q a0 x1 x2 x3 x4 (x5 + 1) S) ∧ (¬ x4 ≤ 1 → ∃ b13, jr S a0 3 = some b13 ∧ (jk S b13 = 12 ∧ ((nI (jl S b13)) < x4 → L_X9_workOut_6 E d Q a0 x1 x2 x3 x4 (x5 + 1) S) ∧ (¬ (nI (jl S b13)) < x4 → vp_in ((x4 + (-1)) - 1) (jl S b13) ∧ (vp_in (x4 + (-1)) (jl S b13) ∧ ((L_X9_workOut_6 E d Q a0 x1 x2 x3 (x4 + (-1)) (x5 + 1) (jput S b13 (Int32.toNatClampNeg ((x4 + (-1)) - 1)) (jjoinC ((ji S b2 (Int32.toNatClampNeg x5)) - 20000) (ji S b13 (Int32.toNatClampNeg ((x4 + (-1)) - 1))) (ji S b13 (Int32.toNatClampNeg (x4 + (-1)))))))))))))) ∧ (¬ 20000 ≤ (ji S b2 (Int32.toNatClampNeg x5)) → ∃ b29, jr S a0 3 = some b29 ∧ (jk S b29 = 12 ∧ ((jwi x4 (nI (jl S b29))) = 0 → L_X9_workOut_6 E d Q a0 x1 x2 x3 x4 (x5 + 1) S) ∧ (¬ (jwi x4 (nI (jl S b29))) = 0 → vp_in x4 (jl S b29) ∧ (L_X9_workOut_6 E d Q a0 x1 x2 x3 (x4 + 1) (x5 + 1) (jput S b29 (Int32.toNatClampNeg x4) (jvalof (ji S b2 (Int32.toNatClampNeg x5)) x1 x2 x3)))))))))) : L_X9_workOut_6 E d Q a0 x1 x2 x3 x4 x5 S := by
  show jX E mX9_workOut (jRm (d + 1) 0 0) (jZm E (fun r S' => ∃ v : Int32, r = some (.int v) ∧ Q v S') 0 0) 6 [(0, .ref a0), (1, .int x1), (2, .int x2), (3, .int x3), (4, .int x4), (5, .int x5)] [] S 0 0
  refine jx_iload 5 dX9_workOut_6 rfl ?_
  refine jx_aload_n 0 dX9_workOut_8 rfl rfl ?_
  obtain ⟨hk1, h⟩ := h
  obtain ⟨b2, hb2, h⟩ := h
  refine jx_getr jc_9 (j := 2) (by decide) rfl jwF_X9_18 dX9_workOut_9 hk1 hb2 ?_
  obtain ⟨hk3, h⟩ := h
  refine jx_alen dX9_workOut_12 hk3 ?_
  refine jx_icmp_ge (tgt := 178) dX9_workOut_13 (by decide) (fun c4 => ?_) (fun c4 => ?_)
  · replace h := h.1 c4
    refine jx_iload 4 dX9_workOut_178 rfl ?_
    refine jx_iconst (v := 1) dX9_workOut_180 (by decide) ?_
    refine jx_icmp_ne (tgt := 193) dX9_workOut_181 (by decide) (fun c5 => ?_) (fun c5 => ?_)
    · replace h := h.2 c5
      refine jx_iconst (v := 0) dX9_workOut_193 (by decide) ?_
      exact jx_iret dX9_workOut_194 rfl rfl (jle rfl) (jle rfl) ⟨_, rfl, h⟩
    replace h := h.1 c5
    refine jx_aload_n 0 dX9_workOut_184 rfl rfl ?_
    obtain ⟨b6, hb6, h⟩ := h
    refine jx_getr jc_9 (j := 3) (by decide) rfl jwF_X9_28 dX9_workOut_185 hk1 hb6 ?_
    refine jx_iconst (v := 0) dX9_workOut_188 (by decide) ?_
    obtain ⟨hk7, h⟩ := h
    obtain ⟨hi8, h⟩ := h
    refine jx_iald dX9_workOut_189 hk7 hi8 ?_
    refine jx_goto (tgt := 194) dX9_workOut_190 (by decide) ?_
    exact jx_iret dX9_workOut_194 rfl rfl (jle rfl) (jle rfl) ⟨_, rfl, h⟩
  replace h := h.2 c4
  refine jx_aload_n 0 dX9_workOut_16 rfl rfl ?_
  refine jx_getr jc_9 (j := 2) (by decide) rfl jwF_X9_18 dX9_workOut_17 hk1 hb2 ?_
  refine jx_iload 5 dX9_workOut_20 rfl ?_
  obtain ⟨hi9, h⟩ := h
  refine jx_iald dX9_workOut_22 hk3 hi9 ?_
  refine jx_istore (lv1 := [(6, .int (ji S b2 (Int32.toNatClampNeg x5))), (0, .ref a0), (1, .int x1), (2, .int x2), (3, .int x3), (4, .int x4), (5, .int x5)]) dX9_workOut_23 (by decide) rfl ?_
  refine jx_iload 0 dX9_workOut_25 rfl ?_
  refine jx_sipush (v := 20000) dX9_workOut_27 (by decide) ?_
  refine jx_icmp_ge (tgt := 67) dX9_workOut_30 (by decide) (fun c10 => ?_) (fun c10 => ?_)
  · replace h := h.1 c10
    refine jx_iload 0 dX9_workOut_67 rfl ?_
    refine jx_sipush (v := 20033) dX9_workOut_69 (by decide) ?_
    refine jx_icmp_ne (tgt := 119) dX9_workOut_72 (by decide) (fun c11 => ?_) (fun c11 => ?_)
    · replace h := h.2 c11
      refine jx_iload 5 dX9_workOut_119 rfl ?_
      refine jx_iconst (v := 1) dX9_workOut_121 (by decide) ?_
      refine jx_icmp_le (tgt := 172) dX9_workOut_122 (by decide) (fun c12 => ?_) (fun c12 => ?_)
      · replace h := h.1 c12
        refine jx_iinc 6 (v := (x5 + 1)) (lv1 := [(5, .int (x5 + 1)), (6, .int (ji S b2 (Int32.toNatClampNeg x5))), (0, .ref a0), (1, .int x1), (2, .int x2), (3, .int x3), (4, .int x4)]) kd42.2.2.1 rfl rfl (by decide) rfl ?_
        refine jx_goto (tgt := 6) kd42.2.2.2 (by decide) ?_
        exact jx_lv [2, 3, 4, 5, 6, 0] rfl h
      replace h := h.2 c12
      refine jx_iload 5 dX9_workOut_125 rfl ?_
      refine jx_aload_n 1 dX9_workOut_127 rfl rfl ?_
      obtain ⟨b13, hb13, h⟩ := h
      refine jx_getr jc_9 (j := 3) (by decide) rfl jwF_X9_28 dX9_workOut_128 hk1 hb13 ?_
      obtain ⟨hk14, h⟩ := h
      refine jx_alen dX9_workOut_131 hk14 ?_
      refine jx_icmp_gt (tgt := 172) dX9_workOut_132 (by decide) (fun c15 => ?_) (fun c15 => ?_)
      · replace h := h.1 c15
        refine jx_iinc 6 (v := (x5 + 1)) (lv1 := [(5, .int (x5 + 1)), (6, .int (ji S b2 (Int32.toNatClampNeg x5))), (0, .ref a0), (1, .int x1), (2, .int x2), (3, .int x3), (4, .int x4)]) kd42.2.2.1 rfl rfl (by decide) rfl ?_
        refine jx_goto (tgt := 6) kd42.2.2.2 (by decide) ?_
        exact jx_lv [2, 3, 4, 5, 6, 0] rfl h
      replace h := h.2 c15
      refine jx_iinc 5 (v := (x4 + (-1))) (lv1 := [(4, .int (x4 + (-1))), (6, .int (ji S b2 (Int32.toNatClampNeg x5))), (0, .ref a0), (1, .int x1), (2, .int x2), (3, .int x3), (5, .int x5)]) kd42.2.1 rfl rfl (by decide) rfl ?_
      refine jx_aload_n 2 dX9_workOut_138 rfl rfl ?_
      refine jx_getr jc_9 (j := 3) (by decide) rfl jwF_X9_28 dX9_workOut_139 hk1 hb13 ?_
      refine jx_iload 0 dX9_workOut_142 rfl ?_
      refine jx_iconst (v := 1) dX9_workOut_144 (by decide) ?_
      refine jx_isub dX9_workOut_145 ?_
      refine jx_iload 1 dX9_workOut_146 rfl ?_
      refine jx_sipush (v := 20000) dX9_workOut_148 (by decide) ?_
      refine jx_isub dX9_workOut_151 ?_
      refine jx_aload_n 2 dX9_workOut_152 rfl rfl ?_
      refine jx_getr jc_9 (j := 3) (by decide) rfl jwF_X9_28 dX9_workOut_153 hk1 hb13 ?_
      refine jx_iload 0 dX9_workOut_156 rfl ?_
      refine jx_iconst (v := 1) dX9_workOut_158 (by decide) ?_
      refine jx_isub dX9_workOut_159 ?_
      obtain ⟨hi16, h⟩ := h
      refine jx_iald dX9_workOut_160 hk14 hi16 ?_
      refine jx_aload_n 2 dX9_workOut_161 rfl rfl ?_
      refine jx_getr jc_9 (j := 3) (by decide) rfl jwF_X9_28 dX9_workOut_162 hk1 hb13 ?_
      refine jx_iload 0 dX9_workOut_165 rfl ?_
      obtain ⟨hi17, h⟩ := h
      refine jx_iald dX9_workOut_167 hk14 hi17 ?_
      refine jx_callSi (M' := mX9_joined) (As := [.int ((ji S b2 (Int32.toNatClampNeg x5)) - 20000), .int (ji S b13 (Int32.toNatClampNeg ((x4 + (-1)) - 1))), .int (ji S b13 (Int32.toNatClampNeg (x4 + (-1))))]) jo_X9_joined jwM_X9_39 jwS_X9_joined dX9_workOut_168 (jRok_m _ _ _) rfl (jle rfl) ⟨jle rfl, jle rfl⟩ (c_X9_joined (Q := fun v S' => v = (jjoinC ((ji S b2 (Int32.toNatClampNeg x5)) - 20000) (ji S b13 (Int32.toNatClampNeg ((x4 + (-1)) - 1))) (ji S b13 (Int32.toNatClampNeg (x4 + (-1))))) ∧ S = S') ⟨rfl, rfl⟩) (fun r18 S19 hq20 => ?_)
      obtain ⟨rfl, rfl⟩ := hq20
      refine jx_iast dX9_workOut_171 hk14 hi16 ?_
      refine jx_iinc 6 (v := (x5 + 1)) (lv1 := [(5, .int (x5 + 1)), (4, .int (x4 + (-1))), (6, .int (ji S b2 (Int32.toNatClampNeg x5))), (0, .ref a0), (1, .int x1), (2, .int x2), (3, .int x3)]) kd42.2.2.1 rfl rfl (by decide) rfl ?_
      refine jx_goto (tgt := 6) kd42.2.2.2 (by decide) ?_
      exact jx_lv [3, 4, 5, 6, 1, 0] rfl h
    replace h := h.1 c11
    refine jx_iload 5 dX9_workOut_75 rfl ?_
    refine jx_iconst (v := 1) dX9_workOut_77 (by decide) ?_
    refine jx_isub dX9_workOut_78 ?_
    refine jx_aload_n 1 dX9_workOut_79 rfl rfl ?_
    obtain ⟨b21, hb21, h⟩ := h
    refine jx_getr jc_9 (j := 3) (by decide) rfl jwF_X9_28 dX9_workOut_80 hk1 hb21 ?_
    obtain ⟨hk22, h⟩ := h
    refine jx_alen dX9_workOut_83 hk22 ?_
    refine jx_callSNi (M' := mX10_within) (As := [.int (x4 - 1), .int (nI (jl S b21))]) (host := "NineMasters") jo_X10_within (by decide) jwS_X10_within dX9_workOut_84 (jRok_m _ _ _) rfl (jle rfl) ⟨jle rfl, jle rfl⟩ (c_X10_within (Q := fun v S' => v = (jwi (x4 - 1) (nI (jl S b21))) ∧ S = S') ⟨rfl, rfl⟩) (fun r23 S24 hq25 => ?_)
    obtain ⟨rfl, rfl⟩ := hq25
    refine jx_if_eq (tgt := 172) dX9_workOut_87 (by decide) (fun c26 => ?_) (fun c26 => ?_)
    · replace h := h.1 c26
      refine jx_iinc 6 (v := (x5 + 1)) (lv1 := [(5, .int (x5 + 1)), (6, .int (ji S b2 (Int32.toNatClampNeg x5))), (0, .ref a0), (1, .int x1), (2, .int x2), (3, .int x3), (4, .int x4)]) kd42.2.2.1 rfl rfl (by decide) rfl ?_
      refine jx_goto (tgt := 6) kd42.2.2.2 (by decide) ?_
      exact jx_lv [2, 3, 4, 5, 6, 0] rfl h
    replace h := h.2 c26
    refine jx_aload_n 1 dX9_workOut_90 rfl rfl ?_
    refine jx_getr jc_9 (j := 3) (by decide) rfl jwF_X9_28 dX9_workOut_91 hk1 hb21 ?_
    refine jx_iload 5 dX9_workOut_94 rfl ?_
    refine jx_iconst (v := 1) dX9_workOut_96 (by decide) ?_
    refine jx_isub dX9_workOut_97 ?_
    refine jx_aload_n 1 dX9_workOut_98 rfl rfl ?_
    refine jx_getr jc_9 (j := 3) (by decide) rfl jwF_X9_28 dX9_workOut_99 hk1 hb21 ?_
    refine jx_iload 5 dX9_workOut_102 rfl ?_
    refine jx_iconst (v := 1) dX9_workOut_104 (by decide) ?_
    refine jx_isub dX9_workOut_105 ?_
    obtain ⟨hi27, h⟩ := h
    refine jx_iald dX9_workOut_106 hk22 hi27 ?_
    refine jx_if_ne (tgt := 114) dX9_workOut_107 (by decide) (fun c28 => ?_) (fun c28 => ?_)
    · replace h := h.2 c28
      refine jx_iconst (v := 0) dX9_workOut_114 (by decide) ?_
      refine jx_iast dX9_workOut_115 hk22 hi27 ?_
      refine jx_goto (tgt := 172) dX9_workOut_116 (by decide) ?_
      refine jx_iinc 6 (v := (x5 + 1)) (lv1 := [(5, .int (x5 + 1)), (6, .int (ji S b2 (Int32.toNatClampNeg x5))), (0, .ref a0), (1, .int x1), (2, .int x2), (3, .int x3), (4, .int x4)]) kd42.2.2.1 rfl rfl (by decide) rfl ?_
      refine jx_goto (tgt := 6) kd42.2.2.2 (by decide) ?_
      exact jx_lv [2, 3, 4, 5, 6, 0] rfl h
    replace h := h.1 c28
    refine jx_iconst (v := 1) dX9_workOut_110 (by decide) ?_
    refine jx_goto (tgt := 115) dX9_workOut_111 (by decide) ?_
    refine jx_iast dX9_workOut_115 hk22 hi27 ?_
    refine jx_goto (tgt := 172) dX9_workOut_116 (by decide) ?_
    refine jx_iinc 6 (v := (x5 + 1)) (lv1 := [(5, .int (x5 + 1)), (6, .int (ji S b2 (Int32.toNatClampNeg x5))), (0, .ref a0), (1, .int x1), (2, .int x2), (3, .int x3), (4, .int x4)]) kd42.2.2.1 rfl rfl (by decide) rfl ?_
    refine jx_goto (tgt := 6) kd42.2.2.2 (by decide) ?_
    exact jx_lv [2, 3, 4, 5, 6, 0] rfl h
  replace h := h.2 c10
  refine jx_iload 5 dX9_workOut_33 rfl ?_
  refine jx_aload_n 1 dX9_workOut_35 rfl rfl ?_
  obtain ⟨b29, hb29, h⟩ := h
  refine jx_getr jc_9 (j := 3) (by decide) rfl jwF_X9_28 dX9_workOut_36 hk1 hb29 ?_
  obtain ⟨hk30, h⟩ := h
  refine jx_alen dX9_workOut_39 hk30 ?_
  refine jx_callSNi (M' := mX10_within) (As := [.int x4, .int (nI (jl S b29))]) (host := "NineMasters") jo_X10_within (by decide) jwS_X10_within dX9_workOut_40 (jRok_m _ _ _) rfl (jle rfl) ⟨jle rfl, jle rfl⟩ (c_X10_within (Q := fun v S' => v = (jwi x4 (nI (jl S b29))) ∧ S = S') ⟨rfl, rfl⟩) (fun r31 S32 hq33 => ?_)
  obtain ⟨rfl, rfl⟩ := hq33
  refine jx_if_eq (tgt := 172) dX9_workOut_43 (by decide) (fun c34 => ?_) (fun c34 => ?_)
  · replace h := h.1 c34
    refine jx_iinc 6 (v := (x5 + 1)) (lv1 := [(5, .int (x5 + 1)), (6, .int (ji S b2 (Int32.toNatClampNeg x5))), (0, .ref a0), (1, .int x1), (2, .int x2), (3, .int x3), (4, .int x4)]) kd42.2.2.1 rfl rfl (by decide) rfl ?_
    refine jx_goto (tgt := 6) kd42.2.2.2 (by decide) ?_
    exact jx_lv [2, 3, 4, 5, 6, 0] rfl h
  replace h := h.2 c34
  refine jx_aload_n 1 dX9_workOut_46 rfl rfl ?_
  refine jx_getr jc_9 (j := 3) (by decide) rfl jwF_X9_28 dX9_workOut_47 hk1 hb29 ?_
  refine jx_iload 5 dX9_workOut_50 rfl ?_
  refine jx_iload 0 dX9_workOut_52 rfl ?_
  refine jx_iload_n 2 dX9_workOut_54 rfl rfl ?_
  refine jx_iload_n 3 dX9_workOut_55 rfl rfl ?_
  refine jx_iload_n 4 dX9_workOut_56 rfl rfl ?_
  refine jx_callSi (M' := mX9_valueOf) (As := [.int (ji S b2 (Int32.toNatClampNeg x5)), .int x1, .int x2, .int x3]) jo_X9_valueOf jwM_X9_35 jwS_X9_valueOf dX9_workOut_57 (jRok_m _ _ _) rfl (jle rfl) ⟨jle rfl, jle rfl⟩ (c_X9_valueOf (Q := fun v S' => v = (jvalof (ji S b2 (Int32.toNatClampNeg x5)) x1 x2 x3) ∧ S = S') ⟨rfl, rfl⟩) (fun r35 S36 hq37 => ?_)
  obtain ⟨rfl, rfl⟩ := hq37
  obtain ⟨hi38, h⟩ := h
  refine jx_iast dX9_workOut_60 hk30 hi38 ?_
  refine jx_iinc 5 (v := (x4 + 1)) (lv1 := [(4, .int (x4 + 1)), (6, .int (ji S b2 (Int32.toNatClampNeg x5))), (0, .ref a0), (1, .int x1), (2, .int x2), (3, .int x3), (5, .int x5)]) kd42.1 rfl rfl (by decide) rfl ?_
  refine jx_goto (tgt := 172) dX9_workOut_64 (by decide) ?_
  refine jx_iinc 6 (v := (x5 + 1)) (lv1 := [(5, .int (x5 + 1)), (4, .int (x4 + 1)), (6, .int (ji S b2 (Int32.toNatClampNeg x5))), (0, .ref a0), (1, .int x1), (2, .int x2), (3, .int x3)]) kd42.2.2.1 rfl rfl (by decide) rfl ?_
  refine jx_goto (tgt := 6) kd42.2.2.2 (by decide) ?_
  exact jx_lv [3, 4, 5, 6, 1, 0] rfl h
end
section
set_option maxRecDepth 100000 in
set_option maxHeartbeats 4000000 in
theorem T_X8_init {E : jEnv} {d : Nat} {Q : jM → Prop} {a0 : Nat} {S : jM} (h : ∀ q1, q1 = jn S → jk (jnew S 12 96) a0 = 8 ∧ ∀ q4, q4 = jn (jputr (jnew S 12 96) a0 0 (some q1)) → jk (jnew (jputr (jnew S 12 96) a0 0 (some q1)) 12 96) a0 = 8 ∧ Q (jputr (jnew (jputr (jnew S 12 96) a0 0 (some q1)) 12 96) a0 8 (some q4))) : jFv E mX8_init (d + 1) 2 192 [.ref a0] S Q := by
  refine jF_of (by decide) (jle rfl) ?_
  refine jx_lv (lv1 := [(0, .ref a0)]) [0] rfl ?_
  refine jx_aload_n 0 dX8_init_0 rfl rfl ?_
  refine jx_objInit jwM_X8_3 jwN_obj jwO_obj dX8_init_1 (jRok_m _ _ _) (jle rfl) ?_
  refine jx_aload_n 0 dX8_init_4 rfl rfl ?_
  refine jx_bipush (v := 96) dX8_init_5 (by decide) ?_
  refine jx_newa (N := 96) jwA kd30.1 (by decide) (by decide) (by decide) ⟨jle rfl, jle rfl⟩ ?_
  obtain ⟨q1, hq1⟩ : ∃ q, q = jn S := ⟨_, rfl⟩
  rw [← hq1]
  replace h := h q1 hq1
  obtain ⟨hk2, h⟩ := h
  refine jx_putrF jc_8 (j := 0) (by decide) rfl jwF_X8_9 rfl rfl rfl rfl rfl dX8_init_9 hk2 ?_
  refine jx_aload_n 0 dX8_init_12 rfl rfl ?_
  refine jx_bipush (v := 96) dX8_init_13 (by decide) ?_
  refine jx_newa (N := 96) jwA kd30.2 (by decide) (by decide) (by decide) ⟨jle rfl, jle rfl⟩ ?_
  obtain ⟨q4, hq4⟩ : ∃ q, q = jn (jputr (jnew S 12 96) a0 0 (some q1)) := ⟨_, rfl⟩
  rw [← hq4]
  replace h := h q4 hq4
  obtain ⟨hk5, h⟩ := h
  refine jx_putrF jc_8 (j := 8) (by decide) rfl jwF_X8_15 rfl rfl rfl rfl rfl dX8_init_17 hk5 ?_
  exact jx_vret dX8_init_20 rfl (jle rfl) (jle rfl) ⟨rfl, h⟩
/-- X8_addNumber at its loop's head 3 -/
abbrev L_X8_addNumber_3 (E : jEnv) (d : Nat) (Q : jM → Prop) (a0 : Nat) (x1 : Int32) (x2 : Int32) (S : jM) : Prop := jX E mX8_addNumber (jRm (d + 1) 0 0) (jZm E (fun r S' => r = none ∧ Q S') 0 0) 3 [(0, .ref a0), (1, .int x1), (2, .int x2)] [] S 0 0
set_option maxRecDepth 100000 in
set_option maxHeartbeats 4000000 in
theorem T_X8_addNumber {E : jEnv} {d : Nat} {Q : jM → Prop} {a0 : Nat} {x1 : Int32} {S : jM} (h : L_X8_addNumber_3 E d Q a0 x1 24 S) : jFv E mX8_addNumber (d + 1) 0 0 [.ref a0, .int x1] S Q := by
  refine jF_of (by decide) (jle rfl) ?_
  refine jx_lv (lv1 := [(0, .ref a0), (1, .int x1)]) [0, 1] rfl ?_
  refine jx_bipush (v := 24) dX8_addNumber_0 (by decide) ?_
  refine jx_istore_n (lv1 := [(2, .int 24), (0, .ref a0), (1, .int x1)]) dX8_addNumber_2 rfl (by decide) rfl ?_
  exact jx_lv [1, 2, 0] rfl h
set_option maxRecDepth 100000 in
set_option maxHeartbeats 4000000 in
theorem T_X8_addNumber_3 {E : jEnv} {d : Nat} {Q : jM → Prop} {a0 : Nat} {x1 : Int32} {x2 : Int32} {S : jM} (h : (x2 < 0 → Q S) ∧ (¬ x2 < 0 → jk S a0 = 8 ∧ ((jwi (ji S a0 1) 96) = 0 → L_X8_addNumber_3 E d Q a0 x1 (x2 + (-8)) S) ∧ (¬ (jwi (ji S a0 1) 96) = 0 → ∃ b7, jr S a0 0 = some b7 ∧ (jk S b7 = 12 ∧ vp_in (ji S a0 1) (jl S b7) ∧ (L_X8_addNumber_3 E d Q a0 x1 (x2 + (-8)) (jput (jput S b7 (Int32.toNatClampNeg (ji S a0 1)) ((jushr x1 x2) &&& 255)) a0 1 ((ji S a0 1) + 1))))))) : L_X8_addNumber_3 E d Q a0 x1 x2 S := by
  show jX E mX8_addNumber (jRm (d + 1) 0 0) (jZm E (fun r S' => r = none ∧ Q S') 0 0) 3 [(0, .ref a0), (1, .int x1), (2, .int x2)] [] S 0 0
  refine jx_iload_n 2 dX8_addNumber_3 rfl rfl ?_
  refine jx_if_lt (tgt := 51) dX8_addNumber_4 (by decide) (fun c1 => ?_) (fun c1 => ?_)
  · replace h := h.1 c1
    exact jx_vret dX8_addNumber_51 rfl (jle rfl) (jle rfl) ⟨rfl, h⟩
  replace h := h.2 c1
  refine jx_aload_n 0 dX8_addNumber_7 rfl rfl ?_
  obtain ⟨hk2, h⟩ := h
  refine jx_geti jc_8 (j := 1) (by decide) rfl jwF_X8_18 dX8_addNumber_8 hk2 ?_
  refine jx_bipush (v := 96) dX8_addNumber_11 (by decide) ?_
  refine jx_callSNi (M' := mX10_within) (As := [.int (ji S a0 1), .int 96]) (host := "NineMasters") jo_X10_within (by decide) jwS_X10_within dX8_addNumber_13 (jRok_m _ _ _) rfl (jle rfl) ⟨jle rfl, jle rfl⟩ (c_X10_within (Q := fun v S' => v = (jwi (ji S a0 1) 96) ∧ S = S') ⟨rfl, rfl⟩) (fun r3 S4 hq5 => ?_)
  obtain ⟨rfl, rfl⟩ := hq5
  refine jx_if_eq (tgt := 45) dX8_addNumber_16 (by decide) (fun c6 => ?_) (fun c6 => ?_)
  · replace h := h.1 c6
    refine jx_iinc 2 (v := (x2 + (-8))) (lv1 := [(2, .int (x2 + (-8))), (0, .ref a0), (1, .int x1)]) kd31.1 rfl rfl (by decide) rfl ?_
    refine jx_goto (tgt := 3) kd31.2 (by decide) ?_
    exact jx_lv [1, 2, 0] rfl h
  replace h := h.2 c6
  refine jx_aload_n 0 dX8_addNumber_19 rfl rfl ?_
  obtain ⟨b7, hb7, h⟩ := h
  refine jx_getr jc_8 (j := 0) (by decide) rfl jwF_X8_9 dX8_addNumber_20 hk2 hb7 ?_
  refine jx_aload_n 0 dX8_addNumber_23 rfl rfl ?_
  refine jx_geti jc_8 (j := 1) (by decide) rfl jwF_X8_18 dX8_addNumber_24 hk2 ?_
  refine jx_iload_n 1 dX8_addNumber_27 rfl rfl ?_
  refine jx_iload_n 2 dX8_addNumber_28 rfl rfl ?_
  refine jx_iushr dX8_addNumber_29 ?_
  refine jx_sipush (v := 255) dX8_addNumber_30 (by decide) ?_
  refine jx_iand dX8_addNumber_33 ?_
  obtain ⟨hk8, h⟩ := h
  obtain ⟨hi9, h⟩ := h
  refine jx_iast dX8_addNumber_34 hk8 hi9 ?_
  refine jx_aload_n 0 dX8_addNumber_35 rfl rfl ?_
  refine jx_dup dX8_addNumber_36 rfl ?_
  refine jx_geti jc_8 (j := 1) (by decide) rfl jwF_X8_18 dX8_addNumber_37 hk2 ?_
  refine jx_topi (y := (ji S a0 1)) (by simp [ji_put, ji_row, ji_putr, jne hk2 hk8 (by decide)]) ?_
  refine jx_iconst (v := 1) dX8_addNumber_40 (by decide) ?_
  refine jx_iadd dX8_addNumber_41 ?_
  refine jx_puti jc_8 (j := 1) (by decide) rfl jwF_X8_18 rfl rfl rfl dX8_addNumber_42 hk2 ?_
  refine jx_iinc 2 (v := (x2 + (-8))) (lv1 := [(2, .int (x2 + (-8))), (0, .ref a0), (1, .int x1)]) kd31.1 rfl rfl (by decide) rfl ?_
  refine jx_goto (tgt := 3) kd31.2 (by decide) ?_
  exact jx_lv [1, 2, 0] rfl h
set_option maxRecDepth 100000 in
set_option maxHeartbeats 4000000 in
theorem T_X8_isText {E : jEnv} {d : Nat} {Q : Int32 → jM → Prop} {a0 : Nat} {S : jM} (h : jk S a0 = 8 ∧ jFv E mX8_step d 0 0 [.ref a0] (jput (jput (jput (jput S a0 3 0) a0 4 0) a0 7 0) a0 9 0) (fun S2 => jk S2 a0 = 8 ∧ jFi E mX8_keyInHand d 0 0 [.ref a0] S2 (fun r5 S4 => jk S4 a0 = 8 ∧ (0 ≤ r5 → jFv E mX8_step d 0 0 [.ref a0] (jput S4 a0 6 r5) (fun S8 => jk S8 a0 = 8 ∧ jFi E mX8_readsChain d 0 0 [.ref a0, .int 0, .int 0, .int 0] S8 (fun r11 S10 => (r11 = 0 → Q 0 S10) ∧ (¬ r11 = 0 → jk S10 a0 = 8 ∧ ((ji S10 a0 4) = 0 → Q 1 S10) ∧ (¬ (ji S10 a0 4) = 0 → Q 0 S10))))) ∧ (¬ 0 ≤ r5 → Q 0 (jput S4 a0 6 r5))))) : jFi E mX8_isText (d + 1) 0 0 [.ref a0] S Q := by
  refine jF_of (by decide) (jle rfl) ?_
  refine jx_lv (lv1 := [(0, .ref a0)]) [0] rfl ?_
  refine jx_aload_n 0 dX8_isText_0 rfl rfl ?_
  refine jx_iconst (v := 0) dX8_isText_1 (by decide) ?_
  obtain ⟨hk1, h⟩ := h
  refine jx_puti jc_8 (j := 3) (by decide) rfl jwF_X8_26 rfl rfl rfl dX8_isText_2 hk1 ?_
  refine jx_aload_n 0 dX8_isText_5 rfl rfl ?_
  refine jx_iconst (v := 0) dX8_isText_6 (by decide) ?_
  refine jx_puti jc_8 (j := 4) (by decide) rfl jwF_X8_29 rfl rfl rfl dX8_isText_7 hk1 ?_
  refine jx_aload_n 0 dX8_isText_10 rfl rfl ?_
  refine jx_iconst (v := 0) dX8_isText_11 (by decide) ?_
  refine jx_puti jc_8 (j := 7) (by decide) rfl jwF_X8_32 rfl rfl rfl dX8_isText_12 hk1 ?_
  refine jx_aload_n 0 dX8_isText_15 rfl rfl ?_
  refine jx_iconst (v := 0) dX8_isText_16 (by decide) ?_
  refine jx_puti jc_8 (j := 9) (by decide) rfl jwF_X8_35 rfl rfl rfl dX8_isText_17 hk1 ?_
  refine jx_aload_n 0 dX8_isText_20 rfl rfl ?_
  refine jx_callVv (M' := mX8_step) (As := []) jo_X8_step jc_8 rfl jwM_X8_38 jwN_X8_step jwX_X8_step dX8_isText_21 (jRok_m _ _ _) rfl (jle rfl) ⟨jle rfl, jle rfl⟩ hk1 h (fun S2 h => ?_)
  refine jx_aload_n 0 dX8_isText_24 rfl rfl ?_
  refine jx_aload_n 0 dX8_isText_25 rfl rfl ?_
  obtain ⟨hk3, h⟩ := h
  refine jx_callVi (M' := mX8_keyInHand) (As := []) jo_X8_keyInHand jc_8 rfl jwM_X8_41 jwN_X8_keyInHand jwX_X8_keyInHand dX8_isText_26 (jRok_m _ _ _) rfl (jle rfl) ⟨jle rfl, jle rfl⟩ hk3 h (fun r5 S4 h => ?_)
  obtain ⟨hk6, h⟩ := h
  refine jx_puti jc_8 (j := 6) (by decide) rfl jwF_X8_45 rfl rfl rfl dX8_isText_29 hk6 ?_
  refine jx_aload_n 0 dX8_isText_32 rfl rfl ?_
  refine jx_geti jc_8 (j := 6) (by decide) rfl jwF_X8_45 dX8_isText_33 hk6 ?_
  refine jx_topi (y := r5) (by simp [ji_put, ji_row, ji_putr]) ?_
  refine jx_if_ge (tgt := 41) dX8_isText_36 (by decide) (fun c7 => ?_) (fun c7 => ?_)
  · replace h := h.1 c7
    refine jx_aload_n 0 dX8_isText_41 rfl rfl ?_
    refine jx_callVv (M' := mX8_step) (As := []) jo_X8_step jc_8 rfl jwM_X8_38 jwN_X8_step jwX_X8_step dX8_isText_42 (jRok_m _ _ _) rfl (jle rfl) ⟨jle rfl, jle rfl⟩ hk6 h (fun S8 h => ?_)
    refine jx_aload_n 0 dX8_isText_45 rfl rfl ?_
    refine jx_iconst (v := 0) dX8_isText_46 (by decide) ?_
    refine jx_iconst (v := 0) dX8_isText_47 (by decide) ?_
    refine jx_iconst (v := 0) dX8_isText_48 (by decide) ?_
    obtain ⟨hk9, h⟩ := h
    refine jx_callVi (M' := mX8_readsChain) (As := [.int 0, .int 0, .int 0]) jo_X8_readsChain jc_8 rfl jwM_X8_48 jwN_X8_readsChain jwX_X8_readsChain dX8_isText_49 (jRok_m _ _ _) rfl (jle rfl) ⟨jle rfl, jle rfl⟩ hk9 h (fun r11 S10 h => ?_)
    refine jx_if_eq (tgt := 66) dX8_isText_52 (by decide) (fun c12 => ?_) (fun c12 => ?_)
    · replace h := h.1 c12
      refine jx_iconst (v := 0) dX8_isText_66 (by decide) ?_
      exact jx_iret dX8_isText_67 rfl (by decide) (jle rfl) (jle rfl) ⟨_, rfl, h⟩
    replace h := h.2 c12
    refine jx_aload_n 0 dX8_isText_55 rfl rfl ?_
    obtain ⟨hk13, h⟩ := h
    refine jx_geti jc_8 (j := 4) (by decide) rfl jwF_X8_29 dX8_isText_56 hk13 ?_
    refine jx_if_ne (tgt := 66) dX8_isText_59 (by decide) (fun c14 => ?_) (fun c14 => ?_)
    · replace h := h.2 c14
      refine jx_iconst (v := 0) dX8_isText_66 (by decide) ?_
      exact jx_iret dX8_isText_67 rfl (by decide) (jle rfl) (jle rfl) ⟨_, rfl, h⟩
    replace h := h.1 c14
    refine jx_iconst (v := 1) dX8_isText_62 (by decide) ?_
    refine jx_goto (tgt := 67) dX8_isText_63 (by decide) ?_
    exact jx_iret dX8_isText_67 rfl (by decide) (jle rfl) (jle rfl) ⟨_, rfl, h⟩
  replace h := h.2 c7
  refine jx_iconst (v := 0) dX8_isText_39 (by decide) ?_
  exact jx_iret dX8_isText_40 rfl (by decide) (jle rfl) (jle rfl) ⟨_, rfl, h⟩
set_option maxRecDepth 100000 in
set_option maxHeartbeats 4000000 in
theorem T_X8_textRead {E : jEnv} {d : Nat} {Q : Option Nat → jM → Prop} {a0 : Nat} {S : jM} (h : jk S a0 = 8 ∧ (¬ (ji S a0 9) < 0 ∧ (Int32.toNatClampNeg (ji S a0 9)) ≤ 4000 ∧ (0 + 1 ≤ 3 ∧ 0 + (Int32.toNatClampNeg (ji S a0 9)) ≤ 196)) ∧ (∀ q5, q5 = jn S → jk (jnew S 12 (Int32.toNatClampNeg (ji S a0 9))) a0 = 8 ∧ ∃ b7, jr (jnew S 12 (Int32.toNatClampNeg (ji S a0 9))) a0 8 = some b7 ∧ (jk (jnew S 12 (Int32.toNatClampNeg (ji S a0 9))) b7 = 12 ∧ jk (jnew S 12 (Int32.toNatClampNeg (ji S a0 9))) q5 = 12 ∧ (¬ (0 : Int32) < 0 ∧ ¬ (0 : Int32) < 0 ∧ ¬ (ji (jnew S 12 (Int32.toNatClampNeg (ji S a0 9))) a0 9) < 0 ∧ (Int32.toNatClampNeg 0) + (Int32.toNatClampNeg (ji (jnew S 12 (Int32.toNatClampNeg (ji S a0 9))) a0 9)) ≤ jl (jnew S 12 (Int32.toNatClampNeg (ji S a0 9))) b7 ∧ (Int32.toNatClampNeg 0) + (Int32.toNatClampNeg (ji (jnew S 12 (Int32.toNatClampNeg (ji S a0 9))) a0 9)) ≤ jl (jnew S 12 (Int32.toNatClampNeg (ji S a0 9))) q5) ∧ ((1 + 1 ≤ 3 ∧ (0 + (Int32.toNatClampNeg (ji S a0 9))) + 4 ≤ 196) ∧ ∀ q16, q16 = jn (jrow (jnew S 12 (Int32.toNatClampNeg (ji S a0 9))) q5 (va_cpy (ji (jnew S 12 (Int32.toNatClampNeg (ji S a0 9))) b7) (ji (jnew S 12 (Int32.toNatClampNeg (ji S a0 9))) q5) (Int32.toNatClampNeg 0) (Int32.toNatClampNeg 0) (Int32.toNatClampNeg (ji (jnew S 12 (Int32.toNatClampNeg (ji S a0 9))) a0 9)))) → jk (jnew (jrow (jnew S 12 (Int32.toNatClampNeg (ji S a0 9))) q5 (va_cpy (ji (jnew S 12 (Int32.toNatClampNeg (ji S a0 9))) b7) (ji (jnew S 12 (Int32.toNatClampNeg (ji S a0 9))) q5) (Int32.toNatClampNeg 0) (Int32.toNatClampNeg 0) (Int32.toNatClampNeg (ji (jnew S 12 (Int32.toNatClampNeg (ji S a0 9))) a0 9)))) 9 0) a0 = 8 ∧ ((1 + 1) + 1 ≤ 3 ∧ ((0 + (Int32.toNatClampNeg (ji S a0 9))) + 4) + 96 ≤ 196) ∧ jFv E mX9_init d 1 96 [.ref q16, .int (ji (jnew (jrow (jnew S 12 (Int32.toNatClampNeg (ji S a0 9))) q5 (va_cpy (ji (jnew S 12 (Int32.toNatClampNeg (ji S a0 9))) b7) (ji (jnew S 12 (Int32.toNatClampNeg (ji S a0 9))) q5) (Int32.toNatClampNeg 0) (Int32.toNatClampNeg 0) (Int32.toNatClampNeg (ji (jnew S 12 (Int32.toNatClampNeg (ji S a0 9))) a0 9)))) 9 0) a0 6), .int (ji (jnew (jrow (jnew S 12 (Int32.toNatClampNeg (ji S a0 9))) q5 (va_cpy (ji (jnew S 12 (Int32.toNatClampNeg (ji S a0 9))) b7) (ji (jnew S 12 (Int32.toNatClampNeg (ji S a0 9))) q5) (Int32.toNatClampNeg 0) (Int32.toNatClampNeg 0) (Int32.toNatClampNeg (ji (jnew S 12 (Int32.toNatClampNeg (ji S a0 9))) a0 9)))) 9 0) a0 7), .ref q5] (jnew (jrow (jnew S 12 (Int32.toNatClampNeg (ji S a0 9))) q5 (va_cpy (ji (jnew S 12 (Int32.toNatClampNeg (ji S a0 9))) b7) (ji (jnew S 12 (Int32.toNatClampNeg (ji S a0 9))) q5) (Int32.toNatClampNeg 0) (Int32.toNatClampNeg 0) (Int32.toNatClampNeg (ji (jnew S 12 (Int32.toNatClampNeg (ji S a0 9))) a0 9)))) 9 0) (fun S19 => (((1 + 1) + 1) ≤ 3 ∧ (((0 + (Int32.toNatClampNeg (ji S a0 9))) + 4) + 96) ≤ 196) ∧ Q (some q16) S19))))) : jFr E mX8_textRead (d + 1) 3 196 [.ref a0] S Q := by
  refine jF_of (by decide) (jle rfl) ?_
  refine jx_lv (lv1 := [(0, .ref a0)]) [0] rfl ?_
  refine jx_aload_n 0 dX8_textRead_0 rfl rfl ?_
  obtain ⟨hk1, h⟩ := h
  refine jx_geti jc_8 (j := 9) (by decide) rfl jwF_X8_35 dX8_textRead_1 hk1 ?_
  obtain ⟨⟨hn2, hn3, hn4⟩, h⟩ := h
  refine jx_newa jwA kd32 hn2 rfl hn3 hn4 ?_
  obtain ⟨q5, hq5⟩ : ∃ q, q = jn S := ⟨_, rfl⟩
  rw [← hq5]
  replace h := h q5 hq5
  refine jx_astore_n (lv1 := [(1, .ref q5), (0, .ref a0)]) dX8_textRead_6 rfl (by decide) rfl ?_
  refine jx_aload_n 1 dX8_textRead_7 rfl rfl ?_
  obtain ⟨hk6, h⟩ := h
  obtain ⟨b7, hb7, h⟩ := h
  refine jx_getr jc_8 (j := 8) (by decide) rfl jwF_X8_15 dX8_textRead_8 hk6 hb7 ?_
  refine jx_iconst (v := 0) dX8_textRead_11 (by decide) ?_
  refine jx_aload_n 0 dX8_textRead_12 rfl rfl ?_
  refine jx_iconst (v := 0) dX8_textRead_13 (by decide) ?_
  refine jx_aload_n 1 dX8_textRead_14 rfl rfl ?_
  refine jx_geti jc_8 (j := 9) (by decide) rfl jwF_X8_35 dX8_textRead_15 hk6 ?_
  obtain ⟨hk8, h⟩ := h
  obtain ⟨hk9, h⟩ := h
  obtain ⟨⟨hc10, hc11, hc12, hc13, hc14⟩, h⟩ := h
  refine jx_copy jwM_X8_52 jwV_copy jwS_copy jwZ_J10 dX8_textRead_18 (jRok_m _ _ _) (jle rfl) hk8 hk9 hc10 hc11 hc12 hc13 hc14 ?_
  obtain ⟨hm15, h⟩ := h
  refine jx_new jc_9 jwK_X8_58 jwI_X9 jwZ_X9 jdv_9 dX8_textRead_21 hm15 ?_
  obtain ⟨q16, hq16⟩ : ∃ q, q = jn (jrow (jnew S 12 (Int32.toNatClampNeg (ji S a0 9))) q5 (va_cpy (ji (jnew S 12 (Int32.toNatClampNeg (ji S a0 9))) b7) (ji (jnew S 12 (Int32.toNatClampNeg (ji S a0 9))) q5) (Int32.toNatClampNeg 0) (Int32.toNatClampNeg 0) (Int32.toNatClampNeg (ji (jnew S 12 (Int32.toNatClampNeg (ji S a0 9))) a0 9)))) := ⟨_, rfl⟩
  rw [← hq16]
  replace h := h q16 hq16
  refine jx_dup dX8_textRead_24 rfl ?_
  refine jx_aload_n 1 dX8_textRead_25 rfl rfl ?_
  obtain ⟨hk17, h⟩ := h
  refine jx_geti jc_8 (j := 6) (by decide) rfl jwF_X8_45 dX8_textRead_26 hk17 ?_
  refine jx_aload_n 1 dX8_textRead_29 rfl rfl ?_
  refine jx_geti jc_8 (j := 7) (by decide) rfl jwF_X8_32 dX8_textRead_30 hk17 ?_
  refine jx_aload_n 0 dX8_textRead_33 rfl rfl ?_
  obtain ⟨hm18, h⟩ := h
  refine jx_callIv (M' := mX9_init) (As := [.int (ji (jnew (jrow (jnew S 12 (Int32.toNatClampNeg (ji S a0 9))) q5 (va_cpy (ji (jnew S 12 (Int32.toNatClampNeg (ji S a0 9))) b7) (ji (jnew S 12 (Int32.toNatClampNeg (ji S a0 9))) q5) (Int32.toNatClampNeg 0) (Int32.toNatClampNeg 0) (Int32.toNatClampNeg (ji (jnew S 12 (Int32.toNatClampNeg (ji S a0 9))) a0 9)))) 9 0) a0 6), .int (ji (jnew (jrow (jnew S 12 (Int32.toNatClampNeg (ji S a0 9))) q5 (va_cpy (ji (jnew S 12 (Int32.toNatClampNeg (ji S a0 9))) b7) (ji (jnew S 12 (Int32.toNatClampNeg (ji S a0 9))) q5) (Int32.toNatClampNeg 0) (Int32.toNatClampNeg 0) (Int32.toNatClampNeg (ji (jnew S 12 (Int32.toNatClampNeg (ji S a0 9))) a0 9)))) 9 0) a0 7), .ref q5]) (b := q16) jo_X9_init rfl jwM_X8_60 jwN_X9_init rfl dX8_textRead_34 (jRok_m _ _ _) rfl (jle rfl) hm18 h (fun S19 h => ?_)
  obtain ⟨hm20, h⟩ := h
  exact jx_aret (o := (some q16)) dX8_textRead_37 rfl hm20.1 hm20.2 ⟨_, rfl, h⟩
/-- X8_step at its loop's head 35 -/
abbrev L_X8_step_35 (E : jEnv) (d : Nat) (Q : jM → Prop) (a0 : Nat) (x1 : Int32) (x2 : Int32) (S : jM) : Prop := jX E mX8_step (jRm (d + 1) 0 0) (jZm E (fun r S' => r = none ∧ Q S') 0 0) 35 [(0, .ref a0), (1, .int x1), (2, .int x2)] [] S 0 0
/-- X8_step at its loop's head 129 -/
abbrev L_X8_step_129 (E : jEnv) (d : Nat) (Q : jM → Prop) (a0 : Nat) (S : jM) : Prop := jX E mX8_step (jRm (d + 1) 0 0) (jZm E (fun r S' => r = none ∧ Q S') 0 0) 129 [(0, .ref a0)] [] S 0 0
set_option maxRecDepth 100000 in
set_option maxHeartbeats 4000000 in
theorem T_X8_step {E : jEnv} {d : Nat} {Q : jM → Prop} {a0 : Nat} {S : jM} (h : jk S a0 = 8 ∧ ((ji S a0 4) = 1 → L_X8_step_35 E d Q a0 1 (ji S a0 3) (jput S a0 2 (ji S a0 3))) ∧ (¬ (ji S a0 4) = 1 → ((ji S a0 4) = 2 → L_X8_step_35 E d Q a0 1 (ji S a0 3) (jput S a0 2 (ji S a0 3))) ∧ (¬ (ji S a0 4) = 2 → L_X8_step_35 E d Q a0 0 (ji S a0 3) (jput S a0 2 (ji S a0 3))))) : jFv E mX8_step (d + 1) 0 0 [.ref a0] S Q := by
  refine jF_of (by decide) (jle rfl) ?_
  refine jx_lv (lv1 := [(0, .ref a0)]) [0] rfl ?_
  refine jx_aload_n 0 dX8_step_0 rfl rfl ?_
  obtain ⟨hk1, h⟩ := h
  refine jx_geti jc_8 (j := 4) (by decide) rfl jwF_X8_29 dX8_step_1 hk1 ?_
  refine jx_iconst (v := 1) dX8_step_4 (by decide) ?_
  refine jx_icmp_eq (tgt := 16) dX8_step_5 (by decide) (fun c2 => ?_) (fun c2 => ?_)
  · replace h := h.1 c2
    refine jx_iconst (v := 1) dX8_step_16 (by decide) ?_
    refine jx_goto (tgt := 21) dX8_step_17 (by decide) ?_
    refine jx_istore_n (lv1 := [(1, .int 1), (0, .ref a0)]) dX8_step_21 rfl (by decide) rfl ?_
    refine jx_aload_n 1 dX8_step_22 rfl rfl ?_
    refine jx_geti jc_8 (j := 3) (by decide) rfl jwF_X8_26 dX8_step_23 hk1 ?_
    refine jx_istore_n (lv1 := [(2, .int (ji S a0 3)), (1, .int 1), (0, .ref a0)]) dX8_step_26 rfl (by decide) rfl ?_
    refine jx_aload_n 2 dX8_step_27 rfl rfl ?_
    refine jx_aload_n 2 dX8_step_28 rfl rfl ?_
    refine jx_geti jc_8 (j := 3) (by decide) rfl jwF_X8_26 dX8_step_29 hk1 ?_
    refine jx_puti jc_8 (j := 2) (by decide) rfl jwF_X8_63 rfl rfl rfl dX8_step_32 hk1 ?_
    exact jx_lv [2, 1, 0] rfl h
  replace h := h.2 c2
  refine jx_aload_n 0 dX8_step_8 rfl rfl ?_
  refine jx_geti jc_8 (j := 4) (by decide) rfl jwF_X8_29 dX8_step_9 hk1 ?_
  refine jx_iconst (v := 2) dX8_step_12 (by decide) ?_
  refine jx_icmp_ne (tgt := 20) dX8_step_13 (by decide) (fun c3 => ?_) (fun c3 => ?_)
  · replace h := h.2 c3
    refine jx_iconst (v := 0) dX8_step_20 (by decide) ?_
    refine jx_istore_n (lv1 := [(1, .int 0), (0, .ref a0)]) dX8_step_21 rfl (by decide) rfl ?_
    refine jx_aload_n 1 dX8_step_22 rfl rfl ?_
    refine jx_geti jc_8 (j := 3) (by decide) rfl jwF_X8_26 dX8_step_23 hk1 ?_
    refine jx_istore_n (lv1 := [(2, .int (ji S a0 3)), (1, .int 0), (0, .ref a0)]) dX8_step_26 rfl (by decide) rfl ?_
    refine jx_aload_n 2 dX8_step_27 rfl rfl ?_
    refine jx_aload_n 2 dX8_step_28 rfl rfl ?_
    refine jx_geti jc_8 (j := 3) (by decide) rfl jwF_X8_26 dX8_step_29 hk1 ?_
    refine jx_puti jc_8 (j := 2) (by decide) rfl jwF_X8_63 rfl rfl rfl dX8_step_32 hk1 ?_
    exact jx_lv [2, 1, 0] rfl h
  replace h := h.1 c3
  refine jx_iconst (v := 1) dX8_step_16 (by decide) ?_
  refine jx_goto (tgt := 21) dX8_step_17 (by decide) ?_
  refine jx_istore_n (lv1 := [(1, .int 1), (0, .ref a0)]) dX8_step_21 rfl (by decide) rfl ?_
  refine jx_aload_n 1 dX8_step_22 rfl rfl ?_
  refine jx_geti jc_8 (j := 3) (by decide) rfl jwF_X8_26 dX8_step_23 hk1 ?_
  refine jx_istore_n (lv1 := [(2, .int (ji S a0 3)), (1, .int 1), (0, .ref a0)]) dX8_step_26 rfl (by decide) rfl ?_
  refine jx_aload_n 2 dX8_step_27 rfl rfl ?_
  refine jx_aload_n 2 dX8_step_28 rfl rfl ?_
  refine jx_geti jc_8 (j := 3) (by decide) rfl jwF_X8_26 dX8_step_29 hk1 ?_
  refine jx_puti jc_8 (j := 2) (by decide) rfl jwF_X8_63 rfl rfl rfl dX8_step_32 hk1 ?_
  exact jx_lv [2, 1, 0] rfl h
set_option maxRecDepth 100000 in
set_option maxHeartbeats 4000000 in
theorem T_X8_step_35 {E : jEnv} {d : Nat} {Q : jM → Prop} {a0 : Nat} {x1 : Int32} {x2 : Int32} {S : jM} (h : jk S a0 = 8 ∧ ((ji S a0 1) ≤ (ji S a0 2) → jFi E mX8_sortAt d 0 0 [.ref a0, .int (ji S a0 2)] S (fun r7 S6 => jk S6 a0 = 8 ∧ (x1 = 0 → (r7 = 0 → L_X8_step_129 E d Q a0 (jput (jput (jput S6 a0 4 r7) a0 5 0) a0 3 (ji S6 a0 2))) ∧ (¬ r7 = 0 → L_X8_step_129 E d Q a0 (jput (jput (jput S6 a0 4 r7) a0 5 0) a0 3 ((ji S6 a0 2) + 1)))) ∧ (¬ x1 = 0 → ((ji S6 a0 2) = x2 → (r7 = 0 → L_X8_step_129 E d Q a0 (jput (jput (jput S6 a0 4 r7) a0 5 1) a0 3 (ji S6 a0 2))) ∧ (¬ r7 = 0 → L_X8_step_129 E d Q a0 (jput (jput (jput S6 a0 4 r7) a0 5 1) a0 3 ((ji S6 a0 2) + 1)))) ∧ (¬ (ji S6 a0 2) = x2 → (r7 = 0 → L_X8_step_129 E d Q a0 (jput (jput (jput S6 a0 4 r7) a0 5 0) a0 3 (ji S6 a0 2))) ∧ (¬ r7 = 0 → L_X8_step_129 E d Q a0 (jput (jput (jput S6 a0 4 r7) a0 5 0) a0 3 ((ji S6 a0 2) + 1))))))) ∧ (¬ (ji S a0 1) ≤ (ji S a0 2) → jFi E mX8_byteAt d 0 0 [.ref a0, .int (ji S a0 2)] S (fun r15 S14 => (r15 = 32 → jk S14 a0 = 8 ∧ L_X8_step_35 E d Q a0 x1 x2 (jput S14 a0 2 ((ji S14 a0 2) + 1))) ∧ (¬ r15 = 32 → jk S14 a0 = 8 ∧ jFi E mX8_sortAt d 0 0 [.ref a0, .int (ji S14 a0 2)] S14 (fun r19 S18 => jk S18 a0 = 8 ∧ (x1 = 0 → (r19 = 0 → L_X8_step_129 E d Q a0 (jput (jput (jput S18 a0 4 r19) a0 5 0) a0 3 (ji S18 a0 2))) ∧ (¬ r19 = 0 → L_X8_step_129 E d Q a0 (jput (jput (jput S18 a0 4 r19) a0 5 0) a0 3 ((ji S18 a0 2) + 1)))) ∧ (¬ x1 = 0 → ((ji S18 a0 2) = x2 → (r19 = 0 → L_X8_step_129 E d Q a0 (jput (jput (jput S18 a0 4 r19) a0 5 1) a0 3 (ji S18 a0 2))) ∧ (¬ r19 = 0 → L_X8_step_129 E d Q a0 (jput (jput (jput S18 a0 4 r19) a0 5 1) a0 3 ((ji S18 a0 2) + 1)))) ∧ (¬ (ji S18 a0 2) = x2 → (r19 = 0 → L_X8_step_129 E d Q a0 (jput (jput (jput S18 a0 4 r19) a0 5 0) a0 3 (ji S18 a0 2))) ∧ (¬ r19 = 0 → L_X8_step_129 E d Q a0 (jput (jput (jput S18 a0 4 r19) a0 5 0) a0 3 ((ji S18 a0 2) + 1)))))))))) : L_X8_step_35 E d Q a0 x1 x2 S := by
  show jX E mX8_step (jRm (d + 1) 0 0) (jZm E (fun r S' => r = none ∧ Q S') 0 0) 35 [(0, .ref a0), (1, .int x1), (2, .int x2)] [] S 0 0
  refine jx_aload_n 0 dX8_step_35 rfl rfl ?_
  obtain ⟨hk4, h⟩ := h
  refine jx_geti jc_8 (j := 2) (by decide) rfl jwF_X8_63 dX8_step_36 hk4 ?_
  refine jx_aload_n 0 dX8_step_39 rfl rfl ?_
  refine jx_geti jc_8 (j := 1) (by decide) rfl jwF_X8_18 dX8_step_40 hk4 ?_
  refine jx_icmp_ge (tgt := 72) dX8_step_43 (by decide) (fun c5 => ?_) (fun c5 => ?_)
  · replace h := h.1 c5
    refine jx_aload_n 0 dX8_step_72 rfl rfl ?_
    refine jx_aload_n 0 dX8_step_73 rfl rfl ?_
    refine jx_aload_n 0 dX8_step_74 rfl rfl ?_
    refine jx_geti jc_8 (j := 2) (by decide) rfl jwF_X8_63 dX8_step_75 hk4 ?_
    refine jx_callVi (M' := mX8_sortAt) (As := [.int (ji S a0 2)]) jo_X8_sortAt jc_8 rfl jwM_X8_70 jwN_X8_sortAt jwX_X8_sortAt dX8_step_78 (jRok_m _ _ _) rfl (jle rfl) ⟨jle rfl, jle rfl⟩ hk4 h (fun r7 S6 h => ?_)
    obtain ⟨hk8, h⟩ := h
    refine jx_puti jc_8 (j := 4) (by decide) rfl jwF_X8_29 rfl rfl rfl dX8_step_81 hk8 ?_
    refine jx_aload_n 0 dX8_step_84 rfl rfl ?_
    refine jx_iload_n 1 dX8_step_85 rfl rfl ?_
    refine jx_if_eq (tgt := 101) dX8_step_86 (by decide) (fun c9 => ?_) (fun c9 => ?_)
    · replace h := h.1 c9
      refine jx_iconst (v := 0) dX8_step_101 (by decide) ?_
      refine jx_puti jc_8 (j := 5) (by decide) rfl jwF_X8_73 rfl (by decide) (by decide) dX8_step_102 hk8 ?_
      refine jx_aload_n 0 dX8_step_105 rfl rfl ?_
      refine jx_aload_n 0 dX8_step_106 rfl rfl ?_
      refine jx_geti jc_8 (j := 4) (by decide) rfl jwF_X8_29 dX8_step_107 hk8 ?_
      refine jx_topi (y := r7) (by simp [ji_put, ji_row, ji_putr]) ?_
      refine jx_if_ne (tgt := 120) dX8_step_110 (by decide) (fun c10 => ?_) (fun c10 => ?_)
      · replace h := h.2 c10
        refine jx_aload_n 0 dX8_step_120 rfl rfl ?_
        refine jx_geti jc_8 (j := 2) (by decide) rfl jwF_X8_63 dX8_step_121 hk8 ?_
        refine jx_topi (y := (ji S6 a0 2)) (by simp [ji_put, ji_row, ji_putr]) ?_
        refine jx_iconst (v := 1) dX8_step_124 (by decide) ?_
        refine jx_iadd dX8_step_125 ?_
        refine jx_puti jc_8 (j := 3) (by decide) rfl jwF_X8_26 rfl rfl rfl dX8_step_126 hk8 ?_
        exact jx_lv [0] rfl h
      replace h := h.1 c10
      refine jx_aload_n 0 dX8_step_113 rfl rfl ?_
      refine jx_geti jc_8 (j := 2) (by decide) rfl jwF_X8_63 dX8_step_114 hk8 ?_
      refine jx_topi (y := (ji S6 a0 2)) (by simp [ji_put, ji_row, ji_putr]) ?_
      refine jx_goto (tgt := 126) dX8_step_117 (by decide) ?_
      refine jx_puti jc_8 (j := 3) (by decide) rfl jwF_X8_26 rfl rfl rfl dX8_step_126 hk8 ?_
      exact jx_lv [0] rfl h
    replace h := h.2 c9
    refine jx_aload_n 0 dX8_step_89 rfl rfl ?_
    refine jx_geti jc_8 (j := 2) (by decide) rfl jwF_X8_63 dX8_step_90 hk8 ?_
    refine jx_topi (y := (ji S6 a0 2)) (by simp [ji_put, ji_row, ji_putr]) ?_
    refine jx_iload_n 2 dX8_step_93 rfl rfl ?_
    refine jx_icmp_ne (tgt := 101) dX8_step_94 (by decide) (fun c11 => ?_) (fun c11 => ?_)
    · replace h := h.2 c11
      refine jx_iconst (v := 0) dX8_step_101 (by decide) ?_
      refine jx_puti jc_8 (j := 5) (by decide) rfl jwF_X8_73 rfl (by decide) (by decide) dX8_step_102 hk8 ?_
      refine jx_aload_n 0 dX8_step_105 rfl rfl ?_
      refine jx_aload_n 0 dX8_step_106 rfl rfl ?_
      refine jx_geti jc_8 (j := 4) (by decide) rfl jwF_X8_29 dX8_step_107 hk8 ?_
      refine jx_topi (y := r7) (by simp [ji_put, ji_row, ji_putr]) ?_
      refine jx_if_ne (tgt := 120) dX8_step_110 (by decide) (fun c12 => ?_) (fun c12 => ?_)
      · replace h := h.2 c12
        refine jx_aload_n 0 dX8_step_120 rfl rfl ?_
        refine jx_geti jc_8 (j := 2) (by decide) rfl jwF_X8_63 dX8_step_121 hk8 ?_
        refine jx_topi (y := (ji S6 a0 2)) (by simp [ji_put, ji_row, ji_putr]) ?_
        refine jx_iconst (v := 1) dX8_step_124 (by decide) ?_
        refine jx_iadd dX8_step_125 ?_
        refine jx_puti jc_8 (j := 3) (by decide) rfl jwF_X8_26 rfl rfl rfl dX8_step_126 hk8 ?_
        exact jx_lv [0] rfl h
      replace h := h.1 c12
      refine jx_aload_n 0 dX8_step_113 rfl rfl ?_
      refine jx_geti jc_8 (j := 2) (by decide) rfl jwF_X8_63 dX8_step_114 hk8 ?_
      refine jx_topi (y := (ji S6 a0 2)) (by simp [ji_put, ji_row, ji_putr]) ?_
      refine jx_goto (tgt := 126) dX8_step_117 (by decide) ?_
      refine jx_puti jc_8 (j := 3) (by decide) rfl jwF_X8_26 rfl rfl rfl dX8_step_126 hk8 ?_
      exact jx_lv [0] rfl h
    replace h := h.1 c11
    refine jx_iconst (v := 1) dX8_step_97 (by decide) ?_
    refine jx_goto (tgt := 102) dX8_step_98 (by decide) ?_
    refine jx_puti jc_8 (j := 5) (by decide) rfl jwF_X8_73 rfl (by decide) (by decide) dX8_step_102 hk8 ?_
    refine jx_aload_n 0 dX8_step_105 rfl rfl ?_
    refine jx_aload_n 0 dX8_step_106 rfl rfl ?_
    refine jx_geti jc_8 (j := 4) (by decide) rfl jwF_X8_29 dX8_step_107 hk8 ?_
    refine jx_topi (y := r7) (by simp [ji_put, ji_row, ji_putr]) ?_
    refine jx_if_ne (tgt := 120) dX8_step_110 (by decide) (fun c13 => ?_) (fun c13 => ?_)
    · replace h := h.2 c13
      refine jx_aload_n 0 dX8_step_120 rfl rfl ?_
      refine jx_geti jc_8 (j := 2) (by decide) rfl jwF_X8_63 dX8_step_121 hk8 ?_
      refine jx_topi (y := (ji S6 a0 2)) (by simp [ji_put, ji_row, ji_putr]) ?_
      refine jx_iconst (v := 1) dX8_step_124 (by decide) ?_
      refine jx_iadd dX8_step_125 ?_
      refine jx_puti jc_8 (j := 3) (by decide) rfl jwF_X8_26 rfl rfl rfl dX8_step_126 hk8 ?_
      exact jx_lv [0] rfl h
    replace h := h.1 c13
    refine jx_aload_n 0 dX8_step_113 rfl rfl ?_
    refine jx_geti jc_8 (j := 2) (by decide) rfl jwF_X8_63 dX8_step_114 hk8 ?_
    refine jx_topi (y := (ji S6 a0 2)) (by simp [ji_put, ji_row, ji_putr]) ?_
    refine jx_goto (tgt := 126) dX8_step_117 (by decide) ?_
    refine jx_puti jc_8 (j := 3) (by decide) rfl jwF_X8_26 rfl rfl rfl dX8_step_126 hk8 ?_
    exact jx_lv [0] rfl h
  replace h := h.2 c5
  refine jx_aload_n 0 dX8_step_46 rfl rfl ?_
  refine jx_aload_n 0 dX8_step_47 rfl rfl ?_
  refine jx_geti jc_8 (j := 2) (by decide) rfl jwF_X8_63 dX8_step_48 hk4 ?_
  refine jx_callVi (M' := mX8_byteAt) (As := [.int (ji S a0 2)]) jo_X8_byteAt jc_8 rfl jwM_X8_66 jwN_X8_byteAt jwX_X8_byteAt dX8_step_51 (jRok_m _ _ _) rfl (jle rfl) ⟨jle rfl, jle rfl⟩ hk4 h (fun r15 S14 h => ?_)
  refine jx_bipush (v := 32) dX8_step_54 (by decide) ?_
  refine jx_icmp_ne (tgt := 72) dX8_step_56 (by decide) (fun c16 => ?_) (fun c16 => ?_)
  · replace h := h.2 c16
    refine jx_aload_n 0 dX8_step_72 rfl rfl ?_
    refine jx_aload_n 0 dX8_step_73 rfl rfl ?_
    refine jx_aload_n 0 dX8_step_74 rfl rfl ?_
    obtain ⟨hk17, h⟩ := h
    refine jx_geti jc_8 (j := 2) (by decide) rfl jwF_X8_63 dX8_step_75 hk17 ?_
    refine jx_callVi (M' := mX8_sortAt) (As := [.int (ji S14 a0 2)]) jo_X8_sortAt jc_8 rfl jwM_X8_70 jwN_X8_sortAt jwX_X8_sortAt dX8_step_78 (jRok_m _ _ _) rfl (jle rfl) ⟨jle rfl, jle rfl⟩ hk17 h (fun r19 S18 h => ?_)
    obtain ⟨hk20, h⟩ := h
    refine jx_puti jc_8 (j := 4) (by decide) rfl jwF_X8_29 rfl rfl rfl dX8_step_81 hk20 ?_
    refine jx_aload_n 0 dX8_step_84 rfl rfl ?_
    refine jx_iload_n 1 dX8_step_85 rfl rfl ?_
    refine jx_if_eq (tgt := 101) dX8_step_86 (by decide) (fun c21 => ?_) (fun c21 => ?_)
    · replace h := h.1 c21
      refine jx_iconst (v := 0) dX8_step_101 (by decide) ?_
      refine jx_puti jc_8 (j := 5) (by decide) rfl jwF_X8_73 rfl (by decide) (by decide) dX8_step_102 hk20 ?_
      refine jx_aload_n 0 dX8_step_105 rfl rfl ?_
      refine jx_aload_n 0 dX8_step_106 rfl rfl ?_
      refine jx_geti jc_8 (j := 4) (by decide) rfl jwF_X8_29 dX8_step_107 hk20 ?_
      refine jx_topi (y := r19) (by simp [ji_put, ji_row, ji_putr]) ?_
      refine jx_if_ne (tgt := 120) dX8_step_110 (by decide) (fun c22 => ?_) (fun c22 => ?_)
      · replace h := h.2 c22
        refine jx_aload_n 0 dX8_step_120 rfl rfl ?_
        refine jx_geti jc_8 (j := 2) (by decide) rfl jwF_X8_63 dX8_step_121 hk20 ?_
        refine jx_topi (y := (ji S18 a0 2)) (by simp [ji_put, ji_row, ji_putr]) ?_
        refine jx_iconst (v := 1) dX8_step_124 (by decide) ?_
        refine jx_iadd dX8_step_125 ?_
        refine jx_puti jc_8 (j := 3) (by decide) rfl jwF_X8_26 rfl rfl rfl dX8_step_126 hk20 ?_
        exact jx_lv [0] rfl h
      replace h := h.1 c22
      refine jx_aload_n 0 dX8_step_113 rfl rfl ?_
      refine jx_geti jc_8 (j := 2) (by decide) rfl jwF_X8_63 dX8_step_114 hk20 ?_
      refine jx_topi (y := (ji S18 a0 2)) (by simp [ji_put, ji_row, ji_putr]) ?_
      refine jx_goto (tgt := 126) dX8_step_117 (by decide) ?_
      refine jx_puti jc_8 (j := 3) (by decide) rfl jwF_X8_26 rfl rfl rfl dX8_step_126 hk20 ?_
      exact jx_lv [0] rfl h
    replace h := h.2 c21
    refine jx_aload_n 0 dX8_step_89 rfl rfl ?_
    refine jx_geti jc_8 (j := 2) (by decide) rfl jwF_X8_63 dX8_step_90 hk20 ?_
    refine jx_topi (y := (ji S18 a0 2)) (by simp [ji_put, ji_row, ji_putr]) ?_
    refine jx_iload_n 2 dX8_step_93 rfl rfl ?_
    refine jx_icmp_ne (tgt := 101) dX8_step_94 (by decide) (fun c23 => ?_) (fun c23 => ?_)
    · replace h := h.2 c23
      refine jx_iconst (v := 0) dX8_step_101 (by decide) ?_
      refine jx_puti jc_8 (j := 5) (by decide) rfl jwF_X8_73 rfl (by decide) (by decide) dX8_step_102 hk20 ?_
      refine jx_aload_n 0 dX8_step_105 rfl rfl ?_
      refine jx_aload_n 0 dX8_step_106 rfl rfl ?_
      refine jx_geti jc_8 (j := 4) (by decide) rfl jwF_X8_29 dX8_step_107 hk20 ?_
      refine jx_topi (y := r19) (by simp [ji_put, ji_row, ji_putr]) ?_
      refine jx_if_ne (tgt := 120) dX8_step_110 (by decide) (fun c24 => ?_) (fun c24 => ?_)
      · replace h := h.2 c24
        refine jx_aload_n 0 dX8_step_120 rfl rfl ?_
        refine jx_geti jc_8 (j := 2) (by decide) rfl jwF_X8_63 dX8_step_121 hk20 ?_
        refine jx_topi (y := (ji S18 a0 2)) (by simp [ji_put, ji_row, ji_putr]) ?_
        refine jx_iconst (v := 1) dX8_step_124 (by decide) ?_
        refine jx_iadd dX8_step_125 ?_
        refine jx_puti jc_8 (j := 3) (by decide) rfl jwF_X8_26 rfl rfl rfl dX8_step_126 hk20 ?_
        exact jx_lv [0] rfl h
      replace h := h.1 c24
      refine jx_aload_n 0 dX8_step_113 rfl rfl ?_
      refine jx_geti jc_8 (j := 2) (by decide) rfl jwF_X8_63 dX8_step_114 hk20 ?_
      refine jx_topi (y := (ji S18 a0 2)) (by simp [ji_put, ji_row, ji_putr]) ?_
      refine jx_goto (tgt := 126) dX8_step_117 (by decide) ?_
      refine jx_puti jc_8 (j := 3) (by decide) rfl jwF_X8_26 rfl rfl rfl dX8_step_126 hk20 ?_
      exact jx_lv [0] rfl h
    replace h := h.1 c23
    refine jx_iconst (v := 1) dX8_step_97 (by decide) ?_
    refine jx_goto (tgt := 102) dX8_step_98 (by decide) ?_
    refine jx_puti jc_8 (j := 5) (by decide) rfl jwF_X8_73 rfl (by decide) (by decide) dX8_step_102 hk20 ?_
    refine jx_aload_n 0 dX8_step_105 rfl rfl ?_
    refine jx_aload_n 0 dX8_step_106 rfl rfl ?_
    refine jx_geti jc_8 (j := 4) (by decide) rfl jwF_X8_29 dX8_step_107 hk20 ?_
    refine jx_topi (y := r19) (by simp [ji_put, ji_row, ji_putr]) ?_
    refine jx_if_ne (tgt := 120) dX8_step_110 (by decide) (fun c25 => ?_) (fun c25 => ?_)
    · replace h := h.2 c25
      refine jx_aload_n 0 dX8_step_120 rfl rfl ?_
      refine jx_geti jc_8 (j := 2) (by decide) rfl jwF_X8_63 dX8_step_121 hk20 ?_
      refine jx_topi (y := (ji S18 a0 2)) (by simp [ji_put, ji_row, ji_putr]) ?_
      refine jx_iconst (v := 1) dX8_step_124 (by decide) ?_
      refine jx_iadd dX8_step_125 ?_
      refine jx_puti jc_8 (j := 3) (by decide) rfl jwF_X8_26 rfl rfl rfl dX8_step_126 hk20 ?_
      exact jx_lv [0] rfl h
    replace h := h.1 c25
    refine jx_aload_n 0 dX8_step_113 rfl rfl ?_
    refine jx_geti jc_8 (j := 2) (by decide) rfl jwF_X8_63 dX8_step_114 hk20 ?_
    refine jx_topi (y := (ji S18 a0 2)) (by simp [ji_put, ji_row, ji_putr]) ?_
    refine jx_goto (tgt := 126) dX8_step_117 (by decide) ?_
    refine jx_puti jc_8 (j := 3) (by decide) rfl jwF_X8_26 rfl rfl rfl dX8_step_126 hk20 ?_
    exact jx_lv [0] rfl h
  replace h := h.1 c16
  refine jx_aload_n 0 dX8_step_59 rfl rfl ?_
  refine jx_dup dX8_step_60 rfl ?_
  obtain ⟨hk26, h⟩ := h
  refine jx_geti jc_8 (j := 2) (by decide) rfl jwF_X8_63 dX8_step_61 hk26 ?_
  refine jx_iconst (v := 1) dX8_step_64 (by decide) ?_
  refine jx_iadd dX8_step_65 ?_
  refine jx_puti jc_8 (j := 2) (by decide) rfl jwF_X8_63 rfl rfl rfl dX8_step_66 hk26 ?_
  refine jx_goto (tgt := 35) kd33.1 (by decide) ?_
  exact jx_lv [0, 1, 2] rfl h
set_option maxRecDepth 100000 in
set_option maxHeartbeats 4000000 in
theorem T_X8_step_129 {E : jEnv} {d : Nat} {Q : jM → Prop} {a0 : Nat} {S : jM} (h : jk S a0 = 8 ∧ ((ji S a0 1) ≤ (ji S a0 3) → Q S) ∧ (¬ (ji S a0 1) ≤ (ji S a0 3) → ((ji S a0 4) = 3 → Q S) ∧ (¬ (ji S a0 4) = 3 → jFi E mX8_sortAt d 0 0 [.ref a0, .int (ji S a0 3)] S (fun r31 S30 => jk S30 a0 = 8 ∧ (r31 = (ji S30 a0 4) → L_X8_step_129 E d Q a0 (jput S30 a0 3 ((ji S30 a0 3) + 1))) ∧ (¬ r31 = (ji S30 a0 4) → Q S30))))) : L_X8_step_129 E d Q a0 S := by
  show jX E mX8_step (jRm (d + 1) 0 0) (jZm E (fun r S' => r = none ∧ Q S') 0 0) 129 [(0, .ref a0)] [] S 0 0
  refine jx_aload_n 0 dX8_step_129 rfl rfl ?_
  obtain ⟨hk27, h⟩ := h
  refine jx_geti jc_8 (j := 3) (by decide) rfl jwF_X8_26 dX8_step_130 hk27 ?_
  refine jx_aload_n 0 dX8_step_133 rfl rfl ?_
  refine jx_geti jc_8 (j := 1) (by decide) rfl jwF_X8_18 dX8_step_134 hk27 ?_
  refine jx_icmp_ge (tgt := 176) dX8_step_137 (by decide) (fun c28 => ?_) (fun c28 => ?_)
  · replace h := h.1 c28
    exact jx_vret dX8_step_176 rfl (jle rfl) (jle rfl) ⟨rfl, h⟩
  replace h := h.2 c28
  refine jx_aload_n 0 dX8_step_140 rfl rfl ?_
  refine jx_geti jc_8 (j := 4) (by decide) rfl jwF_X8_29 dX8_step_141 hk27 ?_
  refine jx_iconst (v := 3) dX8_step_144 (by decide) ?_
  refine jx_icmp_eq (tgt := 176) dX8_step_145 (by decide) (fun c29 => ?_) (fun c29 => ?_)
  · replace h := h.1 c29
    exact jx_vret dX8_step_176 rfl (jle rfl) (jle rfl) ⟨rfl, h⟩
  replace h := h.2 c29
  refine jx_aload_n 0 dX8_step_148 rfl rfl ?_
  refine jx_aload_n 0 dX8_step_149 rfl rfl ?_
  refine jx_geti jc_8 (j := 3) (by decide) rfl jwF_X8_26 dX8_step_150 hk27 ?_
  refine jx_callVi (M' := mX8_sortAt) (As := [.int (ji S a0 3)]) jo_X8_sortAt jc_8 rfl jwM_X8_70 jwN_X8_sortAt jwX_X8_sortAt dX8_step_153 (jRok_m _ _ _) rfl (jle rfl) ⟨jle rfl, jle rfl⟩ hk27 h (fun r31 S30 h => ?_)
  refine jx_aload_n 0 dX8_step_156 rfl rfl ?_
  obtain ⟨hk32, h⟩ := h
  refine jx_geti jc_8 (j := 4) (by decide) rfl jwF_X8_29 dX8_step_157 hk32 ?_
  refine jx_icmp_ne (tgt := 176) dX8_step_160 (by decide) (fun c33 => ?_) (fun c33 => ?_)
  · replace h := h.2 c33
    exact jx_vret dX8_step_176 rfl (jle rfl) (jle rfl) ⟨rfl, h⟩
  replace h := h.1 c33
  refine jx_aload_n 0 dX8_step_163 rfl rfl ?_
  refine jx_dup dX8_step_164 rfl ?_
  refine jx_geti jc_8 (j := 3) (by decide) rfl jwF_X8_26 dX8_step_165 hk32 ?_
  refine jx_iconst (v := 1) dX8_step_168 (by decide) ?_
  refine jx_iadd dX8_step_169 ?_
  refine jx_puti jc_8 (j := 3) (by decide) rfl jwF_X8_26 rfl rfl rfl dX8_step_170 hk32 ?_
  refine jx_goto (tgt := 129) kd33.2 (by decide) ?_
  exact jx_lv [0] rfl h
set_option maxRecDepth 100000 in
set_option maxHeartbeats 4000000 in
theorem T_X8_byteAt {E : jEnv} {d : Nat} {Q : Int32 → jM → Prop} {a0 : Nat} {x1 : Int32} {S : jM} (h : (x1 < 0 → Q 0 S) ∧ (¬ x1 < 0 → jk S a0 = 8 ∧ ((ji S a0 1) ≤ x1 → Q 0 S) ∧ (¬ (ji S a0 1) ≤ x1 → (96 ≤ x1 → Q 0 S) ∧ (¬ 96 ≤ x1 → ∃ b5, jr S a0 0 = some b5 ∧ (jk S b5 = 12 ∧ vp_in x1 (jl S b5) ∧ (Q (ji S b5 (Int32.toNatClampNeg x1)) S)))))) : jFi E mX8_byteAt d 0 0 [.ref a0, .int x1] S Q := by
  refine jF_of (by decide) (jle rfl) ?_
  refine jx_lv (lv1 := [(0, .ref a0), (1, .int x1)]) [0, 1] rfl ?_
  refine jx_iload_n 1 dX8_byteAt_0 rfl rfl ?_
  refine jx_if_lt (tgt := 27) dX8_byteAt_1 (by decide) (fun c1 => ?_) (fun c1 => ?_)
  · replace h := h.1 c1
    refine jx_iconst (v := 0) dX8_byteAt_27 (by decide) ?_
    exact jx_iret dX8_byteAt_28 rfl rfl (jle rfl) (jle rfl) ⟨_, rfl, h⟩
  replace h := h.2 c1
  refine jx_iload_n 1 dX8_byteAt_4 rfl rfl ?_
  refine jx_aload_n 0 dX8_byteAt_5 rfl rfl ?_
  obtain ⟨hk2, h⟩ := h
  refine jx_geti jc_8 (j := 1) (by decide) rfl jwF_X8_18 dX8_byteAt_6 hk2 ?_
  refine jx_icmp_ge (tgt := 27) dX8_byteAt_9 (by decide) (fun c3 => ?_) (fun c3 => ?_)
  · replace h := h.1 c3
    refine jx_iconst (v := 0) dX8_byteAt_27 (by decide) ?_
    exact jx_iret dX8_byteAt_28 rfl rfl (jle rfl) (jle rfl) ⟨_, rfl, h⟩
  replace h := h.2 c3
  refine jx_iload_n 1 dX8_byteAt_12 rfl rfl ?_
  refine jx_bipush (v := 96) dX8_byteAt_13 (by decide) ?_
  refine jx_icmp_ge (tgt := 27) dX8_byteAt_15 (by decide) (fun c4 => ?_) (fun c4 => ?_)
  · replace h := h.1 c4
    refine jx_iconst (v := 0) dX8_byteAt_27 (by decide) ?_
    exact jx_iret dX8_byteAt_28 rfl rfl (jle rfl) (jle rfl) ⟨_, rfl, h⟩
  replace h := h.2 c4
  refine jx_aload_n 0 dX8_byteAt_18 rfl rfl ?_
  obtain ⟨b5, hb5, h⟩ := h
  refine jx_getr jc_8 (j := 0) (by decide) rfl jwF_X8_9 dX8_byteAt_19 hk2 hb5 ?_
  refine jx_iload_n 1 dX8_byteAt_22 rfl rfl ?_
  obtain ⟨hk6, h⟩ := h
  obtain ⟨hi7, h⟩ := h
  refine jx_iald dX8_byteAt_23 hk6 hi7 ?_
  refine jx_goto (tgt := 28) dX8_byteAt_24 (by decide) ?_
  exact jx_iret dX8_byteAt_28 rfl rfl (jle rfl) (jle rfl) ⟨_, rfl, h⟩
set_option maxRecDepth 100000 in
set_option maxHeartbeats 4000000 in
theorem T_X8_sortAt {E : jEnv} {d : Nat} {Q : Int32 → jM → Prop} {a0 : Nat} {x1 : Int32} {S : jM} (h : jk S a0 = 8 ∧ (x1 < (ji S a0 1) → jFi E mX8_byteAt d 0 0 [.ref a0, .int x1] S (fun r4 S3 => (r4 < 97 → (r4 < 48 → Q 3 S3) ∧ (¬ r4 < 48 → (57 < r4 → Q 3 S3) ∧ (¬ 57 < r4 → Q 2 S3))) ∧ (¬ r4 < 97 → (122 < r4 → (r4 < 48 → Q 3 S3) ∧ (¬ r4 < 48 → (57 < r4 → Q 3 S3) ∧ (¬ 57 < r4 → Q 2 S3))) ∧ (¬ 122 < r4 → Q 1 S3)))) ∧ (¬ x1 < (ji S a0 1) → Q 0 S)) : jFi E mX8_sortAt (d + 1) 0 0 [.ref a0, .int x1] S Q := by
  refine jF_of (by decide) (jle rfl) ?_
  refine jx_lv (lv1 := [(0, .ref a0), (1, .int x1)]) [0, 1] rfl ?_
  refine jx_iload_n 1 dX8_sortAt_0 rfl rfl ?_
  refine jx_aload_n 0 dX8_sortAt_1 rfl rfl ?_
  obtain ⟨hk1, h⟩ := h
  refine jx_geti jc_8 (j := 1) (by decide) rfl jwF_X8_18 dX8_sortAt_2 hk1 ?_
  refine jx_icmp_lt (tgt := 10) dX8_sortAt_5 (by decide) (fun c2 => ?_) (fun c2 => ?_)
  · replace h := h.1 c2
    refine jx_aload_n 0 dX8_sortAt_10 rfl rfl ?_
    refine jx_iload_n 1 dX8_sortAt_11 rfl rfl ?_
    refine jx_callVi (M' := mX8_byteAt) (As := [.int x1]) jo_X8_byteAt jc_8 rfl jwM_X8_66 jwN_X8_byteAt jwX_X8_byteAt dX8_sortAt_12 (jRok_m _ _ _) rfl (jle rfl) ⟨jle rfl, jle rfl⟩ hk1 h (fun r4 S3 h => ?_)
    refine jx_istore_n (lv1 := [(2, .int r4), (0, .ref a0), (1, .int x1)]) dX8_sortAt_15 rfl (by decide) rfl ?_
    refine jx_iload_n 0 dX8_sortAt_16 rfl rfl ?_
    refine jx_bipush (v := 97) dX8_sortAt_17 (by decide) ?_
    refine jx_icmp_lt (tgt := 30) dX8_sortAt_19 (by decide) (fun c5 => ?_) (fun c5 => ?_)
    · replace h := h.1 c5
      refine jx_iload_n 0 dX8_sortAt_30 rfl rfl ?_
      refine jx_bipush (v := 48) dX8_sortAt_31 (by decide) ?_
      refine jx_icmp_lt (tgt := 46) dX8_sortAt_33 (by decide) (fun c6 => ?_) (fun c6 => ?_)
      · replace h := h.1 c6
        refine jx_iconst (v := 3) dX8_sortAt_46 (by decide) ?_
        exact jx_iret dX8_sortAt_47 rfl rfl (jle rfl) (jle rfl) ⟨_, rfl, h⟩
      replace h := h.2 c6
      refine jx_iload_n 0 dX8_sortAt_36 rfl rfl ?_
      refine jx_bipush (v := 57) dX8_sortAt_37 (by decide) ?_
      refine jx_icmp_gt (tgt := 46) dX8_sortAt_39 (by decide) (fun c7 => ?_) (fun c7 => ?_)
      · replace h := h.1 c7
        refine jx_iconst (v := 3) dX8_sortAt_46 (by decide) ?_
        exact jx_iret dX8_sortAt_47 rfl rfl (jle rfl) (jle rfl) ⟨_, rfl, h⟩
      replace h := h.2 c7
      refine jx_iconst (v := 2) dX8_sortAt_42 (by decide) ?_
      refine jx_goto (tgt := 47) dX8_sortAt_43 (by decide) ?_
      exact jx_iret dX8_sortAt_47 rfl rfl (jle rfl) (jle rfl) ⟨_, rfl, h⟩
    replace h := h.2 c5
    refine jx_iload_n 0 dX8_sortAt_22 rfl rfl ?_
    refine jx_bipush (v := 122) dX8_sortAt_23 (by decide) ?_
    refine jx_icmp_gt (tgt := 30) dX8_sortAt_25 (by decide) (fun c8 => ?_) (fun c8 => ?_)
    · replace h := h.1 c8
      refine jx_iload_n 0 dX8_sortAt_30 rfl rfl ?_
      refine jx_bipush (v := 48) dX8_sortAt_31 (by decide) ?_
      refine jx_icmp_lt (tgt := 46) dX8_sortAt_33 (by decide) (fun c9 => ?_) (fun c9 => ?_)
      · replace h := h.1 c9
        refine jx_iconst (v := 3) dX8_sortAt_46 (by decide) ?_
        exact jx_iret dX8_sortAt_47 rfl rfl (jle rfl) (jle rfl) ⟨_, rfl, h⟩
      replace h := h.2 c9
      refine jx_iload_n 0 dX8_sortAt_36 rfl rfl ?_
      refine jx_bipush (v := 57) dX8_sortAt_37 (by decide) ?_
      refine jx_icmp_gt (tgt := 46) dX8_sortAt_39 (by decide) (fun c10 => ?_) (fun c10 => ?_)
      · replace h := h.1 c10
        refine jx_iconst (v := 3) dX8_sortAt_46 (by decide) ?_
        exact jx_iret dX8_sortAt_47 rfl rfl (jle rfl) (jle rfl) ⟨_, rfl, h⟩
      replace h := h.2 c10
      refine jx_iconst (v := 2) dX8_sortAt_42 (by decide) ?_
      refine jx_goto (tgt := 47) dX8_sortAt_43 (by decide) ?_
      exact jx_iret dX8_sortAt_47 rfl rfl (jle rfl) (jle rfl) ⟨_, rfl, h⟩
    replace h := h.2 c8
    refine jx_iconst (v := 1) dX8_sortAt_28 (by decide) ?_
    exact jx_iret dX8_sortAt_29 rfl rfl (jle rfl) (jle rfl) ⟨_, rfl, h⟩
  replace h := h.2 c2
  refine jx_iconst (v := 0) dX8_sortAt_8 (by decide) ?_
  exact jx_iret dX8_sortAt_9 rfl rfl (jle rfl) (jle rfl) ⟨_, rfl, h⟩
set_option maxRecDepth 100000 in
set_option maxHeartbeats 4000000 in
theorem T_X8_isInHand {E : jEnv} {d : Nat} {Q : Int32 → jM → Prop} {a0 : Nat} {x1 : Int32} {S : jM} (h : jk S a0 = 8 ∧ ((ji S a0 4) = 3 → jFi E mX8_byteAt d 0 0 [.ref a0, .int (ji S a0 2)] S (fun r4 S3 => (r4 = x1 → Q 1 S3) ∧ (¬ r4 = x1 → Q 0 S3))) ∧ (¬ (ji S a0 4) = 3 → Q 0 S)) : jFi E mX8_isInHand (d + 1) 0 0 [.ref a0, .int x1] S Q := by
  refine jF_of (by decide) (jle rfl) ?_
  refine jx_lv (lv1 := [(0, .ref a0), (1, .int x1)]) [0, 1] rfl ?_
  refine jx_aload_n 0 dX8_isInHand_0 rfl rfl ?_
  obtain ⟨hk1, h⟩ := h
  refine jx_geti jc_8 (j := 4) (by decide) rfl jwF_X8_29 dX8_isInHand_1 hk1 ?_
  refine jx_iconst (v := 3) dX8_isInHand_4 (by decide) ?_
  refine jx_icmp_ne (tgt := 24) dX8_isInHand_5 (by decide) (fun c2 => ?_) (fun c2 => ?_)
  · replace h := h.2 c2
    refine jx_iconst (v := 0) dX8_isInHand_24 (by decide) ?_
    exact jx_iret dX8_isInHand_25 rfl (by decide) (jle rfl) (jle rfl) ⟨_, rfl, h⟩
  replace h := h.1 c2
  refine jx_aload_n 0 dX8_isInHand_8 rfl rfl ?_
  refine jx_aload_n 0 dX8_isInHand_9 rfl rfl ?_
  refine jx_geti jc_8 (j := 2) (by decide) rfl jwF_X8_63 dX8_isInHand_10 hk1 ?_
  refine jx_callVi (M' := mX8_byteAt) (As := [.int (ji S a0 2)]) jo_X8_byteAt jc_8 rfl jwM_X8_66 jwN_X8_byteAt jwX_X8_byteAt dX8_isInHand_13 (jRok_m _ _ _) rfl (jle rfl) ⟨jle rfl, jle rfl⟩ hk1 h (fun r4 S3 h => ?_)
  refine jx_iload_n 1 dX8_isInHand_16 rfl rfl ?_
  refine jx_icmp_ne (tgt := 24) dX8_isInHand_17 (by decide) (fun c5 => ?_) (fun c5 => ?_)
  · replace h := h.2 c5
    refine jx_iconst (v := 0) dX8_isInHand_24 (by decide) ?_
    exact jx_iret dX8_isInHand_25 rfl (by decide) (jle rfl) (jle rfl) ⟨_, rfl, h⟩
  replace h := h.1 c5
  refine jx_iconst (v := 1) dX8_isInHand_20 (by decide) ?_
  refine jx_goto (tgt := 25) dX8_isInHand_21 (by decide) ?_
  exact jx_iret dX8_isInHand_25 rfl (by decide) (jle rfl) (jle rfl) ⟨_, rfl, h⟩
/-- X8_keyInHand at its loop's head 2 -/
abbrev L_X8_keyInHand_2 (E : jEnv) (d : Nat) (Q : Int32 → jM → Prop) (a0 : Nat) (x1 : Int32) (S : jM) : Prop := jX E mX8_keyInHand (jRm (d + 1) 0 0) (jZm E (fun r S' => ∃ v : Int32, r = some (.int v) ∧ Q v S') 0 0) 2 [(0, .ref a0), (1, .int x1)] [] S 0 0
set_option maxRecDepth 100000 in
set_option maxHeartbeats 4000000 in
theorem T_X8_keyInHand {E : jEnv} {d : Nat} {Q : Int32 → jM → Prop} {a0 : Nat} {S : jM} (h : L_X8_keyInHand_2 E d Q a0 0 S) : jFi E mX8_keyInHand (d + 1) 0 0 [.ref a0] S Q := by
  refine jF_of (by decide) (jle rfl) ?_
  refine jx_lv (lv1 := [(0, .ref a0)]) [0] rfl ?_
  refine jx_iconst (v := 0) dX8_keyInHand_0 (by decide) ?_
  refine jx_istore_n (lv1 := [(1, .int 0), (0, .ref a0)]) dX8_keyInHand_1 rfl (by decide) rfl ?_
  exact jx_lv [1, 0] rfl h
set_option maxRecDepth 100000 in
set_option maxHeartbeats 4000000 in
theorem T_X8_keyInHand_2 {E : jEnv} {d : Nat} {Q : Int32 → jM → Prop} {a0 : Nat} {x1 : Int32} {S : jM} (h : (3 ≤ x1 → Q (-1) S) ∧ (¬ 3 ≤ x1 → jFr E mX8_wordOf d 0 0 [.int x1] S (fun o3 S2 => (o3 = none → jk S2 a0 = 8 ∧ jFi E mX8_isWordInHand d 0 0 [.ref a0, .null] S2 (fun r7 S6 => (r7 = 0 → L_X8_keyInHand_2 E d Q a0 (x1 + 1) S6) ∧ (¬ r7 = 0 → Q x1 S6))) ∧ (∀ b4, o3 = some b4 → jk S2 a0 = 8 ∧ jFi E mX8_isWordInHand d 0 0 [.ref a0, .ref b4] S2 (fun r11 S10 => (r11 = 0 → L_X8_keyInHand_2 E d Q a0 (x1 + 1) S10) ∧ (¬ r11 = 0 → Q x1 S10)))))) : L_X8_keyInHand_2 E d Q a0 x1 S := by
  show jX E mX8_keyInHand (jRm (d + 1) 0 0) (jZm E (fun r S' => ∃ v : Int32, r = some (.int v) ∧ Q v S') 0 0) 2 [(0, .ref a0), (1, .int x1)] [] S 0 0
  refine jx_iload_n 1 dX8_keyInHand_2 rfl rfl ?_
  refine jx_iconst (v := 3) dX8_keyInHand_3 (by decide) ?_
  refine jx_icmp_ge (tgt := 26) dX8_keyInHand_4 (by decide) (fun c1 => ?_) (fun c1 => ?_)
  · replace h := h.1 c1
    refine jx_iconst (v := (-1)) dX8_keyInHand_26 (by decide) ?_
    exact jx_iret dX8_keyInHand_27 rfl rfl (jle rfl) (jle rfl) ⟨_, rfl, h⟩
  replace h := h.2 c1
  refine jx_aload_n 0 dX8_keyInHand_7 rfl rfl ?_
  refine jx_iload_n 1 dX8_keyInHand_8 rfl rfl ?_
  refine jx_callSr (M' := mX8_wordOf) (As := [.int x1]) jo_X8_wordOf jwM_X8_77 jwS_X8_wordOf dX8_keyInHand_9 (jRok_m _ _ _) rfl (jle rfl) ⟨jle rfl, jle rfl⟩ h (fun o3 S2 h => ?_)
  rcases o3 with _ | b4
  · replace h := h.1 rfl
    obtain ⟨hk5, h⟩ := h
    refine jx_callVi (M' := mX8_isWordInHand) (As := [.null]) jo_X8_isWordInHand jc_8 rfl jwM_X8_81 jwN_X8_isWordInHand jwX_X8_isWordInHand dX8_keyInHand_12 (jRok_m _ _ _) rfl (jle rfl) ⟨jle rfl, jle rfl⟩ hk5 h (fun r7 S6 h => ?_)
    refine jx_if_eq (tgt := 20) dX8_keyInHand_15 (by decide) (fun c8 => ?_) (fun c8 => ?_)
    · replace h := h.1 c8
      refine jx_iinc 1 (v := (x1 + 1)) (lv1 := [(1, .int (x1 + 1)), (0, .ref a0)]) kd34.1 rfl rfl (by decide) rfl ?_
      refine jx_goto (tgt := 2) kd34.2 (by decide) ?_
      exact jx_lv [1, 0] rfl h
    replace h := h.2 c8
    refine jx_iload_n 1 dX8_keyInHand_18 rfl rfl ?_
    exact jx_iret dX8_keyInHand_19 rfl rfl (jle rfl) (jle rfl) ⟨_, rfl, h⟩
  replace h := h.2 b4 rfl
  obtain ⟨hk9, h⟩ := h
  refine jx_callVi (M' := mX8_isWordInHand) (As := [.ref b4]) jo_X8_isWordInHand jc_8 rfl jwM_X8_81 jwN_X8_isWordInHand jwX_X8_isWordInHand dX8_keyInHand_12 (jRok_m _ _ _) rfl (jle rfl) ⟨jle rfl, jle rfl⟩ hk9 h (fun r11 S10 h => ?_)
  refine jx_if_eq (tgt := 20) dX8_keyInHand_15 (by decide) (fun c12 => ?_) (fun c12 => ?_)
  · replace h := h.1 c12
    refine jx_iinc 1 (v := (x1 + 1)) (lv1 := [(1, .int (x1 + 1)), (0, .ref a0)]) kd34.1 rfl rfl (by decide) rfl ?_
    refine jx_goto (tgt := 2) kd34.2 (by decide) ?_
    exact jx_lv [1, 0] rfl h
  replace h := h.2 c12
  refine jx_iload_n 1 dX8_keyInHand_18 rfl rfl ?_
  exact jx_iret dX8_keyInHand_19 rfl rfl (jle rfl) (jle rfl) ⟨_, rfl, h⟩
set_option maxRecDepth 100000 in
set_option maxHeartbeats 4000000 in
theorem T_X8_levelInHand {E : jEnv} {d : Nat} {Q : Int32 → jM → Prop} {a0 : Nat} {S : jM} (h : jk S a0 = 8 ∧ ((ji S a0 4) = 3 → jFi E mX8_byteAt d 0 0 [.ref a0, .int (ji S a0 2)] S (fun r4 S3 => (r4 = 38 → Q 1 S3) ∧ (r4 = 42 → Q 4 S3) ∧ (r4 = 43 → Q 3 S3) ∧ (r4 = 45 → Q 3 S3) ∧ (r4 = 47 → Q 4 S3) ∧ (r4 = 60 → Q 2 S3) ∧ (r4 = 61 → Q 2 S3) ∧ (r4 = 62 → Q 2 S3) ∧ (r4 = 124 → Q 0 S3) ∧ (¬ r4 = 38 → ¬ r4 = 42 → ¬ r4 = 43 → ¬ r4 = 45 → ¬ r4 = 47 → ¬ r4 = 60 → ¬ r4 = 61 → ¬ r4 = 62 → ¬ r4 = 124 → Q (-1) S3))) ∧ (¬ (ji S a0 4) = 3 → Q (-1) S)) : jFi E mX8_levelInHand (d + 1) 0 0 [.ref a0] S Q := by
  refine jF_of (by decide) (jle rfl) ?_
  refine jx_lv (lv1 := [(0, .ref a0)]) [0] rfl ?_
  refine jx_aload_n 0 dX8_levelInHand_0 rfl rfl ?_
  obtain ⟨hk1, h⟩ := h
  refine jx_geti jc_8 (j := 4) (by decide) rfl jwF_X8_29 dX8_levelInHand_1 hk1 ?_
  refine jx_iconst (v := 3) dX8_levelInHand_4 (by decide) ?_
  refine jx_icmp_eq (tgt := 10) dX8_levelInHand_5 (by decide) (fun c2 => ?_) (fun c2 => ?_)
  · replace h := h.1 c2
    refine jx_aload_n 0 dX8_levelInHand_10 rfl rfl ?_
    refine jx_aload_n 0 dX8_levelInHand_11 rfl rfl ?_
    refine jx_geti jc_8 (j := 2) (by decide) rfl jwF_X8_63 dX8_levelInHand_12 hk1 ?_
    refine jx_callVi (M' := mX8_byteAt) (As := [.int (ji S a0 2)]) jo_X8_byteAt jc_8 rfl jwM_X8_66 jwN_X8_byteAt jwX_X8_byteAt dX8_levelInHand_15 (jRok_m _ _ _) rfl (jle rfl) ⟨jle rfl, jle rfl⟩ hk1 h (fun r4 S3 h => ?_)
    by_cases c5 : r4 = 38
    · replace h := h.1 c5
      refine jx_lookIn (v := 38) (tgt := 102) (off := 84) kd38 (by decide) c5 (by decide) (by decide) ?_
      refine jx_iconst (v := 1) dX8_levelInHand_102 (by decide) ?_
      exact jx_iret dX8_levelInHand_103 rfl rfl (jle rfl) (jle rfl) ⟨_, rfl, h⟩
    replace h := h.2
    by_cases c6 : r4 = 42
    · replace h := h.1 c6
      refine jx_lookIn (v := 42) (tgt := 114) (off := 96) kd38 (by decide) c6 (by decide) (by decide) ?_
      refine jx_iconst (v := 4) dX8_levelInHand_114 (by decide) ?_
      exact jx_iret dX8_levelInHand_115 rfl rfl (jle rfl) (jle rfl) ⟨_, rfl, h⟩
    replace h := h.2
    by_cases c7 : r4 = 43
    · replace h := h.1 c7
      refine jx_lookIn (v := 43) (tgt := 110) (off := 92) kd38 (by decide) c7 (by decide) (by decide) ?_
      refine jx_iconst (v := 3) dX8_levelInHand_110 (by decide) ?_
      exact jx_iret dX8_levelInHand_111 rfl rfl (jle rfl) (jle rfl) ⟨_, rfl, h⟩
    replace h := h.2
    by_cases c8 : r4 = 45
    · replace h := h.1 c8
      refine jx_lookIn (v := 45) (tgt := 112) (off := 94) kd38 (by decide) c8 (by decide) (by decide) ?_
      refine jx_iconst (v := 3) dX8_levelInHand_112 (by decide) ?_
      exact jx_iret dX8_levelInHand_113 rfl rfl (jle rfl) (jle rfl) ⟨_, rfl, h⟩
    replace h := h.2
    by_cases c9 : r4 = 47
    · replace h := h.1 c9
      refine jx_lookIn (v := 47) (tgt := 116) (off := 98) kd38 (by decide) c9 (by decide) (by decide) ?_
      refine jx_iconst (v := 4) dX8_levelInHand_116 (by decide) ?_
      exact jx_iret dX8_levelInHand_117 rfl rfl (jle rfl) (jle rfl) ⟨_, rfl, h⟩
    replace h := h.2
    by_cases c10 : r4 = 60
    · replace h := h.1 c10
      refine jx_lookIn (v := 60) (tgt := 104) (off := 86) kd38 (by decide) c10 (by decide) (by decide) ?_
      refine jx_iconst (v := 2) dX8_levelInHand_104 (by decide) ?_
      exact jx_iret dX8_levelInHand_105 rfl rfl (jle rfl) (jle rfl) ⟨_, rfl, h⟩
    replace h := h.2
    by_cases c11 : r4 = 61
    · replace h := h.1 c11
      refine jx_lookIn (v := 61) (tgt := 106) (off := 88) kd38 (by decide) c11 (by decide) (by decide) ?_
      refine jx_iconst (v := 2) dX8_levelInHand_106 (by decide) ?_
      exact jx_iret dX8_levelInHand_107 rfl rfl (jle rfl) (jle rfl) ⟨_, rfl, h⟩
    replace h := h.2
    by_cases c12 : r4 = 62
    · replace h := h.1 c12
      refine jx_lookIn (v := 62) (tgt := 108) (off := 90) kd38 (by decide) c12 (by decide) (by decide) ?_
      refine jx_iconst (v := 2) dX8_levelInHand_108 (by decide) ?_
      exact jx_iret dX8_levelInHand_109 rfl rfl (jle rfl) (jle rfl) ⟨_, rfl, h⟩
    replace h := h.2
    by_cases c13 : r4 = 124
    · replace h := h.1 c13
      refine jx_lookIn (v := 124) (tgt := 100) (off := 82) kd38 (by decide) c13 (by decide) (by decide) ?_
      refine jx_iconst (v := 0) dX8_levelInHand_100 (by decide) ?_
      exact jx_iret dX8_levelInHand_101 rfl rfl (jle rfl) (jle rfl) ⟨_, rfl, h⟩
    replace h := h.2
    replace h := h c5 c6 c7 c8 c9 c10 c11 c12 c13
    refine jx_lookD (tgt := 118) kd38 (by decide) (by simp only [List.mem_cons, List.not_mem_nil, or_false, forall_eq_or_imp, forall_eq]; exact ⟨lv_neT c5 (by decide), lv_neT c6 (by decide), lv_neT c7 (by decide), lv_neT c8 (by decide), lv_neT c9 (by decide), lv_neT c10 (by decide), lv_neT c11 (by decide), lv_neT c12 (by decide), lv_neT c13 (by decide)⟩) (by decide) ?_
    refine jx_iconst (v := (-1)) dX8_levelInHand_118 (by decide) ?_
    exact jx_iret dX8_levelInHand_119 rfl rfl (jle rfl) (jle rfl) ⟨_, rfl, h⟩
  replace h := h.2 c2
  refine jx_iconst (v := (-1)) dX8_levelInHand_8 (by decide) ?_
  exact jx_iret dX8_levelInHand_9 rfl rfl (jle rfl) (jle rfl) ⟨_, rfl, h⟩
/-- X8_readsChain at its loop's head 42 -/
abbrev L_X8_readsChain_42 (E : jEnv) (d : Nat) (Q : Int32 → jM → Prop) (a0 : Nat) (x1 : Int32) (x2 : Int32) (x3 : Int32) (x4 : Int32) (x5 : Int32) (S : jM) : Prop := jX E mX8_readsChain (jRm (d + 1) 0 0) (jZm E (fun r S' => ∃ v : Int32, r = some (.int v) ∧ Q v S') 0 0) 42 [(0, .ref a0), (1, .int x1), (2, .int x2), (3, .int x3), (4, .int x4), (5, .int x5)] [] S 0 0
set_option maxRecDepth 100000 in
set_option maxHeartbeats 4000000 in
theorem T_X8_readsChain {E : jEnv} {d : Nat} {Q : Int32 → jM → Prop} {a0 : Nat} {x1 : Int32} {x2 : Int32} {x3 : Int32} {S : jM} (h : (x1 < 5 → jk S a0 = 8 ∧ jFi E mX8_readsChain d 0 0 [.ref a0, .int (x1 + 1), .int x2, .int x3] S (fun r4 S3 => (r4 = 0 → Q 0 S3) ∧ (¬ r4 = 0 → (x1 = 2 → L_X8_readsChain_42 E d Q a0 x1 x2 x3 1 0 S3) ∧ (¬ x1 = 2 → L_X8_readsChain_42 E d Q a0 x1 x2 x3 96 0 S3)))) ∧ (¬ x1 < 5 → jk S a0 = 8 ∧ jFi E mX8_readsPiece d 0 0 [.ref a0, .int x2, .int x3] S (fun r9 S8 => (r9 = 0 ∨ r9 = 1) ∧ Q r9 S8))) : jFi E mX8_readsChain (d + 1) 0 0 [.ref a0, .int x1, .int x2, .int x3] S Q := by
  refine jF_of (by decide) (jle rfl) ?_
  refine jx_lv (lv1 := [(0, .ref a0), (1, .int x1), (2, .int x2), (3, .int x3)]) [0, 1, 2, 3] rfl ?_
  refine jx_iload_n 1 dX8_readsChain_0 rfl rfl ?_
  refine jx_iconst (v := 5) dX8_readsChain_1 (by decide) ?_
  refine jx_icmp_lt (tgt := 12) dX8_readsChain_2 (by decide) (fun c1 => ?_) (fun c1 => ?_)
  · replace h := h.1 c1
    refine jx_aload_n 0 dX8_readsChain_12 rfl rfl ?_
    refine jx_iload_n 1 dX8_readsChain_13 rfl rfl ?_
    refine jx_iconst (v := 1) dX8_readsChain_14 (by decide) ?_
    refine jx_iadd dX8_readsChain_15 ?_
    refine jx_iload_n 2 dX8_readsChain_16 rfl rfl ?_
    refine jx_iload_n 3 dX8_readsChain_17 rfl rfl ?_
    obtain ⟨hk2, h⟩ := h
    refine jx_callVi (M' := mX8_readsChain) (As := [.int (x1 + 1), .int x2, .int x3]) jo_X8_readsChain jc_8 rfl jwM_X8_48 jwN_X8_readsChain jwX_X8_readsChain dX8_readsChain_18 (jRok_m _ _ _) rfl (jle rfl) ⟨jle rfl, jle rfl⟩ hk2 h (fun r4 S3 h => ?_)
    refine jx_if_ne (tgt := 26) dX8_readsChain_21 (by decide) (fun c5 => ?_) (fun c5 => ?_)
    · replace h := h.2 c5
      refine jx_iload_n 1 dX8_readsChain_26 rfl rfl ?_
      refine jx_iconst (v := 2) dX8_readsChain_27 (by decide) ?_
      refine jx_icmp_ne (tgt := 35) dX8_readsChain_28 (by decide) (fun c6 => ?_) (fun c6 => ?_)
      · replace h := h.2 c6
        refine jx_bipush (v := 96) dX8_readsChain_35 (by decide) ?_
        refine jx_istore (lv1 := [(4, .int 96), (0, .ref a0), (1, .int x1), (2, .int x2), (3, .int x3)]) dX8_readsChain_37 (by decide) rfl ?_
        refine jx_iconst (v := 0) dX8_readsChain_39 (by decide) ?_
        refine jx_istore (lv1 := [(5, .int 0), (4, .int 96), (0, .ref a0), (1, .int x1), (2, .int x2), (3, .int x3)]) dX8_readsChain_40 (by decide) rfl ?_
        exact jx_lv [2, 3, 4, 5, 1, 0] rfl h
      replace h := h.1 c6
      refine jx_iconst (v := 1) dX8_readsChain_31 (by decide) ?_
      refine jx_goto (tgt := 37) dX8_readsChain_32 (by decide) ?_
      refine jx_istore (lv1 := [(4, .int 1), (0, .ref a0), (1, .int x1), (2, .int x2), (3, .int x3)]) dX8_readsChain_37 (by decide) rfl ?_
      refine jx_iconst (v := 0) dX8_readsChain_39 (by decide) ?_
      refine jx_istore (lv1 := [(5, .int 0), (4, .int 1), (0, .ref a0), (1, .int x1), (2, .int x2), (3, .int x3)]) dX8_readsChain_40 (by decide) rfl ?_
      exact jx_lv [2, 3, 4, 5, 1, 0] rfl h
    replace h := h.1 c5
    refine jx_iconst (v := 0) dX8_readsChain_24 (by decide) ?_
    exact jx_iret dX8_readsChain_25 rfl (by decide) (jle rfl) (jle rfl) ⟨_, rfl, h⟩
  replace h := h.2 c1
  refine jx_aload_n 0 dX8_readsChain_5 rfl rfl ?_
  refine jx_iload_n 2 dX8_readsChain_6 rfl rfl ?_
  refine jx_iload_n 3 dX8_readsChain_7 rfl rfl ?_
  obtain ⟨hk7, h⟩ := h
  refine jx_callVi (M' := mX8_readsPiece) (As := [.int x2, .int x3]) jo_X8_readsPiece jc_8 rfl jwM_X8_106 jwN_X8_readsPiece jwX_X8_readsPiece dX8_readsChain_8 (jRok_m _ _ _) rfl (jle rfl) ⟨jle rfl, jle rfl⟩ hk7 h (fun r9 S8 h => ?_)
  obtain ⟨hb10, h⟩ := h
  exact jx_iret dX8_readsChain_11 rfl (jb_nar hb10) (jle rfl) (jle rfl) ⟨_, rfl, h⟩
set_option maxRecDepth 100000 in
set_option maxHeartbeats 4000000 in
theorem T_X8_readsChain_42 {E : jEnv} {d : Nat} {Q : Int32 → jM → Prop} {a0 : Nat} {x1 : Int32} {x2 : Int32} {x3 : Int32} {x4 : Int32} {x5 : Int32} {S : jM} (h : (x4 ≤ x5 → Q 1 S) ∧ (¬ x4 ≤ x5 → jk S a0 = 8 ∧ jFi E mX8_levelInHand d 0 0 [.ref a0] S (fun r14 S13 => (r14 = x1 → jk S13 a0 = 8 ∧ jFi E mX8_byteAt d 0 0 [.ref a0, .int (ji S13 a0 2)] S13 (fun r18 S17 => jk S17 a0 = 8 ∧ jFv E mX8_step d 0 0 [.ref a0] S17 (fun S20 => jk S20 a0 = 8 ∧ jFi E mX8_readsChain d 0 0 [.ref a0, .int (x1 + 1), .int x2, .int x3] S20 (fun r23 S22 => (r23 = 0 → Q 0 S22) ∧ (¬ r23 = 0 → jk S22 a0 = 8 ∧ jFv E mX8_write d 0 0 [.ref a0, .int (20000 + r18)] S22 (fun S26 => L_X8_readsChain_42 E d Q a0 x1 x2 x3 x4 (x5 + 1) S26)))))) ∧ (¬ r14 = x1 → Q 1 S13)))) : L_X8_readsChain_42 E d Q a0 x1 x2 x3 x4 x5 S := by
  show jX E mX8_readsChain (jRm (d + 1) 0 0) (jZm E (fun r S' => ∃ v : Int32, r = some (.int v) ∧ Q v S') 0 0) 42 [(0, .ref a0), (1, .int x1), (2, .int x2), (3, .int x3), (4, .int x4), (5, .int x5)] [] S 0 0
  refine jx_iload 5 dX8_readsChain_42 rfl ?_
  refine jx_iload 4 dX8_readsChain_44 rfl ?_
  refine jx_icmp_ge (tgt := 101) dX8_readsChain_46 (by decide) (fun c11 => ?_) (fun c11 => ?_)
  · replace h := h.1 c11
    refine jx_iconst (v := 1) dX8_readsChain_101 (by decide) ?_
    exact jx_iret dX8_readsChain_102 rfl (by decide) (jle rfl) (jle rfl) ⟨_, rfl, h⟩
  replace h := h.2 c11
  refine jx_aload_n 0 dX8_readsChain_49 rfl rfl ?_
  obtain ⟨hk12, h⟩ := h
  refine jx_callVi (M' := mX8_levelInHand) (As := []) jo_X8_levelInHand jc_8 rfl jwM_X8_109 jwN_X8_levelInHand jwX_X8_levelInHand dX8_readsChain_50 (jRok_m _ _ _) rfl (jle rfl) ⟨jle rfl, jle rfl⟩ hk12 h (fun r14 S13 h => ?_)
  refine jx_iload_n 1 dX8_readsChain_53 rfl rfl ?_
  refine jx_icmp_ne (tgt := 101) dX8_readsChain_54 (by decide) (fun c15 => ?_) (fun c15 => ?_)
  · replace h := h.2 c15
    refine jx_iconst (v := 1) dX8_readsChain_101 (by decide) ?_
    exact jx_iret dX8_readsChain_102 rfl (by decide) (jle rfl) (jle rfl) ⟨_, rfl, h⟩
  replace h := h.1 c15
  refine jx_aload_n 0 dX8_readsChain_57 rfl rfl ?_
  refine jx_aload_n 0 dX8_readsChain_58 rfl rfl ?_
  obtain ⟨hk16, h⟩ := h
  refine jx_geti jc_8 (j := 2) (by decide) rfl jwF_X8_63 dX8_readsChain_59 hk16 ?_
  refine jx_callVi (M' := mX8_byteAt) (As := [.int (ji S13 a0 2)]) jo_X8_byteAt jc_8 rfl jwM_X8_66 jwN_X8_byteAt jwX_X8_byteAt dX8_readsChain_62 (jRok_m _ _ _) rfl (jle rfl) ⟨jle rfl, jle rfl⟩ hk16 h (fun r18 S17 h => ?_)
  refine jx_istore (lv1 := [(6, .int r18), (0, .ref a0), (1, .int x1), (2, .int x2), (3, .int x3), (4, .int x4), (5, .int x5)]) dX8_readsChain_65 (by decide) rfl ?_
  refine jx_aload_n 1 dX8_readsChain_67 rfl rfl ?_
  obtain ⟨hk19, h⟩ := h
  refine jx_callVv (M' := mX8_step) (As := []) jo_X8_step jc_8 rfl jwM_X8_38 jwN_X8_step jwX_X8_step dX8_readsChain_68 (jRok_m _ _ _) rfl (jle rfl) ⟨jle rfl, jle rfl⟩ hk19 h (fun S20 h => ?_)
  refine jx_aload_n 1 dX8_readsChain_71 rfl rfl ?_
  refine jx_iload_n 2 dX8_readsChain_72 rfl rfl ?_
  refine jx_iconst (v := 1) dX8_readsChain_73 (by decide) ?_
  refine jx_iadd dX8_readsChain_74 ?_
  refine jx_iload_n 3 dX8_readsChain_75 rfl rfl ?_
  refine jx_iload_n 4 dX8_readsChain_76 rfl rfl ?_
  obtain ⟨hk21, h⟩ := h
  refine jx_callVi (M' := mX8_readsChain) (As := [.int (x1 + 1), .int x2, .int x3]) jo_X8_readsChain jc_8 rfl jwM_X8_48 jwN_X8_readsChain jwX_X8_readsChain dX8_readsChain_77 (jRok_m _ _ _) rfl (jle rfl) ⟨jle rfl, jle rfl⟩ hk21 h (fun r23 S22 h => ?_)
  refine jx_if_ne (tgt := 85) dX8_readsChain_80 (by decide) (fun c24 => ?_) (fun c24 => ?_)
  · replace h := h.2 c24
    refine jx_aload_n 1 dX8_readsChain_85 rfl rfl ?_
    refine jx_sipush (v := 20000) dX8_readsChain_86 (by decide) ?_
    refine jx_iload 0 dX8_readsChain_89 rfl ?_
    refine jx_iadd dX8_readsChain_91 ?_
    obtain ⟨hk25, h⟩ := h
    refine jx_callVv (M' := mX8_write) (As := [.int (20000 + r18)]) jo_X8_write jc_8 rfl jwM_X8_112 jwN_X8_write jwX_X8_write dX8_readsChain_92 (jRok_m _ _ _) rfl (jle rfl) ⟨jle rfl, jle rfl⟩ hk25 h (fun S26 h => ?_)
    refine jx_iinc 6 (v := (x5 + 1)) (lv1 := [(5, .int (x5 + 1)), (6, .int r18), (0, .ref a0), (1, .int x1), (2, .int x2), (3, .int x3), (4, .int x4)]) kd39.1 rfl rfl (by decide) rfl ?_
    refine jx_goto (tgt := 42) kd39.2 (by decide) ?_
    exact jx_lv [2, 3, 4, 5, 6, 0] rfl h
  replace h := h.1 c24
  refine jx_iconst (v := 0) dX8_readsChain_83 (by decide) ?_
  exact jx_iret dX8_readsChain_84 rfl (by decide) (jle rfl) (jle rfl) ⟨_, rfl, h⟩
set_option maxRecDepth 100000 in
set_option maxHeartbeats 4000000 in
theorem T_X8_readsPiece {E : jEnv} {d : Nat} {Q : Int32 → jM → Prop} {a0 : Nat} {x1 : Int32} {x2 : Int32} {S : jM} (h : jk S a0 = 8 ∧ ((ji S a0 4) = 1 → jFi E mX8_readsOperand d 0 0 [.ref a0] S (fun r4 S3 => (r4 = 0 ∨ r4 = 1) ∧ Q r4 S3)) ∧ (¬ (ji S a0 4) = 1 → ((ji S a0 4) = 2 → jFi E mX8_readsOperand d 0 0 [.ref a0] S (fun r54 S53 => (r54 = 0 ∨ r54 = 1) ∧ Q r54 S53)) ∧ (¬ (ji S a0 4) = 2 → jFi E mX8_isInHand d 0 0 [.ref a0, .int 33] S (fun r8 S7 => (r8 = 0 → jk S7 a0 = 8 ∧ jFi E mX8_isInHand d 0 0 [.ref a0, .int 40] S7 (fun r12 S11 => (r12 = 0 → Q 0 S11) ∧ (¬ r12 = 0 → (8 ≤ x1 → Q 0 S11) ∧ (¬ 8 ≤ x1 → jk S11 a0 = 8 ∧ jFv E mX8_step d 0 0 [.ref a0] S11 (fun S16 => jk S16 a0 = 8 ∧ jFi E mX8_readsChain d 0 0 [.ref a0, .int 0, .int (x1 + 1), .int x2] S16 (fun r19 S18 => (r19 = 0 → Q 0 S18) ∧ (¬ r19 = 0 → jk S18 a0 = 8 ∧ jFi E mX8_isInHand d 0 0 [.ref a0, .int 41] S18 (fun r23 S22 => (r23 = 0 → Q 0 S22) ∧ (¬ r23 = 0 → jk S22 a0 = 8 ∧ jFv E mX8_step d 0 0 [.ref a0] S22 (fun S26 => Q 1 S26)))))))))) ∧ (¬ r8 = 0 → (8 ≤ x2 → jk S7 a0 = 8 ∧ jFi E mX8_isInHand d 0 0 [.ref a0, .int 40] S7 (fun r30 S29 => (r30 = 0 → Q 0 S29) ∧ (¬ r30 = 0 → (8 ≤ x1 → Q 0 S29) ∧ (¬ 8 ≤ x1 → jk S29 a0 = 8 ∧ jFv E mX8_step d 0 0 [.ref a0] S29 (fun S34 => jk S34 a0 = 8 ∧ jFi E mX8_readsChain d 0 0 [.ref a0, .int 0, .int (x1 + 1), .int x2] S34 (fun r37 S36 => (r37 = 0 → Q 0 S36) ∧ (¬ r37 = 0 → jk S36 a0 = 8 ∧ jFi E mX8_isInHand d 0 0 [.ref a0, .int 41] S36 (fun r41 S40 => (r41 = 0 → Q 0 S40) ∧ (¬ r41 = 0 → jk S40 a0 = 8 ∧ jFv E mX8_step d 0 0 [.ref a0] S40 (fun S44 => Q 1 S44)))))))))) ∧ (¬ 8 ≤ x2 → jk S7 a0 = 8 ∧ jFv E mX8_step d 0 0 [.ref a0] S7 (fun S46 => jk S46 a0 = 8 ∧ jFi E mX8_readsPiece d 0 0 [.ref a0, .int x1, .int (x2 + 1)] S46 (fun r49 S48 => jk S48 a0 = 8 ∧ jFv E mX8_write d 0 0 [.ref a0, .int 20033] S48 (fun S51 => (r49 = 0 ∨ r49 = 1) ∧ Q r49 S51))))))))) : jFi E mX8_readsPiece (d + 1) 0 0 [.ref a0, .int x1, .int x2] S Q := by
  refine jF_of (by decide) (jle rfl) ?_
  refine jx_lv (lv1 := [(0, .ref a0), (1, .int x1), (2, .int x2)]) [0, 1, 2] rfl ?_
  refine jx_aload_n 0 dX8_readsPiece_0 rfl rfl ?_
  obtain ⟨hk1, h⟩ := h
  refine jx_geti jc_8 (j := 4) (by decide) rfl jwF_X8_29 dX8_readsPiece_1 hk1 ?_
  refine jx_iconst (v := 1) dX8_readsPiece_4 (by decide) ?_
  refine jx_icmp_eq (tgt := 16) dX8_readsPiece_5 (by decide) (fun c2 => ?_) (fun c2 => ?_)
  · replace h := h.1 c2
    refine jx_aload_n 0 dX8_readsPiece_16 rfl rfl ?_
    refine jx_callVi (M' := mX8_readsOperand) (As := []) jo_X8_readsOperand jc_8 rfl jwM_X8_116 jwN_X8_readsOperand jwX_X8_readsOperand dX8_readsPiece_17 (jRok_m _ _ _) rfl (jle rfl) ⟨jle rfl, jle rfl⟩ hk1 h (fun r4 S3 h => ?_)
    obtain ⟨hb5, h⟩ := h
    exact jx_iret dX8_readsPiece_20 rfl (jb_nar hb5) (jle rfl) (jle rfl) ⟨_, rfl, h⟩
  replace h := h.2 c2
  refine jx_aload_n 0 dX8_readsPiece_8 rfl rfl ?_
  refine jx_geti jc_8 (j := 4) (by decide) rfl jwF_X8_29 dX8_readsPiece_9 hk1 ?_
  refine jx_iconst (v := 2) dX8_readsPiece_12 (by decide) ?_
  refine jx_icmp_ne (tgt := 21) dX8_readsPiece_13 (by decide) (fun c6 => ?_) (fun c6 => ?_)
  · replace h := h.2 c6
    refine jx_aload_n 0 dX8_readsPiece_21 rfl rfl ?_
    refine jx_bipush (v := 33) dX8_readsPiece_22 (by decide) ?_
    refine jx_callVi (M' := mX8_isInHand) (As := [.int 33]) jo_X8_isInHand jc_8 rfl jwM_X8_120 jwN_X8_isInHand jwX_X8_isInHand dX8_readsPiece_24 (jRok_m _ _ _) rfl (jle rfl) ⟨jle rfl, jle rfl⟩ hk1 h (fun r8 S7 h => ?_)
    refine jx_if_eq (tgt := 58) dX8_readsPiece_27 (by decide) (fun c9 => ?_) (fun c9 => ?_)
    · replace h := h.1 c9
      refine jx_aload_n 0 dX8_readsPiece_58 rfl rfl ?_
      refine jx_bipush (v := 40) dX8_readsPiece_59 (by decide) ?_
      obtain ⟨hk10, h⟩ := h
      refine jx_callVi (M' := mX8_isInHand) (As := [.int 40]) jo_X8_isInHand jc_8 rfl jwM_X8_120 jwN_X8_isInHand jwX_X8_isInHand dX8_readsPiece_61 (jRok_m _ _ _) rfl (jle rfl) ⟨jle rfl, jle rfl⟩ hk10 h (fun r12 S11 h => ?_)
      refine jx_if_eq (tgt := 104) dX8_readsPiece_64 (by decide) (fun c13 => ?_) (fun c13 => ?_)
      · replace h := h.1 c13
        refine jx_iconst (v := 0) dX8_readsPiece_104 (by decide) ?_
        exact jx_iret dX8_readsPiece_105 rfl (by decide) (jle rfl) (jle rfl) ⟨_, rfl, h⟩
      replace h := h.2 c13
      refine jx_iload_n 1 dX8_readsPiece_67 rfl rfl ?_
      refine jx_bipush (v := 8) dX8_readsPiece_68 (by decide) ?_
      refine jx_icmp_ge (tgt := 104) dX8_readsPiece_70 (by decide) (fun c14 => ?_) (fun c14 => ?_)
      · replace h := h.1 c14
        refine jx_iconst (v := 0) dX8_readsPiece_104 (by decide) ?_
        exact jx_iret dX8_readsPiece_105 rfl (by decide) (jle rfl) (jle rfl) ⟨_, rfl, h⟩
      replace h := h.2 c14
      refine jx_aload_n 0 dX8_readsPiece_73 rfl rfl ?_
      obtain ⟨hk15, h⟩ := h
      refine jx_callVv (M' := mX8_step) (As := []) jo_X8_step jc_8 rfl jwM_X8_38 jwN_X8_step jwX_X8_step dX8_readsPiece_74 (jRok_m _ _ _) rfl (jle rfl) ⟨jle rfl, jle rfl⟩ hk15 h (fun S16 h => ?_)
      refine jx_aload_n 0 dX8_readsPiece_77 rfl rfl ?_
      refine jx_iconst (v := 0) dX8_readsPiece_78 (by decide) ?_
      refine jx_iload_n 1 dX8_readsPiece_79 rfl rfl ?_
      refine jx_iconst (v := 1) dX8_readsPiece_80 (by decide) ?_
      refine jx_iadd dX8_readsPiece_81 ?_
      refine jx_iload_n 2 dX8_readsPiece_82 rfl rfl ?_
      obtain ⟨hk17, h⟩ := h
      refine jx_callVi (M' := mX8_readsChain) (As := [.int 0, .int (x1 + 1), .int x2]) jo_X8_readsChain jc_8 rfl jwM_X8_48 jwN_X8_readsChain jwX_X8_readsChain dX8_readsPiece_83 (jRok_m _ _ _) rfl (jle rfl) ⟨jle rfl, jle rfl⟩ hk17 h (fun r19 S18 h => ?_)
      refine jx_if_eq (tgt := 104) dX8_readsPiece_86 (by decide) (fun c20 => ?_) (fun c20 => ?_)
      · replace h := h.1 c20
        refine jx_iconst (v := 0) dX8_readsPiece_104 (by decide) ?_
        exact jx_iret dX8_readsPiece_105 rfl (by decide) (jle rfl) (jle rfl) ⟨_, rfl, h⟩
      replace h := h.2 c20
      refine jx_aload_n 0 dX8_readsPiece_89 rfl rfl ?_
      refine jx_bipush (v := 41) dX8_readsPiece_90 (by decide) ?_
      obtain ⟨hk21, h⟩ := h
      refine jx_callVi (M' := mX8_isInHand) (As := [.int 41]) jo_X8_isInHand jc_8 rfl jwM_X8_120 jwN_X8_isInHand jwX_X8_isInHand dX8_readsPiece_92 (jRok_m _ _ _) rfl (jle rfl) ⟨jle rfl, jle rfl⟩ hk21 h (fun r23 S22 h => ?_)
      refine jx_if_eq (tgt := 104) dX8_readsPiece_95 (by decide) (fun c24 => ?_) (fun c24 => ?_)
      · replace h := h.1 c24
        refine jx_iconst (v := 0) dX8_readsPiece_104 (by decide) ?_
        exact jx_iret dX8_readsPiece_105 rfl (by decide) (jle rfl) (jle rfl) ⟨_, rfl, h⟩
      replace h := h.2 c24
      refine jx_aload_n 0 dX8_readsPiece_98 rfl rfl ?_
      obtain ⟨hk25, h⟩ := h
      refine jx_callVv (M' := mX8_step) (As := []) jo_X8_step jc_8 rfl jwM_X8_38 jwN_X8_step jwX_X8_step dX8_readsPiece_99 (jRok_m _ _ _) rfl (jle rfl) ⟨jle rfl, jle rfl⟩ hk25 h (fun S26 h => ?_)
      refine jx_iconst (v := 1) dX8_readsPiece_102 (by decide) ?_
      exact jx_iret dX8_readsPiece_103 rfl (by decide) (jle rfl) (jle rfl) ⟨_, rfl, h⟩
    replace h := h.2 c9
    refine jx_iload_n 2 dX8_readsPiece_30 rfl rfl ?_
    refine jx_bipush (v := 8) dX8_readsPiece_31 (by decide) ?_
    refine jx_icmp_ge (tgt := 58) dX8_readsPiece_33 (by decide) (fun c27 => ?_) (fun c27 => ?_)
    · replace h := h.1 c27
      refine jx_aload_n 0 dX8_readsPiece_58 rfl rfl ?_
      refine jx_bipush (v := 40) dX8_readsPiece_59 (by decide) ?_
      obtain ⟨hk28, h⟩ := h
      refine jx_callVi (M' := mX8_isInHand) (As := [.int 40]) jo_X8_isInHand jc_8 rfl jwM_X8_120 jwN_X8_isInHand jwX_X8_isInHand dX8_readsPiece_61 (jRok_m _ _ _) rfl (jle rfl) ⟨jle rfl, jle rfl⟩ hk28 h (fun r30 S29 h => ?_)
      refine jx_if_eq (tgt := 104) dX8_readsPiece_64 (by decide) (fun c31 => ?_) (fun c31 => ?_)
      · replace h := h.1 c31
        refine jx_iconst (v := 0) dX8_readsPiece_104 (by decide) ?_
        exact jx_iret dX8_readsPiece_105 rfl (by decide) (jle rfl) (jle rfl) ⟨_, rfl, h⟩
      replace h := h.2 c31
      refine jx_iload_n 1 dX8_readsPiece_67 rfl rfl ?_
      refine jx_bipush (v := 8) dX8_readsPiece_68 (by decide) ?_
      refine jx_icmp_ge (tgt := 104) dX8_readsPiece_70 (by decide) (fun c32 => ?_) (fun c32 => ?_)
      · replace h := h.1 c32
        refine jx_iconst (v := 0) dX8_readsPiece_104 (by decide) ?_
        exact jx_iret dX8_readsPiece_105 rfl (by decide) (jle rfl) (jle rfl) ⟨_, rfl, h⟩
      replace h := h.2 c32
      refine jx_aload_n 0 dX8_readsPiece_73 rfl rfl ?_
      obtain ⟨hk33, h⟩ := h
      refine jx_callVv (M' := mX8_step) (As := []) jo_X8_step jc_8 rfl jwM_X8_38 jwN_X8_step jwX_X8_step dX8_readsPiece_74 (jRok_m _ _ _) rfl (jle rfl) ⟨jle rfl, jle rfl⟩ hk33 h (fun S34 h => ?_)
      refine jx_aload_n 0 dX8_readsPiece_77 rfl rfl ?_
      refine jx_iconst (v := 0) dX8_readsPiece_78 (by decide) ?_
      refine jx_iload_n 1 dX8_readsPiece_79 rfl rfl ?_
      refine jx_iconst (v := 1) dX8_readsPiece_80 (by decide) ?_
      refine jx_iadd dX8_readsPiece_81 ?_
      refine jx_iload_n 2 dX8_readsPiece_82 rfl rfl ?_
      obtain ⟨hk35, h⟩ := h
      refine jx_callVi (M' := mX8_readsChain) (As := [.int 0, .int (x1 + 1), .int x2]) jo_X8_readsChain jc_8 rfl jwM_X8_48 jwN_X8_readsChain jwX_X8_readsChain dX8_readsPiece_83 (jRok_m _ _ _) rfl (jle rfl) ⟨jle rfl, jle rfl⟩ hk35 h (fun r37 S36 h => ?_)
      refine jx_if_eq (tgt := 104) dX8_readsPiece_86 (by decide) (fun c38 => ?_) (fun c38 => ?_)
      · replace h := h.1 c38
        refine jx_iconst (v := 0) dX8_readsPiece_104 (by decide) ?_
        exact jx_iret dX8_readsPiece_105 rfl (by decide) (jle rfl) (jle rfl) ⟨_, rfl, h⟩
      replace h := h.2 c38
      refine jx_aload_n 0 dX8_readsPiece_89 rfl rfl ?_
      refine jx_bipush (v := 41) dX8_readsPiece_90 (by decide) ?_
      obtain ⟨hk39, h⟩ := h
      refine jx_callVi (M' := mX8_isInHand) (As := [.int 41]) jo_X8_isInHand jc_8 rfl jwM_X8_120 jwN_X8_isInHand jwX_X8_isInHand dX8_readsPiece_92 (jRok_m _ _ _) rfl (jle rfl) ⟨jle rfl, jle rfl⟩ hk39 h (fun r41 S40 h => ?_)
      refine jx_if_eq (tgt := 104) dX8_readsPiece_95 (by decide) (fun c42 => ?_) (fun c42 => ?_)
      · replace h := h.1 c42
        refine jx_iconst (v := 0) dX8_readsPiece_104 (by decide) ?_
        exact jx_iret dX8_readsPiece_105 rfl (by decide) (jle rfl) (jle rfl) ⟨_, rfl, h⟩
      replace h := h.2 c42
      refine jx_aload_n 0 dX8_readsPiece_98 rfl rfl ?_
      obtain ⟨hk43, h⟩ := h
      refine jx_callVv (M' := mX8_step) (As := []) jo_X8_step jc_8 rfl jwM_X8_38 jwN_X8_step jwX_X8_step dX8_readsPiece_99 (jRok_m _ _ _) rfl (jle rfl) ⟨jle rfl, jle rfl⟩ hk43 h (fun S44 h => ?_)
      refine jx_iconst (v := 1) dX8_readsPiece_102 (by decide) ?_
      exact jx_iret dX8_readsPiece_103 rfl (by decide) (jle rfl) (jle rfl) ⟨_, rfl, h⟩
    replace h := h.2 c27
    refine jx_aload_n 0 dX8_readsPiece_36 rfl rfl ?_
    obtain ⟨hk45, h⟩ := h
    refine jx_callVv (M' := mX8_step) (As := []) jo_X8_step jc_8 rfl jwM_X8_38 jwN_X8_step jwX_X8_step dX8_readsPiece_37 (jRok_m _ _ _) rfl (jle rfl) ⟨jle rfl, jle rfl⟩ hk45 h (fun S46 h => ?_)
    refine jx_aload_n 0 dX8_readsPiece_40 rfl rfl ?_
    refine jx_iload_n 1 dX8_readsPiece_41 rfl rfl ?_
    refine jx_iload_n 2 dX8_readsPiece_42 rfl rfl ?_
    refine jx_iconst (v := 1) dX8_readsPiece_43 (by decide) ?_
    refine jx_iadd dX8_readsPiece_44 ?_
    obtain ⟨hk47, h⟩ := h
    refine jx_callVi (M' := mX8_readsPiece) (As := [.int x1, .int (x2 + 1)]) jo_X8_readsPiece jc_8 rfl jwM_X8_106 jwN_X8_readsPiece jwX_X8_readsPiece dX8_readsPiece_45 (jRok_m _ _ _) rfl (jle rfl) ⟨jle rfl, jle rfl⟩ hk47 h (fun r49 S48 h => ?_)
    refine jx_istore_n (lv1 := [(3, .int r49), (0, .ref a0), (1, .int x1), (2, .int x2)]) dX8_readsPiece_48 rfl (by decide) rfl ?_
    refine jx_aload_n 1 dX8_readsPiece_49 rfl rfl ?_
    refine jx_sipush (v := 20033) dX8_readsPiece_50 (by decide) ?_
    obtain ⟨hk50, h⟩ := h
    refine jx_callVv (M' := mX8_write) (As := [.int 20033]) jo_X8_write jc_8 rfl jwM_X8_112 jwN_X8_write jwX_X8_write dX8_readsPiece_53 (jRok_m _ _ _) rfl (jle rfl) ⟨jle rfl, jle rfl⟩ hk50 h (fun S51 h => ?_)
    refine jx_iload_n 0 dX8_readsPiece_56 rfl rfl ?_
    obtain ⟨hb52, h⟩ := h
    exact jx_iret dX8_readsPiece_57 rfl (jb_nar hb52) (jle rfl) (jle rfl) ⟨_, rfl, h⟩
  replace h := h.1 c6
  refine jx_aload_n 0 dX8_readsPiece_16 rfl rfl ?_
  refine jx_callVi (M' := mX8_readsOperand) (As := []) jo_X8_readsOperand jc_8 rfl jwM_X8_116 jwN_X8_readsOperand jwX_X8_readsOperand dX8_readsPiece_17 (jRok_m _ _ _) rfl (jle rfl) ⟨jle rfl, jle rfl⟩ hk1 h (fun r54 S53 h => ?_)
  obtain ⟨hb55, h⟩ := h
  exact jx_iret dX8_readsPiece_20 rfl (jb_nar hb55) (jle rfl) (jle rfl) ⟨_, rfl, h⟩
set_option maxRecDepth 100000 in
set_option maxHeartbeats 4000000 in
theorem T_X8_readsOperand {E : jEnv} {d : Nat} {Q : Int32 → jM → Prop} {a0 : Nat} {S : jM} (h : jk S a0 = 8 ∧ ((ji S a0 4) = 2 → jFi E mX8_numberInHand d 0 0 [.ref a0] S (fun r12 S11 => jk S11 a0 = 8 ∧ ((ji S11 a0 5) = 0 → (0 ≤ r12 → jFv E mX8_write d 0 0 [.ref a0, .int r12] S11 (fun S16 => jk S16 a0 = 8 ∧ jFv E mX8_step d 0 0 [.ref a0] (jput S16 a0 7 ((ji S16 a0 7) + 1)) (fun S18 => Q 1 S18))) ∧ (¬ 0 ≤ r12 → Q 0 S11)) ∧ (¬ (ji S11 a0 5) = 0 → Q 0 S11))) ∧ (¬ (ji S a0 4) = 2 → jFi E mX8_nameInHand d 0 0 [.ref a0] S (fun r4 S3 => jk S3 a0 = 8 ∧ ((ji S3 a0 5) = 0 → (0 ≤ r4 → jFv E mX8_write d 0 0 [.ref a0, .int r4] S3 (fun S8 => jk S8 a0 = 8 ∧ jFv E mX8_step d 0 0 [.ref a0] (jput S8 a0 7 ((ji S8 a0 7) + 1)) (fun S10 => Q 1 S10))) ∧ (¬ 0 ≤ r4 → Q 0 S3)) ∧ (¬ (ji S3 a0 5) = 0 → Q 0 S3)))) : jFi E mX8_readsOperand (d + 1) 0 0 [.ref a0] S Q := by
  refine jF_of (by decide) (jle rfl) ?_
  refine jx_lv (lv1 := [(0, .ref a0)]) [0] rfl ?_
  refine jx_aload_n 0 dX8_readsOperand_0 rfl rfl ?_
  obtain ⟨hk1, h⟩ := h
  refine jx_geti jc_8 (j := 4) (by decide) rfl jwF_X8_29 dX8_readsOperand_1 hk1 ?_
  refine jx_iconst (v := 2) dX8_readsOperand_4 (by decide) ?_
  refine jx_icmp_ne (tgt := 15) dX8_readsOperand_5 (by decide) (fun c2 => ?_) (fun c2 => ?_)
  · replace h := h.2 c2
    refine jx_aload_n 0 dX8_readsOperand_15 rfl rfl ?_
    refine jx_callVi (M' := mX8_nameInHand) (As := []) jo_X8_nameInHand jc_8 rfl jwM_X8_127 jwN_X8_nameInHand jwX_X8_nameInHand dX8_readsOperand_16 (jRok_m _ _ _) rfl (jle rfl) ⟨jle rfl, jle rfl⟩ hk1 h (fun r4 S3 h => ?_)
    refine jx_istore_n (lv1 := [(1, .int r4), (0, .ref a0)]) dX8_readsOperand_19 rfl (by decide) rfl ?_
    refine jx_aload_n 1 dX8_readsOperand_20 rfl rfl ?_
    obtain ⟨hk5, h⟩ := h
    refine jx_geti jc_8 (j := 5) (by decide) rfl jwF_X8_73 dX8_readsOperand_21 hk5 ?_
    refine jx_if_ne (tgt := 31) dX8_readsOperand_24 (by decide) (fun c6 => ?_) (fun c6 => ?_)
    · replace h := h.2 c6
      refine jx_iconst (v := 0) dX8_readsOperand_31 (by decide) ?_
      exact jx_iret dX8_readsOperand_32 rfl (by decide) (jle rfl) (jle rfl) ⟨_, rfl, h⟩
    replace h := h.1 c6
    refine jx_iload_n 0 dX8_readsOperand_27 rfl rfl ?_
    refine jx_if_ge (tgt := 33) dX8_readsOperand_28 (by decide) (fun c7 => ?_) (fun c7 => ?_)
    · replace h := h.1 c7
      refine jx_aload_n 1 dX8_readsOperand_33 rfl rfl ?_
      refine jx_iload_n 0 dX8_readsOperand_34 rfl rfl ?_
      refine jx_callVv (M' := mX8_write) (As := [.int r4]) jo_X8_write jc_8 rfl jwM_X8_112 jwN_X8_write jwX_X8_write dX8_readsOperand_35 (jRok_m _ _ _) rfl (jle rfl) ⟨jle rfl, jle rfl⟩ hk5 h (fun S8 h => ?_)
      refine jx_aload_n 1 dX8_readsOperand_38 rfl rfl ?_
      refine jx_dup dX8_readsOperand_39 rfl ?_
      obtain ⟨hk9, h⟩ := h
      refine jx_geti jc_8 (j := 7) (by decide) rfl jwF_X8_32 dX8_readsOperand_40 hk9 ?_
      refine jx_iconst (v := 1) dX8_readsOperand_43 (by decide) ?_
      refine jx_iadd dX8_readsOperand_44 ?_
      refine jx_puti jc_8 (j := 7) (by decide) rfl jwF_X8_32 rfl rfl rfl dX8_readsOperand_45 hk9 ?_
      refine jx_aload_n 1 dX8_readsOperand_48 rfl rfl ?_
      refine jx_callVv (M' := mX8_step) (As := []) jo_X8_step jc_8 rfl jwM_X8_38 jwN_X8_step jwX_X8_step dX8_readsOperand_49 (jRok_m _ _ _) rfl (jle rfl) ⟨jle rfl, jle rfl⟩ hk9 h (fun S10 h => ?_)
      refine jx_iconst (v := 1) dX8_readsOperand_52 (by decide) ?_
      exact jx_iret dX8_readsOperand_53 rfl (by decide) (jle rfl) (jle rfl) ⟨_, rfl, h⟩
    replace h := h.2 c7
    refine jx_iconst (v := 0) dX8_readsOperand_31 (by decide) ?_
    exact jx_iret dX8_readsOperand_32 rfl (by decide) (jle rfl) (jle rfl) ⟨_, rfl, h⟩
  replace h := h.1 c2
  refine jx_aload_n 0 dX8_readsOperand_8 rfl rfl ?_
  refine jx_callVi (M' := mX8_numberInHand) (As := []) jo_X8_numberInHand jc_8 rfl jwM_X8_124 jwN_X8_numberInHand jwX_X8_numberInHand dX8_readsOperand_9 (jRok_m _ _ _) rfl (jle rfl) ⟨jle rfl, jle rfl⟩ hk1 h (fun r12 S11 h => ?_)
  refine jx_goto (tgt := 19) dX8_readsOperand_12 (by decide) ?_
  refine jx_istore_n (lv1 := [(1, .int r12), (0, .ref a0)]) dX8_readsOperand_19 rfl (by decide) rfl ?_
  refine jx_aload_n 1 dX8_readsOperand_20 rfl rfl ?_
  obtain ⟨hk13, h⟩ := h
  refine jx_geti jc_8 (j := 5) (by decide) rfl jwF_X8_73 dX8_readsOperand_21 hk13 ?_
  refine jx_if_ne (tgt := 31) dX8_readsOperand_24 (by decide) (fun c14 => ?_) (fun c14 => ?_)
  · replace h := h.2 c14
    refine jx_iconst (v := 0) dX8_readsOperand_31 (by decide) ?_
    exact jx_iret dX8_readsOperand_32 rfl (by decide) (jle rfl) (jle rfl) ⟨_, rfl, h⟩
  replace h := h.1 c14
  refine jx_iload_n 0 dX8_readsOperand_27 rfl rfl ?_
  refine jx_if_ge (tgt := 33) dX8_readsOperand_28 (by decide) (fun c15 => ?_) (fun c15 => ?_)
  · replace h := h.1 c15
    refine jx_aload_n 1 dX8_readsOperand_33 rfl rfl ?_
    refine jx_iload_n 0 dX8_readsOperand_34 rfl rfl ?_
    refine jx_callVv (M' := mX8_write) (As := [.int r12]) jo_X8_write jc_8 rfl jwM_X8_112 jwN_X8_write jwX_X8_write dX8_readsOperand_35 (jRok_m _ _ _) rfl (jle rfl) ⟨jle rfl, jle rfl⟩ hk13 h (fun S16 h => ?_)
    refine jx_aload_n 1 dX8_readsOperand_38 rfl rfl ?_
    refine jx_dup dX8_readsOperand_39 rfl ?_
    obtain ⟨hk17, h⟩ := h
    refine jx_geti jc_8 (j := 7) (by decide) rfl jwF_X8_32 dX8_readsOperand_40 hk17 ?_
    refine jx_iconst (v := 1) dX8_readsOperand_43 (by decide) ?_
    refine jx_iadd dX8_readsOperand_44 ?_
    refine jx_puti jc_8 (j := 7) (by decide) rfl jwF_X8_32 rfl rfl rfl dX8_readsOperand_45 hk17 ?_
    refine jx_aload_n 1 dX8_readsOperand_48 rfl rfl ?_
    refine jx_callVv (M' := mX8_step) (As := []) jo_X8_step jc_8 rfl jwM_X8_38 jwN_X8_step jwX_X8_step dX8_readsOperand_49 (jRok_m _ _ _) rfl (jle rfl) ⟨jle rfl, jle rfl⟩ hk17 h (fun S18 h => ?_)
    refine jx_iconst (v := 1) dX8_readsOperand_52 (by decide) ?_
    exact jx_iret dX8_readsOperand_53 rfl (by decide) (jle rfl) (jle rfl) ⟨_, rfl, h⟩
  replace h := h.2 c15
  refine jx_iconst (v := 0) dX8_readsOperand_31 (by decide) ?_
  exact jx_iret dX8_readsOperand_32 rfl (by decide) (jle rfl) (jle rfl) ⟨_, rfl, h⟩
/-- X8_numberInHand at its loop's head 22 -/
abbrev L_X8_numberInHand_22 (E : jEnv) (d : Nat) (Q : Int32 → jM → Prop) (a0 : Nat) (x1 : Int32) (x2 : Int32) (S : jM) : Prop := jX E mX8_numberInHand (jRm (d + 1) 0 0) (jZm E (fun r S' => ∃ v : Int32, r = some (.int v) ∧ Q v S') 0 0) 22 [(0, .ref a0), (1, .int x1), (2, .int x2)] [] S 0 0
set_option maxRecDepth 100000 in
set_option maxHeartbeats 4000000 in
theorem T_X8_numberInHand {E : jEnv} {d : Nat} {Q : Int32 → jM → Prop} {a0 : Nat} {S : jM} (h : jk S a0 = 8 ∧ (((ji S a0 3) - (ji S a0 2)) ≤ 4 → L_X8_numberInHand_22 E d Q a0 0 (ji S a0 2) S) ∧ (¬ ((ji S a0 3) - (ji S a0 2)) ≤ 4 → Q (-1) S)) : jFi E mX8_numberInHand (d + 1) 0 0 [.ref a0] S Q := by
  refine jF_of (by decide) (jle rfl) ?_
  refine jx_lv (lv1 := [(0, .ref a0)]) [0] rfl ?_
  refine jx_aload_n 0 dX8_numberInHand_0 rfl rfl ?_
  obtain ⟨hk1, h⟩ := h
  refine jx_geti jc_8 (j := 3) (by decide) rfl jwF_X8_26 dX8_numberInHand_1 hk1 ?_
  refine jx_aload_n 0 dX8_numberInHand_4 rfl rfl ?_
  refine jx_geti jc_8 (j := 2) (by decide) rfl jwF_X8_63 dX8_numberInHand_5 hk1 ?_
  refine jx_isub dX8_numberInHand_8 ?_
  refine jx_iconst (v := 4) dX8_numberInHand_9 (by decide) ?_
  refine jx_icmp_le (tgt := 15) dX8_numberInHand_10 (by decide) (fun c2 => ?_) (fun c2 => ?_)
  · replace h := h.1 c2
    refine jx_iconst (v := 0) dX8_numberInHand_15 (by decide) ?_
    refine jx_istore_n (lv1 := [(1, .int 0), (0, .ref a0)]) dX8_numberInHand_16 rfl (by decide) rfl ?_
    refine jx_aload_n 1 dX8_numberInHand_17 rfl rfl ?_
    refine jx_geti jc_8 (j := 2) (by decide) rfl jwF_X8_63 dX8_numberInHand_18 hk1 ?_
    refine jx_istore_n (lv1 := [(2, .int (ji S a0 2)), (1, .int 0), (0, .ref a0)]) dX8_numberInHand_21 rfl (by decide) rfl ?_
    exact jx_lv [2, 1, 0] rfl h
  replace h := h.2 c2
  refine jx_iconst (v := (-1)) dX8_numberInHand_13 (by decide) ?_
  exact jx_iret dX8_numberInHand_14 rfl rfl (jle rfl) (jle rfl) ⟨_, rfl, h⟩
set_option maxRecDepth 100000 in
set_option maxHeartbeats 4000000 in
theorem T_X8_numberInHand_22 {E : jEnv} {d : Nat} {Q : Int32 → jM → Prop} {a0 : Nat} {x1 : Int32} {x2 : Int32} {S : jM} (h : jk S a0 = 8 ∧ ((ji S a0 3) ≤ x2 → Q x1 S) ∧ (¬ (ji S a0 3) ≤ x2 → jFi E mX8_byteAt d 0 0 [.ref a0, .int x2] S (fun r6 S5 => L_X8_numberInHand_22 E d Q a0 (((10 * x1) + r6) - 48) (x2 + 1) S5))) : L_X8_numberInHand_22 E d Q a0 x1 x2 S := by
  show jX E mX8_numberInHand (jRm (d + 1) 0 0) (jZm E (fun r S' => ∃ v : Int32, r = some (.int v) ∧ Q v S') 0 0) 22 [(0, .ref a0), (1, .int x1), (2, .int x2)] [] S 0 0
  refine jx_iload_n 2 dX8_numberInHand_22 rfl rfl ?_
  refine jx_aload_n 0 dX8_numberInHand_23 rfl rfl ?_
  obtain ⟨hk3, h⟩ := h
  refine jx_geti jc_8 (j := 3) (by decide) rfl jwF_X8_26 dX8_numberInHand_24 hk3 ?_
  refine jx_icmp_ge (tgt := 50) dX8_numberInHand_27 (by decide) (fun c4 => ?_) (fun c4 => ?_)
  · replace h := h.1 c4
    refine jx_iload_n 1 dX8_numberInHand_50 rfl rfl ?_
    exact jx_iret dX8_numberInHand_51 rfl rfl (jle rfl) (jle rfl) ⟨_, rfl, h⟩
  replace h := h.2 c4
  refine jx_bipush (v := 10) dX8_numberInHand_30 (by decide) ?_
  refine jx_iload_n 1 dX8_numberInHand_32 rfl rfl ?_
  refine jx_imul dX8_numberInHand_33 ?_
  refine jx_aload_n 0 dX8_numberInHand_34 rfl rfl ?_
  refine jx_iload_n 2 dX8_numberInHand_35 rfl rfl ?_
  refine jx_callVi (M' := mX8_byteAt) (As := [.int x2]) jo_X8_byteAt jc_8 rfl jwM_X8_66 jwN_X8_byteAt jwX_X8_byteAt dX8_numberInHand_36 (jRok_m _ _ _) rfl (jle rfl) ⟨jle rfl, jle rfl⟩ hk3 h (fun r6 S5 h => ?_)
  refine jx_iadd dX8_numberInHand_39 ?_
  refine jx_bipush (v := 48) dX8_numberInHand_40 (by decide) ?_
  refine jx_isub dX8_numberInHand_42 ?_
  refine jx_istore_n (lv1 := [(1, .int (((10 * x1) + r6) - 48)), (0, .ref a0), (2, .int x2)]) dX8_numberInHand_43 rfl (by decide) rfl ?_
  refine jx_iinc 2 (v := (x2 + 1)) (lv1 := [(2, .int (x2 + 1)), (1, .int (((10 * x1) + r6) - 48)), (0, .ref a0)]) kd40.1 rfl rfl (by decide) rfl ?_
  refine jx_goto (tgt := 22) kd40.2 (by decide) ?_
  exact jx_lv [2, 1, 0] rfl h
set_option maxRecDepth 100000 in
set_option maxHeartbeats 4000000 in
theorem T_X8_write {E : jEnv} {d : Nat} {Q : jM → Prop} {a0 : Nat} {x1 : Int32} {S : jM} (h : jk S a0 = 8 ∧ ((jwi (ji S a0 9) 96) = 0 → Q S) ∧ (¬ (jwi (ji S a0 9) 96) = 0 → ∃ b6, jr S a0 8 = some b6 ∧ (jk S b6 = 12 ∧ vp_in (ji S a0 9) (jl S b6) ∧ (Q (jput (jput S b6 (Int32.toNatClampNeg (ji S a0 9)) x1) a0 9 ((ji S a0 9) + 1)))))) : jFv E mX8_write (d + 1) 0 0 [.ref a0, .int x1] S Q := by
  refine jF_of (by decide) (jle rfl) ?_
  refine jx_lv (lv1 := [(0, .ref a0), (1, .int x1)]) [0, 1] rfl ?_
  refine jx_aload_n 0 dX8_write_0 rfl rfl ?_
  obtain ⟨hk1, h⟩ := h
  refine jx_geti jc_8 (j := 9) (by decide) rfl jwF_X8_35 dX8_write_1 hk1 ?_
  refine jx_bipush (v := 96) dX8_write_4 (by decide) ?_
  refine jx_callSNi (M' := mX10_within) (As := [.int (ji S a0 9), .int 96]) (host := "NineMasters") jo_X10_within (by decide) jwS_X10_within dX8_write_6 (jRok_m _ _ _) rfl (jle rfl) ⟨jle rfl, jle rfl⟩ (c_X10_within (Q := fun v S' => v = (jwi (ji S a0 9) 96) ∧ S = S') ⟨rfl, rfl⟩) (fun r2 S3 hq4 => ?_)
  obtain ⟨rfl, rfl⟩ := hq4
  refine jx_if_eq (tgt := 32) dX8_write_9 (by decide) (fun c5 => ?_) (fun c5 => ?_)
  · replace h := h.1 c5
    exact jx_vret dX8_write_32 rfl (jle rfl) (jle rfl) ⟨rfl, h⟩
  replace h := h.2 c5
  refine jx_aload_n 0 dX8_write_12 rfl rfl ?_
  obtain ⟨b6, hb6, h⟩ := h
  refine jx_getr jc_8 (j := 8) (by decide) rfl jwF_X8_15 dX8_write_13 hk1 hb6 ?_
  refine jx_aload_n 0 dX8_write_16 rfl rfl ?_
  refine jx_geti jc_8 (j := 9) (by decide) rfl jwF_X8_35 dX8_write_17 hk1 ?_
  refine jx_iload_n 1 dX8_write_20 rfl rfl ?_
  obtain ⟨hk7, h⟩ := h
  obtain ⟨hi8, h⟩ := h
  refine jx_iast dX8_write_21 hk7 hi8 ?_
  refine jx_aload_n 0 dX8_write_22 rfl rfl ?_
  refine jx_dup dX8_write_23 rfl ?_
  refine jx_geti jc_8 (j := 9) (by decide) rfl jwF_X8_35 dX8_write_24 hk1 ?_
  refine jx_topi (y := (ji S a0 9)) (by simp [ji_put, ji_row, ji_putr, jne hk1 hk7 (by decide)]) ?_
  refine jx_iconst (v := 1) dX8_write_27 (by decide) ?_
  refine jx_iadd dX8_write_28 ?_
  refine jx_puti jc_8 (j := 9) (by decide) rfl jwF_X8_35 rfl rfl rfl dX8_write_29 hk1 ?_
  exact jx_vret dX8_write_32 rfl (jle rfl) (jle rfl) ⟨rfl, h⟩
set_option maxRecDepth 100000 in
set_option maxHeartbeats 4000000 in
theorem T_X3_init {E : jEnv} {d : Nat} {Q : jM → Prop} {a0 : Nat} {S : jM} (h : ∀ q1, q1 = jn S → jFv E mX0_init d 10 72 [.ref q1] (jnew S 0 0) (fun S2 => jk S2 a0 = 3 ∧ ∀ q5, q5 = jn (jputr S2 a0 0 (some q1)) → jFv E mX4_init d 2 72 [.ref q5] (jnew (jputr S2 a0 0 (some q1)) 4 0) (fun S6 => jk S6 a0 = 3 ∧ ∀ q9, q9 = jn (jputr S6 a0 1 (some q5)) → jFv E mX1_init d 2 20 [.ref q9] (jnew (jputr S6 a0 1 (some q5)) 1 0) (fun S10 => jk S10 a0 = 3 ∧ ∀ q13, q13 = jn (jputr S10 a0 2 (some q9)) → jk (jnew (jputr S10 a0 2 (some q9)) 12 6) a0 = 3 ∧ ∀ q16, q16 = jn (jputr (jnew (jputr S10 a0 2 (some q9)) 12 6) a0 3 (some q13)) → jk (jnew (jputr (jnew (jputr S10 a0 2 (some q9)) 12 6) a0 3 (some q13)) 16 14) a0 = 3 ∧ Q (jputr (jnew (jputr (jnew (jputr S10 a0 2 (some q9)) 12 6) a0 3 (some q13)) 16 14) a0 5 (some q16)))))) : jFv E mX3_init (d + 1) 19 196 [.ref a0] S Q := by
  refine jF_of (by decide) (jle rfl) ?_
  refine jx_lv (lv1 := [(0, .ref a0)]) [0] rfl ?_
  refine jx_aload_n 0 dX3_init_0 rfl rfl ?_
  refine jx_objInit jwM_X3_3 jwN_obj jwO_obj dX3_init_1 (jRok_m _ _ _) (jle rfl) ?_
  refine jx_aload_n 0 dX3_init_4 rfl rfl ?_
  refine jx_new jc_0 jwK_X3_9 jwI_X0 jwZ_X0 jdv_0 dX3_init_5 ⟨jle rfl, jle rfl⟩ ?_
  obtain ⟨q1, hq1⟩ : ∃ q, q = jn S := ⟨_, rfl⟩
  rw [← hq1]
  replace h := h q1 hq1
  refine jx_dup dX3_init_8 rfl ?_
  refine jx_callIv (M' := mX0_init) (As := []) (b := q1) jo_X0_init rfl jwM_X3_11 jwN_X0_init rfl dX3_init_9 (jRok_m _ _ _) rfl (jle rfl) ⟨jle rfl, jle rfl⟩ h (fun S2 h => ?_)
  obtain ⟨hk3, h⟩ := h
  refine jx_putrF jc_3 (j := 0) (by decide) rfl jwF_X3_12 rfl rfl rfl rfl rfl dX3_init_12 hk3 ?_
  refine jx_aload_n 0 dX3_init_15 rfl rfl ?_
  refine jx_new jc_4 jwK_X3_18 jwI_X4 jwZ_X4 jdv_4 dX3_init_16 ⟨jle rfl, jle rfl⟩ ?_
  obtain ⟨q5, hq5⟩ : ∃ q, q = jn (jputr S2 a0 0 (some q1)) := ⟨_, rfl⟩
  rw [← hq5]
  replace h := h q5 hq5
  refine jx_dup dX3_init_19 rfl ?_
  refine jx_callIv (M' := mX4_init) (As := []) (b := q5) jo_X4_init rfl jwM_X3_20 jwN_X4_init rfl dX3_init_20 (jRok_m _ _ _) rfl (jle rfl) ⟨jle rfl, jle rfl⟩ h (fun S6 h => ?_)
  obtain ⟨hk7, h⟩ := h
  refine jx_putrF jc_3 (j := 1) (by decide) rfl jwF_X3_21 rfl rfl rfl rfl rfl dX3_init_23 hk7 ?_
  refine jx_aload_n 0 dX3_init_26 rfl rfl ?_
  refine jx_new jc_1 jwK_X3_25 jwI_X1 jwZ_X1 jdv_1 dX3_init_27 ⟨jle rfl, jle rfl⟩ ?_
  obtain ⟨q9, hq9⟩ : ∃ q, q = jn (jputr S6 a0 1 (some q5)) := ⟨_, rfl⟩
  rw [← hq9]
  replace h := h q9 hq9
  refine jx_dup dX3_init_30 rfl ?_
  refine jx_callINv (M' := mX1_init) (As := []) (b := q9) (host := "NineMasters") jo_X1_init rfl (by decide) jwN_X1_init rfl dX3_init_31 (jRok_m _ _ _) rfl (jle rfl) ⟨jle rfl, jle rfl⟩ h (fun S10 h => ?_)
  obtain ⟨hk11, h⟩ := h
  refine jx_putrF jc_3 (j := 2) (by decide) rfl jwF_X3_28 rfl rfl rfl rfl rfl dX3_init_34 hk11 ?_
  refine jx_aload_n 0 dX3_init_37 rfl rfl ?_
  refine jx_bipush (v := 6) dX3_init_38 (by decide) ?_
  refine jx_newa (N := 6) jwA kd15 (by decide) (by decide) (by decide) ⟨jle rfl, jle rfl⟩ ?_
  obtain ⟨q13, hq13⟩ : ∃ q, q = jn (jputr S10 a0 2 (some q9)) := ⟨_, rfl⟩
  rw [← hq13]
  replace h := h q13 hq13
  obtain ⟨hk14, h⟩ := h
  refine jx_putrF jc_3 (j := 3) (by decide) rfl jwF_X3_32 rfl rfl rfl rfl rfl dX3_init_42 hk14 ?_
  refine jx_aload_n 0 dX3_init_45 rfl rfl ?_
  refine jx_bipush (v := 14) dX3_init_46 (by decide) ?_
  refine jx_anew (kk := 16) (N := 14) jc_9 (by decide) (by decide) rfl jwK_X3_36 dX3_init_48 (by decide) (by decide) (by decide) ⟨jle rfl, jle rfl⟩ ?_
  obtain ⟨q16, hq16⟩ : ∃ q, q = jn (jputr (jnew (jputr S10 a0 2 (some q9)) 12 6) a0 3 (some q13)) := ⟨_, rfl⟩
  rw [← hq16]
  replace h := h q16 hq16
  obtain ⟨hk17, h⟩ := h
  refine jx_putrF jc_3 (j := 5) (by decide) rfl jwF_X3_38 rfl rfl rfl rfl rfl dX3_init_51 hk17 ?_
  exact jx_vret dX3_init_54 rfl (jle rfl) (jle rfl) ⟨rfl, h⟩
/-- X3_become at its loop's head 58 -/
abbrev L_X3_become_58 (E : jEnv) (d : Nat) (Q : jM → Prop) (a0 : Nat) (a1 : Nat) (x2 : Int32) (S : jM) : Prop := jX E mX3_become (jRm (d + 1) 0 0) (jZm E (fun r S' => r = none ∧ Q S') 0 0) 58 [(0, .ref a0), (1, .ref a1), (2, .int x2)] [] S 0 0
set_option maxRecDepth 100000 in
set_option maxHeartbeats 4000000 in
theorem T_X3_become {E : jEnv} {d : Nat} {Q : jM → Prop} {a0 : Nat} {a1 : Nat} {S : jM} (h : jk S a0 = 3 ∧ ∃ b2, jr S a0 0 = some b2 ∧ (jk S a1 = 3 ∧ ∃ b4, jr S a1 0 = some b4 ∧ (jk S b2 = 0 ∧ jFv E mX0_become d 0 0 [.ref b2, .ref b4] S (fun S6 => jk S6 a0 = 3 ∧ ∃ b8, jr S6 a0 1 = some b8 ∧ (jk S6 a1 = 3 ∧ ∃ b10, jr S6 a1 1 = some b10 ∧ (jk S6 b8 = 4 ∧ jFv E mX4_become d 0 0 [.ref b8, .ref b10] S6 (fun S12 => jk S12 a0 = 3 ∧ ∃ b14, jr S12 a0 2 = some b14 ∧ (jk S12 a1 = 3 ∧ ∃ b16, jr S12 a1 2 = some b16 ∧ (jk S12 b14 = 1 ∧ jFv E mX1_become d 0 0 [.ref b14, .ref b16] S12 (fun S18 => jk S18 a1 = 3 ∧ ∃ b20, jr S18 a1 3 = some b20 ∧ (jk S18 a0 = 3 ∧ ∃ b22, jr S18 a0 3 = some b22 ∧ (jk S18 b20 = 12 ∧ jk S18 b22 = 12 ∧ (¬ (0 : Int32) < 0 ∧ ¬ (0 : Int32) < 0 ∧ ¬ (6 : Int32) < 0 ∧ (Int32.toNatClampNeg 0) + (Int32.toNatClampNeg 6) ≤ jl S18 b20 ∧ (Int32.toNatClampNeg 0) + (Int32.toNatClampNeg 6) ≤ jl S18 b22) ∧ (L_X3_become_58 E d Q a0 a1 0 (jput (jrow S18 b22 (va_cpy (ji S18 b20) (ji S18 b22) (Int32.toNatClampNeg 0) (Int32.toNatClampNeg 0) (Int32.toNatClampNeg 6))) a0 4 (ji S18 a1 4))))))))))))))) : jFv E mX3_become (d + 1) 0 0 [.ref a0, .ref a1] S Q := by
  refine jF_of (by decide) (jle rfl) ?_
  refine jx_lv (lv1 := [(0, .ref a0), (1, .ref a1)]) [0, 1] rfl ?_
  refine jx_aload_n 0 dX3_become_0 rfl rfl ?_
  obtain ⟨hk1, h⟩ := h
  obtain ⟨b2, hb2, h⟩ := h
  refine jx_getr jc_3 (j := 0) (by decide) rfl jwF_X3_12 dX3_become_1 hk1 hb2 ?_
  refine jx_aload_n 1 dX3_become_4 rfl rfl ?_
  obtain ⟨hk3, h⟩ := h
  obtain ⟨b4, hb4, h⟩ := h
  refine jx_getr jc_3 (j := 0) (by decide) rfl jwF_X3_12 dX3_become_5 hk3 hb4 ?_
  obtain ⟨hk5, h⟩ := h
  refine jx_callVv (M' := mX0_become) (As := [.ref b4]) jo_X0_become jc_0 rfl jwM_X3_42 jwN_X0_become jwX_X0_become dX3_become_8 (jRok_m _ _ _) rfl (jle rfl) ⟨jle rfl, jle rfl⟩ hk5 h (fun S6 h => ?_)
  refine jx_aload_n 0 dX3_become_11 rfl rfl ?_
  obtain ⟨hk7, h⟩ := h
  obtain ⟨b8, hb8, h⟩ := h
  refine jx_getr jc_3 (j := 1) (by decide) rfl jwF_X3_21 dX3_become_12 hk7 hb8 ?_
  refine jx_aload_n 1 dX3_become_15 rfl rfl ?_
  obtain ⟨hk9, h⟩ := h
  obtain ⟨b10, hb10, h⟩ := h
  refine jx_getr jc_3 (j := 1) (by decide) rfl jwF_X3_21 dX3_become_16 hk9 hb10 ?_
  obtain ⟨hk11, h⟩ := h
  refine jx_callVv (M' := mX4_become) (As := [.ref b10]) jo_X4_become jc_4 rfl jwM_X3_46 jwN_X4_become jwX_X4_become dX3_become_19 (jRok_m _ _ _) rfl (jle rfl) ⟨jle rfl, jle rfl⟩ hk11 h (fun S12 h => ?_)
  refine jx_aload_n 0 dX3_become_22 rfl rfl ?_
  obtain ⟨hk13, h⟩ := h
  obtain ⟨b14, hb14, h⟩ := h
  refine jx_getr jc_3 (j := 2) (by decide) rfl jwF_X3_28 dX3_become_23 hk13 hb14 ?_
  refine jx_aload_n 1 dX3_become_26 rfl rfl ?_
  obtain ⟨hk15, h⟩ := h
  obtain ⟨b16, hb16, h⟩ := h
  refine jx_getr jc_3 (j := 2) (by decide) rfl jwF_X3_28 dX3_become_27 hk15 hb16 ?_
  obtain ⟨hk17, h⟩ := h
  refine jx_callVv (M' := mX1_become) (As := [.ref b16]) jo_X1_become jc_1 rfl jwM_X3_49 jwN_X1_become jwX_X1_become dX3_become_30 (jRok_m _ _ _) rfl (jle rfl) ⟨jle rfl, jle rfl⟩ hk17 h (fun S18 h => ?_)
  refine jx_aload_n 1 dX3_become_33 rfl rfl ?_
  obtain ⟨hk19, h⟩ := h
  obtain ⟨b20, hb20, h⟩ := h
  refine jx_getr jc_3 (j := 3) (by decide) rfl jwF_X3_32 dX3_become_34 hk19 hb20 ?_
  refine jx_iconst (v := 0) dX3_become_37 (by decide) ?_
  refine jx_aload_n 0 dX3_become_38 rfl rfl ?_
  obtain ⟨hk21, h⟩ := h
  obtain ⟨b22, hb22, h⟩ := h
  refine jx_getr jc_3 (j := 3) (by decide) rfl jwF_X3_32 dX3_become_39 hk21 hb22 ?_
  refine jx_iconst (v := 0) dX3_become_42 (by decide) ?_
  refine jx_bipush (v := 6) dX3_become_43 (by decide) ?_
  obtain ⟨hk23, h⟩ := h
  obtain ⟨hk24, h⟩ := h
  obtain ⟨⟨hc25, hc26, hc27, hc28, hc29⟩, h⟩ := h
  refine jx_copy jwM_X3_52 jwV_copy jwS_copy jwZ_J10 dX3_become_45 (jRok_m _ _ _) (jle rfl) hk23 hk24 hc25 hc26 hc27 hc28 hc29 ?_
  refine jx_aload_n 0 dX3_become_48 rfl rfl ?_
  refine jx_aload_n 1 dX3_become_49 rfl rfl ?_
  refine jx_geti jc_3 (j := 4) (by decide) rfl jwF_X3_58 dX3_become_50 hk19 ?_
  refine jx_topi (y := (ji S18 a1 4)) (by simp [ji_put, ji_row, ji_putr, jne hk19 hk24 (by decide)]) ?_
  refine jx_puti jc_3 (j := 4) (by decide) rfl jwF_X3_58 rfl rfl rfl dX3_become_53 hk21 ?_
  refine jx_iconst (v := 0) dX3_become_56 (by decide) ?_
  refine jx_istore_n (lv1 := [(2, .int 0), (0, .ref a0), (1, .ref a1)]) dX3_become_57 rfl (by decide) rfl ?_
  exact jx_lv [1, 2, 0] rfl h
set_option maxRecDepth 100000 in
set_option maxHeartbeats 4000000 in
theorem T_X3_become_58 {E : jEnv} {d : Nat} {Q : jM → Prop} {a0 : Nat} {a1 : Nat} {x2 : Int32} {S : jM} (h : (14 ≤ x2 → jk S a1 = 3 ∧ jk S a0 = 3 ∧ Q (jput S a0 6 (ji S a1 6))) ∧ (¬ 14 ≤ x2 → jk S a0 = 3 ∧ ∃ b34, jr S a0 5 = some b34 ∧ (jk S a1 = 3 ∧ ∃ b36, jr S a1 5 = some b36 ∧ (jk S b36 = 16 ∧ vp_in x2 (jl S b36) ∧ (jr S b36 (Int32.toNatClampNeg x2) = none → jk S b34 = 16 ∧ vp_in x2 (jl S b34) ∧ (L_X3_become_58 E d Q a0 a1 (x2 + 1) (jputr S b34 (Int32.toNatClampNeg x2) none))) ∧ (∀ b40, jr S b36 (Int32.toNatClampNeg x2) = some b40 → jk S b34 = 16 ∧ jk S b40 = 9 ∧ vp_in x2 (jl S b34) ∧ (L_X3_become_58 E d Q a0 a1 (x2 + 1) (jputr S b34 (Int32.toNatClampNeg x2) (some b40)))))))) : L_X3_become_58 E d Q a0 a1 x2 S := by
  show jX E mX3_become (jRm (d + 1) 0 0) (jZm E (fun r S' => r = none ∧ Q S') 0 0) 58 [(0, .ref a0), (1, .ref a1), (2, .int x2)] [] S 0 0
  refine jx_iload_n 2 dX3_become_58 rfl rfl ?_
  refine jx_bipush (v := 14) dX3_become_59 (by decide) ?_
  refine jx_icmp_ge (tgt := 82) dX3_become_61 (by decide) (fun c30 => ?_) (fun c30 => ?_)
  · replace h := h.1 c30
    refine jx_aload_n 0 dX3_become_82 rfl rfl ?_
    refine jx_aload_n 1 dX3_become_83 rfl rfl ?_
    obtain ⟨hk31, h⟩ := h
    refine jx_geti jc_3 (j := 6) (by decide) rfl jwF_X3_62 dX3_become_84 hk31 ?_
    obtain ⟨hk32, h⟩ := h
    refine jx_puti jc_3 (j := 6) (by decide) rfl jwF_X3_62 rfl rfl rfl dX3_become_87 hk32 ?_
    exact jx_vret dX3_become_90 rfl (jle rfl) (jle rfl) ⟨rfl, h⟩
  replace h := h.2 c30
  refine jx_aload_n 0 dX3_become_64 rfl rfl ?_
  obtain ⟨hk33, h⟩ := h
  obtain ⟨b34, hb34, h⟩ := h
  refine jx_getr jc_3 (j := 5) (by decide) rfl jwF_X3_38 dX3_become_65 hk33 hb34 ?_
  refine jx_iload_n 2 dX3_become_68 rfl rfl ?_
  refine jx_aload_n 1 dX3_become_69 rfl rfl ?_
  obtain ⟨hk35, h⟩ := h
  obtain ⟨b36, hb36, h⟩ := h
  refine jx_getr jc_3 (j := 5) (by decide) rfl jwF_X3_38 dX3_become_70 hk35 hb36 ?_
  refine jx_iload_n 2 dX3_become_73 rfl rfl ?_
  obtain ⟨hk37, h⟩ := h
  obtain ⟨hi38, h⟩ := h
  rcases hb39 : jr S b36 (Int32.toNatClampNeg x2) with _ | b40
  · replace h := h.1 hb39
    refine jx_aaldN dX3_become_74 hk37 (by decide) (by decide) hi38 hb39 ?_
    obtain ⟨hk41, h⟩ := h
    obtain ⟨hi42, h⟩ := h
    refine jx_aastN dX3_become_75 hk41 (by decide) (by decide) hi42 ?_
    refine jx_iinc 2 (v := (x2 + 1)) (lv1 := [(2, .int (x2 + 1)), (0, .ref a0), (1, .ref a1)]) kd16.1 rfl rfl (by decide) rfl ?_
    refine jx_goto (tgt := 58) kd16.2 (by decide) ?_
    exact jx_lv [1, 2, 0] rfl h
  replace h := h.2 b40 hb39
  refine jx_aaldS dX3_become_74 hk37 (by decide) (by decide) hi38 hb39 ?_
  obtain ⟨hk43, h⟩ := h
  obtain ⟨hk45, h⟩ := h
  obtain ⟨hi44, h⟩ := h
  refine jx_aast dX3_become_75 hk43 (by decide) (by decide) jc_9 rfl hk45 hi44 ?_
  refine jx_iinc 2 (v := (x2 + 1)) (lv1 := [(2, .int (x2 + 1)), (0, .ref a0), (1, .ref a1)]) kd16.1 rfl rfl (by decide) rfl ?_
  refine jx_goto (tgt := 58) kd16.2 (by decide) ?_
  exact jx_lv [1, 2, 0] rfl h
set_option maxRecDepth 100000 in
set_option maxHeartbeats 4000000 in
theorem T_X3_addWish {E : jEnv} {d : Nat} {Q : Int32 → jM → Prop} {a0 : Nat} {x1 : Int32} {S : jM} (h : jk S a0 = 3 ∧ ((jwi (ji S a0 4) 6) = 0 → Q 0 S) ∧ (¬ (jwi (ji S a0 4) 6) = 0 → ∃ b6, jr S a0 3 = some b6 ∧ (jk S b6 = 12 ∧ vp_in (ji S a0 4) (jl S b6) ∧ (Q 1 (jput (jput S b6 (Int32.toNatClampNeg (ji S a0 4)) x1) a0 4 ((ji S a0 4) + 1)))))) : jFi E mX3_addWish (d + 1) 0 0 [.ref a0, .int x1] S Q := by
  refine jF_of (by decide) (jle rfl) ?_
  refine jx_lv (lv1 := [(0, .ref a0), (1, .int x1)]) [0, 1] rfl ?_
  refine jx_aload_n 0 dX3_addWish_0 rfl rfl ?_
  obtain ⟨hk1, h⟩ := h
  refine jx_geti jc_3 (j := 4) (by decide) rfl jwF_X3_58 dX3_addWish_1 hk1 ?_
  refine jx_bipush (v := 6) dX3_addWish_4 (by decide) ?_
  refine jx_callSNi (M' := mX10_within) (As := [.int (ji S a0 4), .int 6]) (host := "NineMasters") jo_X10_within (by decide) jwS_X10_within dX3_addWish_6 (jRok_m _ _ _) rfl (jle rfl) ⟨jle rfl, jle rfl⟩ (c_X10_within (Q := fun v S' => v = (jwi (ji S a0 4) 6) ∧ S = S') ⟨rfl, rfl⟩) (fun r2 S3 hq4 => ?_)
  obtain ⟨rfl, rfl⟩ := hq4
  refine jx_if_ne (tgt := 14) dX3_addWish_9 (by decide) (fun c5 => ?_) (fun c5 => ?_)
  · replace h := h.2 c5
    refine jx_aload_n 0 dX3_addWish_14 rfl rfl ?_
    obtain ⟨b6, hb6, h⟩ := h
    refine jx_getr jc_3 (j := 3) (by decide) rfl jwF_X3_32 dX3_addWish_15 hk1 hb6 ?_
    refine jx_aload_n 0 dX3_addWish_18 rfl rfl ?_
    refine jx_geti jc_3 (j := 4) (by decide) rfl jwF_X3_58 dX3_addWish_19 hk1 ?_
    refine jx_iload_n 1 dX3_addWish_22 rfl rfl ?_
    obtain ⟨hk7, h⟩ := h
    obtain ⟨hi8, h⟩ := h
    refine jx_iast dX3_addWish_23 hk7 hi8 ?_
    refine jx_aload_n 0 dX3_addWish_24 rfl rfl ?_
    refine jx_dup dX3_addWish_25 rfl ?_
    refine jx_geti jc_3 (j := 4) (by decide) rfl jwF_X3_58 dX3_addWish_26 hk1 ?_
    refine jx_topi (y := (ji S a0 4)) (by simp [ji_put, ji_row, ji_putr, jne hk1 hk7 (by decide)]) ?_
    refine jx_iconst (v := 1) dX3_addWish_29 (by decide) ?_
    refine jx_iadd dX3_addWish_30 ?_
    refine jx_puti jc_3 (j := 4) (by decide) rfl jwF_X3_58 rfl rfl rfl dX3_addWish_31 hk1 ?_
    refine jx_iconst (v := 1) dX3_addWish_34 (by decide) ?_
    exact jx_iret dX3_addWish_35 rfl (by decide) (jle rfl) (jle rfl) ⟨_, rfl, h⟩
  replace h := h.1 c5
  refine jx_iconst (v := 0) dX3_addWish_12 (by decide) ?_
  exact jx_iret dX3_addWish_13 rfl (by decide) (jle rfl) (jle rfl) ⟨_, rfl, h⟩
/-- X3_wishedSet at its loop's head 4 -/
abbrev L_X3_wishedSet_4 (E : jEnv) (d : Nat) (Q : Int32 → jM → Prop) (a0 : Nat) (x1 : Int32) (x2 : Int32) (S : jM) : Prop := jX E mX3_wishedSet (jRm d 0 0) (jZm E (fun r S' => ∃ v : Int32, r = some (.int v) ∧ Q v S') 0 0) 4 [(0, .ref a0), (1, .int x1), (2, .int x2)] [] S 0 0
set_option maxRecDepth 100000 in
set_option maxHeartbeats 4000000 in
theorem T_X3_wishedSet {E : jEnv} {d : Nat} {Q : Int32 → jM → Prop} {a0 : Nat} {S : jM} (h : L_X3_wishedSet_4 E d Q a0 0 0 S) : jFi E mX3_wishedSet d 0 0 [.ref a0] S Q := by
  refine jF_of (by decide) (jle rfl) ?_
  refine jx_lv (lv1 := [(0, .ref a0)]) [0] rfl ?_
  refine jx_iconst (v := 0) dX3_wishedSet_0 (by decide) ?_
  refine jx_istore_n (lv1 := [(1, .int 0), (0, .ref a0)]) dX3_wishedSet_1 rfl (by decide) rfl ?_
  refine jx_iconst (v := 0) dX3_wishedSet_2 (by decide) ?_
  refine jx_istore_n (lv1 := [(2, .int 0), (1, .int 0), (0, .ref a0)]) dX3_wishedSet_3 rfl (by decide) rfl ?_
  exact jx_lv [2, 1, 0] rfl h
set_option maxRecDepth 100000 in
set_option maxHeartbeats 4000000 in
theorem T_X3_wishedSet_4 {E : jEnv} {d : Nat} {Q : Int32 → jM → Prop} {a0 : Nat} {x1 : Int32} {x2 : Int32} {S : jM} (h : jk S a0 = 3 ∧ ((ji S a0 4) ≤ x2 → Q x1 S) ∧ (¬ (ji S a0 4) ≤ x2 → (6 ≤ x2 → Q x1 S) ∧ (¬ 6 ≤ x2 → ∃ b4, jr S a0 3 = some b4 ∧ (jk S b4 = 12 ∧ vp_in x2 (jl S b4) ∧ (L_X3_wishedSet_4 E d Q a0 (x1 ||| (jshl 1 (ji S b4 (Int32.toNatClampNeg x2)))) (x2 + 1) S))))) : L_X3_wishedSet_4 E d Q a0 x1 x2 S := by
  show jX E mX3_wishedSet (jRm d 0 0) (jZm E (fun r S' => ∃ v : Int32, r = some (.int v) ∧ Q v S') 0 0) 4 [(0, .ref a0), (1, .int x1), (2, .int x2)] [] S 0 0
  refine jx_iload_n 2 dX3_wishedSet_4 rfl rfl ?_
  refine jx_aload_n 0 dX3_wishedSet_5 rfl rfl ?_
  obtain ⟨hk1, h⟩ := h
  refine jx_geti jc_3 (j := 4) (by decide) rfl jwF_X3_58 dX3_wishedSet_6 hk1 ?_
  refine jx_icmp_ge (tgt := 35) dX3_wishedSet_9 (by decide) (fun c2 => ?_) (fun c2 => ?_)
  · replace h := h.1 c2
    refine jx_iload_n 1 dX3_wishedSet_35 rfl rfl ?_
    exact jx_iret dX3_wishedSet_36 rfl rfl (jle rfl) (jle rfl) ⟨_, rfl, h⟩
  replace h := h.2 c2
  refine jx_iload_n 2 dX3_wishedSet_12 rfl rfl ?_
  refine jx_bipush (v := 6) dX3_wishedSet_13 (by decide) ?_
  refine jx_icmp_ge (tgt := 35) dX3_wishedSet_15 (by decide) (fun c3 => ?_) (fun c3 => ?_)
  · replace h := h.1 c3
    refine jx_iload_n 1 dX3_wishedSet_35 rfl rfl ?_
    exact jx_iret dX3_wishedSet_36 rfl rfl (jle rfl) (jle rfl) ⟨_, rfl, h⟩
  replace h := h.2 c3
  refine jx_iload_n 1 dX3_wishedSet_18 rfl rfl ?_
  refine jx_iconst (v := 1) dX3_wishedSet_19 (by decide) ?_
  refine jx_aload_n 0 dX3_wishedSet_20 rfl rfl ?_
  obtain ⟨b4, hb4, h⟩ := h
  refine jx_getr jc_3 (j := 3) (by decide) rfl jwF_X3_32 dX3_wishedSet_21 hk1 hb4 ?_
  refine jx_iload_n 2 dX3_wishedSet_24 rfl rfl ?_
  obtain ⟨hk5, h⟩ := h
  obtain ⟨hi6, h⟩ := h
  refine jx_iald dX3_wishedSet_25 hk5 hi6 ?_
  refine jx_ishl dX3_wishedSet_26 ?_
  refine jx_ior dX3_wishedSet_27 ?_
  refine jx_istore_n (lv1 := [(1, .int (x1 ||| (jshl 1 (ji S b4 (Int32.toNatClampNeg x2))))), (0, .ref a0), (2, .int x2)]) dX3_wishedSet_28 rfl (by decide) rfl ?_
  refine jx_iinc 2 (v := (x2 + 1)) (lv1 := [(2, .int (x2 + 1)), (1, .int (x1 ||| (jshl 1 (ji S b4 (Int32.toNatClampNeg x2))))), (0, .ref a0)]) kd17.1 rfl rfl (by decide) rfl ?_
  refine jx_goto (tgt := 4) kd17.2 (by decide) ?_
  exact jx_lv [2, 1, 0] rfl h
set_option maxRecDepth 100000 in
set_option maxHeartbeats 4000000 in
theorem T_X3_canMakeChair {E : jEnv} {d : Nat} {Q : Int32 → jM → Prop} {a0 : Nat} {S : jM} (h : jk S a0 = 3 ∧ jFi E mX3_wishedSet d 0 0 [.ref a0] S (fun r3 S2 => jk S2 a0 = 3 ∧ ∃ b5, jr S2 a0 2 = some b5 ∧ (jk S2 b5 = 1 ∧ ((r3 &&& ((ji S2 b5 1) ^^^ (-1))) = 0 → Q 1 S2) ∧ (¬ (r3 &&& ((ji S2 b5 1) ^^^ (-1))) = 0 → Q 0 S2)))) : jFi E mX3_canMakeChair (d + 1) 0 0 [.ref a0] S Q := by
  refine jF_of (by decide) (jle rfl) ?_
  refine jx_lv (lv1 := [(0, .ref a0)]) [0] rfl ?_
  refine jx_aload_n 0 dX3_canMakeChair_0 rfl rfl ?_
  obtain ⟨hk1, h⟩ := h
  refine jx_callVi (M' := mX3_wishedSet) (As := []) jo_X3_wishedSet jc_3 rfl jwM_X3_69 jwN_X3_wishedSet jwX_X3_wishedSet dX3_canMakeChair_1 (jRok_m _ _ _) rfl (jle rfl) ⟨jle rfl, jle rfl⟩ hk1 h (fun r3 S2 h => ?_)
  refine jx_aload_n 0 dX3_canMakeChair_4 rfl rfl ?_
  obtain ⟨hk4, h⟩ := h
  obtain ⟨b5, hb5, h⟩ := h
  refine jx_getr jc_3 (j := 2) (by decide) rfl jwF_X3_28 dX3_canMakeChair_5 hk4 hb5 ?_
  obtain ⟨hk6, h⟩ := h
  refine jx_geti jc_1 (j := 1) (by decide) rfl jwF_X3_73 dX3_canMakeChair_8 hk6 ?_
  refine jx_iconst (v := (-1)) dX3_canMakeChair_11 (by decide) ?_
  refine jx_ixor dX3_canMakeChair_12 ?_
  refine jx_iand dX3_canMakeChair_13 ?_
  refine jx_if_ne (tgt := 21) dX3_canMakeChair_14 (by decide) (fun c7 => ?_) (fun c7 => ?_)
  · replace h := h.2 c7
    refine jx_iconst (v := 0) dX3_canMakeChair_21 (by decide) ?_
    exact jx_iret dX3_canMakeChair_22 rfl (by decide) (jle rfl) (jle rfl) ⟨_, rfl, h⟩
  replace h := h.1 c7
  refine jx_iconst (v := 1) dX3_canMakeChair_17 (by decide) ?_
  refine jx_goto (tgt := 22) dX3_canMakeChair_18 (by decide) ?_
  exact jx_iret dX3_canMakeChair_22 rfl (by decide) (jle rfl) (jle rfl) ⟨_, rfl, h⟩
/-- X3_makeChair at its loop's head 2 -/
abbrev L_X3_makeChair_2 (E : jEnv) (d : Nat) (Q : jM → Prop) (a0 : Nat) (x1 : Int32) (S : jM) : Prop := jX E mX3_makeChair (jRm (d + 1) 0 0) (jZm E (fun r S' => r = none ∧ Q S') 0 0) 2 [(0, .ref a0), (1, .int x1)] [] S 0 0
set_option maxRecDepth 100000 in
set_option maxHeartbeats 4000000 in
theorem T_X3_makeChair {E : jEnv} {d : Nat} {Q : jM → Prop} {a0 : Nat} {S : jM} (h : L_X3_makeChair_2 E d Q a0 0 S) : jFv E mX3_makeChair (d + 1) 0 0 [.ref a0] S Q := by
  refine jF_of (by decide) (jle rfl) ?_
  refine jx_lv (lv1 := [(0, .ref a0)]) [0] rfl ?_
  refine jx_iconst (v := 0) dX3_makeChair_0 (by decide) ?_
  refine jx_istore_n (lv1 := [(1, .int 0), (0, .ref a0)]) dX3_makeChair_1 rfl (by decide) rfl ?_
  exact jx_lv [1, 0] rfl h
set_option maxRecDepth 100000 in
set_option maxHeartbeats 4000000 in
theorem T_X3_makeChair_2 {E : jEnv} {d : Nat} {Q : jM → Prop} {a0 : Nat} {x1 : Int32} {S : jM} (h : jk S a0 = 3 ∧ ((ji S a0 4) ≤ x1 → Q S) ∧ (¬ (ji S a0 4) ≤ x1 → (6 ≤ x1 → Q S) ∧ (¬ 6 ≤ x1 → ∃ b4, jr S a0 2 = some b4 ∧ (∃ b5, jr S a0 3 = some b5 ∧ (jk S b5 = 12 ∧ vp_in x1 (jl S b5) ∧ (jk S b4 = 1 ∧ jFi E mX1_practise d 0 0 [.ref b4, .int (ji S b5 (Int32.toNatClampNeg x1))] S (fun r10 S9 => L_X3_makeChair_2 E d Q a0 (x1 + 1) S9))))))) : L_X3_makeChair_2 E d Q a0 x1 S := by
  show jX E mX3_makeChair (jRm (d + 1) 0 0) (jZm E (fun r S' => r = none ∧ Q S') 0 0) 2 [(0, .ref a0), (1, .int x1)] [] S 0 0
  refine jx_iload_n 1 dX3_makeChair_2 rfl rfl ?_
  refine jx_aload_n 0 dX3_makeChair_3 rfl rfl ?_
  obtain ⟨hk1, h⟩ := h
  refine jx_geti jc_3 (j := 4) (by decide) rfl jwF_X3_58 dX3_makeChair_4 hk1 ?_
  refine jx_icmp_ge (tgt := 36) dX3_makeChair_7 (by decide) (fun c2 => ?_) (fun c2 => ?_)
  · replace h := h.1 c2
    exact jx_vret dX3_makeChair_36 rfl (jle rfl) (jle rfl) ⟨rfl, h⟩
  replace h := h.2 c2
  refine jx_iload_n 1 dX3_makeChair_10 rfl rfl ?_
  refine jx_bipush (v := 6) dX3_makeChair_11 (by decide) ?_
  refine jx_icmp_ge (tgt := 36) dX3_makeChair_13 (by decide) (fun c3 => ?_) (fun c3 => ?_)
  · replace h := h.1 c3
    exact jx_vret dX3_makeChair_36 rfl (jle rfl) (jle rfl) ⟨rfl, h⟩
  replace h := h.2 c3
  refine jx_aload_n 0 dX3_makeChair_16 rfl rfl ?_
  obtain ⟨b4, hb4, h⟩ := h
  refine jx_getr jc_3 (j := 2) (by decide) rfl jwF_X3_28 dX3_makeChair_17 hk1 hb4 ?_
  refine jx_aload_n 0 dX3_makeChair_20 rfl rfl ?_
  obtain ⟨b5, hb5, h⟩ := h
  refine jx_getr jc_3 (j := 3) (by decide) rfl jwF_X3_32 dX3_makeChair_21 hk1 hb5 ?_
  refine jx_iload_n 1 dX3_makeChair_24 rfl rfl ?_
  obtain ⟨hk6, h⟩ := h
  obtain ⟨hi7, h⟩ := h
  refine jx_iald dX3_makeChair_25 hk6 hi7 ?_
  obtain ⟨hk8, h⟩ := h
  refine jx_callVi (M' := mX1_practise) (As := [.int (ji S b5 (Int32.toNatClampNeg x1))]) jo_X1_practise jc_1 rfl jwM_X3_76 jwN_X1_practise jwX_X1_practise dX3_makeChair_26 (jRok_m _ _ _) rfl (jle rfl) ⟨jle rfl, jle rfl⟩ hk8 h (fun r10 S9 h => ?_)
  refine jx_pop dX3_makeChair_29 rfl ?_
  refine jx_iinc 1 (v := (x1 + 1)) (lv1 := [(1, .int (x1 + 1)), (0, .ref a0)]) kd18.1 rfl rfl (by decide) rfl ?_
  refine jx_goto (tgt := 2) kd18.2 (by decide) ?_
  exact jx_lv [1, 0] rfl h
set_option maxRecDepth 100000 in
set_option maxHeartbeats 4000000 in
theorem T_X3_addText {E : jEnv} {d : Nat} {Q : Int32 → jM → Prop} {a0 : Nat} {a1 : Nat} {S : jM} (h : jk S a0 = 3 ∧ ((jwi (ji S a0 6) 14) = 0 → Q 0 S) ∧ (¬ (jwi (ji S a0 6) 14) = 0 → ∃ b6, jr S a0 5 = some b6 ∧ (jk S b6 = 16 ∧ jk S a1 = 9 ∧ vp_in (ji S a0 6) (jl S b6) ∧ (Q 1 (jput (jputr S b6 (Int32.toNatClampNeg (ji S a0 6)) (some a1)) a0 6 ((ji S a0 6) + 1)))))) : jFi E mX3_addText (d + 1) 0 0 [.ref a0, .ref a1] S Q := by
  refine jF_of (by decide) (jle rfl) ?_
  refine jx_lv (lv1 := [(0, .ref a0), (1, .ref a1)]) [0, 1] rfl ?_
  refine jx_aload_n 0 dX3_addText_0 rfl rfl ?_
  obtain ⟨hk1, h⟩ := h
  refine jx_geti jc_3 (j := 6) (by decide) rfl jwF_X3_62 dX3_addText_1 hk1 ?_
  refine jx_bipush (v := 14) dX3_addText_4 (by decide) ?_
  refine jx_callSNi (M' := mX10_within) (As := [.int (ji S a0 6), .int 14]) (host := "NineMasters") jo_X10_within (by decide) jwS_X10_within dX3_addText_6 (jRok_m _ _ _) rfl (jle rfl) ⟨jle rfl, jle rfl⟩ (c_X10_within (Q := fun v S' => v = (jwi (ji S a0 6) 14) ∧ S = S') ⟨rfl, rfl⟩) (fun r2 S3 hq4 => ?_)
  obtain ⟨rfl, rfl⟩ := hq4
  refine jx_if_ne (tgt := 14) dX3_addText_9 (by decide) (fun c5 => ?_) (fun c5 => ?_)
  · replace h := h.2 c5
    refine jx_aload_n 0 dX3_addText_14 rfl rfl ?_
    obtain ⟨b6, hb6, h⟩ := h
    refine jx_getr jc_3 (j := 5) (by decide) rfl jwF_X3_38 dX3_addText_15 hk1 hb6 ?_
    refine jx_aload_n 0 dX3_addText_18 rfl rfl ?_
    refine jx_geti jc_3 (j := 6) (by decide) rfl jwF_X3_62 dX3_addText_19 hk1 ?_
    refine jx_aload_n 1 dX3_addText_22 rfl rfl ?_
    obtain ⟨hk7, h⟩ := h
    obtain ⟨hk9, h⟩ := h
    obtain ⟨hi8, h⟩ := h
    refine jx_aast dX3_addText_23 hk7 (by decide) (by decide) jc_9 rfl hk9 hi8 ?_
    refine jx_aload_n 0 dX3_addText_24 rfl rfl ?_
    refine jx_dup dX3_addText_25 rfl ?_
    refine jx_geti jc_3 (j := 6) (by decide) rfl jwF_X3_62 dX3_addText_26 hk1 ?_
    refine jx_topi (y := (ji S a0 6)) (by simp [ji_put, ji_row, ji_putr]) ?_
    refine jx_iconst (v := 1) dX3_addText_29 (by decide) ?_
    refine jx_iadd dX3_addText_30 ?_
    refine jx_puti jc_3 (j := 6) (by decide) rfl jwF_X3_62 rfl rfl rfl dX3_addText_31 hk1 ?_
    refine jx_iconst (v := 1) dX3_addText_34 (by decide) ?_
    exact jx_iret dX3_addText_35 rfl (by decide) (jle rfl) (jle rfl) ⟨_, rfl, h⟩
  replace h := h.1 c5
  refine jx_iconst (v := 0) dX3_addText_12 (by decide) ?_
  exact jx_iret dX3_addText_13 rfl (by decide) (jle rfl) (jle rfl) ⟨_, rfl, h⟩
set_option maxRecDepth 100000 in
set_option maxHeartbeats 4000000 in
theorem T_X3_findText {E : jEnv} {d : Nat} {Q : Option Nat → jM → Prop} {a0 : Nat} {x1 : Int32} {S : jM} (h : jk S a0 = 3 ∧ ((jwi x1 (ji S a0 6)) = 0 → Q none S) ∧ (¬ (jwi x1 (ji S a0 6)) = 0 → (14 ≤ x1 → Q none S) ∧ (¬ 14 ≤ x1 → ∃ b7, jr S a0 5 = some b7 ∧ (jk S b7 = 16 ∧ vp_in x1 (jl S b7) ∧ (jr S b7 (Int32.toNatClampNeg x1) = none → Q none S) ∧ (∀ b11, jr S b7 (Int32.toNatClampNeg x1) = some b11 → Q (some b11) S))))) : jFr E mX3_findText (d + 1) 0 0 [.ref a0, .int x1] S Q := by
  refine jF_of (by decide) (jle rfl) ?_
  refine jx_lv (lv1 := [(0, .ref a0), (1, .int x1)]) [0, 1] rfl ?_
  refine jx_iload_n 1 dX3_findText_0 rfl rfl ?_
  refine jx_aload_n 0 dX3_findText_1 rfl rfl ?_
  obtain ⟨hk1, h⟩ := h
  refine jx_geti jc_3 (j := 6) (by decide) rfl jwF_X3_62 dX3_findText_2 hk1 ?_
  refine jx_callSNi (M' := mX10_within) (As := [.int x1, .int (ji S a0 6)]) (host := "NineMasters") jo_X10_within (by decide) jwS_X10_within dX3_findText_5 (jRok_m _ _ _) rfl (jle rfl) ⟨jle rfl, jle rfl⟩ (c_X10_within (Q := fun v S' => v = (jwi x1 (ji S a0 6)) ∧ S = S') ⟨rfl, rfl⟩) (fun r2 S3 hq4 => ?_)
  obtain ⟨rfl, rfl⟩ := hq4
  refine jx_if_eq (tgt := 26) dX3_findText_8 (by decide) (fun c5 => ?_) (fun c5 => ?_)
  · replace h := h.1 c5
    refine jx_null dX3_findText_26 ?_
    exact jx_aret (o := none) dX3_findText_27 rfl (jle rfl) (jle rfl) ⟨_, rfl, h⟩
  replace h := h.2 c5
  refine jx_iload_n 1 dX3_findText_11 rfl rfl ?_
  refine jx_bipush (v := 14) dX3_findText_12 (by decide) ?_
  refine jx_icmp_ge (tgt := 26) dX3_findText_14 (by decide) (fun c6 => ?_) (fun c6 => ?_)
  · replace h := h.1 c6
    refine jx_null dX3_findText_26 ?_
    exact jx_aret (o := none) dX3_findText_27 rfl (jle rfl) (jle rfl) ⟨_, rfl, h⟩
  replace h := h.2 c6
  refine jx_aload_n 0 dX3_findText_17 rfl rfl ?_
  obtain ⟨b7, hb7, h⟩ := h
  refine jx_getr jc_3 (j := 5) (by decide) rfl jwF_X3_38 dX3_findText_18 hk1 hb7 ?_
  refine jx_iload_n 1 dX3_findText_21 rfl rfl ?_
  obtain ⟨hk8, h⟩ := h
  obtain ⟨hi9, h⟩ := h
  rcases hb10 : jr S b7 (Int32.toNatClampNeg x1) with _ | b11
  · replace h := h.1 hb10
    refine jx_aaldN dX3_findText_22 hk8 (by decide) (by decide) hi9 hb10 ?_
    refine jx_goto (tgt := 27) dX3_findText_23 (by decide) ?_
    exact jx_aret (o := none) dX3_findText_27 rfl (jle rfl) (jle rfl) ⟨_, rfl, h⟩
  replace h := h.2 b11 hb10
  refine jx_aaldS dX3_findText_22 hk8 (by decide) (by decide) hi9 hb10 ?_
  refine jx_goto (tgt := 27) dX3_findText_23 (by decide) ?_
  exact jx_aret (o := (some b11)) dX3_findText_27 rfl (jle rfl) (jle rfl) ⟨_, rfl, h⟩
/-- X3_numberOfLaw at its loop's head 4 -/
abbrev L_X3_numberOfLaw_4 (E : jEnv) (d : Nat) (Q : Int32 → jM → Prop) (a0 : Nat) (x1 : Int32) (x2 : Int32) (x3 : Int32) (S : jM) : Prop := jX E mX3_numberOfLaw (jRm d 0 0) (jZm E (fun r S' => ∃ v : Int32, r = some (.int v) ∧ Q v S') 0 0) 4 [(0, .ref a0), (1, .int x1), (2, .int x2), (3, .int x3)] [] S 0 0
set_option maxRecDepth 100000 in
set_option maxHeartbeats 4000000 in
theorem T_X3_numberOfLaw {E : jEnv} {d : Nat} {Q : Int32 → jM → Prop} {a0 : Nat} {x1 : Int32} {S : jM} (h : L_X3_numberOfLaw_4 E d Q a0 x1 (-1) 0 S) : jFi E mX3_numberOfLaw d 0 0 [.ref a0, .int x1] S Q := by
  refine jF_of (by decide) (jle rfl) ?_
  refine jx_lv (lv1 := [(0, .ref a0), (1, .int x1)]) [0, 1] rfl ?_
  refine jx_iconst (v := (-1)) dX3_numberOfLaw_0 (by decide) ?_
  refine jx_istore_n (lv1 := [(2, .int (-1)), (0, .ref a0), (1, .int x1)]) dX3_numberOfLaw_1 rfl (by decide) rfl ?_
  refine jx_iconst (v := 0) dX3_numberOfLaw_2 (by decide) ?_
  refine jx_istore_n (lv1 := [(3, .int 0), (2, .int (-1)), (0, .ref a0), (1, .int x1)]) dX3_numberOfLaw_3 rfl (by decide) rfl ?_
  exact jx_lv [2, 3, 1, 0] rfl h
set_option maxRecDepth 100000 in
set_option maxHeartbeats 4000000 in
theorem T_X3_numberOfLaw_4 {E : jEnv} {d : Nat} {Q : Int32 → jM → Prop} {a0 : Nat} {x1 : Int32} {x2 : Int32} {x3 : Int32} {S : jM} (h : jk S a0 = 3 ∧ ((ji S a0 6) ≤ x3 → Q x2 S) ∧ (¬ (ji S a0 6) ≤ x3 → (14 ≤ x3 → Q x2 S) ∧ (¬ 14 ≤ x3 → ∃ b4, jr S a0 5 = some b4 ∧ (jk S b4 = 16 ∧ vp_in x3 (jl S b4) ∧ (jr S b4 (Int32.toNatClampNeg x3) = none → L_X3_numberOfLaw_4 E d Q a0 x1 x2 (x3 + 1) S) ∧ (∀ b8, jr S b4 (Int32.toNatClampNeg x3) = some b8 → jk S b8 = 9 ∧ ((ji S b8 0) = x1 → L_X3_numberOfLaw_4 E d Q a0 x1 x3 (x3 + 1) S) ∧ (¬ (ji S b8 0) = x1 → L_X3_numberOfLaw_4 E d Q a0 x1 x2 (x3 + 1) S)))))) : L_X3_numberOfLaw_4 E d Q a0 x1 x2 x3 S := by
  show jX E mX3_numberOfLaw (jRm d 0 0) (jZm E (fun r S' => ∃ v : Int32, r = some (.int v) ∧ Q v S') 0 0) 4 [(0, .ref a0), (1, .int x1), (2, .int x2), (3, .int x3)] [] S 0 0
  refine jx_iload_n 3 dX3_numberOfLaw_4 rfl rfl ?_
  refine jx_aload_n 0 dX3_numberOfLaw_5 rfl rfl ?_
  obtain ⟨hk1, h⟩ := h
  refine jx_geti jc_3 (j := 6) (by decide) rfl jwF_X3_62 dX3_numberOfLaw_6 hk1 ?_
  refine jx_icmp_ge (tgt := 48) dX3_numberOfLaw_9 (by decide) (fun c2 => ?_) (fun c2 => ?_)
  · replace h := h.1 c2
    refine jx_iload_n 2 dX3_numberOfLaw_48 rfl rfl ?_
    exact jx_iret dX3_numberOfLaw_49 rfl rfl (jle rfl) (jle rfl) ⟨_, rfl, h⟩
  replace h := h.2 c2
  refine jx_iload_n 3 dX3_numberOfLaw_12 rfl rfl ?_
  refine jx_bipush (v := 14) dX3_numberOfLaw_13 (by decide) ?_
  refine jx_icmp_ge (tgt := 48) dX3_numberOfLaw_15 (by decide) (fun c3 => ?_) (fun c3 => ?_)
  · replace h := h.1 c3
    refine jx_iload_n 2 dX3_numberOfLaw_48 rfl rfl ?_
    exact jx_iret dX3_numberOfLaw_49 rfl rfl (jle rfl) (jle rfl) ⟨_, rfl, h⟩
  replace h := h.2 c3
  refine jx_aload_n 0 dX3_numberOfLaw_18 rfl rfl ?_
  obtain ⟨b4, hb4, h⟩ := h
  refine jx_getr jc_3 (j := 5) (by decide) rfl jwF_X3_38 dX3_numberOfLaw_19 hk1 hb4 ?_
  refine jx_iload_n 3 dX3_numberOfLaw_22 rfl rfl ?_
  obtain ⟨hk5, h⟩ := h
  obtain ⟨hi6, h⟩ := h
  rcases hb7 : jr S b4 (Int32.toNatClampNeg x3) with _ | b8
  · replace h := h.1 hb7
    refine jx_aaldN dX3_numberOfLaw_23 hk5 (by decide) (by decide) hi6 hb7 ?_
    refine jx_ifnullN (tgt := 42) dX3_numberOfLaw_24 (by decide) ?_
    refine jx_iinc 3 (v := (x3 + 1)) (lv1 := [(3, .int (x3 + 1)), (0, .ref a0), (1, .int x1), (2, .int x2)]) kd19.1 rfl rfl (by decide) rfl ?_
    refine jx_goto (tgt := 4) kd19.2 (by decide) ?_
    exact jx_lv [1, 2, 3, 0] rfl h
  replace h := h.2 b8 hb7
  refine jx_aaldS dX3_numberOfLaw_23 hk5 (by decide) (by decide) hi6 hb7 ?_
  refine jx_ifnull dX3_numberOfLaw_24 ?_
  refine jx_aload_n 0 dX3_numberOfLaw_27 rfl rfl ?_
  refine jx_getr jc_3 (j := 5) (by decide) rfl jwF_X3_38 dX3_numberOfLaw_28 hk1 hb4 ?_
  refine jx_iload_n 3 dX3_numberOfLaw_31 rfl rfl ?_
  refine jx_aaldS dX3_numberOfLaw_32 hk5 (by decide) (by decide) hi6 hb7 ?_
  obtain ⟨hk9, h⟩ := h
  refine jx_geti jc_9 (j := 0) (by decide) rfl jwF_X3_80 dX3_numberOfLaw_33 hk9 ?_
  refine jx_iload_n 1 dX3_numberOfLaw_36 rfl rfl ?_
  refine jx_icmp_ne (tgt := 42) dX3_numberOfLaw_37 (by decide) (fun c10 => ?_) (fun c10 => ?_)
  · replace h := h.2 c10
    refine jx_iinc 3 (v := (x3 + 1)) (lv1 := [(3, .int (x3 + 1)), (0, .ref a0), (1, .int x1), (2, .int x2)]) kd19.1 rfl rfl (by decide) rfl ?_
    refine jx_goto (tgt := 4) kd19.2 (by decide) ?_
    exact jx_lv [1, 2, 3, 0] rfl h
  replace h := h.1 c10
  refine jx_iload_n 3 dX3_numberOfLaw_40 rfl rfl ?_
  refine jx_istore_n (lv1 := [(2, .int x3), (0, .ref a0), (1, .int x1), (3, .int x3)]) dX3_numberOfLaw_41 rfl (by decide) rfl ?_
  refine jx_iinc 3 (v := (x3 + 1)) (lv1 := [(3, .int (x3 + 1)), (2, .int x3), (0, .ref a0), (1, .int x1)]) kd19.1 rfl rfl (by decide) rfl ?_
  refine jx_goto (tgt := 4) kd19.2 (by decide) ?_
  exact jx_lv [2, 3, 1, 0] rfl h
set_option maxRecDepth 100000 in
set_option maxHeartbeats 4000000 in
theorem T_X3_daysTaken {E : jEnv} {d : Nat} {Q : Int32 → jM → Prop} {a0 : Nat} {a1 : Nat} {x2 : Int32} {S : jM} (h : jk S a0 = 3 ∧ jFi E mX3_numberOfLaw d 0 0 [.ref a0, .int 0] S (fun r3 S2 => jk S2 a0 = 3 ∧ jFr E mX3_findText d 0 0 [.ref a0, .int r3] S2 (fun o6 S5 => (o6 = none → jk S5 a1 = 2 ∧ jFi E mX2_daysFrom d 0 0 [.ref a1, .int (jmax 1 (jmin 99 (3 + x2)))] S5 (fun r10 S9 => Q r10 S9)) ∧ (∀ b7, o6 = some b7 → jk S5 a1 = 2 ∧ jk S5 b7 = 9 ∧ jFi E mX9_workOut d 0 0 [.ref b7, .int x2, .int (ji S5 a1 2), .int (ji S5 a1 5)] S5 (fun r14 S13 => jk S13 a1 = 2 ∧ jFi E mX2_daysFrom d 0 0 [.ref a1, .int (jmax 1 (jmin 99 r14))] S13 (fun r17 S16 => Q r17 S16)))))) : jFi E mX3_daysTaken (d + 1) 0 0 [.ref a0, .ref a1, .int x2] S Q := by
  refine jF_of (by decide) (jle rfl) ?_
  refine jx_lv (lv1 := [(0, .ref a0), (1, .ref a1), (2, .int x2)]) [0, 1, 2] rfl ?_
  refine jx_aload_n 0 dX3_daysTaken_0 rfl rfl ?_
  refine jx_aload_n 0 dX3_daysTaken_1 rfl rfl ?_
  refine jx_iconst (v := 0) dX3_daysTaken_2 (by decide) ?_
  obtain ⟨hk1, h⟩ := h
  refine jx_callVi (M' := mX3_numberOfLaw) (As := [.int 0]) jo_X3_numberOfLaw jc_3 rfl jwM_X3_83 jwN_X3_numberOfLaw jwX_X3_numberOfLaw dX3_daysTaken_3 (jRok_m _ _ _) rfl (jle rfl) ⟨jle rfl, jle rfl⟩ hk1 h (fun r3 S2 h => ?_)
  obtain ⟨hk4, h⟩ := h
  refine jx_callVr (M' := mX3_findText) (As := [.int r3]) jo_X3_findText jc_3 rfl jwM_X3_87 jwN_X3_findText jwX_X3_findText dX3_daysTaken_6 (jRok_m _ _ _) rfl (jle rfl) ⟨jle rfl, jle rfl⟩ hk4 h (fun o6 S5 h => ?_)
  rcases o6 with _ | b7
  · replace h := h.1 rfl
    refine jx_astore_nN (lv1 := [(3, .null), (0, .ref a0), (1, .ref a1), (2, .int x2)]) dX3_daysTaken_9 rfl (by decide) rfl ?_
    refine jx_aload_nN 0 dX3_daysTaken_10 rfl rfl ?_
    refine jx_ifnonnullN dX3_daysTaken_11 ?_
    refine jx_iconst (v := 3) dX3_daysTaken_14 (by decide) ?_
    refine jx_iload_n 3 dX3_daysTaken_15 rfl rfl ?_
    refine jx_iadd dX3_daysTaken_16 ?_
    refine jx_goto (tgt := 33) dX3_daysTaken_17 (by decide) ?_
    refine jx_istore (lv1 := [(4, .int (3 + x2)), (3, .null), (0, .ref a0), (1, .ref a1), (2, .int x2)]) dX3_daysTaken_33 (by decide) rfl ?_
    refine jx_aload_n 3 dX3_daysTaken_35 rfl rfl ?_
    refine jx_iconst (v := 1) dX3_daysTaken_36 (by decide) ?_
    refine jx_bipush (v := 99) dX3_daysTaken_37 (by decide) ?_
    refine jx_iload 0 dX3_daysTaken_39 rfl ?_
    refine jx_min jwM_X3_103 jwS_min jwZ_J9 jwO_min dX3_daysTaken_41 (jRok_m _ _ _) (jle rfl) ⟨Nat.zero_le _, Nat.zero_le _⟩ ?_
    refine jx_max jwM_X3_109 jwS_max jwZ_J9 jwO_max dX3_daysTaken_44 (jRok_m _ _ _) (jle rfl) ⟨Nat.zero_le _, Nat.zero_le _⟩ ?_
    obtain ⟨hk8, h⟩ := h
    refine jx_callVi (M' := mX2_daysFrom) (As := [.int (jmax 1 (jmin 99 (3 + x2)))]) jo_X2_daysFrom jc_2 rfl jwM_X3_112 jwN_X2_daysFrom jwX_X2_daysFrom dX3_daysTaken_47 (jRok_m _ _ _) rfl (jle rfl) ⟨jle rfl, jle rfl⟩ hk8 h (fun r10 S9 h => ?_)
    exact jx_iret dX3_daysTaken_50 rfl rfl (jle rfl) (jle rfl) ⟨_, rfl, h⟩
  replace h := h.2 b7 rfl
  refine jx_astore_n (lv1 := [(3, .ref b7), (0, .ref a0), (1, .ref a1), (2, .int x2)]) dX3_daysTaken_9 rfl (by decide) rfl ?_
  refine jx_aload_n 0 dX3_daysTaken_10 rfl rfl ?_
  refine jx_ifnonnull (tgt := 20) dX3_daysTaken_11 (by decide) ?_
  refine jx_aload_n 0 dX3_daysTaken_20 rfl rfl ?_
  refine jx_iload_n 3 dX3_daysTaken_21 rfl rfl ?_
  refine jx_aload_n 2 dX3_daysTaken_22 rfl rfl ?_
  obtain ⟨hk11, h⟩ := h
  refine jx_geti jc_2 (j := 2) (by decide) rfl jwF_X3_91 dX3_daysTaken_23 hk11 ?_
  refine jx_aload_n 2 dX3_daysTaken_26 rfl rfl ?_
  refine jx_geti jc_2 (j := 5) (by decide) rfl jwF_X3_96 dX3_daysTaken_27 hk11 ?_
  obtain ⟨hk12, h⟩ := h
  refine jx_callVi (M' := mX9_workOut) (As := [.int x2, .int (ji S5 a1 2), .int (ji S5 a1 5)]) jo_X9_workOut jc_9 rfl jwM_X3_99 jwN_X9_workOut jwX_X9_workOut dX3_daysTaken_30 (jRok_m _ _ _) rfl (jle rfl) ⟨jle rfl, jle rfl⟩ hk12 h (fun r14 S13 h => ?_)
  refine jx_istore (lv1 := [(4, .int r14), (3, .ref b7), (0, .ref a0), (1, .ref a1), (2, .int x2)]) dX3_daysTaken_33 (by decide) rfl ?_
  refine jx_aload_n 3 dX3_daysTaken_35 rfl rfl ?_
  refine jx_iconst (v := 1) dX3_daysTaken_36 (by decide) ?_
  refine jx_bipush (v := 99) dX3_daysTaken_37 (by decide) ?_
  refine jx_iload 0 dX3_daysTaken_39 rfl ?_
  refine jx_min jwM_X3_103 jwS_min jwZ_J9 jwO_min dX3_daysTaken_41 (jRok_m _ _ _) (jle rfl) ⟨Nat.zero_le _, Nat.zero_le _⟩ ?_
  refine jx_max jwM_X3_109 jwS_max jwZ_J9 jwO_max dX3_daysTaken_44 (jRok_m _ _ _) (jle rfl) ⟨Nat.zero_le _, Nat.zero_le _⟩ ?_
  obtain ⟨hk15, h⟩ := h
  refine jx_callVi (M' := mX2_daysFrom) (As := [.int (jmax 1 (jmin 99 r14))]) jo_X2_daysFrom jc_2 rfl jwM_X3_112 jwN_X2_daysFrom jwX_X2_daysFrom dX3_daysTaken_47 (jRok_m _ _ _) rfl (jle rfl) ⟨jle rfl, jle rfl⟩ hk15 h (fun r17 S16 h => ?_)
  exact jx_iret dX3_daysTaken_50 rfl rfl (jle rfl) (jle rfl) ⟨_, rfl, h⟩
set_option maxRecDepth 100000 in
set_option maxHeartbeats 4000000 in
theorem T_X3_fameOf {E : jEnv} {d : Nat} {Q : Int32 → jM → Prop} {a0 : Nat} {a1 : Nat} {S : jM} (h : jk S a0 = 3 ∧ jFi E mX3_numberOfLaw d 0 0 [.ref a0, .int 1] S (fun r3 S2 => jk S2 a0 = 3 ∧ jFr E mX3_findText d 0 0 [.ref a0, .int r3] S2 (fun o6 S5 => (o6 = none → jk S5 a1 = 2 ∧ Q (ji S5 a1 4) S5) ∧ (∀ b7, o6 = some b7 → jk S5 a1 = 2 ∧ jk S5 b7 = 9 ∧ jFi E mX9_workOut d 0 0 [.ref b7, .int (ji S5 a1 4), .int (ji S5 a1 5), .int 0] S5 (fun r12 S11 => Q r12 S11))))) : jFi E mX3_fameOf (d + 1) 0 0 [.ref a0, .ref a1] S Q := by
  refine jF_of (by decide) (jle rfl) ?_
  refine jx_lv (lv1 := [(0, .ref a0), (1, .ref a1)]) [0, 1] rfl ?_
  refine jx_aload_n 0 dX3_fameOf_0 rfl rfl ?_
  refine jx_aload_n 0 dX3_fameOf_1 rfl rfl ?_
  refine jx_iconst (v := 1) dX3_fameOf_2 (by decide) ?_
  obtain ⟨hk1, h⟩ := h
  refine jx_callVi (M' := mX3_numberOfLaw) (As := [.int 1]) jo_X3_numberOfLaw jc_3 rfl jwM_X3_83 jwN_X3_numberOfLaw jwX_X3_numberOfLaw dX3_fameOf_3 (jRok_m _ _ _) rfl (jle rfl) ⟨jle rfl, jle rfl⟩ hk1 h (fun r3 S2 h => ?_)
  obtain ⟨hk4, h⟩ := h
  refine jx_callVr (M' := mX3_findText) (As := [.int r3]) jo_X3_findText jc_3 rfl jwM_X3_87 jwN_X3_findText jwX_X3_findText dX3_fameOf_6 (jRok_m _ _ _) rfl (jle rfl) ⟨jle rfl, jle rfl⟩ hk4 h (fun o6 S5 h => ?_)
  rcases o6 with _ | b7
  · replace h := h.1 rfl
    refine jx_astore_nN (lv1 := [(2, .null), (0, .ref a0), (1, .ref a1)]) dX3_fameOf_9 rfl (by decide) rfl ?_
    refine jx_aload_nN 0 dX3_fameOf_10 rfl rfl ?_
    refine jx_ifnonnullN dX3_fameOf_11 ?_
    refine jx_aload_n 2 dX3_fameOf_14 rfl rfl ?_
    obtain ⟨hk8, h⟩ := h
    refine jx_geti jc_2 (j := 4) (by decide) rfl jwF_X3_115 dX3_fameOf_15 hk8 ?_
    refine jx_goto (tgt := 34) dX3_fameOf_18 (by decide) ?_
    exact jx_iret dX3_fameOf_34 rfl rfl (jle rfl) (jle rfl) ⟨_, rfl, h⟩
  replace h := h.2 b7 rfl
  refine jx_astore_n (lv1 := [(2, .ref b7), (0, .ref a0), (1, .ref a1)]) dX3_fameOf_9 rfl (by decide) rfl ?_
  refine jx_aload_n 0 dX3_fameOf_10 rfl rfl ?_
  refine jx_ifnonnull (tgt := 21) dX3_fameOf_11 (by decide) ?_
  refine jx_aload_n 0 dX3_fameOf_21 rfl rfl ?_
  refine jx_aload_n 2 dX3_fameOf_22 rfl rfl ?_
  obtain ⟨hk9, h⟩ := h
  refine jx_geti jc_2 (j := 4) (by decide) rfl jwF_X3_115 dX3_fameOf_23 hk9 ?_
  refine jx_aload_n 2 dX3_fameOf_26 rfl rfl ?_
  refine jx_geti jc_2 (j := 5) (by decide) rfl jwF_X3_96 dX3_fameOf_27 hk9 ?_
  refine jx_iconst (v := 0) dX3_fameOf_30 (by decide) ?_
  obtain ⟨hk10, h⟩ := h
  refine jx_callVi (M' := mX9_workOut) (As := [.int (ji S5 a1 4), .int (ji S5 a1 5), .int 0]) jo_X9_workOut jc_9 rfl jwM_X3_99 jwN_X9_workOut jwX_X9_workOut dX3_fameOf_31 (jRok_m _ _ _) rfl (jle rfl) ⟨jle rfl, jle rfl⟩ hk10 h (fun r12 S11 h => ?_)
  exact jx_iret dX3_fameOf_34 rfl rfl (jle rfl) (jle rfl) ⟨_, rfl, h⟩
set_option maxRecDepth 100000 in
set_option maxHeartbeats 4000000 in
theorem T_X3_fineNow {E : jEnv} {d : Nat} {Q : Int32 → jM → Prop} {a0 : Nat} {S : jM} (h : jk S a0 = 3 ∧ jFi E mX3_numberOfLaw d 0 0 [.ref a0, .int 2] S (fun r3 S2 => jk S2 a0 = 3 ∧ jFr E mX3_findText d 0 0 [.ref a0, .int r3] S2 (fun o6 S5 => (o6 = none → jk S5 a0 = 3 ∧ ∃ b9, jr S5 a0 2 = some b9 ∧ (jk S5 b9 = 1 ∧ Q (ji S5 b9 2) S5)) ∧ (∀ b7, o6 = some b7 → jk S5 a0 = 3 ∧ ∃ b12, jr S5 a0 2 = some b12 ∧ (jk S5 b12 = 1 ∧ jk S5 b7 = 9 ∧ jFi E mX9_workOut d 0 0 [.ref b7, .int (ji S5 b12 2), .int (ji S5 b12 4), .int 0] S5 (fun r16 S15 => Q r16 S15)))))) : jFi E mX3_fineNow (d + 1) 0 0 [.ref a0] S Q := by
  refine jF_of (by decide) (jle rfl) ?_
  refine jx_lv (lv1 := [(0, .ref a0)]) [0] rfl ?_
  refine jx_aload_n 0 dX3_fineNow_0 rfl rfl ?_
  refine jx_aload_n 0 dX3_fineNow_1 rfl rfl ?_
  refine jx_iconst (v := 2) dX3_fineNow_2 (by decide) ?_
  obtain ⟨hk1, h⟩ := h
  refine jx_callVi (M' := mX3_numberOfLaw) (As := [.int 2]) jo_X3_numberOfLaw jc_3 rfl jwM_X3_83 jwN_X3_numberOfLaw jwX_X3_numberOfLaw dX3_fineNow_3 (jRok_m _ _ _) rfl (jle rfl) ⟨jle rfl, jle rfl⟩ hk1 h (fun r3 S2 h => ?_)
  obtain ⟨hk4, h⟩ := h
  refine jx_callVr (M' := mX3_findText) (As := [.int r3]) jo_X3_findText jc_3 rfl jwM_X3_87 jwN_X3_findText jwX_X3_findText dX3_fineNow_6 (jRok_m _ _ _) rfl (jle rfl) ⟨jle rfl, jle rfl⟩ hk4 h (fun o6 S5 h => ?_)
  rcases o6 with _ | b7
  · replace h := h.1 rfl
    refine jx_astore_nN (lv1 := [(1, .null), (0, .ref a0)]) dX3_fineNow_9 rfl (by decide) rfl ?_
    refine jx_aload_nN 0 dX3_fineNow_10 rfl rfl ?_
    refine jx_ifnonnullN dX3_fineNow_11 ?_
    refine jx_aload_n 1 dX3_fineNow_14 rfl rfl ?_
    obtain ⟨hk8, h⟩ := h
    obtain ⟨b9, hb9, h⟩ := h
    refine jx_getr jc_3 (j := 2) (by decide) rfl jwF_X3_28 dX3_fineNow_15 hk8 hb9 ?_
    obtain ⟨hk10, h⟩ := h
    refine jx_geti jc_1 (j := 2) (by decide) rfl jwF_X3_118 dX3_fineNow_18 hk10 ?_
    refine jx_goto (tgt := 43) dX3_fineNow_21 (by decide) ?_
    exact jx_iret dX3_fineNow_43 rfl rfl (jle rfl) (jle rfl) ⟨_, rfl, h⟩
  replace h := h.2 b7 rfl
  refine jx_astore_n (lv1 := [(1, .ref b7), (0, .ref a0)]) dX3_fineNow_9 rfl (by decide) rfl ?_
  refine jx_aload_n 0 dX3_fineNow_10 rfl rfl ?_
  refine jx_ifnonnull (tgt := 24) dX3_fineNow_11 (by decide) ?_
  refine jx_aload_n 0 dX3_fineNow_24 rfl rfl ?_
  refine jx_aload_n 1 dX3_fineNow_25 rfl rfl ?_
  obtain ⟨hk11, h⟩ := h
  obtain ⟨b12, hb12, h⟩ := h
  refine jx_getr jc_3 (j := 2) (by decide) rfl jwF_X3_28 dX3_fineNow_26 hk11 hb12 ?_
  obtain ⟨hk13, h⟩ := h
  refine jx_geti jc_1 (j := 2) (by decide) rfl jwF_X3_118 dX3_fineNow_29 hk13 ?_
  refine jx_aload_n 1 dX3_fineNow_32 rfl rfl ?_
  refine jx_getr jc_3 (j := 2) (by decide) rfl jwF_X3_28 dX3_fineNow_33 hk11 hb12 ?_
  refine jx_geti jc_1 (j := 4) (by decide) rfl jwF_X3_121 dX3_fineNow_36 hk13 ?_
  refine jx_iconst (v := 0) dX3_fineNow_39 (by decide) ?_
  obtain ⟨hk14, h⟩ := h
  refine jx_callVi (M' := mX9_workOut) (As := [.int (ji S5 b12 2), .int (ji S5 b12 4), .int 0]) jo_X9_workOut jc_9 rfl jwM_X3_99 jwN_X9_workOut jwX_X9_workOut dX3_fineNow_40 (jRok_m _ _ _) rfl (jle rfl) ⟨jle rfl, jle rfl⟩ hk14 h (fun r16 S15 h => ?_)
  exact jx_iret dX3_fineNow_43 rfl rfl (jle rfl) (jle rfl) ⟨_, rfl, h⟩
/-- X3_waysToMasters at its loop's head 4 -/
abbrev L_X3_waysToMasters_4 (E : jEnv) (d : Nat) (Q : Int32 → jM → Prop) (a0 : Nat) (x1 : Int32) (x2 : Int32) (x3 : Int32) (S : jM) : Prop := jX E mX3_waysToMasters (jRm (d + 1) 0 0) (jZm E (fun r S' => ∃ v : Int32, r = some (.int v) ∧ Q v S') 0 0) 4 [(0, .ref a0), (1, .int x1), (2, .int x2), (3, .int x3)] [] S 0 0
set_option maxRecDepth 100000 in
set_option maxHeartbeats 4000000 in
theorem T_X3_waysToMasters {E : jEnv} {d : Nat} {Q : Int32 → jM → Prop} {a0 : Nat} {x1 : Int32} {S : jM} (h : L_X3_waysToMasters_4 E d Q a0 x1 0 0 S) : jFi E mX3_waysToMasters (d + 1) 0 0 [.ref a0, .int x1] S Q := by
  refine jF_of (by decide) (jle rfl) ?_
  refine jx_lv (lv1 := [(0, .ref a0), (1, .int x1)]) [0, 1] rfl ?_
  refine jx_iconst (v := 0) dX3_waysToMasters_0 (by decide) ?_
  refine jx_istore_n (lv1 := [(2, .int 0), (0, .ref a0), (1, .int x1)]) dX3_waysToMasters_1 rfl (by decide) rfl ?_
  refine jx_iconst (v := 0) dX3_waysToMasters_2 (by decide) ?_
  refine jx_istore_n (lv1 := [(3, .int 0), (2, .int 0), (0, .ref a0), (1, .int x1)]) dX3_waysToMasters_3 rfl (by decide) rfl ?_
  exact jx_lv [2, 3, 1, 0] rfl h
set_option maxRecDepth 100000 in
set_option maxHeartbeats 4000000 in
theorem T_X3_waysToMasters_4 {E : jEnv} {d : Nat} {Q : Int32 → jM → Prop} {a0 : Nat} {x1 : Int32} {x2 : Int32} {x3 : Int32} {S : jM} (h : jk S a0 = 3 ∧ ∃ b2, jr S a0 0 = some b2 ∧ (jk S b2 = 0 ∧ ((ji S b2 1) ≤ x3 → Q x2 S) ∧ (¬ (ji S b2 1) ≤ x3 → jFr E mX0_find d 0 0 [.ref b2, .int x3] S (fun o6 S5 => (o6 = none → L_X3_waysToMasters_4 E d Q a0 x1 (x2 + 0) (x3 + 1) S5) ∧ (∀ b7, o6 = some b7 → jk S5 b7 = 2 ∧ ((ji S5 b7 6) = 0 → jk S5 a0 = 3 ∧ ∃ b11, jr S5 a0 1 = some b11 ∧ (jk S5 b11 = 4 ∧ jFi E mX4_fewest d 0 0 [.ref b11, .int x1, .int (ji S5 b7 1)] S5 (fun r14 S13 => L_X3_waysToMasters_4 E d Q a0 x1 (x2 + r14) (x3 + 1) S13))) ∧ (¬ (ji S5 b7 6) = 0 → L_X3_waysToMasters_4 E d Q a0 x1 (x2 + 0) (x3 + 1) S5)))))) : L_X3_waysToMasters_4 E d Q a0 x1 x2 x3 S := by
  show jX E mX3_waysToMasters (jRm (d + 1) 0 0) (jZm E (fun r S' => ∃ v : Int32, r = some (.int v) ∧ Q v S') 0 0) 4 [(0, .ref a0), (1, .int x1), (2, .int x2), (3, .int x3)] [] S 0 0
  refine jx_iload_n 3 dX3_waysToMasters_4 rfl rfl ?_
  refine jx_aload_n 0 dX3_waysToMasters_5 rfl rfl ?_
  obtain ⟨hk1, h⟩ := h
  obtain ⟨b2, hb2, h⟩ := h
  refine jx_getr jc_3 (j := 0) (by decide) rfl jwF_X3_12 dX3_waysToMasters_6 hk1 hb2 ?_
  obtain ⟨hk3, h⟩ := h
  refine jx_geti jc_0 (j := 1) (by decide) rfl jwF_X3_124 dX3_waysToMasters_9 hk3 ?_
  refine jx_icmp_ge (tgt := 64) dX3_waysToMasters_12 (by decide) (fun c4 => ?_) (fun c4 => ?_)
  · replace h := h.1 c4
    refine jx_iload_n 2 dX3_waysToMasters_64 rfl rfl ?_
    exact jx_iret dX3_waysToMasters_65 rfl rfl (jle rfl) (jle rfl) ⟨_, rfl, h⟩
  replace h := h.2 c4
  refine jx_aload_n 0 dX3_waysToMasters_15 rfl rfl ?_
  refine jx_getr jc_3 (j := 0) (by decide) rfl jwF_X3_12 dX3_waysToMasters_16 hk1 hb2 ?_
  refine jx_iload_n 3 dX3_waysToMasters_19 rfl rfl ?_
  refine jx_callVr (M' := mX0_find) (As := [.int x3]) jo_X0_find jc_0 rfl jwM_X3_127 jwN_X0_find jwX_X0_find dX3_waysToMasters_20 (jRok_m _ _ _) rfl (jle rfl) ⟨jle rfl, jle rfl⟩ hk3 h (fun o6 S5 h => ?_)
  rcases o6 with _ | b7
  · replace h := h.1 rfl
    refine jx_astoreN (lv1 := [(4, .null), (0, .ref a0), (1, .int x1), (2, .int x2), (3, .int x3)]) dX3_waysToMasters_23 (by decide) rfl ?_
    refine jx_iload_n 3 dX3_waysToMasters_25 rfl rfl ?_
    refine jx_aloadN 0 dX3_waysToMasters_26 rfl ?_
    refine jx_ifnullN (tgt := 39) dX3_waysToMasters_28 (by decide) ?_
    refine jx_iconst (v := 0) dX3_waysToMasters_39 (by decide) ?_
    refine jx_goto (tgt := 56) dX3_waysToMasters_40 (by decide) ?_
    refine jx_iadd dX3_waysToMasters_56 ?_
    refine jx_istore_n (lv1 := [(2, .int (x2 + 0)), (4, .null), (0, .ref a0), (1, .int x1), (3, .int x3)]) dX3_waysToMasters_57 rfl (by decide) rfl ?_
    refine jx_iinc 4 (v := (x3 + 1)) (lv1 := [(3, .int (x3 + 1)), (2, .int (x2 + 0)), (4, .null), (0, .ref a0), (1, .int x1)]) kd20.1 rfl rfl (by decide) rfl ?_
    refine jx_goto (tgt := 4) kd20.2 (by decide) ?_
    exact jx_lv [3, 4, 1, 0] rfl h
  replace h := h.2 b7 rfl
  refine jx_astore (lv1 := [(4, .ref b7), (0, .ref a0), (1, .int x1), (2, .int x2), (3, .int x3)]) dX3_waysToMasters_23 (by decide) rfl ?_
  refine jx_iload_n 3 dX3_waysToMasters_25 rfl rfl ?_
  refine jx_aload 0 dX3_waysToMasters_26 rfl ?_
  refine jx_ifnull dX3_waysToMasters_28 ?_
  refine jx_aload 0 dX3_waysToMasters_31 rfl ?_
  obtain ⟨hk8, h⟩ := h
  refine jx_geti jc_2 (j := 6) (by decide) rfl jwF_X3_131 dX3_waysToMasters_33 hk8 ?_
  refine jx_if_eq (tgt := 43) dX3_waysToMasters_36 (by decide) (fun c9 => ?_) (fun c9 => ?_)
  · replace h := h.1 c9
    refine jx_aload_n 1 dX3_waysToMasters_43 rfl rfl ?_
    obtain ⟨hk10, h⟩ := h
    obtain ⟨b11, hb11, h⟩ := h
    refine jx_getr jc_3 (j := 1) (by decide) rfl jwF_X3_21 dX3_waysToMasters_44 hk10 hb11 ?_
    refine jx_iload_n 2 dX3_waysToMasters_47 rfl rfl ?_
    refine jx_aload 0 dX3_waysToMasters_48 rfl ?_
    refine jx_geti jc_2 (j := 1) (by decide) rfl jwF_X3_135 dX3_waysToMasters_50 hk8 ?_
    obtain ⟨hk12, h⟩ := h
    refine jx_callVi (M' := mX4_fewest) (As := [.int x1, .int (ji S5 b7 1)]) jo_X4_fewest jc_4 rfl jwM_X3_138 jwN_X4_fewest jwX_X4_fewest dX3_waysToMasters_53 (jRok_m _ _ _) rfl (jle rfl) ⟨jle rfl, jle rfl⟩ hk12 h (fun r14 S13 h => ?_)
    refine jx_iadd dX3_waysToMasters_56 ?_
    refine jx_istore_n (lv1 := [(2, .int (x2 + r14)), (4, .ref b7), (0, .ref a0), (1, .int x1), (3, .int x3)]) dX3_waysToMasters_57 rfl (by decide) rfl ?_
    refine jx_iinc 4 (v := (x3 + 1)) (lv1 := [(3, .int (x3 + 1)), (2, .int (x2 + r14)), (4, .ref b7), (0, .ref a0), (1, .int x1)]) kd20.1 rfl rfl (by decide) rfl ?_
    refine jx_goto (tgt := 4) kd20.2 (by decide) ?_
    exact jx_lv [3, 4, 1, 0] rfl h
  replace h := h.2 c9
  refine jx_iconst (v := 0) dX3_waysToMasters_39 (by decide) ?_
  refine jx_goto (tgt := 56) dX3_waysToMasters_40 (by decide) ?_
  refine jx_iadd dX3_waysToMasters_56 ?_
  refine jx_istore_n (lv1 := [(2, .int (x2 + 0)), (4, .ref b7), (0, .ref a0), (1, .int x1), (3, .int x3)]) dX3_waysToMasters_57 rfl (by decide) rfl ?_
  refine jx_iinc 4 (v := (x3 + 1)) (lv1 := [(3, .int (x3 + 1)), (2, .int (x2 + 0)), (4, .ref b7), (0, .ref a0), (1, .int x1)]) kd20.1 rfl rfl (by decide) rfl ?_
  refine jx_goto (tgt := 4) kd20.2 (by decide) ?_
  exact jx_lv [3, 4, 1, 0] rfl h
/-- X3_apart at its loop's head 5 -/
abbrev L_X3_apart_5 (E : jEnv) (d : Nat) (Q : Int32 → jM → Prop) (a0 : Nat) (a1 : Nat) (a2 : Nat) (x3 : Int32) (x4 : Int32) (S : jM) : Prop := jX E mX3_apart (jRm (d + 1) 0 0) (jZm E (fun r S' => ∃ v : Int32, r = some (.int v) ∧ Q v S') 0 0) 5 [(0, .ref a0), (1, .ref a1), (2, .ref a2), (3, .int x3), (4, .int x4)] [] S 0 0
set_option maxRecDepth 100000 in
set_option maxHeartbeats 4000000 in
theorem T_X3_apart {E : jEnv} {d : Nat} {Q : Int32 → jM → Prop} {a0 : Nat} {a1 : Nat} {a2 : Nat} {S : jM} (h : L_X3_apart_5 E d Q a0 a1 a2 0 0 S) : jFi E mX3_apart (d + 1) 0 0 [.ref a0, .ref a1, .ref a2] S Q := by
  refine jF_of (by decide) (jle rfl) ?_
  refine jx_lv (lv1 := [(0, .ref a0), (1, .ref a1), (2, .ref a2)]) [0, 1, 2] rfl ?_
  refine jx_iconst (v := 0) dX3_apart_0 (by decide) ?_
  refine jx_istore_n (lv1 := [(3, .int 0), (0, .ref a0), (1, .ref a1), (2, .ref a2)]) dX3_apart_1 rfl (by decide) rfl ?_
  refine jx_iconst (v := 0) dX3_apart_2 (by decide) ?_
  refine jx_istore (lv1 := [(4, .int 0), (3, .int 0), (0, .ref a0), (1, .ref a1), (2, .ref a2)]) dX3_apart_3 (by decide) rfl ?_
  exact jx_lv [2, 3, 4, 1, 0] rfl h
set_option maxRecDepth 100000 in
set_option maxHeartbeats 4000000 in
theorem T_X3_apart_5 {E : jEnv} {d : Nat} {Q : Int32 → jM → Prop} {a0 : Nat} {a1 : Nat} {a2 : Nat} {x3 : Int32} {x4 : Int32} {S : jM} (h : jk S a2 = 6 ∧ ((ji S a2 1) ≤ x4 → Q x3 S) ∧ (¬ (ji S a2 1) ≤ x4 → jFi E mX6_isNumber d 0 0 [.ref a2, .int x4] S (fun r4 S3 => (r4 = 0 → L_X3_apart_5 E d Q a0 a1 a2 x3 (x4 + 1) S3) ∧ (¬ r4 = 0 → jk S3 a0 = 3 ∧ jFi E mX3_daysTaken d 0 0 [.ref a0, .ref a1, .int x4] S3 (fun r8 S7 => jk S7 a2 = 6 ∧ ∃ b10, jr S7 a2 2 = some b10 ∧ (jk S7 b10 = 12 ∧ vp_in x4 (jl S7 b10) ∧ (L_X3_apart_5 E d Q a0 a1 a2 (x3 + (jabs (r8 - (ji S7 b10 (Int32.toNatClampNeg x4))))) (x4 + 1) S7))))))) : L_X3_apart_5 E d Q a0 a1 a2 x3 x4 S := by
  show jX E mX3_apart (jRm (d + 1) 0 0) (jZm E (fun r S' => ∃ v : Int32, r = some (.int v) ∧ Q v S') 0 0) 5 [(0, .ref a0), (1, .ref a1), (2, .ref a2), (3, .int x3), (4, .int x4)] [] S 0 0
  refine jx_iload 4 dX3_apart_5 rfl ?_
  refine jx_aload_n 2 dX3_apart_7 rfl rfl ?_
  obtain ⟨hk1, h⟩ := h
  refine jx_geti jc_6 (j := 1) (by decide) rfl jwF_X3_141 dX3_apart_8 hk1 ?_
  refine jx_icmp_ge (tgt := 50) dX3_apart_11 (by decide) (fun c2 => ?_) (fun c2 => ?_)
  · replace h := h.1 c2
    refine jx_iload_n 3 dX3_apart_50 rfl rfl ?_
    exact jx_iret dX3_apart_51 rfl rfl (jle rfl) (jle rfl) ⟨_, rfl, h⟩
  replace h := h.2 c2
  refine jx_aload_n 2 dX3_apart_14 rfl rfl ?_
  refine jx_iload 4 dX3_apart_15 rfl ?_
  refine jx_callVi (M' := mX6_isNumber) (As := [.int x4]) jo_X6_isNumber jc_6 rfl jwM_X3_144 jwN_X6_isNumber jwX_X6_isNumber dX3_apart_17 (jRok_m _ _ _) rfl (jle rfl) ⟨jle rfl, jle rfl⟩ hk1 h (fun r4 S3 h => ?_)
  refine jx_if_eq (tgt := 44) dX3_apart_20 (by decide) (fun c5 => ?_) (fun c5 => ?_)
  · replace h := h.1 c5
    refine jx_iinc 4 (v := (x4 + 1)) (lv1 := [(4, .int (x4 + 1)), (0, .ref a0), (1, .ref a1), (2, .ref a2), (3, .int x3)]) kd21.1 rfl rfl (by decide) rfl ?_
    refine jx_goto (tgt := 5) kd21.2 (by decide) ?_
    exact jx_lv [1, 2, 3, 4, 0] rfl h
  replace h := h.2 c5
  refine jx_iload_n 3 dX3_apart_23 rfl rfl ?_
  refine jx_aload_n 0 dX3_apart_24 rfl rfl ?_
  refine jx_aload_n 1 dX3_apart_25 rfl rfl ?_
  refine jx_iload 4 dX3_apart_26 rfl ?_
  obtain ⟨hk6, h⟩ := h
  refine jx_callVi (M' := mX3_daysTaken) (As := [.ref a1, .int x4]) jo_X3_daysTaken jc_3 rfl jwM_X3_147 jwN_X3_daysTaken jwX_X3_daysTaken dX3_apart_28 (jRok_m _ _ _) rfl (jle rfl) ⟨jle rfl, jle rfl⟩ hk6 h (fun r8 S7 h => ?_)
  refine jx_aload_n 2 dX3_apart_31 rfl rfl ?_
  obtain ⟨hk9, h⟩ := h
  obtain ⟨b10, hb10, h⟩ := h
  refine jx_getr jc_6 (j := 2) (by decide) rfl jwF_X3_151 dX3_apart_32 hk9 hb10 ?_
  refine jx_iload 4 dX3_apart_35 rfl ?_
  obtain ⟨hk11, h⟩ := h
  obtain ⟨hi12, h⟩ := h
  refine jx_iald dX3_apart_37 hk11 hi12 ?_
  refine jx_isub dX3_apart_38 ?_
  refine jx_abs jwM_X3_154 jwS_abs jwZ_J9 jwO_abs dX3_apart_39 (jRok_m _ _ _) (jle rfl) ⟨Nat.zero_le _, Nat.zero_le _⟩ ?_
  refine jx_iadd dX3_apart_42 ?_
  refine jx_istore_n (lv1 := [(3, .int (x3 + (jabs (r8 - (ji S7 b10 (Int32.toNatClampNeg x4)))))), (0, .ref a0), (1, .ref a1), (2, .ref a2), (4, .int x4)]) dX3_apart_43 rfl (by decide) rfl ?_
  refine jx_iinc 4 (v := (x4 + 1)) (lv1 := [(4, .int (x4 + 1)), (3, .int (x3 + (jabs (r8 - (ji S7 b10 (Int32.toNatClampNeg x4)))))), (0, .ref a0), (1, .ref a1), (2, .ref a2)]) kd21.1 rfl rfl (by decide) rfl ?_
  refine jx_goto (tgt := 5) kd21.2 (by decide) ?_
  exact jx_lv [2, 3, 4, 1, 0] rfl h
set_option maxRecDepth 100000 in
set_option maxHeartbeats 4000000 in
theorem T_X5_init {E : jEnv} {d : Nat} {Q : jM → Prop} {a0 : Nat} {S : jM} (h : ∀ q1, q1 = jn S → jk (jnew S 12 5) a0 = 5 ∧ ∀ q4, q4 = jn (jputr (jnew S 12 5) a0 0 (some q1)) → jk (jnew (jputr (jnew S 12 5) a0 0 (some q1)) 12 5) a0 = 5 ∧ ∀ q7, q7 = jn (jputr (jnew (jputr (jnew S 12 5) a0 0 (some q1)) 12 5) a0 1 (some q4)) → jk (jnew (jputr (jnew (jputr (jnew S 12 5) a0 0 (some q1)) 12 5) a0 1 (some q4)) 12 5) a0 = 5 ∧ ∀ q10, q10 = jn (jputr (jnew (jputr (jnew (jputr (jnew S 12 5) a0 0 (some q1)) 12 5) a0 1 (some q4)) 12 5) a0 2 (some q7)) → jk (jnew (jputr (jnew (jputr (jnew (jputr (jnew S 12 5) a0 0 (some q1)) 12 5) a0 1 (some q4)) 12 5) a0 2 (some q7)) 12 5) a0 = 5 ∧ ∀ q13, q13 = jn (jputr (jnew (jputr (jnew (jputr (jnew (jputr (jnew S 12 5) a0 0 (some q1)) 12 5) a0 1 (some q4)) 12 5) a0 2 (some q7)) 12 5) a0 3 (some q10)) → jk (jnew (jputr (jnew (jputr (jnew (jputr (jnew (jputr (jnew S 12 5) a0 0 (some q1)) 12 5) a0 1 (some q4)) 12 5) a0 2 (some q7)) 12 5) a0 3 (some q10)) 12 5) a0 = 5 ∧ ∀ q16, q16 = jn (jputr (jnew (jputr (jnew (jputr (jnew (jputr (jnew (jputr (jnew S 12 5) a0 0 (some q1)) 12 5) a0 1 (some q4)) 12 5) a0 2 (some q7)) 12 5) a0 3 (some q10)) 12 5) a0 4 (some q13)) → jk (jnew (jputr (jnew (jputr (jnew (jputr (jnew (jputr (jnew (jputr (jnew S 12 5) a0 0 (some q1)) 12 5) a0 1 (some q4)) 12 5) a0 2 (some q7)) 12 5) a0 3 (some q10)) 12 5) a0 4 (some q13)) 12 10) a0 = 5 ∧ ∀ q19, q19 = jn (jputr (jnew (jputr (jnew (jputr (jnew (jputr (jnew (jputr (jnew (jputr (jnew S 12 5) a0 0 (some q1)) 12 5) a0 1 (some q4)) 12 5) a0 2 (some q7)) 12 5) a0 3 (some q10)) 12 5) a0 4 (some q13)) 12 10) a0 5 (some q16)) → jk (jnew (jputr (jnew (jputr (jnew (jputr (jnew (jputr (jnew (jputr (jnew (jputr (jnew S 12 5) a0 0 (some q1)) 12 5) a0 1 (some q4)) 12 5) a0 2 (some q7)) 12 5) a0 3 (some q10)) 12 5) a0 4 (some q13)) 12 10) a0 5 (some q16)) 12 99) a0 = 5 ∧ Q (jputr (jnew (jputr (jnew (jputr (jnew (jputr (jnew (jputr (jnew (jputr (jnew (jputr (jnew S 12 5) a0 0 (some q1)) 12 5) a0 1 (some q4)) 12 5) a0 2 (some q7)) 12 5) a0 3 (some q10)) 12 5) a0 4 (some q13)) 12 10) a0 5 (some q16)) 12 99) a0 6 (some q19))) : jFv E mX5_init (d + 1) 7 134 [.ref a0] S Q := by
  refine jF_of (by decide) (jle rfl) ?_
  refine jx_lv (lv1 := [(0, .ref a0)]) [0] rfl ?_
  refine jx_aload_n 0 dX5_init_0 rfl rfl ?_
  refine jx_objInit jwM_X5_3 jwN_obj jwO_obj dX5_init_1 (jRok_m _ _ _) (jle rfl) ?_
  refine jx_aload_n 0 dX5_init_4 rfl rfl ?_
  refine jx_iconst (v := 5) dX5_init_5 (by decide) ?_
  refine jx_newa (N := 5) jwA kd24.1 (by decide) (by decide) (by decide) ⟨jle rfl, jle rfl⟩ ?_
  obtain ⟨q1, hq1⟩ : ∃ q, q = jn S := ⟨_, rfl⟩
  rw [← hq1]
  replace h := h q1 hq1
  obtain ⟨hk2, h⟩ := h
  refine jx_putrF jc_5 (j := 0) (by decide) rfl jwF_X5_11 rfl rfl rfl rfl rfl dX5_init_8 hk2 ?_
  refine jx_aload_n 0 dX5_init_11 rfl rfl ?_
  refine jx_iconst (v := 5) dX5_init_12 (by decide) ?_
  refine jx_newa (N := 5) jwA kd24.2.1 (by decide) (by decide) (by decide) ⟨jle rfl, jle rfl⟩ ?_
  obtain ⟨q4, hq4⟩ : ∃ q, q = jn (jputr (jnew S 12 5) a0 0 (some q1)) := ⟨_, rfl⟩
  rw [← hq4]
  replace h := h q4 hq4
  obtain ⟨hk5, h⟩ := h
  refine jx_putrF jc_5 (j := 1) (by decide) rfl jwF_X5_15 rfl rfl rfl rfl rfl dX5_init_15 hk5 ?_
  refine jx_aload_n 0 dX5_init_18 rfl rfl ?_
  refine jx_iconst (v := 5) dX5_init_19 (by decide) ?_
  refine jx_newa (N := 5) jwA kd24.2.2.1 (by decide) (by decide) (by decide) ⟨jle rfl, jle rfl⟩ ?_
  obtain ⟨q7, hq7⟩ : ∃ q, q = jn (jputr (jnew (jputr (jnew S 12 5) a0 0 (some q1)) 12 5) a0 1 (some q4)) := ⟨_, rfl⟩
  rw [← hq7]
  replace h := h q7 hq7
  obtain ⟨hk8, h⟩ := h
  refine jx_putrF jc_5 (j := 2) (by decide) rfl jwF_X5_18 rfl rfl rfl rfl rfl dX5_init_22 hk8 ?_
  refine jx_aload_n 0 dX5_init_25 rfl rfl ?_
  refine jx_iconst (v := 5) dX5_init_26 (by decide) ?_
  refine jx_newa (N := 5) jwA kd24.2.2.2.1 (by decide) (by decide) (by decide) ⟨jle rfl, jle rfl⟩ ?_
  obtain ⟨q10, hq10⟩ : ∃ q, q = jn (jputr (jnew (jputr (jnew (jputr (jnew S 12 5) a0 0 (some q1)) 12 5) a0 1 (some q4)) 12 5) a0 2 (some q7)) := ⟨_, rfl⟩
  rw [← hq10]
  replace h := h q10 hq10
  obtain ⟨hk11, h⟩ := h
  refine jx_putrF jc_5 (j := 3) (by decide) rfl jwF_X5_21 rfl rfl rfl rfl rfl dX5_init_29 hk11 ?_
  refine jx_aload_n 0 dX5_init_32 rfl rfl ?_
  refine jx_iconst (v := 5) dX5_init_33 (by decide) ?_
  refine jx_newa (N := 5) jwA kd24.2.2.2.2.1 (by decide) (by decide) (by decide) ⟨jle rfl, jle rfl⟩ ?_
  obtain ⟨q13, hq13⟩ : ∃ q, q = jn (jputr (jnew (jputr (jnew (jputr (jnew (jputr (jnew S 12 5) a0 0 (some q1)) 12 5) a0 1 (some q4)) 12 5) a0 2 (some q7)) 12 5) a0 3 (some q10)) := ⟨_, rfl⟩
  rw [← hq13]
  replace h := h q13 hq13
  obtain ⟨hk14, h⟩ := h
  refine jx_putrF jc_5 (j := 4) (by decide) rfl jwF_X5_24 rfl rfl rfl rfl rfl dX5_init_36 hk14 ?_
  refine jx_aload_n 0 dX5_init_39 rfl rfl ?_
  refine jx_bipush (v := 10) dX5_init_40 (by decide) ?_
  refine jx_newa (N := 10) jwA kd24.2.2.2.2.2.1 (by decide) (by decide) (by decide) ⟨jle rfl, jle rfl⟩ ?_
  obtain ⟨q16, hq16⟩ : ∃ q, q = jn (jputr (jnew (jputr (jnew (jputr (jnew (jputr (jnew (jputr (jnew S 12 5) a0 0 (some q1)) 12 5) a0 1 (some q4)) 12 5) a0 2 (some q7)) 12 5) a0 3 (some q10)) 12 5) a0 4 (some q13)) := ⟨_, rfl⟩
  rw [← hq16]
  replace h := h q16 hq16
  obtain ⟨hk17, h⟩ := h
  refine jx_putrF jc_5 (j := 5) (by decide) rfl jwF_X5_27 rfl rfl rfl rfl rfl dX5_init_44 hk17 ?_
  refine jx_aload_n 0 dX5_init_47 rfl rfl ?_
  refine jx_bipush (v := 99) dX5_init_48 (by decide) ?_
  refine jx_newa (N := 99) jwA kd24.2.2.2.2.2.2 (by decide) (by decide) (by decide) ⟨jle rfl, jle rfl⟩ ?_
  obtain ⟨q19, hq19⟩ : ∃ q, q = jn (jputr (jnew (jputr (jnew (jputr (jnew (jputr (jnew (jputr (jnew (jputr (jnew S 12 5) a0 0 (some q1)) 12 5) a0 1 (some q4)) 12 5) a0 2 (some q7)) 12 5) a0 3 (some q10)) 12 5) a0 4 (some q13)) 12 10) a0 5 (some q16)) := ⟨_, rfl⟩
  rw [← hq19]
  replace h := h q19 hq19
  obtain ⟨hk20, h⟩ := h
  refine jx_putrF jc_5 (j := 6) (by decide) rfl jwF_X5_30 rfl rfl rfl rfl rfl dX5_init_52 hk20 ?_
  exact jx_vret dX5_init_55 rfl (jle rfl) (jle rfl) ⟨rfl, h⟩
/-- X5_finds at its loop's head 39 -/
abbrev L_X5_finds_39 (E : jEnv) (d : Nat) (Q : Int32 → jM → Prop) (a0 : Nat) (a1 : Nat) (x2 : Int32) (S : jM) : Prop := jX E mX5_finds (jRm (d + 1) 0 0) (jZm E (fun r S' => ∃ v : Int32, r = some (.int v) ∧ Q v S') 0 0) 39 [(0, .ref a0), (1, .ref a1), (2, .int x2)] [] S 0 0
/-- X5_finds at its loop's head 63 -/
abbrev L_X5_finds_63 (E : jEnv) (d : Nat) (Q : Int32 → jM → Prop) (a0 : Nat) (a1 : Nat) (x2 : Int32) (S : jM) : Prop := jX E mX5_finds (jRm (d + 1) 0 0) (jZm E (fun r S' => ∃ v : Int32, r = some (.int v) ∧ Q v S') 0 0) 63 [(0, .ref a0), (1, .ref a1), (2, .int x2)] [] S 0 0
set_option maxRecDepth 100000 in
set_option maxHeartbeats 4000000 in
theorem T_X5_finds {E : jEnv} {d : Nat} {Q : Int32 → jM → Prop} {a0 : Nat} {a1 : Nat} {S : jM} (h : jk S a0 = 5 ∧ jk S a1 = 3 ∧ jFi E mX3_wishedSet d 0 0 [.ref a1] (jput (jput (jput S a0 9 1000000000) a0 10 1000000000) a0 11 1000000000) (fun r4 S3 => jk S3 a0 = 5 ∧ jk S3 a1 = 3 ∧ ∃ b7, jr S3 a1 0 = some b7 ∧ (jk S3 b7 = 0 ∧ jFi E mX0_taught d 0 0 [.ref b7] (jput S3 a0 7 r4) (fun r10 S9 => jk S9 a0 = 5 ∧ L_X5_finds_39 E d Q a0 a1 0 (jput S9 a0 8 r10))))) : jFi E mX5_finds (d + 1) 0 0 [.ref a0, .ref a1] S Q := by
  refine jF_of (by decide) (jle rfl) ?_
  refine jx_lv (lv1 := [(0, .ref a0), (1, .ref a1)]) [0, 1] rfl ?_
  refine jx_aload_n 0 dX5_finds_0 rfl rfl ?_
  refine jx_ldc jwC_X5_33 dX5_finds_1 ?_
  obtain ⟨hk1, h⟩ := h
  refine jx_puti jc_5 (j := 9) (by decide) rfl jwF_X5_34 rfl rfl rfl dX5_finds_3 hk1 ?_
  refine jx_aload_n 0 dX5_finds_6 rfl rfl ?_
  refine jx_ldc jwC_X5_33 dX5_finds_7 ?_
  refine jx_puti jc_5 (j := 10) (by decide) rfl jwF_X5_38 rfl rfl rfl dX5_finds_9 hk1 ?_
  refine jx_aload_n 0 dX5_finds_12 rfl rfl ?_
  refine jx_ldc jwC_X5_33 dX5_finds_13 ?_
  refine jx_puti jc_5 (j := 11) (by decide) rfl jwF_X5_41 rfl rfl rfl dX5_finds_15 hk1 ?_
  refine jx_aload_n 0 dX5_finds_18 rfl rfl ?_
  refine jx_aload_n 1 dX5_finds_19 rfl rfl ?_
  obtain ⟨hk2, h⟩ := h
  refine jx_callVi (M' := mX3_wishedSet) (As := []) jo_X3_wishedSet jc_3 rfl jwM_X5_44 jwN_X3_wishedSet jwX_X3_wishedSet dX5_finds_20 (jRok_m _ _ _) rfl (jle rfl) ⟨jle rfl, jle rfl⟩ hk2 h (fun r4 S3 h => ?_)
  obtain ⟨hk5, h⟩ := h
  refine jx_puti jc_5 (j := 7) (by decide) rfl jwF_X5_50 rfl rfl rfl dX5_finds_23 hk5 ?_
  refine jx_aload_n 0 dX5_finds_26 rfl rfl ?_
  refine jx_aload_n 1 dX5_finds_27 rfl rfl ?_
  obtain ⟨hk6, h⟩ := h
  obtain ⟨b7, hb7, h⟩ := h
  refine jx_getr jc_3 (j := 0) (by decide) rfl jwF_X5_53 dX5_finds_28 hk6 hb7 ?_
  obtain ⟨hk8, h⟩ := h
  refine jx_callVi (M' := mX0_taught) (As := []) jo_X0_taught jc_0 rfl jwM_X5_57 jwN_X0_taught jwX_X0_taught dX5_finds_31 (jRok_m _ _ _) rfl (jle rfl) ⟨jle rfl, jle rfl⟩ hk8 h (fun r10 S9 h => ?_)
  obtain ⟨hk11, h⟩ := h
  refine jx_puti jc_5 (j := 8) (by decide) rfl jwF_X5_62 rfl rfl rfl dX5_finds_34 hk11 ?_
  refine jx_iconst (v := 0) dX5_finds_37 (by decide) ?_
  refine jx_istore_n (lv1 := [(2, .int 0), (0, .ref a0), (1, .ref a1)]) dX5_finds_38 rfl (by decide) rfl ?_
  exact jx_lv [1, 2, 0] rfl h
set_option maxRecDepth 100000 in
set_option maxHeartbeats 4000000 in
theorem T_X5_finds_39 {E : jEnv} {d : Nat} {Q : Int32 → jM → Prop} {a0 : Nat} {a1 : Nat} {x2 : Int32} {S : jM} (h : jk S a0 = 5 ∧ ∃ b13, jr S a0 6 = some b13 ∧ (jk S b13 = 12 ∧ ((nI (jl S b13)) ≤ x2 → L_X5_finds_63 E d Q a0 a1 0 S) ∧ (¬ (nI (jl S b13)) ≤ x2 → vp_in x2 (jl S b13) ∧ (L_X5_finds_39 E d Q a0 a1 (x2 + 1) (jput S b13 (Int32.toNatClampNeg x2) 0))))) : L_X5_finds_39 E d Q a0 a1 x2 S := by
  show jX E mX5_finds (jRm (d + 1) 0 0) (jZm E (fun r S' => ∃ v : Int32, r = some (.int v) ∧ Q v S') 0 0) 39 [(0, .ref a0), (1, .ref a1), (2, .int x2)] [] S 0 0
  refine jx_iload_n 2 dX5_finds_39 rfl rfl ?_
  refine jx_aload_n 0 dX5_finds_40 rfl rfl ?_
  obtain ⟨hk12, h⟩ := h
  obtain ⟨b13, hb13, h⟩ := h
  refine jx_getr jc_5 (j := 6) (by decide) rfl jwF_X5_30 dX5_finds_41 hk12 hb13 ?_
  obtain ⟨hk14, h⟩ := h
  refine jx_alen dX5_finds_44 hk14 ?_
  refine jx_icmp_ge (tgt := 61) dX5_finds_45 (by decide) (fun c15 => ?_) (fun c15 => ?_)
  · replace h := h.1 c15
    refine jx_iconst (v := 0) dX5_finds_61 (by decide) ?_
    refine jx_istore_n (lv1 := [(2, .int 0), (0, .ref a0), (1, .ref a1)]) dX5_finds_62 rfl (by decide) rfl ?_
    exact jx_lv [1, 2, 0] rfl h
  replace h := h.2 c15
  refine jx_aload_n 0 dX5_finds_48 rfl rfl ?_
  refine jx_getr jc_5 (j := 6) (by decide) rfl jwF_X5_30 dX5_finds_49 hk12 hb13 ?_
  refine jx_iload_n 2 dX5_finds_52 rfl rfl ?_
  refine jx_iconst (v := 0) dX5_finds_53 (by decide) ?_
  obtain ⟨hi16, h⟩ := h
  refine jx_iast dX5_finds_54 hk14 hi16 ?_
  refine jx_iinc 2 (v := (x2 + 1)) (lv1 := [(2, .int (x2 + 1)), (0, .ref a0), (1, .ref a1)]) kd25.1 rfl rfl (by decide) rfl ?_
  refine jx_goto (tgt := 39) kd25.2.1 (by decide) ?_
  exact jx_lv [1, 2, 0] rfl h
set_option maxRecDepth 100000 in
set_option maxHeartbeats 4000000 in
theorem T_X5_finds_63 {E : jEnv} {d : Nat} {Q : Int32 → jM → Prop} {a0 : Nat} {a1 : Nat} {x2 : Int32} {S : jM} (h : (10 ≤ x2 → jk S a0 = 5 ∧ ∃ b19, jr S a0 0 = some b19 ∧ (jk S a1 = 3 ∧ ∃ b21, jr S a1 2 = some b21 ∧ (jk S b21 = 1 ∧ jk S b19 = 12 ∧ vp_in 0 (jl S b19) ∧ (∃ b25, jr S a0 1 = some b25 ∧ (jk S b25 = 12 ∧ vp_in 0 (jl S b25) ∧ (∃ b28, jr S a0 2 = some b28 ∧ (jk S b28 = 12 ∧ vp_in 0 (jl S b28) ∧ (∃ b31, jr S a0 3 = some b31 ∧ (jk S b31 = 12 ∧ vp_in 0 (jl S b31) ∧ (∃ b34, jr S a0 4 = some b34 ∧ (jk S b34 = 12 ∧ vp_in 0 (jl S b34) ∧ (jFv E mX5_goOn d 0 0 [.ref a0, .ref a1, .int 0] (jput (jput (jput (jput (jput S b19 (Int32.toNatClampNeg 0) (ji S b21 0)) b25 (Int32.toNatClampNeg 0) (ji S b21 1)) b28 (Int32.toNatClampNeg 0) 0) b31 (Int32.toNatClampNeg 0) 0) b34 (Int32.toNatClampNeg 0) (-1000000005)) (fun S37 => jk S37 a0 = 5 ∧ ((ji S37 a0 9) = 1000000000 → Q 0 S37) ∧ (¬ (ji S37 a0 9) = 1000000000 → Q 1 S37)))))))))))))) ∧ (¬ 10 ≤ x2 → jk S a0 = 5 ∧ ∃ b41, jr S a0 5 = some b41 ∧ (jk S a1 = 3 ∧ ∃ b43, jr S a1 2 = some b43 ∧ (jk S b43 = 1 ∧ ∃ b45, jr S b43 6 = some b45 ∧ (jk S b45 = 12 ∧ vp_in x2 (jl S b45) ∧ (jk S b41 = 12 ∧ vp_in x2 (jl S b41) ∧ (L_X5_finds_63 E d Q a0 a1 (x2 + 1) (jput S b41 (Int32.toNatClampNeg x2) (-(ji S b45 (Int32.toNatClampNeg x2))))))))))) : L_X5_finds_63 E d Q a0 a1 x2 S := by
  show jX E mX5_finds (jRm (d + 1) 0 0) (jZm E (fun r S' => ∃ v : Int32, r = some (.int v) ∧ Q v S') 0 0) 63 [(0, .ref a0), (1, .ref a1), (2, .int x2)] [] S 0 0
  refine jx_iload_n 2 dX5_finds_63 rfl rfl ?_
  refine jx_bipush (v := 10) dX5_finds_64 (by decide) ?_
  refine jx_icmp_ge (tgt := 91) dX5_finds_66 (by decide) (fun c17 => ?_) (fun c17 => ?_)
  · replace h := h.1 c17
    refine jx_aload_n 0 dX5_finds_91 rfl rfl ?_
    obtain ⟨hk18, h⟩ := h
    obtain ⟨b19, hb19, h⟩ := h
    refine jx_getr jc_5 (j := 0) (by decide) rfl jwF_X5_11 dX5_finds_92 hk18 hb19 ?_
    refine jx_iconst (v := 0) dX5_finds_95 (by decide) ?_
    refine jx_aload_n 1 dX5_finds_96 rfl rfl ?_
    obtain ⟨hk20, h⟩ := h
    obtain ⟨b21, hb21, h⟩ := h
    refine jx_getr jc_3 (j := 2) (by decide) rfl jwF_X5_64 dX5_finds_97 hk20 hb21 ?_
    obtain ⟨hk22, h⟩ := h
    refine jx_geti jc_1 (j := 0) (by decide) rfl jwF_X5_73 dX5_finds_100 hk22 ?_
    obtain ⟨hk23, h⟩ := h
    obtain ⟨hi24, h⟩ := h
    refine jx_iast dX5_finds_103 hk23 hi24 ?_
    refine jx_aload_n 0 dX5_finds_104 rfl rfl ?_
    obtain ⟨b25, hb25, h⟩ := h
    refine jx_getr jc_5 (j := 1) (by decide) rfl jwF_X5_15 dX5_finds_105 hk18 hb25 ?_
    refine jx_iconst (v := 0) dX5_finds_108 (by decide) ?_
    refine jx_aload_n 1 dX5_finds_109 rfl rfl ?_
    refine jx_getr jc_3 (j := 2) (by decide) rfl jwF_X5_64 dX5_finds_110 hk20 hb21 ?_
    refine jx_geti jc_1 (j := 1) (by decide) rfl jwF_X5_76 dX5_finds_113 hk22 ?_
    refine jx_topi (y := (ji S b21 1)) (by simp [ji_put, ji_row, ji_putr, jne hk22 hk23 (by decide)]) ?_
    obtain ⟨hk26, h⟩ := h
    obtain ⟨hi27, h⟩ := h
    refine jx_iast dX5_finds_116 hk26 hi27 ?_
    refine jx_aload_n 0 dX5_finds_117 rfl rfl ?_
    obtain ⟨b28, hb28, h⟩ := h
    refine jx_getr jc_5 (j := 2) (by decide) rfl jwF_X5_18 dX5_finds_118 hk18 hb28 ?_
    refine jx_iconst (v := 0) dX5_finds_121 (by decide) ?_
    refine jx_iconst (v := 0) dX5_finds_122 (by decide) ?_
    obtain ⟨hk29, h⟩ := h
    obtain ⟨hi30, h⟩ := h
    refine jx_iast dX5_finds_123 hk29 hi30 ?_
    refine jx_aload_n 0 dX5_finds_124 rfl rfl ?_
    obtain ⟨b31, hb31, h⟩ := h
    refine jx_getr jc_5 (j := 3) (by decide) rfl jwF_X5_21 dX5_finds_125 hk18 hb31 ?_
    refine jx_iconst (v := 0) dX5_finds_128 (by decide) ?_
    refine jx_iconst (v := 0) dX5_finds_129 (by decide) ?_
    obtain ⟨hk32, h⟩ := h
    obtain ⟨hi33, h⟩ := h
    refine jx_iast dX5_finds_130 hk32 hi33 ?_
    refine jx_aload_n 0 dX5_finds_131 rfl rfl ?_
    obtain ⟨b34, hb34, h⟩ := h
    refine jx_getr jc_5 (j := 4) (by decide) rfl jwF_X5_24 dX5_finds_132 hk18 hb34 ?_
    refine jx_iconst (v := 0) dX5_finds_135 (by decide) ?_
    refine jx_ldc jwC_X5_78 dX5_finds_136 ?_
    obtain ⟨hk35, h⟩ := h
    obtain ⟨hi36, h⟩ := h
    refine jx_iast dX5_finds_138 hk35 hi36 ?_
    refine jx_aload_n 0 dX5_finds_139 rfl rfl ?_
    refine jx_aload_n 1 dX5_finds_140 rfl rfl ?_
    refine jx_iconst (v := 0) dX5_finds_141 (by decide) ?_
    refine jx_callVv (M' := mX5_goOn) (As := [.ref a1, .int 0]) jo_X5_goOn jc_5 rfl jwM_X5_79 jwN_X5_goOn jwX_X5_goOn dX5_finds_142 (jRok_m _ _ _) rfl (jle rfl) ⟨jle rfl, jle rfl⟩ hk18 h (fun S37 h => ?_)
    refine jx_aload_n 0 dX5_finds_145 rfl rfl ?_
    obtain ⟨hk38, h⟩ := h
    refine jx_geti jc_5 (j := 9) (by decide) rfl jwF_X5_34 dX5_finds_146 hk38 ?_
    refine jx_ldc jwC_X5_33 dX5_finds_149 ?_
    refine jx_icmp_eq (tgt := 158) dX5_finds_151 (by decide) (fun c39 => ?_) (fun c39 => ?_)
    · replace h := h.1 c39
      refine jx_iconst (v := 0) dX5_finds_158 (by decide) ?_
      exact jx_iret dX5_finds_159 rfl (by decide) (jle rfl) (jle rfl) ⟨_, rfl, h⟩
    replace h := h.2 c39
    refine jx_iconst (v := 1) dX5_finds_154 (by decide) ?_
    refine jx_goto (tgt := 159) dX5_finds_155 (by decide) ?_
    exact jx_iret dX5_finds_159 rfl (by decide) (jle rfl) (jle rfl) ⟨_, rfl, h⟩
  replace h := h.2 c17
  refine jx_aload_n 0 dX5_finds_69 rfl rfl ?_
  obtain ⟨hk40, h⟩ := h
  obtain ⟨b41, hb41, h⟩ := h
  refine jx_getr jc_5 (j := 5) (by decide) rfl jwF_X5_27 dX5_finds_70 hk40 hb41 ?_
  refine jx_iload_n 2 dX5_finds_73 rfl rfl ?_
  refine jx_aload_n 1 dX5_finds_74 rfl rfl ?_
  obtain ⟨hk42, h⟩ := h
  obtain ⟨b43, hb43, h⟩ := h
  refine jx_getr jc_3 (j := 2) (by decide) rfl jwF_X5_64 dX5_finds_75 hk42 hb43 ?_
  obtain ⟨hk44, h⟩ := h
  obtain ⟨b45, hb45, h⟩ := h
  refine jx_getr jc_1 (j := 6) (by decide) rfl jwF_X5_68 dX5_finds_78 hk44 hb45 ?_
  refine jx_iload_n 2 dX5_finds_81 rfl rfl ?_
  obtain ⟨hk46, h⟩ := h
  obtain ⟨hi47, h⟩ := h
  refine jx_iald dX5_finds_82 hk46 hi47 ?_
  refine jx_ineg dX5_finds_83 ?_
  obtain ⟨hk48, h⟩ := h
  obtain ⟨hi49, h⟩ := h
  refine jx_iast dX5_finds_84 hk48 hi49 ?_
  refine jx_iinc 2 (v := (x2 + 1)) (lv1 := [(2, .int (x2 + 1)), (0, .ref a0), (1, .ref a1)]) kd25.2.2.1 rfl rfl (by decide) rfl ?_
  refine jx_goto (tgt := 63) kd25.2.2.2 (by decide) ?_
  exact jx_lv [1, 2, 0] rfl h
/-- X5_goOn at its loop's head 63 -/
abbrev L_X5_goOn_63 (E : jEnv) (d : Nat) (Q : jM → Prop) (a0 : Nat) (a1 : Nat) (x2 : Int32) (x3 : Int32) (x4 : Int32) (x5 : Int32) (S : jM) : Prop := jX E mX5_goOn (jRm (d + 1) 0 0) (jZm E (fun r S' => r = none ∧ Q S') 0 0) 63 [(0, .ref a0), (1, .ref a1), (2, .int x2), (3, .int x3), (4, .int x4), (5, .int x5)] [] S 0 0
set_option maxRecDepth 100000 in
set_option maxHeartbeats 4000000 in
theorem T_X5_goOn {E : jEnv} {d : Nat} {Q : jM → Prop} {a0 : Nat} {a1 : Nat} {x2 : Int32} {S : jM} (h : ((jwi x2 5) = 0 → Q S) ∧ (¬ (jwi x2 5) = 0 → jk S a0 = 5 ∧ ∃ b6, jr S a0 1 = some b6 ∧ (jk S b6 = 12 ∧ vp_in x2 (jl S b6) ∧ ((((ji S a0 7) &&& ((ji S b6 (Int32.toNatClampNeg x2)) ^^^ (-1))) = 0 → jFv E mX5_offer d 0 0 [.ref a0, .int x2] S (fun S15 => Q S15)) ∧ (¬ ((ji S a0 7) &&& ((ji S b6 (Int32.toNatClampNeg x2)) ^^^ (-1))) = 0 → (((4 - x2) - (jbc ((ji S a0 7) &&& ((ji S b6 (Int32.toNatClampNeg x2)) ^^^ (-1))))) < 0 → Q S) ∧ (¬ ((4 - x2) - (jbc ((ji S a0 7) &&& ((ji S b6 (Int32.toNatClampNeg x2)) ^^^ (-1))))) < 0 → ((((ji S a0 7) &&& ((ji S b6 (Int32.toNatClampNeg x2)) ^^^ (-1))) &&& ((ji S a0 8) ^^^ (-1))) = 0 → L_X5_goOn_63 E d Q a0 a1 x2 ((ji S a0 7) &&& ((ji S b6 (Int32.toNatClampNeg x2)) ^^^ (-1))) ((4 - x2) - (jbc ((ji S a0 7) &&& ((ji S b6 (Int32.toNatClampNeg x2)) ^^^ (-1))))) 0 S) ∧ (¬ (((ji S a0 7) &&& ((ji S b6 (Int32.toNatClampNeg x2)) ^^^ (-1))) &&& ((ji S a0 8) ^^^ (-1))) = 0 → Q S))))))) : jFv E mX5_goOn (d + 1) 0 0 [.ref a0, .ref a1, .int x2] S Q := by
  refine jF_of (by decide) (jle rfl) ?_
  refine jx_lv (lv1 := [(0, .ref a0), (1, .ref a1), (2, .int x2)]) [0, 1, 2] rfl ?_
  refine jx_iload_n 2 dX5_goOn_0 rfl rfl ?_
  refine jx_iconst (v := 5) dX5_goOn_1 (by decide) ?_
  refine jx_callSNi (M' := mX10_within) (As := [.int x2, .int 5]) (host := "NineMasters") jo_X10_within (by decide) jwS_X10_within dX5_goOn_2 (jRok_m _ _ _) rfl (jle rfl) ⟨jle rfl, jle rfl⟩ (c_X10_within (Q := fun v S' => v = (jwi x2 5) ∧ S = S') ⟨rfl, rfl⟩) (fun r1 S2 hq3 => ?_)
  obtain ⟨rfl, rfl⟩ := hq3
  refine jx_if_ne (tgt := 9) dX5_goOn_5 (by decide) (fun c4 => ?_) (fun c4 => ?_)
  · replace h := h.2 c4
    refine jx_aload_n 0 dX5_goOn_9 rfl rfl ?_
    obtain ⟨hk5, h⟩ := h
    refine jx_geti jc_5 (j := 7) (by decide) rfl jwF_X5_50 dX5_goOn_10 hk5 ?_
    refine jx_aload_n 0 dX5_goOn_13 rfl rfl ?_
    obtain ⟨b6, hb6, h⟩ := h
    refine jx_getr jc_5 (j := 1) (by decide) rfl jwF_X5_15 dX5_goOn_14 hk5 hb6 ?_
    refine jx_iload_n 2 dX5_goOn_17 rfl rfl ?_
    obtain ⟨hk7, h⟩ := h
    obtain ⟨hi8, h⟩ := h
    refine jx_iald dX5_goOn_18 hk7 hi8 ?_
    refine jx_iconst (v := (-1)) dX5_goOn_19 (by decide) ?_
    refine jx_ixor dX5_goOn_20 ?_
    refine jx_iand dX5_goOn_21 ?_
    refine jx_istore_n (lv1 := [(3, .int ((ji S a0 7) &&& ((ji S b6 (Int32.toNatClampNeg x2)) ^^^ (-1)))), (0, .ref a0), (1, .ref a1), (2, .int x2)]) dX5_goOn_22 rfl (by decide) rfl ?_
    refine jx_iload_n 0 dX5_goOn_23 rfl rfl ?_
    refine jx_if_ne (tgt := 33) dX5_goOn_24 (by decide) (fun c9 => ?_) (fun c9 => ?_)
    · replace h := h.2 c9
      refine jx_iconst (v := 4) dX5_goOn_33 (by decide) ?_
      refine jx_iload_n 3 dX5_goOn_34 rfl rfl ?_
      refine jx_isub dX5_goOn_35 ?_
      refine jx_iload_n 0 dX5_goOn_36 rfl rfl ?_
      refine jx_callSi (M' := mJ6_bitCount_0f7a4) (As := [.int ((ji S a0 7) &&& ((ji S b6 (Int32.toNatClampNeg x2)) ^^^ (-1)))]) jo_J6_bitCount_0f7a4 jwM_X5_91 jwS_J6_bitCount_0f7a4 dX5_goOn_37 (jRok_m _ _ _) rfl (jle rfl) ⟨jle rfl, jle rfl⟩ (c_J6_bitCount_0f7a4 (Q := fun v S' => v = (jbc ((ji S a0 7) &&& ((ji S b6 (Int32.toNatClampNeg x2)) ^^^ (-1)))) ∧ S = S') ⟨rfl, rfl⟩) (fun r10 S11 hq12 => ?_)
      obtain ⟨rfl, rfl⟩ := hq12
      refine jx_isub dX5_goOn_40 ?_
      refine jx_istore (lv1 := [(4, .int ((4 - x2) - (jbc ((ji S a0 7) &&& ((ji S b6 (Int32.toNatClampNeg x2)) ^^^ (-1)))))), (3, .int ((ji S a0 7) &&& ((ji S b6 (Int32.toNatClampNeg x2)) ^^^ (-1)))), (0, .ref a0), (1, .ref a1), (2, .int x2)]) dX5_goOn_41 (by decide) rfl ?_
      refine jx_iload 0 dX5_goOn_43 rfl ?_
      refine jx_if_lt (tgt := 59) dX5_goOn_45 (by decide) (fun c13 => ?_) (fun c13 => ?_)
      · replace h := h.1 c13
        exact jx_vret dX5_goOn_59 rfl (jle rfl) (jle rfl) ⟨rfl, h⟩
      replace h := h.2 c13
      refine jx_iload_n 1 dX5_goOn_48 rfl rfl ?_
      refine jx_aload_n 2 dX5_goOn_49 rfl rfl ?_
      refine jx_geti jc_5 (j := 8) (by decide) rfl jwF_X5_62 dX5_goOn_50 hk5 ?_
      refine jx_iconst (v := (-1)) dX5_goOn_53 (by decide) ?_
      refine jx_ixor dX5_goOn_54 ?_
      refine jx_iand dX5_goOn_55 ?_
      refine jx_if_eq (tgt := 60) dX5_goOn_56 (by decide) (fun c14 => ?_) (fun c14 => ?_)
      · replace h := h.1 c14
        refine jx_iconst (v := 0) dX5_goOn_60 (by decide) ?_
        refine jx_istore (lv1 := [(5, .int 0), (4, .int ((4 - x2) - (jbc ((ji S a0 7) &&& ((ji S b6 (Int32.toNatClampNeg x2)) ^^^ (-1)))))), (3, .int ((ji S a0 7) &&& ((ji S b6 (Int32.toNatClampNeg x2)) ^^^ (-1)))), (0, .ref a0), (1, .ref a1), (2, .int x2)]) dX5_goOn_61 (by decide) rfl ?_
        exact jx_lv [3, 4, 5, 2, 1, 0] rfl h
      replace h := h.2 c14
      exact jx_vret dX5_goOn_59 rfl (jle rfl) (jle rfl) ⟨rfl, h⟩
    replace h := h.1 c9
    refine jx_aload_n 1 dX5_goOn_27 rfl rfl ?_
    refine jx_iload_n 3 dX5_goOn_28 rfl rfl ?_
    refine jx_callVv (M' := mX5_offer) (As := [.int x2]) jo_X5_offer jc_5 rfl jwM_X5_87 jwN_X5_offer jwX_X5_offer dX5_goOn_29 (jRok_m _ _ _) rfl (jle rfl) ⟨jle rfl, jle rfl⟩ hk5 h (fun S15 h => ?_)
    exact jx_vret dX5_goOn_32 rfl (jle rfl) (jle rfl) ⟨rfl, h⟩
  replace h := h.1 c4
  exact jx_vret dX5_goOn_8 rfl (jle rfl) (jle rfl) ⟨rfl, h⟩
set_option maxRecDepth 100000 in
set_option maxHeartbeats 4000000 in
theorem T_X5_goOn_63 {E : jEnv} {d : Nat} {Q : jM → Prop} {a0 : Nat} {a1 : Nat} {x2 : Int32} {x3 : Int32} {x4 : Int32} {x5 : Int32} {S : jM} (h : jk S a1 = 3 ∧ ∃ b17, jr S a1 0 = some b17 ∧ (jk S b17 = 0 ∧ ((ji S b17 1) ≤ x5 → Q S) ∧ (¬ (ji S b17 1) ≤ x5 → jFr E mX0_find d 0 0 [.ref b17, .int x5] S (fun o21 S20 => (o21 = none → L_X5_goOn_63 E d Q a0 a1 x2 x3 x4 (x5 + 1) S20) ∧ (∀ b22, o21 = some b22 → (0 < x4 → jk S20 a0 = 5 ∧ jFv E mX5_tryMaster d 0 0 [.ref a0, .ref a1, .int x2, .int x5, .ref b22] S20 (fun S25 => L_X5_goOn_63 E d Q a0 a1 x2 x3 x4 (x5 + 1) S25)) ∧ (¬ 0 < x4 → jk S20 b22 = 2 ∧ ((x3 &&& (jshl 1 (ji S20 b22 2))) = 0 → L_X5_goOn_63 E d Q a0 a1 x2 x3 x4 (x5 + 1) S20) ∧ (¬ (x3 &&& (jshl 1 (ji S20 b22 2))) = 0 → jk S20 a0 = 5 ∧ jFv E mX5_tryMaster d 0 0 [.ref a0, .ref a1, .int x2, .int x5, .ref b22] S20 (fun S29 => L_X5_goOn_63 E d Q a0 a1 x2 x3 x4 (x5 + 1) S29)))))))) : L_X5_goOn_63 E d Q a0 a1 x2 x3 x4 x5 S := by
  show jX E mX5_goOn (jRm (d + 1) 0 0) (jZm E (fun r S' => r = none ∧ Q S') 0 0) 63 [(0, .ref a0), (1, .ref a1), (2, .int x2), (3, .int x3), (4, .int x4), (5, .int x5)] [] S 0 0
  refine jx_iload 5 dX5_goOn_63 rfl ?_
  refine jx_aload_n 1 dX5_goOn_65 rfl rfl ?_
  obtain ⟨hk16, h⟩ := h
  obtain ⟨b17, hb17, h⟩ := h
  refine jx_getr jc_3 (j := 0) (by decide) rfl jwF_X5_53 dX5_goOn_66 hk16 hb17 ?_
  obtain ⟨hk18, h⟩ := h
  refine jx_geti jc_0 (j := 1) (by decide) rfl jwF_X5_97 dX5_goOn_69 hk18 ?_
  refine jx_icmp_ge (tgt := 124) dX5_goOn_72 (by decide) (fun c19 => ?_) (fun c19 => ?_)
  · replace h := h.1 c19
    exact jx_vret dX5_goOn_124 rfl (jle rfl) (jle rfl) ⟨rfl, h⟩
  replace h := h.2 c19
  refine jx_aload_n 1 dX5_goOn_75 rfl rfl ?_
  refine jx_getr jc_3 (j := 0) (by decide) rfl jwF_X5_53 dX5_goOn_76 hk16 hb17 ?_
  refine jx_iload 5 dX5_goOn_79 rfl ?_
  refine jx_callVr (M' := mX0_find) (As := [.int x5]) jo_X0_find jc_0 rfl jwM_X5_100 jwN_X0_find jwX_X0_find dX5_goOn_81 (jRok_m _ _ _) rfl (jle rfl) ⟨jle rfl, jle rfl⟩ hk18 h (fun o21 S20 h => ?_)
  rcases o21 with _ | b22
  · replace h := h.1 rfl
    refine jx_astoreN (lv1 := [(6, .null), (0, .ref a0), (1, .ref a1), (2, .int x2), (3, .int x3), (4, .int x4), (5, .int x5)]) dX5_goOn_84 (by decide) rfl ?_
    refine jx_aloadN 0 dX5_goOn_86 rfl ?_
    refine jx_ifnullN (tgt := 118) dX5_goOn_88 (by decide) ?_
    refine jx_iinc 6 (v := (x5 + 1)) (lv1 := [(5, .int (x5 + 1)), (6, .null), (0, .ref a0), (1, .ref a1), (2, .int x2), (3, .int x3), (4, .int x4)]) kd26.1 rfl rfl (by decide) rfl ?_
    refine jx_goto (tgt := 63) kd26.2 (by decide) ?_
    exact jx_lv [2, 3, 4, 5, 6, 0] rfl h
  replace h := h.2 b22 rfl
  refine jx_astore (lv1 := [(6, .ref b22), (0, .ref a0), (1, .ref a1), (2, .int x2), (3, .int x3), (4, .int x4), (5, .int x5)]) dX5_goOn_84 (by decide) rfl ?_
  refine jx_aload 0 dX5_goOn_86 rfl ?_
  refine jx_ifnull dX5_goOn_88 ?_
  refine jx_iload 5 dX5_goOn_91 rfl ?_
  refine jx_if_gt (tgt := 108) dX5_goOn_93 (by decide) (fun c23 => ?_) (fun c23 => ?_)
  · replace h := h.1 c23
    refine jx_aload_n 1 dX5_goOn_108 rfl rfl ?_
    refine jx_aload_n 2 dX5_goOn_109 rfl rfl ?_
    refine jx_iload_n 3 dX5_goOn_110 rfl rfl ?_
    refine jx_iload 6 dX5_goOn_111 rfl ?_
    refine jx_aload 0 dX5_goOn_113 rfl ?_
    obtain ⟨hk24, h⟩ := h
    refine jx_callVv (M' := mX5_tryMaster) (As := [.ref a1, .int x2, .int x5, .ref b22]) jo_X5_tryMaster jc_5 rfl jwM_X5_109 jwN_X5_tryMaster jwX_X5_tryMaster dX5_goOn_115 (jRok_m _ _ _) rfl (jle rfl) ⟨jle rfl, jle rfl⟩ hk24 h (fun S25 h => ?_)
    refine jx_iinc 6 (v := (x5 + 1)) (lv1 := [(5, .int (x5 + 1)), (6, .ref b22), (0, .ref a0), (1, .ref a1), (2, .int x2), (3, .int x3), (4, .int x4)]) kd26.1 rfl rfl (by decide) rfl ?_
    refine jx_goto (tgt := 63) kd26.2 (by decide) ?_
    exact jx_lv [2, 3, 4, 5, 6, 0] rfl h
  replace h := h.2 c23
  refine jx_iload_n 4 dX5_goOn_96 rfl rfl ?_
  refine jx_iconst (v := 1) dX5_goOn_97 (by decide) ?_
  refine jx_aload 0 dX5_goOn_98 rfl ?_
  obtain ⟨hk26, h⟩ := h
  refine jx_geti jc_2 (j := 2) (by decide) rfl jwF_X5_104 dX5_goOn_100 hk26 ?_
  refine jx_ishl dX5_goOn_103 ?_
  refine jx_iand dX5_goOn_104 ?_
  refine jx_if_eq (tgt := 118) dX5_goOn_105 (by decide) (fun c27 => ?_) (fun c27 => ?_)
  · replace h := h.1 c27
    refine jx_iinc 6 (v := (x5 + 1)) (lv1 := [(5, .int (x5 + 1)), (6, .ref b22), (0, .ref a0), (1, .ref a1), (2, .int x2), (3, .int x3), (4, .int x4)]) kd26.1 rfl rfl (by decide) rfl ?_
    refine jx_goto (tgt := 63) kd26.2 (by decide) ?_
    exact jx_lv [2, 3, 4, 5, 6, 0] rfl h
  replace h := h.2 c27
  refine jx_aload_n 1 dX5_goOn_108 rfl rfl ?_
  refine jx_aload_n 2 dX5_goOn_109 rfl rfl ?_
  refine jx_iload_n 3 dX5_goOn_110 rfl rfl ?_
  refine jx_iload 6 dX5_goOn_111 rfl ?_
  refine jx_aload 0 dX5_goOn_113 rfl ?_
  obtain ⟨hk28, h⟩ := h
  refine jx_callVv (M' := mX5_tryMaster) (As := [.ref a1, .int x2, .int x5, .ref b22]) jo_X5_tryMaster jc_5 rfl jwM_X5_109 jwN_X5_tryMaster jwX_X5_tryMaster dX5_goOn_115 (jRok_m _ _ _) rfl (jle rfl) ⟨jle rfl, jle rfl⟩ hk28 h (fun S29 h => ?_)
  refine jx_iinc 6 (v := (x5 + 1)) (lv1 := [(5, .int (x5 + 1)), (6, .ref b22), (0, .ref a0), (1, .ref a1), (2, .int x2), (3, .int x3), (4, .int x4)]) kd26.1 rfl rfl (by decide) rfl ?_
  refine jx_goto (tgt := 63) kd26.2 (by decide) ?_
  exact jx_lv [2, 3, 4, 5, 6, 0] rfl h
set_option maxRecDepth 100000 in
set_option maxHeartbeats 4000000 in
theorem T_X5_tryMaster {E : jEnv} {d : Nat} {Q : jM → Prop} {a0 : Nat} {a1 : Nat} {x2 : Int32} {x3 : Int32} {a4 : Nat} {S : jM} (h : jk S a4 = 2 ∧ ((jwi x2 5) = 0 → Q S) ∧ (¬ (jwi x2 5) = 0 → ((jwi (x2 + 1) 5) = 0 → Q S) ∧ (¬ (jwi (x2 + 1) 5) = 0 → ((jwi (ji S a4 2) 10) = 0 → Q S) ∧ (¬ (jwi (ji S a4 2) 10) = 0 → jk S a1 = 3 ∧ ∃ b15, jr S a1 1 = some b15 ∧ (jk S a0 = 5 ∧ ∃ b17, jr S a0 0 = some b17 ∧ (jk S b17 = 12 ∧ vp_in x2 (jl S b17) ∧ (jk S b15 = 4 ∧ jFi E mX4_fewest d 0 0 [.ref b15, .int (ji S b17 (Int32.toNatClampNeg x2)), .int (ji S a4 1)] S (fun r22 S21 => jk S21 a0 = 5 ∧ ∃ b24, jr S21 a0 2 = some b24 ∧ (jk S21 b24 = 12 ∧ vp_in x2 (jl S21 b24) ∧ (jk S21 a1 = 3 ∧ ∃ b28, jr S21 a1 2 = some b28 ∧ (jk S21 b28 = 1 ∧ (r22 = 0 → ∃ b103, jr S21 a0 1 = some b103 ∧ (jk S21 b103 = 12 ∧ vp_in x2 (jl S21 b103) ∧ (∃ b106, jr S21 a0 3 = some b106 ∧ (jk S21 b106 = 12 ∧ vp_in x2 (jl S21 b106) ∧ (jk S21 a4 = 2 ∧ ((ji S21 a4 6) = 0 → (r22 = 9999 → Q S21) ∧ (¬ r22 = 9999 → ((ji S21 b28 2) < ((ji S21 b106 (Int32.toNatClampNeg x2)) + (ji S21 a4 4)) → Q S21) ∧ (¬ (ji S21 b28 2) < ((ji S21 b106 (Int32.toNatClampNeg x2)) + (ji S21 a4 4)) → (((ji S21 b103 (Int32.toNatClampNeg x2)) &&& (jshl 1 (ji S a4 2))) = 0 → jFi E mX2_teaches d 0 0 [.ref a4, .int (ji S21 b103 (Int32.toNatClampNeg x2))] S21 (fun r115 S114 => (r115 = 0 → Q S114) ∧ (¬ r115 = 0 → jk S114 a0 = 5 ∧ jFi E mX5_daysTaken d 0 0 [.ref a0, .ref a1, .int x3, .ref a4, .int (jbc (ji S21 b103 (Int32.toNatClampNeg x2)))] S114 (fun r122 S121 => jk S121 a0 = 5 ∧ ((((ji S21 b24 (Int32.toNatClampNeg x2)) + r22) + r122) ≤ (ji S121 a0 9) → ∃ b125, jr S121 a0 0 = some b125 ∧ (jk S121 a4 = 2 ∧ jk S121 b125 = 12 ∧ vp_in (x2 + 1) (jl S121 b125) ∧ (∃ b129, jr S121 a0 1 = some b129 ∧ (jFi E mX5_keptOf d 0 0 [.ref a0, .int (ji S21 b103 (Int32.toNatClampNeg x2)), .int (((ji S21 b24 (Int32.toNatClampNeg x2)) + r22) + r122), .int (ji S21 b28 3)] (jput S121 b125 (Int32.toNatClampNeg (x2 + 1)) (ji S121 a4 1)) (fun r131 S130 => jk S130 a4 = 2 ∧ jFi E mX2_unlearnt d 0 0 [.ref a4] S130 (fun r134 S133 => jk S133 b129 = 12 ∧ vp_in (x2 + 1) (jl S133 b129) ∧ (jk S133 a0 = 5 ∧ ∃ b138, jr S133 a0 2 = some b138 ∧ (jk S133 b138 = 12 ∧ vp_in (x2 + 1) (jl S133 b138) ∧ (∃ b141, jr S133 a0 3 = some b141 ∧ (jk S133 b141 = 12 ∧ vp_in (x2 + 1) (jl S133 b141) ∧ (∃ b144, jr S133 a0 4 = some b144 ∧ ((x2 = 0 → jk S133 b144 = 12 ∧ vp_in (x2 + 1) (jl S133 b144) ∧ (∃ b160, jr S133 a0 5 = some b160 ∧ (jk S133 b160 = 12 ∧ vp_in (ji S a4 2) (jl S133 b160) ∧ (∀ y163 : Int32, y163 = (ji (jput (jput (jput (jput S133 b129 (Int32.toNatClampNeg (x2 + 1)) ((r131 &&& (r134 ^^^ (-1))) ||| (jshl 1 (ji S a4 2)))) b138 (Int32.toNatClampNeg (x2 + 1)) (((ji S21 b24 (Int32.toNatClampNeg x2)) + r22) + r122)) b141 (Int32.toNatClampNeg (x2 + 1)) ((ji S21 b106 (Int32.toNatClampNeg x2)) + (ji S21 a4 4))) b144 (Int32.toNatClampNeg (x2 + 1)) x3) b160 (Int32.toNatClampNeg (ji S a4 2))) → (jFv E mX5_goOn d 0 0 [.ref a0, .ref a1, .int (x2 + 1)] (jput (jput (jput (jput (jput S133 b129 (Int32.toNatClampNeg (x2 + 1)) ((r131 &&& (r134 ^^^ (-1))) ||| (jshl 1 (ji S a4 2)))) b138 (Int32.toNatClampNeg (x2 + 1)) (((ji S21 b24 (Int32.toNatClampNeg x2)) + r22) + r122)) b141 (Int32.toNatClampNeg (x2 + 1)) ((ji S21 b106 (Int32.toNatClampNeg x2)) + (ji S21 a4 4))) b144 (Int32.toNatClampNeg (x2 + 1)) x3) b160 (Int32.toNatClampNeg (ji S a4 2)) (((ji S21 b24 (Int32.toNatClampNeg x2)) + r22) + r122)) (fun S164 => jk S164 a0 = 5 ∧ ∃ b166, jr S164 a0 5 = some b166 ∧ (jk S164 b166 = 12 ∧ vp_in (ji S a4 2) (jl S164 b166) ∧ (Q (jput S164 b166 (Int32.toNatClampNeg (ji S a4 2)) y163))))))))) ∧ (¬ x2 = 0 → jk S133 b144 = 12 ∧ vp_in x2 (jl S133 b144) ∧ (vp_in (x2 + 1) (jl S133 b144) ∧ (∃ b149, jr S133 a0 5 = some b149 ∧ (jk S133 b149 = 12 ∧ vp_in (ji S a4 2) (jl S133 b149) ∧ (∀ y152 : Int32, y152 = (ji (jput (jput (jput (jput S133 b129 (Int32.toNatClampNeg (x2 + 1)) ((r131 &&& (r134 ^^^ (-1))) ||| (jshl 1 (ji S a4 2)))) b138 (Int32.toNatClampNeg (x2 + 1)) (((ji S21 b24 (Int32.toNatClampNeg x2)) + r22) + r122)) b141 (Int32.toNatClampNeg (x2 + 1)) ((ji S21 b106 (Int32.toNatClampNeg x2)) + (ji S21 a4 4))) b144 (Int32.toNatClampNeg (x2 + 1)) (ji (jput (jput (jput S133 b129 (Int32.toNatClampNeg (x2 + 1)) ((r131 &&& (r134 ^^^ (-1))) ||| (jshl 1 (ji S a4 2)))) b138 (Int32.toNatClampNeg (x2 + 1)) (((ji S21 b24 (Int32.toNatClampNeg x2)) + r22) + r122)) b141 (Int32.toNatClampNeg (x2 + 1)) ((ji S21 b106 (Int32.toNatClampNeg x2)) + (ji S21 a4 4))) b144 (Int32.toNatClampNeg x2))) b149 (Int32.toNatClampNeg (ji S a4 2))) → (jFv E mX5_goOn d 0 0 [.ref a0, .ref a1, .int (x2 + 1)] (jput (jput (jput (jput (jput S133 b129 (Int32.toNatClampNeg (x2 + 1)) ((r131 &&& (r134 ^^^ (-1))) ||| (jshl 1 (ji S a4 2)))) b138 (Int32.toNatClampNeg (x2 + 1)) (((ji S21 b24 (Int32.toNatClampNeg x2)) + r22) + r122)) b141 (Int32.toNatClampNeg (x2 + 1)) ((ji S21 b106 (Int32.toNatClampNeg x2)) + (ji S21 a4 4))) b144 (Int32.toNatClampNeg (x2 + 1)) (ji (jput (jput (jput S133 b129 (Int32.toNatClampNeg (x2 + 1)) ((r131 &&& (r134 ^^^ (-1))) ||| (jshl 1 (ji S a4 2)))) b138 (Int32.toNatClampNeg (x2 + 1)) (((ji S21 b24 (Int32.toNatClampNeg x2)) + r22) + r122)) b141 (Int32.toNatClampNeg (x2 + 1)) ((ji S21 b106 (Int32.toNatClampNeg x2)) + (ji S21 a4 4))) b144 (Int32.toNatClampNeg x2))) b149 (Int32.toNatClampNeg (ji S a4 2)) (((ji S21 b24 (Int32.toNatClampNeg x2)) + r22) + r122)) (fun S153 => jk S153 a0 = 5 ∧ ∃ b155, jr S153 a0 5 = some b155 ∧ (jk S153 b155 = 12 ∧ vp_in (ji S a4 2) (jl S153 b155) ∧ (Q (jput S153 b155 (Int32.toNatClampNeg (ji S a4 2)) y152)))))))))))))))))))))) ∧ (¬ (((ji S21 b24 (Int32.toNatClampNeg x2)) + r22) + r122) ≤ (ji S121 a0 9) → Q S121))))) ∧ (¬ ((ji S21 b103 (Int32.toNatClampNeg x2)) &&& (jshl 1 (ji S a4 2))) = 0 → Q S21)))) ∧ (¬ (ji S21 a4 6) = 0 → Q S21)))))) ∧ (¬ r22 = 0 → ∃ b31, jr S21 a0 1 = some b31 ∧ (jk S21 b31 = 12 ∧ vp_in x2 (jl S21 b31) ∧ (jFi E mX5_keptOf d 0 0 [.ref a0, .int (ji S21 b31 (Int32.toNatClampNeg x2)), .int ((ji S21 b24 (Int32.toNatClampNeg x2)) + r22), .int (ji S21 b28 3)] S21 (fun r35 S34 => jk S34 a0 = 5 ∧ ∃ b37, jr S34 a0 3 = some b37 ∧ (jk S34 b37 = 12 ∧ vp_in x2 (jl S34 b37) ∧ (jk S34 a4 = 2 ∧ ((ji S34 a4 6) = 0 → (r22 = 9999 → Q S34) ∧ (¬ r22 = 9999 → jk S34 a1 = 3 ∧ ∃ b44, jr S34 a1 2 = some b44 ∧ (jk S34 b44 = 1 ∧ ((ji S34 b44 2) < ((ji S34 b37 (Int32.toNatClampNeg x2)) + (ji S34 a4 4)) → Q S34) ∧ (¬ (ji S34 b44 2) < ((ji S34 b37 (Int32.toNatClampNeg x2)) + (ji S34 a4 4)) → ((r35 &&& (jshl 1 (ji S a4 2))) = 0 → jFi E mX2_teaches d 0 0 [.ref a4, .int r35] S34 (fun r49 S48 => (r49 = 0 → Q S48) ∧ (¬ r49 = 0 → jk S48 a0 = 5 ∧ jFi E mX5_daysTaken d 0 0 [.ref a0, .ref a1, .int x3, .ref a4, .int (jbc r35)] S48 (fun r56 S55 => jk S55 a0 = 5 ∧ ((((ji S21 b24 (Int32.toNatClampNeg x2)) + r22) + r56) ≤ (ji S55 a0 9) → ∃ b59, jr S55 a0 0 = some b59 ∧ (jk S55 a4 = 2 ∧ jk S55 b59 = 12 ∧ vp_in (x2 + 1) (jl S55 b59) ∧ (∃ b63, jr S55 a0 1 = some b63 ∧ (jFi E mX5_keptOf d 0 0 [.ref a0, .int r35, .int (((ji S21 b24 (Int32.toNatClampNeg x2)) + r22) + r56), .int (ji S21 b28 3)] (jput S55 b59 (Int32.toNatClampNeg (x2 + 1)) (ji S55 a4 1)) (fun r65 S64 => jk S64 a4 = 2 ∧ jFi E mX2_unlearnt d 0 0 [.ref a4] S64 (fun r68 S67 => jk S67 b63 = 12 ∧ vp_in (x2 + 1) (jl S67 b63) ∧ (jk S67 a0 = 5 ∧ ∃ b72, jr S67 a0 2 = some b72 ∧ (jk S67 b72 = 12 ∧ vp_in (x2 + 1) (jl S67 b72) ∧ (∃ b75, jr S67 a0 3 = some b75 ∧ (jk S67 b75 = 12 ∧ vp_in (x2 + 1) (jl S67 b75) ∧ (∃ b78, jr S67 a0 4 = some b78 ∧ ((x2 = 0 → jk S67 b78 = 12 ∧ vp_in (x2 + 1) (jl S67 b78) ∧ (∃ b94, jr S67 a0 5 = some b94 ∧ (jk S67 b94 = 12 ∧ vp_in (ji S a4 2) (jl S67 b94) ∧ (∀ y97 : Int32, y97 = (ji (jput (jput (jput (jput S67 b63 (Int32.toNatClampNeg (x2 + 1)) ((r65 &&& (r68 ^^^ (-1))) ||| (jshl 1 (ji S a4 2)))) b72 (Int32.toNatClampNeg (x2 + 1)) (((ji S21 b24 (Int32.toNatClampNeg x2)) + r22) + r56)) b75 (Int32.toNatClampNeg (x2 + 1)) ((ji S34 b37 (Int32.toNatClampNeg x2)) + (ji S34 a4 4))) b78 (Int32.toNatClampNeg (x2 + 1)) x3) b94 (Int32.toNatClampNeg (ji S a4 2))) → (jFv E mX5_goOn d 0 0 [.ref a0, .ref a1, .int (x2 + 1)] (jput (jput (jput (jput (jput S67 b63 (Int32.toNatClampNeg (x2 + 1)) ((r65 &&& (r68 ^^^ (-1))) ||| (jshl 1 (ji S a4 2)))) b72 (Int32.toNatClampNeg (x2 + 1)) (((ji S21 b24 (Int32.toNatClampNeg x2)) + r22) + r56)) b75 (Int32.toNatClampNeg (x2 + 1)) ((ji S34 b37 (Int32.toNatClampNeg x2)) + (ji S34 a4 4))) b78 (Int32.toNatClampNeg (x2 + 1)) x3) b94 (Int32.toNatClampNeg (ji S a4 2)) (((ji S21 b24 (Int32.toNatClampNeg x2)) + r22) + r56)) (fun S98 => jk S98 a0 = 5 ∧ ∃ b100, jr S98 a0 5 = some b100 ∧ (jk S98 b100 = 12 ∧ vp_in (ji S a4 2) (jl S98 b100) ∧ (Q (jput S98 b100 (Int32.toNatClampNeg (ji S a4 2)) y97))))))))) ∧ (¬ x2 = 0 → jk S67 b78 = 12 ∧ vp_in x2 (jl S67 b78) ∧ (vp_in (x2 + 1) (jl S67 b78) ∧ (∃ b83, jr S67 a0 5 = some b83 ∧ (jk S67 b83 = 12 ∧ vp_in (ji S a4 2) (jl S67 b83) ∧ (∀ y86 : Int32, y86 = (ji (jput (jput (jput (jput S67 b63 (Int32.toNatClampNeg (x2 + 1)) ((r65 &&& (r68 ^^^ (-1))) ||| (jshl 1 (ji S a4 2)))) b72 (Int32.toNatClampNeg (x2 + 1)) (((ji S21 b24 (Int32.toNatClampNeg x2)) + r22) + r56)) b75 (Int32.toNatClampNeg (x2 + 1)) ((ji S34 b37 (Int32.toNatClampNeg x2)) + (ji S34 a4 4))) b78 (Int32.toNatClampNeg (x2 + 1)) (ji (jput (jput (jput S67 b63 (Int32.toNatClampNeg (x2 + 1)) ((r65 &&& (r68 ^^^ (-1))) ||| (jshl 1 (ji S a4 2)))) b72 (Int32.toNatClampNeg (x2 + 1)) (((ji S21 b24 (Int32.toNatClampNeg x2)) + r22) + r56)) b75 (Int32.toNatClampNeg (x2 + 1)) ((ji S34 b37 (Int32.toNatClampNeg x2)) + (ji S34 a4 4))) b78 (Int32.toNatClampNeg x2))) b83 (Int32.toNatClampNeg (ji S a4 2))) → (jFv E mX5_goOn d 0 0 [.ref a0, .ref a1, .int (x2 + 1)] (jput (jput (jput (jput (jput S67 b63 (Int32.toNatClampNeg (x2 + 1)) ((r65 &&& (r68 ^^^ (-1))) ||| (jshl 1 (ji S a4 2)))) b72 (Int32.toNatClampNeg (x2 + 1)) (((ji S21 b24 (Int32.toNatClampNeg x2)) + r22) + r56)) b75 (Int32.toNatClampNeg (x2 + 1)) ((ji S34 b37 (Int32.toNatClampNeg x2)) + (ji S34 a4 4))) b78 (Int32.toNatClampNeg (x2 + 1)) (ji (jput (jput (jput S67 b63 (Int32.toNatClampNeg (x2 + 1)) ((r65 &&& (r68 ^^^ (-1))) ||| (jshl 1 (ji S a4 2)))) b72 (Int32.toNatClampNeg (x2 + 1)) (((ji S21 b24 (Int32.toNatClampNeg x2)) + r22) + r56)) b75 (Int32.toNatClampNeg (x2 + 1)) ((ji S34 b37 (Int32.toNatClampNeg x2)) + (ji S34 a4 4))) b78 (Int32.toNatClampNeg x2))) b83 (Int32.toNatClampNeg (ji S a4 2)) (((ji S21 b24 (Int32.toNatClampNeg x2)) + r22) + r56)) (fun S87 => jk S87 a0 = 5 ∧ ∃ b89, jr S87 a0 5 = some b89 ∧ (jk S87 b89 = 12 ∧ vp_in (ji S a4 2) (jl S87 b89) ∧ (Q (jput S87 b89 (Int32.toNatClampNeg (ji S a4 2)) y86)))))))))))))))))))))) ∧ (¬ (((ji S21 b24 (Int32.toNatClampNeg x2)) + r22) + r56) ≤ (ji S55 a0 9) → Q S55))))) ∧ (¬ (r35 &&& (jshl 1 (ji S a4 2))) = 0 → Q S34))))) ∧ (¬ (ji S34 a4 6) = 0 → Q S34)))))))))))))))))) : jFv E mX5_tryMaster (d + 1) 0 0 [.ref a0, .ref a1, .int x2, .int x3, .ref a4] S Q := by
  refine jF_of (by decide) (jle rfl) ?_
  refine jx_lv (lv1 := [(0, .ref a0), (1, .ref a1), (2, .int x2), (3, .int x3), (4, .ref a4)]) [0, 1, 2, 3, 4] rfl ?_
  refine jx_iload_n 2 dX5_tryMaster_0 rfl rfl ?_
  refine jx_iconst (v := 1) dX5_tryMaster_1 (by decide) ?_
  refine jx_iadd dX5_tryMaster_2 ?_
  refine jx_istore (lv1 := [(5, .int (x2 + 1)), (0, .ref a0), (1, .ref a1), (2, .int x2), (3, .int x3), (4, .ref a4)]) dX5_tryMaster_3 (by decide) rfl ?_
  refine jx_aload 5 dX5_tryMaster_5 rfl ?_
  obtain ⟨hk1, h⟩ := h
  refine jx_geti jc_2 (j := 2) (by decide) rfl jwF_X5_104 dX5_tryMaster_7 hk1 ?_
  refine jx_istore (lv1 := [(6, .int (ji S a4 2)), (5, .int (x2 + 1)), (0, .ref a0), (1, .ref a1), (2, .int x2), (3, .int x3), (4, .ref a4)]) dX5_tryMaster_10 (by decide) rfl ?_
  refine jx_iload_n 4 dX5_tryMaster_12 rfl rfl ?_
  refine jx_iconst (v := 5) dX5_tryMaster_13 (by decide) ?_
  refine jx_callSNi (M' := mX10_within) (As := [.int x2, .int 5]) (host := "NineMasters") jo_X10_within (by decide) jwS_X10_within dX5_tryMaster_14 (jRok_m _ _ _) rfl (jle rfl) ⟨jle rfl, jle rfl⟩ (c_X10_within (Q := fun v S' => v = (jwi x2 5) ∧ S = S') ⟨rfl, rfl⟩) (fun r2 S3 hq4 => ?_)
  obtain ⟨rfl, rfl⟩ := hq4
  refine jx_if_eq (tgt := 39) dX5_tryMaster_17 (by decide) (fun c5 => ?_) (fun c5 => ?_)
  · replace h := h.1 c5
    exact jx_vret dX5_tryMaster_39 rfl (jle rfl) (jle rfl) ⟨rfl, h⟩
  replace h := h.2 c5
  refine jx_iload 1 dX5_tryMaster_20 rfl ?_
  refine jx_iconst (v := 5) dX5_tryMaster_22 (by decide) ?_
  refine jx_callSNi (M' := mX10_within) (As := [.int (x2 + 1), .int 5]) (host := "NineMasters") jo_X10_within (by decide) jwS_X10_within dX5_tryMaster_23 (jRok_m _ _ _) rfl (jle rfl) ⟨jle rfl, jle rfl⟩ (c_X10_within (Q := fun v S' => v = (jwi (x2 + 1) 5) ∧ S = S') ⟨rfl, rfl⟩) (fun r6 S7 hq8 => ?_)
  obtain ⟨rfl, rfl⟩ := hq8
  refine jx_if_eq (tgt := 39) dX5_tryMaster_26 (by decide) (fun c9 => ?_) (fun c9 => ?_)
  · replace h := h.1 c9
    exact jx_vret dX5_tryMaster_39 rfl (jle rfl) (jle rfl) ⟨rfl, h⟩
  replace h := h.2 c9
  refine jx_iload 0 dX5_tryMaster_29 rfl ?_
  refine jx_bipush (v := 10) dX5_tryMaster_31 (by decide) ?_
  refine jx_callSNi (M' := mX10_within) (As := [.int (ji S a4 2), .int 10]) (host := "NineMasters") jo_X10_within (by decide) jwS_X10_within dX5_tryMaster_33 (jRok_m _ _ _) rfl (jle rfl) ⟨jle rfl, jle rfl⟩ (c_X10_within (Q := fun v S' => v = (jwi (ji S a4 2) 10) ∧ S = S') ⟨rfl, rfl⟩) (fun r10 S11 hq12 => ?_)
  obtain ⟨rfl, rfl⟩ := hq12
  refine jx_if_ne (tgt := 40) dX5_tryMaster_36 (by decide) (fun c13 => ?_) (fun c13 => ?_)
  · replace h := h.2 c13
    refine jx_aload_n 3 dX5_tryMaster_40 rfl rfl ?_
    obtain ⟨hk14, h⟩ := h
    obtain ⟨b15, hb15, h⟩ := h
    refine jx_getr jc_3 (j := 1) (by decide) rfl jwF_X5_113 dX5_tryMaster_41 hk14 hb15 ?_
    refine jx_aload_n 2 dX5_tryMaster_44 rfl rfl ?_
    obtain ⟨hk16, h⟩ := h
    obtain ⟨b17, hb17, h⟩ := h
    refine jx_getr jc_5 (j := 0) (by decide) rfl jwF_X5_11 dX5_tryMaster_45 hk16 hb17 ?_
    refine jx_iload_n 4 dX5_tryMaster_48 rfl rfl ?_
    obtain ⟨hk18, h⟩ := h
    obtain ⟨hi19, h⟩ := h
    refine jx_iald dX5_tryMaster_49 hk18 hi19 ?_
    refine jx_aload 6 dX5_tryMaster_50 rfl ?_
    refine jx_geti jc_2 (j := 1) (by decide) rfl jwF_X5_117 dX5_tryMaster_52 hk1 ?_
    obtain ⟨hk20, h⟩ := h
    refine jx_callVi (M' := mX4_fewest) (As := [.int (ji S b17 (Int32.toNatClampNeg x2)), .int (ji S a4 1)]) jo_X4_fewest jc_4 rfl jwM_X5_119 jwN_X4_fewest jwX_X4_fewest dX5_tryMaster_55 (jRok_m _ _ _) rfl (jle rfl) ⟨jle rfl, jle rfl⟩ hk20 h (fun r22 S21 h => ?_)
    refine jx_istore (lv1 := [(7, .int r22), (6, .int (ji S a4 2)), (5, .int (x2 + 1)), (0, .ref a0), (1, .ref a1), (2, .int x2), (3, .int x3), (4, .ref a4)]) dX5_tryMaster_58 (by decide) rfl ?_
    refine jx_aload_n 3 dX5_tryMaster_60 rfl rfl ?_
    obtain ⟨hk23, h⟩ := h
    obtain ⟨b24, hb24, h⟩ := h
    refine jx_getr jc_5 (j := 2) (by decide) rfl jwF_X5_18 dX5_tryMaster_61 hk23 hb24 ?_
    refine jx_iload_n 5 dX5_tryMaster_64 rfl rfl ?_
    obtain ⟨hk25, h⟩ := h
    obtain ⟨hi26, h⟩ := h
    refine jx_iald dX5_tryMaster_65 hk25 hi26 ?_
    refine jx_iload 0 dX5_tryMaster_66 rfl ?_
    refine jx_iadd dX5_tryMaster_68 ?_
    refine jx_istore (lv1 := [(8, .int ((ji S21 b24 (Int32.toNatClampNeg x2)) + r22)), (7, .int r22), (6, .int (ji S a4 2)), (5, .int (x2 + 1)), (0, .ref a0), (1, .ref a1), (2, .int x2), (3, .int x3), (4, .ref a4)]) dX5_tryMaster_69 (by decide) rfl ?_
    refine jx_aload_n 5 dX5_tryMaster_71 rfl rfl ?_
    obtain ⟨hk27, h⟩ := h
    obtain ⟨b28, hb28, h⟩ := h
    refine jx_getr jc_3 (j := 2) (by decide) rfl jwF_X5_64 dX5_tryMaster_72 hk27 hb28 ?_
    obtain ⟨hk29, h⟩ := h
    refine jx_geti jc_1 (j := 3) (by decide) rfl jwF_X5_125 dX5_tryMaster_75 hk29 ?_
    refine jx_istore (lv1 := [(9, .int (ji S21 b28 3)), (8, .int ((ji S21 b24 (Int32.toNatClampNeg x2)) + r22)), (7, .int r22), (6, .int (ji S a4 2)), (5, .int (x2 + 1)), (0, .ref a0), (1, .ref a1), (2, .int x2), (3, .int x3), (4, .ref a4)]) dX5_tryMaster_78 (by decide) rfl ?_
    refine jx_iload 2 dX5_tryMaster_80 rfl ?_
    refine jx_if_ne (tgt := 94) dX5_tryMaster_82 (by decide) (fun c30 => ?_) (fun c30 => ?_)
    · replace h := h.2 c30
      refine jx_aload_n 5 dX5_tryMaster_94 rfl rfl ?_
      refine jx_aload_n 5 dX5_tryMaster_95 rfl rfl ?_
      obtain ⟨b31, hb31, h⟩ := h
      refine jx_getr jc_5 (j := 1) (by decide) rfl jwF_X5_15 dX5_tryMaster_96 hk23 hb31 ?_
      refine jx_iload_n 7 dX5_tryMaster_99 rfl rfl ?_
      obtain ⟨hk32, h⟩ := h
      obtain ⟨hi33, h⟩ := h
      refine jx_iald dX5_tryMaster_100 hk32 hi33 ?_
      refine jx_iload 1 dX5_tryMaster_101 rfl ?_
      refine jx_iload 0 dX5_tryMaster_103 rfl ?_
      refine jx_callVi (M' := mX5_keptOf) (As := [.int (ji S21 b31 (Int32.toNatClampNeg x2)), .int ((ji S21 b24 (Int32.toNatClampNeg x2)) + r22), .int (ji S21 b28 3)]) jo_X5_keptOf jc_5 rfl jwM_X5_128 jwN_X5_keptOf jwX_X5_keptOf dX5_tryMaster_105 (jRok_m _ _ _) rfl (jle rfl) ⟨jle rfl, jle rfl⟩ hk23 h (fun r35 S34 h => ?_)
      refine jx_istore (lv1 := [(10, .int r35), (9, .int (ji S21 b28 3)), (8, .int ((ji S21 b24 (Int32.toNatClampNeg x2)) + r22)), (7, .int r22), (6, .int (ji S a4 2)), (5, .int (x2 + 1)), (0, .ref a0), (1, .ref a1), (2, .int x2), (3, .int x3), (4, .ref a4)]) dX5_tryMaster_108 (by decide) rfl ?_
      refine jx_aload_n 6 dX5_tryMaster_110 rfl rfl ?_
      obtain ⟨hk36, h⟩ := h
      obtain ⟨b37, hb37, h⟩ := h
      refine jx_getr jc_5 (j := 3) (by decide) rfl jwF_X5_21 dX5_tryMaster_111 hk36 hb37 ?_
      refine jx_iload_n 8 dX5_tryMaster_114 rfl rfl ?_
      obtain ⟨hk38, h⟩ := h
      obtain ⟨hi39, h⟩ := h
      refine jx_iald dX5_tryMaster_115 hk38 hi39 ?_
      refine jx_aload 10 dX5_tryMaster_116 rfl ?_
      obtain ⟨hk40, h⟩ := h
      refine jx_geti jc_2 (j := 4) (by decide) rfl jwF_X5_132 dX5_tryMaster_118 hk40 ?_
      refine jx_iadd dX5_tryMaster_121 ?_
      refine jx_istore (lv1 := [(11, .int ((ji S34 b37 (Int32.toNatClampNeg x2)) + (ji S34 a4 4))), (10, .int r35), (9, .int (ji S21 b28 3)), (8, .int ((ji S21 b24 (Int32.toNatClampNeg x2)) + r22)), (7, .int r22), (6, .int (ji S a4 2)), (5, .int (x2 + 1)), (0, .ref a0), (1, .ref a1), (2, .int x2), (3, .int x3), (4, .ref a4)]) dX5_tryMaster_122 (by decide) rfl ?_
      refine jx_aload 11 dX5_tryMaster_124 rfl ?_
      refine jx_geti jc_2 (j := 6) (by decide) rfl jwF_X5_135 dX5_tryMaster_126 hk40 ?_
      refine jx_if_ne (tgt := 172) dX5_tryMaster_129 (by decide) (fun c41 => ?_) (fun c41 => ?_)
      · replace h := h.2 c41
        exact jx_vret dX5_tryMaster_172 rfl (jle rfl) (jle rfl) ⟨rfl, h⟩
      replace h := h.1 c41
      refine jx_iload 4 dX5_tryMaster_132 rfl ?_
      refine jx_sipush (v := 9999) dX5_tryMaster_134 (by decide) ?_
      refine jx_icmp_eq (tgt := 172) dX5_tryMaster_137 (by decide) (fun c42 => ?_) (fun c42 => ?_)
      · replace h := h.1 c42
        exact jx_vret dX5_tryMaster_172 rfl (jle rfl) (jle rfl) ⟨rfl, h⟩
      replace h := h.2 c42
      refine jx_iload 0 dX5_tryMaster_140 rfl ?_
      refine jx_aload_n 8 dX5_tryMaster_142 rfl rfl ?_
      obtain ⟨hk43, h⟩ := h
      obtain ⟨b44, hb44, h⟩ := h
      refine jx_getr jc_3 (j := 2) (by decide) rfl jwF_X5_64 dX5_tryMaster_143 hk43 hb44 ?_
      obtain ⟨hk45, h⟩ := h
      refine jx_geti jc_1 (j := 2) (by decide) rfl jwF_X5_139 dX5_tryMaster_146 hk45 ?_
      refine jx_icmp_gt (tgt := 172) dX5_tryMaster_149 (by decide) (fun c46 => ?_) (fun c46 => ?_)
      · replace h := h.1 c46
        exact jx_vret dX5_tryMaster_172 rfl (jle rfl) (jle rfl) ⟨rfl, h⟩
      replace h := h.2 c46
      refine jx_iload 1 dX5_tryMaster_152 rfl ?_
      refine jx_iconst (v := 1) dX5_tryMaster_154 (by decide) ?_
      refine jx_iload 5 dX5_tryMaster_155 rfl ?_
      refine jx_ishl dX5_tryMaster_157 ?_
      refine jx_iand dX5_tryMaster_158 ?_
      refine jx_if_ne (tgt := 172) dX5_tryMaster_159 (by decide) (fun c47 => ?_) (fun c47 => ?_)
      · replace h := h.2 c47
        exact jx_vret dX5_tryMaster_172 rfl (jle rfl) (jle rfl) ⟨rfl, h⟩
      replace h := h.1 c47
      refine jx_aload 11 dX5_tryMaster_162 rfl ?_
      refine jx_iload 1 dX5_tryMaster_164 rfl ?_
      refine jx_callVi (M' := mX2_teaches) (As := [.int r35]) jo_X2_teaches jc_2 rfl jwM_X5_142 jwN_X2_teaches jwX_X2_teaches dX5_tryMaster_166 (jRok_m _ _ _) rfl (jle rfl) ⟨jle rfl, jle rfl⟩ hk40 h (fun r49 S48 h => ?_)
      refine jx_if_ne (tgt := 173) dX5_tryMaster_169 (by decide) (fun c50 => ?_) (fun c50 => ?_)
      · replace h := h.2 c50
        refine jx_iload 3 dX5_tryMaster_173 rfl ?_
        refine jx_aload_n 7 dX5_tryMaster_175 rfl rfl ?_
        refine jx_aload_n 8 dX5_tryMaster_176 rfl rfl ?_
        refine jx_iload_n 10 dX5_tryMaster_177 rfl rfl ?_
        refine jx_aload 11 dX5_tryMaster_178 rfl ?_
        refine jx_iload 1 dX5_tryMaster_180 rfl ?_
        refine jx_callSi (M' := mJ6_bitCount_0f7a4) (As := [.int r35]) jo_J6_bitCount_0f7a4 jwM_X5_91 jwS_J6_bitCount_0f7a4 dX5_tryMaster_182 (jRok_m _ _ _) rfl (jle rfl) ⟨jle rfl, jle rfl⟩ (c_J6_bitCount_0f7a4 (Q := fun v S' => v = (jbc r35) ∧ S48 = S') ⟨rfl, rfl⟩) (fun r51 S52 hq53 => ?_)
        obtain ⟨rfl, rfl⟩ := hq53
        obtain ⟨hk54, h⟩ := h
        refine jx_callVi (M' := mX5_daysTaken) (As := [.ref a1, .int x3, .ref a4, .int (jbc r35)]) jo_X5_daysTaken jc_5 rfl jwM_X5_146 jwN_X5_daysTaken jwX_X5_daysTaken dX5_tryMaster_185 (jRok_m _ _ _) rfl (jle rfl) ⟨jle rfl, jle rfl⟩ hk54 h (fun r56 S55 h => ?_)
        refine jx_iadd dX5_tryMaster_188 ?_
        refine jx_istore (lv1 := [(12, .int (((ji S21 b24 (Int32.toNatClampNeg x2)) + r22) + r56)), (11, .int ((ji S34 b37 (Int32.toNatClampNeg x2)) + (ji S34 a4 4))), (10, .int r35), (9, .int (ji S21 b28 3)), (8, .int ((ji S21 b24 (Int32.toNatClampNeg x2)) + r22)), (7, .int r22), (6, .int (ji S a4 2)), (5, .int (x2 + 1)), (0, .ref a0), (1, .ref a1), (2, .int x2), (3, .int x3), (4, .ref a4)]) dX5_tryMaster_189 (by decide) rfl ?_
        refine jx_iload 0 dX5_tryMaster_191 rfl ?_
        refine jx_aload_n 8 dX5_tryMaster_193 rfl rfl ?_
        obtain ⟨hk57, h⟩ := h
        refine jx_geti jc_5 (j := 9) (by decide) rfl jwF_X5_34 dX5_tryMaster_194 hk57 ?_
        refine jx_icmp_le (tgt := 201) dX5_tryMaster_197 (by decide) (fun c58 => ?_) (fun c58 => ?_)
        · replace h := h.1 c58
          refine jx_aload_n 8 dX5_tryMaster_201 rfl rfl ?_
          obtain ⟨b59, hb59, h⟩ := h
          refine jx_getr jc_5 (j := 0) (by decide) rfl jwF_X5_11 dX5_tryMaster_202 hk57 hb59 ?_
          refine jx_iload 7 dX5_tryMaster_205 rfl ?_
          refine jx_aload 12 dX5_tryMaster_207 rfl ?_
          obtain ⟨hk60, h⟩ := h
          refine jx_geti jc_2 (j := 1) (by decide) rfl jwF_X5_117 dX5_tryMaster_209 hk60 ?_
          obtain ⟨hk61, h⟩ := h
          obtain ⟨hi62, h⟩ := h
          refine jx_iast dX5_tryMaster_212 hk61 hi62 ?_
          refine jx_aload_n 8 dX5_tryMaster_213 rfl rfl ?_
          obtain ⟨b63, hb63, h⟩ := h
          refine jx_getr jc_5 (j := 1) (by decide) rfl jwF_X5_15 dX5_tryMaster_214 hk57 hb63 ?_
          refine jx_iload 7 dX5_tryMaster_217 rfl ?_
          refine jx_aload_n 8 dX5_tryMaster_219 rfl rfl ?_
          refine jx_iload 2 dX5_tryMaster_220 rfl ?_
          refine jx_iload 0 dX5_tryMaster_222 rfl ?_
          refine jx_iload 3 dX5_tryMaster_224 rfl ?_
          refine jx_callVi (M' := mX5_keptOf) (As := [.int r35, .int (((ji S21 b24 (Int32.toNatClampNeg x2)) + r22) + r56), .int (ji S21 b28 3)]) jo_X5_keptOf jc_5 rfl jwM_X5_128 jwN_X5_keptOf jwX_X5_keptOf dX5_tryMaster_226 (jRok_m _ _ _) rfl (jle rfl) ⟨jle rfl, jle rfl⟩ hk57 h (fun r65 S64 h => ?_)
          refine jx_aload 12 dX5_tryMaster_229 rfl ?_
          obtain ⟨hk66, h⟩ := h
          refine jx_callVi (M' := mX2_unlearnt) (As := []) jo_X2_unlearnt jc_2 rfl jwM_X5_150 jwN_X2_unlearnt jwX_X2_unlearnt dX5_tryMaster_231 (jRok_m _ _ _) rfl (jle rfl) ⟨jle rfl, jle rfl⟩ hk66 h (fun r68 S67 h => ?_)
          refine jx_iconst (v := (-1)) dX5_tryMaster_234 (by decide) ?_
          refine jx_ixor dX5_tryMaster_235 ?_
          refine jx_iand dX5_tryMaster_236 ?_
          refine jx_iconst (v := 1) dX5_tryMaster_237 (by decide) ?_
          refine jx_iload 6 dX5_tryMaster_238 rfl ?_
          refine jx_ishl dX5_tryMaster_240 ?_
          refine jx_ior dX5_tryMaster_241 ?_
          obtain ⟨hk69, h⟩ := h
          obtain ⟨hi70, h⟩ := h
          refine jx_iast dX5_tryMaster_242 hk69 hi70 ?_
          refine jx_aload_n 8 dX5_tryMaster_243 rfl rfl ?_
          obtain ⟨hk71, h⟩ := h
          obtain ⟨b72, hb72, h⟩ := h
          refine jx_getr jc_5 (j := 2) (by decide) rfl jwF_X5_18 dX5_tryMaster_244 hk71 hb72 ?_
          refine jx_iload 7 dX5_tryMaster_247 rfl ?_
          refine jx_iload 0 dX5_tryMaster_249 rfl ?_
          obtain ⟨hk73, h⟩ := h
          obtain ⟨hi74, h⟩ := h
          refine jx_iast dX5_tryMaster_251 hk73 hi74 ?_
          refine jx_aload_n 8 dX5_tryMaster_252 rfl rfl ?_
          obtain ⟨b75, hb75, h⟩ := h
          refine jx_getr jc_5 (j := 3) (by decide) rfl jwF_X5_21 dX5_tryMaster_253 hk71 hb75 ?_
          refine jx_iload 7 dX5_tryMaster_256 rfl ?_
          refine jx_iload 1 dX5_tryMaster_258 rfl ?_
          obtain ⟨hk76, h⟩ := h
          obtain ⟨hi77, h⟩ := h
          refine jx_iast dX5_tryMaster_260 hk76 hi77 ?_
          refine jx_aload_n 8 dX5_tryMaster_261 rfl rfl ?_
          obtain ⟨b78, hb78, h⟩ := h
          refine jx_getr jc_5 (j := 4) (by decide) rfl jwF_X5_24 dX5_tryMaster_262 hk71 hb78 ?_
          refine jx_iload 7 dX5_tryMaster_265 rfl ?_
          refine jx_iload_n 10 dX5_tryMaster_267 rfl rfl ?_
          refine jx_if_ne (tgt := 275) dX5_tryMaster_268 (by decide) (fun c79 => ?_) (fun c79 => ?_)
          · replace h := h.2 c79
            refine jx_aload_n 8 dX5_tryMaster_275 rfl rfl ?_
            refine jx_getr jc_5 (j := 4) (by decide) rfl jwF_X5_24 dX5_tryMaster_276 hk71 hb78 ?_
            refine jx_iload_n 10 dX5_tryMaster_279 rfl rfl ?_
            obtain ⟨hk80, h⟩ := h
            obtain ⟨hi81, h⟩ := h
            refine jx_iald dX5_tryMaster_280 hk80 hi81 ?_
            obtain ⟨hi82, h⟩ := h
            refine jx_iast dX5_tryMaster_281 hk80 hi82 ?_
            refine jx_aload_n 8 dX5_tryMaster_282 rfl rfl ?_
            obtain ⟨b83, hb83, h⟩ := h
            refine jx_getr jc_5 (j := 5) (by decide) rfl jwF_X5_27 dX5_tryMaster_283 hk71 hb83 ?_
            refine jx_iload 6 dX5_tryMaster_286 rfl ?_
            obtain ⟨hk84, h⟩ := h
            obtain ⟨hi85, h⟩ := h
            refine jx_iald dX5_tryMaster_288 hk84 hi85 ?_
            refine jx_nm (fun y86 ey86 => ?_)
            replace h := h y86 ey86
            refine jx_istore (lv1 := [(13, .int y86), (12, .int (((ji S21 b24 (Int32.toNatClampNeg x2)) + r22) + r56)), (11, .int ((ji S34 b37 (Int32.toNatClampNeg x2)) + (ji S34 a4 4))), (10, .int r35), (9, .int (ji S21 b28 3)), (8, .int ((ji S21 b24 (Int32.toNatClampNeg x2)) + r22)), (7, .int r22), (6, .int (ji S a4 2)), (5, .int (x2 + 1)), (0, .ref a0), (1, .ref a1), (2, .int x2), (3, .int x3), (4, .ref a4)]) dX5_tryMaster_289 (by decide) rfl ?_
            refine jx_aload_n 9 dX5_tryMaster_291 rfl rfl ?_
            refine jx_getr jc_5 (j := 5) (by decide) rfl jwF_X5_27 dX5_tryMaster_292 hk71 hb83 ?_
            refine jx_iload 7 dX5_tryMaster_295 rfl ?_
            refine jx_iload 1 dX5_tryMaster_297 rfl ?_
            refine jx_iast dX5_tryMaster_299 hk84 hi85 ?_
            refine jx_aload_n 9 dX5_tryMaster_300 rfl rfl ?_
            refine jx_aload_n 10 dX5_tryMaster_301 rfl rfl ?_
            refine jx_iload 8 dX5_tryMaster_302 rfl ?_
            refine jx_callVv (M' := mX5_goOn) (As := [.ref a1, .int (x2 + 1)]) jo_X5_goOn jc_5 rfl jwM_X5_79 jwN_X5_goOn jwX_X5_goOn dX5_tryMaster_304 (jRok_m _ _ _) rfl (jle rfl) ⟨jle rfl, jle rfl⟩ hk71 h (fun S87 h => ?_)
            refine jx_aload_n 9 dX5_tryMaster_307 rfl rfl ?_
            obtain ⟨hk88, h⟩ := h
            obtain ⟨b89, hb89, h⟩ := h
            refine jx_getr jc_5 (j := 5) (by decide) rfl jwF_X5_27 dX5_tryMaster_308 hk88 hb89 ?_
            refine jx_iload 7 dX5_tryMaster_311 rfl ?_
            refine jx_iload 0 dX5_tryMaster_313 rfl ?_
            obtain ⟨hk90, h⟩ := h
            obtain ⟨hi91, h⟩ := h
            refine jx_iast dX5_tryMaster_315 hk90 hi91 ?_
            exact jx_vret dX5_tryMaster_316 rfl (jle rfl) (jle rfl) ⟨rfl, h⟩
          replace h := h.1 c79
          refine jx_iload_n 11 dX5_tryMaster_271 rfl rfl ?_
          refine jx_goto (tgt := 281) dX5_tryMaster_272 (by decide) ?_
          obtain ⟨hk92, h⟩ := h
          obtain ⟨hi93, h⟩ := h
          refine jx_iast dX5_tryMaster_281 hk92 hi93 ?_
          refine jx_aload_n 8 dX5_tryMaster_282 rfl rfl ?_
          obtain ⟨b94, hb94, h⟩ := h
          refine jx_getr jc_5 (j := 5) (by decide) rfl jwF_X5_27 dX5_tryMaster_283 hk71 hb94 ?_
          refine jx_iload 6 dX5_tryMaster_286 rfl ?_
          obtain ⟨hk95, h⟩ := h
          obtain ⟨hi96, h⟩ := h
          refine jx_iald dX5_tryMaster_288 hk95 hi96 ?_
          refine jx_nm (fun y97 ey97 => ?_)
          replace h := h y97 ey97
          refine jx_istore (lv1 := [(13, .int y97), (12, .int (((ji S21 b24 (Int32.toNatClampNeg x2)) + r22) + r56)), (11, .int ((ji S34 b37 (Int32.toNatClampNeg x2)) + (ji S34 a4 4))), (10, .int r35), (9, .int (ji S21 b28 3)), (8, .int ((ji S21 b24 (Int32.toNatClampNeg x2)) + r22)), (7, .int r22), (6, .int (ji S a4 2)), (5, .int (x2 + 1)), (0, .ref a0), (1, .ref a1), (2, .int x2), (3, .int x3), (4, .ref a4)]) dX5_tryMaster_289 (by decide) rfl ?_
          refine jx_aload_n 9 dX5_tryMaster_291 rfl rfl ?_
          refine jx_getr jc_5 (j := 5) (by decide) rfl jwF_X5_27 dX5_tryMaster_292 hk71 hb94 ?_
          refine jx_iload 7 dX5_tryMaster_295 rfl ?_
          refine jx_iload 1 dX5_tryMaster_297 rfl ?_
          refine jx_iast dX5_tryMaster_299 hk95 hi96 ?_
          refine jx_aload_n 9 dX5_tryMaster_300 rfl rfl ?_
          refine jx_aload_n 10 dX5_tryMaster_301 rfl rfl ?_
          refine jx_iload 8 dX5_tryMaster_302 rfl ?_
          refine jx_callVv (M' := mX5_goOn) (As := [.ref a1, .int (x2 + 1)]) jo_X5_goOn jc_5 rfl jwM_X5_79 jwN_X5_goOn jwX_X5_goOn dX5_tryMaster_304 (jRok_m _ _ _) rfl (jle rfl) ⟨jle rfl, jle rfl⟩ hk71 h (fun S98 h => ?_)
          refine jx_aload_n 9 dX5_tryMaster_307 rfl rfl ?_
          obtain ⟨hk99, h⟩ := h
          obtain ⟨b100, hb100, h⟩ := h
          refine jx_getr jc_5 (j := 5) (by decide) rfl jwF_X5_27 dX5_tryMaster_308 hk99 hb100 ?_
          refine jx_iload 7 dX5_tryMaster_311 rfl ?_
          refine jx_iload 0 dX5_tryMaster_313 rfl ?_
          obtain ⟨hk101, h⟩ := h
          obtain ⟨hi102, h⟩ := h
          refine jx_iast dX5_tryMaster_315 hk101 hi102 ?_
          exact jx_vret dX5_tryMaster_316 rfl (jle rfl) (jle rfl) ⟨rfl, h⟩
        replace h := h.2 c58
        exact jx_vret dX5_tryMaster_200 rfl (jle rfl) (jle rfl) ⟨rfl, h⟩
      replace h := h.1 c50
      exact jx_vret dX5_tryMaster_172 rfl (jle rfl) (jle rfl) ⟨rfl, h⟩
    replace h := h.1 c30
    refine jx_aload_n 5 dX5_tryMaster_85 rfl rfl ?_
    obtain ⟨b103, hb103, h⟩ := h
    refine jx_getr jc_5 (j := 1) (by decide) rfl jwF_X5_15 dX5_tryMaster_86 hk23 hb103 ?_
    refine jx_iload_n 7 dX5_tryMaster_89 rfl rfl ?_
    obtain ⟨hk104, h⟩ := h
    obtain ⟨hi105, h⟩ := h
    refine jx_iald dX5_tryMaster_90 hk104 hi105 ?_
    refine jx_goto (tgt := 108) dX5_tryMaster_91 (by decide) ?_
    refine jx_istore (lv1 := [(10, .int (ji S21 b103 (Int32.toNatClampNeg x2))), (9, .int (ji S21 b28 3)), (8, .int ((ji S21 b24 (Int32.toNatClampNeg x2)) + r22)), (7, .int r22), (6, .int (ji S a4 2)), (5, .int (x2 + 1)), (0, .ref a0), (1, .ref a1), (2, .int x2), (3, .int x3), (4, .ref a4)]) dX5_tryMaster_108 (by decide) rfl ?_
    refine jx_aload_n 6 dX5_tryMaster_110 rfl rfl ?_
    obtain ⟨b106, hb106, h⟩ := h
    refine jx_getr jc_5 (j := 3) (by decide) rfl jwF_X5_21 dX5_tryMaster_111 hk23 hb106 ?_
    refine jx_iload_n 8 dX5_tryMaster_114 rfl rfl ?_
    obtain ⟨hk107, h⟩ := h
    obtain ⟨hi108, h⟩ := h
    refine jx_iald dX5_tryMaster_115 hk107 hi108 ?_
    refine jx_aload 10 dX5_tryMaster_116 rfl ?_
    obtain ⟨hk109, h⟩ := h
    refine jx_geti jc_2 (j := 4) (by decide) rfl jwF_X5_132 dX5_tryMaster_118 hk109 ?_
    refine jx_iadd dX5_tryMaster_121 ?_
    refine jx_istore (lv1 := [(11, .int ((ji S21 b106 (Int32.toNatClampNeg x2)) + (ji S21 a4 4))), (10, .int (ji S21 b103 (Int32.toNatClampNeg x2))), (9, .int (ji S21 b28 3)), (8, .int ((ji S21 b24 (Int32.toNatClampNeg x2)) + r22)), (7, .int r22), (6, .int (ji S a4 2)), (5, .int (x2 + 1)), (0, .ref a0), (1, .ref a1), (2, .int x2), (3, .int x3), (4, .ref a4)]) dX5_tryMaster_122 (by decide) rfl ?_
    refine jx_aload 11 dX5_tryMaster_124 rfl ?_
    refine jx_geti jc_2 (j := 6) (by decide) rfl jwF_X5_135 dX5_tryMaster_126 hk109 ?_
    refine jx_if_ne (tgt := 172) dX5_tryMaster_129 (by decide) (fun c110 => ?_) (fun c110 => ?_)
    · replace h := h.2 c110
      exact jx_vret dX5_tryMaster_172 rfl (jle rfl) (jle rfl) ⟨rfl, h⟩
    replace h := h.1 c110
    refine jx_iload 4 dX5_tryMaster_132 rfl ?_
    refine jx_sipush (v := 9999) dX5_tryMaster_134 (by decide) ?_
    refine jx_icmp_eq (tgt := 172) dX5_tryMaster_137 (by decide) (fun c111 => ?_) (fun c111 => ?_)
    · replace h := h.1 c111
      exact jx_vret dX5_tryMaster_172 rfl (jle rfl) (jle rfl) ⟨rfl, h⟩
    replace h := h.2 c111
    refine jx_iload 0 dX5_tryMaster_140 rfl ?_
    refine jx_aload_n 8 dX5_tryMaster_142 rfl rfl ?_
    refine jx_getr jc_3 (j := 2) (by decide) rfl jwF_X5_64 dX5_tryMaster_143 hk27 hb28 ?_
    refine jx_geti jc_1 (j := 2) (by decide) rfl jwF_X5_139 dX5_tryMaster_146 hk29 ?_
    refine jx_icmp_gt (tgt := 172) dX5_tryMaster_149 (by decide) (fun c112 => ?_) (fun c112 => ?_)
    · replace h := h.1 c112
      exact jx_vret dX5_tryMaster_172 rfl (jle rfl) (jle rfl) ⟨rfl, h⟩
    replace h := h.2 c112
    refine jx_iload 1 dX5_tryMaster_152 rfl ?_
    refine jx_iconst (v := 1) dX5_tryMaster_154 (by decide) ?_
    refine jx_iload 5 dX5_tryMaster_155 rfl ?_
    refine jx_ishl dX5_tryMaster_157 ?_
    refine jx_iand dX5_tryMaster_158 ?_
    refine jx_if_ne (tgt := 172) dX5_tryMaster_159 (by decide) (fun c113 => ?_) (fun c113 => ?_)
    · replace h := h.2 c113
      exact jx_vret dX5_tryMaster_172 rfl (jle rfl) (jle rfl) ⟨rfl, h⟩
    replace h := h.1 c113
    refine jx_aload 11 dX5_tryMaster_162 rfl ?_
    refine jx_iload 1 dX5_tryMaster_164 rfl ?_
    refine jx_callVi (M' := mX2_teaches) (As := [.int (ji S21 b103 (Int32.toNatClampNeg x2))]) jo_X2_teaches jc_2 rfl jwM_X5_142 jwN_X2_teaches jwX_X2_teaches dX5_tryMaster_166 (jRok_m _ _ _) rfl (jle rfl) ⟨jle rfl, jle rfl⟩ hk109 h (fun r115 S114 h => ?_)
    refine jx_if_ne (tgt := 173) dX5_tryMaster_169 (by decide) (fun c116 => ?_) (fun c116 => ?_)
    · replace h := h.2 c116
      refine jx_iload 3 dX5_tryMaster_173 rfl ?_
      refine jx_aload_n 7 dX5_tryMaster_175 rfl rfl ?_
      refine jx_aload_n 8 dX5_tryMaster_176 rfl rfl ?_
      refine jx_iload_n 10 dX5_tryMaster_177 rfl rfl ?_
      refine jx_aload 11 dX5_tryMaster_178 rfl ?_
      refine jx_iload 1 dX5_tryMaster_180 rfl ?_
      refine jx_callSi (M' := mJ6_bitCount_0f7a4) (As := [.int (ji S21 b103 (Int32.toNatClampNeg x2))]) jo_J6_bitCount_0f7a4 jwM_X5_91 jwS_J6_bitCount_0f7a4 dX5_tryMaster_182 (jRok_m _ _ _) rfl (jle rfl) ⟨jle rfl, jle rfl⟩ (c_J6_bitCount_0f7a4 (Q := fun v S' => v = (jbc (ji S21 b103 (Int32.toNatClampNeg x2))) ∧ S114 = S') ⟨rfl, rfl⟩) (fun r117 S118 hq119 => ?_)
      obtain ⟨rfl, rfl⟩ := hq119
      obtain ⟨hk120, h⟩ := h
      refine jx_callVi (M' := mX5_daysTaken) (As := [.ref a1, .int x3, .ref a4, .int (jbc (ji S21 b103 (Int32.toNatClampNeg x2)))]) jo_X5_daysTaken jc_5 rfl jwM_X5_146 jwN_X5_daysTaken jwX_X5_daysTaken dX5_tryMaster_185 (jRok_m _ _ _) rfl (jle rfl) ⟨jle rfl, jle rfl⟩ hk120 h (fun r122 S121 h => ?_)
      refine jx_iadd dX5_tryMaster_188 ?_
      refine jx_istore (lv1 := [(12, .int (((ji S21 b24 (Int32.toNatClampNeg x2)) + r22) + r122)), (11, .int ((ji S21 b106 (Int32.toNatClampNeg x2)) + (ji S21 a4 4))), (10, .int (ji S21 b103 (Int32.toNatClampNeg x2))), (9, .int (ji S21 b28 3)), (8, .int ((ji S21 b24 (Int32.toNatClampNeg x2)) + r22)), (7, .int r22), (6, .int (ji S a4 2)), (5, .int (x2 + 1)), (0, .ref a0), (1, .ref a1), (2, .int x2), (3, .int x3), (4, .ref a4)]) dX5_tryMaster_189 (by decide) rfl ?_
      refine jx_iload 0 dX5_tryMaster_191 rfl ?_
      refine jx_aload_n 8 dX5_tryMaster_193 rfl rfl ?_
      obtain ⟨hk123, h⟩ := h
      refine jx_geti jc_5 (j := 9) (by decide) rfl jwF_X5_34 dX5_tryMaster_194 hk123 ?_
      refine jx_icmp_le (tgt := 201) dX5_tryMaster_197 (by decide) (fun c124 => ?_) (fun c124 => ?_)
      · replace h := h.1 c124
        refine jx_aload_n 8 dX5_tryMaster_201 rfl rfl ?_
        obtain ⟨b125, hb125, h⟩ := h
        refine jx_getr jc_5 (j := 0) (by decide) rfl jwF_X5_11 dX5_tryMaster_202 hk123 hb125 ?_
        refine jx_iload 7 dX5_tryMaster_205 rfl ?_
        refine jx_aload 12 dX5_tryMaster_207 rfl ?_
        obtain ⟨hk126, h⟩ := h
        refine jx_geti jc_2 (j := 1) (by decide) rfl jwF_X5_117 dX5_tryMaster_209 hk126 ?_
        obtain ⟨hk127, h⟩ := h
        obtain ⟨hi128, h⟩ := h
        refine jx_iast dX5_tryMaster_212 hk127 hi128 ?_
        refine jx_aload_n 8 dX5_tryMaster_213 rfl rfl ?_
        obtain ⟨b129, hb129, h⟩ := h
        refine jx_getr jc_5 (j := 1) (by decide) rfl jwF_X5_15 dX5_tryMaster_214 hk123 hb129 ?_
        refine jx_iload 7 dX5_tryMaster_217 rfl ?_
        refine jx_aload_n 8 dX5_tryMaster_219 rfl rfl ?_
        refine jx_iload 2 dX5_tryMaster_220 rfl ?_
        refine jx_iload 0 dX5_tryMaster_222 rfl ?_
        refine jx_iload 3 dX5_tryMaster_224 rfl ?_
        refine jx_callVi (M' := mX5_keptOf) (As := [.int (ji S21 b103 (Int32.toNatClampNeg x2)), .int (((ji S21 b24 (Int32.toNatClampNeg x2)) + r22) + r122), .int (ji S21 b28 3)]) jo_X5_keptOf jc_5 rfl jwM_X5_128 jwN_X5_keptOf jwX_X5_keptOf dX5_tryMaster_226 (jRok_m _ _ _) rfl (jle rfl) ⟨jle rfl, jle rfl⟩ hk123 h (fun r131 S130 h => ?_)
        refine jx_aload 12 dX5_tryMaster_229 rfl ?_
        obtain ⟨hk132, h⟩ := h
        refine jx_callVi (M' := mX2_unlearnt) (As := []) jo_X2_unlearnt jc_2 rfl jwM_X5_150 jwN_X2_unlearnt jwX_X2_unlearnt dX5_tryMaster_231 (jRok_m _ _ _) rfl (jle rfl) ⟨jle rfl, jle rfl⟩ hk132 h (fun r134 S133 h => ?_)
        refine jx_iconst (v := (-1)) dX5_tryMaster_234 (by decide) ?_
        refine jx_ixor dX5_tryMaster_235 ?_
        refine jx_iand dX5_tryMaster_236 ?_
        refine jx_iconst (v := 1) dX5_tryMaster_237 (by decide) ?_
        refine jx_iload 6 dX5_tryMaster_238 rfl ?_
        refine jx_ishl dX5_tryMaster_240 ?_
        refine jx_ior dX5_tryMaster_241 ?_
        obtain ⟨hk135, h⟩ := h
        obtain ⟨hi136, h⟩ := h
        refine jx_iast dX5_tryMaster_242 hk135 hi136 ?_
        refine jx_aload_n 8 dX5_tryMaster_243 rfl rfl ?_
        obtain ⟨hk137, h⟩ := h
        obtain ⟨b138, hb138, h⟩ := h
        refine jx_getr jc_5 (j := 2) (by decide) rfl jwF_X5_18 dX5_tryMaster_244 hk137 hb138 ?_
        refine jx_iload 7 dX5_tryMaster_247 rfl ?_
        refine jx_iload 0 dX5_tryMaster_249 rfl ?_
        obtain ⟨hk139, h⟩ := h
        obtain ⟨hi140, h⟩ := h
        refine jx_iast dX5_tryMaster_251 hk139 hi140 ?_
        refine jx_aload_n 8 dX5_tryMaster_252 rfl rfl ?_
        obtain ⟨b141, hb141, h⟩ := h
        refine jx_getr jc_5 (j := 3) (by decide) rfl jwF_X5_21 dX5_tryMaster_253 hk137 hb141 ?_
        refine jx_iload 7 dX5_tryMaster_256 rfl ?_
        refine jx_iload 1 dX5_tryMaster_258 rfl ?_
        obtain ⟨hk142, h⟩ := h
        obtain ⟨hi143, h⟩ := h
        refine jx_iast dX5_tryMaster_260 hk142 hi143 ?_
        refine jx_aload_n 8 dX5_tryMaster_261 rfl rfl ?_
        obtain ⟨b144, hb144, h⟩ := h
        refine jx_getr jc_5 (j := 4) (by decide) rfl jwF_X5_24 dX5_tryMaster_262 hk137 hb144 ?_
        refine jx_iload 7 dX5_tryMaster_265 rfl ?_
        refine jx_iload_n 10 dX5_tryMaster_267 rfl rfl ?_
        refine jx_if_ne (tgt := 275) dX5_tryMaster_268 (by decide) (fun c145 => ?_) (fun c145 => ?_)
        · replace h := h.2 c145
          refine jx_aload_n 8 dX5_tryMaster_275 rfl rfl ?_
          refine jx_getr jc_5 (j := 4) (by decide) rfl jwF_X5_24 dX5_tryMaster_276 hk137 hb144 ?_
          refine jx_iload_n 10 dX5_tryMaster_279 rfl rfl ?_
          obtain ⟨hk146, h⟩ := h
          obtain ⟨hi147, h⟩ := h
          refine jx_iald dX5_tryMaster_280 hk146 hi147 ?_
          obtain ⟨hi148, h⟩ := h
          refine jx_iast dX5_tryMaster_281 hk146 hi148 ?_
          refine jx_aload_n 8 dX5_tryMaster_282 rfl rfl ?_
          obtain ⟨b149, hb149, h⟩ := h
          refine jx_getr jc_5 (j := 5) (by decide) rfl jwF_X5_27 dX5_tryMaster_283 hk137 hb149 ?_
          refine jx_iload 6 dX5_tryMaster_286 rfl ?_
          obtain ⟨hk150, h⟩ := h
          obtain ⟨hi151, h⟩ := h
          refine jx_iald dX5_tryMaster_288 hk150 hi151 ?_
          refine jx_nm (fun y152 ey152 => ?_)
          replace h := h y152 ey152
          refine jx_istore (lv1 := [(13, .int y152), (12, .int (((ji S21 b24 (Int32.toNatClampNeg x2)) + r22) + r122)), (11, .int ((ji S21 b106 (Int32.toNatClampNeg x2)) + (ji S21 a4 4))), (10, .int (ji S21 b103 (Int32.toNatClampNeg x2))), (9, .int (ji S21 b28 3)), (8, .int ((ji S21 b24 (Int32.toNatClampNeg x2)) + r22)), (7, .int r22), (6, .int (ji S a4 2)), (5, .int (x2 + 1)), (0, .ref a0), (1, .ref a1), (2, .int x2), (3, .int x3), (4, .ref a4)]) dX5_tryMaster_289 (by decide) rfl ?_
          refine jx_aload_n 9 dX5_tryMaster_291 rfl rfl ?_
          refine jx_getr jc_5 (j := 5) (by decide) rfl jwF_X5_27 dX5_tryMaster_292 hk137 hb149 ?_
          refine jx_iload 7 dX5_tryMaster_295 rfl ?_
          refine jx_iload 1 dX5_tryMaster_297 rfl ?_
          refine jx_iast dX5_tryMaster_299 hk150 hi151 ?_
          refine jx_aload_n 9 dX5_tryMaster_300 rfl rfl ?_
          refine jx_aload_n 10 dX5_tryMaster_301 rfl rfl ?_
          refine jx_iload 8 dX5_tryMaster_302 rfl ?_
          refine jx_callVv (M' := mX5_goOn) (As := [.ref a1, .int (x2 + 1)]) jo_X5_goOn jc_5 rfl jwM_X5_79 jwN_X5_goOn jwX_X5_goOn dX5_tryMaster_304 (jRok_m _ _ _) rfl (jle rfl) ⟨jle rfl, jle rfl⟩ hk137 h (fun S153 h => ?_)
          refine jx_aload_n 9 dX5_tryMaster_307 rfl rfl ?_
          obtain ⟨hk154, h⟩ := h
          obtain ⟨b155, hb155, h⟩ := h
          refine jx_getr jc_5 (j := 5) (by decide) rfl jwF_X5_27 dX5_tryMaster_308 hk154 hb155 ?_
          refine jx_iload 7 dX5_tryMaster_311 rfl ?_
          refine jx_iload 0 dX5_tryMaster_313 rfl ?_
          obtain ⟨hk156, h⟩ := h
          obtain ⟨hi157, h⟩ := h
          refine jx_iast dX5_tryMaster_315 hk156 hi157 ?_
          exact jx_vret dX5_tryMaster_316 rfl (jle rfl) (jle rfl) ⟨rfl, h⟩
        replace h := h.1 c145
        refine jx_iload_n 11 dX5_tryMaster_271 rfl rfl ?_
        refine jx_goto (tgt := 281) dX5_tryMaster_272 (by decide) ?_
        obtain ⟨hk158, h⟩ := h
        obtain ⟨hi159, h⟩ := h
        refine jx_iast dX5_tryMaster_281 hk158 hi159 ?_
        refine jx_aload_n 8 dX5_tryMaster_282 rfl rfl ?_
        obtain ⟨b160, hb160, h⟩ := h
        refine jx_getr jc_5 (j := 5) (by decide) rfl jwF_X5_27 dX5_tryMaster_283 hk137 hb160 ?_
        refine jx_iload 6 dX5_tryMaster_286 rfl ?_
        obtain ⟨hk161, h⟩ := h
        obtain ⟨hi162, h⟩ := h
        refine jx_iald dX5_tryMaster_288 hk161 hi162 ?_
        refine jx_nm (fun y163 ey163 => ?_)
        replace h := h y163 ey163
        refine jx_istore (lv1 := [(13, .int y163), (12, .int (((ji S21 b24 (Int32.toNatClampNeg x2)) + r22) + r122)), (11, .int ((ji S21 b106 (Int32.toNatClampNeg x2)) + (ji S21 a4 4))), (10, .int (ji S21 b103 (Int32.toNatClampNeg x2))), (9, .int (ji S21 b28 3)), (8, .int ((ji S21 b24 (Int32.toNatClampNeg x2)) + r22)), (7, .int r22), (6, .int (ji S a4 2)), (5, .int (x2 + 1)), (0, .ref a0), (1, .ref a1), (2, .int x2), (3, .int x3), (4, .ref a4)]) dX5_tryMaster_289 (by decide) rfl ?_
        refine jx_aload_n 9 dX5_tryMaster_291 rfl rfl ?_
        refine jx_getr jc_5 (j := 5) (by decide) rfl jwF_X5_27 dX5_tryMaster_292 hk137 hb160 ?_
        refine jx_iload 7 dX5_tryMaster_295 rfl ?_
        refine jx_iload 1 dX5_tryMaster_297 rfl ?_
        refine jx_iast dX5_tryMaster_299 hk161 hi162 ?_
        refine jx_aload_n 9 dX5_tryMaster_300 rfl rfl ?_
        refine jx_aload_n 10 dX5_tryMaster_301 rfl rfl ?_
        refine jx_iload 8 dX5_tryMaster_302 rfl ?_
        refine jx_callVv (M' := mX5_goOn) (As := [.ref a1, .int (x2 + 1)]) jo_X5_goOn jc_5 rfl jwM_X5_79 jwN_X5_goOn jwX_X5_goOn dX5_tryMaster_304 (jRok_m _ _ _) rfl (jle rfl) ⟨jle rfl, jle rfl⟩ hk137 h (fun S164 h => ?_)
        refine jx_aload_n 9 dX5_tryMaster_307 rfl rfl ?_
        obtain ⟨hk165, h⟩ := h
        obtain ⟨b166, hb166, h⟩ := h
        refine jx_getr jc_5 (j := 5) (by decide) rfl jwF_X5_27 dX5_tryMaster_308 hk165 hb166 ?_
        refine jx_iload 7 dX5_tryMaster_311 rfl ?_
        refine jx_iload 0 dX5_tryMaster_313 rfl ?_
        obtain ⟨hk167, h⟩ := h
        obtain ⟨hi168, h⟩ := h
        refine jx_iast dX5_tryMaster_315 hk167 hi168 ?_
        exact jx_vret dX5_tryMaster_316 rfl (jle rfl) (jle rfl) ⟨rfl, h⟩
      replace h := h.2 c124
      exact jx_vret dX5_tryMaster_200 rfl (jle rfl) (jle rfl) ⟨rfl, h⟩
    replace h := h.1 c116
    exact jx_vret dX5_tryMaster_172 rfl (jle rfl) (jle rfl) ⟨rfl, h⟩
  replace h := h.1 c13
  exact jx_vret dX5_tryMaster_39 rfl (jle rfl) (jle rfl) ⟨rfl, h⟩
/-- X5_keptOf at its loop's head 12 -/
abbrev L_X5_keptOf_12 (E : jEnv) (d : Nat) (Q : Int32 → jM → Prop) (a0 : Nat) (x2 : Int32) (x3 : Int32) (x4 : Int32) (x5 : Int32) (S : jM) : Prop := jX E mX5_keptOf (jRm d 0 0) (jZm E (fun r S' => ∃ v : Int32, r = some (.int v) ∧ Q v S') 0 0) 12 [(0, .ref a0), (2, .int x2), (3, .int x3), (4, .int x4), (5, .int x5)] [] S 0 0
set_option maxRecDepth 100000 in
set_option maxHeartbeats 4000000 in
theorem T_X5_keptOf {E : jEnv} {d : Nat} {Q : Int32 → jM → Prop} {a0 : Nat} {x1 : Int32} {x2 : Int32} {x3 : Int32} {S : jM} (h : (x3 = 0 → Q x1 S) ∧ (¬ x3 = 0 → L_X5_keptOf_12 E d Q a0 x2 x3 x1 0 S)) : jFi E mX5_keptOf d 0 0 [.ref a0, .int x1, .int x2, .int x3] S Q := by
  refine jF_of (by decide) (jle rfl) ?_
  refine jx_lv (lv1 := [(0, .ref a0), (1, .int x1), (2, .int x2), (3, .int x3)]) [0, 1, 2, 3] rfl ?_
  refine jx_iload_n 3 dX5_keptOf_0 rfl rfl ?_
  refine jx_if_ne (tgt := 6) dX5_keptOf_1 (by decide) (fun c1 => ?_) (fun c1 => ?_)
  · replace h := h.2 c1
    refine jx_iload_n 1 dX5_keptOf_6 rfl rfl ?_
    refine jx_istore (lv1 := [(4, .int x1), (0, .ref a0), (1, .int x1), (2, .int x2), (3, .int x3)]) dX5_keptOf_7 (by decide) rfl ?_
    refine jx_iconst (v := 0) dX5_keptOf_9 (by decide) ?_
    refine jx_istore (lv1 := [(5, .int 0), (4, .int x1), (0, .ref a0), (1, .int x1), (2, .int x2), (3, .int x3)]) dX5_keptOf_10 (by decide) rfl ?_
    exact jx_lv [2, 4, 5, 1, 0] rfl h
  replace h := h.1 c1
  refine jx_iload_n 1 dX5_keptOf_4 rfl rfl ?_
  exact jx_iret dX5_keptOf_5 rfl rfl (jle rfl) (jle rfl) ⟨_, rfl, h⟩
set_option maxRecDepth 100000 in
set_option maxHeartbeats 4000000 in
theorem T_X5_keptOf_12 {E : jEnv} {d : Nat} {Q : Int32 → jM → Prop} {a0 : Nat} {x2 : Int32} {x3 : Int32} {x4 : Int32} {x5 : Int32} {S : jM} (h : (10 ≤ x5 → Q x4 S) ∧ (¬ 10 ≤ x5 → jk S a0 = 5 ∧ ∃ b4, jr S a0 5 = some b4 ∧ (jk S b4 = 12 ∧ vp_in x5 (jl S b4) ∧ (((x2 - (ji S b4 (Int32.toNatClampNeg x5))) ≤ x3 → L_X5_keptOf_12 E d Q a0 x2 x3 x4 (x5 + 1) S) ∧ (¬ (x2 - (ji S b4 (Int32.toNatClampNeg x5))) ≤ x3 → L_X5_keptOf_12 E d Q a0 x2 x3 (x4 &&& ((jshl 1 x5) ^^^ (-1))) (x5 + 1) S))))) : L_X5_keptOf_12 E d Q a0 x2 x3 x4 x5 S := by
  show jX E mX5_keptOf (jRm d 0 0) (jZm E (fun r S' => ∃ v : Int32, r = some (.int v) ∧ Q v S') 0 0) 12 [(0, .ref a0), (2, .int x2), (3, .int x3), (4, .int x4), (5, .int x5)] [] S 0 0
  refine jx_iload 4 dX5_keptOf_12 rfl ?_
  refine jx_bipush (v := 10) dX5_keptOf_14 (by decide) ?_
  refine jx_icmp_ge (tgt := 49) dX5_keptOf_16 (by decide) (fun c2 => ?_) (fun c2 => ?_)
  · replace h := h.1 c2
    refine jx_iload 3 dX5_keptOf_49 rfl ?_
    exact jx_iret dX5_keptOf_51 rfl rfl (jle rfl) (jle rfl) ⟨_, rfl, h⟩
  replace h := h.2 c2
  refine jx_iload_n 1 dX5_keptOf_19 rfl rfl ?_
  refine jx_aload_n 0 dX5_keptOf_20 rfl rfl ?_
  obtain ⟨hk3, h⟩ := h
  obtain ⟨b4, hb4, h⟩ := h
  refine jx_getr jc_5 (j := 5) (by decide) rfl jwF_X5_27 dX5_keptOf_21 hk3 hb4 ?_
  refine jx_iload 4 dX5_keptOf_24 rfl ?_
  obtain ⟨hk5, h⟩ := h
  obtain ⟨hi6, h⟩ := h
  refine jx_iald dX5_keptOf_26 hk5 hi6 ?_
  refine jx_isub dX5_keptOf_27 ?_
  refine jx_iload_n 2 dX5_keptOf_28 rfl rfl ?_
  refine jx_icmp_le (tgt := 43) dX5_keptOf_29 (by decide) (fun c7 => ?_) (fun c7 => ?_)
  · replace h := h.1 c7
    refine jx_iinc 4 (v := (x5 + 1)) (lv1 := [(5, .int (x5 + 1)), (0, .ref a0), (2, .int x2), (3, .int x3), (4, .int x4)]) kd27.1 rfl rfl (by decide) rfl ?_
    refine jx_goto (tgt := 12) kd27.2 (by decide) ?_
    exact jx_lv [1, 2, 3, 4, 0] rfl h
  replace h := h.2 c7
  refine jx_iload 3 dX5_keptOf_32 rfl ?_
  refine jx_iconst (v := 1) dX5_keptOf_34 (by decide) ?_
  refine jx_iload 4 dX5_keptOf_35 rfl ?_
  refine jx_ishl dX5_keptOf_37 ?_
  refine jx_iconst (v := (-1)) dX5_keptOf_38 (by decide) ?_
  refine jx_ixor dX5_keptOf_39 ?_
  refine jx_iand dX5_keptOf_40 ?_
  refine jx_istore (lv1 := [(4, .int (x4 &&& ((jshl 1 x5) ^^^ (-1)))), (0, .ref a0), (2, .int x2), (3, .int x3), (5, .int x5)]) dX5_keptOf_41 (by decide) rfl ?_
  refine jx_iinc 4 (v := (x5 + 1)) (lv1 := [(5, .int (x5 + 1)), (4, .int (x4 &&& ((jshl 1 x5) ^^^ (-1)))), (0, .ref a0), (2, .int x2), (3, .int x3)]) kd27.1 rfl rfl (by decide) rfl ?_
  refine jx_goto (tgt := 12) kd27.2 (by decide) ?_
  exact jx_lv [2, 3, 4, 1, 0] rfl h
set_option maxRecDepth 100000 in
set_option maxHeartbeats 4000000 in
theorem T_X5_daysTaken {E : jEnv} {d : Nat} {Q : Int32 → jM → Prop} {a0 : Nat} {a1 : Nat} {x2 : Int32} {a3 : Nat} {x4 : Int32} {S : jM} (h : jk S a0 = 5 ∧ ∃ b2, jr S a0 6 = some b2 ∧ (jk S b2 = 12 ∧ ((jwi ((x2 * 11) + x4) (nI (jl S b2))) = 0 → jk S a1 = 3 ∧ jFi E mX3_daysTaken d 0 0 [.ref a1, .ref a3, .int x4] S (fun r21 S20 => Q r21 S20)) ∧ (¬ (jwi ((x2 * 11) + x4) (nI (jl S b2))) = 0 → vp_in ((x2 * 11) + x4) (jl S b2) ∧ (((ji S b2 (Int32.toNatClampNeg ((x2 * 11) + x4))) = 0 → jk S a1 = 3 ∧ jFi E mX3_daysTaken d 0 0 [.ref a1, .ref a3, .int x4] S (fun r12 S11 => jk S11 b2 = 12 ∧ vp_in ((x2 * 11) + x4) (jl S11 b2) ∧ (jk S11 a0 = 5 ∧ ∃ b16, jr S11 a0 6 = some b16 ∧ (jk S11 b16 = 12 ∧ vp_in ((x2 * 11) + x4) (jl S11 b16) ∧ (Q (ji (jput S11 b2 (Int32.toNatClampNeg ((x2 * 11) + x4)) r12) b16 (Int32.toNatClampNeg ((x2 * 11) + x4))) (jput S11 b2 (Int32.toNatClampNeg ((x2 * 11) + x4)) r12)))))) ∧ (¬ (ji S b2 (Int32.toNatClampNeg ((x2 * 11) + x4))) = 0 → (Q (ji S b2 (Int32.toNatClampNeg ((x2 * 11) + x4))) S)))))) : jFi E mX5_daysTaken (d + 1) 0 0 [.ref a0, .ref a1, .int x2, .ref a3, .int x4] S Q := by
  refine jF_of (by decide) (jle rfl) ?_
  refine jx_lv (lv1 := [(0, .ref a0), (1, .ref a1), (2, .int x2), (3, .ref a3), (4, .int x4)]) [0, 1, 2, 3, 4] rfl ?_
  refine jx_iload_n 2 dX5_daysTaken_0 rfl rfl ?_
  refine jx_bipush (v := 11) dX5_daysTaken_1 (by decide) ?_
  refine jx_imul dX5_daysTaken_3 ?_
  refine jx_iload 4 dX5_daysTaken_4 rfl ?_
  refine jx_iadd dX5_daysTaken_6 ?_
  refine jx_istore (lv1 := [(5, .int ((x2 * 11) + x4)), (0, .ref a0), (1, .ref a1), (2, .int x2), (3, .ref a3), (4, .int x4)]) dX5_daysTaken_7 (by decide) rfl ?_
  refine jx_iload 0 dX5_daysTaken_9 rfl ?_
  refine jx_aload_n 1 dX5_daysTaken_11 rfl rfl ?_
  obtain ⟨hk1, h⟩ := h
  obtain ⟨b2, hb2, h⟩ := h
  refine jx_getr jc_5 (j := 6) (by decide) rfl jwF_X5_30 dX5_daysTaken_12 hk1 hb2 ?_
  obtain ⟨hk3, h⟩ := h
  refine jx_alen dX5_daysTaken_15 hk3 ?_
  refine jx_callSNi (M' := mX10_within) (As := [.int ((x2 * 11) + x4), .int (nI (jl S b2))]) (host := "NineMasters") jo_X10_within (by decide) jwS_X10_within dX5_daysTaken_16 (jRok_m _ _ _) rfl (jle rfl) ⟨jle rfl, jle rfl⟩ (c_X10_within (Q := fun v S' => v = (jwi ((x2 * 11) + x4) (nI (jl S b2))) ∧ S = S') ⟨rfl, rfl⟩) (fun r4 S5 hq6 => ?_)
  obtain ⟨rfl, rfl⟩ := hq6
  refine jx_if_ne (tgt := 30) dX5_daysTaken_19 (by decide) (fun c7 => ?_) (fun c7 => ?_)
  · replace h := h.2 c7
    refine jx_aload_n 1 dX5_daysTaken_30 rfl rfl ?_
    refine jx_getr jc_5 (j := 6) (by decide) rfl jwF_X5_30 dX5_daysTaken_31 hk1 hb2 ?_
    refine jx_iload 0 dX5_daysTaken_34 rfl ?_
    obtain ⟨hi8, h⟩ := h
    refine jx_iald dX5_daysTaken_36 hk3 hi8 ?_
    refine jx_if_ne (tgt := 54) dX5_daysTaken_37 (by decide) (fun c9 => ?_) (fun c9 => ?_)
    · replace h := h.2 c9
      refine jx_aload_n 1 dX5_daysTaken_54 rfl rfl ?_
      refine jx_getr jc_5 (j := 6) (by decide) rfl jwF_X5_30 dX5_daysTaken_55 hk1 hb2 ?_
      refine jx_iload 0 dX5_daysTaken_58 rfl ?_
      refine jx_iald dX5_daysTaken_60 hk3 hi8 ?_
      exact jx_iret dX5_daysTaken_61 rfl rfl (jle rfl) (jle rfl) ⟨_, rfl, h⟩
    replace h := h.1 c9
    refine jx_aload_n 1 dX5_daysTaken_40 rfl rfl ?_
    refine jx_getr jc_5 (j := 6) (by decide) rfl jwF_X5_30 dX5_daysTaken_41 hk1 hb2 ?_
    refine jx_iload 0 dX5_daysTaken_44 rfl ?_
    refine jx_aload_n 2 dX5_daysTaken_46 rfl rfl ?_
    refine jx_aload_n 4 dX5_daysTaken_47 rfl rfl ?_
    refine jx_iload 5 dX5_daysTaken_48 rfl ?_
    obtain ⟨hk10, h⟩ := h
    refine jx_callVi (M' := mX3_daysTaken) (As := [.ref a3, .int x4]) jo_X3_daysTaken jc_3 rfl jwM_X5_153 jwN_X3_daysTaken jwX_X3_daysTaken dX5_daysTaken_50 (jRok_m _ _ _) rfl (jle rfl) ⟨jle rfl, jle rfl⟩ hk10 h (fun r12 S11 h => ?_)
    obtain ⟨hk13, h⟩ := h
    obtain ⟨hi14, h⟩ := h
    refine jx_iast dX5_daysTaken_53 hk13 hi14 ?_
    refine jx_aload_n 1 dX5_daysTaken_54 rfl rfl ?_
    obtain ⟨hk15, h⟩ := h
    obtain ⟨b16, hb16, h⟩ := h
    refine jx_getr jc_5 (j := 6) (by decide) rfl jwF_X5_30 dX5_daysTaken_55 hk15 hb16 ?_
    refine jx_iload 0 dX5_daysTaken_58 rfl ?_
    obtain ⟨hk17, h⟩ := h
    obtain ⟨hi18, h⟩ := h
    refine jx_iald dX5_daysTaken_60 hk17 hi18 ?_
    exact jx_iret dX5_daysTaken_61 rfl rfl (jle rfl) (jle rfl) ⟨_, rfl, h⟩
  replace h := h.1 c7
  refine jx_aload_n 2 dX5_daysTaken_22 rfl rfl ?_
  refine jx_aload_n 4 dX5_daysTaken_23 rfl rfl ?_
  refine jx_iload 5 dX5_daysTaken_24 rfl ?_
  obtain ⟨hk19, h⟩ := h
  refine jx_callVi (M' := mX3_daysTaken) (As := [.ref a3, .int x4]) jo_X3_daysTaken jc_3 rfl jwM_X5_153 jwN_X3_daysTaken jwX_X3_daysTaken dX5_daysTaken_26 (jRok_m _ _ _) rfl (jle rfl) ⟨jle rfl, jle rfl⟩ hk19 h (fun r21 S20 h => ?_)
  exact jx_iret dX5_daysTaken_29 rfl rfl (jle rfl) (jle rfl) ⟨_, rfl, h⟩
set_option maxRecDepth 100000 in
set_option maxHeartbeats 4000000 in
theorem T_X5_offer {E : jEnv} {d : Nat} {Q : jM → Prop} {a0 : Nat} {x1 : Int32} {S : jM} (h : ((jwi x1 5) = 0 → Q S) ∧ (¬ (jwi x1 5) = 0 → jk S a0 = 5 ∧ ∃ b6, jr S a0 2 = some b6 ∧ (jk S b6 = 12 ∧ vp_in x1 (jl S b6) ∧ (∃ b9, jr S a0 3 = some b9 ∧ (jk S b9 = 12 ∧ vp_in x1 (jl S b9) ∧ (∃ b12, jr S a0 4 = some b12 ∧ (jk S b12 = 12 ∧ vp_in x1 (jl S b12) ∧ (jFi E mX5_isBetter d 0 0 [.ref a0, .int (ji S b6 (Int32.toNatClampNeg x1)), .int (ji S b9 (Int32.toNatClampNeg x1)), .int (ji S b12 (Int32.toNatClampNeg x1))] S (fun r16 S15 => (r16 = 0 → Q S15) ∧ (¬ r16 = 0 → jk S15 a0 = 5 ∧ ∃ b19, jr S15 a0 2 = some b19 ∧ (jk S15 b19 = 12 ∧ vp_in x1 (jl S15 b19) ∧ (∃ b22, jr S15 a0 3 = some b22 ∧ (jk S15 b22 = 12 ∧ vp_in x1 (jl S15 b22) ∧ (∃ b25, jr S15 a0 4 = some b25 ∧ (jk S15 b25 = 12 ∧ vp_in x1 (jl S15 b25) ∧ (Q (jput (jput (jput S15 a0 9 (ji S15 b19 (Int32.toNatClampNeg x1))) a0 10 (ji S15 b22 (Int32.toNatClampNeg x1))) a0 11 (ji S15 b25 (Int32.toNatClampNeg x1))))))))))))))))))) : jFv E mX5_offer (d + 1) 0 0 [.ref a0, .int x1] S Q := by
  refine jF_of (by decide) (jle rfl) ?_
  refine jx_lv (lv1 := [(0, .ref a0), (1, .int x1)]) [0, 1] rfl ?_
  refine jx_iload_n 1 dX5_offer_0 rfl rfl ?_
  refine jx_iconst (v := 5) dX5_offer_1 (by decide) ?_
  refine jx_callSNi (M' := mX10_within) (As := [.int x1, .int 5]) (host := "NineMasters") jo_X10_within (by decide) jwS_X10_within dX5_offer_2 (jRok_m _ _ _) rfl (jle rfl) ⟨jle rfl, jle rfl⟩ (c_X10_within (Q := fun v S' => v = (jwi x1 5) ∧ S = S') ⟨rfl, rfl⟩) (fun r1 S2 hq3 => ?_)
  obtain ⟨rfl, rfl⟩ := hq3
  refine jx_if_eq (tgt := 63) dX5_offer_5 (by decide) (fun c4 => ?_) (fun c4 => ?_)
  · replace h := h.1 c4
    exact jx_vret dX5_offer_63 rfl (jle rfl) (jle rfl) ⟨rfl, h⟩
  replace h := h.2 c4
  refine jx_aload_n 0 dX5_offer_8 rfl rfl ?_
  refine jx_aload_n 0 dX5_offer_9 rfl rfl ?_
  obtain ⟨hk5, h⟩ := h
  obtain ⟨b6, hb6, h⟩ := h
  refine jx_getr jc_5 (j := 2) (by decide) rfl jwF_X5_18 dX5_offer_10 hk5 hb6 ?_
  refine jx_iload_n 1 dX5_offer_13 rfl rfl ?_
  obtain ⟨hk7, h⟩ := h
  obtain ⟨hi8, h⟩ := h
  refine jx_iald dX5_offer_14 hk7 hi8 ?_
  refine jx_aload_n 0 dX5_offer_15 rfl rfl ?_
  obtain ⟨b9, hb9, h⟩ := h
  refine jx_getr jc_5 (j := 3) (by decide) rfl jwF_X5_21 dX5_offer_16 hk5 hb9 ?_
  refine jx_iload_n 1 dX5_offer_19 rfl rfl ?_
  obtain ⟨hk10, h⟩ := h
  obtain ⟨hi11, h⟩ := h
  refine jx_iald dX5_offer_20 hk10 hi11 ?_
  refine jx_aload_n 0 dX5_offer_21 rfl rfl ?_
  obtain ⟨b12, hb12, h⟩ := h
  refine jx_getr jc_5 (j := 4) (by decide) rfl jwF_X5_24 dX5_offer_22 hk5 hb12 ?_
  refine jx_iload_n 1 dX5_offer_25 rfl rfl ?_
  obtain ⟨hk13, h⟩ := h
  obtain ⟨hi14, h⟩ := h
  refine jx_iald dX5_offer_26 hk13 hi14 ?_
  refine jx_callVi (M' := mX5_isBetter) (As := [.int (ji S b6 (Int32.toNatClampNeg x1)), .int (ji S b9 (Int32.toNatClampNeg x1)), .int (ji S b12 (Int32.toNatClampNeg x1))]) jo_X5_isBetter jc_5 rfl jwM_X5_156 jwN_X5_isBetter jwX_X5_isBetter dX5_offer_27 (jRok_m _ _ _) rfl (jle rfl) ⟨jle rfl, jle rfl⟩ hk5 h (fun r16 S15 h => ?_)
  refine jx_if_eq (tgt := 63) dX5_offer_30 (by decide) (fun c17 => ?_) (fun c17 => ?_)
  · replace h := h.1 c17
    exact jx_vret dX5_offer_63 rfl (jle rfl) (jle rfl) ⟨rfl, h⟩
  replace h := h.2 c17
  refine jx_aload_n 0 dX5_offer_33 rfl rfl ?_
  refine jx_aload_n 0 dX5_offer_34 rfl rfl ?_
  obtain ⟨hk18, h⟩ := h
  obtain ⟨b19, hb19, h⟩ := h
  refine jx_getr jc_5 (j := 2) (by decide) rfl jwF_X5_18 dX5_offer_35 hk18 hb19 ?_
  refine jx_iload_n 1 dX5_offer_38 rfl rfl ?_
  obtain ⟨hk20, h⟩ := h
  obtain ⟨hi21, h⟩ := h
  refine jx_iald dX5_offer_39 hk20 hi21 ?_
  refine jx_puti jc_5 (j := 9) (by decide) rfl jwF_X5_34 rfl rfl rfl dX5_offer_40 hk18 ?_
  refine jx_aload_n 0 dX5_offer_43 rfl rfl ?_
  refine jx_aload_n 0 dX5_offer_44 rfl rfl ?_
  obtain ⟨b22, hb22, h⟩ := h
  refine jx_getr jc_5 (j := 3) (by decide) rfl jwF_X5_21 dX5_offer_45 hk18 hb22 ?_
  refine jx_iload_n 1 dX5_offer_48 rfl rfl ?_
  obtain ⟨hk23, h⟩ := h
  obtain ⟨hi24, h⟩ := h
  refine jx_iald dX5_offer_49 hk23 hi24 ?_
  refine jx_topi (y := (ji S15 b22 (Int32.toNatClampNeg x1))) (by simp [ji_put, ji_row, ji_putr, jne hk23 hk18 (by decide)]) ?_
  refine jx_puti jc_5 (j := 10) (by decide) rfl jwF_X5_38 rfl rfl rfl dX5_offer_50 hk18 ?_
  refine jx_aload_n 0 dX5_offer_53 rfl rfl ?_
  refine jx_aload_n 0 dX5_offer_54 rfl rfl ?_
  obtain ⟨b25, hb25, h⟩ := h
  refine jx_getr jc_5 (j := 4) (by decide) rfl jwF_X5_24 dX5_offer_55 hk18 hb25 ?_
  refine jx_iload_n 1 dX5_offer_58 rfl rfl ?_
  obtain ⟨hk26, h⟩ := h
  obtain ⟨hi27, h⟩ := h
  refine jx_iald dX5_offer_59 hk26 hi27 ?_
  refine jx_topi (y := (ji S15 b25 (Int32.toNatClampNeg x1))) (by simp [ji_put, ji_row, ji_putr, jne hk26 hk18 (by decide), jne hk26 hk18 (by decide)]) ?_
  refine jx_puti jc_5 (j := 11) (by decide) rfl jwF_X5_41 rfl rfl rfl dX5_offer_60 hk18 ?_
  exact jx_vret dX5_offer_63 rfl (jle rfl) (jle rfl) ⟨rfl, h⟩
set_option maxRecDepth 100000 in
set_option maxHeartbeats 4000000 in
theorem T_X5_isBetter {E : jEnv} {d : Nat} {Q : Int32 → jM → Prop} {a0 : Nat} {x1 : Int32} {x2 : Int32} {x3 : Int32} {S : jM} (h : jk S a0 = 5 ∧ (x1 = (ji S a0 9) → (x2 = (ji S a0 10) → ((ji S a0 11) ≤ x3 → Q 0 S) ∧ (¬ (ji S a0 11) ≤ x3 → Q 1 S)) ∧ (¬ x2 = (ji S a0 10) → ((ji S a0 10) ≤ x2 → Q 0 S) ∧ (¬ (ji S a0 10) ≤ x2 → Q 1 S))) ∧ (¬ x1 = (ji S a0 9) → ((ji S a0 9) ≤ x1 → Q 0 S) ∧ (¬ (ji S a0 9) ≤ x1 → Q 1 S))) : jFi E mX5_isBetter d 0 0 [.ref a0, .int x1, .int x2, .int x3] S Q := by
  refine jF_of (by decide) (jle rfl) ?_
  refine jx_lv (lv1 := [(0, .ref a0), (1, .int x1), (2, .int x2), (3, .int x3)]) [0, 1, 2, 3] rfl ?_
  refine jx_iload_n 1 dX5_isBetter_0 rfl rfl ?_
  refine jx_aload_n 0 dX5_isBetter_1 rfl rfl ?_
  obtain ⟨hk1, h⟩ := h
  refine jx_geti jc_5 (j := 9) (by decide) rfl jwF_X5_34 dX5_isBetter_2 hk1 ?_
  refine jx_icmp_eq (tgt := 22) dX5_isBetter_5 (by decide) (fun c2 => ?_) (fun c2 => ?_)
  · replace h := h.1 c2
    refine jx_iload_n 2 dX5_isBetter_22 rfl rfl ?_
    refine jx_aload_n 0 dX5_isBetter_23 rfl rfl ?_
    refine jx_geti jc_5 (j := 10) (by decide) rfl jwF_X5_38 dX5_isBetter_24 hk1 ?_
    refine jx_icmp_eq (tgt := 46) dX5_isBetter_27 (by decide) (fun c3 => ?_) (fun c3 => ?_)
    · replace h := h.1 c3
      refine jx_iload_n 3 dX5_isBetter_46 rfl rfl ?_
      refine jx_aload_n 0 dX5_isBetter_47 rfl rfl ?_
      refine jx_geti jc_5 (j := 11) (by decide) rfl jwF_X5_41 dX5_isBetter_48 hk1 ?_
      refine jx_icmp_ge (tgt := 58) dX5_isBetter_51 (by decide) (fun c4 => ?_) (fun c4 => ?_)
      · replace h := h.1 c4
        refine jx_iconst (v := 0) dX5_isBetter_58 (by decide) ?_
        exact jx_iret dX5_isBetter_59 rfl (by decide) (jle rfl) (jle rfl) ⟨_, rfl, h⟩
      replace h := h.2 c4
      refine jx_iconst (v := 1) dX5_isBetter_54 (by decide) ?_
      refine jx_goto (tgt := 59) dX5_isBetter_55 (by decide) ?_
      exact jx_iret dX5_isBetter_59 rfl (by decide) (jle rfl) (jle rfl) ⟨_, rfl, h⟩
    replace h := h.2 c3
    refine jx_iload_n 2 dX5_isBetter_30 rfl rfl ?_
    refine jx_aload_n 0 dX5_isBetter_31 rfl rfl ?_
    refine jx_geti jc_5 (j := 10) (by decide) rfl jwF_X5_38 dX5_isBetter_32 hk1 ?_
    refine jx_icmp_ge (tgt := 42) dX5_isBetter_35 (by decide) (fun c5 => ?_) (fun c5 => ?_)
    · replace h := h.1 c5
      refine jx_iconst (v := 0) dX5_isBetter_42 (by decide) ?_
      refine jx_goto (tgt := 59) dX5_isBetter_43 (by decide) ?_
      exact jx_iret dX5_isBetter_59 rfl (by decide) (jle rfl) (jle rfl) ⟨_, rfl, h⟩
    replace h := h.2 c5
    refine jx_iconst (v := 1) dX5_isBetter_38 (by decide) ?_
    refine jx_goto (tgt := 59) dX5_isBetter_39 (by decide) ?_
    exact jx_iret dX5_isBetter_59 rfl (by decide) (jle rfl) (jle rfl) ⟨_, rfl, h⟩
  replace h := h.2 c2
  refine jx_iload_n 1 dX5_isBetter_8 rfl rfl ?_
  refine jx_aload_n 0 dX5_isBetter_9 rfl rfl ?_
  refine jx_geti jc_5 (j := 9) (by decide) rfl jwF_X5_34 dX5_isBetter_10 hk1 ?_
  refine jx_icmp_ge (tgt := 20) dX5_isBetter_13 (by decide) (fun c6 => ?_) (fun c6 => ?_)
  · replace h := h.1 c6
    refine jx_iconst (v := 0) dX5_isBetter_20 (by decide) ?_
    exact jx_iret dX5_isBetter_21 rfl (by decide) (jle rfl) (jle rfl) ⟨_, rfl, h⟩
  replace h := h.2 c6
  refine jx_iconst (v := 1) dX5_isBetter_16 (by decide) ?_
  refine jx_goto (tgt := 21) dX5_isBetter_17 (by decide) ?_
  exact jx_iret dX5_isBetter_21 rfl (by decide) (jle rfl) (jle rfl) ⟨_, rfl, h⟩
end
section
/-- X10_init at its loop's head 85 -/
abbrev L_X10_init_85 (E : jEnv) (d : Nat) (Q : jM → Prop) (a0 : Nat) (x1 : Int32) (S : jM) (c9 k9 : Nat) : Prop := jX E mX10_init (jRm (d + 1) 93 1196) (jZm E (fun r S' => r = none ∧ Q S') 93 1196) 85 [(0, .ref a0), (1, .int x1)] [] S c9 k9
/-- X10_init at its loop's head 111 -/
abbrev L_X10_init_111 (E : jEnv) (d : Nat) (Q : jM → Prop) (a0 : Nat) (x1 : Int32) (S : jM) (c9 k9 : Nat) : Prop := jX E mX10_init (jRm (d + 1) 93 1196) (jZm E (fun r S' => r = none ∧ Q S') 93 1196) 111 [(0, .ref a0), (1, .int x1)] [] S c9 k9
set_option maxRecDepth 100000 in
set_option maxHeartbeats 4000000 in
theorem T_X10_init {E : jEnv} {d : Nat} {Q : jM → Prop} {a0 : Nat} {S : jM} (h : ∀ q1, q1 = jn S → jFv E mX3_init d 19 196 [.ref q1] (jnew S 3 0) (fun S2 => jk S2 a0 = 10 ∧ ∀ q5, q5 = jn (jputr S2 a0 0 (some q1)) → jFv E mX3_init d 19 196 [.ref q5] (jnew (jputr S2 a0 0 (some q1)) 3 0) (fun S6 => jk S6 a0 = 10 ∧ ∀ q9, q9 = jn (jputr S6 a0 1 (some q5)) → jFv E mX0_init d 10 72 [.ref q9] (jnew (jputr S6 a0 1 (some q5)) 0 0) (fun S10 => jk S10 a0 = 10 ∧ ∀ q13, q13 = jn (jputr S10 a0 3 (some q9)) → jFv E mX5_init d 7 134 [.ref q13] (jnew (jputr S10 a0 3 (some q9)) 5 0) (fun S14 => jk S14 a0 = 10 ∧ ∀ q17, q17 = jn (jputr S14 a0 4 (some q13)) → jFv E mX8_init d 2 192 [.ref q17] (jnew (jputr S14 a0 4 (some q13)) 8 0) (fun S18 => jk S18 a0 = 10 ∧ ∀ q21, q21 = jn (jputr S18 a0 5 (some q17)) → jk (jnew (jputr S18 a0 5 (some q17)) 14 4) a0 = 10 ∧ ∀ q24, q24 = jn (jputr (jnew (jputr S18 a0 5 (some q17)) 14 4) a0 6 (some q21)) → jk (jnew (jputr (jnew (jputr S18 a0 5 (some q17)) 14 4) a0 6 (some q21)) 15 5) a0 = 10 ∧ ∀ q27, q27 = jn (jputr (jnew (jputr (jnew (jputr S18 a0 5 (some q17)) 14 4) a0 6 (some q21)) 15 5) a0 7 (some q24)) → jk (jnew (jputr (jnew (jputr (jnew (jputr S18 a0 5 (some q17)) 14 4) a0 6 (some q21)) 15 5) a0 7 (some q24)) 12 60) a0 = 10 ∧ L_X10_init_85 E d Q a0 0 (jputr (jnew (jputr (jnew (jputr (jnew (jputr S18 a0 5 (some q17)) 14 4) a0 6 (some q21)) 15 5) a0 7 (some q24)) 12 60) a0 8 (some q27)) 65 898)))))) : jFv E mX10_init (d + 1) 93 1196 [.ref a0] S Q := by
  refine jF_of (by decide) (jle rfl) ?_
  refine jx_lv (lv1 := [(0, .ref a0)]) [0] rfl ?_
  refine jx_aload_n 0 dX10_init_0 rfl rfl ?_
  refine jx_objInit jwM_X10_3 jwN_obj jwO_obj dX10_init_1 (jRok_m _ _ _) (jle rfl) ?_
  refine jx_aload_n 0 dX10_init_4 rfl rfl ?_
  refine jx_new jc_3 jwK_X10_9 jwI_X3 jwZ_X3 jdv_3 dX10_init_5 ⟨jle rfl, jle rfl⟩ ?_
  obtain ⟨q1, hq1⟩ : ∃ q, q = jn S := ⟨_, rfl⟩
  rw [← hq1]
  replace h := h q1 hq1
  refine jx_dup dX10_init_8 rfl ?_
  refine jx_callINv (M' := mX3_init) (As := []) (b := q1) (host := "NineMasters") jo_X3_init rfl (by decide) jwN_X3_init rfl dX10_init_9 (jRok_m _ _ _) rfl (jle rfl) ⟨jle rfl, jle rfl⟩ h (fun S2 h => ?_)
  obtain ⟨hk3, h⟩ := h
  refine jx_putrF jc_10 (j := 0) (by decide) rfl jwF_X10_12 rfl rfl rfl rfl rfl dX10_init_12 hk3 ?_
  refine jx_aload_n 0 dX10_init_15 rfl rfl ?_
  refine jx_new jc_3 jwK_X10_9 jwI_X3 jwZ_X3 jdv_3 dX10_init_16 ⟨jle rfl, jle rfl⟩ ?_
  obtain ⟨q5, hq5⟩ : ∃ q, q = jn (jputr S2 a0 0 (some q1)) := ⟨_, rfl⟩
  rw [← hq5]
  replace h := h q5 hq5
  refine jx_dup dX10_init_19 rfl ?_
  refine jx_callINv (M' := mX3_init) (As := []) (b := q5) (host := "NineMasters") jo_X3_init rfl (by decide) jwN_X3_init rfl dX10_init_20 (jRok_m _ _ _) rfl (jle rfl) ⟨jle rfl, jle rfl⟩ h (fun S6 h => ?_)
  obtain ⟨hk7, h⟩ := h
  refine jx_putrF jc_10 (j := 1) (by decide) rfl jwF_X10_16 rfl rfl rfl rfl rfl dX10_init_23 hk7 ?_
  refine jx_aload_n 0 dX10_init_26 rfl rfl ?_
  refine jx_new jc_0 jwK_X10_19 jwI_X0 jwZ_X0 jdv_0 dX10_init_27 ⟨jle rfl, jle rfl⟩ ?_
  obtain ⟨q9, hq9⟩ : ∃ q, q = jn (jputr S6 a0 1 (some q5)) := ⟨_, rfl⟩
  rw [← hq9]
  replace h := h q9 hq9
  refine jx_dup dX10_init_30 rfl ?_
  refine jx_callIv (M' := mX0_init) (As := []) (b := q9) jo_X0_init rfl jwM_X10_21 jwN_X0_init rfl dX10_init_31 (jRok_m _ _ _) rfl (jle rfl) ⟨jle rfl, jle rfl⟩ h (fun S10 h => ?_)
  obtain ⟨hk11, h⟩ := h
  refine jx_putrF jc_10 (j := 3) (by decide) rfl jwF_X10_22 rfl rfl rfl rfl rfl dX10_init_34 hk11 ?_
  refine jx_aload_n 0 dX10_init_37 rfl rfl ?_
  refine jx_new jc_5 jwK_X10_26 jwI_X5 jwZ_X5 jdv_5 dX10_init_38 ⟨jle rfl, jle rfl⟩ ?_
  obtain ⟨q13, hq13⟩ : ∃ q, q = jn (jputr S10 a0 3 (some q9)) := ⟨_, rfl⟩
  rw [← hq13]
  replace h := h q13 hq13
  refine jx_dup dX10_init_41 rfl ?_
  refine jx_callINv (M' := mX5_init) (As := []) (b := q13) (host := "NineMasters") jo_X5_init rfl (by decide) jwN_X5_init rfl dX10_init_42 (jRok_m _ _ _) rfl (jle rfl) ⟨jle rfl, jle rfl⟩ h (fun S14 h => ?_)
  obtain ⟨hk15, h⟩ := h
  refine jx_putrF jc_10 (j := 4) (by decide) rfl jwF_X10_29 rfl rfl rfl rfl rfl dX10_init_45 hk15 ?_
  refine jx_aload_n 0 dX10_init_48 rfl rfl ?_
  refine jx_new jc_8 jwK_X10_33 jwI_X8 jwZ_X8 jdv_8 dX10_init_49 ⟨jle rfl, jle rfl⟩ ?_
  obtain ⟨q17, hq17⟩ : ∃ q, q = jn (jputr S14 a0 4 (some q13)) := ⟨_, rfl⟩
  rw [← hq17]
  replace h := h q17 hq17
  refine jx_dup dX10_init_52 rfl ?_
  refine jx_callINv (M' := mX8_init) (As := []) (b := q17) (host := "NineMasters") jo_X8_init rfl (by decide) jwN_X8_init rfl dX10_init_53 (jRok_m _ _ _) rfl (jle rfl) ⟨jle rfl, jle rfl⟩ h (fun S18 h => ?_)
  obtain ⟨hk19, h⟩ := h
  refine jx_putrF jc_10 (j := 5) (by decide) rfl jwF_X10_36 rfl rfl rfl rfl rfl dX10_init_56 hk19 ?_
  refine jx_aload_n 0 dX10_init_59 rfl rfl ?_
  refine jx_iconst (v := 4) dX10_init_60 (by decide) ?_
  refine jx_anew (kk := 14) (N := 4) jc_6 (by decide) (by decide) rfl jwK_X10_40 dX10_init_61 (by decide) (by decide) (by decide) ⟨jle rfl, jle rfl⟩ ?_
  obtain ⟨q21, hq21⟩ : ∃ q, q = jn (jputr S18 a0 5 (some q17)) := ⟨_, rfl⟩
  rw [← hq21]
  replace h := h q21 hq21
  obtain ⟨hk22, h⟩ := h
  refine jx_putrF jc_10 (j := 6) (by decide) rfl jwF_X10_42 rfl rfl rfl rfl rfl dX10_init_64 hk22 ?_
  refine jx_aload_n 0 dX10_init_67 rfl rfl ?_
  refine jx_iconst (v := 5) dX10_init_68 (by decide) ?_
  refine jx_anew (kk := 15) (N := 5) jc_7 (by decide) (by decide) rfl jwK_X10_46 dX10_init_69 (by decide) (by decide) (by decide) ⟨jle rfl, jle rfl⟩ ?_
  obtain ⟨q24, hq24⟩ : ∃ q, q = jn (jputr (jnew (jputr S18 a0 5 (some q17)) 14 4) a0 6 (some q21)) := ⟨_, rfl⟩
  rw [← hq24]
  replace h := h q24 hq24
  obtain ⟨hk25, h⟩ := h
  refine jx_putrF jc_10 (j := 7) (by decide) rfl jwF_X10_48 rfl rfl rfl rfl rfl dX10_init_72 hk25 ?_
  refine jx_aload_n 0 dX10_init_75 rfl rfl ?_
  refine jx_bipush (v := 60) dX10_init_76 (by decide) ?_
  refine jx_newa (N := 60) jwA kd45.1 (by decide) (by decide) (by decide) ⟨jle rfl, jle rfl⟩ ?_
  obtain ⟨q27, hq27⟩ : ∃ q, q = jn (jputr (jnew (jputr (jnew (jputr S18 a0 5 (some q17)) 14 4) a0 6 (some q21)) 15 5) a0 7 (some q24)) := ⟨_, rfl⟩
  rw [← hq27]
  replace h := h q27 hq27
  obtain ⟨hk28, h⟩ := h
  refine jx_putrF jc_10 (j := 8) (by decide) rfl jwF_X10_52 rfl rfl rfl rfl rfl dX10_init_80 hk28 ?_
  refine jx_iconst (v := 0) dX10_init_83 (by decide) ?_
  refine jx_istore_n (lv1 := [(1, .int 0), (0, .ref a0)]) dX10_init_84 rfl (by decide) rfl ?_
  exact jx_lv [1, 0] rfl h
set_option maxRecDepth 100000 in
set_option maxHeartbeats 4000000 in
theorem T_X10_init_85 {E : jEnv} {d : Nat} {Q : jM → Prop} {a0 : Nat} {x1 : Int32} {S : jM} {c9 k9 : Nat} (h : (4 ≤ x1 → L_X10_init_111 E d Q a0 0 S c9 k9) ∧ (¬ 4 ≤ x1 → jk S a0 = 10 ∧ ∃ b32, jr S a0 6 = some b32 ∧ ((c9 + 1 ≤ 93 ∧ k9 + 3 ≤ 1196) ∧ ∀ q34, q34 = jn S → ((c9 + 1) + 1 ≤ 93 ∧ (k9 + 3) + 24 ≤ 1196) ∧ jFv E mX6_init d 1 24 [.ref q34] (jnew S 6 0) (fun S36 => jk S36 b32 = 14 ∧ jk S36 q34 = 6 ∧ vp_in x1 (jl S36 b32) ∧ (L_X10_init_85 E d Q a0 (x1 + 1) (jputr S36 b32 (Int32.toNatClampNeg x1) (some q34)) ((c9 + 1) + 1) ((k9 + 3) + 24)))))) : L_X10_init_85 E d Q a0 x1 S c9 k9 := by
  show jX E mX10_init (jRm (d + 1) 93 1196) (jZm E (fun r S' => r = none ∧ Q S') 93 1196) 85 [(0, .ref a0), (1, .int x1)] [] S c9 k9
  refine jx_iload_n 1 dX10_init_85 rfl rfl ?_
  refine jx_iconst (v := 4) dX10_init_86 (by decide) ?_
  refine jx_icmp_ge (tgt := 109) dX10_init_87 (by decide) (fun c30 => ?_) (fun c30 => ?_)
  · replace h := h.1 c30
    refine jx_iconst (v := 0) dX10_init_109 (by decide) ?_
    refine jx_istore_n (lv1 := [(1, .int 0), (0, .ref a0)]) dX10_init_110 rfl (by decide) rfl ?_
    exact jx_lv [1, 0] rfl h
  replace h := h.2 c30
  refine jx_aload_n 0 dX10_init_90 rfl rfl ?_
  obtain ⟨hk31, h⟩ := h
  obtain ⟨b32, hb32, h⟩ := h
  refine jx_getr jc_10 (j := 6) (by decide) rfl jwF_X10_42 dX10_init_91 hk31 hb32 ?_
  refine jx_iload_n 1 dX10_init_94 rfl rfl ?_
  obtain ⟨hm33, h⟩ := h
  refine jx_new jc_6 jwK_X10_40 jwI_X6 jwZ_X6 jdv_6 dX10_init_95 hm33 ?_
  obtain ⟨q34, hq34⟩ : ∃ q, q = jn S := ⟨_, rfl⟩
  rw [← hq34]
  replace h := h q34 hq34
  refine jx_dup dX10_init_98 rfl ?_
  obtain ⟨hm35, h⟩ := h
  refine jx_callINv (M' := mX6_init) (As := []) (b := q34) (host := "NineMasters") jo_X6_init rfl (by decide) jwN_X6_init rfl dX10_init_99 (jRok_m _ _ _) rfl (jle rfl) hm35 h (fun S36 h => ?_)
  obtain ⟨hk37, h⟩ := h
  obtain ⟨hk39, h⟩ := h
  obtain ⟨hi38, h⟩ := h
  refine jx_aast dX10_init_102 hk37 (by decide) (by decide) jc_6 rfl hk39 hi38 ?_
  refine jx_iinc 1 (v := (x1 + 1)) (lv1 := [(1, .int (x1 + 1)), (0, .ref a0)]) kd45.2.1 rfl rfl (by decide) rfl ?_
  refine jx_goto (tgt := 85) kd45.2.2.1 (by decide) ?_
  exact jx_lv [1, 0] rfl h
set_option maxRecDepth 100000 in
set_option maxHeartbeats 4000000 in
theorem T_X10_init_111 {E : jEnv} {d : Nat} {Q : jM → Prop} {a0 : Nat} {x1 : Int32} {S : jM} {c9 k9 : Nat} (h : (5 ≤ x1 → (c9 ≤ 93 ∧ k9 ≤ 1196) ∧ Q S) ∧ (¬ 5 ≤ x1 → jk S a0 = 10 ∧ ∃ b43, jr S a0 7 = some b43 ∧ ((c9 + 1 ≤ 93 ∧ k9 + 4 ≤ 1196) ∧ ∀ q45, q45 = jn S → ((c9 + 1) + 3 ≤ 93 ∧ (k9 + 4) + 34 ≤ 1196) ∧ jFv E mX7_init d 3 34 [.ref q45] (jnew S 7 0) (fun S47 => jk S47 b43 = 15 ∧ jk S47 q45 = 7 ∧ vp_in x1 (jl S47 b43) ∧ (L_X10_init_111 E d Q a0 (x1 + 1) (jputr S47 b43 (Int32.toNatClampNeg x1) (some q45)) ((c9 + 1) + 3) ((k9 + 4) + 34)))))) : L_X10_init_111 E d Q a0 x1 S c9 k9 := by
  show jX E mX10_init (jRm (d + 1) 93 1196) (jZm E (fun r S' => r = none ∧ Q S') 93 1196) 111 [(0, .ref a0), (1, .int x1)] [] S c9 k9
  refine jx_iload_n 1 dX10_init_111 rfl rfl ?_
  refine jx_iconst (v := 5) dX10_init_112 (by decide) ?_
  refine jx_icmp_ge (tgt := 135) dX10_init_113 (by decide) (fun c40 => ?_) (fun c40 => ?_)
  · replace h := h.1 c40
    obtain ⟨hm41, h⟩ := h
    exact jx_vret dX10_init_135 rfl hm41.1 hm41.2 ⟨rfl, h⟩
  replace h := h.2 c40
  refine jx_aload_n 0 dX10_init_116 rfl rfl ?_
  obtain ⟨hk42, h⟩ := h
  obtain ⟨b43, hb43, h⟩ := h
  refine jx_getr jc_10 (j := 7) (by decide) rfl jwF_X10_48 dX10_init_117 hk42 hb43 ?_
  refine jx_iload_n 1 dX10_init_120 rfl rfl ?_
  obtain ⟨hm44, h⟩ := h
  refine jx_new jc_7 jwK_X10_46 jwI_X7 jwZ_X7 jdv_7 dX10_init_121 hm44 ?_
  obtain ⟨q45, hq45⟩ : ∃ q, q = jn S := ⟨_, rfl⟩
  rw [← hq45]
  replace h := h q45 hq45
  refine jx_dup dX10_init_124 rfl ?_
  obtain ⟨hm46, h⟩ := h
  refine jx_callINv (M' := mX7_init) (As := []) (b := q45) (host := "NineMasters") jo_X7_init rfl (by decide) jwN_X7_init rfl dX10_init_125 (jRok_m _ _ _) rfl (jle rfl) hm46 h (fun S47 h => ?_)
  obtain ⟨hk48, h⟩ := h
  obtain ⟨hk50, h⟩ := h
  obtain ⟨hi49, h⟩ := h
  refine jx_aast dX10_init_128 hk48 (by decide) (by decide) jc_7 rfl hk50 hi49 ?_
  refine jx_iinc 1 (v := (x1 + 1)) (lv1 := [(1, .int (x1 + 1)), (0, .ref a0)]) kd45.2.2.2.1 rfl rfl (by decide) rfl ?_
  refine jx_goto (tgt := 111) kd45.2.2.2.2 (by decide) ?_
  exact jx_lv [1, 0] rfl h
set_option maxRecDepth 100000 in
set_option maxHeartbeats 4000000 in
theorem T_X10_master {E : jEnv} {d : Nat} {Q : Int32 → jM → Prop} {a0 : Nat} {x1 : Int32} {x2 : Int32} {x3 : Int32} {x4 : Int32} {S : jM} (h : ((jwi x1 6) = 0 → Q (-1000000001) S) ∧ (¬ (jwi x1 6) = 0 → ((jwi x2 6) = 0 → Q (-1000000001) S) ∧ (¬ (jwi x2 6) = 0 → ((jwi x3 10) = 0 → Q (-1000000001) S) ∧ (¬ (jwi x3 10) = 0 → ((jwi x4 100) = 0 → Q (-1000000001) S) ∧ (¬ (jwi x4 100) = 0 → jk S a0 = 10 ∧ ∃ b18, jr S a0 0 = some b18 ∧ (jk S b18 = 3 ∧ ∃ b20, jr S b18 0 = some b20 ∧ (jk S b20 = 0 ∧ jFi E mX0_join d 0 0 [.ref b20, .int x1, .int x2, .int x3, .int x4] S (fun r23 S22 => (r23 = 0 → Q (-1000000003) S22) ∧ (¬ r23 = 0 → Q (ji S b20 1) S22))))))))) : jFi E mX10_master (d + 1) 0 0 [.ref a0, .int x1, .int x2, .int x3, .int x4] S Q := by
  refine jF_of (by decide) (jle rfl) ?_
  refine jx_lv (lv1 := [(0, .ref a0), (1, .int x1), (2, .int x2), (3, .int x3), (4, .int x4)]) [0, 1, 2, 3, 4] rfl ?_
  refine jx_iload_n 1 dX10_master_0 rfl rfl ?_
  refine jx_bipush (v := 6) dX10_master_1 (by decide) ?_
  refine jx_callSi (M' := mX10_within) (As := [.int x1, .int 6]) jo_X10_within jwM_X10_58 jwS_X10_within dX10_master_3 (jRok_m _ _ _) rfl (jle rfl) ⟨jle rfl, jle rfl⟩ (c_X10_within (Q := fun v S' => v = (jwi x1 6) ∧ S = S') ⟨rfl, rfl⟩) (fun r1 S2 hq3 => ?_)
  obtain ⟨rfl, rfl⟩ := hq3
  refine jx_if_eq (tgt := 37) dX10_master_6 (by decide) (fun c4 => ?_) (fun c4 => ?_)
  · replace h := h.1 c4
    refine jx_ldc jwC_X10_62 dX10_master_37 ?_
    exact jx_iret dX10_master_39 rfl rfl (jle rfl) (jle rfl) ⟨_, rfl, h⟩
  replace h := h.2 c4
  refine jx_iload_n 2 dX10_master_9 rfl rfl ?_
  refine jx_bipush (v := 6) dX10_master_10 (by decide) ?_
  refine jx_callSi (M' := mX10_within) (As := [.int x2, .int 6]) jo_X10_within jwM_X10_58 jwS_X10_within dX10_master_12 (jRok_m _ _ _) rfl (jle rfl) ⟨jle rfl, jle rfl⟩ (c_X10_within (Q := fun v S' => v = (jwi x2 6) ∧ S = S') ⟨rfl, rfl⟩) (fun r5 S6 hq7 => ?_)
  obtain ⟨rfl, rfl⟩ := hq7
  refine jx_if_eq (tgt := 37) dX10_master_15 (by decide) (fun c8 => ?_) (fun c8 => ?_)
  · replace h := h.1 c8
    refine jx_ldc jwC_X10_62 dX10_master_37 ?_
    exact jx_iret dX10_master_39 rfl rfl (jle rfl) (jle rfl) ⟨_, rfl, h⟩
  replace h := h.2 c8
  refine jx_iload_n 3 dX10_master_18 rfl rfl ?_
  refine jx_bipush (v := 10) dX10_master_19 (by decide) ?_
  refine jx_callSi (M' := mX10_within) (As := [.int x3, .int 10]) jo_X10_within jwM_X10_58 jwS_X10_within dX10_master_21 (jRok_m _ _ _) rfl (jle rfl) ⟨jle rfl, jle rfl⟩ (c_X10_within (Q := fun v S' => v = (jwi x3 10) ∧ S = S') ⟨rfl, rfl⟩) (fun r9 S10 hq11 => ?_)
  obtain ⟨rfl, rfl⟩ := hq11
  refine jx_if_eq (tgt := 37) dX10_master_24 (by decide) (fun c12 => ?_) (fun c12 => ?_)
  · replace h := h.1 c12
    refine jx_ldc jwC_X10_62 dX10_master_37 ?_
    exact jx_iret dX10_master_39 rfl rfl (jle rfl) (jle rfl) ⟨_, rfl, h⟩
  replace h := h.2 c12
  refine jx_iload 4 dX10_master_27 rfl ?_
  refine jx_bipush (v := 100) dX10_master_29 (by decide) ?_
  refine jx_callSi (M' := mX10_within) (As := [.int x4, .int 100]) jo_X10_within jwM_X10_58 jwS_X10_within dX10_master_31 (jRok_m _ _ _) rfl (jle rfl) ⟨jle rfl, jle rfl⟩ (c_X10_within (Q := fun v S' => v = (jwi x4 100) ∧ S = S') ⟨rfl, rfl⟩) (fun r13 S14 hq15 => ?_)
  obtain ⟨rfl, rfl⟩ := hq15
  refine jx_if_ne (tgt := 40) dX10_master_34 (by decide) (fun c16 => ?_) (fun c16 => ?_)
  · replace h := h.2 c16
    refine jx_aload_n 0 dX10_master_40 rfl rfl ?_
    obtain ⟨hk17, h⟩ := h
    obtain ⟨b18, hb18, h⟩ := h
    refine jx_getr jc_10 (j := 0) (by decide) rfl jwF_X10_12 dX10_master_41 hk17 hb18 ?_
    obtain ⟨hk19, h⟩ := h
    obtain ⟨b20, hb20, h⟩ := h
    refine jx_getr jc_3 (j := 0) (by decide) rfl jwF_X10_63 dX10_master_44 hk19 hb20 ?_
    obtain ⟨hk21, h⟩ := h
    refine jx_geti jc_0 (j := 1) (by decide) rfl jwF_X10_66 dX10_master_47 hk21 ?_
    refine jx_istore (lv1 := [(5, .int (ji S b20 1)), (0, .ref a0), (1, .int x1), (2, .int x2), (3, .int x3), (4, .int x4)]) dX10_master_50 (by decide) rfl ?_
    refine jx_aload_n 1 dX10_master_52 rfl rfl ?_
    refine jx_getr jc_10 (j := 0) (by decide) rfl jwF_X10_12 dX10_master_53 hk17 hb18 ?_
    refine jx_getr jc_3 (j := 0) (by decide) rfl jwF_X10_63 dX10_master_56 hk19 hb20 ?_
    refine jx_iload_n 2 dX10_master_59 rfl rfl ?_
    refine jx_iload_n 3 dX10_master_60 rfl rfl ?_
    refine jx_iload_n 4 dX10_master_61 rfl rfl ?_
    refine jx_iload 5 dX10_master_62 rfl ?_
    refine jx_callVi (M' := mX0_join) (As := [.int x1, .int x2, .int x3, .int x4]) jo_X0_join jc_0 rfl jwM_X10_70 jwN_X0_join jwX_X0_join dX10_master_64 (jRok_m _ _ _) rfl (jle rfl) ⟨jle rfl, jle rfl⟩ hk21 h (fun r23 S22 h => ?_)
    refine jx_if_eq (tgt := 75) dX10_master_67 (by decide) (fun c24 => ?_) (fun c24 => ?_)
    · replace h := h.1 c24
      refine jx_ldc jwC_X10_74 dX10_master_75 ?_
      exact jx_iret dX10_master_77 rfl rfl (jle rfl) (jle rfl) ⟨_, rfl, h⟩
    replace h := h.2 c24
    refine jx_iload 0 dX10_master_70 rfl ?_
    refine jx_goto (tgt := 77) dX10_master_72 (by decide) ?_
    exact jx_iret dX10_master_77 rfl rfl (jle rfl) (jle rfl) ⟨_, rfl, h⟩
  replace h := h.1 c16
  refine jx_ldc jwC_X10_62 dX10_master_37 ?_
  exact jx_iret dX10_master_39 rfl rfl (jle rfl) (jle rfl) ⟨_, rfl, h⟩
set_option maxRecDepth 100000 in
set_option maxHeartbeats 4000000 in
theorem T_X10_told {E : jEnv} {d : Nat} {Q : Int32 → jM → Prop} {a0 : Nat} {x1 : Int32} {x2 : Int32} {S : jM} (h : jk S a0 = 10 ∧ ∃ b2, jr S a0 0 = some b2 ∧ (jk S b2 = 3 ∧ ∃ b4, jr S b2 0 = some b4 ∧ (jk S b4 = 0 ∧ jFr E mX0_find d 0 0 [.ref b4, .int x1] S (fun o7 S6 => (o7 = none → Q (-1000000001) S6) ∧ (∀ b8, o7 = some b8 → jk S6 a0 = 10 ∧ ∃ b10, jr S6 a0 0 = some b10 ∧ (jk S6 b10 = 3 ∧ ∃ b12, jr S6 b10 2 = some b12 ∧ ((x2 = 0 → jk S6 b8 = 2 ∧ Q (ji S6 b8 0) S6) ∧ (x2 = 1 → jk S6 b8 = 2 ∧ Q (ji S6 b8 1) S6) ∧ (x2 = 2 → jk S6 b8 = 2 ∧ Q (ji S6 b8 2) S6) ∧ (x2 = 3 → jk S6 b8 = 2 ∧ Q (ji S6 b8 3) S6) ∧ (x2 = 4 → jk S6 b8 = 2 ∧ Q (ji S6 b8 4) S6) ∧ (x2 = 5 → jk S6 b8 = 2 ∧ Q (ji S6 b8 5) S6) ∧ (x2 = 6 → jk S6 b8 = 2 ∧ ((ji S6 b8 6) = 0 → Q 0 S6) ∧ (¬ (ji S6 b8 6) = 0 → Q 1 S6)) ∧ (x2 = 7 → jk S6 b12 = 1 ∧ jFi E mX3_daysTaken d 0 0 [.ref b10, .ref b8, .int (jbc (ji S6 b12 1))] S6 (fun r34 S33 => Q r34 S33)) ∧ (x2 = 8 → jk S6 b12 = 1 ∧ jk S6 b8 = 2 ∧ jFi E mX2_teaches d 0 0 [.ref b8, .int (ji S6 b12 1)] S6 (fun r39 S38 => (r39 = 0 → Q 0 S38) ∧ (¬ r39 = 0 → Q 1 S38))) ∧ (x2 = 9 → jk S6 b8 = 2 ∧ jFi E mX2_worth d 0 0 [.ref b8] S6 (fun r44 S43 => Q r44 S43)) ∧ (¬ x2 = 0 → ¬ x2 = 1 → ¬ x2 = 2 → ¬ x2 = 3 → ¬ x2 = 4 → ¬ x2 = 5 → ¬ x2 = 6 → ¬ x2 = 7 → ¬ x2 = 8 → ¬ x2 = 9 → Q (-1000000001) S6)))))))) : jFi E mX10_told (d + 1) 0 0 [.ref a0, .int x1, .int x2] S Q := by
  refine jF_of (by decide) (jle rfl) ?_
  refine jx_lv (lv1 := [(0, .ref a0), (1, .int x1), (2, .int x2)]) [0, 1, 2] rfl ?_
  refine jx_aload_n 0 dX10_told_0 rfl rfl ?_
  obtain ⟨hk1, h⟩ := h
  obtain ⟨b2, hb2, h⟩ := h
  refine jx_getr jc_10 (j := 0) (by decide) rfl jwF_X10_12 dX10_told_1 hk1 hb2 ?_
  obtain ⟨hk3, h⟩ := h
  obtain ⟨b4, hb4, h⟩ := h
  refine jx_getr jc_3 (j := 0) (by decide) rfl jwF_X10_63 dX10_told_4 hk3 hb4 ?_
  refine jx_iload_n 1 dX10_told_7 rfl rfl ?_
  obtain ⟨hk5, h⟩ := h
  refine jx_callVr (M' := mX0_find) (As := [.int x1]) jo_X0_find jc_0 rfl jwM_X10_75 jwN_X0_find jwX_X0_find dX10_told_8 (jRok_m _ _ _) rfl (jle rfl) ⟨jle rfl, jle rfl⟩ hk5 h (fun o7 S6 h => ?_)
  rcases o7 with _ | b8
  · replace h := h.1 rfl
    refine jx_astore_nN (lv1 := [(3, .null), (0, .ref a0), (1, .int x1), (2, .int x2)]) dX10_told_11 rfl (by decide) rfl ?_
    refine jx_aload_nN 0 dX10_told_12 rfl rfl ?_
    refine jx_ifnonnullN dX10_told_13 ?_
    refine jx_ldc jwC_X10_62 dX10_told_16 ?_
    exact jx_iret dX10_told_18 rfl rfl (jle rfl) (jle rfl) ⟨_, rfl, h⟩
  replace h := h.2 b8 rfl
  refine jx_astore_n (lv1 := [(3, .ref b8), (0, .ref a0), (1, .int x1), (2, .int x2)]) dX10_told_11 rfl (by decide) rfl ?_
  refine jx_aload_n 0 dX10_told_12 rfl rfl ?_
  refine jx_ifnonnull (tgt := 19) dX10_told_13 (by decide) ?_
  refine jx_aload_n 1 dX10_told_19 rfl rfl ?_
  obtain ⟨hk9, h⟩ := h
  obtain ⟨b10, hb10, h⟩ := h
  refine jx_getr jc_10 (j := 0) (by decide) rfl jwF_X10_12 dX10_told_20 hk9 hb10 ?_
  obtain ⟨hk11, h⟩ := h
  obtain ⟨b12, hb12, h⟩ := h
  refine jx_getr jc_3 (j := 2) (by decide) rfl jwF_X10_79 dX10_told_23 hk11 hb12 ?_
  refine jx_astore (lv1 := [(4, .ref b12), (3, .ref b8), (0, .ref a0), (1, .int x1), (2, .int x2)]) dX10_told_26 (by decide) rfl ?_
  refine jx_iload_n 4 dX10_told_28 rfl rfl ?_
  by_cases c13 : x2 = 0
  · replace h := h.1 c13
    refine jx_tableIn (v := 0) (tgt := 84) (off := 55) kd46 c13 (by decide) (by decide) (by decide) (by decide) ?_
    refine jx_aload_n 1 dX10_told_84 rfl rfl ?_
    obtain ⟨hk14, h⟩ := h
    refine jx_geti jc_2 (j := 0) (by decide) rfl jwF_X10_83 dX10_told_85 hk14 ?_
    exact jx_iret dX10_told_88 rfl rfl (jle rfl) (jle rfl) ⟨_, rfl, h⟩
  replace h := h.2
  by_cases c15 : x2 = 1
  · replace h := h.1 c15
    refine jx_tableIn (v := 1) (tgt := 89) (off := 60) kd46 c15 (by decide) (by decide) (by decide) (by decide) ?_
    refine jx_aload_n 1 dX10_told_89 rfl rfl ?_
    obtain ⟨hk16, h⟩ := h
    refine jx_geti jc_2 (j := 1) (by decide) rfl jwF_X10_88 dX10_told_90 hk16 ?_
    exact jx_iret dX10_told_93 rfl rfl (jle rfl) (jle rfl) ⟨_, rfl, h⟩
  replace h := h.2
  by_cases c17 : x2 = 2
  · replace h := h.1 c17
    refine jx_tableIn (v := 2) (tgt := 94) (off := 65) kd46 c17 (by decide) (by decide) (by decide) (by decide) ?_
    refine jx_aload_n 1 dX10_told_94 rfl rfl ?_
    obtain ⟨hk18, h⟩ := h
    refine jx_geti jc_2 (j := 2) (by decide) rfl jwF_X10_91 dX10_told_95 hk18 ?_
    exact jx_iret dX10_told_98 rfl rfl (jle rfl) (jle rfl) ⟨_, rfl, h⟩
  replace h := h.2
  by_cases c19 : x2 = 3
  · replace h := h.1 c19
    refine jx_tableIn (v := 3) (tgt := 99) (off := 70) kd46 c19 (by decide) (by decide) (by decide) (by decide) ?_
    refine jx_aload_n 1 dX10_told_99 rfl rfl ?_
    obtain ⟨hk20, h⟩ := h
    refine jx_geti jc_2 (j := 3) (by decide) rfl jwF_X10_94 dX10_told_100 hk20 ?_
    exact jx_iret dX10_told_103 rfl rfl (jle rfl) (jle rfl) ⟨_, rfl, h⟩
  replace h := h.2
  by_cases c21 : x2 = 4
  · replace h := h.1 c21
    refine jx_tableIn (v := 4) (tgt := 104) (off := 75) kd46 c21 (by decide) (by decide) (by decide) (by decide) ?_
    refine jx_aload_n 1 dX10_told_104 rfl rfl ?_
    obtain ⟨hk22, h⟩ := h
    refine jx_geti jc_2 (j := 4) (by decide) rfl jwF_X10_97 dX10_told_105 hk22 ?_
    exact jx_iret dX10_told_108 rfl rfl (jle rfl) (jle rfl) ⟨_, rfl, h⟩
  replace h := h.2
  by_cases c23 : x2 = 5
  · replace h := h.1 c23
    refine jx_tableIn (v := 5) (tgt := 109) (off := 80) kd46 c23 (by decide) (by decide) (by decide) (by decide) ?_
    refine jx_aload_n 1 dX10_told_109 rfl rfl ?_
    obtain ⟨hk24, h⟩ := h
    refine jx_geti jc_2 (j := 5) (by decide) rfl jwF_X10_100 dX10_told_110 hk24 ?_
    exact jx_iret dX10_told_113 rfl rfl (jle rfl) (jle rfl) ⟨_, rfl, h⟩
  replace h := h.2
  by_cases c25 : x2 = 6
  · replace h := h.1 c25
    refine jx_tableIn (v := 6) (tgt := 114) (off := 85) kd46 c25 (by decide) (by decide) (by decide) (by decide) ?_
    refine jx_aload_n 1 dX10_told_114 rfl rfl ?_
    obtain ⟨hk26, h⟩ := h
    refine jx_geti jc_2 (j := 6) (by decide) rfl jwF_X10_103 dX10_told_115 hk26 ?_
    refine jx_if_eq (tgt := 125) dX10_told_118 (by decide) (fun c27 => ?_) (fun c27 => ?_)
    · replace h := h.1 c27
      refine jx_iconst (v := 0) dX10_told_125 (by decide) ?_
      exact jx_iret dX10_told_126 rfl rfl (jle rfl) (jle rfl) ⟨_, rfl, h⟩
    replace h := h.2 c27
    refine jx_iconst (v := 1) dX10_told_121 (by decide) ?_
    refine jx_goto (tgt := 126) dX10_told_122 (by decide) ?_
    exact jx_iret dX10_told_126 rfl rfl (jle rfl) (jle rfl) ⟨_, rfl, h⟩
  replace h := h.2
  by_cases c28 : x2 = 7
  · replace h := h.1 c28
    refine jx_tableIn (v := 7) (tgt := 127) (off := 98) kd46 c28 (by decide) (by decide) (by decide) (by decide) ?_
    refine jx_aload_n 2 dX10_told_127 rfl rfl ?_
    refine jx_getr jc_10 (j := 0) (by decide) rfl jwF_X10_12 dX10_told_128 hk9 hb10 ?_
    refine jx_aload_n 1 dX10_told_131 rfl rfl ?_
    refine jx_aload 0 dX10_told_132 rfl ?_
    obtain ⟨hk29, h⟩ := h
    refine jx_geti jc_1 (j := 1) (by decide) rfl jwF_X10_107 dX10_told_134 hk29 ?_
    refine jx_callSi (M' := mJ6_bitCount_0f7a4) (As := [.int (ji S6 b12 1)]) jo_J6_bitCount_0f7a4 jwM_X10_112 jwS_J6_bitCount_0f7a4 dX10_told_137 (jRok_m _ _ _) rfl (jle rfl) ⟨jle rfl, jle rfl⟩ (c_J6_bitCount_0f7a4 (Q := fun v S' => v = (jbc (ji S6 b12 1)) ∧ S6 = S') ⟨rfl, rfl⟩) (fun r30 S31 hq32 => ?_)
    obtain ⟨rfl, rfl⟩ := hq32
    refine jx_callVi (M' := mX3_daysTaken) (As := [.ref b8, .int (jbc (ji S6 b12 1))]) jo_X3_daysTaken jc_3 rfl jwM_X10_118 jwN_X3_daysTaken jwX_X3_daysTaken dX10_told_140 (jRok_m _ _ _) rfl (jle rfl) ⟨jle rfl, jle rfl⟩ hk11 h (fun r34 S33 h => ?_)
    exact jx_iret dX10_told_143 rfl rfl (jle rfl) (jle rfl) ⟨_, rfl, h⟩
  replace h := h.2
  by_cases c35 : x2 = 8
  · replace h := h.1 c35
    refine jx_tableIn (v := 8) (tgt := 144) (off := 115) kd46 c35 (by decide) (by decide) (by decide) (by decide) ?_
    refine jx_aload_n 1 dX10_told_144 rfl rfl ?_
    refine jx_aload 0 dX10_told_145 rfl ?_
    obtain ⟨hk36, h⟩ := h
    refine jx_geti jc_1 (j := 1) (by decide) rfl jwF_X10_107 dX10_told_147 hk36 ?_
    obtain ⟨hk37, h⟩ := h
    refine jx_callVi (M' := mX2_teaches) (As := [.int (ji S6 b12 1)]) jo_X2_teaches jc_2 rfl jwM_X10_122 jwN_X2_teaches jwX_X2_teaches dX10_told_150 (jRok_m _ _ _) rfl (jle rfl) ⟨jle rfl, jle rfl⟩ hk37 h (fun r39 S38 h => ?_)
    refine jx_if_eq (tgt := 160) dX10_told_153 (by decide) (fun c40 => ?_) (fun c40 => ?_)
    · replace h := h.1 c40
      refine jx_iconst (v := 0) dX10_told_160 (by decide) ?_
      exact jx_iret dX10_told_161 rfl rfl (jle rfl) (jle rfl) ⟨_, rfl, h⟩
    replace h := h.2 c40
    refine jx_iconst (v := 1) dX10_told_156 (by decide) ?_
    refine jx_goto (tgt := 161) dX10_told_157 (by decide) ?_
    exact jx_iret dX10_told_161 rfl rfl (jle rfl) (jle rfl) ⟨_, rfl, h⟩
  replace h := h.2
  by_cases c41 : x2 = 9
  · replace h := h.1 c41
    refine jx_tableIn (v := 9) (tgt := 162) (off := 133) kd46 c41 (by decide) (by decide) (by decide) (by decide) ?_
    refine jx_aload_n 1 dX10_told_162 rfl rfl ?_
    obtain ⟨hk42, h⟩ := h
    refine jx_callVi (M' := mX2_worth) (As := []) jo_X2_worth jc_2 rfl jwM_X10_126 jwN_X2_worth jwX_X2_worth dX10_told_163 (jRok_m _ _ _) rfl (jle rfl) ⟨jle rfl, jle rfl⟩ hk42 h (fun r44 S43 h => ?_)
    exact jx_iret dX10_told_166 rfl rfl (jle rfl) (jle rfl) ⟨_, rfl, h⟩
  replace h := h.2
  replace h := h c13 c15 c17 c19 c21 c23 c25 c28 c35 c41
  refine jx_tableD (tgt := 167) ([0, 1, 2, 3, 4, 5, 6, 7, 8, 9] : List Int) kd46 (by simp only [List.mem_cons, List.not_mem_nil, or_false, forall_eq_or_imp, forall_eq]; exact ⟨lv_neT c13 (by decide), lv_neT c15 (by decide), lv_neT c17 (by decide), lv_neT c19 (by decide), lv_neT c21 (by decide), lv_neT c23 (by decide), lv_neT c25 (by decide), lv_neT c28 (by decide), lv_neT c35 (by decide), lv_neT c41 (by decide)⟩) (by decide) (by decide) (by decide) ?_
  refine jx_ldc jwC_X10_62 dX10_told_167 ?_
  exact jx_iret dX10_told_169 rfl rfl (jle rfl) (jle rfl) ⟨_, rfl, h⟩
set_option maxRecDepth 100000 in
set_option maxHeartbeats 4000000 in
theorem T_X10_as {E : jEnv} {d : Nat} {Q : Int32 → jM → Prop} {a0 : Nat} {x1 : Int32} {x2 : Int32} {S : jM} (h : jk S a0 = 10 ∧ ∃ b2, jr S a0 0 = some b2 ∧ (jk S b2 = 3 ∧ ∃ b4, jr S b2 0 = some b4 ∧ (jk S b4 = 0 ∧ jFr E mX0_find d 0 0 [.ref b4, .int x1] S (fun o7 S6 => (o7 = none → Q (-1000000001) S6) ∧ (∀ b8, o7 = some b8 → ((jwi x2 6) = 0 → Q (-1000000001) S6) ∧ (¬ (jwi x2 6) = 0 → jk S6 b8 = 2 ∧ jFi E mX2_isOf d 0 0 [.ref b8, .int x2] S6 (fun r15 S14 => (r15 = 0 → Q (-1000000012) S14) ∧ (¬ r15 = 0 → jk S14 b8 = 2 ∧ Q (ji S14 b8 4) S14)))))))) : jFi E mX10_as (d + 1) 0 0 [.ref a0, .int x1, .int x2] S Q := by
  refine jF_of (by decide) (jle rfl) ?_
  refine jx_lv (lv1 := [(0, .ref a0), (1, .int x1), (2, .int x2)]) [0, 1, 2] rfl ?_
  refine jx_aload_n 0 dX10_as_0 rfl rfl ?_
  obtain ⟨hk1, h⟩ := h
  obtain ⟨b2, hb2, h⟩ := h
  refine jx_getr jc_10 (j := 0) (by decide) rfl jwF_X10_12 dX10_as_1 hk1 hb2 ?_
  obtain ⟨hk3, h⟩ := h
  obtain ⟨b4, hb4, h⟩ := h
  refine jx_getr jc_3 (j := 0) (by decide) rfl jwF_X10_63 dX10_as_4 hk3 hb4 ?_
  refine jx_iload_n 1 dX10_as_7 rfl rfl ?_
  obtain ⟨hk5, h⟩ := h
  refine jx_callVr (M' := mX0_find) (As := [.int x1]) jo_X0_find jc_0 rfl jwM_X10_75 jwN_X0_find jwX_X0_find dX10_as_8 (jRok_m _ _ _) rfl (jle rfl) ⟨jle rfl, jle rfl⟩ hk5 h (fun o7 S6 h => ?_)
  rcases o7 with _ | b8
  · replace h := h.1 rfl
    refine jx_astore_nN (lv1 := [(3, .null), (0, .ref a0), (1, .int x1), (2, .int x2)]) dX10_as_11 rfl (by decide) rfl ?_
    refine jx_aload_nN 0 dX10_as_12 rfl rfl ?_
    refine jx_ifnullN (tgt := 25) dX10_as_13 (by decide) ?_
    refine jx_ldc jwC_X10_62 dX10_as_25 ?_
    exact jx_iret dX10_as_27 rfl rfl (jle rfl) (jle rfl) ⟨_, rfl, h⟩
  replace h := h.2 b8 rfl
  refine jx_astore_n (lv1 := [(3, .ref b8), (0, .ref a0), (1, .int x1), (2, .int x2)]) dX10_as_11 rfl (by decide) rfl ?_
  refine jx_aload_n 0 dX10_as_12 rfl rfl ?_
  refine jx_ifnull dX10_as_13 ?_
  refine jx_iload_n 3 dX10_as_16 rfl rfl ?_
  refine jx_bipush (v := 6) dX10_as_17 (by decide) ?_
  refine jx_callSi (M' := mX10_within) (As := [.int x2, .int 6]) jo_X10_within jwM_X10_58 jwS_X10_within dX10_as_19 (jRok_m _ _ _) rfl (jle rfl) ⟨jle rfl, jle rfl⟩ (c_X10_within (Q := fun v S' => v = (jwi x2 6) ∧ S6 = S') ⟨rfl, rfl⟩) (fun r9 S10 hq11 => ?_)
  obtain ⟨rfl, rfl⟩ := hq11
  refine jx_if_ne (tgt := 28) dX10_as_22 (by decide) (fun c12 => ?_) (fun c12 => ?_)
  · replace h := h.2 c12
    refine jx_aload_n 0 dX10_as_28 rfl rfl ?_
    refine jx_iload_n 3 dX10_as_29 rfl rfl ?_
    obtain ⟨hk13, h⟩ := h
    refine jx_callVi (M' := mX2_isOf) (As := [.int x2]) jo_X2_isOf jc_2 rfl jwM_X10_130 jwN_X2_isOf jwX_X2_isOf dX10_as_30 (jRok_m _ _ _) rfl (jle rfl) ⟨jle rfl, jle rfl⟩ hk13 h (fun r15 S14 h => ?_)
    refine jx_if_eq (tgt := 43) dX10_as_33 (by decide) (fun c16 => ?_) (fun c16 => ?_)
    · replace h := h.1 c16
      refine jx_ldc jwC_X10_133 dX10_as_43 ?_
      exact jx_iret dX10_as_45 rfl rfl (jle rfl) (jle rfl) ⟨_, rfl, h⟩
    replace h := h.2 c16
    refine jx_aload_n 0 dX10_as_36 rfl rfl ?_
    obtain ⟨hk17, h⟩ := h
    refine jx_geti jc_2 (j := 4) (by decide) rfl jwF_X10_97 dX10_as_37 hk17 ?_
    refine jx_goto (tgt := 45) dX10_as_40 (by decide) ?_
    exact jx_iret dX10_as_45 rfl rfl (jle rfl) (jle rfl) ⟨_, rfl, h⟩
  replace h := h.1 c12
  refine jx_ldc jwC_X10_62 dX10_as_25 ?_
  exact jx_iret dX10_as_27 rfl rfl (jle rfl) (jle rfl) ⟨_, rfl, h⟩
set_option maxRecDepth 100000 in
set_option maxHeartbeats 4000000 in
theorem T_X10_turns {E : jEnv} {d : Nat} {Q : Int32 → jM → Prop} {a0 : Nat} {x1 : Int32} {x2 : Int32} {S : jM} (h : jk S a0 = 10 ∧ ∃ b2, jr S a0 0 = some b2 ∧ (jk S b2 = 3 ∧ ∃ b4, jr S b2 0 = some b4 ∧ (jk S b4 = 0 ∧ jFr E mX0_find d 0 0 [.ref b4, .int x1] S (fun o7 S6 => (o7 = none → Q (-1000000001) S6) ∧ (∀ b8, o7 = some b8 → ((jwi x2 6) = 0 → Q (-1000000001) S6) ∧ (¬ (jwi x2 6) = 0 → jk S6 b8 = 2 ∧ Q (ji S6 b8 0) (jput S6 b8 0 x2))))))) : jFi E mX10_turns (d + 1) 0 0 [.ref a0, .int x1, .int x2] S Q := by
  refine jF_of (by decide) (jle rfl) ?_
  refine jx_lv (lv1 := [(0, .ref a0), (1, .int x1), (2, .int x2)]) [0, 1, 2] rfl ?_
  refine jx_aload_n 0 dX10_turns_0 rfl rfl ?_
  obtain ⟨hk1, h⟩ := h
  obtain ⟨b2, hb2, h⟩ := h
  refine jx_getr jc_10 (j := 0) (by decide) rfl jwF_X10_12 dX10_turns_1 hk1 hb2 ?_
  obtain ⟨hk3, h⟩ := h
  obtain ⟨b4, hb4, h⟩ := h
  refine jx_getr jc_3 (j := 0) (by decide) rfl jwF_X10_63 dX10_turns_4 hk3 hb4 ?_
  refine jx_iload_n 1 dX10_turns_7 rfl rfl ?_
  obtain ⟨hk5, h⟩ := h
  refine jx_callVr (M' := mX0_find) (As := [.int x1]) jo_X0_find jc_0 rfl jwM_X10_75 jwN_X0_find jwX_X0_find dX10_turns_8 (jRok_m _ _ _) rfl (jle rfl) ⟨jle rfl, jle rfl⟩ hk5 h (fun o7 S6 h => ?_)
  rcases o7 with _ | b8
  · replace h := h.1 rfl
    refine jx_astore_nN (lv1 := [(3, .null), (0, .ref a0), (1, .int x1), (2, .int x2)]) dX10_turns_11 rfl (by decide) rfl ?_
    refine jx_aload_nN 0 dX10_turns_12 rfl rfl ?_
    refine jx_ifnullN (tgt := 25) dX10_turns_13 (by decide) ?_
    refine jx_ldc jwC_X10_62 dX10_turns_25 ?_
    exact jx_iret dX10_turns_27 rfl rfl (jle rfl) (jle rfl) ⟨_, rfl, h⟩
  replace h := h.2 b8 rfl
  refine jx_astore_n (lv1 := [(3, .ref b8), (0, .ref a0), (1, .int x1), (2, .int x2)]) dX10_turns_11 rfl (by decide) rfl ?_
  refine jx_aload_n 0 dX10_turns_12 rfl rfl ?_
  refine jx_ifnull dX10_turns_13 ?_
  refine jx_iload_n 3 dX10_turns_16 rfl rfl ?_
  refine jx_bipush (v := 6) dX10_turns_17 (by decide) ?_
  refine jx_callSi (M' := mX10_within) (As := [.int x2, .int 6]) jo_X10_within jwM_X10_58 jwS_X10_within dX10_turns_19 (jRok_m _ _ _) rfl (jle rfl) ⟨jle rfl, jle rfl⟩ (c_X10_within (Q := fun v S' => v = (jwi x2 6) ∧ S6 = S') ⟨rfl, rfl⟩) (fun r9 S10 hq11 => ?_)
  obtain ⟨rfl, rfl⟩ := hq11
  refine jx_if_ne (tgt := 28) dX10_turns_22 (by decide) (fun c12 => ?_) (fun c12 => ?_)
  · replace h := h.2 c12
    refine jx_aload_n 0 dX10_turns_28 rfl rfl ?_
    obtain ⟨hk13, h⟩ := h
    refine jx_geti jc_2 (j := 0) (by decide) rfl jwF_X10_83 dX10_turns_29 hk13 ?_
    refine jx_istore (lv1 := [(4, .int (ji S6 b8 0)), (3, .ref b8), (0, .ref a0), (1, .int x1), (2, .int x2)]) dX10_turns_32 (by decide) rfl ?_
    refine jx_aload_n 1 dX10_turns_34 rfl rfl ?_
    refine jx_iload_n 4 dX10_turns_35 rfl rfl ?_
    refine jx_puti jc_2 (j := 0) (by decide) rfl jwF_X10_83 rfl rfl rfl dX10_turns_36 hk13 ?_
    refine jx_iload 0 dX10_turns_39 rfl ?_
    exact jx_iret dX10_turns_41 rfl rfl (jle rfl) (jle rfl) ⟨_, rfl, h⟩
  replace h := h.1 c12
  refine jx_ldc jwC_X10_62 dX10_turns_25 ?_
  exact jx_iret dX10_turns_27 rfl rfl (jle rfl) (jle rfl) ⟨_, rfl, h⟩
set_option maxRecDepth 100000 in
set_option maxHeartbeats 4000000 in
theorem T_X10_set {E : jEnv} {d : Nat} {Q : Int32 → jM → Prop} {a0 : Nat} {x1 : Int32} {x2 : Int32} {x3 : Int32} {S : jM} (h : jk S a0 = 10 ∧ ∃ b2, jr S a0 0 = some b2 ∧ (jk S b2 = 3 ∧ ∃ b4, jr S b2 0 = some b4 ∧ (jk S b4 = 0 ∧ jFr E mX0_find d 0 0 [.ref b4, .int x1] S (fun o7 S6 => (o7 = none → Q (-1000000001) S6) ∧ (∀ b8, o7 = some b8 → (x2 = 4 → jFi E mX10_setFee d 0 0 [.ref b8, .int x3] S6 (fun r11 S10 => Q r11 S10)) ∧ (x2 = 5 → jFi E mX10_setAge d 0 0 [.ref b8, .int x3] S6 (fun r14 S13 => Q r14 S13)) ∧ (x2 = 6 → jFi E mX10_setDead d 0 0 [.ref b8, .int x3] S6 (fun r17 S16 => Q r17 S16)) ∧ (¬ x2 = 4 → ¬ x2 = 5 → ¬ x2 = 6 → Q (-1000000001) S6)))))) : jFi E mX10_set (d + 1) 0 0 [.ref a0, .int x1, .int x2, .int x3] S Q := by
  refine jF_of (by decide) (jle rfl) ?_
  refine jx_lv (lv1 := [(0, .ref a0), (1, .int x1), (2, .int x2), (3, .int x3)]) [0, 1, 2, 3] rfl ?_
  refine jx_aload_n 0 dX10_set_0 rfl rfl ?_
  obtain ⟨hk1, h⟩ := h
  obtain ⟨b2, hb2, h⟩ := h
  refine jx_getr jc_10 (j := 0) (by decide) rfl jwF_X10_12 dX10_set_1 hk1 hb2 ?_
  obtain ⟨hk3, h⟩ := h
  obtain ⟨b4, hb4, h⟩ := h
  refine jx_getr jc_3 (j := 0) (by decide) rfl jwF_X10_63 dX10_set_4 hk3 hb4 ?_
  refine jx_iload_n 1 dX10_set_7 rfl rfl ?_
  obtain ⟨hk5, h⟩ := h
  refine jx_callVr (M' := mX0_find) (As := [.int x1]) jo_X0_find jc_0 rfl jwM_X10_75 jwN_X0_find jwX_X0_find dX10_set_8 (jRok_m _ _ _) rfl (jle rfl) ⟨jle rfl, jle rfl⟩ hk5 h (fun o7 S6 h => ?_)
  rcases o7 with _ | b8
  · replace h := h.1 rfl
    refine jx_astoreN (lv1 := [(4, .null), (0, .ref a0), (1, .int x1), (2, .int x2), (3, .int x3)]) dX10_set_11 (by decide) rfl ?_
    refine jx_aloadN 0 dX10_set_13 rfl ?_
    refine jx_ifnonnullN dX10_set_15 ?_
    refine jx_ldc jwC_X10_62 dX10_set_18 ?_
    exact jx_iret dX10_set_20 rfl rfl (jle rfl) (jle rfl) ⟨_, rfl, h⟩
  replace h := h.2 b8 rfl
  refine jx_astore (lv1 := [(4, .ref b8), (0, .ref a0), (1, .int x1), (2, .int x2), (3, .int x3)]) dX10_set_11 (by decide) rfl ?_
  refine jx_aload 0 dX10_set_13 rfl ?_
  refine jx_ifnonnull (tgt := 21) dX10_set_15 (by decide) ?_
  refine jx_iload_n 3 dX10_set_21 rfl rfl ?_
  by_cases c9 : x2 = 4
  · replace h := h.1 c9
    refine jx_tableIn (v := 4) (tgt := 48) (off := 26) kd47 c9 (by decide) (by decide) (by decide) (by decide) ?_
    refine jx_aload 0 dX10_set_48 rfl ?_
    refine jx_iload_n 4 dX10_set_50 rfl rfl ?_
    refine jx_callSi (M' := mX10_setFee) (As := [.ref b8, .int x3]) jo_X10_setFee jwM_X10_134 jwS_X10_setFee dX10_set_51 (jRok_m _ _ _) rfl (jle rfl) ⟨jle rfl, jle rfl⟩ h (fun r11 S10 h => ?_)
    exact jx_iret dX10_set_54 rfl rfl (jle rfl) (jle rfl) ⟨_, rfl, h⟩
  replace h := h.2
  by_cases c12 : x2 = 5
  · replace h := h.1 c12
    refine jx_tableIn (v := 5) (tgt := 55) (off := 33) kd47 c12 (by decide) (by decide) (by decide) (by decide) ?_
    refine jx_aload 0 dX10_set_55 rfl ?_
    refine jx_iload_n 4 dX10_set_57 rfl rfl ?_
    refine jx_callSi (M' := mX10_setAge) (As := [.ref b8, .int x3]) jo_X10_setAge jwM_X10_137 jwS_X10_setAge dX10_set_58 (jRok_m _ _ _) rfl (jle rfl) ⟨jle rfl, jle rfl⟩ h (fun r14 S13 h => ?_)
    exact jx_iret dX10_set_61 rfl rfl (jle rfl) (jle rfl) ⟨_, rfl, h⟩
  replace h := h.2
  by_cases c15 : x2 = 6
  · replace h := h.1 c15
    refine jx_tableIn (v := 6) (tgt := 62) (off := 40) kd47 c15 (by decide) (by decide) (by decide) (by decide) ?_
    refine jx_aload 0 dX10_set_62 rfl ?_
    refine jx_iload_n 4 dX10_set_64 rfl rfl ?_
    refine jx_callSi (M' := mX10_setDead) (As := [.ref b8, .int x3]) jo_X10_setDead jwM_X10_140 jwS_X10_setDead dX10_set_65 (jRok_m _ _ _) rfl (jle rfl) ⟨jle rfl, jle rfl⟩ h (fun r17 S16 h => ?_)
    exact jx_iret dX10_set_68 rfl rfl (jle rfl) (jle rfl) ⟨_, rfl, h⟩
  replace h := h.2
  replace h := h c9 c12 c15
  refine jx_tableD (tgt := 69) ([4, 5, 6] : List Int) kd47 (by simp only [List.mem_cons, List.not_mem_nil, or_false, forall_eq_or_imp, forall_eq]; exact ⟨lv_neT c9 (by decide), lv_neT c12 (by decide), lv_neT c15 (by decide)⟩) (by decide) (by decide) (by decide) ?_
  refine jx_ldc jwC_X10_62 dX10_set_69 ?_
  exact jx_iret dX10_set_71 rfl rfl (jle rfl) (jle rfl) ⟨_, rfl, h⟩
set_option maxRecDepth 100000 in
set_option maxHeartbeats 4000000 in
theorem T_X10_setFee {E : jEnv} {d : Nat} {Q : Int32 → jM → Prop} {a0 : Nat} {x1 : Int32} {S : jM} (h : ((jwi x1 100) = 0 → Q (-1000000001) S) ∧ (¬ (jwi x1 100) = 0 → jk S a0 = 2 ∧ Q (ji S a0 4) (jput S a0 4 x1))) : jFi E mX10_setFee (d + 1) 0 0 [.ref a0, .int x1] S Q := by
  refine jF_of (by decide) (jle rfl) ?_
  refine jx_lv (lv1 := [(0, .ref a0), (1, .int x1)]) [0, 1] rfl ?_
  refine jx_iload_n 1 dX10_setFee_0 rfl rfl ?_
  refine jx_bipush (v := 100) dX10_setFee_1 (by decide) ?_
  refine jx_callSi (M' := mX10_within) (As := [.int x1, .int 100]) jo_X10_within jwM_X10_58 jwS_X10_within dX10_setFee_3 (jRok_m _ _ _) rfl (jle rfl) ⟨jle rfl, jle rfl⟩ (c_X10_within (Q := fun v S' => v = (jwi x1 100) ∧ S = S') ⟨rfl, rfl⟩) (fun r1 S2 hq3 => ?_)
  obtain ⟨rfl, rfl⟩ := hq3
  refine jx_if_ne (tgt := 12) dX10_setFee_6 (by decide) (fun c4 => ?_) (fun c4 => ?_)
  · replace h := h.2 c4
    refine jx_aload_n 0 dX10_setFee_12 rfl rfl ?_
    obtain ⟨hk5, h⟩ := h
    refine jx_geti jc_2 (j := 4) (by decide) rfl jwF_X10_97 dX10_setFee_13 hk5 ?_
    refine jx_istore_n (lv1 := [(2, .int (ji S a0 4)), (0, .ref a0), (1, .int x1)]) dX10_setFee_16 rfl (by decide) rfl ?_
    refine jx_aload_n 1 dX10_setFee_17 rfl rfl ?_
    refine jx_iload_n 2 dX10_setFee_18 rfl rfl ?_
    refine jx_puti jc_2 (j := 4) (by decide) rfl jwF_X10_97 rfl rfl rfl dX10_setFee_19 hk5 ?_
    refine jx_iload_n 0 dX10_setFee_22 rfl rfl ?_
    exact jx_iret dX10_setFee_23 rfl rfl (jle rfl) (jle rfl) ⟨_, rfl, h⟩
  replace h := h.1 c4
  refine jx_ldc jwC_X10_62 dX10_setFee_9 ?_
  exact jx_iret dX10_setFee_11 rfl rfl (jle rfl) (jle rfl) ⟨_, rfl, h⟩
set_option maxRecDepth 100000 in
set_option maxHeartbeats 4000000 in
theorem T_X10_setAge {E : jEnv} {d : Nat} {Q : Int32 → jM → Prop} {a0 : Nat} {x1 : Int32} {S : jM} (h : ((jwi x1 100) = 0 → Q (-1000000001) S) ∧ (¬ (jwi x1 100) = 0 → jk S a0 = 2 ∧ Q (ji S a0 5) (jput S a0 5 x1))) : jFi E mX10_setAge (d + 1) 0 0 [.ref a0, .int x1] S Q := by
  refine jF_of (by decide) (jle rfl) ?_
  refine jx_lv (lv1 := [(0, .ref a0), (1, .int x1)]) [0, 1] rfl ?_
  refine jx_iload_n 1 dX10_setAge_0 rfl rfl ?_
  refine jx_bipush (v := 100) dX10_setAge_1 (by decide) ?_
  refine jx_callSi (M' := mX10_within) (As := [.int x1, .int 100]) jo_X10_within jwM_X10_58 jwS_X10_within dX10_setAge_3 (jRok_m _ _ _) rfl (jle rfl) ⟨jle rfl, jle rfl⟩ (c_X10_within (Q := fun v S' => v = (jwi x1 100) ∧ S = S') ⟨rfl, rfl⟩) (fun r1 S2 hq3 => ?_)
  obtain ⟨rfl, rfl⟩ := hq3
  refine jx_if_ne (tgt := 12) dX10_setAge_6 (by decide) (fun c4 => ?_) (fun c4 => ?_)
  · replace h := h.2 c4
    refine jx_aload_n 0 dX10_setAge_12 rfl rfl ?_
    obtain ⟨hk5, h⟩ := h
    refine jx_geti jc_2 (j := 5) (by decide) rfl jwF_X10_100 dX10_setAge_13 hk5 ?_
    refine jx_istore_n (lv1 := [(2, .int (ji S a0 5)), (0, .ref a0), (1, .int x1)]) dX10_setAge_16 rfl (by decide) rfl ?_
    refine jx_aload_n 1 dX10_setAge_17 rfl rfl ?_
    refine jx_iload_n 2 dX10_setAge_18 rfl rfl ?_
    refine jx_puti jc_2 (j := 5) (by decide) rfl jwF_X10_100 rfl rfl rfl dX10_setAge_19 hk5 ?_
    refine jx_iload_n 0 dX10_setAge_22 rfl rfl ?_
    exact jx_iret dX10_setAge_23 rfl rfl (jle rfl) (jle rfl) ⟨_, rfl, h⟩
  replace h := h.1 c4
  refine jx_ldc jwC_X10_62 dX10_setAge_9 ?_
  exact jx_iret dX10_setAge_11 rfl rfl (jle rfl) (jle rfl) ⟨_, rfl, h⟩
set_option maxRecDepth 100000 in
set_option maxHeartbeats 4000000 in
theorem T_X10_setDead {E : jEnv} {d : Nat} {Q : Int32 → jM → Prop} {a0 : Nat} {x1 : Int32} {S : jM} (h : ((jwi x1 2) = 0 → Q (-1000000001) S) ∧ (¬ (jwi x1 2) = 0 → jk S a0 = 2 ∧ ((ji S a0 6) = 0 → (x1 = 1 → Q 0 (jput S a0 6 1)) ∧ (¬ x1 = 1 → Q 0 (jput S a0 6 0))) ∧ (¬ (ji S a0 6) = 0 → (x1 = 1 → Q 1 (jput S a0 6 1)) ∧ (¬ x1 = 1 → Q 1 (jput S a0 6 0))))) : jFi E mX10_setDead (d + 1) 0 0 [.ref a0, .int x1] S Q := by
  refine jF_of (by decide) (jle rfl) ?_
  refine jx_lv (lv1 := [(0, .ref a0), (1, .int x1)]) [0, 1] rfl ?_
  refine jx_iload_n 1 dX10_setDead_0 rfl rfl ?_
  refine jx_iconst (v := 2) dX10_setDead_1 (by decide) ?_
  refine jx_callSi (M' := mX10_within) (As := [.int x1, .int 2]) jo_X10_within jwM_X10_58 jwS_X10_within dX10_setDead_2 (jRok_m _ _ _) rfl (jle rfl) ⟨jle rfl, jle rfl⟩ (c_X10_within (Q := fun v S' => v = (jwi x1 2) ∧ S = S') ⟨rfl, rfl⟩) (fun r1 S2 hq3 => ?_)
  obtain ⟨rfl, rfl⟩ := hq3
  refine jx_if_ne (tgt := 11) dX10_setDead_5 (by decide) (fun c4 => ?_) (fun c4 => ?_)
  · replace h := h.2 c4
    refine jx_aload_n 0 dX10_setDead_11 rfl rfl ?_
    obtain ⟨hk5, h⟩ := h
    refine jx_geti jc_2 (j := 6) (by decide) rfl jwF_X10_103 dX10_setDead_12 hk5 ?_
    refine jx_if_eq (tgt := 22) dX10_setDead_15 (by decide) (fun c6 => ?_) (fun c6 => ?_)
    · replace h := h.1 c6
      refine jx_iconst (v := 0) dX10_setDead_22 (by decide) ?_
      refine jx_istore_n (lv1 := [(2, .int 0), (0, .ref a0), (1, .int x1)]) dX10_setDead_23 rfl (by decide) rfl ?_
      refine jx_aload_n 1 dX10_setDead_24 rfl rfl ?_
      refine jx_iload_n 2 dX10_setDead_25 rfl rfl ?_
      refine jx_iconst (v := 1) dX10_setDead_26 (by decide) ?_
      refine jx_icmp_ne (tgt := 34) dX10_setDead_27 (by decide) (fun c7 => ?_) (fun c7 => ?_)
      · replace h := h.2 c7
        refine jx_iconst (v := 0) dX10_setDead_34 (by decide) ?_
        refine jx_puti jc_2 (j := 6) (by decide) rfl jwF_X10_103 rfl (by decide) (by decide) dX10_setDead_35 hk5 ?_
        refine jx_iload_n 0 dX10_setDead_38 rfl rfl ?_
        exact jx_iret dX10_setDead_39 rfl rfl (jle rfl) (jle rfl) ⟨_, rfl, h⟩
      replace h := h.1 c7
      refine jx_iconst (v := 1) dX10_setDead_30 (by decide) ?_
      refine jx_goto (tgt := 35) dX10_setDead_31 (by decide) ?_
      refine jx_puti jc_2 (j := 6) (by decide) rfl jwF_X10_103 rfl (by decide) (by decide) dX10_setDead_35 hk5 ?_
      refine jx_iload_n 0 dX10_setDead_38 rfl rfl ?_
      exact jx_iret dX10_setDead_39 rfl rfl (jle rfl) (jle rfl) ⟨_, rfl, h⟩
    replace h := h.2 c6
    refine jx_iconst (v := 1) dX10_setDead_18 (by decide) ?_
    refine jx_goto (tgt := 23) dX10_setDead_19 (by decide) ?_
    refine jx_istore_n (lv1 := [(2, .int 1), (0, .ref a0), (1, .int x1)]) dX10_setDead_23 rfl (by decide) rfl ?_
    refine jx_aload_n 1 dX10_setDead_24 rfl rfl ?_
    refine jx_iload_n 2 dX10_setDead_25 rfl rfl ?_
    refine jx_iconst (v := 1) dX10_setDead_26 (by decide) ?_
    refine jx_icmp_ne (tgt := 34) dX10_setDead_27 (by decide) (fun c8 => ?_) (fun c8 => ?_)
    · replace h := h.2 c8
      refine jx_iconst (v := 0) dX10_setDead_34 (by decide) ?_
      refine jx_puti jc_2 (j := 6) (by decide) rfl jwF_X10_103 rfl (by decide) (by decide) dX10_setDead_35 hk5 ?_
      refine jx_iload_n 0 dX10_setDead_38 rfl rfl ?_
      exact jx_iret dX10_setDead_39 rfl rfl (jle rfl) (jle rfl) ⟨_, rfl, h⟩
    replace h := h.1 c8
    refine jx_iconst (v := 1) dX10_setDead_30 (by decide) ?_
    refine jx_goto (tgt := 35) dX10_setDead_31 (by decide) ?_
    refine jx_puti jc_2 (j := 6) (by decide) rfl jwF_X10_103 rfl (by decide) (by decide) dX10_setDead_35 hk5 ?_
    refine jx_iload_n 0 dX10_setDead_38 rfl rfl ?_
    exact jx_iret dX10_setDead_39 rfl rfl (jle rfl) (jle rfl) ⟨_, rfl, h⟩
  replace h := h.1 c4
  refine jx_ldc jwC_X10_62 dX10_setDead_8 ?_
  exact jx_iret dX10_setDead_10 rfl rfl (jle rfl) (jle rfl) ⟨_, rfl, h⟩
set_option maxRecDepth 100000 in
set_option maxHeartbeats 4000000 in
theorem T_X10_bars {E : jEnv} {d : Nat} {Q : Int32 → jM → Prop} {a0 : Nat} {x1 : Int32} {x2 : Int32} {x3 : Int32} {S : jM} (h : jk S a0 = 10 ∧ ∃ b2, jr S a0 0 = some b2 ∧ (jk S b2 = 3 ∧ ∃ b4, jr S b2 0 = some b4 ∧ (jk S b4 = 0 ∧ jFr E mX0_find d 0 0 [.ref b4, .int x1] S (fun o7 S6 => (o7 = none → Q (-1000000001) S6) ∧ (∀ b8, o7 = some b8 → ((jwi x2 10) = 0 → Q (-1000000001) S6) ∧ (¬ (jwi x2 10) = 0 → ((jwi x3 10) = 0 → Q (-1000000001) S6) ∧ (¬ (jwi x3 10) = 0 → jk S6 b8 = 2 ∧ (x2 = (ji S6 b8 2) → Q (-1000000001) S6) ∧ (¬ x2 = (ji S6 b8 2) → (x3 = (ji S6 b8 2) → Q (-1000000001) S6) ∧ (¬ x3 = (ji S6 b8 2) → Q (ji S6 b8 3) (jput S6 b8 3 ((jshl 1 x2) ||| (jshl 1 x3)))))))))))) : jFi E mX10_bars (d + 1) 0 0 [.ref a0, .int x1, .int x2, .int x3] S Q := by
  refine jF_of (by decide) (jle rfl) ?_
  refine jx_lv (lv1 := [(0, .ref a0), (1, .int x1), (2, .int x2), (3, .int x3)]) [0, 1, 2, 3] rfl ?_
  refine jx_aload_n 0 dX10_bars_0 rfl rfl ?_
  obtain ⟨hk1, h⟩ := h
  obtain ⟨b2, hb2, h⟩ := h
  refine jx_getr jc_10 (j := 0) (by decide) rfl jwF_X10_12 dX10_bars_1 hk1 hb2 ?_
  obtain ⟨hk3, h⟩ := h
  obtain ⟨b4, hb4, h⟩ := h
  refine jx_getr jc_3 (j := 0) (by decide) rfl jwF_X10_63 dX10_bars_4 hk3 hb4 ?_
  refine jx_iload_n 1 dX10_bars_7 rfl rfl ?_
  obtain ⟨hk5, h⟩ := h
  refine jx_callVr (M' := mX0_find) (As := [.int x1]) jo_X0_find jc_0 rfl jwM_X10_75 jwN_X0_find jwX_X0_find dX10_bars_8 (jRok_m _ _ _) rfl (jle rfl) ⟨jle rfl, jle rfl⟩ hk5 h (fun o7 S6 h => ?_)
  rcases o7 with _ | b8
  · replace h := h.1 rfl
    refine jx_astoreN (lv1 := [(4, .null), (0, .ref a0), (1, .int x1), (2, .int x2), (3, .int x3)]) dX10_bars_11 (by decide) rfl ?_
    refine jx_aloadN 0 dX10_bars_13 rfl ?_
    refine jx_ifnullN (tgt := 36) dX10_bars_15 (by decide) ?_
    refine jx_ldc jwC_X10_62 dX10_bars_36 ?_
    exact jx_iret dX10_bars_38 rfl rfl (jle rfl) (jle rfl) ⟨_, rfl, h⟩
  replace h := h.2 b8 rfl
  refine jx_astore (lv1 := [(4, .ref b8), (0, .ref a0), (1, .int x1), (2, .int x2), (3, .int x3)]) dX10_bars_11 (by decide) rfl ?_
  refine jx_aload 0 dX10_bars_13 rfl ?_
  refine jx_ifnull dX10_bars_15 ?_
  refine jx_iload_n 3 dX10_bars_18 rfl rfl ?_
  refine jx_bipush (v := 10) dX10_bars_19 (by decide) ?_
  refine jx_callSi (M' := mX10_within) (As := [.int x2, .int 10]) jo_X10_within jwM_X10_58 jwS_X10_within dX10_bars_21 (jRok_m _ _ _) rfl (jle rfl) ⟨jle rfl, jle rfl⟩ (c_X10_within (Q := fun v S' => v = (jwi x2 10) ∧ S6 = S') ⟨rfl, rfl⟩) (fun r9 S10 hq11 => ?_)
  obtain ⟨rfl, rfl⟩ := hq11
  refine jx_if_eq (tgt := 36) dX10_bars_24 (by decide) (fun c12 => ?_) (fun c12 => ?_)
  · replace h := h.1 c12
    refine jx_ldc jwC_X10_62 dX10_bars_36 ?_
    exact jx_iret dX10_bars_38 rfl rfl (jle rfl) (jle rfl) ⟨_, rfl, h⟩
  replace h := h.2 c12
  refine jx_iload_n 4 dX10_bars_27 rfl rfl ?_
  refine jx_bipush (v := 10) dX10_bars_28 (by decide) ?_
  refine jx_callSi (M' := mX10_within) (As := [.int x3, .int 10]) jo_X10_within jwM_X10_58 jwS_X10_within dX10_bars_30 (jRok_m _ _ _) rfl (jle rfl) ⟨jle rfl, jle rfl⟩ (c_X10_within (Q := fun v S' => v = (jwi x3 10) ∧ S6 = S') ⟨rfl, rfl⟩) (fun r13 S14 hq15 => ?_)
  obtain ⟨rfl, rfl⟩ := hq15
  refine jx_if_ne (tgt := 39) dX10_bars_33 (by decide) (fun c16 => ?_) (fun c16 => ?_)
  · replace h := h.2 c16
    refine jx_iload_n 3 dX10_bars_39 rfl rfl ?_
    refine jx_aload 0 dX10_bars_40 rfl ?_
    obtain ⟨hk17, h⟩ := h
    refine jx_geti jc_2 (j := 2) (by decide) rfl jwF_X10_91 dX10_bars_42 hk17 ?_
    refine jx_icmp_eq (tgt := 57) dX10_bars_45 (by decide) (fun c18 => ?_) (fun c18 => ?_)
    · replace h := h.1 c18
      refine jx_ldc jwC_X10_62 dX10_bars_57 ?_
      exact jx_iret dX10_bars_59 rfl rfl (jle rfl) (jle rfl) ⟨_, rfl, h⟩
    replace h := h.2 c18
    refine jx_iload_n 4 dX10_bars_48 rfl rfl ?_
    refine jx_aload 0 dX10_bars_49 rfl ?_
    refine jx_geti jc_2 (j := 2) (by decide) rfl jwF_X10_91 dX10_bars_51 hk17 ?_
    refine jx_icmp_ne (tgt := 60) dX10_bars_54 (by decide) (fun c19 => ?_) (fun c19 => ?_)
    · replace h := h.2 c19
      refine jx_aload 0 dX10_bars_60 rfl ?_
      refine jx_geti jc_2 (j := 3) (by decide) rfl jwF_X10_94 dX10_bars_62 hk17 ?_
      refine jx_istore (lv1 := [(5, .int (ji S6 b8 3)), (4, .ref b8), (0, .ref a0), (1, .int x1), (2, .int x2), (3, .int x3)]) dX10_bars_65 (by decide) rfl ?_
      refine jx_aload 1 dX10_bars_67 rfl ?_
      refine jx_iconst (v := 1) dX10_bars_69 (by decide) ?_
      refine jx_iload_n 4 dX10_bars_70 rfl rfl ?_
      refine jx_ishl dX10_bars_71 ?_
      refine jx_iconst (v := 1) dX10_bars_72 (by decide) ?_
      refine jx_iload_n 5 dX10_bars_73 rfl rfl ?_
      refine jx_ishl dX10_bars_74 ?_
      refine jx_ior dX10_bars_75 ?_
      refine jx_puti jc_2 (j := 3) (by decide) rfl jwF_X10_94 rfl rfl rfl dX10_bars_76 hk17 ?_
      refine jx_iload 0 dX10_bars_79 rfl ?_
      exact jx_iret dX10_bars_81 rfl rfl (jle rfl) (jle rfl) ⟨_, rfl, h⟩
    replace h := h.1 c19
    refine jx_ldc jwC_X10_62 dX10_bars_57 ?_
    exact jx_iret dX10_bars_59 rfl rfl (jle rfl) (jle rfl) ⟨_, rfl, h⟩
  replace h := h.1 c16
  refine jx_ldc jwC_X10_62 dX10_bars_36 ?_
  exact jx_iret dX10_bars_38 rfl rfl (jle rfl) (jle rfl) ⟨_, rfl, h⟩
set_option maxRecDepth 100000 in
set_option maxHeartbeats 4000000 in
theorem T_X10_road {E : jEnv} {d : Nat} {Q : Int32 → jM → Prop} {a0 : Nat} {x1 : Int32} {x2 : Int32} {x3 : Int32} {S : jM} (h : ((jwi x1 6) = 0 → Q (-1000000001) S) ∧ (¬ (jwi x1 6) = 0 → ((jwi x2 6) = 0 → Q (-1000000001) S) ∧ (¬ (jwi x2 6) = 0 → (x1 = x2 → Q (-1000000001) S) ∧ (¬ x1 = x2 → ((jwi x3 10) = 0 → Q (-1000000001) S) ∧ (¬ (jwi x3 10) = 0 → jk S a0 = 10 ∧ ∃ b15, jr S a0 0 = some b15 ∧ (jk S b15 = 3 ∧ ∃ b17, jr S b15 1 = some b17 ∧ (jk S b17 = 4 ∧ jFi E mX4_direct d 0 0 [.ref b17, .int x1, .int x2] S (fun r20 S19 => jk S19 a0 = 10 ∧ ∃ b22, jr S19 a0 0 = some b22 ∧ (jk S19 b22 = 3 ∧ ∃ b24, jr S19 b22 1 = some b24 ∧ (jk S19 b24 = 4 ∧ jFv E mX4_build d 0 0 [.ref b24, .int x1, .int x2, .int x3] S19 (fun S26 => Q r20 S26))))))))))) : jFi E mX10_road (d + 1) 0 0 [.ref a0, .int x1, .int x2, .int x3] S Q := by
  refine jF_of (by decide) (jle rfl) ?_
  refine jx_lv (lv1 := [(0, .ref a0), (1, .int x1), (2, .int x2), (3, .int x3)]) [0, 1, 2, 3] rfl ?_
  refine jx_iload_n 1 dX10_road_0 rfl rfl ?_
  refine jx_bipush (v := 6) dX10_road_1 (by decide) ?_
  refine jx_callSi (M' := mX10_within) (As := [.int x1, .int 6]) jo_X10_within jwM_X10_58 jwS_X10_within dX10_road_3 (jRok_m _ _ _) rfl (jle rfl) ⟨jle rfl, jle rfl⟩ (c_X10_within (Q := fun v S' => v = (jwi x1 6) ∧ S = S') ⟨rfl, rfl⟩) (fun r1 S2 hq3 => ?_)
  obtain ⟨rfl, rfl⟩ := hq3
  refine jx_if_eq (tgt := 32) dX10_road_6 (by decide) (fun c4 => ?_) (fun c4 => ?_)
  · replace h := h.1 c4
    refine jx_ldc jwC_X10_62 dX10_road_32 ?_
    exact jx_iret dX10_road_34 rfl rfl (jle rfl) (jle rfl) ⟨_, rfl, h⟩
  replace h := h.2 c4
  refine jx_iload_n 2 dX10_road_9 rfl rfl ?_
  refine jx_bipush (v := 6) dX10_road_10 (by decide) ?_
  refine jx_callSi (M' := mX10_within) (As := [.int x2, .int 6]) jo_X10_within jwM_X10_58 jwS_X10_within dX10_road_12 (jRok_m _ _ _) rfl (jle rfl) ⟨jle rfl, jle rfl⟩ (c_X10_within (Q := fun v S' => v = (jwi x2 6) ∧ S = S') ⟨rfl, rfl⟩) (fun r5 S6 hq7 => ?_)
  obtain ⟨rfl, rfl⟩ := hq7
  refine jx_if_eq (tgt := 32) dX10_road_15 (by decide) (fun c8 => ?_) (fun c8 => ?_)
  · replace h := h.1 c8
    refine jx_ldc jwC_X10_62 dX10_road_32 ?_
    exact jx_iret dX10_road_34 rfl rfl (jle rfl) (jle rfl) ⟨_, rfl, h⟩
  replace h := h.2 c8
  refine jx_iload_n 1 dX10_road_18 rfl rfl ?_
  refine jx_iload_n 2 dX10_road_19 rfl rfl ?_
  refine jx_icmp_eq (tgt := 32) dX10_road_20 (by decide) (fun c9 => ?_) (fun c9 => ?_)
  · replace h := h.1 c9
    refine jx_ldc jwC_X10_62 dX10_road_32 ?_
    exact jx_iret dX10_road_34 rfl rfl (jle rfl) (jle rfl) ⟨_, rfl, h⟩
  replace h := h.2 c9
  refine jx_iload_n 3 dX10_road_23 rfl rfl ?_
  refine jx_bipush (v := 10) dX10_road_24 (by decide) ?_
  refine jx_callSi (M' := mX10_within) (As := [.int x3, .int 10]) jo_X10_within jwM_X10_58 jwS_X10_within dX10_road_26 (jRok_m _ _ _) rfl (jle rfl) ⟨jle rfl, jle rfl⟩ (c_X10_within (Q := fun v S' => v = (jwi x3 10) ∧ S = S') ⟨rfl, rfl⟩) (fun r10 S11 hq12 => ?_)
  obtain ⟨rfl, rfl⟩ := hq12
  refine jx_if_ne (tgt := 35) dX10_road_29 (by decide) (fun c13 => ?_) (fun c13 => ?_)
  · replace h := h.2 c13
    refine jx_aload_n 0 dX10_road_35 rfl rfl ?_
    obtain ⟨hk14, h⟩ := h
    obtain ⟨b15, hb15, h⟩ := h
    refine jx_getr jc_10 (j := 0) (by decide) rfl jwF_X10_12 dX10_road_36 hk14 hb15 ?_
    obtain ⟨hk16, h⟩ := h
    obtain ⟨b17, hb17, h⟩ := h
    refine jx_getr jc_3 (j := 1) (by decide) rfl jwF_X10_143 dX10_road_39 hk16 hb17 ?_
    refine jx_iload_n 1 dX10_road_42 rfl rfl ?_
    refine jx_iload_n 2 dX10_road_43 rfl rfl ?_
    obtain ⟨hk18, h⟩ := h
    refine jx_callVi (M' := mX4_direct) (As := [.int x1, .int x2]) jo_X4_direct jc_4 rfl jwM_X10_147 jwN_X4_direct jwX_X4_direct dX10_road_44 (jRok_m _ _ _) rfl (jle rfl) ⟨jle rfl, jle rfl⟩ hk18 h (fun r20 S19 h => ?_)
    refine jx_istore (lv1 := [(4, .int r20), (0, .ref a0), (1, .int x1), (2, .int x2), (3, .int x3)]) dX10_road_47 (by decide) rfl ?_
    refine jx_aload_n 1 dX10_road_49 rfl rfl ?_
    obtain ⟨hk21, h⟩ := h
    obtain ⟨b22, hb22, h⟩ := h
    refine jx_getr jc_10 (j := 0) (by decide) rfl jwF_X10_12 dX10_road_50 hk21 hb22 ?_
    obtain ⟨hk23, h⟩ := h
    obtain ⟨b24, hb24, h⟩ := h
    refine jx_getr jc_3 (j := 1) (by decide) rfl jwF_X10_143 dX10_road_53 hk23 hb24 ?_
    refine jx_iload_n 2 dX10_road_56 rfl rfl ?_
    refine jx_iload_n 3 dX10_road_57 rfl rfl ?_
    refine jx_iload_n 4 dX10_road_58 rfl rfl ?_
    obtain ⟨hk25, h⟩ := h
    refine jx_callVv (M' := mX4_build) (As := [.int x1, .int x2, .int x3]) jo_X4_build jc_4 rfl jwM_X10_153 jwN_X4_build jwX_X4_build dX10_road_59 (jRok_m _ _ _) rfl (jle rfl) ⟨jle rfl, jle rfl⟩ hk25 h (fun S26 h => ?_)
    refine jx_iload 0 dX10_road_62 rfl ?_
    exact jx_iret dX10_road_64 rfl rfl (jle rfl) (jle rfl) ⟨_, rfl, h⟩
  replace h := h.1 c13
  refine jx_ldc jwC_X10_62 dX10_road_32 ?_
  exact jx_iret dX10_road_34 rfl rfl (jle rfl) (jle rfl) ⟨_, rfl, h⟩
set_option maxRecDepth 100000 in
set_option maxHeartbeats 4000000 in
theorem T_X10_far {E : jEnv} {d : Nat} {Q : Int32 → jM → Prop} {a0 : Nat} {x1 : Int32} {x2 : Int32} {S : jM} (h : ((jwi x1 6) = 0 → Q (-1000000001) S) ∧ (¬ (jwi x1 6) = 0 → ((jwi x2 6) = 0 → Q (-1000000001) S) ∧ (¬ (jwi x2 6) = 0 → jk S a0 = 10 ∧ ∃ b10, jr S a0 0 = some b10 ∧ (jk S b10 = 3 ∧ ∃ b12, jr S b10 1 = some b12 ∧ (jk S b12 = 4 ∧ jFi E mX4_fewest d 0 0 [.ref b12, .int x1, .int x2] S (fun r15 S14 => (r15 = 9999 → Q (-1000000005) S14) ∧ (¬ r15 = 9999 → Q r15 S14))))))) : jFi E mX10_far (d + 1) 0 0 [.ref a0, .int x1, .int x2] S Q := by
  refine jF_of (by decide) (jle rfl) ?_
  refine jx_lv (lv1 := [(0, .ref a0), (1, .int x1), (2, .int x2)]) [0, 1, 2] rfl ?_
  refine jx_iload_n 1 dX10_far_0 rfl rfl ?_
  refine jx_bipush (v := 6) dX10_far_1 (by decide) ?_
  refine jx_callSi (M' := mX10_within) (As := [.int x1, .int 6]) jo_X10_within jwM_X10_58 jwS_X10_within dX10_far_3 (jRok_m _ _ _) rfl (jle rfl) ⟨jle rfl, jle rfl⟩ (c_X10_within (Q := fun v S' => v = (jwi x1 6) ∧ S = S') ⟨rfl, rfl⟩) (fun r1 S2 hq3 => ?_)
  obtain ⟨rfl, rfl⟩ := hq3
  refine jx_if_eq (tgt := 18) dX10_far_6 (by decide) (fun c4 => ?_) (fun c4 => ?_)
  · replace h := h.1 c4
    refine jx_ldc jwC_X10_62 dX10_far_18 ?_
    exact jx_iret dX10_far_20 rfl rfl (jle rfl) (jle rfl) ⟨_, rfl, h⟩
  replace h := h.2 c4
  refine jx_iload_n 2 dX10_far_9 rfl rfl ?_
  refine jx_bipush (v := 6) dX10_far_10 (by decide) ?_
  refine jx_callSi (M' := mX10_within) (As := [.int x2, .int 6]) jo_X10_within jwM_X10_58 jwS_X10_within dX10_far_12 (jRok_m _ _ _) rfl (jle rfl) ⟨jle rfl, jle rfl⟩ (c_X10_within (Q := fun v S' => v = (jwi x2 6) ∧ S = S') ⟨rfl, rfl⟩) (fun r5 S6 hq7 => ?_)
  obtain ⟨rfl, rfl⟩ := hq7
  refine jx_if_ne (tgt := 21) dX10_far_15 (by decide) (fun c8 => ?_) (fun c8 => ?_)
  · replace h := h.2 c8
    refine jx_aload_n 0 dX10_far_21 rfl rfl ?_
    obtain ⟨hk9, h⟩ := h
    obtain ⟨b10, hb10, h⟩ := h
    refine jx_getr jc_10 (j := 0) (by decide) rfl jwF_X10_12 dX10_far_22 hk9 hb10 ?_
    obtain ⟨hk11, h⟩ := h
    obtain ⟨b12, hb12, h⟩ := h
    refine jx_getr jc_3 (j := 1) (by decide) rfl jwF_X10_143 dX10_far_25 hk11 hb12 ?_
    refine jx_iload_n 1 dX10_far_28 rfl rfl ?_
    refine jx_iload_n 2 dX10_far_29 rfl rfl ?_
    obtain ⟨hk13, h⟩ := h
    refine jx_callVi (M' := mX4_fewest) (As := [.int x1, .int x2]) jo_X4_fewest jc_4 rfl jwM_X10_157 jwN_X4_fewest jwX_X4_fewest dX10_far_30 (jRok_m _ _ _) rfl (jle rfl) ⟨jle rfl, jle rfl⟩ hk13 h (fun r15 S14 h => ?_)
    refine jx_istore_n (lv1 := [(3, .int r15), (0, .ref a0), (1, .int x1), (2, .int x2)]) dX10_far_33 rfl (by decide) rfl ?_
    refine jx_iload_n 0 dX10_far_34 rfl rfl ?_
    refine jx_sipush (v := 9999) dX10_far_35 (by decide) ?_
    refine jx_icmp_ne (tgt := 46) dX10_far_38 (by decide) (fun c16 => ?_) (fun c16 => ?_)
    · replace h := h.2 c16
      refine jx_iload_n 0 dX10_far_46 rfl rfl ?_
      exact jx_iret dX10_far_47 rfl rfl (jle rfl) (jle rfl) ⟨_, rfl, h⟩
    replace h := h.1 c16
    refine jx_ldc jwC_X10_160 dX10_far_41 ?_
    refine jx_goto (tgt := 47) dX10_far_43 (by decide) ?_
    exact jx_iret dX10_far_47 rfl rfl (jle rfl) (jle rfl) ⟨_, rfl, h⟩
  replace h := h.1 c8
  refine jx_ldc jwC_X10_62 dX10_far_18 ?_
  exact jx_iret dX10_far_20 rfl rfl (jle rfl) (jle rfl) ⟨_, rfl, h⟩
/-- X10_deal at its loop's head 34 -/
abbrev L_X10_deal_34 (E : jEnv) (d : Nat) (Q : Int32 → jM → Prop) (a0 : Nat) (x2 : Int32) (x3 : Int32) (S : jM) : Prop := jX E mX10_deal (jRm (d + 1) 0 0) (jZm E (fun r S' => ∃ v : Int32, r = some (.int v) ∧ Q v S') 0 0) 34 [(0, .ref a0), (2, .int x2), (3, .int x3)] [] S 0 0
set_option maxRecDepth 100000 in
set_option maxHeartbeats 4000000 in
theorem T_X10_deal {E : jEnv} {d : Nat} {Q : Int32 → jM → Prop} {a0 : Nat} {x1 : Int32} {S : jM} (h : (x1 < 1 → Q (-1000000001) S) ∧ (¬ x1 < 1 → (x1 ≤ 9 → jk S a0 = 10 ∧ ∃ b4, jr S a0 0 = some b4 ∧ (jk S b4 = 3 ∧ ∃ b6, jr S b4 0 = some b6 ∧ (jk S b6 = 0 ∧ L_X10_deal_34 E d Q a0 (jmin x1 (9 - (ji S b6 1))) 0 S))) ∧ (¬ x1 ≤ 9 → Q (-1000000001) S))) : jFi E mX10_deal (d + 1) 0 0 [.ref a0, .int x1] S Q := by
  refine jF_of (by decide) (jle rfl) ?_
  refine jx_lv (lv1 := [(0, .ref a0), (1, .int x1)]) [0, 1] rfl ?_
  refine jx_iload_n 1 dX10_deal_0 rfl rfl ?_
  refine jx_iconst (v := 1) dX10_deal_1 (by decide) ?_
  refine jx_icmp_lt (tgt := 11) dX10_deal_2 (by decide) (fun c1 => ?_) (fun c1 => ?_)
  · replace h := h.1 c1
    refine jx_ldc jwC_X10_62 dX10_deal_11 ?_
    exact jx_iret dX10_deal_13 rfl rfl (jle rfl) (jle rfl) ⟨_, rfl, h⟩
  replace h := h.2 c1
  refine jx_iload_n 1 dX10_deal_5 rfl rfl ?_
  refine jx_bipush (v := 9) dX10_deal_6 (by decide) ?_
  refine jx_icmp_le (tgt := 14) dX10_deal_8 (by decide) (fun c2 => ?_) (fun c2 => ?_)
  · replace h := h.1 c2
    refine jx_iload_n 1 dX10_deal_14 rfl rfl ?_
    refine jx_bipush (v := 9) dX10_deal_15 (by decide) ?_
    refine jx_aload_n 0 dX10_deal_17 rfl rfl ?_
    obtain ⟨hk3, h⟩ := h
    obtain ⟨b4, hb4, h⟩ := h
    refine jx_getr jc_10 (j := 0) (by decide) rfl jwF_X10_12 dX10_deal_18 hk3 hb4 ?_
    obtain ⟨hk5, h⟩ := h
    obtain ⟨b6, hb6, h⟩ := h
    refine jx_getr jc_3 (j := 0) (by decide) rfl jwF_X10_63 dX10_deal_21 hk5 hb6 ?_
    obtain ⟨hk7, h⟩ := h
    refine jx_geti jc_0 (j := 1) (by decide) rfl jwF_X10_66 dX10_deal_24 hk7 ?_
    refine jx_isub dX10_deal_27 ?_
    refine jx_min jwM_X10_161 jwS_min jwZ_J9 jwO_min dX10_deal_28 (jRok_m _ _ _) (jle rfl) ⟨Nat.zero_le _, Nat.zero_le _⟩ ?_
    refine jx_istore_n (lv1 := [(2, .int (jmin x1 (9 - (ji S b6 1)))), (0, .ref a0), (1, .int x1)]) dX10_deal_31 rfl (by decide) rfl ?_
    refine jx_iconst (v := 0) dX10_deal_32 (by decide) ?_
    refine jx_istore_n (lv1 := [(3, .int 0), (2, .int (jmin x1 (9 - (ji S b6 1)))), (0, .ref a0), (1, .int x1)]) dX10_deal_33 rfl (by decide) rfl ?_
    exact jx_lv [2, 1, 0] rfl h
  replace h := h.2 c2
  refine jx_ldc jwC_X10_62 dX10_deal_11 ?_
  exact jx_iret dX10_deal_13 rfl rfl (jle rfl) (jle rfl) ⟨_, rfl, h⟩
set_option maxRecDepth 100000 in
set_option maxHeartbeats 4000000 in
theorem T_X10_deal_34 {E : jEnv} {d : Nat} {Q : Int32 → jM → Prop} {a0 : Nat} {x2 : Int32} {x3 : Int32} {S : jM} (h : (x2 ≤ x3 → Q x2 S) ∧ (¬ x2 ≤ x3 → jk S a0 = 10 ∧ ∃ b10, jr S a0 0 = some b10 ∧ (jk S b10 = 3 ∧ ∃ b12, jr S b10 0 = some b12 ∧ (jk S b12 = 0 ∧ jFv E mX0_joinByLot d 0 0 [.ref b12] S (fun S14 => L_X10_deal_34 E d Q a0 x2 (x3 + 1) S14))))) : L_X10_deal_34 E d Q a0 x2 x3 S := by
  show jX E mX10_deal (jRm (d + 1) 0 0) (jZm E (fun r S' => ∃ v : Int32, r = some (.int v) ∧ Q v S') 0 0) 34 [(0, .ref a0), (2, .int x2), (3, .int x3)] [] S 0 0
  refine jx_iload_n 2 dX10_deal_34 rfl rfl ?_
  refine jx_iload_n 1 dX10_deal_35 rfl rfl ?_
  refine jx_icmp_ge (tgt := 55) dX10_deal_36 (by decide) (fun c8 => ?_) (fun c8 => ?_)
  · replace h := h.1 c8
    refine jx_iload_n 1 dX10_deal_55 rfl rfl ?_
    exact jx_iret dX10_deal_56 rfl rfl (jle rfl) (jle rfl) ⟨_, rfl, h⟩
  replace h := h.2 c8
  refine jx_aload_n 0 dX10_deal_39 rfl rfl ?_
  obtain ⟨hk9, h⟩ := h
  obtain ⟨b10, hb10, h⟩ := h
  refine jx_getr jc_10 (j := 0) (by decide) rfl jwF_X10_12 dX10_deal_40 hk9 hb10 ?_
  obtain ⟨hk11, h⟩ := h
  obtain ⟨b12, hb12, h⟩ := h
  refine jx_getr jc_3 (j := 0) (by decide) rfl jwF_X10_63 dX10_deal_43 hk11 hb12 ?_
  obtain ⟨hk13, h⟩ := h
  refine jx_callVv (M' := mX0_joinByLot) (As := []) jo_X0_joinByLot jc_0 rfl jwM_X10_166 jwN_X0_joinByLot jwX_X0_joinByLot dX10_deal_46 (jRok_m _ _ _) rfl (jle rfl) ⟨jle rfl, jle rfl⟩ hk13 h (fun S14 h => ?_)
  refine jx_iinc 2 (v := (x3 + 1)) (lv1 := [(3, .int (x3 + 1)), (0, .ref a0), (2, .int x2)]) kd48.1 rfl rfl (by decide) rfl ?_
  refine jx_goto (tgt := 34) kd48.2 (by decide) ?_
  exact jx_lv [1, 2, 0] rfl h
set_option maxRecDepth 100000 in
set_option maxHeartbeats 4000000 in
theorem T_X10_seed {E : jEnv} {d : Nat} {Q : Int32 → jM → Prop} {a0 : Nat} {x1 : Int32} {S : jM} (h : jk S a0 = 10 ∧ ∃ b2, jr S a0 0 = some b2 ∧ (jk S b2 = 3 ∧ ∃ b4, jr S b2 0 = some b4 ∧ (jk S b4 = 0 ∧ Q (ji S b4 2) (jput S b4 2 x1)))) : jFi E mX10_seed d 0 0 [.ref a0, .int x1] S Q := by
  refine jF_of (by decide) (jle rfl) ?_
  refine jx_lv (lv1 := [(0, .ref a0), (1, .int x1)]) [0, 1] rfl ?_
  refine jx_aload_n 0 dX10_seed_0 rfl rfl ?_
  obtain ⟨hk1, h⟩ := h
  obtain ⟨b2, hb2, h⟩ := h
  refine jx_getr jc_10 (j := 0) (by decide) rfl jwF_X10_12 dX10_seed_1 hk1 hb2 ?_
  obtain ⟨hk3, h⟩ := h
  obtain ⟨b4, hb4, h⟩ := h
  refine jx_getr jc_3 (j := 0) (by decide) rfl jwF_X10_63 dX10_seed_4 hk3 hb4 ?_
  obtain ⟨hk5, h⟩ := h
  refine jx_geti jc_0 (j := 2) (by decide) rfl jwF_X10_169 dX10_seed_7 hk5 ?_
  refine jx_istore_n (lv1 := [(2, .int (ji S b4 2)), (0, .ref a0), (1, .int x1)]) dX10_seed_10 rfl (by decide) rfl ?_
  refine jx_aload_n 1 dX10_seed_11 rfl rfl ?_
  refine jx_getr jc_10 (j := 0) (by decide) rfl jwF_X10_12 dX10_seed_12 hk1 hb2 ?_
  refine jx_getr jc_3 (j := 0) (by decide) rfl jwF_X10_63 dX10_seed_15 hk3 hb4 ?_
  refine jx_iload_n 2 dX10_seed_18 rfl rfl ?_
  refine jx_puti jc_0 (j := 2) (by decide) rfl jwF_X10_169 rfl rfl rfl dX10_seed_19 hk5 ?_
  refine jx_iload_n 0 dX10_seed_22 rfl rfl ?_
  exact jx_iret dX10_seed_23 rfl rfl (jle rfl) (jle rfl) ⟨_, rfl, h⟩
set_option maxRecDepth 100000 in
set_option maxHeartbeats 4000000 in
theorem T_X10_apprentice {E : jEnv} {d : Nat} {Q : Int32 → jM → Prop} {a0 : Nat} {x1 : Int32} {S : jM} (h : (x1 = 0 → jk S a0 = 10 ∧ ∃ b3, jr S a0 0 = some b3 ∧ (jk S b3 = 3 ∧ ∃ b5, jr S b3 2 = some b5 ∧ (jk S b5 = 1 ∧ Q (ji S b5 0) S))) ∧ (x1 = 1 → jk S a0 = 10 ∧ ∃ b9, jr S a0 0 = some b9 ∧ (jk S b9 = 3 ∧ ∃ b11, jr S b9 2 = some b11 ∧ (jk S b11 = 1 ∧ Q (ji S b11 1) S))) ∧ (x1 = 2 → jk S a0 = 10 ∧ ∃ b15, jr S a0 0 = some b15 ∧ (jk S b15 = 3 ∧ ∃ b17, jr S b15 2 = some b17 ∧ (jk S b17 = 1 ∧ Q (ji S b17 2) S))) ∧ (x1 = 3 → jk S a0 = 10 ∧ ∃ b21, jr S a0 0 = some b21 ∧ (jk S b21 = 3 ∧ ∃ b23, jr S b21 2 = some b23 ∧ (jk S b23 = 1 ∧ Q (ji S b23 3) S))) ∧ (¬ x1 = 0 → ¬ x1 = 1 → ¬ x1 = 2 → ¬ x1 = 3 → Q (-1000000001) S)) : jFi E mX10_apprentice d 0 0 [.ref a0, .int x1] S Q := by
  refine jF_of (by decide) (jle rfl) ?_
  refine jx_lv (lv1 := [(0, .ref a0), (1, .int x1)]) [0, 1] rfl ?_
  refine jx_iload_n 1 dX10_apprentice_0 rfl rfl ?_
  by_cases c1 : x1 = 0
  · replace h := h.1 c1
    refine jx_tableIn (v := 0) (tgt := 32) (off := 31) kd49 c1 (by decide) (by decide) (by decide) (by decide) ?_
    refine jx_aload_n 0 dX10_apprentice_32 rfl rfl ?_
    obtain ⟨hk2, h⟩ := h
    obtain ⟨b3, hb3, h⟩ := h
    refine jx_getr jc_10 (j := 0) (by decide) rfl jwF_X10_12 dX10_apprentice_33 hk2 hb3 ?_
    obtain ⟨hk4, h⟩ := h
    obtain ⟨b5, hb5, h⟩ := h
    refine jx_getr jc_3 (j := 2) (by decide) rfl jwF_X10_79 dX10_apprentice_36 hk4 hb5 ?_
    obtain ⟨hk6, h⟩ := h
    refine jx_geti jc_1 (j := 0) (by decide) rfl jwF_X10_172 dX10_apprentice_39 hk6 ?_
    exact jx_iret dX10_apprentice_42 rfl rfl (jle rfl) (jle rfl) ⟨_, rfl, h⟩
  replace h := h.2
  by_cases c7 : x1 = 1
  · replace h := h.1 c7
    refine jx_tableIn (v := 1) (tgt := 43) (off := 42) kd49 c7 (by decide) (by decide) (by decide) (by decide) ?_
    refine jx_aload_n 0 dX10_apprentice_43 rfl rfl ?_
    obtain ⟨hk8, h⟩ := h
    obtain ⟨b9, hb9, h⟩ := h
    refine jx_getr jc_10 (j := 0) (by decide) rfl jwF_X10_12 dX10_apprentice_44 hk8 hb9 ?_
    obtain ⟨hk10, h⟩ := h
    obtain ⟨b11, hb11, h⟩ := h
    refine jx_getr jc_3 (j := 2) (by decide) rfl jwF_X10_79 dX10_apprentice_47 hk10 hb11 ?_
    obtain ⟨hk12, h⟩ := h
    refine jx_geti jc_1 (j := 1) (by decide) rfl jwF_X10_107 dX10_apprentice_50 hk12 ?_
    exact jx_iret dX10_apprentice_53 rfl rfl (jle rfl) (jle rfl) ⟨_, rfl, h⟩
  replace h := h.2
  by_cases c13 : x1 = 2
  · replace h := h.1 c13
    refine jx_tableIn (v := 2) (tgt := 54) (off := 53) kd49 c13 (by decide) (by decide) (by decide) (by decide) ?_
    refine jx_aload_n 0 dX10_apprentice_54 rfl rfl ?_
    obtain ⟨hk14, h⟩ := h
    obtain ⟨b15, hb15, h⟩ := h
    refine jx_getr jc_10 (j := 0) (by decide) rfl jwF_X10_12 dX10_apprentice_55 hk14 hb15 ?_
    obtain ⟨hk16, h⟩ := h
    obtain ⟨b17, hb17, h⟩ := h
    refine jx_getr jc_3 (j := 2) (by decide) rfl jwF_X10_79 dX10_apprentice_58 hk16 hb17 ?_
    obtain ⟨hk18, h⟩ := h
    refine jx_geti jc_1 (j := 2) (by decide) rfl jwF_X10_175 dX10_apprentice_61 hk18 ?_
    exact jx_iret dX10_apprentice_64 rfl rfl (jle rfl) (jle rfl) ⟨_, rfl, h⟩
  replace h := h.2
  by_cases c19 : x1 = 3
  · replace h := h.1 c19
    refine jx_tableIn (v := 3) (tgt := 65) (off := 64) kd49 c19 (by decide) (by decide) (by decide) (by decide) ?_
    refine jx_aload_n 0 dX10_apprentice_65 rfl rfl ?_
    obtain ⟨hk20, h⟩ := h
    obtain ⟨b21, hb21, h⟩ := h
    refine jx_getr jc_10 (j := 0) (by decide) rfl jwF_X10_12 dX10_apprentice_66 hk20 hb21 ?_
    obtain ⟨hk22, h⟩ := h
    obtain ⟨b23, hb23, h⟩ := h
    refine jx_getr jc_3 (j := 2) (by decide) rfl jwF_X10_79 dX10_apprentice_69 hk22 hb23 ?_
    obtain ⟨hk24, h⟩ := h
    refine jx_geti jc_1 (j := 3) (by decide) rfl jwF_X10_178 dX10_apprentice_72 hk24 ?_
    exact jx_iret dX10_apprentice_75 rfl rfl (jle rfl) (jle rfl) ⟨_, rfl, h⟩
  replace h := h.2
  replace h := h c1 c7 c13 c19
  refine jx_tableD (tgt := 76) ([0, 1, 2, 3] : List Int) kd49 (by simp only [List.mem_cons, List.not_mem_nil, or_false, forall_eq_or_imp, forall_eq]; exact ⟨lv_neT c1 (by decide), lv_neT c7 (by decide), lv_neT c13 (by decide), lv_neT c19 (by decide)⟩) (by decide) (by decide) (by decide) ?_
  refine jx_ldc jwC_X10_62 dX10_apprentice_76 ?_
  exact jx_iret dX10_apprentice_78 rfl rfl (jle rfl) (jle rfl) ⟨_, rfl, h⟩
set_option maxRecDepth 100000 in
set_option maxHeartbeats 4000000 in
theorem T_X10_has {E : jEnv} {d : Nat} {Q : Int32 → jM → Prop} {a0 : Nat} {x1 : Int32} {x2 : Int32} {S : jM} (h : jk S a0 = 10 ∧ ∃ b2, jr S a0 0 = some b2 ∧ (jk S b2 = 3 ∧ ∃ b4, jr S b2 2 = some b4 ∧ ((x1 = 2 → ((jwi x2 10000) = 0 → (x1 = 3 → ((jwi x2 100) = 0 → Q (-1000000001) S) ∧ (¬ (jwi x2 100) = 0 → jk S b4 = 1 ∧ Q (ji S b4 3) (jput S b4 3 x2))) ∧ (¬ x1 = 3 → Q (-1000000001) S)) ∧ (¬ (jwi x2 10000) = 0 → jk S b4 = 1 ∧ Q (ji S b4 2) (jput S b4 2 x2))) ∧ (¬ x1 = 2 → (x1 = 3 → ((jwi x2 100) = 0 → Q (-1000000001) S) ∧ (¬ (jwi x2 100) = 0 → jk S b4 = 1 ∧ Q (ji S b4 3) (jput S b4 3 x2))) ∧ (¬ x1 = 3 → Q (-1000000001) S))))) : jFi E mX10_has (d + 1) 0 0 [.ref a0, .int x1, .int x2] S Q := by
  refine jF_of (by decide) (jle rfl) ?_
  refine jx_lv (lv1 := [(0, .ref a0), (1, .int x1), (2, .int x2)]) [0, 1, 2] rfl ?_
  refine jx_aload_n 0 dX10_has_0 rfl rfl ?_
  obtain ⟨hk1, h⟩ := h
  obtain ⟨b2, hb2, h⟩ := h
  refine jx_getr jc_10 (j := 0) (by decide) rfl jwF_X10_12 dX10_has_1 hk1 hb2 ?_
  obtain ⟨hk3, h⟩ := h
  obtain ⟨b4, hb4, h⟩ := h
  refine jx_getr jc_3 (j := 2) (by decide) rfl jwF_X10_79 dX10_has_4 hk3 hb4 ?_
  refine jx_astore_n (lv1 := [(3, .ref b4), (0, .ref a0), (1, .int x1), (2, .int x2)]) dX10_has_7 rfl (by decide) rfl ?_
  refine jx_iload_n 2 dX10_has_8 rfl rfl ?_
  refine jx_iconst (v := 2) dX10_has_9 (by decide) ?_
  refine jx_icmp_ne (tgt := 37) dX10_has_10 (by decide) (fun c5 => ?_) (fun c5 => ?_)
  · replace h := h.2 c5
    refine jx_iload_n 2 dX10_has_37 rfl rfl ?_
    refine jx_iconst (v := 3) dX10_has_38 (by decide) ?_
    refine jx_icmp_ne (tgt := 65) dX10_has_39 (by decide) (fun c6 => ?_) (fun c6 => ?_)
    · replace h := h.2 c6
      refine jx_ldc jwC_X10_62 dX10_has_65 ?_
      exact jx_iret dX10_has_67 rfl rfl (jle rfl) (jle rfl) ⟨_, rfl, h⟩
    replace h := h.1 c6
    refine jx_iload_n 3 dX10_has_42 rfl rfl ?_
    refine jx_bipush (v := 100) dX10_has_43 (by decide) ?_
    refine jx_callSi (M' := mX10_within) (As := [.int x2, .int 100]) jo_X10_within jwM_X10_58 jwS_X10_within dX10_has_45 (jRok_m _ _ _) rfl (jle rfl) ⟨jle rfl, jle rfl⟩ (c_X10_within (Q := fun v S' => v = (jwi x2 100) ∧ S = S') ⟨rfl, rfl⟩) (fun r7 S8 hq9 => ?_)
    obtain ⟨rfl, rfl⟩ := hq9
    refine jx_if_eq (tgt := 65) dX10_has_48 (by decide) (fun c10 => ?_) (fun c10 => ?_)
    · replace h := h.1 c10
      refine jx_ldc jwC_X10_62 dX10_has_65 ?_
      exact jx_iret dX10_has_67 rfl rfl (jle rfl) (jle rfl) ⟨_, rfl, h⟩
    replace h := h.2 c10
    refine jx_aload_n 0 dX10_has_51 rfl rfl ?_
    obtain ⟨hk11, h⟩ := h
    refine jx_geti jc_1 (j := 3) (by decide) rfl jwF_X10_178 dX10_has_52 hk11 ?_
    refine jx_istore (lv1 := [(4, .int (ji S b4 3)), (3, .ref b4), (0, .ref a0), (1, .int x1), (2, .int x2)]) dX10_has_55 (by decide) rfl ?_
    refine jx_aload_n 1 dX10_has_57 rfl rfl ?_
    refine jx_iload_n 4 dX10_has_58 rfl rfl ?_
    refine jx_puti jc_1 (j := 3) (by decide) rfl jwF_X10_178 rfl rfl rfl dX10_has_59 hk11 ?_
    refine jx_iload 0 dX10_has_62 rfl ?_
    exact jx_iret dX10_has_64 rfl rfl (jle rfl) (jle rfl) ⟨_, rfl, h⟩
  replace h := h.1 c5
  refine jx_iload_n 3 dX10_has_13 rfl rfl ?_
  refine jx_sipush (v := 10000) dX10_has_14 (by decide) ?_
  refine jx_callSi (M' := mX10_within) (As := [.int x2, .int 10000]) jo_X10_within jwM_X10_58 jwS_X10_within dX10_has_17 (jRok_m _ _ _) rfl (jle rfl) ⟨jle rfl, jle rfl⟩ (c_X10_within (Q := fun v S' => v = (jwi x2 10000) ∧ S = S') ⟨rfl, rfl⟩) (fun r12 S13 hq14 => ?_)
  obtain ⟨rfl, rfl⟩ := hq14
  refine jx_if_eq (tgt := 37) dX10_has_20 (by decide) (fun c15 => ?_) (fun c15 => ?_)
  · replace h := h.1 c15
    refine jx_iload_n 2 dX10_has_37 rfl rfl ?_
    refine jx_iconst (v := 3) dX10_has_38 (by decide) ?_
    refine jx_icmp_ne (tgt := 65) dX10_has_39 (by decide) (fun c16 => ?_) (fun c16 => ?_)
    · replace h := h.2 c16
      refine jx_ldc jwC_X10_62 dX10_has_65 ?_
      exact jx_iret dX10_has_67 rfl rfl (jle rfl) (jle rfl) ⟨_, rfl, h⟩
    replace h := h.1 c16
    refine jx_iload_n 3 dX10_has_42 rfl rfl ?_
    refine jx_bipush (v := 100) dX10_has_43 (by decide) ?_
    refine jx_callSi (M' := mX10_within) (As := [.int x2, .int 100]) jo_X10_within jwM_X10_58 jwS_X10_within dX10_has_45 (jRok_m _ _ _) rfl (jle rfl) ⟨jle rfl, jle rfl⟩ (c_X10_within (Q := fun v S' => v = (jwi x2 100) ∧ S = S') ⟨rfl, rfl⟩) (fun r17 S18 hq19 => ?_)
    obtain ⟨rfl, rfl⟩ := hq19
    refine jx_if_eq (tgt := 65) dX10_has_48 (by decide) (fun c20 => ?_) (fun c20 => ?_)
    · replace h := h.1 c20
      refine jx_ldc jwC_X10_62 dX10_has_65 ?_
      exact jx_iret dX10_has_67 rfl rfl (jle rfl) (jle rfl) ⟨_, rfl, h⟩
    replace h := h.2 c20
    refine jx_aload_n 0 dX10_has_51 rfl rfl ?_
    obtain ⟨hk21, h⟩ := h
    refine jx_geti jc_1 (j := 3) (by decide) rfl jwF_X10_178 dX10_has_52 hk21 ?_
    refine jx_istore (lv1 := [(4, .int (ji S b4 3)), (3, .ref b4), (0, .ref a0), (1, .int x1), (2, .int x2)]) dX10_has_55 (by decide) rfl ?_
    refine jx_aload_n 1 dX10_has_57 rfl rfl ?_
    refine jx_iload_n 4 dX10_has_58 rfl rfl ?_
    refine jx_puti jc_1 (j := 3) (by decide) rfl jwF_X10_178 rfl rfl rfl dX10_has_59 hk21 ?_
    refine jx_iload 0 dX10_has_62 rfl ?_
    exact jx_iret dX10_has_64 rfl rfl (jle rfl) (jle rfl) ⟨_, rfl, h⟩
  replace h := h.2 c15
  refine jx_aload_n 0 dX10_has_23 rfl rfl ?_
  obtain ⟨hk22, h⟩ := h
  refine jx_geti jc_1 (j := 2) (by decide) rfl jwF_X10_175 dX10_has_24 hk22 ?_
  refine jx_istore (lv1 := [(4, .int (ji S b4 2)), (3, .ref b4), (0, .ref a0), (1, .int x1), (2, .int x2)]) dX10_has_27 (by decide) rfl ?_
  refine jx_aload_n 1 dX10_has_29 rfl rfl ?_
  refine jx_iload_n 4 dX10_has_30 rfl rfl ?_
  refine jx_puti jc_1 (j := 2) (by decide) rfl jwF_X10_175 rfl rfl rfl dX10_has_31 hk22 ?_
  refine jx_iload 0 dX10_has_34 rfl ?_
  exact jx_iret dX10_has_36 rfl rfl (jle rfl) (jle rfl) ⟨_, rfl, h⟩
set_option maxRecDepth 100000 in
set_option maxHeartbeats 4000000 in
theorem T_X10_knows {E : jEnv} {d : Nat} {Q : Int32 → jM → Prop} {a0 : Nat} {x1 : Int32} {x2 : Int32} {S : jM} (h : ((jwi x1 10) = 0 → Q (-1000000001) S) ∧ (¬ (jwi x1 10) = 0 → ((jwi x2 2) = 0 → Q (-1000000001) S) ∧ (¬ (jwi x2 2) = 0 → jk S a0 = 10 ∧ ∃ b10, jr S a0 0 = some b10 ∧ (jk S b10 = 3 ∧ ∃ b12, jr S b10 2 = some b12 ∧ (jk S b12 = 1 ∧ jFi E mX1_isAble d 0 0 [.ref b12, .int x1] S (fun r15 S14 => (r15 = 0 → Q (-1000000002) S14) ∧ (¬ r15 = 0 → (x2 = 0 → jk S14 b12 = 1 ∧ ∃ b23, jr S14 b12 5 = some b23 ∧ (jk S14 b23 = 12 ∧ vp_in x1 (jl S14 b23) ∧ (Q (ji S14 b23 (Int32.toNatClampNeg x1)) S14))) ∧ (¬ x2 = 0 → jk S14 b12 = 1 ∧ ∃ b19, jr S14 b12 6 = some b19 ∧ (jk S14 b19 = 12 ∧ vp_in x1 (jl S14 b19) ∧ (Q (ji S14 b19 (Int32.toNatClampNeg x1)) S14)))))))))) : jFi E mX10_knows (d + 1) 0 0 [.ref a0, .int x1, .int x2] S Q := by
  refine jF_of (by decide) (jle rfl) ?_
  refine jx_lv (lv1 := [(0, .ref a0), (1, .int x1), (2, .int x2)]) [0, 1, 2] rfl ?_
  refine jx_iload_n 1 dX10_knows_0 rfl rfl ?_
  refine jx_bipush (v := 10) dX10_knows_1 (by decide) ?_
  refine jx_callSi (M' := mX10_within) (As := [.int x1, .int 10]) jo_X10_within jwM_X10_58 jwS_X10_within dX10_knows_3 (jRok_m _ _ _) rfl (jle rfl) ⟨jle rfl, jle rfl⟩ (c_X10_within (Q := fun v S' => v = (jwi x1 10) ∧ S = S') ⟨rfl, rfl⟩) (fun r1 S2 hq3 => ?_)
  obtain ⟨rfl, rfl⟩ := hq3
  refine jx_if_eq (tgt := 17) dX10_knows_6 (by decide) (fun c4 => ?_) (fun c4 => ?_)
  · replace h := h.1 c4
    refine jx_ldc jwC_X10_62 dX10_knows_17 ?_
    exact jx_iret dX10_knows_19 rfl rfl (jle rfl) (jle rfl) ⟨_, rfl, h⟩
  replace h := h.2 c4
  refine jx_iload_n 2 dX10_knows_9 rfl rfl ?_
  refine jx_iconst (v := 2) dX10_knows_10 (by decide) ?_
  refine jx_callSi (M' := mX10_within) (As := [.int x2, .int 2]) jo_X10_within jwM_X10_58 jwS_X10_within dX10_knows_11 (jRok_m _ _ _) rfl (jle rfl) ⟨jle rfl, jle rfl⟩ (c_X10_within (Q := fun v S' => v = (jwi x2 2) ∧ S = S') ⟨rfl, rfl⟩) (fun r5 S6 hq7 => ?_)
  obtain ⟨rfl, rfl⟩ := hq7
  refine jx_if_ne (tgt := 20) dX10_knows_14 (by decide) (fun c8 => ?_) (fun c8 => ?_)
  · replace h := h.2 c8
    refine jx_aload_n 0 dX10_knows_20 rfl rfl ?_
    obtain ⟨hk9, h⟩ := h
    obtain ⟨b10, hb10, h⟩ := h
    refine jx_getr jc_10 (j := 0) (by decide) rfl jwF_X10_12 dX10_knows_21 hk9 hb10 ?_
    obtain ⟨hk11, h⟩ := h
    obtain ⟨b12, hb12, h⟩ := h
    refine jx_getr jc_3 (j := 2) (by decide) rfl jwF_X10_79 dX10_knows_24 hk11 hb12 ?_
    refine jx_astore_n (lv1 := [(3, .ref b12), (0, .ref a0), (1, .int x1), (2, .int x2)]) dX10_knows_27 rfl (by decide) rfl ?_
    refine jx_aload_n 0 dX10_knows_28 rfl rfl ?_
    refine jx_iload_n 2 dX10_knows_29 rfl rfl ?_
    obtain ⟨hk13, h⟩ := h
    refine jx_callVi (M' := mX1_isAble) (As := [.int x1]) jo_X1_isAble jc_1 rfl jwM_X10_181 jwN_X1_isAble jwX_X1_isAble dX10_knows_30 (jRok_m _ _ _) rfl (jle rfl) ⟨jle rfl, jle rfl⟩ hk13 h (fun r15 S14 h => ?_)
    refine jx_if_ne (tgt := 39) dX10_knows_33 (by decide) (fun c16 => ?_) (fun c16 => ?_)
    · replace h := h.2 c16
      refine jx_iload_n 3 dX10_knows_39 rfl rfl ?_
      refine jx_if_ne (tgt := 52) dX10_knows_40 (by decide) (fun c17 => ?_) (fun c17 => ?_)
      · replace h := h.2 c17
        refine jx_aload_n 0 dX10_knows_52 rfl rfl ?_
        obtain ⟨hk18, h⟩ := h
        obtain ⟨b19, hb19, h⟩ := h
        refine jx_getr jc_1 (j := 6) (by decide) rfl jwF_X10_188 dX10_knows_53 hk18 hb19 ?_
        refine jx_iload_n 2 dX10_knows_56 rfl rfl ?_
        obtain ⟨hk20, h⟩ := h
        obtain ⟨hi21, h⟩ := h
        refine jx_iald dX10_knows_57 hk20 hi21 ?_
        exact jx_iret dX10_knows_58 rfl rfl (jle rfl) (jle rfl) ⟨_, rfl, h⟩
      replace h := h.1 c17
      refine jx_aload_n 0 dX10_knows_43 rfl rfl ?_
      obtain ⟨hk22, h⟩ := h
      obtain ⟨b23, hb23, h⟩ := h
      refine jx_getr jc_1 (j := 5) (by decide) rfl jwF_X10_185 dX10_knows_44 hk22 hb23 ?_
      refine jx_iload_n 2 dX10_knows_47 rfl rfl ?_
      obtain ⟨hk24, h⟩ := h
      obtain ⟨hi25, h⟩ := h
      refine jx_iald dX10_knows_48 hk24 hi25 ?_
      refine jx_goto (tgt := 58) dX10_knows_49 (by decide) ?_
      exact jx_iret dX10_knows_58 rfl rfl (jle rfl) (jle rfl) ⟨_, rfl, h⟩
    replace h := h.1 c16
    refine jx_ldc jwC_X10_184 dX10_knows_36 ?_
    exact jx_iret dX10_knows_38 rfl rfl (jle rfl) (jle rfl) ⟨_, rfl, h⟩
  replace h := h.1 c8
  refine jx_ldc jwC_X10_62 dX10_knows_17 ?_
  exact jx_iret dX10_knows_19 rfl rfl (jle rfl) (jle rfl) ⟨_, rfl, h⟩
set_option maxRecDepth 100000 in
set_option maxHeartbeats 4000000 in
theorem T_X10_go {E : jEnv} {d : Nat} {Q : Int32 → jM → Prop} {a0 : Nat} {x1 : Int32} {S : jM} (h : jk S a0 = 10 ∧ ∃ b2, jr S a0 0 = some b2 ∧ (jk S b2 = 3 ∧ ∃ b4, jr S b2 2 = some b4 ∧ (((jwi x1 6) = 0 → Q (-1000000001) S) ∧ (¬ (jwi x1 6) = 0 → jk S b4 = 1 ∧ (x1 = (ji S b4 0) → Q (-1000000001) S) ∧ (¬ x1 = (ji S b4 0) → ∃ b11, jr S b2 1 = some b11 ∧ (jk S b11 = 4 ∧ jFi E mX4_direct d 0 0 [.ref b11, .int (ji S b4 0), .int x1] S (fun r14 S13 => (r14 = 0 → Q (-1000000002) S13) ∧ (¬ r14 = 0 → jk S13 b4 = 1 ∧ jFv E mX1_passDays d 0 0 [.ref b4, .int r14] S13 (fun S17 => jk S17 b4 = 1 ∧ Q (ji S17 b4 4) (jput S17 b4 0 x1)))))))))) : jFi E mX10_go (d + 1) 0 0 [.ref a0, .int x1] S Q := by
  refine jF_of (by decide) (jle rfl) ?_
  refine jx_lv (lv1 := [(0, .ref a0), (1, .int x1)]) [0, 1] rfl ?_
  refine jx_aload_n 0 dX10_go_0 rfl rfl ?_
  obtain ⟨hk1, h⟩ := h
  obtain ⟨b2, hb2, h⟩ := h
  refine jx_getr jc_10 (j := 0) (by decide) rfl jwF_X10_12 dX10_go_1 hk1 hb2 ?_
  obtain ⟨hk3, h⟩ := h
  obtain ⟨b4, hb4, h⟩ := h
  refine jx_getr jc_3 (j := 2) (by decide) rfl jwF_X10_79 dX10_go_4 hk3 hb4 ?_
  refine jx_astore_n (lv1 := [(2, .ref b4), (0, .ref a0), (1, .int x1)]) dX10_go_7 rfl (by decide) rfl ?_
  refine jx_iload_n 2 dX10_go_8 rfl rfl ?_
  refine jx_bipush (v := 6) dX10_go_9 (by decide) ?_
  refine jx_callSi (M' := mX10_within) (As := [.int x1, .int 6]) jo_X10_within jwM_X10_58 jwS_X10_within dX10_go_11 (jRok_m _ _ _) rfl (jle rfl) ⟨jle rfl, jle rfl⟩ (c_X10_within (Q := fun v S' => v = (jwi x1 6) ∧ S = S') ⟨rfl, rfl⟩) (fun r5 S6 hq7 => ?_)
  obtain ⟨rfl, rfl⟩ := hq7
  refine jx_if_eq (tgt := 25) dX10_go_14 (by decide) (fun c8 => ?_) (fun c8 => ?_)
  · replace h := h.1 c8
    refine jx_ldc jwC_X10_62 dX10_go_25 ?_
    exact jx_iret dX10_go_27 rfl rfl (jle rfl) (jle rfl) ⟨_, rfl, h⟩
  replace h := h.2 c8
  refine jx_iload_n 2 dX10_go_17 rfl rfl ?_
  refine jx_aload_n 0 dX10_go_18 rfl rfl ?_
  obtain ⟨hk9, h⟩ := h
  refine jx_geti jc_1 (j := 0) (by decide) rfl jwF_X10_172 dX10_go_19 hk9 ?_
  refine jx_icmp_ne (tgt := 28) dX10_go_22 (by decide) (fun c10 => ?_) (fun c10 => ?_)
  · replace h := h.2 c10
    refine jx_aload_n 1 dX10_go_28 rfl rfl ?_
    refine jx_getr jc_10 (j := 0) (by decide) rfl jwF_X10_12 dX10_go_29 hk1 hb2 ?_
    obtain ⟨b11, hb11, h⟩ := h
    refine jx_getr jc_3 (j := 1) (by decide) rfl jwF_X10_143 dX10_go_32 hk3 hb11 ?_
    refine jx_aload_n 0 dX10_go_35 rfl rfl ?_
    refine jx_geti jc_1 (j := 0) (by decide) rfl jwF_X10_172 dX10_go_36 hk9 ?_
    refine jx_iload_n 2 dX10_go_39 rfl rfl ?_
    obtain ⟨hk12, h⟩ := h
    refine jx_callVi (M' := mX4_direct) (As := [.int (ji S b4 0), .int x1]) jo_X4_direct jc_4 rfl jwM_X10_147 jwN_X4_direct jwX_X4_direct dX10_go_40 (jRok_m _ _ _) rfl (jle rfl) ⟨jle rfl, jle rfl⟩ hk12 h (fun r14 S13 h => ?_)
    refine jx_istore_n (lv1 := [(3, .int r14), (2, .ref b4), (0, .ref a0), (1, .int x1)]) dX10_go_43 rfl (by decide) rfl ?_
    refine jx_iload_n 0 dX10_go_44 rfl rfl ?_
    refine jx_if_ne (tgt := 51) dX10_go_45 (by decide) (fun c15 => ?_) (fun c15 => ?_)
    · replace h := h.2 c15
      refine jx_aload_n 1 dX10_go_51 rfl rfl ?_
      refine jx_iload_n 0 dX10_go_52 rfl rfl ?_
      obtain ⟨hk16, h⟩ := h
      refine jx_callVv (M' := mX1_passDays) (As := [.int r14]) jo_X1_passDays jc_1 rfl jwM_X10_191 jwN_X1_passDays jwX_X1_passDays dX10_go_53 (jRok_m _ _ _) rfl (jle rfl) ⟨jle rfl, jle rfl⟩ hk16 h (fun S17 h => ?_)
      refine jx_aload_n 1 dX10_go_56 rfl rfl ?_
      refine jx_iload_n 3 dX10_go_57 rfl rfl ?_
      obtain ⟨hk18, h⟩ := h
      refine jx_puti jc_1 (j := 0) (by decide) rfl jwF_X10_172 rfl rfl rfl dX10_go_58 hk18 ?_
      refine jx_aload_n 1 dX10_go_61 rfl rfl ?_
      refine jx_geti jc_1 (j := 4) (by decide) rfl jwF_X10_195 dX10_go_62 hk18 ?_
      refine jx_topi (y := (ji S17 b4 4)) (by simp [ji_put, ji_row, ji_putr]) ?_
      exact jx_iret dX10_go_65 rfl rfl (jle rfl) (jle rfl) ⟨_, rfl, h⟩
    replace h := h.1 c15
    refine jx_ldc jwC_X10_184 dX10_go_48 ?_
    exact jx_iret dX10_go_50 rfl rfl (jle rfl) (jle rfl) ⟨_, rfl, h⟩
  replace h := h.1 c10
  refine jx_ldc jwC_X10_62 dX10_go_25 ?_
  exact jx_iret dX10_go_27 rfl rfl (jle rfl) (jle rfl) ⟨_, rfl, h⟩
set_option maxRecDepth 100000 in
set_option maxHeartbeats 4000000 in
theorem T_X10_learn {E : jEnv} {d : Nat} {Q : Int32 → jM → Prop} {a0 : Nat} {x1 : Int32} {S : jM} (h : jk S a0 = 10 ∧ ∃ b2, jr S a0 0 = some b2 ∧ (jk S b2 = 3 ∧ ∃ b4, jr S b2 0 = some b4 ∧ (jk S b4 = 0 ∧ jFr E mX0_find d 0 0 [.ref b4, .int x1] S (fun o7 S6 => (o7 = none → Q (-1000000001) S6) ∧ (∀ b8, o7 = some b8 → jk S6 a0 = 10 ∧ ∃ b10, jr S6 a0 0 = some b10 ∧ (jk S6 b10 = 3 ∧ ∃ b12, jr S6 b10 2 = some b12 ∧ (jk S6 b12 = 1 ∧ jFi E mX1_canLearnOf d 0 0 [.ref b12, .ref b8] S6 (fun r15 S14 => (r15 = 0 → Q (-1000000002) S14) ∧ (¬ r15 = 0 → jk S14 a0 = 10 ∧ ∃ b18, jr S14 a0 0 = some b18 ∧ (jk S14 b12 = 1 ∧ jk S14 b18 = 3 ∧ jFi E mX3_daysTaken d 0 0 [.ref b18, .ref b8, .int (jbc (ji S14 b12 1))] S14 (fun r25 S24 => jk S24 b12 = 1 ∧ jFv E mX1_learnOf d 0 0 [.ref b12, .int x1, .ref b8, .int r25] S24 (fun S27 => jk S27 b12 = 1 ∧ Q (ji S27 b12 1) S27)))))))))))) : jFi E mX10_learn (d + 1) 0 0 [.ref a0, .int x1] S Q := by
  refine jF_of (by decide) (jle rfl) ?_
  refine jx_lv (lv1 := [(0, .ref a0), (1, .int x1)]) [0, 1] rfl ?_
  refine jx_aload_n 0 dX10_learn_0 rfl rfl ?_
  obtain ⟨hk1, h⟩ := h
  obtain ⟨b2, hb2, h⟩ := h
  refine jx_getr jc_10 (j := 0) (by decide) rfl jwF_X10_12 dX10_learn_1 hk1 hb2 ?_
  obtain ⟨hk3, h⟩ := h
  obtain ⟨b4, hb4, h⟩ := h
  refine jx_getr jc_3 (j := 0) (by decide) rfl jwF_X10_63 dX10_learn_4 hk3 hb4 ?_
  refine jx_iload_n 1 dX10_learn_7 rfl rfl ?_
  obtain ⟨hk5, h⟩ := h
  refine jx_callVr (M' := mX0_find) (As := [.int x1]) jo_X0_find jc_0 rfl jwM_X10_75 jwN_X0_find jwX_X0_find dX10_learn_8 (jRok_m _ _ _) rfl (jle rfl) ⟨jle rfl, jle rfl⟩ hk5 h (fun o7 S6 h => ?_)
  rcases o7 with _ | b8
  · replace h := h.1 rfl
    refine jx_astore_nN (lv1 := [(2, .null), (0, .ref a0), (1, .int x1)]) dX10_learn_11 rfl (by decide) rfl ?_
    refine jx_aload_nN 0 dX10_learn_12 rfl rfl ?_
    refine jx_ifnonnullN dX10_learn_13 ?_
    refine jx_ldc jwC_X10_62 dX10_learn_16 ?_
    exact jx_iret dX10_learn_18 rfl rfl (jle rfl) (jle rfl) ⟨_, rfl, h⟩
  replace h := h.2 b8 rfl
  refine jx_astore_n (lv1 := [(2, .ref b8), (0, .ref a0), (1, .int x1)]) dX10_learn_11 rfl (by decide) rfl ?_
  refine jx_aload_n 0 dX10_learn_12 rfl rfl ?_
  refine jx_ifnonnull (tgt := 19) dX10_learn_13 (by decide) ?_
  refine jx_aload_n 1 dX10_learn_19 rfl rfl ?_
  obtain ⟨hk9, h⟩ := h
  obtain ⟨b10, hb10, h⟩ := h
  refine jx_getr jc_10 (j := 0) (by decide) rfl jwF_X10_12 dX10_learn_20 hk9 hb10 ?_
  obtain ⟨hk11, h⟩ := h
  obtain ⟨b12, hb12, h⟩ := h
  refine jx_getr jc_3 (j := 2) (by decide) rfl jwF_X10_79 dX10_learn_23 hk11 hb12 ?_
  refine jx_astore_n (lv1 := [(3, .ref b12), (2, .ref b8), (0, .ref a0), (1, .int x1)]) dX10_learn_26 rfl (by decide) rfl ?_
  refine jx_aload_n 0 dX10_learn_27 rfl rfl ?_
  refine jx_aload_n 1 dX10_learn_28 rfl rfl ?_
  obtain ⟨hk13, h⟩ := h
  refine jx_callVi (M' := mX1_canLearnOf) (As := [.ref b8]) jo_X1_canLearnOf jc_1 rfl jwM_X10_198 jwN_X1_canLearnOf jwX_X1_canLearnOf dX10_learn_29 (jRok_m _ _ _) rfl (jle rfl) ⟨jle rfl, jle rfl⟩ hk13 h (fun r15 S14 h => ?_)
  refine jx_if_ne (tgt := 38) dX10_learn_32 (by decide) (fun c16 => ?_) (fun c16 => ?_)
  · replace h := h.2 c16
    refine jx_aload_n 0 dX10_learn_38 rfl rfl ?_
    refine jx_iload_n 3 dX10_learn_39 rfl rfl ?_
    refine jx_aload_n 1 dX10_learn_40 rfl rfl ?_
    refine jx_aload_n 2 dX10_learn_41 rfl rfl ?_
    obtain ⟨hk17, h⟩ := h
    obtain ⟨b18, hb18, h⟩ := h
    refine jx_getr jc_10 (j := 0) (by decide) rfl jwF_X10_12 dX10_learn_42 hk17 hb18 ?_
    refine jx_aload_n 1 dX10_learn_45 rfl rfl ?_
    refine jx_aload_n 0 dX10_learn_46 rfl rfl ?_
    obtain ⟨hk19, h⟩ := h
    refine jx_geti jc_1 (j := 1) (by decide) rfl jwF_X10_107 dX10_learn_47 hk19 ?_
    refine jx_callSi (M' := mJ6_bitCount_0f7a4) (As := [.int (ji S14 b12 1)]) jo_J6_bitCount_0f7a4 jwM_X10_112 jwS_J6_bitCount_0f7a4 dX10_learn_50 (jRok_m _ _ _) rfl (jle rfl) ⟨jle rfl, jle rfl⟩ (c_J6_bitCount_0f7a4 (Q := fun v S' => v = (jbc (ji S14 b12 1)) ∧ S14 = S') ⟨rfl, rfl⟩) (fun r20 S21 hq22 => ?_)
    obtain ⟨rfl, rfl⟩ := hq22
    obtain ⟨hk23, h⟩ := h
    refine jx_callVi (M' := mX3_daysTaken) (As := [.ref b8, .int (jbc (ji S14 b12 1))]) jo_X3_daysTaken jc_3 rfl jwM_X10_118 jwN_X3_daysTaken jwX_X3_daysTaken dX10_learn_53 (jRok_m _ _ _) rfl (jle rfl) ⟨jle rfl, jle rfl⟩ hk23 h (fun r25 S24 h => ?_)
    obtain ⟨hk26, h⟩ := h
    refine jx_callVv (M' := mX1_learnOf) (As := [.int x1, .ref b8, .int r25]) jo_X1_learnOf jc_1 rfl jwM_X10_202 jwN_X1_learnOf jwX_X1_learnOf dX10_learn_56 (jRok_m _ _ _) rfl (jle rfl) ⟨jle rfl, jle rfl⟩ hk26 h (fun S27 h => ?_)
    refine jx_aload_n 0 dX10_learn_59 rfl rfl ?_
    obtain ⟨hk28, h⟩ := h
    refine jx_geti jc_1 (j := 1) (by decide) rfl jwF_X10_107 dX10_learn_60 hk28 ?_
    exact jx_iret dX10_learn_63 rfl rfl (jle rfl) (jle rfl) ⟨_, rfl, h⟩
  replace h := h.1 c16
  refine jx_ldc jwC_X10_184 dX10_learn_35 ?_
  exact jx_iret dX10_learn_37 rfl rfl (jle rfl) (jle rfl) ⟨_, rfl, h⟩
set_option maxRecDepth 100000 in
set_option maxHeartbeats 4000000 in
theorem T_X10_use {E : jEnv} {d : Nat} {Q : Int32 → jM → Prop} {a0 : Nat} {x1 : Int32} {S : jM} (h : ((jwi x1 10) = 0 → Q (-1000000001) S) ∧ (¬ (jwi x1 10) = 0 → jk S a0 = 10 ∧ ∃ b6, jr S a0 0 = some b6 ∧ (jk S b6 = 3 ∧ ∃ b8, jr S b6 2 = some b8 ∧ (jk S b8 = 1 ∧ jFi E mX1_practise d 0 0 [.ref b8, .int x1] S (fun r11 S10 => (r11 = 0 → Q (-1000000002) S10) ∧ (¬ r11 = 0 → jk S10 a0 = 10 ∧ ∃ b14, jr S10 a0 0 = some b14 ∧ (jk S10 b14 = 3 ∧ ∃ b16, jr S10 b14 2 = some b16 ∧ (jk S10 b16 = 1 ∧ Q (ji S10 b16 1) S10)))))))) : jFi E mX10_use (d + 1) 0 0 [.ref a0, .int x1] S Q := by
  refine jF_of (by decide) (jle rfl) ?_
  refine jx_lv (lv1 := [(0, .ref a0), (1, .int x1)]) [0, 1] rfl ?_
  refine jx_iload_n 1 dX10_use_0 rfl rfl ?_
  refine jx_bipush (v := 10) dX10_use_1 (by decide) ?_
  refine jx_callSi (M' := mX10_within) (As := [.int x1, .int 10]) jo_X10_within jwM_X10_58 jwS_X10_within dX10_use_3 (jRok_m _ _ _) rfl (jle rfl) ⟨jle rfl, jle rfl⟩ (c_X10_within (Q := fun v S' => v = (jwi x1 10) ∧ S = S') ⟨rfl, rfl⟩) (fun r1 S2 hq3 => ?_)
  obtain ⟨rfl, rfl⟩ := hq3
  refine jx_if_ne (tgt := 12) dX10_use_6 (by decide) (fun c4 => ?_) (fun c4 => ?_)
  · replace h := h.2 c4
    refine jx_aload_n 0 dX10_use_12 rfl rfl ?_
    obtain ⟨hk5, h⟩ := h
    obtain ⟨b6, hb6, h⟩ := h
    refine jx_getr jc_10 (j := 0) (by decide) rfl jwF_X10_12 dX10_use_13 hk5 hb6 ?_
    obtain ⟨hk7, h⟩ := h
    obtain ⟨b8, hb8, h⟩ := h
    refine jx_getr jc_3 (j := 2) (by decide) rfl jwF_X10_79 dX10_use_16 hk7 hb8 ?_
    refine jx_iload_n 1 dX10_use_19 rfl rfl ?_
    obtain ⟨hk9, h⟩ := h
    refine jx_callVi (M' := mX1_practise) (As := [.int x1]) jo_X1_practise jc_1 rfl jwM_X10_206 jwN_X1_practise jwX_X1_practise dX10_use_20 (jRok_m _ _ _) rfl (jle rfl) ⟨jle rfl, jle rfl⟩ hk9 h (fun r11 S10 h => ?_)
    refine jx_if_eq (tgt := 39) dX10_use_23 (by decide) (fun c12 => ?_) (fun c12 => ?_)
    · replace h := h.1 c12
      refine jx_ldc jwC_X10_184 dX10_use_39 ?_
      exact jx_iret dX10_use_41 rfl rfl (jle rfl) (jle rfl) ⟨_, rfl, h⟩
    replace h := h.2 c12
    refine jx_aload_n 0 dX10_use_26 rfl rfl ?_
    obtain ⟨hk13, h⟩ := h
    obtain ⟨b14, hb14, h⟩ := h
    refine jx_getr jc_10 (j := 0) (by decide) rfl jwF_X10_12 dX10_use_27 hk13 hb14 ?_
    obtain ⟨hk15, h⟩ := h
    obtain ⟨b16, hb16, h⟩ := h
    refine jx_getr jc_3 (j := 2) (by decide) rfl jwF_X10_79 dX10_use_30 hk15 hb16 ?_
    obtain ⟨hk17, h⟩ := h
    refine jx_geti jc_1 (j := 1) (by decide) rfl jwF_X10_107 dX10_use_33 hk17 ?_
    refine jx_goto (tgt := 41) dX10_use_36 (by decide) ?_
    exact jx_iret dX10_use_41 rfl rfl (jle rfl) (jle rfl) ⟨_, rfl, h⟩
  replace h := h.1 c4
  refine jx_ldc jwC_X10_62 dX10_use_9 ?_
  exact jx_iret dX10_use_11 rfl rfl (jle rfl) (jle rfl) ⟨_, rfl, h⟩
set_option maxRecDepth 100000 in
set_option maxHeartbeats 4000000 in
theorem T_X10_rests {E : jEnv} {d : Nat} {Q : Int32 → jM → Prop} {a0 : Nat} {x1 : Int32} {S : jM} (h : (x1 < 1 → Q (-1000000001) S) ∧ (¬ x1 < 1 → (x1 ≤ 100 → jk S a0 = 10 ∧ ∃ b4, jr S a0 0 = some b4 ∧ (jk S b4 = 3 ∧ ∃ b6, jr S b4 2 = some b6 ∧ (jk S b6 = 1 ∧ jFv E mX1_passDays d 0 0 [.ref b6, .int x1] S (fun S8 => jk S8 a0 = 10 ∧ ∃ b10, jr S8 a0 0 = some b10 ∧ (jk S8 b10 = 3 ∧ ∃ b12, jr S8 b10 2 = some b12 ∧ (jk S8 b12 = 1 ∧ Q (ji S8 b12 1) S8)))))) ∧ (¬ x1 ≤ 100 → Q (-1000000001) S))) : jFi E mX10_rests (d + 1) 0 0 [.ref a0, .int x1] S Q := by
  refine jF_of (by decide) (jle rfl) ?_
  refine jx_lv (lv1 := [(0, .ref a0), (1, .int x1)]) [0, 1] rfl ?_
  refine jx_iload_n 1 dX10_rests_0 rfl rfl ?_
  refine jx_iconst (v := 1) dX10_rests_1 (by decide) ?_
  refine jx_icmp_lt (tgt := 11) dX10_rests_2 (by decide) (fun c1 => ?_) (fun c1 => ?_)
  · replace h := h.1 c1
    refine jx_ldc jwC_X10_62 dX10_rests_11 ?_
    exact jx_iret dX10_rests_13 rfl rfl (jle rfl) (jle rfl) ⟨_, rfl, h⟩
  replace h := h.2 c1
  refine jx_iload_n 1 dX10_rests_5 rfl rfl ?_
  refine jx_bipush (v := 100) dX10_rests_6 (by decide) ?_
  refine jx_icmp_le (tgt := 14) dX10_rests_8 (by decide) (fun c2 => ?_) (fun c2 => ?_)
  · replace h := h.1 c2
    refine jx_aload_n 0 dX10_rests_14 rfl rfl ?_
    obtain ⟨hk3, h⟩ := h
    obtain ⟨b4, hb4, h⟩ := h
    refine jx_getr jc_10 (j := 0) (by decide) rfl jwF_X10_12 dX10_rests_15 hk3 hb4 ?_
    obtain ⟨hk5, h⟩ := h
    obtain ⟨b6, hb6, h⟩ := h
    refine jx_getr jc_3 (j := 2) (by decide) rfl jwF_X10_79 dX10_rests_18 hk5 hb6 ?_
    refine jx_iload_n 1 dX10_rests_21 rfl rfl ?_
    obtain ⟨hk7, h⟩ := h
    refine jx_callVv (M' := mX1_passDays) (As := [.int x1]) jo_X1_passDays jc_1 rfl jwM_X10_191 jwN_X1_passDays jwX_X1_passDays dX10_rests_22 (jRok_m _ _ _) rfl (jle rfl) ⟨jle rfl, jle rfl⟩ hk7 h (fun S8 h => ?_)
    refine jx_aload_n 0 dX10_rests_25 rfl rfl ?_
    obtain ⟨hk9, h⟩ := h
    obtain ⟨b10, hb10, h⟩ := h
    refine jx_getr jc_10 (j := 0) (by decide) rfl jwF_X10_12 dX10_rests_26 hk9 hb10 ?_
    obtain ⟨hk11, h⟩ := h
    obtain ⟨b12, hb12, h⟩ := h
    refine jx_getr jc_3 (j := 2) (by decide) rfl jwF_X10_79 dX10_rests_29 hk11 hb12 ?_
    obtain ⟨hk13, h⟩ := h
    refine jx_geti jc_1 (j := 1) (by decide) rfl jwF_X10_107 dX10_rests_32 hk13 ?_
    exact jx_iret dX10_rests_35 rfl rfl (jle rfl) (jle rfl) ⟨_, rfl, h⟩
  replace h := h.2 c2
  refine jx_ldc jwC_X10_62 dX10_rests_11 ?_
  exact jx_iret dX10_rests_13 rfl rfl (jle rfl) (jle rfl) ⟨_, rfl, h⟩
set_option maxRecDepth 100000 in
set_option maxHeartbeats 4000000 in
theorem T_X10_wants {E : jEnv} {d : Nat} {Q : Int32 → jM → Prop} {a0 : Nat} {x1 : Int32} {S : jM} (h : ((jwi x1 10) = 0 → Q (-1000000001) S) ∧ (¬ (jwi x1 10) = 0 → jk S a0 = 10 ∧ ∃ b6, jr S a0 0 = some b6 ∧ (jk S b6 = 3 ∧ jFi E mX3_addWish d 0 0 [.ref b6, .int x1] S (fun r9 S8 => (r9 = 0 → Q (-1000000003) S8) ∧ (¬ r9 = 0 → jk S8 a0 = 10 ∧ ∃ b12, jr S8 a0 0 = some b12 ∧ (jk S8 b12 = 3 ∧ Q (ji S8 b12 4) S8)))))) : jFi E mX10_wants (d + 1) 0 0 [.ref a0, .int x1] S Q := by
  refine jF_of (by decide) (jle rfl) ?_
  refine jx_lv (lv1 := [(0, .ref a0), (1, .int x1)]) [0, 1] rfl ?_
  refine jx_iload_n 1 dX10_wants_0 rfl rfl ?_
  refine jx_bipush (v := 10) dX10_wants_1 (by decide) ?_
  refine jx_callSi (M' := mX10_within) (As := [.int x1, .int 10]) jo_X10_within jwM_X10_58 jwS_X10_within dX10_wants_3 (jRok_m _ _ _) rfl (jle rfl) ⟨jle rfl, jle rfl⟩ (c_X10_within (Q := fun v S' => v = (jwi x1 10) ∧ S = S') ⟨rfl, rfl⟩) (fun r1 S2 hq3 => ?_)
  obtain ⟨rfl, rfl⟩ := hq3
  refine jx_if_ne (tgt := 12) dX10_wants_6 (by decide) (fun c4 => ?_) (fun c4 => ?_)
  · replace h := h.2 c4
    refine jx_aload_n 0 dX10_wants_12 rfl rfl ?_
    obtain ⟨hk5, h⟩ := h
    obtain ⟨b6, hb6, h⟩ := h
    refine jx_getr jc_10 (j := 0) (by decide) rfl jwF_X10_12 dX10_wants_13 hk5 hb6 ?_
    refine jx_iload_n 1 dX10_wants_16 rfl rfl ?_
    obtain ⟨hk7, h⟩ := h
    refine jx_callVi (M' := mX3_addWish) (As := [.int x1]) jo_X3_addWish jc_3 rfl jwM_X10_209 jwN_X3_addWish jwX_X3_addWish dX10_wants_17 (jRok_m _ _ _) rfl (jle rfl) ⟨jle rfl, jle rfl⟩ hk7 h (fun r9 S8 h => ?_)
    refine jx_if_eq (tgt := 33) dX10_wants_20 (by decide) (fun c10 => ?_) (fun c10 => ?_)
    · replace h := h.1 c10
      refine jx_ldc jwC_X10_74 dX10_wants_33 ?_
      exact jx_iret dX10_wants_35 rfl rfl (jle rfl) (jle rfl) ⟨_, rfl, h⟩
    replace h := h.2 c10
    refine jx_aload_n 0 dX10_wants_23 rfl rfl ?_
    obtain ⟨hk11, h⟩ := h
    obtain ⟨b12, hb12, h⟩ := h
    refine jx_getr jc_10 (j := 0) (by decide) rfl jwF_X10_12 dX10_wants_24 hk11 hb12 ?_
    obtain ⟨hk13, h⟩ := h
    refine jx_geti jc_3 (j := 4) (by decide) rfl jwF_X10_212 dX10_wants_27 hk13 ?_
    refine jx_goto (tgt := 35) dX10_wants_30 (by decide) ?_
    exact jx_iret dX10_wants_35 rfl rfl (jle rfl) (jle rfl) ⟨_, rfl, h⟩
  replace h := h.1 c4
  refine jx_ldc jwC_X10_62 dX10_wants_9 ?_
  exact jx_iret dX10_wants_11 rfl rfl (jle rfl) (jle rfl) ⟨_, rfl, h⟩
set_option maxRecDepth 100000 in
set_option maxHeartbeats 4000000 in
theorem T_X10_clear {E : jEnv} {d : Nat} {Q : Int32 → jM → Prop} {a0 : Nat} {S : jM} (h : jk S a0 = 10 ∧ ∃ b2, jr S a0 0 = some b2 ∧ (jk S b2 = 3 ∧ Q (ji S b2 4) (jput S b2 4 0))) : jFi E mX10_clear d 0 0 [.ref a0] S Q := by
  refine jF_of (by decide) (jle rfl) ?_
  refine jx_lv (lv1 := [(0, .ref a0)]) [0] rfl ?_
  refine jx_aload_n 0 dX10_clear_0 rfl rfl ?_
  obtain ⟨hk1, h⟩ := h
  obtain ⟨b2, hb2, h⟩ := h
  refine jx_getr jc_10 (j := 0) (by decide) rfl jwF_X10_12 dX10_clear_1 hk1 hb2 ?_
  obtain ⟨hk3, h⟩ := h
  refine jx_geti jc_3 (j := 4) (by decide) rfl jwF_X10_212 dX10_clear_4 hk3 ?_
  refine jx_istore_n (lv1 := [(1, .int (ji S b2 4)), (0, .ref a0)]) dX10_clear_7 rfl (by decide) rfl ?_
  refine jx_aload_n 1 dX10_clear_8 rfl rfl ?_
  refine jx_getr jc_10 (j := 0) (by decide) rfl jwF_X10_12 dX10_clear_9 hk1 hb2 ?_
  refine jx_iconst (v := 0) dX10_clear_12 (by decide) ?_
  refine jx_puti jc_3 (j := 4) (by decide) rfl jwF_X10_212 rfl rfl rfl dX10_clear_13 hk3 ?_
  refine jx_iload_n 0 dX10_clear_16 rfl rfl ?_
  exact jx_iret dX10_clear_17 rfl rfl (jle rfl) (jle rfl) ⟨_, rfl, h⟩
set_option maxRecDepth 100000 in
set_option maxHeartbeats 4000000 in
theorem T_X10_made {E : jEnv} {d : Nat} {Q : Int32 → jM → Prop} {a0 : Nat} {S : jM} (h : jk S a0 = 10 ∧ ∃ b2, jr S a0 0 = some b2 ∧ (jk S b2 = 3 ∧ jFi E mX3_canMakeChair d 0 0 [.ref b2] S (fun r5 S4 => (r5 = 0 → Q (-1000000002) S4) ∧ (¬ r5 = 0 → jk S4 a0 = 10 ∧ ∃ b8, jr S4 a0 0 = some b8 ∧ (jk S4 b8 = 3 ∧ jFv E mX3_makeChair d 0 0 [.ref b8] S4 (fun S10 => jk S10 a0 = 10 ∧ ∃ b12, jr S10 a0 0 = some b12 ∧ (jk S10 b12 = 3 ∧ ∃ b14, jr S10 b12 2 = some b14 ∧ (jk S10 b14 = 1 ∧ Q (ji S10 b14 4) S10)))))))) : jFi E mX10_made (d + 1) 0 0 [.ref a0] S Q := by
  refine jF_of (by decide) (jle rfl) ?_
  refine jx_lv (lv1 := [(0, .ref a0)]) [0] rfl ?_
  refine jx_aload_n 0 dX10_made_0 rfl rfl ?_
  obtain ⟨hk1, h⟩ := h
  obtain ⟨b2, hb2, h⟩ := h
  refine jx_getr jc_10 (j := 0) (by decide) rfl jwF_X10_12 dX10_made_1 hk1 hb2 ?_
  obtain ⟨hk3, h⟩ := h
  refine jx_callVi (M' := mX3_canMakeChair) (As := []) jo_X3_canMakeChair jc_3 rfl jwM_X10_215 jwN_X3_canMakeChair jwX_X3_canMakeChair dX10_made_4 (jRok_m _ _ _) rfl (jle rfl) ⟨jle rfl, jle rfl⟩ hk3 h (fun r5 S4 h => ?_)
  refine jx_if_ne (tgt := 13) dX10_made_7 (by decide) (fun c6 => ?_) (fun c6 => ?_)
  · replace h := h.2 c6
    refine jx_aload_n 0 dX10_made_13 rfl rfl ?_
    obtain ⟨hk7, h⟩ := h
    obtain ⟨b8, hb8, h⟩ := h
    refine jx_getr jc_10 (j := 0) (by decide) rfl jwF_X10_12 dX10_made_14 hk7 hb8 ?_
    obtain ⟨hk9, h⟩ := h
    refine jx_callVv (M' := mX3_makeChair) (As := []) jo_X3_makeChair jc_3 rfl jwM_X10_219 jwN_X3_makeChair jwX_X3_makeChair dX10_made_17 (jRok_m _ _ _) rfl (jle rfl) ⟨jle rfl, jle rfl⟩ hk9 h (fun S10 h => ?_)
    refine jx_aload_n 0 dX10_made_20 rfl rfl ?_
    obtain ⟨hk11, h⟩ := h
    obtain ⟨b12, hb12, h⟩ := h
    refine jx_getr jc_10 (j := 0) (by decide) rfl jwF_X10_12 dX10_made_21 hk11 hb12 ?_
    obtain ⟨hk13, h⟩ := h
    obtain ⟨b14, hb14, h⟩ := h
    refine jx_getr jc_3 (j := 2) (by decide) rfl jwF_X10_79 dX10_made_24 hk13 hb14 ?_
    obtain ⟨hk15, h⟩ := h
    refine jx_geti jc_1 (j := 4) (by decide) rfl jwF_X10_195 dX10_made_27 hk15 ?_
    exact jx_iret dX10_made_30 rfl rfl (jle rfl) (jle rfl) ⟨_, rfl, h⟩
  replace h := h.1 c6
  refine jx_ldc jwC_X10_184 dX10_made_10 ?_
  exact jx_iret dX10_made_12 rfl rfl (jle rfl) (jle rfl) ⟨_, rfl, h⟩
set_option maxRecDepth 100000 in
set_option maxHeartbeats 4000000 in
theorem T_X10_soonest {E : jEnv} {d : Nat} {Q : Int32 → jM → Prop} {a0 : Nat} {x1 : Int32} {S : jM} (h : ((jwi x1 3) = 0 → Q (-1000000001) S) ∧ (¬ (jwi x1 3) = 0 → jk S a0 = 10 ∧ ∃ b6, jr S a0 4 = some b6 ∧ (∃ b7, jr S a0 0 = some b7 ∧ (jk S b6 = 5 ∧ jFi E mX5_finds d 0 0 [.ref b6, .ref b7] S (fun r10 S9 => (r10 = 0 → Q (-1000000005) S9) ∧ (¬ r10 = 0 → (x1 = 0 → jk S9 a0 = 10 ∧ ∃ b14, jr S9 a0 4 = some b14 ∧ (jk S9 b14 = 5 ∧ Q (ji S9 b14 9) S9)) ∧ (x1 = 1 → jk S9 a0 = 10 ∧ ∃ b18, jr S9 a0 4 = some b18 ∧ (jk S9 b18 = 5 ∧ Q (ji S9 b18 10) S9)) ∧ (¬ x1 = 0 → ¬ x1 = 1 → jk S9 a0 = 10 ∧ ∃ b21, jr S9 a0 4 = some b21 ∧ (jk S9 b21 = 5 ∧ Q (ji S9 b21 11) S9)))))))) : jFi E mX10_soonest (d + 1) 0 0 [.ref a0, .int x1] S Q := by
  refine jF_of (by decide) (jle rfl) ?_
  refine jx_lv (lv1 := [(0, .ref a0), (1, .int x1)]) [0, 1] rfl ?_
  refine jx_iload_n 1 dX10_soonest_0 rfl rfl ?_
  refine jx_iconst (v := 3) dX10_soonest_1 (by decide) ?_
  refine jx_callSi (M' := mX10_within) (As := [.int x1, .int 3]) jo_X10_within jwM_X10_58 jwS_X10_within dX10_soonest_2 (jRok_m _ _ _) rfl (jle rfl) ⟨jle rfl, jle rfl⟩ (c_X10_within (Q := fun v S' => v = (jwi x1 3) ∧ S = S') ⟨rfl, rfl⟩) (fun r1 S2 hq3 => ?_)
  obtain ⟨rfl, rfl⟩ := hq3
  refine jx_if_ne (tgt := 11) dX10_soonest_5 (by decide) (fun c4 => ?_) (fun c4 => ?_)
  · replace h := h.2 c4
    refine jx_aload_n 0 dX10_soonest_11 rfl rfl ?_
    obtain ⟨hk5, h⟩ := h
    obtain ⟨b6, hb6, h⟩ := h
    refine jx_getr jc_10 (j := 4) (by decide) rfl jwF_X10_29 dX10_soonest_12 hk5 hb6 ?_
    refine jx_aload_n 0 dX10_soonest_15 rfl rfl ?_
    obtain ⟨b7, hb7, h⟩ := h
    refine jx_getr jc_10 (j := 0) (by decide) rfl jwF_X10_12 dX10_soonest_16 hk5 hb7 ?_
    obtain ⟨hk8, h⟩ := h
    refine jx_callVi (M' := mX5_finds) (As := [.ref b7]) jo_X5_finds jc_5 rfl jwM_X10_222 jwN_X5_finds jwX_X5_finds dX10_soonest_19 (jRok_m _ _ _) rfl (jle rfl) ⟨jle rfl, jle rfl⟩ hk8 h (fun r10 S9 h => ?_)
    refine jx_if_ne (tgt := 28) dX10_soonest_22 (by decide) (fun c11 => ?_) (fun c11 => ?_)
    · replace h := h.2 c11
      refine jx_iload_n 1 dX10_soonest_28 rfl rfl ?_
      by_cases c12 : x1 = 0
      · replace h := h.1 c12
        refine jx_lookIn (v := 0) (tgt := 56) (off := 27) kd50 (by decide) c12 (by decide) (by decide) ?_
        refine jx_aload_n 0 dX10_soonest_56 rfl rfl ?_
        obtain ⟨hk13, h⟩ := h
        obtain ⟨b14, hb14, h⟩ := h
        refine jx_getr jc_10 (j := 4) (by decide) rfl jwF_X10_29 dX10_soonest_57 hk13 hb14 ?_
        obtain ⟨hk15, h⟩ := h
        refine jx_geti jc_5 (j := 9) (by decide) rfl jwF_X10_226 dX10_soonest_60 hk15 ?_
        exact jx_iret dX10_soonest_63 rfl rfl (jle rfl) (jle rfl) ⟨_, rfl, h⟩
      replace h := h.2
      by_cases c16 : x1 = 1
      · replace h := h.1 c16
        refine jx_lookIn (v := 1) (tgt := 64) (off := 35) kd50 (by decide) c16 (by decide) (by decide) ?_
        refine jx_aload_n 0 dX10_soonest_64 rfl rfl ?_
        obtain ⟨hk17, h⟩ := h
        obtain ⟨b18, hb18, h⟩ := h
        refine jx_getr jc_10 (j := 4) (by decide) rfl jwF_X10_29 dX10_soonest_65 hk17 hb18 ?_
        obtain ⟨hk19, h⟩ := h
        refine jx_geti jc_5 (j := 10) (by decide) rfl jwF_X10_229 dX10_soonest_68 hk19 ?_
        exact jx_iret dX10_soonest_71 rfl rfl (jle rfl) (jle rfl) ⟨_, rfl, h⟩
      replace h := h.2
      replace h := h c12 c16
      refine jx_lookD (tgt := 72) kd50 (by decide) (by simp only [List.mem_cons, List.not_mem_nil, or_false, forall_eq_or_imp, forall_eq]; exact ⟨lv_neT c12 (by decide), lv_neT c16 (by decide)⟩) (by decide) ?_
      refine jx_aload_n 0 dX10_soonest_72 rfl rfl ?_
      obtain ⟨hk20, h⟩ := h
      obtain ⟨b21, hb21, h⟩ := h
      refine jx_getr jc_10 (j := 4) (by decide) rfl jwF_X10_29 dX10_soonest_73 hk20 hb21 ?_
      obtain ⟨hk22, h⟩ := h
      refine jx_geti jc_5 (j := 11) (by decide) rfl jwF_X10_232 dX10_soonest_76 hk22 ?_
      exact jx_iret dX10_soonest_79 rfl rfl (jle rfl) (jle rfl) ⟨_, rfl, h⟩
    replace h := h.1 c11
    refine jx_ldc jwC_X10_160 dX10_soonest_25 ?_
    exact jx_iret dX10_soonest_27 rfl rfl (jle rfl) (jle rfl) ⟨_, rfl, h⟩
  replace h := h.1 c4
  refine jx_ldc jwC_X10_62 dX10_soonest_8 ?_
  exact jx_iret dX10_soonest_10 rfl rfl (jle rfl) (jle rfl) ⟨_, rfl, h⟩
set_option maxRecDepth 100000 in
set_option maxHeartbeats 4000000 in
theorem T_X10_together {E : jEnv} {d : Nat} {Q : Int32 → jM → Prop} {a0 : Nat} {x1 : Int32} {S : jM} (h : ((jwi x1 1024) = 0 → Q (-1000000001) S) ∧ (¬ (jwi x1 1024) = 0 → ((jbc x1) ≤ 3 → jk S a0 = 10 ∧ ∃ b10, jr S a0 0 = some b10 ∧ (jk S b10 = 3 ∧ ∃ b12, jr S b10 0 = some b12 ∧ (jk S b12 = 0 ∧ jFi E mX0_canBringTogether d 0 0 [.ref b12, .int x1] S (fun r15 S14 => (r15 = 0 → Q 0 S14) ∧ (¬ r15 = 0 → Q 1 S14))))) ∧ (¬ (jbc x1) ≤ 3 → Q (-1000000001) S))) : jFi E mX10_together (d + 1) 0 0 [.ref a0, .int x1] S Q := by
  refine jF_of (by decide) (jle rfl) ?_
  refine jx_lv (lv1 := [(0, .ref a0), (1, .int x1)]) [0, 1] rfl ?_
  refine jx_iload_n 1 dX10_together_0 rfl rfl ?_
  refine jx_sipush (v := 1024) dX10_together_1 (by decide) ?_
  refine jx_callSi (M' := mX10_within) (As := [.int x1, .int 1024]) jo_X10_within jwM_X10_58 jwS_X10_within dX10_together_4 (jRok_m _ _ _) rfl (jle rfl) ⟨jle rfl, jle rfl⟩ (c_X10_within (Q := fun v S' => v = (jwi x1 1024) ∧ S = S') ⟨rfl, rfl⟩) (fun r1 S2 hq3 => ?_)
  obtain ⟨rfl, rfl⟩ := hq3
  refine jx_if_eq (tgt := 18) dX10_together_7 (by decide) (fun c4 => ?_) (fun c4 => ?_)
  · replace h := h.1 c4
    refine jx_ldc jwC_X10_62 dX10_together_18 ?_
    exact jx_iret dX10_together_20 rfl rfl (jle rfl) (jle rfl) ⟨_, rfl, h⟩
  replace h := h.2 c4
  refine jx_iload_n 1 dX10_together_10 rfl rfl ?_
  refine jx_callSi (M' := mJ6_bitCount_0f7a4) (As := [.int x1]) jo_J6_bitCount_0f7a4 jwM_X10_112 jwS_J6_bitCount_0f7a4 dX10_together_11 (jRok_m _ _ _) rfl (jle rfl) ⟨jle rfl, jle rfl⟩ (c_J6_bitCount_0f7a4 (Q := fun v S' => v = (jbc x1) ∧ S = S') ⟨rfl, rfl⟩) (fun r5 S6 hq7 => ?_)
  obtain ⟨rfl, rfl⟩ := hq7
  refine jx_iconst (v := 3) dX10_together_14 (by decide) ?_
  refine jx_icmp_le (tgt := 21) dX10_together_15 (by decide) (fun c8 => ?_) (fun c8 => ?_)
  · replace h := h.1 c8
    refine jx_aload_n 0 dX10_together_21 rfl rfl ?_
    obtain ⟨hk9, h⟩ := h
    obtain ⟨b10, hb10, h⟩ := h
    refine jx_getr jc_10 (j := 0) (by decide) rfl jwF_X10_12 dX10_together_22 hk9 hb10 ?_
    obtain ⟨hk11, h⟩ := h
    obtain ⟨b12, hb12, h⟩ := h
    refine jx_getr jc_3 (j := 0) (by decide) rfl jwF_X10_63 dX10_together_25 hk11 hb12 ?_
    refine jx_iload_n 1 dX10_together_28 rfl rfl ?_
    obtain ⟨hk13, h⟩ := h
    refine jx_callVi (M' := mX0_canBringTogether) (As := [.int x1]) jo_X0_canBringTogether jc_0 rfl jwM_X10_235 jwN_X0_canBringTogether jwX_X0_canBringTogether dX10_together_29 (jRok_m _ _ _) rfl (jle rfl) ⟨jle rfl, jle rfl⟩ hk13 h (fun r15 S14 h => ?_)
    refine jx_if_eq (tgt := 39) dX10_together_32 (by decide) (fun c16 => ?_) (fun c16 => ?_)
    · replace h := h.1 c16
      refine jx_iconst (v := 0) dX10_together_39 (by decide) ?_
      exact jx_iret dX10_together_40 rfl rfl (jle rfl) (jle rfl) ⟨_, rfl, h⟩
    replace h := h.2 c16
    refine jx_iconst (v := 1) dX10_together_35 (by decide) ?_
    refine jx_goto (tgt := 40) dX10_together_36 (by decide) ?_
    exact jx_iret dX10_together_40 rfl rfl (jle rfl) (jle rfl) ⟨_, rfl, h⟩
  replace h := h.2 c8
  refine jx_ldc jwC_X10_62 dX10_together_18 ?_
  exact jx_iret dX10_together_20 rfl rfl (jle rfl) (jle rfl) ⟨_, rfl, h⟩
/-- X10_never at its loop's head 13 -/
abbrev L_X10_never_13 (E : jEnv) (d : Nat) (Q : Int32 → jM → Prop) (a0 : Nat) (x1 : Int32) (x2 : Int32) (S : jM) : Prop := jX E mX10_never (jRm (d + 1) 0 0) (jZm E (fun r S' => ∃ v : Int32, r = some (.int v) ∧ Q v S') 0 0) 13 [(0, .ref a0), (1, .int x1), (2, .int x2)] [] S 0 0
/-- X10_never at its loop's head 23 -/
abbrev L_X10_never_23 (E : jEnv) (d : Nat) (Q : Int32 → jM → Prop) (a0 : Nat) (x1 : Int32) (x2 : Int32) (x3 : Int32) (S : jM) : Prop := jX E mX10_never (jRm (d + 1) 0 0) (jZm E (fun r S' => ∃ v : Int32, r = some (.int v) ∧ Q v S') 0 0) 23 [(0, .ref a0), (1, .int x1), (2, .int x2), (3, .int x3)] [] S 0 0
set_option maxRecDepth 100000 in
set_option maxHeartbeats 4000000 in
theorem T_X10_never {E : jEnv} {d : Nat} {Q : Int32 → jM → Prop} {a0 : Nat} {S : jM} (h : jk S a0 = 10 ∧ ∃ b2, jr S a0 0 = some b2 ∧ (jk S b2 = 3 ∧ ∃ b4, jr S b2 0 = some b4 ∧ (jk S b4 = 0 ∧ jFi E mX0_taught d 0 0 [.ref b4] S (fun r7 S6 => L_X10_never_13 E d Q a0 r7 0 S6)))) : jFi E mX10_never (d + 1) 0 0 [.ref a0] S Q := by
  refine jF_of (by decide) (jle rfl) ?_
  refine jx_lv (lv1 := [(0, .ref a0)]) [0] rfl ?_
  refine jx_aload_n 0 dX10_never_0 rfl rfl ?_
  obtain ⟨hk1, h⟩ := h
  obtain ⟨b2, hb2, h⟩ := h
  refine jx_getr jc_10 (j := 0) (by decide) rfl jwF_X10_12 dX10_never_1 hk1 hb2 ?_
  obtain ⟨hk3, h⟩ := h
  obtain ⟨b4, hb4, h⟩ := h
  refine jx_getr jc_3 (j := 0) (by decide) rfl jwF_X10_63 dX10_never_4 hk3 hb4 ?_
  obtain ⟨hk5, h⟩ := h
  refine jx_callVi (M' := mX0_taught) (As := []) jo_X0_taught jc_0 rfl jwM_X10_238 jwN_X0_taught jwX_X0_taught dX10_never_7 (jRok_m _ _ _) rfl (jle rfl) ⟨jle rfl, jle rfl⟩ hk5 h (fun r7 S6 h => ?_)
  refine jx_istore_n (lv1 := [(1, .int r7), (0, .ref a0)]) dX10_never_10 rfl (by decide) rfl ?_
  refine jx_iconst (v := 0) dX10_never_11 (by decide) ?_
  refine jx_istore_n (lv1 := [(2, .int 0), (1, .int r7), (0, .ref a0)]) dX10_never_12 rfl (by decide) rfl ?_
  exact jx_lv [2, 1, 0] rfl h
set_option maxRecDepth 100000 in
set_option maxHeartbeats 4000000 in
theorem T_X10_never_13 {E : jEnv} {d : Nat} {Q : Int32 → jM → Prop} {a0 : Nat} {x1 : Int32} {x2 : Int32} {S : jM} (h : (10 ≤ x2 → Q (-1000000005) S) ∧ (¬ 10 ≤ x2 → L_X10_never_23 E d Q a0 x1 x2 (x2 + 1) S)) : L_X10_never_13 E d Q a0 x1 x2 S := by
  show jX E mX10_never (jRm (d + 1) 0 0) (jZm E (fun r S' => ∃ v : Int32, r = some (.int v) ∧ Q v S') 0 0) 13 [(0, .ref a0), (1, .int x1), (2, .int x2)] [] S 0 0
  refine jx_iload_n 2 dX10_never_13 rfl rfl ?_
  refine jx_bipush (v := 10) dX10_never_14 (by decide) ?_
  refine jx_icmp_ge (tgt := 81) dX10_never_16 (by decide) (fun c8 => ?_) (fun c8 => ?_)
  · replace h := h.1 c8
    refine jx_ldc jwC_X10_160 dX10_never_81 ?_
    exact jx_iret dX10_never_83 rfl rfl (jle rfl) (jle rfl) ⟨_, rfl, h⟩
  replace h := h.2 c8
  refine jx_iload_n 2 dX10_never_19 rfl rfl ?_
  refine jx_iconst (v := 1) dX10_never_20 (by decide) ?_
  refine jx_iadd dX10_never_21 ?_
  refine jx_istore_n (lv1 := [(3, .int (x2 + 1)), (0, .ref a0), (1, .int x1), (2, .int x2)]) dX10_never_22 rfl (by decide) rfl ?_
  exact jx_lv [1, 2, 3, 0] rfl h
set_option maxRecDepth 100000 in
set_option maxHeartbeats 4000000 in
theorem T_X10_never_23 {E : jEnv} {d : Nat} {Q : Int32 → jM → Prop} {a0 : Nat} {x1 : Int32} {x2 : Int32} {x3 : Int32} {S : jM} (h : (10 ≤ x3 → L_X10_never_13 E d Q a0 x1 (x2 + 1) S) ∧ (¬ 10 ≤ x3 → ((x1 &&& ((jshl 1 x2) ||| (jshl 1 x3))) = ((jshl 1 x2) ||| (jshl 1 x3)) → jk S a0 = 10 ∧ ∃ b12, jr S a0 0 = some b12 ∧ (jk S b12 = 3 ∧ ∃ b14, jr S b12 0 = some b14 ∧ (jk S b14 = 0 ∧ jFi E mX0_canBringTogether d 0 0 [.ref b14, .int ((jshl 1 x2) ||| (jshl 1 x3))] S (fun r17 S16 => (r17 = 0 → Q ((10 * x2) + x3) S16) ∧ (¬ r17 = 0 → L_X10_never_23 E d Q a0 x1 x2 (x3 + 1) S16))))) ∧ (¬ (x1 &&& ((jshl 1 x2) ||| (jshl 1 x3))) = ((jshl 1 x2) ||| (jshl 1 x3)) → L_X10_never_23 E d Q a0 x1 x2 (x3 + 1) S))) : L_X10_never_23 E d Q a0 x1 x2 x3 S := by
  show jX E mX10_never (jRm (d + 1) 0 0) (jZm E (fun r S' => ∃ v : Int32, r = some (.int v) ∧ Q v S') 0 0) 23 [(0, .ref a0), (1, .int x1), (2, .int x2), (3, .int x3)] [] S 0 0
  refine jx_iload_n 3 dX10_never_23 rfl rfl ?_
  refine jx_bipush (v := 10) dX10_never_24 (by decide) ?_
  refine jx_icmp_ge (tgt := 75) dX10_never_26 (by decide) (fun c9 => ?_) (fun c9 => ?_)
  · replace h := h.1 c9
    refine jx_iinc 2 (v := (x2 + 1)) (lv1 := [(2, .int (x2 + 1)), (0, .ref a0), (1, .int x1), (3, .int x3)]) kd51.2.2.1 rfl rfl (by decide) rfl ?_
    refine jx_goto (tgt := 13) kd51.2.2.2 (by decide) ?_
    exact jx_lv [1, 2, 0] rfl h
  replace h := h.2 c9
  refine jx_iconst (v := 1) dX10_never_29 (by decide) ?_
  refine jx_iload_n 2 dX10_never_30 rfl rfl ?_
  refine jx_ishl dX10_never_31 ?_
  refine jx_iconst (v := 1) dX10_never_32 (by decide) ?_
  refine jx_iload_n 3 dX10_never_33 rfl rfl ?_
  refine jx_ishl dX10_never_34 ?_
  refine jx_ior dX10_never_35 ?_
  refine jx_istore (lv1 := [(4, .int ((jshl 1 x2) ||| (jshl 1 x3))), (0, .ref a0), (1, .int x1), (2, .int x2), (3, .int x3)]) dX10_never_36 (by decide) rfl ?_
  refine jx_iload_n 2 dX10_never_38 rfl rfl ?_
  refine jx_iload 0 dX10_never_39 rfl ?_
  refine jx_iand dX10_never_41 ?_
  refine jx_iload 0 dX10_never_42 rfl ?_
  refine jx_icmp_ne (tgt := 69) dX10_never_44 (by decide) (fun c10 => ?_) (fun c10 => ?_)
  · replace h := h.2 c10
    refine jx_iinc 4 (v := (x3 + 1)) (lv1 := [(3, .int (x3 + 1)), (4, .int ((jshl 1 x2) ||| (jshl 1 x3))), (0, .ref a0), (1, .int x1), (2, .int x2)]) kd51.1 rfl rfl (by decide) rfl ?_
    refine jx_goto (tgt := 23) kd51.2.1 (by decide) ?_
    exact jx_lv [2, 3, 4, 0] rfl h
  replace h := h.1 c10
  refine jx_aload_n 1 dX10_never_47 rfl rfl ?_
  obtain ⟨hk11, h⟩ := h
  obtain ⟨b12, hb12, h⟩ := h
  refine jx_getr jc_10 (j := 0) (by decide) rfl jwF_X10_12 dX10_never_48 hk11 hb12 ?_
  obtain ⟨hk13, h⟩ := h
  obtain ⟨b14, hb14, h⟩ := h
  refine jx_getr jc_3 (j := 0) (by decide) rfl jwF_X10_63 dX10_never_51 hk13 hb14 ?_
  refine jx_iload 0 dX10_never_54 rfl ?_
  obtain ⟨hk15, h⟩ := h
  refine jx_callVi (M' := mX0_canBringTogether) (As := [.int ((jshl 1 x2) ||| (jshl 1 x3))]) jo_X0_canBringTogether jc_0 rfl jwM_X10_235 jwN_X0_canBringTogether jwX_X0_canBringTogether dX10_never_56 (jRok_m _ _ _) rfl (jle rfl) ⟨jle rfl, jle rfl⟩ hk15 h (fun r17 S16 h => ?_)
  refine jx_if_ne (tgt := 69) dX10_never_59 (by decide) (fun c18 => ?_) (fun c18 => ?_)
  · replace h := h.2 c18
    refine jx_iinc 4 (v := (x3 + 1)) (lv1 := [(3, .int (x3 + 1)), (4, .int ((jshl 1 x2) ||| (jshl 1 x3))), (0, .ref a0), (1, .int x1), (2, .int x2)]) kd51.1 rfl rfl (by decide) rfl ?_
    refine jx_goto (tgt := 23) kd51.2.1 (by decide) ?_
    exact jx_lv [2, 3, 4, 0] rfl h
  replace h := h.1 c18
  refine jx_bipush (v := 10) dX10_never_62 (by decide) ?_
  refine jx_iload_n 3 dX10_never_64 rfl rfl ?_
  refine jx_imul dX10_never_65 ?_
  refine jx_iload_n 4 dX10_never_66 rfl rfl ?_
  refine jx_iadd dX10_never_67 ?_
  exact jx_iret dX10_never_68 rfl rfl (jle rfl) (jle rfl) ⟨_, rfl, h⟩
set_option maxRecDepth 100000 in
set_option maxHeartbeats 4000000 in
theorem T_X10_last {E : jEnv} {d : Nat} {Q : Int32 → jM → Prop} {a0 : Nat} {x1 : Int32} {S : jM} (h : ((jwi x1 10) = 0 → Q (-1000000001) S) ∧ (¬ (jwi x1 10) = 0 → jk S a0 = 10 ∧ ∃ b6, jr S a0 0 = some b6 ∧ (jk S b6 = 3 ∧ ∃ b8, jr S b6 0 = some b8 ∧ (jk S b8 = 0 ∧ jFi E mX0_onlyTeacher d 0 0 [.ref b8, .int x1] S (fun r11 S10 => Q r11 S10))))) : jFi E mX10_last (d + 1) 0 0 [.ref a0, .int x1] S Q := by
  refine jF_of (by decide) (jle rfl) ?_
  refine jx_lv (lv1 := [(0, .ref a0), (1, .int x1)]) [0, 1] rfl ?_
  refine jx_iload_n 1 dX10_last_0 rfl rfl ?_
  refine jx_bipush (v := 10) dX10_last_1 (by decide) ?_
  refine jx_callSi (M' := mX10_within) (As := [.int x1, .int 10]) jo_X10_within jwM_X10_58 jwS_X10_within dX10_last_3 (jRok_m _ _ _) rfl (jle rfl) ⟨jle rfl, jle rfl⟩ (c_X10_within (Q := fun v S' => v = (jwi x1 10) ∧ S = S') ⟨rfl, rfl⟩) (fun r1 S2 hq3 => ?_)
  obtain ⟨rfl, rfl⟩ := hq3
  refine jx_if_ne (tgt := 12) dX10_last_6 (by decide) (fun c4 => ?_) (fun c4 => ?_)
  · replace h := h.2 c4
    refine jx_aload_n 0 dX10_last_12 rfl rfl ?_
    obtain ⟨hk5, h⟩ := h
    obtain ⟨b6, hb6, h⟩ := h
    refine jx_getr jc_10 (j := 0) (by decide) rfl jwF_X10_12 dX10_last_13 hk5 hb6 ?_
    obtain ⟨hk7, h⟩ := h
    obtain ⟨b8, hb8, h⟩ := h
    refine jx_getr jc_3 (j := 0) (by decide) rfl jwF_X10_63 dX10_last_16 hk7 hb8 ?_
    refine jx_iload_n 1 dX10_last_19 rfl rfl ?_
    obtain ⟨hk9, h⟩ := h
    refine jx_callVi (M' := mX0_onlyTeacher) (As := [.int x1]) jo_X0_onlyTeacher jc_0 rfl jwM_X10_241 jwN_X0_onlyTeacher jwX_X0_onlyTeacher dX10_last_20 (jRok_m _ _ _) rfl (jle rfl) ⟨jle rfl, jle rfl⟩ hk9 h (fun r11 S10 h => ?_)
    exact jx_iret dX10_last_23 rfl rfl (jle rfl) (jle rfl) ⟨_, rfl, h⟩
  replace h := h.1 c4
  refine jx_ldc jwC_X10_62 dX10_last_9 ?_
  exact jx_iret dX10_last_11 rfl rfl (jle rfl) (jle rfl) ⟨_, rfl, h⟩
set_option maxRecDepth 100000 in
set_option maxHeartbeats 4000000 in
theorem T_X10_years {E : jEnv} {d : Nat} {Q : Int32 → jM → Prop} {a0 : Nat} {x1 : Int32} {S : jM} (h : (x1 < 1 → Q (-1000000001) S) ∧ (¬ x1 < 1 → (x1 ≤ 60 → jk S a0 = 10 ∧ ∃ b4, jr S a0 0 = some b4 ∧ (jk S b4 = 3 ∧ ∃ b6, jr S b4 0 = some b6 ∧ (jk S b6 = 0 ∧ jFi E mX0_countDead d 0 0 [.ref b6] S (fun r9 S8 => jk S8 a0 = 10 ∧ ∃ b11, jr S8 a0 0 = some b11 ∧ (jk S8 b11 = 3 ∧ ∃ b13, jr S8 b11 0 = some b13 ∧ (jk S8 b13 = 0 ∧ jFv E mX0_liveYears d 0 0 [.ref b13, .int x1] S8 (fun S15 => jk S15 a0 = 10 ∧ ∃ b17, jr S15 a0 0 = some b17 ∧ (jk S15 b17 = 3 ∧ ∃ b19, jr S15 b17 0 = some b19 ∧ (jk S15 b19 = 0 ∧ jFi E mX0_countDead d 0 0 [.ref b19] S15 (fun r22 S21 => Q (r22 - r9) S21)))))))))) ∧ (¬ x1 ≤ 60 → Q (-1000000001) S))) : jFi E mX10_years (d + 1) 0 0 [.ref a0, .int x1] S Q := by
  refine jF_of (by decide) (jle rfl) ?_
  refine jx_lv (lv1 := [(0, .ref a0), (1, .int x1)]) [0, 1] rfl ?_
  refine jx_iload_n 1 dX10_years_0 rfl rfl ?_
  refine jx_iconst (v := 1) dX10_years_1 (by decide) ?_
  refine jx_icmp_lt (tgt := 11) dX10_years_2 (by decide) (fun c1 => ?_) (fun c1 => ?_)
  · replace h := h.1 c1
    refine jx_ldc jwC_X10_62 dX10_years_11 ?_
    exact jx_iret dX10_years_13 rfl rfl (jle rfl) (jle rfl) ⟨_, rfl, h⟩
  replace h := h.2 c1
  refine jx_iload_n 1 dX10_years_5 rfl rfl ?_
  refine jx_bipush (v := 60) dX10_years_6 (by decide) ?_
  refine jx_icmp_le (tgt := 14) dX10_years_8 (by decide) (fun c2 => ?_) (fun c2 => ?_)
  · replace h := h.1 c2
    refine jx_aload_n 0 dX10_years_14 rfl rfl ?_
    obtain ⟨hk3, h⟩ := h
    obtain ⟨b4, hb4, h⟩ := h
    refine jx_getr jc_10 (j := 0) (by decide) rfl jwF_X10_12 dX10_years_15 hk3 hb4 ?_
    obtain ⟨hk5, h⟩ := h
    obtain ⟨b6, hb6, h⟩ := h
    refine jx_getr jc_3 (j := 0) (by decide) rfl jwF_X10_63 dX10_years_18 hk5 hb6 ?_
    obtain ⟨hk7, h⟩ := h
    refine jx_callVi (M' := mX0_countDead) (As := []) jo_X0_countDead jc_0 rfl jwM_X10_244 jwN_X0_countDead jwX_X0_countDead dX10_years_21 (jRok_m _ _ _) rfl (jle rfl) ⟨jle rfl, jle rfl⟩ hk7 h (fun r9 S8 h => ?_)
    refine jx_istore_n (lv1 := [(2, .int r9), (0, .ref a0), (1, .int x1)]) dX10_years_24 rfl (by decide) rfl ?_
    refine jx_aload_n 1 dX10_years_25 rfl rfl ?_
    obtain ⟨hk10, h⟩ := h
    obtain ⟨b11, hb11, h⟩ := h
    refine jx_getr jc_10 (j := 0) (by decide) rfl jwF_X10_12 dX10_years_26 hk10 hb11 ?_
    obtain ⟨hk12, h⟩ := h
    obtain ⟨b13, hb13, h⟩ := h
    refine jx_getr jc_3 (j := 0) (by decide) rfl jwF_X10_63 dX10_years_29 hk12 hb13 ?_
    refine jx_iload_n 2 dX10_years_32 rfl rfl ?_
    obtain ⟨hk14, h⟩ := h
    refine jx_callVv (M' := mX0_liveYears) (As := [.int x1]) jo_X0_liveYears jc_0 rfl jwM_X10_247 jwN_X0_liveYears jwX_X0_liveYears dX10_years_33 (jRok_m _ _ _) rfl (jle rfl) ⟨jle rfl, jle rfl⟩ hk14 h (fun S15 h => ?_)
    refine jx_aload_n 1 dX10_years_36 rfl rfl ?_
    obtain ⟨hk16, h⟩ := h
    obtain ⟨b17, hb17, h⟩ := h
    refine jx_getr jc_10 (j := 0) (by decide) rfl jwF_X10_12 dX10_years_37 hk16 hb17 ?_
    obtain ⟨hk18, h⟩ := h
    obtain ⟨b19, hb19, h⟩ := h
    refine jx_getr jc_3 (j := 0) (by decide) rfl jwF_X10_63 dX10_years_40 hk18 hb19 ?_
    obtain ⟨hk20, h⟩ := h
    refine jx_callVi (M' := mX0_countDead) (As := []) jo_X0_countDead jc_0 rfl jwM_X10_244 jwN_X0_countDead jwX_X0_countDead dX10_years_43 (jRok_m _ _ _) rfl (jle rfl) ⟨jle rfl, jle rfl⟩ hk20 h (fun r22 S21 h => ?_)
    refine jx_iload_n 0 dX10_years_46 rfl rfl ?_
    refine jx_isub dX10_years_47 ?_
    exact jx_iret dX10_years_48 rfl rfl (jle rfl) (jle rfl) ⟨_, rfl, h⟩
  replace h := h.2 c2
  refine jx_ldc jwC_X10_62 dX10_years_11 ?_
  exact jx_iret dX10_years_13 rfl rfl (jle rfl) (jle rfl) ⟨_, rfl, h⟩
set_option maxRecDepth 100000 in
set_option maxHeartbeats 4000000 in
theorem T_X10_gone {E : jEnv} {d : Nat} {Q : Int32 → jM → Prop} {a0 : Nat} {x1 : Int32} {S : jM} (h : (x1 < 0 → Q (-1000000001) S) ∧ (¬ x1 < 0 → (x1 ≤ 60 → jk S a0 = 10 ∧ ∃ b4, jr S a0 3 = some b4 ∧ (∃ b5, jr S a0 0 = some b5 ∧ (jk S b5 = 3 ∧ ∃ b7, jr S b5 0 = some b7 ∧ (jk S b4 = 0 ∧ jFv E mX0_become d 0 0 [.ref b4, .ref b7] S (fun S9 => jk S9 a0 = 10 ∧ ∃ b11, jr S9 a0 3 = some b11 ∧ (jk S9 b11 = 0 ∧ jFv E mX0_liveYears d 0 0 [.ref b11, .int x1] S9 (fun S13 => jk S13 a0 = 10 ∧ ∃ b15, jr S13 a0 0 = some b15 ∧ (jk S13 b15 = 3 ∧ ∃ b17, jr S13 b15 0 = some b17 ∧ (jk S13 b17 = 0 ∧ jFi E mX0_taught d 0 0 [.ref b17] S13 (fun r20 S19 => jk S19 a0 = 10 ∧ ∃ b22, jr S19 a0 3 = some b22 ∧ (jk S19 b22 = 0 ∧ jFi E mX0_taught d 0 0 [.ref b22] S19 (fun r25 S24 => Q (jbc (r20 &&& (r25 ^^^ (-1)))) S24)))))))))))) ∧ (¬ x1 ≤ 60 → Q (-1000000001) S))) : jFi E mX10_gone (d + 1) 0 0 [.ref a0, .int x1] S Q := by
  refine jF_of (by decide) (jle rfl) ?_
  refine jx_lv (lv1 := [(0, .ref a0), (1, .int x1)]) [0, 1] rfl ?_
  refine jx_iload_n 1 dX10_gone_0 rfl rfl ?_
  refine jx_if_lt (tgt := 10) dX10_gone_1 (by decide) (fun c1 => ?_) (fun c1 => ?_)
  · replace h := h.1 c1
    refine jx_ldc jwC_X10_62 dX10_gone_10 ?_
    exact jx_iret dX10_gone_12 rfl rfl (jle rfl) (jle rfl) ⟨_, rfl, h⟩
  replace h := h.2 c1
  refine jx_iload_n 1 dX10_gone_4 rfl rfl ?_
  refine jx_bipush (v := 60) dX10_gone_5 (by decide) ?_
  refine jx_icmp_le (tgt := 13) dX10_gone_7 (by decide) (fun c2 => ?_) (fun c2 => ?_)
  · replace h := h.1 c2
    refine jx_aload_n 0 dX10_gone_13 rfl rfl ?_
    obtain ⟨hk3, h⟩ := h
    obtain ⟨b4, hb4, h⟩ := h
    refine jx_getr jc_10 (j := 3) (by decide) rfl jwF_X10_22 dX10_gone_14 hk3 hb4 ?_
    refine jx_aload_n 0 dX10_gone_17 rfl rfl ?_
    obtain ⟨b5, hb5, h⟩ := h
    refine jx_getr jc_10 (j := 0) (by decide) rfl jwF_X10_12 dX10_gone_18 hk3 hb5 ?_
    obtain ⟨hk6, h⟩ := h
    obtain ⟨b7, hb7, h⟩ := h
    refine jx_getr jc_3 (j := 0) (by decide) rfl jwF_X10_63 dX10_gone_21 hk6 hb7 ?_
    obtain ⟨hk8, h⟩ := h
    refine jx_callVv (M' := mX0_become) (As := [.ref b7]) jo_X0_become jc_0 rfl jwM_X10_250 jwN_X0_become jwX_X0_become dX10_gone_24 (jRok_m _ _ _) rfl (jle rfl) ⟨jle rfl, jle rfl⟩ hk8 h (fun S9 h => ?_)
    refine jx_aload_n 0 dX10_gone_27 rfl rfl ?_
    obtain ⟨hk10, h⟩ := h
    obtain ⟨b11, hb11, h⟩ := h
    refine jx_getr jc_10 (j := 3) (by decide) rfl jwF_X10_22 dX10_gone_28 hk10 hb11 ?_
    refine jx_iload_n 1 dX10_gone_31 rfl rfl ?_
    obtain ⟨hk12, h⟩ := h
    refine jx_callVv (M' := mX0_liveYears) (As := [.int x1]) jo_X0_liveYears jc_0 rfl jwM_X10_247 jwN_X0_liveYears jwX_X0_liveYears dX10_gone_32 (jRok_m _ _ _) rfl (jle rfl) ⟨jle rfl, jle rfl⟩ hk12 h (fun S13 h => ?_)
    refine jx_aload_n 0 dX10_gone_35 rfl rfl ?_
    obtain ⟨hk14, h⟩ := h
    obtain ⟨b15, hb15, h⟩ := h
    refine jx_getr jc_10 (j := 0) (by decide) rfl jwF_X10_12 dX10_gone_36 hk14 hb15 ?_
    obtain ⟨hk16, h⟩ := h
    obtain ⟨b17, hb17, h⟩ := h
    refine jx_getr jc_3 (j := 0) (by decide) rfl jwF_X10_63 dX10_gone_39 hk16 hb17 ?_
    obtain ⟨hk18, h⟩ := h
    refine jx_callVi (M' := mX0_taught) (As := []) jo_X0_taught jc_0 rfl jwM_X10_238 jwN_X0_taught jwX_X0_taught dX10_gone_42 (jRok_m _ _ _) rfl (jle rfl) ⟨jle rfl, jle rfl⟩ hk18 h (fun r20 S19 h => ?_)
    refine jx_aload_n 0 dX10_gone_45 rfl rfl ?_
    obtain ⟨hk21, h⟩ := h
    obtain ⟨b22, hb22, h⟩ := h
    refine jx_getr jc_10 (j := 3) (by decide) rfl jwF_X10_22 dX10_gone_46 hk21 hb22 ?_
    obtain ⟨hk23, h⟩ := h
    refine jx_callVi (M' := mX0_taught) (As := []) jo_X0_taught jc_0 rfl jwM_X10_238 jwN_X0_taught jwX_X0_taught dX10_gone_49 (jRok_m _ _ _) rfl (jle rfl) ⟨jle rfl, jle rfl⟩ hk23 h (fun r25 S24 h => ?_)
    refine jx_iconst (v := (-1)) dX10_gone_52 (by decide) ?_
    refine jx_ixor dX10_gone_53 ?_
    refine jx_iand dX10_gone_54 ?_
    refine jx_callSi (M' := mJ6_bitCount_0f7a4) (As := [.int (r20 &&& (r25 ^^^ (-1)))]) jo_J6_bitCount_0f7a4 jwM_X10_112 jwS_J6_bitCount_0f7a4 dX10_gone_55 (jRok_m _ _ _) rfl (jle rfl) ⟨jle rfl, jle rfl⟩ (c_J6_bitCount_0f7a4 (Q := fun v S' => v = (jbc (r20 &&& (r25 ^^^ (-1)))) ∧ S24 = S') ⟨rfl, rfl⟩) (fun r26 S27 hq28 => ?_)
    obtain ⟨rfl, rfl⟩ := hq28
    exact jx_iret dX10_gone_58 rfl rfl (jle rfl) (jle rfl) ⟨_, rfl, h⟩
  replace h := h.2 c2
  refine jx_ldc jwC_X10_62 dX10_gone_10 ?_
  exact jx_iret dX10_gone_12 rfl rfl (jle rfl) (jle rfl) ⟨_, rfl, h⟩
end
section
/-- X10_fresh at its loop's head 4 -/
abbrev L_X10_fresh_4 (E : jEnv) (d : Nat) (Q : Int32 → jM → Prop) (a0 : Nat) (x1 : Int32) (x2 : Int32) (S : jM) : Prop := jX E mX10_fresh (jRm (d + 1) 0 0) (jZm E (fun r S' => ∃ v : Int32, r = some (.int v) ∧ Q v S') 0 0) 4 [(0, .ref a0), (1, .int x1), (2, .int x2)] [] S 0 0
set_option maxRecDepth 100000 in
set_option maxHeartbeats 4000000 in
theorem T_X10_fresh {E : jEnv} {d : Nat} {Q : Int32 → jM → Prop} {a0 : Nat} {S : jM} (h : L_X10_fresh_4 E d Q a0 0 1 S) : jFi E mX10_fresh (d + 1) 0 0 [.ref a0] S Q := by
  refine jF_of (by decide) (jle rfl) ?_
  refine jx_lv (lv1 := [(0, .ref a0)]) [0] rfl ?_
  refine jx_iconst (v := 0) dX10_fresh_0 (by decide) ?_
  refine jx_istore_n (lv1 := [(1, .int 0), (0, .ref a0)]) dX10_fresh_1 rfl (by decide) rfl ?_
  refine jx_iconst (v := 1) dX10_fresh_2 (by decide) ?_
  refine jx_istore_n (lv1 := [(2, .int 1), (1, .int 0), (0, .ref a0)]) dX10_fresh_3 rfl (by decide) rfl ?_
  exact jx_lv [2, 1, 0] rfl h
set_option maxRecDepth 100000 in
set_option maxHeartbeats 4000000 in
theorem T_X10_fresh_4 {E : jEnv} {d : Nat} {Q : Int32 → jM → Prop} {a0 : Nat} {x1 : Int32} {x2 : Int32} {S : jM} (h : (6 ≤ x2 → Q x1 S) ∧ (¬ 6 ≤ x2 → jk S a0 = 10 ∧ ∃ b3, jr S a0 0 = some b3 ∧ (jk S b3 = 3 ∧ jFi E mX3_waysToMasters d 0 0 [.ref b3, .int x2] S (fun r6 S5 => jk S5 a0 = 10 ∧ ∃ b8, jr S5 a0 0 = some b8 ∧ (jk S5 b8 = 3 ∧ jFi E mX3_waysToMasters d 0 0 [.ref b8, .int x1] S5 (fun r11 S10 => (r11 ≤ r6 → L_X10_fresh_4 E d Q a0 x1 (x2 + 1) S10) ∧ (¬ r11 ≤ r6 → L_X10_fresh_4 E d Q a0 x2 (x2 + 1) S10))))))) : L_X10_fresh_4 E d Q a0 x1 x2 S := by
  show jX E mX10_fresh (jRm (d + 1) 0 0) (jZm E (fun r S' => ∃ v : Int32, r = some (.int v) ∧ Q v S') 0 0) 4 [(0, .ref a0), (1, .int x1), (2, .int x2)] [] S 0 0
  refine jx_iload_n 2 dX10_fresh_4 rfl rfl ?_
  refine jx_bipush (v := 6) dX10_fresh_5 (by decide) ?_
  refine jx_icmp_ge (tgt := 37) dX10_fresh_7 (by decide) (fun c1 => ?_) (fun c1 => ?_)
  · replace h := h.1 c1
    refine jx_iload_n 1 dX10_fresh_37 rfl rfl ?_
    exact jx_iret dX10_fresh_38 rfl rfl (jle rfl) (jle rfl) ⟨_, rfl, h⟩
  replace h := h.2 c1
  refine jx_aload_n 0 dX10_fresh_10 rfl rfl ?_
  obtain ⟨hk2, h⟩ := h
  obtain ⟨b3, hb3, h⟩ := h
  refine jx_getr jc_10 (j := 0) (by decide) rfl jwF_X10_12 dX10_fresh_11 hk2 hb3 ?_
  refine jx_iload_n 2 dX10_fresh_14 rfl rfl ?_
  obtain ⟨hk4, h⟩ := h
  refine jx_callVi (M' := mX3_waysToMasters) (As := [.int x2]) jo_X3_waysToMasters jc_3 rfl jwM_X10_254 jwN_X3_waysToMasters jwX_X3_waysToMasters dX10_fresh_15 (jRok_m _ _ _) rfl (jle rfl) ⟨jle rfl, jle rfl⟩ hk4 h (fun r6 S5 h => ?_)
  refine jx_aload_n 0 dX10_fresh_18 rfl rfl ?_
  obtain ⟨hk7, h⟩ := h
  obtain ⟨b8, hb8, h⟩ := h
  refine jx_getr jc_10 (j := 0) (by decide) rfl jwF_X10_12 dX10_fresh_19 hk7 hb8 ?_
  refine jx_iload_n 1 dX10_fresh_22 rfl rfl ?_
  obtain ⟨hk9, h⟩ := h
  refine jx_callVi (M' := mX3_waysToMasters) (As := [.int x1]) jo_X3_waysToMasters jc_3 rfl jwM_X10_254 jwN_X3_waysToMasters jwX_X3_waysToMasters dX10_fresh_23 (jRok_m _ _ _) rfl (jle rfl) ⟨jle rfl, jle rfl⟩ hk9 h (fun r11 S10 h => ?_)
  refine jx_icmp_ge (tgt := 31) dX10_fresh_26 (by decide) (fun c12 => ?_) (fun c12 => ?_)
  · replace h := h.1 c12
    refine jx_iinc 2 (v := (x2 + 1)) (lv1 := [(2, .int (x2 + 1)), (0, .ref a0), (1, .int x1)]) kd52.1 rfl rfl (by decide) rfl ?_
    refine jx_goto (tgt := 4) kd52.2 (by decide) ?_
    exact jx_lv [1, 2, 0] rfl h
  replace h := h.2 c12
  refine jx_iload_n 2 dX10_fresh_29 rfl rfl ?_
  refine jx_istore_n (lv1 := [(1, .int x2), (0, .ref a0), (2, .int x2)]) dX10_fresh_30 rfl (by decide) rfl ?_
  refine jx_iinc 2 (v := (x2 + 1)) (lv1 := [(2, .int (x2 + 1)), (1, .int x2), (0, .ref a0)]) kd52.1 rfl rfl (by decide) rfl ?_
  refine jx_goto (tgt := 4) kd52.2 (by decide) ?_
  exact jx_lv [2, 1, 0] rfl h
/-- X10_cut at its loop's head 45 -/
abbrev L_X10_cut_45 (E : jEnv) (d : Nat) (Q : Int32 → jM → Prop) (a0 : Nat) (x2 : Int32) (a3 : Nat) (x4 : Int32) (x5 : Int32) (x6 : Int32) (S : jM) : Prop := jX E mX10_cut (jRm (d + 1) 0 0) (jZm E (fun r S' => ∃ v : Int32, r = some (.int v) ∧ Q v S') 0 0) 45 [(0, .ref a0), (2, .int x2), (3, .ref a3), (4, .int x4), (5, .int x5), (6, .int x6)] [] S 0 0
set_option maxRecDepth 100000 in
set_option maxHeartbeats 4000000 in
theorem T_X10_cut {E : jEnv} {d : Nat} {Q : Int32 → jM → Prop} {a0 : Nat} {x1 : Int32} {x2 : Int32} {S : jM} (h : jk S a0 = 10 ∧ jFr E mX10_findSheet d 0 0 [.ref a0, .int x1] S (fun o3 S2 => (o3 = none → Q (-1000000001) S2) ∧ (∀ b4, o3 = some b4 → ((jwi x2 2) = 0 → Q (-1000000001) S2) ∧ (¬ (jwi x2 2) = 0 → jk S2 b4 = 6 ∧ ((ji S2 b4 0) = (-1) → Q (-1000000011) S2) ∧ (¬ (ji S2 b4 0) = (-1) → L_X10_cut_45 E d Q a0 x2 b4 (-1000000005) 1000000000 0 S2))))) : jFi E mX10_cut (d + 1) 0 0 [.ref a0, .int x1, .int x2] S Q := by
  refine jF_of (by decide) (jle rfl) ?_
  refine jx_lv (lv1 := [(0, .ref a0), (1, .int x1), (2, .int x2)]) [0, 1, 2] rfl ?_
  refine jx_aload_n 0 dX10_cut_0 rfl rfl ?_
  refine jx_iload_n 1 dX10_cut_1 rfl rfl ?_
  obtain ⟨hk1, h⟩ := h
  refine jx_callVr (M' := mX10_findSheet) (As := [.int x1]) jo_X10_findSheet jc_10 rfl jwM_X10_257 jwN_X10_findSheet jwX_X10_findSheet dX10_cut_2 (jRok_m _ _ _) rfl (jle rfl) ⟨jle rfl, jle rfl⟩ hk1 h (fun o3 S2 h => ?_)
  rcases o3 with _ | b4
  · replace h := h.1 rfl
    refine jx_astore_nN (lv1 := [(3, .null), (0, .ref a0), (1, .int x1), (2, .int x2)]) dX10_cut_5 rfl (by decide) rfl ?_
    refine jx_aload_nN 0 dX10_cut_6 rfl rfl ?_
    refine jx_ifnullN (tgt := 18) dX10_cut_7 (by decide) ?_
    refine jx_ldc jwC_X10_62 dX10_cut_18 ?_
    exact jx_iret dX10_cut_20 rfl rfl (jle rfl) (jle rfl) ⟨_, rfl, h⟩
  replace h := h.2 b4 rfl
  refine jx_astore_n (lv1 := [(3, .ref b4), (0, .ref a0), (1, .int x1), (2, .int x2)]) dX10_cut_5 rfl (by decide) rfl ?_
  refine jx_aload_n 0 dX10_cut_6 rfl rfl ?_
  refine jx_ifnull dX10_cut_7 ?_
  refine jx_iload_n 3 dX10_cut_10 rfl rfl ?_
  refine jx_iconst (v := 2) dX10_cut_11 (by decide) ?_
  refine jx_callSi (M' := mX10_within) (As := [.int x2, .int 2]) jo_X10_within jwM_X10_58 jwS_X10_within dX10_cut_12 (jRok_m _ _ _) rfl (jle rfl) ⟨jle rfl, jle rfl⟩ (c_X10_within (Q := fun v S' => v = (jwi x2 2) ∧ S2 = S') ⟨rfl, rfl⟩) (fun r5 S6 hq7 => ?_)
  obtain ⟨rfl, rfl⟩ := hq7
  refine jx_if_ne (tgt := 21) dX10_cut_15 (by decide) (fun c8 => ?_) (fun c8 => ?_)
  · replace h := h.2 c8
    refine jx_aload_n 0 dX10_cut_21 rfl rfl ?_
    obtain ⟨hk9, h⟩ := h
    refine jx_geti jc_6 (j := 0) (by decide) rfl jwF_X10_261 dX10_cut_22 hk9 ?_
    refine jx_iconst (v := (-1)) dX10_cut_25 (by decide) ?_
    refine jx_icmp_ne (tgt := 33) dX10_cut_26 (by decide) (fun c10 => ?_) (fun c10 => ?_)
    · replace h := h.2 c10
      refine jx_ldc jwC_X10_160 dX10_cut_33 ?_
      refine jx_istore (lv1 := [(4, .int (-1000000005)), (3, .ref b4), (0, .ref a0), (1, .int x1), (2, .int x2)]) dX10_cut_35 (by decide) rfl ?_
      refine jx_ldcw jwC_X10_265 dX10_cut_37 ?_
      refine jx_istore (lv1 := [(5, .int 1000000000), (4, .int (-1000000005)), (3, .ref b4), (0, .ref a0), (1, .int x1), (2, .int x2)]) dX10_cut_40 (by decide) rfl ?_
      refine jx_iconst (v := 0) dX10_cut_42 (by decide) ?_
      refine jx_istore (lv1 := [(6, .int 0), (5, .int 1000000000), (4, .int (-1000000005)), (3, .ref b4), (0, .ref a0), (1, .int x1), (2, .int x2)]) dX10_cut_43 (by decide) rfl ?_
      exact jx_lv [4, 6, 3, 2, 1, 0] rfl h
    replace h := h.1 c10
    refine jx_ldcw jwC_X10_264 dX10_cut_29 ?_
    exact jx_iret dX10_cut_32 rfl rfl (jle rfl) (jle rfl) ⟨_, rfl, h⟩
  replace h := h.1 c8
  refine jx_ldc jwC_X10_62 dX10_cut_18 ?_
  exact jx_iret dX10_cut_20 rfl rfl (jle rfl) (jle rfl) ⟨_, rfl, h⟩
set_option maxRecDepth 100000 in
set_option maxHeartbeats 4000000 in
theorem T_X10_cut_45 {E : jEnv} {d : Nat} {Q : Int32 → jM → Prop} {a0 : Nat} {x2 : Int32} {a3 : Nat} {x4 : Int32} {x5 : Int32} {x6 : Int32} {S : jM} (h : (9 ≤ x6 → (x2 = 0 → Q x4 S) ∧ (¬ x2 = 0 → (x4 = (-1000000005) → Q x4 S) ∧ (¬ x4 = (-1000000005) → Q x5 S))) ∧ (¬ 9 ≤ x6 → jk S a0 = 10 ∧ ∃ b15, jr S a0 0 = some b15 ∧ (jk S b15 = 3 ∧ ∃ b17, jr S b15 0 = some b17 ∧ (jk S b17 = 0 ∧ jFr E mX0_find d 0 0 [.ref b17, .int x6] S (fun o20 S19 => (o20 = none → (x5 ≤ x5 → L_X10_cut_45 E d Q a0 x2 a3 x4 x5 (x6 + 1) S19) ∧ (¬ x5 ≤ x5 → L_X10_cut_45 E d Q a0 x2 a3 x6 x5 (x6 + 1) S19)) ∧ (∀ b21, o20 = some b21 → jk S19 a0 = 10 ∧ ∃ b24, jr S19 a0 0 = some b24 ∧ (jk S19 b24 = 3 ∧ jFi E mX3_apart d 0 0 [.ref b24, .ref b21, .ref a3] S19 (fun r27 S26 => (x5 ≤ r27 → L_X10_cut_45 E d Q a0 x2 a3 x4 x5 (x6 + 1) S26) ∧ (¬ x5 ≤ r27 → L_X10_cut_45 E d Q a0 x2 a3 x6 r27 (x6 + 1) S26))))))))) : L_X10_cut_45 E d Q a0 x2 a3 x4 x5 x6 S := by
  show jX E mX10_cut (jRm (d + 1) 0 0) (jZm E (fun r S' => ∃ v : Int32, r = some (.int v) ∧ Q v S') 0 0) 45 [(0, .ref a0), (2, .int x2), (3, .ref a3), (4, .int x4), (5, .int x5), (6, .int x6)] [] S 0 0
  refine jx_iload 5 dX10_cut_45 rfl ?_
  refine jx_bipush (v := 9) dX10_cut_47 (by decide) ?_
  refine jx_icmp_ge (tgt := 109) dX10_cut_49 (by decide) (fun c11 => ?_) (fun c11 => ?_)
  · replace h := h.1 c11
    refine jx_iload_n 1 dX10_cut_109 rfl rfl ?_
    refine jx_if_eq (tgt := 120) dX10_cut_110 (by decide) (fun c12 => ?_) (fun c12 => ?_)
    · replace h := h.1 c12
      refine jx_iload 3 dX10_cut_120 rfl ?_
      refine jx_goto (tgt := 127) dX10_cut_122 (by decide) ?_
      exact jx_iret dX10_cut_127 rfl rfl (jle rfl) (jle rfl) ⟨_, rfl, h⟩
    replace h := h.2 c12
    refine jx_iload 3 dX10_cut_113 rfl ?_
    refine jx_ldc jwC_X10_160 dX10_cut_115 ?_
    refine jx_icmp_ne (tgt := 125) dX10_cut_117 (by decide) (fun c13 => ?_) (fun c13 => ?_)
    · replace h := h.2 c13
      refine jx_iload 4 dX10_cut_125 rfl ?_
      exact jx_iret dX10_cut_127 rfl rfl (jle rfl) (jle rfl) ⟨_, rfl, h⟩
    replace h := h.1 c13
    refine jx_iload 3 dX10_cut_120 rfl ?_
    refine jx_goto (tgt := 127) dX10_cut_122 (by decide) ?_
    exact jx_iret dX10_cut_127 rfl rfl (jle rfl) (jle rfl) ⟨_, rfl, h⟩
  replace h := h.2 c11
  refine jx_aload_n 0 dX10_cut_52 rfl rfl ?_
  obtain ⟨hk14, h⟩ := h
  obtain ⟨b15, hb15, h⟩ := h
  refine jx_getr jc_10 (j := 0) (by decide) rfl jwF_X10_12 dX10_cut_53 hk14 hb15 ?_
  obtain ⟨hk16, h⟩ := h
  obtain ⟨b17, hb17, h⟩ := h
  refine jx_getr jc_3 (j := 0) (by decide) rfl jwF_X10_63 dX10_cut_56 hk16 hb17 ?_
  refine jx_iload 5 dX10_cut_59 rfl ?_
  obtain ⟨hk18, h⟩ := h
  refine jx_callVr (M' := mX0_find) (As := [.int x6]) jo_X0_find jc_0 rfl jwM_X10_75 jwN_X0_find jwX_X0_find dX10_cut_61 (jRok_m _ _ _) rfl (jle rfl) ⟨jle rfl, jle rfl⟩ hk18 h (fun o20 S19 h => ?_)
  rcases o20 with _ | b21
  · replace h := h.1 rfl
    refine jx_astoreN (lv1 := [(7, .null), (0, .ref a0), (2, .int x2), (3, .ref a3), (4, .int x4), (5, .int x5), (6, .int x6)]) dX10_cut_64 (by decide) rfl ?_
    refine jx_aloadN 0 dX10_cut_66 rfl ?_
    refine jx_ifnonnullN dX10_cut_68 ?_
    refine jx_iload 5 dX10_cut_71 rfl ?_
    refine jx_goto (tgt := 86) dX10_cut_73 (by decide) ?_
    refine jx_istore (lv1 := [(8, .int x5), (7, .null), (0, .ref a0), (2, .int x2), (3, .ref a3), (4, .int x4), (5, .int x5), (6, .int x6)]) dX10_cut_86 (by decide) rfl ?_
    refine jx_iload 0 dX10_cut_88 rfl ?_
    refine jx_iload 6 dX10_cut_90 rfl ?_
    refine jx_icmp_ge (tgt := 103) dX10_cut_92 (by decide) (fun c22 => ?_) (fun c22 => ?_)
    · replace h := h.1 c22
      refine jx_iinc 7 (v := (x6 + 1)) (lv1 := [(6, .int (x6 + 1)), (8, .int x5), (7, .null), (0, .ref a0), (2, .int x2), (3, .ref a3), (4, .int x4), (5, .int x5)]) kd53.1 rfl rfl (by decide) rfl ?_
      refine jx_goto (tgt := 45) kd53.2 (by decide) ?_
      exact jx_lv [3, 4, 5, 6, 7, 0] rfl h
    replace h := h.2 c22
    refine jx_iload 7 dX10_cut_95 rfl ?_
    refine jx_istore (lv1 := [(4, .int x6), (8, .int x5), (7, .null), (0, .ref a0), (2, .int x2), (3, .ref a3), (5, .int x5), (6, .int x6)]) dX10_cut_97 (by decide) rfl ?_
    refine jx_iload 1 dX10_cut_99 rfl ?_
    refine jx_istore (lv1 := [(5, .int x5), (4, .int x6), (8, .int x5), (7, .null), (0, .ref a0), (2, .int x2), (3, .ref a3), (6, .int x6)]) dX10_cut_101 (by decide) rfl ?_
    refine jx_iinc 7 (v := (x6 + 1)) (lv1 := [(6, .int (x6 + 1)), (5, .int x5), (4, .int x6), (8, .int x5), (7, .null), (0, .ref a0), (2, .int x2), (3, .ref a3)]) kd53.1 rfl rfl (by decide) rfl ?_
    refine jx_goto (tgt := 45) kd53.2 (by decide) ?_
    exact jx_lv [5, 6, 7, 2, 1, 0] rfl h
  replace h := h.2 b21 rfl
  refine jx_astore (lv1 := [(7, .ref b21), (0, .ref a0), (2, .int x2), (3, .ref a3), (4, .int x4), (5, .int x5), (6, .int x6)]) dX10_cut_64 (by decide) rfl ?_
  refine jx_aload 0 dX10_cut_66 rfl ?_
  refine jx_ifnonnull (tgt := 76) dX10_cut_68 (by decide) ?_
  refine jx_aload_n 1 dX10_cut_76 rfl rfl ?_
  obtain ⟨hk23, h⟩ := h
  obtain ⟨b24, hb24, h⟩ := h
  refine jx_getr jc_10 (j := 0) (by decide) rfl jwF_X10_12 dX10_cut_77 hk23 hb24 ?_
  refine jx_aload 0 dX10_cut_80 rfl ?_
  refine jx_aload_n 3 dX10_cut_82 rfl rfl ?_
  obtain ⟨hk25, h⟩ := h
  refine jx_callVi (M' := mX3_apart) (As := [.ref b21, .ref a3]) jo_X3_apart jc_3 rfl jwM_X10_266 jwN_X3_apart jwX_X3_apart dX10_cut_83 (jRok_m _ _ _) rfl (jle rfl) ⟨jle rfl, jle rfl⟩ hk25 h (fun r27 S26 h => ?_)
  refine jx_istore (lv1 := [(8, .int r27), (7, .ref b21), (0, .ref a0), (2, .int x2), (3, .ref a3), (4, .int x4), (5, .int x5), (6, .int x6)]) dX10_cut_86 (by decide) rfl ?_
  refine jx_iload 0 dX10_cut_88 rfl ?_
  refine jx_iload 6 dX10_cut_90 rfl ?_
  refine jx_icmp_ge (tgt := 103) dX10_cut_92 (by decide) (fun c28 => ?_) (fun c28 => ?_)
  · replace h := h.1 c28
    refine jx_iinc 7 (v := (x6 + 1)) (lv1 := [(6, .int (x6 + 1)), (8, .int r27), (7, .ref b21), (0, .ref a0), (2, .int x2), (3, .ref a3), (4, .int x4), (5, .int x5)]) kd53.1 rfl rfl (by decide) rfl ?_
    refine jx_goto (tgt := 45) kd53.2 (by decide) ?_
    exact jx_lv [3, 4, 5, 6, 7, 0] rfl h
  replace h := h.2 c28
  refine jx_iload 7 dX10_cut_95 rfl ?_
  refine jx_istore (lv1 := [(4, .int x6), (8, .int r27), (7, .ref b21), (0, .ref a0), (2, .int x2), (3, .ref a3), (5, .int x5), (6, .int x6)]) dX10_cut_97 (by decide) rfl ?_
  refine jx_iload 1 dX10_cut_99 rfl ?_
  refine jx_istore (lv1 := [(5, .int r27), (4, .int x6), (8, .int r27), (7, .ref b21), (0, .ref a0), (2, .int x2), (3, .ref a3), (6, .int x6)]) dX10_cut_101 (by decide) rfl ?_
  refine jx_iinc 7 (v := (x6 + 1)) (lv1 := [(6, .int (x6 + 1)), (5, .int r27), (4, .int x6), (8, .int r27), (7, .ref b21), (0, .ref a0), (2, .int x2), (3, .ref a3)]) kd53.1 rfl rfl (by decide) rfl ?_
  refine jx_goto (tgt := 45) kd53.2 (by decide) ?_
  exact jx_lv [5, 6, 7, 2, 1, 0] rfl h
set_option maxRecDepth 100000 in
set_option maxHeartbeats 4000000 in
theorem T_X10_fame {E : jEnv} {d : Nat} {Q : Int32 → jM → Prop} {a0 : Nat} {x1 : Int32} {S : jM} (h : jk S a0 = 10 ∧ ∃ b2, jr S a0 0 = some b2 ∧ (jk S b2 = 3 ∧ ∃ b4, jr S b2 0 = some b4 ∧ (jk S b4 = 0 ∧ jFr E mX0_find d 0 0 [.ref b4, .int x1] S (fun o7 S6 => (o7 = none → Q (-1000000001) S6) ∧ (∀ b8, o7 = some b8 → jk S6 a0 = 10 ∧ ∃ b10, jr S6 a0 0 = some b10 ∧ (jk S6 b10 = 3 ∧ jFi E mX3_fameOf d 0 0 [.ref b10, .ref b8] S6 (fun r13 S12 => Q r13 S12))))))) : jFi E mX10_fame (d + 1) 0 0 [.ref a0, .int x1] S Q := by
  refine jF_of (by decide) (jle rfl) ?_
  refine jx_lv (lv1 := [(0, .ref a0), (1, .int x1)]) [0, 1] rfl ?_
  refine jx_aload_n 0 dX10_fame_0 rfl rfl ?_
  obtain ⟨hk1, h⟩ := h
  obtain ⟨b2, hb2, h⟩ := h
  refine jx_getr jc_10 (j := 0) (by decide) rfl jwF_X10_12 dX10_fame_1 hk1 hb2 ?_
  obtain ⟨hk3, h⟩ := h
  obtain ⟨b4, hb4, h⟩ := h
  refine jx_getr jc_3 (j := 0) (by decide) rfl jwF_X10_63 dX10_fame_4 hk3 hb4 ?_
  refine jx_iload_n 1 dX10_fame_7 rfl rfl ?_
  obtain ⟨hk5, h⟩ := h
  refine jx_callVr (M' := mX0_find) (As := [.int x1]) jo_X0_find jc_0 rfl jwM_X10_75 jwN_X0_find jwX_X0_find dX10_fame_8 (jRok_m _ _ _) rfl (jle rfl) ⟨jle rfl, jle rfl⟩ hk5 h (fun o7 S6 h => ?_)
  rcases o7 with _ | b8
  · replace h := h.1 rfl
    refine jx_astore_nN (lv1 := [(2, .null), (0, .ref a0), (1, .int x1)]) dX10_fame_11 rfl (by decide) rfl ?_
    refine jx_aload_nN 0 dX10_fame_12 rfl rfl ?_
    refine jx_ifnonnullN dX10_fame_13 ?_
    refine jx_ldc jwC_X10_62 dX10_fame_16 ?_
    refine jx_goto (tgt := 29) dX10_fame_18 (by decide) ?_
    exact jx_iret dX10_fame_29 rfl rfl (jle rfl) (jle rfl) ⟨_, rfl, h⟩
  replace h := h.2 b8 rfl
  refine jx_astore_n (lv1 := [(2, .ref b8), (0, .ref a0), (1, .int x1)]) dX10_fame_11 rfl (by decide) rfl ?_
  refine jx_aload_n 0 dX10_fame_12 rfl rfl ?_
  refine jx_ifnonnull (tgt := 21) dX10_fame_13 (by decide) ?_
  refine jx_aload_n 1 dX10_fame_21 rfl rfl ?_
  obtain ⟨hk9, h⟩ := h
  obtain ⟨b10, hb10, h⟩ := h
  refine jx_getr jc_10 (j := 0) (by decide) rfl jwF_X10_12 dX10_fame_22 hk9 hb10 ?_
  refine jx_aload_n 0 dX10_fame_25 rfl rfl ?_
  obtain ⟨hk11, h⟩ := h
  refine jx_callVi (M' := mX3_fameOf) (As := [.ref b8]) jo_X3_fameOf jc_3 rfl jwM_X10_270 jwN_X3_fameOf jwX_X3_fameOf dX10_fame_26 (jRok_m _ _ _) rfl (jle rfl) ⟨jle rfl, jle rfl⟩ hk11 h (fun r13 S12 h => ?_)
  exact jx_iret dX10_fame_29 rfl rfl (jle rfl) (jle rfl) ⟨_, rfl, h⟩
set_option maxRecDepth 100000 in
set_option maxHeartbeats 4000000 in
theorem T_X10_fine {E : jEnv} {d : Nat} {Q : Int32 → jM → Prop} {a0 : Nat} {S : jM} (h : jk S a0 = 10 ∧ ∃ b2, jr S a0 0 = some b2 ∧ (jk S b2 = 3 ∧ jFi E mX3_fineNow d 0 0 [.ref b2] S (fun r5 S4 => Q r5 S4))) : jFi E mX10_fine (d + 1) 0 0 [.ref a0] S Q := by
  refine jF_of (by decide) (jle rfl) ?_
  refine jx_lv (lv1 := [(0, .ref a0)]) [0] rfl ?_
  refine jx_aload_n 0 dX10_fine_0 rfl rfl ?_
  obtain ⟨hk1, h⟩ := h
  obtain ⟨b2, hb2, h⟩ := h
  refine jx_getr jc_10 (j := 0) (by decide) rfl jwF_X10_12 dX10_fine_1 hk1 hb2 ?_
  obtain ⟨hk3, h⟩ := h
  refine jx_callVi (M' := mX3_fineNow) (As := []) jo_X3_fineNow jc_3 rfl jwM_X10_274 jwN_X3_fineNow jwX_X3_fineNow dX10_fine_4 (jRok_m _ _ _) rfl (jle rfl) ⟨jle rfl, jle rfl⟩ hk3 h (fun r5 S4 h => ?_)
  exact jx_iret dX10_fine_7 rfl rfl (jle rfl) (jle rfl) ⟨_, rfl, h⟩
set_option maxRecDepth 100000 in
set_option maxHeartbeats 4000000 in
theorem T_X10_feed {E : jEnv} {d : Nat} {Q : Int32 → jM → Prop} {a0 : Nat} {x1 : Int32} {x2 : Int32} {x3 : Int32} {S : jM} (h : jk S a0 = 10 ∧ ∃ b2, jr S a0 5 = some b2 ∧ (jk S b2 = 8 ∧ ((ji S b2 1) ≤ 84 → jFv E mX8_addNumber d 0 0 [.ref b2, .int x1] S (fun S5 => jk S5 a0 = 10 ∧ ∃ b7, jr S5 a0 5 = some b7 ∧ (jk S5 b7 = 8 ∧ jFv E mX8_addNumber d 0 0 [.ref b7, .int x2] S5 (fun S9 => jk S9 a0 = 10 ∧ ∃ b11, jr S9 a0 5 = some b11 ∧ (jk S9 b11 = 8 ∧ jFv E mX8_addNumber d 0 0 [.ref b11, .int x3] S9 (fun S13 => jk S13 a0 = 10 ∧ ∃ b15, jr S13 a0 5 = some b15 ∧ (jk S13 b15 = 8 ∧ Q (ji S13 b15 1) S13))))))) ∧ (¬ (ji S b2 1) ≤ 84 → Q (-1000000003) S))) : jFi E mX10_feed (d + 1) 0 0 [.ref a0, .int x1, .int x2, .int x3] S Q := by
  refine jF_of (by decide) (jle rfl) ?_
  refine jx_lv (lv1 := [(0, .ref a0), (1, .int x1), (2, .int x2), (3, .int x3)]) [0, 1, 2, 3] rfl ?_
  refine jx_aload_n 0 dX10_feed_0 rfl rfl ?_
  obtain ⟨hk1, h⟩ := h
  obtain ⟨b2, hb2, h⟩ := h
  refine jx_getr jc_10 (j := 5) (by decide) rfl jwF_X10_36 dX10_feed_1 hk1 hb2 ?_
  obtain ⟨hk3, h⟩ := h
  refine jx_geti jc_8 (j := 1) (by decide) rfl jwF_X10_277 dX10_feed_4 hk3 ?_
  refine jx_bipush (v := 84) dX10_feed_7 (by decide) ?_
  refine jx_icmp_le (tgt := 15) dX10_feed_9 (by decide) (fun c4 => ?_) (fun c4 => ?_)
  · replace h := h.1 c4
    refine jx_aload_n 0 dX10_feed_15 rfl rfl ?_
    refine jx_getr jc_10 (j := 5) (by decide) rfl jwF_X10_36 dX10_feed_16 hk1 hb2 ?_
    refine jx_iload_n 1 dX10_feed_19 rfl rfl ?_
    refine jx_callVv (M' := mX8_addNumber) (As := [.int x1]) jo_X8_addNumber jc_8 rfl jwM_X10_278 jwN_X8_addNumber jwX_X8_addNumber dX10_feed_20 (jRok_m _ _ _) rfl (jle rfl) ⟨jle rfl, jle rfl⟩ hk3 h (fun S5 h => ?_)
    refine jx_aload_n 0 dX10_feed_23 rfl rfl ?_
    obtain ⟨hk6, h⟩ := h
    obtain ⟨b7, hb7, h⟩ := h
    refine jx_getr jc_10 (j := 5) (by decide) rfl jwF_X10_36 dX10_feed_24 hk6 hb7 ?_
    refine jx_iload_n 2 dX10_feed_27 rfl rfl ?_
    obtain ⟨hk8, h⟩ := h
    refine jx_callVv (M' := mX8_addNumber) (As := [.int x2]) jo_X8_addNumber jc_8 rfl jwM_X10_278 jwN_X8_addNumber jwX_X8_addNumber dX10_feed_28 (jRok_m _ _ _) rfl (jle rfl) ⟨jle rfl, jle rfl⟩ hk8 h (fun S9 h => ?_)
    refine jx_aload_n 0 dX10_feed_31 rfl rfl ?_
    obtain ⟨hk10, h⟩ := h
    obtain ⟨b11, hb11, h⟩ := h
    refine jx_getr jc_10 (j := 5) (by decide) rfl jwF_X10_36 dX10_feed_32 hk10 hb11 ?_
    refine jx_iload_n 3 dX10_feed_35 rfl rfl ?_
    obtain ⟨hk12, h⟩ := h
    refine jx_callVv (M' := mX8_addNumber) (As := [.int x3]) jo_X8_addNumber jc_8 rfl jwM_X10_278 jwN_X8_addNumber jwX_X8_addNumber dX10_feed_36 (jRok_m _ _ _) rfl (jle rfl) ⟨jle rfl, jle rfl⟩ hk12 h (fun S13 h => ?_)
    refine jx_aload_n 0 dX10_feed_39 rfl rfl ?_
    obtain ⟨hk14, h⟩ := h
    obtain ⟨b15, hb15, h⟩ := h
    refine jx_getr jc_10 (j := 5) (by decide) rfl jwF_X10_36 dX10_feed_40 hk14 hb15 ?_
    obtain ⟨hk16, h⟩ := h
    refine jx_geti jc_8 (j := 1) (by decide) rfl jwF_X10_277 dX10_feed_43 hk16 ?_
    exact jx_iret dX10_feed_46 rfl rfl (jle rfl) (jle rfl) ⟨_, rfl, h⟩
  replace h := h.2 c4
  refine jx_ldc jwC_X10_74 dX10_feed_12 ?_
  exact jx_iret dX10_feed_14 rfl rfl (jle rfl) (jle rfl) ⟨_, rfl, h⟩
set_option maxRecDepth 100000 in
set_option maxHeartbeats 4000000 in
theorem T_X10_trim {E : jEnv} {d : Nat} {Q : Int32 → jM → Prop} {a0 : Nat} {x1 : Int32} {S : jM} (h : (x1 < 0 → Q (-1000000001) S) ∧ (¬ x1 < 0 → jk S a0 = 10 ∧ ∃ b3, jr S a0 5 = some b3 ∧ (jk S b3 = 8 ∧ (x1 ≤ (ji S b3 1) → Q x1 (jput S b3 1 x1)) ∧ (¬ x1 ≤ (ji S b3 1) → Q (-1000000001) S)))) : jFi E mX10_trim d 0 0 [.ref a0, .int x1] S Q := by
  refine jF_of (by decide) (jle rfl) ?_
  refine jx_lv (lv1 := [(0, .ref a0), (1, .int x1)]) [0, 1] rfl ?_
  refine jx_iload_n 1 dX10_trim_0 rfl rfl ?_
  refine jx_if_lt (tgt := 15) dX10_trim_1 (by decide) (fun c1 => ?_) (fun c1 => ?_)
  · replace h := h.1 c1
    refine jx_ldc jwC_X10_62 dX10_trim_15 ?_
    exact jx_iret dX10_trim_17 rfl rfl (jle rfl) (jle rfl) ⟨_, rfl, h⟩
  replace h := h.2 c1
  refine jx_iload_n 1 dX10_trim_4 rfl rfl ?_
  refine jx_aload_n 0 dX10_trim_5 rfl rfl ?_
  obtain ⟨hk2, h⟩ := h
  obtain ⟨b3, hb3, h⟩ := h
  refine jx_getr jc_10 (j := 5) (by decide) rfl jwF_X10_36 dX10_trim_6 hk2 hb3 ?_
  obtain ⟨hk4, h⟩ := h
  refine jx_geti jc_8 (j := 1) (by decide) rfl jwF_X10_277 dX10_trim_9 hk4 ?_
  refine jx_icmp_le (tgt := 18) dX10_trim_12 (by decide) (fun c5 => ?_) (fun c5 => ?_)
  · replace h := h.1 c5
    refine jx_aload_n 0 dX10_trim_18 rfl rfl ?_
    refine jx_getr jc_10 (j := 5) (by decide) rfl jwF_X10_36 dX10_trim_19 hk2 hb3 ?_
    refine jx_iload_n 1 dX10_trim_22 rfl rfl ?_
    refine jx_puti jc_8 (j := 1) (by decide) rfl jwF_X10_277 rfl rfl rfl dX10_trim_23 hk4 ?_
    refine jx_iload_n 1 dX10_trim_26 rfl rfl ?_
    exact jx_iret dX10_trim_27 rfl rfl (jle rfl) (jle rfl) ⟨_, rfl, h⟩
  replace h := h.2 c5
  refine jx_ldc jwC_X10_62 dX10_trim_15 ?_
  exact jx_iret dX10_trim_17 rfl rfl (jle rfl) (jle rfl) ⟨_, rfl, h⟩
set_option maxRecDepth 100000 in
set_option maxHeartbeats 4000000 in
theorem T_X10_text {E : jEnv} {d : Nat} {Q : Int32 → jM → Prop} {a0 : Nat} {S : jM} (h : jk S a0 = 10 ∧ ∃ b2, jr S a0 5 = some b2 ∧ (jk S b2 = 8 ∧ jFi E mX8_isText d 0 0 [.ref b2] S (fun r5 S4 => jk S4 a0 = 10 ∧ ∃ b7, jr S4 a0 5 = some b7 ∧ (jk S4 b7 = 8 ∧ (r5 = 0 → Q ((-100) - (ji S4 b7 2)) (jput S4 b7 1 0)) ∧ (¬ r5 = 0 → ∃ b10, jr S4 a0 0 = some b10 ∧ (jk S4 b10 = 3 ∧ jFr E mX8_textRead d 3 196 [.ref b7] (jput S4 b7 1 0) (fun o13 S12 => (o13 = none → jk S12 b10 = 3 ∧ jFi E mX3_addText d 0 0 [.ref b10, .null] S12 (fun r17 S16 => (r17 = 0 → Q (-1000000003) S16) ∧ (¬ r17 = 0 → Q (ji S4 b10 6) S16))) ∧ (∀ b14, o13 = some b14 → jk S12 b10 = 3 ∧ jFi E mX3_addText d 0 0 [.ref b10, .ref b14] S12 (fun r21 S20 => (r21 = 0 → Q (-1000000003) S20) ∧ (¬ r21 = 0 → Q (ji S4 b10 6) S20)))))))))) : jFi E mX10_text (d + 1) 3 196 [.ref a0] S Q := by
  refine jF_of (by decide) (jle rfl) ?_
  refine jx_lv (lv1 := [(0, .ref a0)]) [0] rfl ?_
  refine jx_aload_n 0 dX10_text_0 rfl rfl ?_
  obtain ⟨hk1, h⟩ := h
  obtain ⟨b2, hb2, h⟩ := h
  refine jx_getr jc_10 (j := 5) (by decide) rfl jwF_X10_36 dX10_text_1 hk1 hb2 ?_
  obtain ⟨hk3, h⟩ := h
  refine jx_callVi (M' := mX8_isText) (As := []) jo_X8_isText jc_8 rfl jwM_X10_281 jwN_X8_isText jwX_X8_isText dX10_text_4 (jRok_m _ _ _) rfl (jle rfl) ⟨jle rfl, jle rfl⟩ hk3 h (fun r5 S4 h => ?_)
  refine jx_istore_n (lv1 := [(1, .int r5), (0, .ref a0)]) dX10_text_7 rfl (by decide) rfl ?_
  refine jx_aload_n 1 dX10_text_8 rfl rfl ?_
  obtain ⟨hk6, h⟩ := h
  obtain ⟨b7, hb7, h⟩ := h
  refine jx_getr jc_10 (j := 5) (by decide) rfl jwF_X10_36 dX10_text_9 hk6 hb7 ?_
  refine jx_iconst (v := 0) dX10_text_12 (by decide) ?_
  obtain ⟨hk8, h⟩ := h
  refine jx_puti jc_8 (j := 1) (by decide) rfl jwF_X10_277 rfl rfl rfl dX10_text_13 hk8 ?_
  refine jx_iload_n 0 dX10_text_16 rfl rfl ?_
  refine jx_if_ne (tgt := 31) dX10_text_17 (by decide) (fun c9 => ?_) (fun c9 => ?_)
  · replace h := h.2 c9
    refine jx_aload_n 1 dX10_text_31 rfl rfl ?_
    obtain ⟨b10, hb10, h⟩ := h
    refine jx_getr jc_10 (j := 0) (by decide) rfl jwF_X10_12 dX10_text_32 hk6 hb10 ?_
    obtain ⟨hk11, h⟩ := h
    refine jx_geti jc_3 (j := 6) (by decide) rfl jwF_X10_287 dX10_text_35 hk11 ?_
    refine jx_topi (y := (ji S4 b10 6)) (by simp [ji_put, ji_row, ji_putr]) ?_
    refine jx_istore_n (lv1 := [(2, .int (ji S4 b10 6)), (1, .int r5), (0, .ref a0)]) dX10_text_38 rfl (by decide) rfl ?_
    refine jx_aload_n 2 dX10_text_39 rfl rfl ?_
    refine jx_getr jc_10 (j := 0) (by decide) rfl jwF_X10_12 dX10_text_40 hk6 hb10 ?_
    refine jx_aload_n 2 dX10_text_43 rfl rfl ?_
    refine jx_getr jc_10 (j := 5) (by decide) rfl jwF_X10_36 dX10_text_44 hk6 hb7 ?_
    refine jx_callVr (M' := mX8_textRead) (As := []) jo_X8_textRead jc_8 rfl jwM_X10_290 jwN_X8_textRead jwX_X8_textRead dX10_text_47 (jRok_m _ _ _) rfl (jle rfl) ⟨jle rfl, jle rfl⟩ hk8 h (fun o13 S12 h => ?_)
    rcases o13 with _ | b14
    · replace h := h.1 rfl
      obtain ⟨hk15, h⟩ := h
      refine jx_callVi (M' := mX3_addText) (As := [.null]) jo_X3_addText jc_3 rfl jwM_X10_294 jwN_X3_addText jwX_X3_addText dX10_text_50 (jRok_m _ _ _) rfl (jle rfl) ⟨jle rfl, jle rfl⟩ hk15 h (fun r17 S16 h => ?_)
      refine jx_if_eq (tgt := 60) dX10_text_53 (by decide) (fun c18 => ?_) (fun c18 => ?_)
      · replace h := h.1 c18
        refine jx_ldc jwC_X10_74 dX10_text_60 ?_
        exact jx_iret dX10_text_62 rfl rfl (jle rfl) (jle rfl) ⟨_, rfl, h⟩
      replace h := h.2 c18
      refine jx_iload_n 0 dX10_text_56 rfl rfl ?_
      refine jx_goto (tgt := 62) dX10_text_57 (by decide) ?_
      exact jx_iret dX10_text_62 rfl rfl (jle rfl) (jle rfl) ⟨_, rfl, h⟩
    replace h := h.2 b14 rfl
    obtain ⟨hk19, h⟩ := h
    refine jx_callVi (M' := mX3_addText) (As := [.ref b14]) jo_X3_addText jc_3 rfl jwM_X10_294 jwN_X3_addText jwX_X3_addText dX10_text_50 (jRok_m _ _ _) rfl (jle rfl) ⟨jle rfl, jle rfl⟩ hk19 h (fun r21 S20 h => ?_)
    refine jx_if_eq (tgt := 60) dX10_text_53 (by decide) (fun c22 => ?_) (fun c22 => ?_)
    · replace h := h.1 c22
      refine jx_ldc jwC_X10_74 dX10_text_60 ?_
      exact jx_iret dX10_text_62 rfl rfl (jle rfl) (jle rfl) ⟨_, rfl, h⟩
    replace h := h.2 c22
    refine jx_iload_n 0 dX10_text_56 rfl rfl ?_
    refine jx_goto (tgt := 62) dX10_text_57 (by decide) ?_
    exact jx_iret dX10_text_62 rfl rfl (jle rfl) (jle rfl) ⟨_, rfl, h⟩
  replace h := h.1 c9
  refine jx_bipush (v := (-100)) kd54 (by decide) ?_
  refine jx_aload_n 1 dX10_text_22 rfl rfl ?_
  refine jx_getr jc_10 (j := 5) (by decide) rfl jwF_X10_36 dX10_text_23 hk6 hb7 ?_
  refine jx_geti jc_8 (j := 2) (by decide) rfl jwF_X10_284 dX10_text_26 hk8 ?_
  refine jx_topi (y := (ji S4 b7 2)) (by simp [ji_put, ji_row, ji_putr]) ?_
  refine jx_isub dX10_text_29 ?_
  exact jx_iret dX10_text_30 rfl rfl (jle rfl) (jle rfl) ⟨_, rfl, h⟩
set_option maxRecDepth 100000 in
set_option maxHeartbeats 4000000 in
theorem T_X10_textTold {E : jEnv} {d : Nat} {Q : Int32 → jM → Prop} {a0 : Nat} {x1 : Int32} {x2 : Int32} {S : jM} (h : jk S a0 = 10 ∧ ∃ b2, jr S a0 0 = some b2 ∧ (jk S b2 = 3 ∧ jFr E mX3_findText d 0 0 [.ref b2, .int x1] S (fun o5 S4 => (o5 = none → Q (-1000000001) S4) ∧ (∀ b6, o5 = some b6 → ((jwi x2 2) = 0 → Q (-1000000001) S4) ∧ (¬ (jwi x2 2) = 0 → (x2 = 0 → jk S4 b6 = 9 ∧ Q (ji S4 b6 0) S4) ∧ (¬ x2 = 0 → jk S4 b6 = 9 ∧ Q (ji S4 b6 1) S4)))))) : jFi E mX10_textTold (d + 1) 0 0 [.ref a0, .int x1, .int x2] S Q := by
  refine jF_of (by decide) (jle rfl) ?_
  refine jx_lv (lv1 := [(0, .ref a0), (1, .int x1), (2, .int x2)]) [0, 1, 2] rfl ?_
  refine jx_aload_n 0 dX10_textTold_0 rfl rfl ?_
  obtain ⟨hk1, h⟩ := h
  obtain ⟨b2, hb2, h⟩ := h
  refine jx_getr jc_10 (j := 0) (by decide) rfl jwF_X10_12 dX10_textTold_1 hk1 hb2 ?_
  refine jx_iload_n 1 dX10_textTold_4 rfl rfl ?_
  obtain ⟨hk3, h⟩ := h
  refine jx_callVr (M' := mX3_findText) (As := [.int x1]) jo_X3_findText jc_3 rfl jwM_X10_298 jwN_X3_findText jwX_X3_findText dX10_textTold_5 (jRok_m _ _ _) rfl (jle rfl) ⟨jle rfl, jle rfl⟩ hk3 h (fun o5 S4 h => ?_)
  rcases o5 with _ | b6
  · replace h := h.1 rfl
    refine jx_astore_nN (lv1 := [(3, .null), (0, .ref a0), (1, .int x1), (2, .int x2)]) dX10_textTold_8 rfl (by decide) rfl ?_
    refine jx_aload_nN 0 dX10_textTold_9 rfl rfl ?_
    refine jx_ifnullN (tgt := 21) dX10_textTold_10 (by decide) ?_
    refine jx_ldc jwC_X10_62 dX10_textTold_21 ?_
    exact jx_iret dX10_textTold_23 rfl rfl (jle rfl) (jle rfl) ⟨_, rfl, h⟩
  replace h := h.2 b6 rfl
  refine jx_astore_n (lv1 := [(3, .ref b6), (0, .ref a0), (1, .int x1), (2, .int x2)]) dX10_textTold_8 rfl (by decide) rfl ?_
  refine jx_aload_n 0 dX10_textTold_9 rfl rfl ?_
  refine jx_ifnull dX10_textTold_10 ?_
  refine jx_iload_n 3 dX10_textTold_13 rfl rfl ?_
  refine jx_iconst (v := 2) dX10_textTold_14 (by decide) ?_
  refine jx_callSi (M' := mX10_within) (As := [.int x2, .int 2]) jo_X10_within jwM_X10_58 jwS_X10_within dX10_textTold_15 (jRok_m _ _ _) rfl (jle rfl) ⟨jle rfl, jle rfl⟩ (c_X10_within (Q := fun v S' => v = (jwi x2 2) ∧ S4 = S') ⟨rfl, rfl⟩) (fun r7 S8 hq9 => ?_)
  obtain ⟨rfl, rfl⟩ := hq9
  refine jx_if_ne (tgt := 24) dX10_textTold_18 (by decide) (fun c10 => ?_) (fun c10 => ?_)
  · replace h := h.2 c10
    refine jx_iload_n 3 dX10_textTold_24 rfl rfl ?_
    refine jx_if_ne (tgt := 35) dX10_textTold_25 (by decide) (fun c11 => ?_) (fun c11 => ?_)
    · replace h := h.2 c11
      refine jx_aload_n 0 dX10_textTold_35 rfl rfl ?_
      obtain ⟨hk12, h⟩ := h
      refine jx_geti jc_9 (j := 1) (by decide) rfl jwF_X10_307 dX10_textTold_36 hk12 ?_
      exact jx_iret dX10_textTold_39 rfl rfl (jle rfl) (jle rfl) ⟨_, rfl, h⟩
    replace h := h.1 c11
    refine jx_aload_n 0 dX10_textTold_28 rfl rfl ?_
    obtain ⟨hk13, h⟩ := h
    refine jx_geti jc_9 (j := 0) (by decide) rfl jwF_X10_302 dX10_textTold_29 hk13 ?_
    refine jx_goto (tgt := 39) dX10_textTold_32 (by decide) ?_
    exact jx_iret dX10_textTold_39 rfl rfl (jle rfl) (jle rfl) ⟨_, rfl, h⟩
  replace h := h.1 c10
  refine jx_ldc jwC_X10_62 dX10_textTold_21 ?_
  exact jx_iret dX10_textTold_23 rfl rfl (jle rfl) (jle rfl) ⟨_, rfl, h⟩
set_option maxRecDepth 100000 in
set_option maxHeartbeats 4000000 in
theorem T_X10_why {E : jEnv} {d : Nat} {Q : Int32 → jM → Prop} {a0 : Nat} {x1 : Int32} {S : jM} (h : ((jwi x1 3) = 0 → Q (-1000000001) S) ∧ (¬ (jwi x1 3) = 0 → jk S a0 = 10 ∧ ∃ b6, jr S a0 0 = some b6 ∧ (jk S b6 = 3 ∧ jFi E mX3_numberOfLaw d 0 0 [.ref b6, .int x1] S (fun r9 S8 => (0 ≤ r9 → Q r9 S8) ∧ (¬ 0 ≤ r9 → Q (-1000000005) S8))))) : jFi E mX10_why (d + 1) 0 0 [.ref a0, .int x1] S Q := by
  refine jF_of (by decide) (jle rfl) ?_
  refine jx_lv (lv1 := [(0, .ref a0), (1, .int x1)]) [0, 1] rfl ?_
  refine jx_iload_n 1 dX10_why_0 rfl rfl ?_
  refine jx_iconst (v := 3) dX10_why_1 (by decide) ?_
  refine jx_callSi (M' := mX10_within) (As := [.int x1, .int 3]) jo_X10_within jwM_X10_58 jwS_X10_within dX10_why_2 (jRok_m _ _ _) rfl (jle rfl) ⟨jle rfl, jle rfl⟩ (c_X10_within (Q := fun v S' => v = (jwi x1 3) ∧ S = S') ⟨rfl, rfl⟩) (fun r1 S2 hq3 => ?_)
  obtain ⟨rfl, rfl⟩ := hq3
  refine jx_if_ne (tgt := 11) dX10_why_5 (by decide) (fun c4 => ?_) (fun c4 => ?_)
  · replace h := h.2 c4
    refine jx_aload_n 0 dX10_why_11 rfl rfl ?_
    obtain ⟨hk5, h⟩ := h
    obtain ⟨b6, hb6, h⟩ := h
    refine jx_getr jc_10 (j := 0) (by decide) rfl jwF_X10_12 dX10_why_12 hk5 hb6 ?_
    refine jx_iload_n 1 dX10_why_15 rfl rfl ?_
    obtain ⟨hk7, h⟩ := h
    refine jx_callVi (M' := mX3_numberOfLaw) (As := [.int x1]) jo_X3_numberOfLaw jc_3 rfl jwM_X10_310 jwN_X3_numberOfLaw jwX_X3_numberOfLaw dX10_why_16 (jRok_m _ _ _) rfl (jle rfl) ⟨jle rfl, jle rfl⟩ hk7 h (fun r9 S8 h => ?_)
    refine jx_istore_n (lv1 := [(2, .int r9), (0, .ref a0), (1, .int x1)]) dX10_why_19 rfl (by decide) rfl ?_
    refine jx_iload_n 0 dX10_why_20 rfl rfl ?_
    refine jx_if_ge (tgt := 29) dX10_why_21 (by decide) (fun c10 => ?_) (fun c10 => ?_)
    · replace h := h.1 c10
      refine jx_iload_n 0 dX10_why_29 rfl rfl ?_
      exact jx_iret dX10_why_30 rfl rfl (jle rfl) (jle rfl) ⟨_, rfl, h⟩
    replace h := h.2 c10
    refine jx_ldc jwC_X10_160 dX10_why_24 ?_
    refine jx_goto (tgt := 30) dX10_why_26 (by decide) ?_
    exact jx_iret dX10_why_30 rfl rfl (jle rfl) (jle rfl) ⟨_, rfl, h⟩
  replace h := h.1 c4
  refine jx_ldc jwC_X10_62 dX10_why_8 ?_
  exact jx_iret dX10_why_10 rfl rfl (jle rfl) (jle rfl) ⟨_, rfl, h⟩
set_option maxRecDepth 100000 in
set_option maxHeartbeats 4000000 in
theorem T_X10_sheet {E : jEnv} {d : Nat} {Q : Int32 → jM → Prop} {a0 : Nat} {x1 : Int32} {x2 : Int32} {x3 : Int32} {S : jM} (h : jk S a0 = 10 ∧ jFr E mX10_findSheet d 0 0 [.ref a0, .int x1] S (fun o3 S2 => (o3 = none → Q (-1000000001) S2) ∧ (∀ b4, o3 = some b4 → (x2 < (-1) → Q (-1000000001) S2) ∧ (¬ x2 < (-1) → (x2 ≤ 1 → (x2 = (-1) → jk S2 b4 = 6 ∧ jFv E mX6_begin d 0 0 [.ref b4, .int (-1), .int 0] S2 (fun S13 => Q 0 S13)) ∧ (¬ x2 = (-1) → (x3 ≤ 24 → (0 ≤ x3 → jk S2 b4 = 6 ∧ jFv E mX6_begin d 0 0 [.ref b4, .int x2, .int x3] S2 (fun S11 => Q x3 S11)) ∧ (¬ 0 ≤ x3 → Q (-1000000014) S2)) ∧ (¬ x3 ≤ 24 → Q (-1000000001) S2))) ∧ (¬ x2 ≤ 1 → Q (-1000000001) S2))))) : jFi E mX10_sheet (d + 1) 0 0 [.ref a0, .int x1, .int x2, .int x3] S Q := by
  refine jF_of (by decide) (jle rfl) ?_
  refine jx_lv (lv1 := [(0, .ref a0), (1, .int x1), (2, .int x2), (3, .int x3)]) [0, 1, 2, 3] rfl ?_
  refine jx_aload_n 0 dX10_sheet_0 rfl rfl ?_
  refine jx_iload_n 1 dX10_sheet_1 rfl rfl ?_
  obtain ⟨hk1, h⟩ := h
  refine jx_callVr (M' := mX10_findSheet) (As := [.int x1]) jo_X10_findSheet jc_10 rfl jwM_X10_257 jwN_X10_findSheet jwX_X10_findSheet dX10_sheet_2 (jRok_m _ _ _) rfl (jle rfl) ⟨jle rfl, jle rfl⟩ hk1 h (fun o3 S2 h => ?_)
  rcases o3 with _ | b4
  · replace h := h.1 rfl
    refine jx_astoreN (lv1 := [(4, .null), (0, .ref a0), (1, .int x1), (2, .int x2), (3, .int x3)]) dX10_sheet_5 (by decide) rfl ?_
    refine jx_aloadN 0 dX10_sheet_7 rfl ?_
    refine jx_ifnullN (tgt := 22) dX10_sheet_9 (by decide) ?_
    refine jx_ldc jwC_X10_62 dX10_sheet_22 ?_
    exact jx_iret dX10_sheet_24 rfl rfl (jle rfl) (jle rfl) ⟨_, rfl, h⟩
  replace h := h.2 b4 rfl
  refine jx_astore (lv1 := [(4, .ref b4), (0, .ref a0), (1, .int x1), (2, .int x2), (3, .int x3)]) dX10_sheet_5 (by decide) rfl ?_
  refine jx_aload 0 dX10_sheet_7 rfl ?_
  refine jx_ifnull dX10_sheet_9 ?_
  refine jx_iload_n 3 dX10_sheet_12 rfl rfl ?_
  refine jx_iconst (v := (-1)) dX10_sheet_13 (by decide) ?_
  refine jx_icmp_lt (tgt := 22) dX10_sheet_14 (by decide) (fun c5 => ?_) (fun c5 => ?_)
  · replace h := h.1 c5
    refine jx_ldc jwC_X10_62 dX10_sheet_22 ?_
    exact jx_iret dX10_sheet_24 rfl rfl (jle rfl) (jle rfl) ⟨_, rfl, h⟩
  replace h := h.2 c5
  refine jx_iload_n 3 dX10_sheet_17 rfl rfl ?_
  refine jx_iconst (v := 1) dX10_sheet_18 (by decide) ?_
  refine jx_icmp_le (tgt := 25) dX10_sheet_19 (by decide) (fun c6 => ?_) (fun c6 => ?_)
  · replace h := h.1 c6
    refine jx_iload_n 3 dX10_sheet_25 rfl rfl ?_
    refine jx_iconst (v := (-1)) dX10_sheet_26 (by decide) ?_
    refine jx_icmp_ne (tgt := 39) dX10_sheet_27 (by decide) (fun c7 => ?_) (fun c7 => ?_)
    · replace h := h.2 c7
      refine jx_iload_n 4 dX10_sheet_39 rfl rfl ?_
      refine jx_bipush (v := 24) dX10_sheet_40 (by decide) ?_
      refine jx_icmp_le (tgt := 48) dX10_sheet_42 (by decide) (fun c8 => ?_) (fun c8 => ?_)
      · replace h := h.1 c8
        refine jx_iload_n 4 dX10_sheet_48 rfl rfl ?_
        refine jx_if_ge (tgt := 56) dX10_sheet_49 (by decide) (fun c9 => ?_) (fun c9 => ?_)
        · replace h := h.1 c9
          refine jx_aload 0 dX10_sheet_56 rfl ?_
          refine jx_iload_n 3 dX10_sheet_58 rfl rfl ?_
          refine jx_iload_n 4 dX10_sheet_59 rfl rfl ?_
          obtain ⟨hk10, h⟩ := h
          refine jx_callVv (M' := mX6_begin) (As := [.int x2, .int x3]) jo_X6_begin jc_6 rfl jwM_X10_313 jwN_X6_begin jwX_X6_begin dX10_sheet_60 (jRok_m _ _ _) rfl (jle rfl) ⟨jle rfl, jle rfl⟩ hk10 h (fun S11 h => ?_)
          refine jx_iload_n 4 dX10_sheet_63 rfl rfl ?_
          exact jx_iret dX10_sheet_64 rfl rfl (jle rfl) (jle rfl) ⟨_, rfl, h⟩
        replace h := h.2 c9
        refine jx_ldcw jwC_X10_317 dX10_sheet_52 ?_
        exact jx_iret dX10_sheet_55 rfl rfl (jle rfl) (jle rfl) ⟨_, rfl, h⟩
      replace h := h.2 c8
      refine jx_ldc jwC_X10_62 dX10_sheet_45 ?_
      exact jx_iret dX10_sheet_47 rfl rfl (jle rfl) (jle rfl) ⟨_, rfl, h⟩
    replace h := h.1 c7
    refine jx_aload 0 dX10_sheet_30 rfl ?_
    refine jx_iconst (v := (-1)) dX10_sheet_32 (by decide) ?_
    refine jx_iconst (v := 0) dX10_sheet_33 (by decide) ?_
    obtain ⟨hk12, h⟩ := h
    refine jx_callVv (M' := mX6_begin) (As := [.int (-1), .int 0]) jo_X6_begin jc_6 rfl jwM_X10_313 jwN_X6_begin jwX_X6_begin dX10_sheet_34 (jRok_m _ _ _) rfl (jle rfl) ⟨jle rfl, jle rfl⟩ hk12 h (fun S13 h => ?_)
    refine jx_iconst (v := 0) dX10_sheet_37 (by decide) ?_
    exact jx_iret dX10_sheet_38 rfl rfl (jle rfl) (jle rfl) ⟨_, rfl, h⟩
  replace h := h.2 c6
  refine jx_ldc jwC_X10_62 dX10_sheet_22 ?_
  exact jx_iret dX10_sheet_24 rfl rfl (jle rfl) (jle rfl) ⟨_, rfl, h⟩
set_option maxRecDepth 100000 in
set_option maxHeartbeats 4000000 in
theorem T_X10_mark {E : jEnv} {d : Nat} {Q : Int32 → jM → Prop} {a0 : Nat} {x1 : Int32} {x2 : Int32} {x3 : Int32} {S : jM} (h : jk S a0 = 10 ∧ jFr E mX10_findSheet d 0 0 [.ref a0, .int x1] S (fun o3 S2 => (o3 = none → Q (-1000000001) S2) ∧ (∀ b4, o3 = some b4 → jk S2 b4 = 6 ∧ ((ji S2 b4 0) = (-1) → Q (-1000000011) S2) ∧ (¬ (ji S2 b4 0) = (-1) → jFi E mX6_hasPlace d 0 0 [.ref b4, .int x2] S2 (fun r8 S7 => (r8 = 0 → Q (-1000000013) S7) ∧ (¬ r8 = 0 → jk S7 b4 = 6 ∧ ((ji S7 b4 0) = 0 → (x3 = (-1000000005) → Q (-1000000012) S7) ∧ (¬ x3 = (-1000000005) → ∃ b22, jr S7 b4 2 = some b22 ∧ (jk S7 b22 = 12 ∧ vp_in x2 (jl S7 b22) ∧ (Q 1 (jput S7 b22 (Int32.toNatClampNeg x2) (Int16.toInt32 (Int32.toInt16 x3))))))) ∧ (¬ (ji S7 b4 0) = 0 → (x3 = (-1000000005) → ∃ b13, jr S7 b4 2 = some b13 ∧ (jk S7 b13 = 12 ∧ vp_in x2 (jl S7 b13) ∧ (Q 1 (jput S7 b13 (Int32.toNatClampNeg x2) x3)))) ∧ (¬ x3 = (-1000000005) → (x3 < (-99999) → Q (-1000000001) S7) ∧ (¬ x3 < (-99999) → (x3 ≤ 99999 → ∃ b18, jr S7 b4 2 = some b18 ∧ (jk S7 b18 = 12 ∧ vp_in x2 (jl S7 b18) ∧ (Q 1 (jput S7 b18 (Int32.toNatClampNeg x2) x3)))) ∧ (¬ x3 ≤ 99999 → Q (-1000000001) S7)))))))))) : jFi E mX10_mark (d + 1) 0 0 [.ref a0, .int x1, .int x2, .int x3] S Q := by
  refine jF_of (by decide) (jle rfl) ?_
  refine jx_lv (lv1 := [(0, .ref a0), (1, .int x1), (2, .int x2), (3, .int x3)]) [0, 1, 2, 3] rfl ?_
  refine jx_aload_n 0 dX10_mark_0 rfl rfl ?_
  refine jx_iload_n 1 dX10_mark_1 rfl rfl ?_
  obtain ⟨hk1, h⟩ := h
  refine jx_callVr (M' := mX10_findSheet) (As := [.int x1]) jo_X10_findSheet jc_10 rfl jwM_X10_257 jwN_X10_findSheet jwX_X10_findSheet dX10_mark_2 (jRok_m _ _ _) rfl (jle rfl) ⟨jle rfl, jle rfl⟩ hk1 h (fun o3 S2 h => ?_)
  rcases o3 with _ | b4
  · replace h := h.1 rfl
    refine jx_astoreN (lv1 := [(4, .null), (0, .ref a0), (1, .int x1), (2, .int x2), (3, .int x3)]) dX10_mark_5 (by decide) rfl ?_
    refine jx_aloadN 0 dX10_mark_7 rfl ?_
    refine jx_ifnonnullN dX10_mark_9 ?_
    refine jx_ldc jwC_X10_62 dX10_mark_12 ?_
    exact jx_iret dX10_mark_14 rfl rfl (jle rfl) (jle rfl) ⟨_, rfl, h⟩
  replace h := h.2 b4 rfl
  refine jx_astore (lv1 := [(4, .ref b4), (0, .ref a0), (1, .int x1), (2, .int x2), (3, .int x3)]) dX10_mark_5 (by decide) rfl ?_
  refine jx_aload 0 dX10_mark_7 rfl ?_
  refine jx_ifnonnull (tgt := 15) dX10_mark_9 (by decide) ?_
  refine jx_aload 0 dX10_mark_15 rfl ?_
  obtain ⟨hk5, h⟩ := h
  refine jx_geti jc_6 (j := 0) (by decide) rfl jwF_X10_261 dX10_mark_17 hk5 ?_
  refine jx_iconst (v := (-1)) dX10_mark_20 (by decide) ?_
  refine jx_icmp_ne (tgt := 28) dX10_mark_21 (by decide) (fun c6 => ?_) (fun c6 => ?_)
  · replace h := h.2 c6
    refine jx_aload 0 dX10_mark_28 rfl ?_
    refine jx_iload_n 3 dX10_mark_30 rfl rfl ?_
    refine jx_callVi (M' := mX6_hasPlace) (As := [.int x2]) jo_X6_hasPlace jc_6 rfl jwM_X10_318 jwN_X6_hasPlace jwX_X6_hasPlace dX10_mark_31 (jRok_m _ _ _) rfl (jle rfl) ⟨jle rfl, jle rfl⟩ hk5 h (fun r8 S7 h => ?_)
    refine jx_if_ne (tgt := 41) dX10_mark_34 (by decide) (fun c9 => ?_) (fun c9 => ?_)
    · replace h := h.2 c9
      refine jx_aload 0 dX10_mark_41 rfl ?_
      obtain ⟨hk10, h⟩ := h
      refine jx_geti jc_6 (j := 0) (by decide) rfl jwF_X10_261 dX10_mark_43 hk10 ?_
      refine jx_if_ne (tgt := 69) dX10_mark_46 (by decide) (fun c11 => ?_) (fun c11 => ?_)
      · replace h := h.2 c11
        refine jx_iload_n 4 dX10_mark_69 rfl rfl ?_
        refine jx_ldc jwC_X10_160 dX10_mark_70 ?_
        refine jx_icmp_eq (tgt := 92) dX10_mark_72 (by decide) (fun c12 => ?_) (fun c12 => ?_)
        · replace h := h.1 c12
          refine jx_aload 0 dX10_mark_92 rfl ?_
          obtain ⟨b13, hb13, h⟩ := h
          refine jx_getr jc_6 (j := 2) (by decide) rfl jwF_X10_322 dX10_mark_94 hk10 hb13 ?_
          refine jx_iload_n 3 dX10_mark_97 rfl rfl ?_
          refine jx_iload_n 4 dX10_mark_98 rfl rfl ?_
          obtain ⟨hk14, h⟩ := h
          obtain ⟨hi15, h⟩ := h
          refine jx_iast dX10_mark_99 hk14 hi15 ?_
          refine jx_iconst (v := 1) dX10_mark_100 (by decide) ?_
          exact jx_iret dX10_mark_101 rfl rfl (jle rfl) (jle rfl) ⟨_, rfl, h⟩
        replace h := h.2 c12
        refine jx_iload_n 4 dX10_mark_75 rfl rfl ?_
        refine jx_ldcw jwC_X10_325 dX10_mark_76 ?_
        refine jx_icmp_lt (tgt := 89) dX10_mark_79 (by decide) (fun c16 => ?_) (fun c16 => ?_)
        · replace h := h.1 c16
          refine jx_ldc jwC_X10_62 dX10_mark_89 ?_
          exact jx_iret dX10_mark_91 rfl rfl (jle rfl) (jle rfl) ⟨_, rfl, h⟩
        replace h := h.2 c16
        refine jx_iload_n 4 dX10_mark_82 rfl rfl ?_
        refine jx_ldcw jwC_X10_326 dX10_mark_83 ?_
        refine jx_icmp_le (tgt := 92) dX10_mark_86 (by decide) (fun c17 => ?_) (fun c17 => ?_)
        · replace h := h.1 c17
          refine jx_aload 0 dX10_mark_92 rfl ?_
          obtain ⟨b18, hb18, h⟩ := h
          refine jx_getr jc_6 (j := 2) (by decide) rfl jwF_X10_322 dX10_mark_94 hk10 hb18 ?_
          refine jx_iload_n 3 dX10_mark_97 rfl rfl ?_
          refine jx_iload_n 4 dX10_mark_98 rfl rfl ?_
          obtain ⟨hk19, h⟩ := h
          obtain ⟨hi20, h⟩ := h
          refine jx_iast dX10_mark_99 hk19 hi20 ?_
          refine jx_iconst (v := 1) dX10_mark_100 (by decide) ?_
          exact jx_iret dX10_mark_101 rfl rfl (jle rfl) (jle rfl) ⟨_, rfl, h⟩
        replace h := h.2 c17
        refine jx_ldc jwC_X10_62 dX10_mark_89 ?_
        exact jx_iret dX10_mark_91 rfl rfl (jle rfl) (jle rfl) ⟨_, rfl, h⟩
      replace h := h.1 c11
      refine jx_iload_n 4 dX10_mark_49 rfl rfl ?_
      refine jx_ldc jwC_X10_160 dX10_mark_50 ?_
      refine jx_icmp_ne (tgt := 58) dX10_mark_52 (by decide) (fun c21 => ?_) (fun c21 => ?_)
      · replace h := h.2 c21
        refine jx_aload 0 dX10_mark_58 rfl ?_
        obtain ⟨b22, hb22, h⟩ := h
        refine jx_getr jc_6 (j := 2) (by decide) rfl jwF_X10_322 dX10_mark_60 hk10 hb22 ?_
        refine jx_iload_n 3 dX10_mark_63 rfl rfl ?_
        refine jx_iload_n 4 dX10_mark_64 rfl rfl ?_
        refine jx_i2s dX10_mark_65 ?_
        obtain ⟨hk23, h⟩ := h
        obtain ⟨hi24, h⟩ := h
        refine jx_iast dX10_mark_66 hk23 hi24 ?_
        refine jx_iconst (v := 1) dX10_mark_67 (by decide) ?_
        exact jx_iret dX10_mark_68 rfl rfl (jle rfl) (jle rfl) ⟨_, rfl, h⟩
      replace h := h.1 c21
      refine jx_ldc jwC_X10_133 dX10_mark_55 ?_
      exact jx_iret dX10_mark_57 rfl rfl (jle rfl) (jle rfl) ⟨_, rfl, h⟩
    replace h := h.1 c9
    refine jx_ldcw jwC_X10_321 dX10_mark_37 ?_
    exact jx_iret dX10_mark_40 rfl rfl (jle rfl) (jle rfl) ⟨_, rfl, h⟩
  replace h := h.1 c6
  refine jx_ldcw jwC_X10_264 dX10_mark_24 ?_
  exact jx_iret dX10_mark_27 rfl rfl (jle rfl) (jle rfl) ⟨_, rfl, h⟩
/-- X10_pour at its loop's head 30 -/
abbrev L_X10_pour_30 (E : jEnv) (d : Nat) (Q : Int32 → jM → Prop) (a0 : Nat) (a2 : Nat) (x3 : Int32) (x4 : Int32) (S : jM) : Prop := jX E mX10_pour (jRm (d + 1) 0 0) (jZm E (fun r S' => ∃ v : Int32, r = some (.int v) ∧ Q v S') 0 0) 30 [(0, .ref a0), (2, .ref a2), (3, .int x3), (4, .int x4)] [] S 0 0
set_option maxRecDepth 100000 in
set_option maxHeartbeats 4000000 in
theorem T_X10_pour {E : jEnv} {d : Nat} {Q : Int32 → jM → Prop} {a0 : Nat} {x1 : Int32} {S : jM} (h : jk S a0 = 10 ∧ jFr E mX10_findSheet d 0 0 [.ref a0, .int x1] S (fun o3 S2 => (o3 = none → Q (-1000000001) S2) ∧ (∀ b4, o3 = some b4 → jk S2 b4 = 6 ∧ ((ji S2 b4 0) = (-1) → Q (-1000000011) S2) ∧ (¬ (ji S2 b4 0) = (-1) → L_X10_pour_30 E d Q a0 b4 0 0 S2)))) : jFi E mX10_pour (d + 1) 0 0 [.ref a0, .int x1] S Q := by
  refine jF_of (by decide) (jle rfl) ?_
  refine jx_lv (lv1 := [(0, .ref a0), (1, .int x1)]) [0, 1] rfl ?_
  refine jx_aload_n 0 dX10_pour_0 rfl rfl ?_
  refine jx_iload_n 1 dX10_pour_1 rfl rfl ?_
  obtain ⟨hk1, h⟩ := h
  refine jx_callVr (M' := mX10_findSheet) (As := [.int x1]) jo_X10_findSheet jc_10 rfl jwM_X10_257 jwN_X10_findSheet jwX_X10_findSheet dX10_pour_2 (jRok_m _ _ _) rfl (jle rfl) ⟨jle rfl, jle rfl⟩ hk1 h (fun o3 S2 h => ?_)
  rcases o3 with _ | b4
  · replace h := h.1 rfl
    refine jx_astore_nN (lv1 := [(2, .null), (0, .ref a0), (1, .int x1)]) dX10_pour_5 rfl (by decide) rfl ?_
    refine jx_aload_nN 0 dX10_pour_6 rfl rfl ?_
    refine jx_ifnonnullN dX10_pour_7 ?_
    refine jx_ldc jwC_X10_62 dX10_pour_10 ?_
    exact jx_iret dX10_pour_12 rfl rfl (jle rfl) (jle rfl) ⟨_, rfl, h⟩
  replace h := h.2 b4 rfl
  refine jx_astore_n (lv1 := [(2, .ref b4), (0, .ref a0), (1, .int x1)]) dX10_pour_5 rfl (by decide) rfl ?_
  refine jx_aload_n 0 dX10_pour_6 rfl rfl ?_
  refine jx_ifnonnull (tgt := 13) dX10_pour_7 (by decide) ?_
  refine jx_aload_n 0 dX10_pour_13 rfl rfl ?_
  obtain ⟨hk5, h⟩ := h
  refine jx_geti jc_6 (j := 0) (by decide) rfl jwF_X10_261 dX10_pour_14 hk5 ?_
  refine jx_iconst (v := (-1)) dX10_pour_17 (by decide) ?_
  refine jx_icmp_ne (tgt := 25) dX10_pour_18 (by decide) (fun c6 => ?_) (fun c6 => ?_)
  · replace h := h.2 c6
    refine jx_iconst (v := 0) dX10_pour_25 (by decide) ?_
    refine jx_istore_n (lv1 := [(3, .int 0), (2, .ref b4), (0, .ref a0), (1, .int x1)]) dX10_pour_26 rfl (by decide) rfl ?_
    refine jx_iconst (v := 0) dX10_pour_27 (by decide) ?_
    refine jx_istore (lv1 := [(4, .int 0), (3, .int 0), (2, .ref b4), (0, .ref a0), (1, .int x1)]) dX10_pour_28 (by decide) rfl ?_
    exact jx_lv [3, 2, 1, 0] rfl h
  replace h := h.1 c6
  refine jx_ldcw jwC_X10_264 dX10_pour_21 ?_
  exact jx_iret dX10_pour_24 rfl rfl (jle rfl) (jle rfl) ⟨_, rfl, h⟩
set_option maxRecDepth 100000 in
set_option maxHeartbeats 4000000 in
theorem T_X10_pour_30 {E : jEnv} {d : Nat} {Q : Int32 → jM → Prop} {a0 : Nat} {a2 : Nat} {x3 : Int32} {x4 : Int32} {S : jM} (h : jk S a2 = 6 ∧ ((ji S a2 1) ≤ x4 → Q x3 S) ∧ (¬ (ji S a2 1) ≤ x4 → jk S a0 = 10 ∧ ∃ b10, jr S a0 0 = some b10 ∧ (jk S b10 = 3 ∧ ∃ b12, jr S b10 0 = some b12 ∧ (jk S b12 = 0 ∧ jFr E mX0_find d 0 0 [.ref b12, .int x4] S (fun o15 S14 => (o15 = none → L_X10_pour_30 E d Q a0 a2 x3 (x4 + 1) S14) ∧ (∀ b16, o15 = some b16 → jk S14 a2 = 6 ∧ jFi E mX6_isNumber d 0 0 [.ref a2, .int x4] S14 (fun r19 S18 => (r19 = 0 → L_X10_pour_30 E d Q a0 a2 x3 (x4 + 1) S18) ∧ (¬ r19 = 0 → jk S18 a2 = 6 ∧ ∃ b22, jr S18 a2 2 = some b22 ∧ (jk S18 b22 = 12 ∧ vp_in x4 (jl S18 b22) ∧ (jk S18 b16 = 2 ∧ ((jmax 0 (jmin 99 (ji S18 b22 (Int32.toNatClampNeg x4)))) = (ji S18 b16 4) → L_X10_pour_30 E d Q a0 a2 (x3 + 0) (x4 + 1) (jput S18 b16 4 (jmax 0 (jmin 99 (ji S18 b22 (Int32.toNatClampNeg x4)))))) ∧ (¬ (jmax 0 (jmin 99 (ji S18 b22 (Int32.toNatClampNeg x4)))) = (ji S18 b16 4) → L_X10_pour_30 E d Q a0 a2 (x3 + 1) (x4 + 1) (jput S18 b16 4 (jmax 0 (jmin 99 (ji S18 b22 (Int32.toNatClampNeg x4)))))))))))))))) : L_X10_pour_30 E d Q a0 a2 x3 x4 S := by
  show jX E mX10_pour (jRm (d + 1) 0 0) (jZm E (fun r S' => ∃ v : Int32, r = some (.int v) ∧ Q v S') 0 0) 30 [(0, .ref a0), (2, .ref a2), (3, .int x3), (4, .int x4)] [] S 0 0
  refine jx_iload 3 dX10_pour_30 rfl ?_
  refine jx_aload_n 1 dX10_pour_32 rfl rfl ?_
  obtain ⟨hk7, h⟩ := h
  refine jx_geti jc_6 (j := 1) (by decide) rfl jwF_X10_327 dX10_pour_33 hk7 ?_
  refine jx_icmp_ge (tgt := 116) dX10_pour_36 (by decide) (fun c8 => ?_) (fun c8 => ?_)
  · replace h := h.1 c8
    refine jx_iload_n 2 dX10_pour_116 rfl rfl ?_
    exact jx_iret dX10_pour_117 rfl rfl (jle rfl) (jle rfl) ⟨_, rfl, h⟩
  replace h := h.2 c8
  refine jx_aload_n 0 dX10_pour_39 rfl rfl ?_
  obtain ⟨hk9, h⟩ := h
  obtain ⟨b10, hb10, h⟩ := h
  refine jx_getr jc_10 (j := 0) (by decide) rfl jwF_X10_12 dX10_pour_40 hk9 hb10 ?_
  obtain ⟨hk11, h⟩ := h
  obtain ⟨b12, hb12, h⟩ := h
  refine jx_getr jc_3 (j := 0) (by decide) rfl jwF_X10_63 dX10_pour_43 hk11 hb12 ?_
  refine jx_iload 3 dX10_pour_46 rfl ?_
  obtain ⟨hk13, h⟩ := h
  refine jx_callVr (M' := mX0_find) (As := [.int x4]) jo_X0_find jc_0 rfl jwM_X10_75 jwN_X0_find jwX_X0_find dX10_pour_48 (jRok_m _ _ _) rfl (jle rfl) ⟨jle rfl, jle rfl⟩ hk13 h (fun o15 S14 h => ?_)
  rcases o15 with _ | b16
  · replace h := h.1 rfl
    refine jx_astoreN (lv1 := [(5, .null), (0, .ref a0), (2, .ref a2), (3, .int x3), (4, .int x4)]) dX10_pour_51 (by decide) rfl ?_
    refine jx_aloadN 0 dX10_pour_53 rfl ?_
    refine jx_ifnullN (tgt := 110) dX10_pour_55 (by decide) ?_
    refine jx_iinc 4 (v := (x4 + 1)) (lv1 := [(4, .int (x4 + 1)), (5, .null), (0, .ref a0), (2, .ref a2), (3, .int x3)]) kd55.1 rfl rfl (by decide) rfl ?_
    refine jx_goto (tgt := 30) kd55.2 (by decide) ?_
    exact jx_lv [2, 3, 4, 0] rfl h
  replace h := h.2 b16 rfl
  refine jx_astore (lv1 := [(5, .ref b16), (0, .ref a0), (2, .ref a2), (3, .int x3), (4, .int x4)]) dX10_pour_51 (by decide) rfl ?_
  refine jx_aload 0 dX10_pour_53 rfl ?_
  refine jx_ifnull dX10_pour_55 ?_
  refine jx_aload_n 2 dX10_pour_58 rfl rfl ?_
  refine jx_iload 4 dX10_pour_59 rfl ?_
  obtain ⟨hk17, h⟩ := h
  refine jx_callVi (M' := mX6_isNumber) (As := [.int x4]) jo_X6_isNumber jc_6 rfl jwM_X10_328 jwN_X6_isNumber jwX_X6_isNumber dX10_pour_61 (jRok_m _ _ _) rfl (jle rfl) ⟨jle rfl, jle rfl⟩ hk17 h (fun r19 S18 h => ?_)
  refine jx_if_eq (tgt := 110) dX10_pour_64 (by decide) (fun c20 => ?_) (fun c20 => ?_)
  · replace h := h.1 c20
    refine jx_iinc 4 (v := (x4 + 1)) (lv1 := [(4, .int (x4 + 1)), (5, .ref b16), (0, .ref a0), (2, .ref a2), (3, .int x3)]) kd55.1 rfl rfl (by decide) rfl ?_
    refine jx_goto (tgt := 30) kd55.2 (by decide) ?_
    exact jx_lv [2, 3, 4, 0] rfl h
  replace h := h.2 c20
  refine jx_iconst (v := 0) dX10_pour_67 (by decide) ?_
  refine jx_bipush (v := 99) dX10_pour_68 (by decide) ?_
  refine jx_aload_n 2 dX10_pour_70 rfl rfl ?_
  obtain ⟨hk21, h⟩ := h
  obtain ⟨b22, hb22, h⟩ := h
  refine jx_getr jc_6 (j := 2) (by decide) rfl jwF_X10_322 dX10_pour_71 hk21 hb22 ?_
  refine jx_iload 4 dX10_pour_74 rfl ?_
  obtain ⟨hk23, h⟩ := h
  obtain ⟨hi24, h⟩ := h
  refine jx_iald dX10_pour_76 hk23 hi24 ?_
  refine jx_min jwM_X10_161 jwS_min jwZ_J9 jwO_min dX10_pour_77 (jRok_m _ _ _) (jle rfl) ⟨Nat.zero_le _, Nat.zero_le _⟩ ?_
  refine jx_max jwM_X10_331 jwS_max jwZ_J9 jwO_max dX10_pour_80 (jRok_m _ _ _) (jle rfl) ⟨Nat.zero_le _, Nat.zero_le _⟩ ?_
  refine jx_istore (lv1 := [(6, .int (jmax 0 (jmin 99 (ji S18 b22 (Int32.toNatClampNeg x4))))), (5, .ref b16), (0, .ref a0), (2, .ref a2), (3, .int x3), (4, .int x4)]) dX10_pour_83 (by decide) rfl ?_
  refine jx_iload_n 4 dX10_pour_85 rfl rfl ?_
  refine jx_iload 0 dX10_pour_86 rfl ?_
  refine jx_aload 1 dX10_pour_88 rfl ?_
  obtain ⟨hk25, h⟩ := h
  refine jx_geti jc_2 (j := 4) (by decide) rfl jwF_X10_97 dX10_pour_90 hk25 ?_
  refine jx_icmp_ne (tgt := 100) dX10_pour_93 (by decide) (fun c26 => ?_) (fun c26 => ?_)
  · replace h := h.2 c26
    refine jx_iconst (v := 1) dX10_pour_100 (by decide) ?_
    refine jx_iadd dX10_pour_101 ?_
    refine jx_istore_n (lv1 := [(3, .int (x3 + 1)), (6, .int (jmax 0 (jmin 99 (ji S18 b22 (Int32.toNatClampNeg x4))))), (5, .ref b16), (0, .ref a0), (2, .ref a2), (4, .int x4)]) dX10_pour_102 rfl (by decide) rfl ?_
    refine jx_aload 2 dX10_pour_103 rfl ?_
    refine jx_iload 1 dX10_pour_105 rfl ?_
    refine jx_puti jc_2 (j := 4) (by decide) rfl jwF_X10_97 rfl rfl rfl dX10_pour_107 hk25 ?_
    refine jx_iinc 5 (v := (x4 + 1)) (lv1 := [(4, .int (x4 + 1)), (3, .int (x3 + 1)), (6, .int (jmax 0 (jmin 99 (ji S18 b22 (Int32.toNatClampNeg x4))))), (5, .ref b16), (0, .ref a0), (2, .ref a2)]) kd55.1 rfl rfl (by decide) rfl ?_
    refine jx_goto (tgt := 30) kd55.2 (by decide) ?_
    exact jx_lv [4, 5, 1, 0] rfl h
  replace h := h.1 c26
  refine jx_iconst (v := 0) dX10_pour_96 (by decide) ?_
  refine jx_goto (tgt := 101) dX10_pour_97 (by decide) ?_
  refine jx_iadd dX10_pour_101 ?_
  refine jx_istore_n (lv1 := [(3, .int (x3 + 0)), (6, .int (jmax 0 (jmin 99 (ji S18 b22 (Int32.toNatClampNeg x4))))), (5, .ref b16), (0, .ref a0), (2, .ref a2), (4, .int x4)]) dX10_pour_102 rfl (by decide) rfl ?_
  refine jx_aload 2 dX10_pour_103 rfl ?_
  refine jx_iload 1 dX10_pour_105 rfl ?_
  refine jx_puti jc_2 (j := 4) (by decide) rfl jwF_X10_97 rfl rfl rfl dX10_pour_107 hk25 ?_
  refine jx_iinc 5 (v := (x4 + 1)) (lv1 := [(4, .int (x4 + 1)), (3, .int (x3 + 0)), (6, .int (jmax 0 (jmin 99 (ji S18 b22 (Int32.toNatClampNeg x4))))), (5, .ref b16), (0, .ref a0), (2, .ref a2)]) kd55.1 rfl rfl (by decide) rfl ?_
  refine jx_goto (tgt := 30) kd55.2 (by decide) ?_
  exact jx_lv [4, 5, 1, 0] rfl h
/-- X10_reads at its loop's head 27 -/
abbrev L_X10_reads_27 (E : jEnv) (d : Nat) (Q : Int32 → jM → Prop) (a0 : Nat) (a2 : Nat) (x3 : Int32) (S : jM) : Prop := jX E mX10_reads (jRm (d + 1) 0 0) (jZm E (fun r S' => ∃ v : Int32, r = some (.int v) ∧ Q v S') 0 0) 27 [(0, .ref a0), (2, .ref a2), (3, .int x3)] [] S 0 0
set_option maxRecDepth 100000 in
set_option maxHeartbeats 4000000 in
theorem T_X10_reads {E : jEnv} {d : Nat} {Q : Int32 → jM → Prop} {a0 : Nat} {x1 : Int32} {S : jM} (h : jk S a0 = 10 ∧ jFr E mX10_findSheet d 0 0 [.ref a0, .int x1] S (fun o3 S2 => (o3 = none → Q (-1000000001) S2) ∧ (∀ b4, o3 = some b4 → jk S2 b4 = 6 ∧ ((ji S2 b4 0) = (-1) → Q (-1000000011) S2) ∧ (¬ (ji S2 b4 0) = (-1) → L_X10_reads_27 E d Q a0 b4 0 S2)))) : jFi E mX10_reads (d + 1) 0 0 [.ref a0, .int x1] S Q := by
  refine jF_of (by decide) (jle rfl) ?_
  refine jx_lv (lv1 := [(0, .ref a0), (1, .int x1)]) [0, 1] rfl ?_
  refine jx_aload_n 0 dX10_reads_0 rfl rfl ?_
  refine jx_iload_n 1 dX10_reads_1 rfl rfl ?_
  obtain ⟨hk1, h⟩ := h
  refine jx_callVr (M' := mX10_findSheet) (As := [.int x1]) jo_X10_findSheet jc_10 rfl jwM_X10_257 jwN_X10_findSheet jwX_X10_findSheet dX10_reads_2 (jRok_m _ _ _) rfl (jle rfl) ⟨jle rfl, jle rfl⟩ hk1 h (fun o3 S2 h => ?_)
  rcases o3 with _ | b4
  · replace h := h.1 rfl
    refine jx_astore_nN (lv1 := [(2, .null), (0, .ref a0), (1, .int x1)]) dX10_reads_5 rfl (by decide) rfl ?_
    refine jx_aload_nN 0 dX10_reads_6 rfl rfl ?_
    refine jx_ifnonnullN dX10_reads_7 ?_
    refine jx_ldc jwC_X10_62 dX10_reads_10 ?_
    exact jx_iret dX10_reads_12 rfl rfl (jle rfl) (jle rfl) ⟨_, rfl, h⟩
  replace h := h.2 b4 rfl
  refine jx_astore_n (lv1 := [(2, .ref b4), (0, .ref a0), (1, .int x1)]) dX10_reads_5 rfl (by decide) rfl ?_
  refine jx_aload_n 0 dX10_reads_6 rfl rfl ?_
  refine jx_ifnonnull (tgt := 13) dX10_reads_7 (by decide) ?_
  refine jx_aload_n 0 dX10_reads_13 rfl rfl ?_
  obtain ⟨hk5, h⟩ := h
  refine jx_geti jc_6 (j := 0) (by decide) rfl jwF_X10_261 dX10_reads_14 hk5 ?_
  refine jx_iconst (v := (-1)) dX10_reads_17 (by decide) ?_
  refine jx_icmp_ne (tgt := 25) dX10_reads_18 (by decide) (fun c6 => ?_) (fun c6 => ?_)
  · replace h := h.2 c6
    refine jx_iconst (v := 0) dX10_reads_25 (by decide) ?_
    refine jx_istore_n (lv1 := [(3, .int 0), (2, .ref b4), (0, .ref a0), (1, .int x1)]) dX10_reads_26 rfl (by decide) rfl ?_
    exact jx_lv [2, 1, 0] rfl h
  replace h := h.1 c6
  refine jx_ldcw jwC_X10_264 dX10_reads_21 ?_
  exact jx_iret dX10_reads_24 rfl rfl (jle rfl) (jle rfl) ⟨_, rfl, h⟩
set_option maxRecDepth 100000 in
set_option maxHeartbeats 4000000 in
theorem T_X10_reads_27 {E : jEnv} {d : Nat} {Q : Int32 → jM → Prop} {a0 : Nat} {a2 : Nat} {x3 : Int32} {S : jM} (h : jk S a2 = 6 ∧ ((ji S a2 1) ≤ x3 → Q (-1000000005) S) ∧ (¬ (ji S a2 1) ≤ x3 → jk S a0 = 10 ∧ ∃ b10, jr S a0 0 = some b10 ∧ (jk S b10 = 3 ∧ ∃ b12, jr S b10 0 = some b12 ∧ (jk S b12 = 0 ∧ jFr E mX0_find d 0 0 [.ref b12, .int x3] S (fun o15 S14 => (o15 = none → jk S14 a2 = 6 ∧ jFi E mX6_isNumber d 0 0 [.ref a2, .int x3] S14 (fun r19 S18 => (r19 = 0 → L_X10_reads_27 E d Q a0 a2 (x3 + 1) S18) ∧ (¬ r19 = 0 → Q x3 S18))) ∧ (∀ b16, o15 = some b16 → jk S14 a2 = 6 ∧ jFi E mX6_isNumber d 0 0 [.ref a2, .int x3] S14 (fun r23 S22 => (r23 = 0 → L_X10_reads_27 E d Q a0 a2 (x3 + 1) S22) ∧ (¬ r23 = 0 → jk S22 a2 = 6 ∧ ∃ b26, jr S22 a2 2 = some b26 ∧ (jk S22 b26 = 12 ∧ vp_in x3 (jl S22 b26) ∧ (jk S22 b16 = 2 ∧ ((ji S22 b26 (Int32.toNatClampNeg x3)) = (ji S22 b16 5) → L_X10_reads_27 E d Q a0 a2 (x3 + 1) S22) ∧ (¬ (ji S22 b26 (Int32.toNatClampNeg x3)) = (ji S22 b16 5) → Q x3 S22))))))))))) : L_X10_reads_27 E d Q a0 a2 x3 S := by
  show jX E mX10_reads (jRm (d + 1) 0 0) (jZm E (fun r S' => ∃ v : Int32, r = some (.int v) ∧ Q v S') 0 0) 27 [(0, .ref a0), (2, .ref a2), (3, .int x3)] [] S 0 0
  refine jx_iload_n 2 dX10_reads_27 rfl rfl ?_
  refine jx_aload_n 1 dX10_reads_28 rfl rfl ?_
  obtain ⟨hk7, h⟩ := h
  refine jx_geti jc_6 (j := 1) (by decide) rfl jwF_X10_327 dX10_reads_29 hk7 ?_
  refine jx_icmp_ge (tgt := 83) dX10_reads_32 (by decide) (fun c8 => ?_) (fun c8 => ?_)
  · replace h := h.1 c8
    refine jx_ldc jwC_X10_160 dX10_reads_83 ?_
    exact jx_iret dX10_reads_85 rfl rfl (jle rfl) (jle rfl) ⟨_, rfl, h⟩
  replace h := h.2 c8
  refine jx_aload_n 0 dX10_reads_35 rfl rfl ?_
  obtain ⟨hk9, h⟩ := h
  obtain ⟨b10, hb10, h⟩ := h
  refine jx_getr jc_10 (j := 0) (by decide) rfl jwF_X10_12 dX10_reads_36 hk9 hb10 ?_
  obtain ⟨hk11, h⟩ := h
  obtain ⟨b12, hb12, h⟩ := h
  refine jx_getr jc_3 (j := 0) (by decide) rfl jwF_X10_63 dX10_reads_39 hk11 hb12 ?_
  refine jx_iload_n 2 dX10_reads_42 rfl rfl ?_
  obtain ⟨hk13, h⟩ := h
  refine jx_callVr (M' := mX0_find) (As := [.int x3]) jo_X0_find jc_0 rfl jwM_X10_75 jwN_X0_find jwX_X0_find dX10_reads_43 (jRok_m _ _ _) rfl (jle rfl) ⟨jle rfl, jle rfl⟩ hk13 h (fun o15 S14 h => ?_)
  rcases o15 with _ | b16
  · replace h := h.1 rfl
    refine jx_astoreN (lv1 := [(4, .null), (0, .ref a0), (2, .ref a2), (3, .int x3)]) dX10_reads_46 (by decide) rfl ?_
    refine jx_aload_n 2 dX10_reads_48 rfl rfl ?_
    refine jx_iload_n 3 dX10_reads_49 rfl rfl ?_
    obtain ⟨hk17, h⟩ := h
    refine jx_callVi (M' := mX6_isNumber) (As := [.int x3]) jo_X6_isNumber jc_6 rfl jwM_X10_328 jwN_X6_isNumber jwX_X6_isNumber dX10_reads_50 (jRok_m _ _ _) rfl (jle rfl) ⟨jle rfl, jle rfl⟩ hk17 h (fun r19 S18 h => ?_)
    refine jx_if_eq (tgt := 77) dX10_reads_53 (by decide) (fun c20 => ?_) (fun c20 => ?_)
    · replace h := h.1 c20
      refine jx_iinc 3 (v := (x3 + 1)) (lv1 := [(3, .int (x3 + 1)), (4, .null), (0, .ref a0), (2, .ref a2)]) kd56.1 rfl rfl (by decide) rfl ?_
      refine jx_goto (tgt := 27) kd56.2 (by decide) ?_
      exact jx_lv [2, 3, 0] rfl h
    replace h := h.2 c20
    refine jx_aloadN 0 dX10_reads_56 rfl ?_
    refine jx_ifnullN (tgt := 75) dX10_reads_58 (by decide) ?_
    refine jx_iload_n 3 dX10_reads_75 rfl rfl ?_
    exact jx_iret dX10_reads_76 rfl rfl (jle rfl) (jle rfl) ⟨_, rfl, h⟩
  replace h := h.2 b16 rfl
  refine jx_astore (lv1 := [(4, .ref b16), (0, .ref a0), (2, .ref a2), (3, .int x3)]) dX10_reads_46 (by decide) rfl ?_
  refine jx_aload_n 2 dX10_reads_48 rfl rfl ?_
  refine jx_iload_n 3 dX10_reads_49 rfl rfl ?_
  obtain ⟨hk21, h⟩ := h
  refine jx_callVi (M' := mX6_isNumber) (As := [.int x3]) jo_X6_isNumber jc_6 rfl jwM_X10_328 jwN_X6_isNumber jwX_X6_isNumber dX10_reads_50 (jRok_m _ _ _) rfl (jle rfl) ⟨jle rfl, jle rfl⟩ hk21 h (fun r23 S22 h => ?_)
  refine jx_if_eq (tgt := 77) dX10_reads_53 (by decide) (fun c24 => ?_) (fun c24 => ?_)
  · replace h := h.1 c24
    refine jx_iinc 3 (v := (x3 + 1)) (lv1 := [(3, .int (x3 + 1)), (4, .ref b16), (0, .ref a0), (2, .ref a2)]) kd56.1 rfl rfl (by decide) rfl ?_
    refine jx_goto (tgt := 27) kd56.2 (by decide) ?_
    exact jx_lv [2, 3, 0] rfl h
  replace h := h.2 c24
  refine jx_aload 0 dX10_reads_56 rfl ?_
  refine jx_ifnull dX10_reads_58 ?_
  refine jx_aload_n 2 dX10_reads_61 rfl rfl ?_
  obtain ⟨hk25, h⟩ := h
  obtain ⟨b26, hb26, h⟩ := h
  refine jx_getr jc_6 (j := 2) (by decide) rfl jwF_X10_322 dX10_reads_62 hk25 hb26 ?_
  refine jx_iload_n 3 dX10_reads_65 rfl rfl ?_
  obtain ⟨hk27, h⟩ := h
  obtain ⟨hi28, h⟩ := h
  refine jx_iald dX10_reads_66 hk27 hi28 ?_
  refine jx_aload 0 dX10_reads_67 rfl ?_
  obtain ⟨hk29, h⟩ := h
  refine jx_geti jc_2 (j := 5) (by decide) rfl jwF_X10_100 dX10_reads_69 hk29 ?_
  refine jx_icmp_eq (tgt := 77) dX10_reads_72 (by decide) (fun c30 => ?_) (fun c30 => ?_)
  · replace h := h.1 c30
    refine jx_iinc 3 (v := (x3 + 1)) (lv1 := [(3, .int (x3 + 1)), (4, .ref b16), (0, .ref a0), (2, .ref a2)]) kd56.1 rfl rfl (by decide) rfl ?_
    refine jx_goto (tgt := 27) kd56.2 (by decide) ?_
    exact jx_lv [2, 3, 0] rfl h
  replace h := h.2 c30
  refine jx_iload_n 3 dX10_reads_75 rfl rfl ?_
  exact jx_iret dX10_reads_76 rfl rfl (jle rfl) (jle rfl) ⟨_, rfl, h⟩
set_option maxRecDepth 100000 in
set_option maxHeartbeats 4000000 in
theorem T_X10_copy {E : jEnv} {d : Nat} {Q : Int32 → jM → Prop} {a0 : Nat} {x1 : Int32} {x2 : Int32} {x3 : Int32} {x4 : Int32} {x5 : Int32} {S : jM} (h : jk S a0 = 10 ∧ jFr E mX10_findSheet d 0 0 [.ref a0, .int x1] S (fun o3 S2 => (o3 = none → jk S2 a0 = 10 ∧ jFr E mX10_findSheet d 0 0 [.ref a0, .int x3] S2 (fun o7 S6 => (o7 = none → Q (-1000000001) S6) ∧ (∀ b8, o7 = some b8 → Q (-1000000001) S6))) ∧ (∀ b4, o3 = some b4 → jk S2 a0 = 10 ∧ jFr E mX10_findSheet d 0 0 [.ref a0, .int x3] S2 (fun o11 S10 => (o11 = none → Q (-1000000001) S10) ∧ (∀ b12, o11 = some b12 → jk S10 b4 = 6 ∧ ((ji S10 b4 0) = (-1) → Q (-1000000011) S10) ∧ (¬ (ji S10 b4 0) = (-1) → jk S10 b12 = 6 ∧ ((ji S10 b12 0) = (-1) → Q (-1000000011) S10) ∧ (¬ (ji S10 b12 0) = (-1) → ((ji S10 b4 0) = (ji S10 b12 0) → jFi E mX6_hasPlaces d 0 0 [.ref b4, .int x2, .int x5] S10 (fun r19 S18 => (r19 = 0 → Q (-1000000013) S18) ∧ (¬ r19 = 0 → jk S18 b12 = 6 ∧ jFi E mX6_hasPlaces d 0 0 [.ref b12, .int x4, .int x5] S18 (fun r23 S22 => (r23 = 0 → Q (-1000000013) S22) ∧ (¬ r23 = 0 → jk S22 b4 = 6 ∧ ∃ b26, jr S22 b4 2 = some b26 ∧ (jk S22 b12 = 6 ∧ ∃ b28, jr S22 b12 2 = some b28 ∧ (jk S22 b26 = 12 ∧ jk S22 b28 = 12 ∧ (¬ x2 < 0 ∧ ¬ x4 < 0 ∧ ¬ x5 < 0 ∧ (Int32.toNatClampNeg x2) + (Int32.toNatClampNeg x5) ≤ jl S22 b26 ∧ (Int32.toNatClampNeg x4) + (Int32.toNatClampNeg x5) ≤ jl S22 b28) ∧ (Q x5 (jrow S22 b28 (va_cpy (ji S22 b26) (ji S22 b28) (Int32.toNatClampNeg x2) (Int32.toNatClampNeg x4) (Int32.toNatClampNeg x5))))))))))) ∧ (¬ (ji S10 b4 0) = (ji S10 b12 0) → Q (-1000000012) S10)))))))) : jFi E mX10_copy (d + 1) 0 0 [.ref a0, .int x1, .int x2, .int x3, .int x4, .int x5] S Q := by
  refine jF_of (by decide) (jle rfl) ?_
  refine jx_lv (lv1 := [(0, .ref a0), (1, .int x1), (2, .int x2), (3, .int x3), (4, .int x4), (5, .int x5)]) [0, 1, 2, 3, 4, 5] rfl ?_
  refine jx_aload_n 0 dX10_copy_0 rfl rfl ?_
  refine jx_iload_n 1 dX10_copy_1 rfl rfl ?_
  obtain ⟨hk1, h⟩ := h
  refine jx_callVr (M' := mX10_findSheet) (As := [.int x1]) jo_X10_findSheet jc_10 rfl jwM_X10_257 jwN_X10_findSheet jwX_X10_findSheet dX10_copy_2 (jRok_m _ _ _) rfl (jle rfl) ⟨jle rfl, jle rfl⟩ hk1 h (fun o3 S2 h => ?_)
  rcases o3 with _ | b4
  · replace h := h.1 rfl
    refine jx_astoreN (lv1 := [(6, .null), (0, .ref a0), (1, .int x1), (2, .int x2), (3, .int x3), (4, .int x4), (5, .int x5)]) dX10_copy_5 (by decide) rfl ?_
    refine jx_aload_n 1 dX10_copy_7 rfl rfl ?_
    refine jx_iload_n 4 dX10_copy_8 rfl rfl ?_
    obtain ⟨hk5, h⟩ := h
    refine jx_callVr (M' := mX10_findSheet) (As := [.int x3]) jo_X10_findSheet jc_10 rfl jwM_X10_257 jwN_X10_findSheet jwX_X10_findSheet dX10_copy_9 (jRok_m _ _ _) rfl (jle rfl) ⟨jle rfl, jle rfl⟩ hk5 h (fun o7 S6 h => ?_)
    rcases o7 with _ | b8
    · replace h := h.1 rfl
      refine jx_astoreN (lv1 := [(7, .null), (6, .null), (0, .ref a0), (1, .int x1), (2, .int x2), (3, .int x3), (4, .int x4), (5, .int x5)]) dX10_copy_12 (by decide) rfl ?_
      refine jx_aloadN 1 dX10_copy_14 rfl ?_
      refine jx_ifnullN (tgt := 24) dX10_copy_16 (by decide) ?_
      refine jx_ldc jwC_X10_62 dX10_copy_24 ?_
      exact jx_iret dX10_copy_26 rfl rfl (jle rfl) (jle rfl) ⟨_, rfl, h⟩
    replace h := h.2 b8 rfl
    refine jx_astore (lv1 := [(7, .ref b8), (6, .null), (0, .ref a0), (1, .int x1), (2, .int x2), (3, .int x3), (4, .int x4), (5, .int x5)]) dX10_copy_12 (by decide) rfl ?_
    refine jx_aloadN 1 dX10_copy_14 rfl ?_
    refine jx_ifnullN (tgt := 24) dX10_copy_16 (by decide) ?_
    refine jx_ldc jwC_X10_62 dX10_copy_24 ?_
    exact jx_iret dX10_copy_26 rfl rfl (jle rfl) (jle rfl) ⟨_, rfl, h⟩
  replace h := h.2 b4 rfl
  refine jx_astore (lv1 := [(6, .ref b4), (0, .ref a0), (1, .int x1), (2, .int x2), (3, .int x3), (4, .int x4), (5, .int x5)]) dX10_copy_5 (by decide) rfl ?_
  refine jx_aload_n 1 dX10_copy_7 rfl rfl ?_
  refine jx_iload_n 4 dX10_copy_8 rfl rfl ?_
  obtain ⟨hk9, h⟩ := h
  refine jx_callVr (M' := mX10_findSheet) (As := [.int x3]) jo_X10_findSheet jc_10 rfl jwM_X10_257 jwN_X10_findSheet jwX_X10_findSheet dX10_copy_9 (jRok_m _ _ _) rfl (jle rfl) ⟨jle rfl, jle rfl⟩ hk9 h (fun o11 S10 h => ?_)
  rcases o11 with _ | b12
  · replace h := h.1 rfl
    refine jx_astoreN (lv1 := [(7, .null), (6, .ref b4), (0, .ref a0), (1, .int x1), (2, .int x2), (3, .int x3), (4, .int x4), (5, .int x5)]) dX10_copy_12 (by decide) rfl ?_
    refine jx_aload 1 dX10_copy_14 rfl ?_
    refine jx_ifnull dX10_copy_16 ?_
    refine jx_aloadN 0 dX10_copy_19 rfl ?_
    refine jx_ifnonnullN dX10_copy_21 ?_
    refine jx_ldc jwC_X10_62 dX10_copy_24 ?_
    exact jx_iret dX10_copy_26 rfl rfl (jle rfl) (jle rfl) ⟨_, rfl, h⟩
  replace h := h.2 b12 rfl
  refine jx_astore (lv1 := [(7, .ref b12), (6, .ref b4), (0, .ref a0), (1, .int x1), (2, .int x2), (3, .int x3), (4, .int x4), (5, .int x5)]) dX10_copy_12 (by decide) rfl ?_
  refine jx_aload 1 dX10_copy_14 rfl ?_
  refine jx_ifnull dX10_copy_16 ?_
  refine jx_aload 0 dX10_copy_19 rfl ?_
  refine jx_ifnonnull (tgt := 27) dX10_copy_21 (by decide) ?_
  refine jx_aload 1 dX10_copy_27 rfl ?_
  obtain ⟨hk13, h⟩ := h
  refine jx_geti jc_6 (j := 0) (by decide) rfl jwF_X10_261 dX10_copy_29 hk13 ?_
  refine jx_iconst (v := (-1)) dX10_copy_32 (by decide) ?_
  refine jx_icmp_eq (tgt := 45) dX10_copy_33 (by decide) (fun c14 => ?_) (fun c14 => ?_)
  · replace h := h.1 c14
    refine jx_ldcw jwC_X10_264 dX10_copy_45 ?_
    exact jx_iret dX10_copy_48 rfl rfl (jle rfl) (jle rfl) ⟨_, rfl, h⟩
  replace h := h.2 c14
  refine jx_aload 0 dX10_copy_36 rfl ?_
  obtain ⟨hk15, h⟩ := h
  refine jx_geti jc_6 (j := 0) (by decide) rfl jwF_X10_261 dX10_copy_38 hk15 ?_
  refine jx_iconst (v := (-1)) dX10_copy_41 (by decide) ?_
  refine jx_icmp_ne (tgt := 49) dX10_copy_42 (by decide) (fun c16 => ?_) (fun c16 => ?_)
  · replace h := h.2 c16
    refine jx_aload 1 dX10_copy_49 rfl ?_
    refine jx_geti jc_6 (j := 0) (by decide) rfl jwF_X10_261 dX10_copy_51 hk13 ?_
    refine jx_aload 0 dX10_copy_54 rfl ?_
    refine jx_geti jc_6 (j := 0) (by decide) rfl jwF_X10_261 dX10_copy_56 hk15 ?_
    refine jx_icmp_eq (tgt := 65) dX10_copy_59 (by decide) (fun c17 => ?_) (fun c17 => ?_)
    · replace h := h.1 c17
      refine jx_aload 1 dX10_copy_65 rfl ?_
      refine jx_iload_n 4 dX10_copy_67 rfl rfl ?_
      refine jx_iload 7 dX10_copy_68 rfl ?_
      refine jx_callVi (M' := mX6_hasPlaces) (As := [.int x2, .int x5]) jo_X6_hasPlaces jc_6 rfl jwM_X10_334 jwN_X6_hasPlaces jwX_X6_hasPlaces dX10_copy_70 (jRok_m _ _ _) rfl (jle rfl) ⟨jle rfl, jle rfl⟩ hk13 h (fun r19 S18 h => ?_)
      refine jx_if_eq (tgt := 88) dX10_copy_73 (by decide) (fun c20 => ?_) (fun c20 => ?_)
      · replace h := h.1 c20
        refine jx_ldcw jwC_X10_321 dX10_copy_88 ?_
        exact jx_iret dX10_copy_91 rfl rfl (jle rfl) (jle rfl) ⟨_, rfl, h⟩
      replace h := h.2 c20
      refine jx_aload 0 dX10_copy_76 rfl ?_
      refine jx_iload 6 dX10_copy_78 rfl ?_
      refine jx_iload 7 dX10_copy_80 rfl ?_
      obtain ⟨hk21, h⟩ := h
      refine jx_callVi (M' := mX6_hasPlaces) (As := [.int x4, .int x5]) jo_X6_hasPlaces jc_6 rfl jwM_X10_334 jwN_X6_hasPlaces jwX_X6_hasPlaces dX10_copy_82 (jRok_m _ _ _) rfl (jle rfl) ⟨jle rfl, jle rfl⟩ hk21 h (fun r23 S22 h => ?_)
      refine jx_if_ne (tgt := 92) dX10_copy_85 (by decide) (fun c24 => ?_) (fun c24 => ?_)
      · replace h := h.2 c24
        refine jx_aload 1 dX10_copy_92 rfl ?_
        obtain ⟨hk25, h⟩ := h
        obtain ⟨b26, hb26, h⟩ := h
        refine jx_getr jc_6 (j := 2) (by decide) rfl jwF_X10_322 dX10_copy_94 hk25 hb26 ?_
        refine jx_iload_n 4 dX10_copy_97 rfl rfl ?_
        refine jx_aload 0 dX10_copy_98 rfl ?_
        obtain ⟨hk27, h⟩ := h
        obtain ⟨b28, hb28, h⟩ := h
        refine jx_getr jc_6 (j := 2) (by decide) rfl jwF_X10_322 dX10_copy_100 hk27 hb28 ?_
        refine jx_iload 6 dX10_copy_103 rfl ?_
        refine jx_iload 7 dX10_copy_105 rfl ?_
        obtain ⟨hk29, h⟩ := h
        obtain ⟨hk30, h⟩ := h
        obtain ⟨⟨hc31, hc32, hc33, hc34, hc35⟩, h⟩ := h
        refine jx_copy jwM_X10_337 jwV_copy jwS_copy jwZ_J10 dX10_copy_107 (jRok_m _ _ _) (jle rfl) hk29 hk30 hc31 hc32 hc33 hc34 hc35 ?_
        refine jx_iload 7 dX10_copy_110 rfl ?_
        exact jx_iret dX10_copy_112 rfl rfl (jle rfl) (jle rfl) ⟨_, rfl, h⟩
      replace h := h.1 c24
      refine jx_ldcw jwC_X10_321 dX10_copy_88 ?_
      exact jx_iret dX10_copy_91 rfl rfl (jle rfl) (jle rfl) ⟨_, rfl, h⟩
    replace h := h.2 c17
    refine jx_ldc jwC_X10_133 dX10_copy_62 ?_
    exact jx_iret dX10_copy_64 rfl rfl (jle rfl) (jle rfl) ⟨_, rfl, h⟩
  replace h := h.1 c16
  refine jx_ldcw jwC_X10_264 dX10_copy_45 ?_
  exact jx_iret dX10_copy_48 rfl rfl (jle rfl) (jle rfl) ⟨_, rfl, h⟩
set_option maxRecDepth 100000 in
set_option maxHeartbeats 4000000 in
theorem T_X10_lay {E : jEnv} {d : Nat} {Q : Int32 → jM → Prop} {a0 : Nat} {x1 : Int32} {x2 : Int32} {x3 : Int32} {S : jM} (h : jk S a0 = 10 ∧ jFr E mX10_findSlot d 0 0 [.ref a0, .int x1] S (fun o3 S2 => (o3 = none → Q (-1000000001) S2) ∧ (∀ b4, o3 = some b4 → jk S2 b4 = 7 ∧ (x2 = 0 → Q (ji S2 b4 0) (jput S2 b4 0 0)) ∧ (x2 = 1 → jk S2 a0 = 10 ∧ jFi E mX10_layMaster d 0 0 [.ref a0, .ref b4, .int x3] S2 (fun r10 S9 => Q r10 S9)) ∧ (x2 = 2 → jk S2 a0 = 10 ∧ jFi E mX10_laySheet d 0 0 [.ref a0, .ref b4, .int x3] S2 (fun r14 S13 => Q r14 S13)) ∧ (x2 = 3 → Q (ji S2 b4 0) (jput (jput S2 b4 0 3) b4 3 x3)) ∧ (¬ x2 = 0 → ¬ x2 = 1 → ¬ x2 = 2 → ¬ x2 = 3 → Q (-1000000001) S2)))) : jFi E mX10_lay (d + 1) 0 0 [.ref a0, .int x1, .int x2, .int x3] S Q := by
  refine jF_of (by decide) (jle rfl) ?_
  refine jx_lv (lv1 := [(0, .ref a0), (1, .int x1), (2, .int x2), (3, .int x3)]) [0, 1, 2, 3] rfl ?_
  refine jx_aload_n 0 dX10_lay_0 rfl rfl ?_
  refine jx_iload_n 1 dX10_lay_1 rfl rfl ?_
  obtain ⟨hk1, h⟩ := h
  refine jx_callVr (M' := mX10_findSlot) (As := [.int x1]) jo_X10_findSlot jc_10 rfl jwM_X10_343 jwN_X10_findSlot jwX_X10_findSlot dX10_lay_2 (jRok_m _ _ _) rfl (jle rfl) ⟨jle rfl, jle rfl⟩ hk1 h (fun o3 S2 h => ?_)
  rcases o3 with _ | b4
  · replace h := h.1 rfl
    refine jx_astoreN (lv1 := [(4, .null), (0, .ref a0), (1, .int x1), (2, .int x2), (3, .int x3)]) dX10_lay_5 (by decide) rfl ?_
    refine jx_aloadN 0 dX10_lay_7 rfl ?_
    refine jx_ifnonnullN dX10_lay_9 ?_
    refine jx_ldc jwC_X10_62 dX10_lay_12 ?_
    exact jx_iret dX10_lay_14 rfl rfl (jle rfl) (jle rfl) ⟨_, rfl, h⟩
  replace h := h.2 b4 rfl
  refine jx_astore (lv1 := [(4, .ref b4), (0, .ref a0), (1, .int x1), (2, .int x2), (3, .int x3)]) dX10_lay_5 (by decide) rfl ?_
  refine jx_aload 0 dX10_lay_7 rfl ?_
  refine jx_ifnonnull (tgt := 15) dX10_lay_9 (by decide) ?_
  refine jx_aload 0 dX10_lay_15 rfl ?_
  obtain ⟨hk5, h⟩ := h
  refine jx_geti jc_7 (j := 0) (by decide) rfl jwF_X10_347 dX10_lay_17 hk5 ?_
  refine jx_istore (lv1 := [(5, .int (ji S2 b4 0)), (4, .ref b4), (0, .ref a0), (1, .int x1), (2, .int x2), (3, .int x3)]) dX10_lay_20 (by decide) rfl ?_
  refine jx_iload_n 4 dX10_lay_22 rfl rfl ?_
  by_cases c6 : x2 = 0
  · replace h := h.1 c6
    refine jx_tableIn (v := 0) (tgt := 52) (off := 29) kd57 c6 (by decide) (by decide) (by decide) (by decide) ?_
    refine jx_aload 1 dX10_lay_52 rfl ?_
    refine jx_iconst (v := 0) dX10_lay_54 (by decide) ?_
    refine jx_puti jc_7 (j := 0) (by decide) rfl jwF_X10_347 rfl rfl rfl dX10_lay_55 hk5 ?_
    refine jx_iload 0 dX10_lay_58 rfl ?_
    exact jx_iret dX10_lay_60 rfl rfl (jle rfl) (jle rfl) ⟨_, rfl, h⟩
  replace h := h.2
  by_cases c7 : x2 = 1
  · replace h := h.1 c7
    refine jx_tableIn (v := 1) (tgt := 61) (off := 38) kd57 c7 (by decide) (by decide) (by decide) (by decide) ?_
    refine jx_aload_n 2 dX10_lay_61 rfl rfl ?_
    refine jx_aload 1 dX10_lay_62 rfl ?_
    refine jx_iload_n 5 dX10_lay_64 rfl rfl ?_
    obtain ⟨hk8, h⟩ := h
    refine jx_callVi (M' := mX10_layMaster) (As := [.ref b4, .int x3]) jo_X10_layMaster jc_10 rfl jwM_X10_350 jwN_X10_layMaster jwX_X10_layMaster dX10_lay_65 (jRok_m _ _ _) rfl (jle rfl) ⟨jle rfl, jle rfl⟩ hk8 h (fun r10 S9 h => ?_)
    exact jx_iret dX10_lay_68 rfl rfl (jle rfl) (jle rfl) ⟨_, rfl, h⟩
  replace h := h.2
  by_cases c11 : x2 = 2
  · replace h := h.1 c11
    refine jx_tableIn (v := 2) (tgt := 69) (off := 46) kd57 c11 (by decide) (by decide) (by decide) (by decide) ?_
    refine jx_aload_n 2 dX10_lay_69 rfl rfl ?_
    refine jx_aload 1 dX10_lay_70 rfl ?_
    refine jx_iload_n 5 dX10_lay_72 rfl rfl ?_
    obtain ⟨hk12, h⟩ := h
    refine jx_callVi (M' := mX10_laySheet) (As := [.ref b4, .int x3]) jo_X10_laySheet jc_10 rfl jwM_X10_354 jwN_X10_laySheet jwX_X10_laySheet dX10_lay_73 (jRok_m _ _ _) rfl (jle rfl) ⟨jle rfl, jle rfl⟩ hk12 h (fun r14 S13 h => ?_)
    exact jx_iret dX10_lay_76 rfl rfl (jle rfl) (jle rfl) ⟨_, rfl, h⟩
  replace h := h.2
  by_cases c15 : x2 = 3
  · replace h := h.1 c15
    refine jx_tableIn (v := 3) (tgt := 77) (off := 54) kd57 c15 (by decide) (by decide) (by decide) (by decide) ?_
    refine jx_aload 1 dX10_lay_77 rfl ?_
    refine jx_iconst (v := 3) dX10_lay_79 (by decide) ?_
    refine jx_puti jc_7 (j := 0) (by decide) rfl jwF_X10_347 rfl rfl rfl dX10_lay_80 hk5 ?_
    refine jx_aload 1 dX10_lay_83 rfl ?_
    refine jx_iload_n 5 dX10_lay_85 rfl rfl ?_
    refine jx_puti jc_7 (j := 3) (by decide) rfl jwF_X10_357 rfl rfl rfl dX10_lay_86 hk5 ?_
    refine jx_iload 0 dX10_lay_89 rfl ?_
    exact jx_iret dX10_lay_91 rfl rfl (jle rfl) (jle rfl) ⟨_, rfl, h⟩
  replace h := h.2
  replace h := h c6 c7 c11 c15
  refine jx_tableD (tgt := 92) ([0, 1, 2, 3] : List Int) kd57 (by simp only [List.mem_cons, List.not_mem_nil, or_false, forall_eq_or_imp, forall_eq]; exact ⟨lv_neT c6 (by decide), lv_neT c7 (by decide), lv_neT c11 (by decide), lv_neT c15 (by decide)⟩) (by decide) (by decide) (by decide) ?_
  refine jx_ldc jwC_X10_62 dX10_lay_92 ?_
  exact jx_iret dX10_lay_94 rfl rfl (jle rfl) (jle rfl) ⟨_, rfl, h⟩
set_option maxRecDepth 100000 in
set_option maxHeartbeats 4000000 in
theorem T_X10_layMaster {E : jEnv} {d : Nat} {Q : Int32 → jM → Prop} {a0 : Nat} {a1 : Nat} {x2 : Int32} {S : jM} (h : jk S a0 = 10 ∧ ∃ b2, jr S a0 0 = some b2 ∧ (jk S b2 = 3 ∧ ∃ b4, jr S b2 0 = some b4 ∧ (jk S b4 = 0 ∧ jFr E mX0_find d 0 0 [.ref b4, .int x2] S (fun o7 S6 => (o7 = none → Q (-1000000001) S6) ∧ (∀ b8, o7 = some b8 → jk S6 a1 = 7 ∧ ∃ b10, jr S6 a1 1 = some b10 ∧ (jk S6 b10 = 2 ∧ jFv E mX2_become d 0 0 [.ref b10, .ref b8] (jput S6 a1 0 1) (fun S12 => Q (ji S6 a1 0) S12))))))) : jFi E mX10_layMaster (d + 1) 0 0 [.ref a0, .ref a1, .int x2] S Q := by
  refine jF_of (by decide) (jle rfl) ?_
  refine jx_lv (lv1 := [(0, .ref a0), (1, .ref a1), (2, .int x2)]) [0, 1, 2] rfl ?_
  refine jx_aload_n 0 dX10_layMaster_0 rfl rfl ?_
  obtain ⟨hk1, h⟩ := h
  obtain ⟨b2, hb2, h⟩ := h
  refine jx_getr jc_10 (j := 0) (by decide) rfl jwF_X10_12 dX10_layMaster_1 hk1 hb2 ?_
  obtain ⟨hk3, h⟩ := h
  obtain ⟨b4, hb4, h⟩ := h
  refine jx_getr jc_3 (j := 0) (by decide) rfl jwF_X10_63 dX10_layMaster_4 hk3 hb4 ?_
  refine jx_iload_n 2 dX10_layMaster_7 rfl rfl ?_
  obtain ⟨hk5, h⟩ := h
  refine jx_callVr (M' := mX0_find) (As := [.int x2]) jo_X0_find jc_0 rfl jwM_X10_75 jwN_X0_find jwX_X0_find dX10_layMaster_8 (jRok_m _ _ _) rfl (jle rfl) ⟨jle rfl, jle rfl⟩ hk5 h (fun o7 S6 h => ?_)
  rcases o7 with _ | b8
  · replace h := h.1 rfl
    refine jx_astore_nN (lv1 := [(3, .null), (0, .ref a0), (1, .ref a1), (2, .int x2)]) dX10_layMaster_11 rfl (by decide) rfl ?_
    refine jx_aload_nN 0 dX10_layMaster_12 rfl rfl ?_
    refine jx_ifnonnullN dX10_layMaster_13 ?_
    refine jx_ldc jwC_X10_62 dX10_layMaster_16 ?_
    exact jx_iret dX10_layMaster_18 rfl rfl (jle rfl) (jle rfl) ⟨_, rfl, h⟩
  replace h := h.2 b8 rfl
  refine jx_astore_n (lv1 := [(3, .ref b8), (0, .ref a0), (1, .ref a1), (2, .int x2)]) dX10_layMaster_11 rfl (by decide) rfl ?_
  refine jx_aload_n 0 dX10_layMaster_12 rfl rfl ?_
  refine jx_ifnonnull (tgt := 19) dX10_layMaster_13 (by decide) ?_
  refine jx_aload_n 2 dX10_layMaster_19 rfl rfl ?_
  obtain ⟨hk9, h⟩ := h
  refine jx_geti jc_7 (j := 0) (by decide) rfl jwF_X10_347 dX10_layMaster_20 hk9 ?_
  refine jx_istore (lv1 := [(4, .int (ji S6 a1 0)), (3, .ref b8), (0, .ref a0), (1, .ref a1), (2, .int x2)]) dX10_layMaster_23 (by decide) rfl ?_
  refine jx_aload_n 3 dX10_layMaster_25 rfl rfl ?_
  refine jx_iconst (v := 1) dX10_layMaster_26 (by decide) ?_
  refine jx_puti jc_7 (j := 0) (by decide) rfl jwF_X10_347 rfl rfl rfl dX10_layMaster_27 hk9 ?_
  refine jx_aload_n 3 dX10_layMaster_30 rfl rfl ?_
  obtain ⟨b10, hb10, h⟩ := h
  refine jx_getr jc_7 (j := 1) (by decide) rfl jwF_X10_360 dX10_layMaster_31 hk9 hb10 ?_
  refine jx_aload_n 1 dX10_layMaster_34 rfl rfl ?_
  obtain ⟨hk11, h⟩ := h
  refine jx_callVv (M' := mX2_become) (As := [.ref b8]) jo_X2_become jc_2 rfl jwM_X10_364 jwN_X2_become jwX_X2_become dX10_layMaster_35 (jRok_m _ _ _) rfl (jle rfl) ⟨jle rfl, jle rfl⟩ hk11 h (fun S12 h => ?_)
  refine jx_iload 0 dX10_layMaster_38 rfl ?_
  exact jx_iret dX10_layMaster_40 rfl rfl (jle rfl) (jle rfl) ⟨_, rfl, h⟩
set_option maxRecDepth 100000 in
set_option maxHeartbeats 4000000 in
theorem T_X10_laySheet {E : jEnv} {d : Nat} {Q : Int32 → jM → Prop} {a0 : Nat} {a1 : Nat} {x2 : Int32} {S : jM} (h : jk S a0 = 10 ∧ jFr E mX10_findSheet d 0 0 [.ref a0, .int x2] S (fun o3 S2 => (o3 = none → Q (-1000000001) S2) ∧ (∀ b4, o3 = some b4 → jk S2 b4 = 6 ∧ ((ji S2 b4 0) = (-1) → Q (-1000000011) S2) ∧ (¬ (ji S2 b4 0) = (-1) → jk S2 a1 = 7 ∧ ∃ b8, jr S2 a1 2 = some b8 ∧ (jk S2 b8 = 6 ∧ jFv E mX6_become d 0 0 [.ref b8, .ref b4] (jput S2 a1 0 2) (fun S10 => Q (ji S2 a1 0) S10)))))) : jFi E mX10_laySheet (d + 1) 0 0 [.ref a0, .ref a1, .int x2] S Q := by
  refine jF_of (by decide) (jle rfl) ?_
  refine jx_lv (lv1 := [(0, .ref a0), (1, .ref a1), (2, .int x2)]) [0, 1, 2] rfl ?_
  refine jx_aload_n 0 dX10_laySheet_0 rfl rfl ?_
  refine jx_iload_n 2 dX10_laySheet_1 rfl rfl ?_
  obtain ⟨hk1, h⟩ := h
  refine jx_callVr (M' := mX10_findSheet) (As := [.int x2]) jo_X10_findSheet jc_10 rfl jwM_X10_257 jwN_X10_findSheet jwX_X10_findSheet dX10_laySheet_2 (jRok_m _ _ _) rfl (jle rfl) ⟨jle rfl, jle rfl⟩ hk1 h (fun o3 S2 h => ?_)
  rcases o3 with _ | b4
  · replace h := h.1 rfl
    refine jx_astore_nN (lv1 := [(3, .null), (0, .ref a0), (1, .ref a1), (2, .int x2)]) dX10_laySheet_5 rfl (by decide) rfl ?_
    refine jx_aload_nN 0 dX10_laySheet_6 rfl rfl ?_
    refine jx_ifnonnullN dX10_laySheet_7 ?_
    refine jx_ldc jwC_X10_62 dX10_laySheet_10 ?_
    exact jx_iret dX10_laySheet_12 rfl rfl (jle rfl) (jle rfl) ⟨_, rfl, h⟩
  replace h := h.2 b4 rfl
  refine jx_astore_n (lv1 := [(3, .ref b4), (0, .ref a0), (1, .ref a1), (2, .int x2)]) dX10_laySheet_5 rfl (by decide) rfl ?_
  refine jx_aload_n 0 dX10_laySheet_6 rfl rfl ?_
  refine jx_ifnonnull (tgt := 13) dX10_laySheet_7 (by decide) ?_
  refine jx_aload_n 0 dX10_laySheet_13 rfl rfl ?_
  obtain ⟨hk5, h⟩ := h
  refine jx_geti jc_6 (j := 0) (by decide) rfl jwF_X10_261 dX10_laySheet_14 hk5 ?_
  refine jx_iconst (v := (-1)) dX10_laySheet_17 (by decide) ?_
  refine jx_icmp_ne (tgt := 25) dX10_laySheet_18 (by decide) (fun c6 => ?_) (fun c6 => ?_)
  · replace h := h.2 c6
    refine jx_aload_n 2 dX10_laySheet_25 rfl rfl ?_
    obtain ⟨hk7, h⟩ := h
    refine jx_geti jc_7 (j := 0) (by decide) rfl jwF_X10_347 dX10_laySheet_26 hk7 ?_
    refine jx_istore (lv1 := [(4, .int (ji S2 a1 0)), (3, .ref b4), (0, .ref a0), (1, .ref a1), (2, .int x2)]) dX10_laySheet_29 (by decide) rfl ?_
    refine jx_aload_n 3 dX10_laySheet_31 rfl rfl ?_
    refine jx_iconst (v := 2) dX10_laySheet_32 (by decide) ?_
    refine jx_puti jc_7 (j := 0) (by decide) rfl jwF_X10_347 rfl rfl rfl dX10_laySheet_33 hk7 ?_
    refine jx_aload_n 3 dX10_laySheet_36 rfl rfl ?_
    obtain ⟨b8, hb8, h⟩ := h
    refine jx_getr jc_7 (j := 2) (by decide) rfl jwF_X10_367 dX10_laySheet_37 hk7 hb8 ?_
    refine jx_aload_n 1 dX10_laySheet_40 rfl rfl ?_
    obtain ⟨hk9, h⟩ := h
    refine jx_callVv (M' := mX6_become) (As := [.ref b4]) jo_X6_become jc_6 rfl jwM_X10_371 jwN_X6_become jwX_X6_become dX10_laySheet_41 (jRok_m _ _ _) rfl (jle rfl) ⟨jle rfl, jle rfl⟩ hk9 h (fun S10 h => ?_)
    refine jx_iload 0 dX10_laySheet_44 rfl ?_
    exact jx_iret dX10_laySheet_46 rfl rfl (jle rfl) (jle rfl) ⟨_, rfl, h⟩
  replace h := h.1 c6
  refine jx_ldcw jwC_X10_264 dX10_laySheet_21 ?_
  exact jx_iret dX10_laySheet_24 rfl rfl (jle rfl) (jle rfl) ⟨_, rfl, h⟩
set_option maxRecDepth 100000 in
set_option maxHeartbeats 4000000 in
theorem T_X10_ask {E : jEnv} {d : Nat} {Q : Int32 → jM → Prop} {a0 : Nat} {x1 : Int32} {x2 : Int32} {S : jM} (h : jk S a0 = 10 ∧ jFr E mX10_findSlot d 0 0 [.ref a0, .int x1] S (fun o3 S2 => (o3 = none → Q (-1000000001) S2) ∧ (∀ b4, o3 = some b4 → ((jwi x2 6) = 0 → Q (-1000000001) S2) ∧ (¬ (jwi x2 6) = 0 → jk S2 b4 = 7 ∧ ((ji S2 b4 0) = 0 → Q (-1000000011) S2) ∧ (¬ (ji S2 b4 0) = 0 → ((ji S2 b4 0) = 1 → ∃ b12, jr S2 b4 1 = some b12 ∧ (jk S2 b12 = 2 ∧ jFi E mX2_isOf d 0 0 [.ref b12, .int x2] S2 (fun r15 S14 => (r15 = 0 → Q (-1000000012) S14) ∧ (¬ r15 = 0 → jk S14 b4 = 7 ∧ ∃ b18, jr S14 b4 1 = some b18 ∧ (jk S14 b18 = 2 ∧ jFi E mX2_worth d 0 0 [.ref b18] S14 (fun r21 S20 => Q r21 S20)))))) ∧ (¬ (ji S2 b4 0) = 1 → Q (-1000000012) S2)))))) : jFi E mX10_ask (d + 1) 0 0 [.ref a0, .int x1, .int x2] S Q := by
  refine jF_of (by decide) (jle rfl) ?_
  refine jx_lv (lv1 := [(0, .ref a0), (1, .int x1), (2, .int x2)]) [0, 1, 2] rfl ?_
  refine jx_aload_n 0 dX10_ask_0 rfl rfl ?_
  refine jx_iload_n 1 dX10_ask_1 rfl rfl ?_
  obtain ⟨hk1, h⟩ := h
  refine jx_callVr (M' := mX10_findSlot) (As := [.int x1]) jo_X10_findSlot jc_10 rfl jwM_X10_343 jwN_X10_findSlot jwX_X10_findSlot dX10_ask_2 (jRok_m _ _ _) rfl (jle rfl) ⟨jle rfl, jle rfl⟩ hk1 h (fun o3 S2 h => ?_)
  rcases o3 with _ | b4
  · replace h := h.1 rfl
    refine jx_astore_nN (lv1 := [(3, .null), (0, .ref a0), (1, .int x1), (2, .int x2)]) dX10_ask_5 rfl (by decide) rfl ?_
    refine jx_aload_nN 0 dX10_ask_6 rfl rfl ?_
    refine jx_ifnullN (tgt := 19) dX10_ask_7 (by decide) ?_
    refine jx_ldc jwC_X10_62 dX10_ask_19 ?_
    exact jx_iret dX10_ask_21 rfl rfl (jle rfl) (jle rfl) ⟨_, rfl, h⟩
  replace h := h.2 b4 rfl
  refine jx_astore_n (lv1 := [(3, .ref b4), (0, .ref a0), (1, .int x1), (2, .int x2)]) dX10_ask_5 rfl (by decide) rfl ?_
  refine jx_aload_n 0 dX10_ask_6 rfl rfl ?_
  refine jx_ifnull dX10_ask_7 ?_
  refine jx_iload_n 3 dX10_ask_10 rfl rfl ?_
  refine jx_bipush (v := 6) dX10_ask_11 (by decide) ?_
  refine jx_callSi (M' := mX10_within) (As := [.int x2, .int 6]) jo_X10_within jwM_X10_58 jwS_X10_within dX10_ask_13 (jRok_m _ _ _) rfl (jle rfl) ⟨jle rfl, jle rfl⟩ (c_X10_within (Q := fun v S' => v = (jwi x2 6) ∧ S2 = S') ⟨rfl, rfl⟩) (fun r5 S6 hq7 => ?_)
  obtain ⟨rfl, rfl⟩ := hq7
  refine jx_if_ne (tgt := 22) dX10_ask_16 (by decide) (fun c8 => ?_) (fun c8 => ?_)
  · replace h := h.2 c8
    refine jx_aload_n 0 dX10_ask_22 rfl rfl ?_
    obtain ⟨hk9, h⟩ := h
    refine jx_geti jc_7 (j := 0) (by decide) rfl jwF_X10_347 dX10_ask_23 hk9 ?_
    refine jx_if_ne (tgt := 33) dX10_ask_26 (by decide) (fun c10 => ?_) (fun c10 => ?_)
    · replace h := h.2 c10
      refine jx_aload_n 0 dX10_ask_33 rfl rfl ?_
      refine jx_geti jc_7 (j := 0) (by decide) rfl jwF_X10_347 dX10_ask_34 hk9 ?_
      refine jx_iconst (v := 1) dX10_ask_37 (by decide) ?_
      refine jx_icmp_ne (tgt := 52) dX10_ask_38 (by decide) (fun c11 => ?_) (fun c11 => ?_)
      · replace h := h.2 c11
        refine jx_ldc jwC_X10_133 dX10_ask_52 ?_
        exact jx_iret dX10_ask_54 rfl rfl (jle rfl) (jle rfl) ⟨_, rfl, h⟩
      replace h := h.1 c11
      refine jx_aload_n 0 dX10_ask_41 rfl rfl ?_
      obtain ⟨b12, hb12, h⟩ := h
      refine jx_getr jc_7 (j := 1) (by decide) rfl jwF_X10_360 dX10_ask_42 hk9 hb12 ?_
      refine jx_iload_n 3 dX10_ask_45 rfl rfl ?_
      obtain ⟨hk13, h⟩ := h
      refine jx_callVi (M' := mX2_isOf) (As := [.int x2]) jo_X2_isOf jc_2 rfl jwM_X10_130 jwN_X2_isOf jwX_X2_isOf dX10_ask_46 (jRok_m _ _ _) rfl (jle rfl) ⟨jle rfl, jle rfl⟩ hk13 h (fun r15 S14 h => ?_)
      refine jx_if_ne (tgt := 55) dX10_ask_49 (by decide) (fun c16 => ?_) (fun c16 => ?_)
      · replace h := h.2 c16
        refine jx_aload_n 0 dX10_ask_55 rfl rfl ?_
        obtain ⟨hk17, h⟩ := h
        obtain ⟨b18, hb18, h⟩ := h
        refine jx_getr jc_7 (j := 1) (by decide) rfl jwF_X10_360 dX10_ask_56 hk17 hb18 ?_
        obtain ⟨hk19, h⟩ := h
        refine jx_callVi (M' := mX2_worth) (As := []) jo_X2_worth jc_2 rfl jwM_X10_126 jwN_X2_worth jwX_X2_worth dX10_ask_59 (jRok_m _ _ _) rfl (jle rfl) ⟨jle rfl, jle rfl⟩ hk19 h (fun r21 S20 h => ?_)
        exact jx_iret dX10_ask_62 rfl rfl (jle rfl) (jle rfl) ⟨_, rfl, h⟩
      replace h := h.1 c16
      refine jx_ldc jwC_X10_133 dX10_ask_52 ?_
      exact jx_iret dX10_ask_54 rfl rfl (jle rfl) (jle rfl) ⟨_, rfl, h⟩
    replace h := h.1 c10
    refine jx_ldcw jwC_X10_264 dX10_ask_29 ?_
    exact jx_iret dX10_ask_32 rfl rfl (jle rfl) (jle rfl) ⟨_, rfl, h⟩
  replace h := h.1 c8
  refine jx_ldc jwC_X10_62 dX10_ask_19 ?_
  exact jx_iret dX10_ask_21 rfl rfl (jle rfl) (jle rfl) ⟨_, rfl, h⟩
set_option maxRecDepth 100000 in
set_option maxHeartbeats 4000000 in
theorem T_X10_item {E : jEnv} {d : Nat} {Q : Int32 → jM → Prop} {a0 : Nat} {x1 : Int32} {x2 : Int32} {S : jM} (h : jk S a0 = 10 ∧ jFr E mX10_findSlot d 0 0 [.ref a0, .int x1] S (fun o3 S2 => (o3 = none → Q (-1000000001) S2) ∧ (∀ b4, o3 = some b4 → jk S2 b4 = 7 ∧ ((ji S2 b4 0) = 0 → Q (-1000000011) S2) ∧ (¬ (ji S2 b4 0) = 0 → ((ji S2 b4 0) = 2 → ∃ b8, jr S2 b4 2 = some b8 ∧ (jk S2 b8 = 6 ∧ jFi E mX6_hasPlace d 0 0 [.ref b8, .int x2] S2 (fun r11 S10 => (r11 = 0 → Q (-1000000013) S10) ∧ (¬ r11 = 0 → jk S10 b4 = 7 ∧ ∃ b14, jr S10 b4 2 = some b14 ∧ (jk S10 b14 = 6 ∧ jFi E mX6_isNumber d 0 0 [.ref b14, .int x2] S10 (fun r17 S16 => (r17 = 0 → Q (-1000000012) S16) ∧ (¬ r17 = 0 → jk S16 b4 = 7 ∧ ∃ b20, jr S16 b4 2 = some b20 ∧ (jk S16 b20 = 6 ∧ ∃ b22, jr S16 b20 2 = some b22 ∧ (jk S16 b22 = 12 ∧ vp_in x2 (jl S16 b22) ∧ (Q (ji S16 b22 (Int32.toNatClampNeg x2)) S16)))))))))) ∧ (¬ (ji S2 b4 0) = 2 → Q (-1000000012) S2))))) : jFi E mX10_item (d + 1) 0 0 [.ref a0, .int x1, .int x2] S Q := by
  refine jF_of (by decide) (jle rfl) ?_
  refine jx_lv (lv1 := [(0, .ref a0), (1, .int x1), (2, .int x2)]) [0, 1, 2] rfl ?_
  refine jx_aload_n 0 dX10_item_0 rfl rfl ?_
  refine jx_iload_n 1 dX10_item_1 rfl rfl ?_
  obtain ⟨hk1, h⟩ := h
  refine jx_callVr (M' := mX10_findSlot) (As := [.int x1]) jo_X10_findSlot jc_10 rfl jwM_X10_343 jwN_X10_findSlot jwX_X10_findSlot dX10_item_2 (jRok_m _ _ _) rfl (jle rfl) ⟨jle rfl, jle rfl⟩ hk1 h (fun o3 S2 h => ?_)
  rcases o3 with _ | b4
  · replace h := h.1 rfl
    refine jx_astore_nN (lv1 := [(3, .null), (0, .ref a0), (1, .int x1), (2, .int x2)]) dX10_item_5 rfl (by decide) rfl ?_
    refine jx_aload_nN 0 dX10_item_6 rfl rfl ?_
    refine jx_ifnonnullN dX10_item_7 ?_
    refine jx_ldc jwC_X10_62 dX10_item_10 ?_
    exact jx_iret dX10_item_12 rfl rfl (jle rfl) (jle rfl) ⟨_, rfl, h⟩
  replace h := h.2 b4 rfl
  refine jx_astore_n (lv1 := [(3, .ref b4), (0, .ref a0), (1, .int x1), (2, .int x2)]) dX10_item_5 rfl (by decide) rfl ?_
  refine jx_aload_n 0 dX10_item_6 rfl rfl ?_
  refine jx_ifnonnull (tgt := 13) dX10_item_7 (by decide) ?_
  refine jx_aload_n 0 dX10_item_13 rfl rfl ?_
  obtain ⟨hk5, h⟩ := h
  refine jx_geti jc_7 (j := 0) (by decide) rfl jwF_X10_347 dX10_item_14 hk5 ?_
  refine jx_if_ne (tgt := 24) dX10_item_17 (by decide) (fun c6 => ?_) (fun c6 => ?_)
  · replace h := h.2 c6
    refine jx_aload_n 0 dX10_item_24 rfl rfl ?_
    refine jx_geti jc_7 (j := 0) (by decide) rfl jwF_X10_347 dX10_item_25 hk5 ?_
    refine jx_iconst (v := 2) dX10_item_28 (by decide) ?_
    refine jx_icmp_eq (tgt := 35) dX10_item_29 (by decide) (fun c7 => ?_) (fun c7 => ?_)
    · replace h := h.1 c7
      refine jx_aload_n 0 dX10_item_35 rfl rfl ?_
      obtain ⟨b8, hb8, h⟩ := h
      refine jx_getr jc_7 (j := 2) (by decide) rfl jwF_X10_367 dX10_item_36 hk5 hb8 ?_
      refine jx_iload_n 3 dX10_item_39 rfl rfl ?_
      obtain ⟨hk9, h⟩ := h
      refine jx_callVi (M' := mX6_hasPlace) (As := [.int x2]) jo_X6_hasPlace jc_6 rfl jwM_X10_318 jwN_X6_hasPlace jwX_X6_hasPlace dX10_item_40 (jRok_m _ _ _) rfl (jle rfl) ⟨jle rfl, jle rfl⟩ hk9 h (fun r11 S10 h => ?_)
      refine jx_if_ne (tgt := 50) dX10_item_43 (by decide) (fun c12 => ?_) (fun c12 => ?_)
      · replace h := h.2 c12
        refine jx_aload_n 0 dX10_item_50 rfl rfl ?_
        obtain ⟨hk13, h⟩ := h
        obtain ⟨b14, hb14, h⟩ := h
        refine jx_getr jc_7 (j := 2) (by decide) rfl jwF_X10_367 dX10_item_51 hk13 hb14 ?_
        refine jx_iload_n 3 dX10_item_54 rfl rfl ?_
        obtain ⟨hk15, h⟩ := h
        refine jx_callVi (M' := mX6_isNumber) (As := [.int x2]) jo_X6_isNumber jc_6 rfl jwM_X10_328 jwN_X6_isNumber jwX_X6_isNumber dX10_item_55 (jRok_m _ _ _) rfl (jle rfl) ⟨jle rfl, jle rfl⟩ hk15 h (fun r17 S16 h => ?_)
        refine jx_if_eq (tgt := 73) dX10_item_58 (by decide) (fun c18 => ?_) (fun c18 => ?_)
        · replace h := h.1 c18
          refine jx_ldc jwC_X10_133 dX10_item_73 ?_
          exact jx_iret dX10_item_75 rfl rfl (jle rfl) (jle rfl) ⟨_, rfl, h⟩
        replace h := h.2 c18
        refine jx_aload_n 0 dX10_item_61 rfl rfl ?_
        obtain ⟨hk19, h⟩ := h
        obtain ⟨b20, hb20, h⟩ := h
        refine jx_getr jc_7 (j := 2) (by decide) rfl jwF_X10_367 dX10_item_62 hk19 hb20 ?_
        obtain ⟨hk21, h⟩ := h
        obtain ⟨b22, hb22, h⟩ := h
        refine jx_getr jc_6 (j := 2) (by decide) rfl jwF_X10_322 dX10_item_65 hk21 hb22 ?_
        refine jx_iload_n 3 dX10_item_68 rfl rfl ?_
        obtain ⟨hk23, h⟩ := h
        obtain ⟨hi24, h⟩ := h
        refine jx_iald dX10_item_69 hk23 hi24 ?_
        refine jx_goto (tgt := 75) dX10_item_70 (by decide) ?_
        exact jx_iret dX10_item_75 rfl rfl (jle rfl) (jle rfl) ⟨_, rfl, h⟩
      replace h := h.1 c12
      refine jx_ldcw jwC_X10_321 dX10_item_46 ?_
      exact jx_iret dX10_item_49 rfl rfl (jle rfl) (jle rfl) ⟨_, rfl, h⟩
    replace h := h.2 c7
    refine jx_ldc jwC_X10_133 dX10_item_32 ?_
    exact jx_iret dX10_item_34 rfl rfl (jle rfl) (jle rfl) ⟨_, rfl, h⟩
  replace h := h.1 c6
  refine jx_ldcw jwC_X10_264 dX10_item_20 ?_
  exact jx_iret dX10_item_23 rfl rfl (jle rfl) (jle rfl) ⟨_, rfl, h⟩
set_option maxRecDepth 100000 in
set_option maxHeartbeats 4000000 in
theorem T_X10_rest {E : jEnv} {d : Nat} {Q : Int32 → jM → Prop} {a0 : Nat} {x1 : Int32} {x2 : Int32} {S : jM} (h : jk S a0 = 10 ∧ jFr E mX10_findSlot d 0 0 [.ref a0, .int x1] S (fun o3 S2 => (o3 = none → Q (-1000000001) S2) ∧ (∀ b4, o3 = some b4 → jk S2 b4 = 7 ∧ ((ji S2 b4 0) = 0 → Q (-1000000011) S2) ∧ (¬ (ji S2 b4 0) = 0 → ((ji S2 b4 0) = 3 → (x2 = 0 → Q (-1000000002) S2) ∧ (¬ x2 = 0 → (¬ x2 = 0) ∧ (Q (jrem (ji S2 b4 3) x2) S2))) ∧ (¬ (ji S2 b4 0) = 3 → Q (-1000000012) S2))))) : jFi E mX10_rest (d + 1) 0 0 [.ref a0, .int x1, .int x2] S Q := by
  refine jF_of (by decide) (jle rfl) ?_
  refine jx_lv (lv1 := [(0, .ref a0), (1, .int x1), (2, .int x2)]) [0, 1, 2] rfl ?_
  refine jx_aload_n 0 dX10_rest_0 rfl rfl ?_
  refine jx_iload_n 1 dX10_rest_1 rfl rfl ?_
  obtain ⟨hk1, h⟩ := h
  refine jx_callVr (M' := mX10_findSlot) (As := [.int x1]) jo_X10_findSlot jc_10 rfl jwM_X10_343 jwN_X10_findSlot jwX_X10_findSlot dX10_rest_2 (jRok_m _ _ _) rfl (jle rfl) ⟨jle rfl, jle rfl⟩ hk1 h (fun o3 S2 h => ?_)
  rcases o3 with _ | b4
  · replace h := h.1 rfl
    refine jx_astore_nN (lv1 := [(3, .null), (0, .ref a0), (1, .int x1), (2, .int x2)]) dX10_rest_5 rfl (by decide) rfl ?_
    refine jx_aload_nN 0 dX10_rest_6 rfl rfl ?_
    refine jx_ifnonnullN dX10_rest_7 ?_
    refine jx_ldc jwC_X10_62 dX10_rest_10 ?_
    exact jx_iret dX10_rest_12 rfl rfl (jle rfl) (jle rfl) ⟨_, rfl, h⟩
  replace h := h.2 b4 rfl
  refine jx_astore_n (lv1 := [(3, .ref b4), (0, .ref a0), (1, .int x1), (2, .int x2)]) dX10_rest_5 rfl (by decide) rfl ?_
  refine jx_aload_n 0 dX10_rest_6 rfl rfl ?_
  refine jx_ifnonnull (tgt := 13) dX10_rest_7 (by decide) ?_
  refine jx_aload_n 0 dX10_rest_13 rfl rfl ?_
  obtain ⟨hk5, h⟩ := h
  refine jx_geti jc_7 (j := 0) (by decide) rfl jwF_X10_347 dX10_rest_14 hk5 ?_
  refine jx_if_ne (tgt := 24) dX10_rest_17 (by decide) (fun c6 => ?_) (fun c6 => ?_)
  · replace h := h.2 c6
    refine jx_aload_n 0 dX10_rest_24 rfl rfl ?_
    refine jx_geti jc_7 (j := 0) (by decide) rfl jwF_X10_347 dX10_rest_25 hk5 ?_
    refine jx_iconst (v := 3) dX10_rest_28 (by decide) ?_
    refine jx_icmp_eq (tgt := 35) dX10_rest_29 (by decide) (fun c7 => ?_) (fun c7 => ?_)
    · replace h := h.1 c7
      refine jx_iload_n 3 dX10_rest_35 rfl rfl ?_
      refine jx_if_ne (tgt := 44) dX10_rest_36 (by decide) (fun c8 => ?_) (fun c8 => ?_)
      · replace h := h.2 c8
        refine jx_aload_n 0 dX10_rest_44 rfl rfl ?_
        refine jx_geti jc_7 (j := 3) (by decide) rfl jwF_X10_357 dX10_rest_45 hk5 ?_
        refine jx_iload_n 3 dX10_rest_48 rfl rfl ?_
        obtain ⟨hz9, h⟩ := h
        refine jx_irem dX10_rest_49 hz9 ?_
        exact jx_iret dX10_rest_50 rfl rfl (jle rfl) (jle rfl) ⟨_, rfl, h⟩
      replace h := h.1 c8
      refine jx_ldc jwC_X10_184 dX10_rest_39 ?_
      refine jx_goto (tgt := 50) dX10_rest_41 (by decide) ?_
      exact jx_iret dX10_rest_50 rfl rfl (jle rfl) (jle rfl) ⟨_, rfl, h⟩
    replace h := h.2 c7
    refine jx_ldc jwC_X10_133 dX10_rest_32 ?_
    exact jx_iret dX10_rest_34 rfl rfl (jle rfl) (jle rfl) ⟨_, rfl, h⟩
  replace h := h.1 c6
  refine jx_ldcw jwC_X10_264 dX10_rest_20 ?_
  exact jx_iret dX10_rest_23 rfl rfl (jle rfl) (jle rfl) ⟨_, rfl, h⟩
set_option maxRecDepth 100000 in
set_option maxHeartbeats 4000000 in
theorem T_X10_tell {E : jEnv} {d : Nat} {Q : Int32 → jM → Prop} {a0 : Nat} {x1 : Int32} {S : jM} (h : jk S a0 = 10 ∧ ((jwi (ji S a0 9) 60) = 0 → Q (-1000000003) S) ∧ (¬ (jwi (ji S a0 9) 60) = 0 → ∃ b6, jr S a0 8 = some b6 ∧ (jk S b6 = 12 ∧ vp_in (ji S a0 9) (jl S b6) ∧ (Q ((ji S a0 9) + 1) (jput (jput S b6 (Int32.toNatClampNeg (ji S a0 9)) x1) a0 9 ((ji S a0 9) + 1)))))) : jFi E mX10_tell (d + 1) 0 0 [.ref a0, .int x1] S Q := by
  refine jF_of (by decide) (jle rfl) ?_
  refine jx_lv (lv1 := [(0, .ref a0), (1, .int x1)]) [0, 1] rfl ?_
  refine jx_aload_n 0 dX10_tell_0 rfl rfl ?_
  obtain ⟨hk1, h⟩ := h
  refine jx_geti jc_10 (j := 9) (by decide) rfl jwF_X10_374 dX10_tell_1 hk1 ?_
  refine jx_bipush (v := 60) dX10_tell_4 (by decide) ?_
  refine jx_callSi (M' := mX10_within) (As := [.int (ji S a0 9), .int 60]) jo_X10_within jwM_X10_58 jwS_X10_within dX10_tell_6 (jRok_m _ _ _) rfl (jle rfl) ⟨jle rfl, jle rfl⟩ (c_X10_within (Q := fun v S' => v = (jwi (ji S a0 9) 60) ∧ S = S') ⟨rfl, rfl⟩) (fun r2 S3 hq4 => ?_)
  obtain ⟨rfl, rfl⟩ := hq4
  refine jx_if_ne (tgt := 15) dX10_tell_9 (by decide) (fun c5 => ?_) (fun c5 => ?_)
  · replace h := h.2 c5
    refine jx_aload_n 0 dX10_tell_15 rfl rfl ?_
    obtain ⟨b6, hb6, h⟩ := h
    refine jx_getr jc_10 (j := 8) (by decide) rfl jwF_X10_52 dX10_tell_16 hk1 hb6 ?_
    refine jx_aload_n 0 dX10_tell_19 rfl rfl ?_
    refine jx_geti jc_10 (j := 9) (by decide) rfl jwF_X10_374 dX10_tell_20 hk1 ?_
    refine jx_iload_n 1 dX10_tell_23 rfl rfl ?_
    obtain ⟨hk7, h⟩ := h
    obtain ⟨hi8, h⟩ := h
    refine jx_iast dX10_tell_24 hk7 hi8 ?_
    refine jx_aload_n 0 dX10_tell_25 rfl rfl ?_
    refine jx_dup dX10_tell_26 rfl ?_
    refine jx_geti jc_10 (j := 9) (by decide) rfl jwF_X10_374 dX10_tell_27 hk1 ?_
    refine jx_topi (y := (ji S a0 9)) (by simp [ji_put, ji_row, ji_putr, jne hk1 hk7 (by decide)]) ?_
    refine jx_iconst (v := 1) dX10_tell_30 (by decide) ?_
    refine jx_iadd dX10_tell_31 ?_
    refine jx_puti jc_10 (j := 9) (by decide) rfl jwF_X10_374 rfl rfl rfl dX10_tell_32 hk1 ?_
    refine jx_aload_n 0 dX10_tell_35 rfl rfl ?_
    refine jx_geti jc_10 (j := 9) (by decide) rfl jwF_X10_374 dX10_tell_36 hk1 ?_
    refine jx_topi (y := ((ji S a0 9) + 1)) (by simp [ji_put, ji_row, ji_putr]) ?_
    exact jx_iret dX10_tell_39 rfl rfl (jle rfl) (jle rfl) ⟨_, rfl, h⟩
  replace h := h.1 c5
  refine jx_ldc jwC_X10_74 dX10_tell_12 ?_
  exact jx_iret dX10_tell_14 rfl rfl (jle rfl) (jle rfl) ⟨_, rfl, h⟩
/-- X10_check at its loop's head 50 -/
abbrev L_X10_check_50 (E : jEnv) (d : Nat) (Q : Int32 → jM → Prop) (a0 : Nat) (x1 : Int32) (x2 : Int32) (x3 : Int32) (S : jM) : Prop := jX E mX10_check (jRm (d + 1) 0 0) (jZm E (fun r S' => ∃ v : Int32, r = some (.int v) ∧ Q v S') 0 0) 50 [(0, .ref a0), (1, .int x1), (2, .int x2), (3, .int x3)] [] S 0 0
set_option maxRecDepth 100000 in
set_option maxHeartbeats 4000000 in
theorem T_X10_check {E : jEnv} {d : Nat} {Q : Int32 → jM → Prop} {a0 : Nat} {x1 : Int32} {S : jM} (h : jk S a0 = 10 ∧ (x1 < 1 → Q (-1000000001) (jput S a0 9 0)) ∧ (¬ x1 < 1 → (x1 ≤ 30 → ((ji S a0 2) = 0 → Q (-1000000002) (jput S a0 9 0)) ∧ (¬ (ji S a0 2) = 0 → ∃ b5, jr S a0 3 = some b5 ∧ (∃ b6, jr S a0 1 = some b6 ∧ (jk S b6 = 3 ∧ ∃ b8, jr S b6 0 = some b8 ∧ (jk S b5 = 0 ∧ jFv E mX0_become d 0 0 [.ref b5, .ref b8] (jput S a0 9 0) (fun S10 => L_X10_check_50 E d Q a0 x1 (ji S a0 9) 0 S10)))))) ∧ (¬ x1 ≤ 30 → Q (-1000000001) (jput S a0 9 0)))) : jFi E mX10_check (d + 1) 0 0 [.ref a0, .int x1] S Q := by
  refine jF_of (by decide) (jle rfl) ?_
  refine jx_lv (lv1 := [(0, .ref a0), (1, .int x1)]) [0, 1] rfl ?_
  refine jx_aload_n 0 dX10_check_0 rfl rfl ?_
  obtain ⟨hk1, h⟩ := h
  refine jx_geti jc_10 (j := 9) (by decide) rfl jwF_X10_374 dX10_check_1 hk1 ?_
  refine jx_istore_n (lv1 := [(2, .int (ji S a0 9)), (0, .ref a0), (1, .int x1)]) dX10_check_4 rfl (by decide) rfl ?_
  refine jx_aload_n 1 dX10_check_5 rfl rfl ?_
  refine jx_iconst (v := 0) dX10_check_6 (by decide) ?_
  refine jx_puti jc_10 (j := 9) (by decide) rfl jwF_X10_374 rfl rfl rfl dX10_check_7 hk1 ?_
  refine jx_iload_n 2 dX10_check_10 rfl rfl ?_
  refine jx_iconst (v := 1) dX10_check_11 (by decide) ?_
  refine jx_icmp_lt (tgt := 21) dX10_check_12 (by decide) (fun c2 => ?_) (fun c2 => ?_)
  · replace h := h.1 c2
    refine jx_ldc jwC_X10_62 dX10_check_21 ?_
    exact jx_iret dX10_check_23 rfl rfl (jle rfl) (jle rfl) ⟨_, rfl, h⟩
  replace h := h.2 c2
  refine jx_iload_n 2 dX10_check_15 rfl rfl ?_
  refine jx_bipush (v := 30) dX10_check_16 (by decide) ?_
  refine jx_icmp_le (tgt := 24) dX10_check_18 (by decide) (fun c3 => ?_) (fun c3 => ?_)
  · replace h := h.1 c3
    refine jx_aload_n 1 dX10_check_24 rfl rfl ?_
    refine jx_geti jc_10 (j := 2) (by decide) rfl jwF_X10_377 dX10_check_25 hk1 ?_
    refine jx_topi (y := (ji S a0 2)) (by simp [ji_put, ji_row, ji_putr]) ?_
    refine jx_if_ne (tgt := 34) dX10_check_28 (by decide) (fun c4 => ?_) (fun c4 => ?_)
    · replace h := h.2 c4
      refine jx_aload_n 1 dX10_check_34 rfl rfl ?_
      obtain ⟨b5, hb5, h⟩ := h
      refine jx_getr jc_10 (j := 3) (by decide) rfl jwF_X10_22 dX10_check_35 hk1 hb5 ?_
      refine jx_aload_n 1 dX10_check_38 rfl rfl ?_
      obtain ⟨b6, hb6, h⟩ := h
      refine jx_getr jc_10 (j := 1) (by decide) rfl jwF_X10_16 dX10_check_39 hk1 hb6 ?_
      obtain ⟨hk7, h⟩ := h
      obtain ⟨b8, hb8, h⟩ := h
      refine jx_getr jc_3 (j := 0) (by decide) rfl jwF_X10_63 dX10_check_42 hk7 hb8 ?_
      obtain ⟨hk9, h⟩ := h
      refine jx_callVv (M' := mX0_become) (As := [.ref b8]) jo_X0_become jc_0 rfl jwM_X10_250 jwN_X0_become jwX_X0_become dX10_check_45 (jRok_m _ _ _) rfl (jle rfl) ⟨jle rfl, jle rfl⟩ hk9 h (fun S10 h => ?_)
      refine jx_iconst (v := 0) dX10_check_48 (by decide) ?_
      refine jx_istore_n (lv1 := [(3, .int 0), (2, .int (ji S a0 9)), (0, .ref a0), (1, .int x1)]) dX10_check_49 rfl (by decide) rfl ?_
      exact jx_lv [2, 3, 1, 0] rfl h
    replace h := h.1 c4
    refine jx_ldc jwC_X10_184 dX10_check_31 ?_
    exact jx_iret dX10_check_33 rfl rfl (jle rfl) (jle rfl) ⟨_, rfl, h⟩
  replace h := h.2 c3
  refine jx_ldc jwC_X10_62 dX10_check_21 ?_
  exact jx_iret dX10_check_23 rfl rfl (jle rfl) (jle rfl) ⟨_, rfl, h⟩
set_option maxRecDepth 100000 in
set_option maxHeartbeats 4000000 in
theorem T_X10_check_50 {E : jEnv} {d : Nat} {Q : Int32 → jM → Prop} {a0 : Nat} {x1 : Int32} {x2 : Int32} {x3 : Int32} {S : jM} (h : (x1 ≤ x3 → (x2 = (2 * x1) → Q 0 S) ∧ (¬ x2 = (2 * x1) → Q (1 + (2 * x1)) S)) ∧ (¬ x1 ≤ x3 → jk S a0 = 10 ∧ ∃ b14, jr S a0 3 = some b14 ∧ (jk S b14 = 0 ∧ jFv E mX0_liveYear d 0 0 [.ref b14] S (fun S16 => jk S16 a0 = 10 ∧ ∃ b18, jr S16 a0 3 = some b18 ∧ (jk S16 b18 = 0 ∧ jFi E mX0_countDead d 0 0 [.ref b18] S16 (fun r21 S20 => jk S20 a0 = 10 ∧ jFi E mX10_isWaiting d 0 0 [.ref a0, .int (2 * x3), .int x2, .int r21] S20 (fun r24 S23 => (r24 = 0 → Q (1 + (2 * x3)) S23) ∧ (¬ r24 = 0 → jk S23 a0 = 10 ∧ ∃ b27, jr S23 a0 3 = some b27 ∧ (jk S23 b27 = 0 ∧ jFi E mX0_agesTogether d 0 0 [.ref b27] S23 (fun r30 S29 => jk S29 a0 = 10 ∧ jFi E mX10_isWaiting d 0 0 [.ref a0, .int ((2 * x3) + 1), .int x2, .int r30] S29 (fun r33 S32 => (r33 = 0 → Q (2 + (2 * x3)) S32) ∧ (¬ r33 = 0 → L_X10_check_50 E d Q a0 x1 x2 (x3 + 1) S32)))))))))))) : L_X10_check_50 E d Q a0 x1 x2 x3 S := by
  show jX E mX10_check (jRm (d + 1) 0 0) (jZm E (fun r S' => ∃ v : Int32, r = some (.int v) ∧ Q v S') 0 0) 50 [(0, .ref a0), (1, .int x1), (2, .int x2), (3, .int x3)] [] S 0 0
  refine jx_iload_n 3 dX10_check_50 rfl rfl ?_
  refine jx_iload_n 1 dX10_check_51 rfl rfl ?_
  refine jx_icmp_ge (tgt := 119) dX10_check_52 (by decide) (fun c11 => ?_) (fun c11 => ?_)
  · replace h := h.1 c11
    refine jx_iload_n 2 dX10_check_119 rfl rfl ?_
    refine jx_iconst (v := 2) dX10_check_120 (by decide) ?_
    refine jx_iload_n 1 dX10_check_121 rfl rfl ?_
    refine jx_imul dX10_check_122 ?_
    refine jx_icmp_ne (tgt := 130) dX10_check_123 (by decide) (fun c12 => ?_) (fun c12 => ?_)
    · replace h := h.2 c12
      refine jx_iconst (v := 1) dX10_check_130 (by decide) ?_
      refine jx_iconst (v := 2) dX10_check_131 (by decide) ?_
      refine jx_iload_n 1 dX10_check_132 rfl rfl ?_
      refine jx_imul dX10_check_133 ?_
      refine jx_iadd dX10_check_134 ?_
      exact jx_iret dX10_check_135 rfl rfl (jle rfl) (jle rfl) ⟨_, rfl, h⟩
    replace h := h.1 c12
    refine jx_iconst (v := 0) dX10_check_126 (by decide) ?_
    refine jx_goto (tgt := 135) dX10_check_127 (by decide) ?_
    exact jx_iret dX10_check_135 rfl rfl (jle rfl) (jle rfl) ⟨_, rfl, h⟩
  replace h := h.2 c11
  refine jx_aload_n 0 dX10_check_55 rfl rfl ?_
  obtain ⟨hk13, h⟩ := h
  obtain ⟨b14, hb14, h⟩ := h
  refine jx_getr jc_10 (j := 3) (by decide) rfl jwF_X10_22 dX10_check_56 hk13 hb14 ?_
  obtain ⟨hk15, h⟩ := h
  refine jx_callVv (M' := mX0_liveYear) (As := []) jo_X0_liveYear jc_0 rfl jwM_X10_380 jwN_X0_liveYear jwX_X0_liveYear dX10_check_59 (jRok_m _ _ _) rfl (jle rfl) ⟨jle rfl, jle rfl⟩ hk15 h (fun S16 h => ?_)
  refine jx_iconst (v := 2) dX10_check_62 (by decide) ?_
  refine jx_iload_n 3 dX10_check_63 rfl rfl ?_
  refine jx_imul dX10_check_64 ?_
  refine jx_istore (lv1 := [(4, .int (2 * x3)), (0, .ref a0), (1, .int x1), (2, .int x2), (3, .int x3)]) dX10_check_65 (by decide) rfl ?_
  refine jx_aload_n 1 dX10_check_67 rfl rfl ?_
  refine jx_iload 0 dX10_check_68 rfl ?_
  refine jx_iload_n 3 dX10_check_70 rfl rfl ?_
  refine jx_aload_n 1 dX10_check_71 rfl rfl ?_
  obtain ⟨hk17, h⟩ := h
  obtain ⟨b18, hb18, h⟩ := h
  refine jx_getr jc_10 (j := 3) (by decide) rfl jwF_X10_22 dX10_check_72 hk17 hb18 ?_
  obtain ⟨hk19, h⟩ := h
  refine jx_callVi (M' := mX0_countDead) (As := []) jo_X0_countDead jc_0 rfl jwM_X10_244 jwN_X0_countDead jwX_X0_countDead dX10_check_75 (jRok_m _ _ _) rfl (jle rfl) ⟨jle rfl, jle rfl⟩ hk19 h (fun r21 S20 h => ?_)
  obtain ⟨hk22, h⟩ := h
  refine jx_callVi (M' := mX10_isWaiting) (As := [.int (2 * x3), .int x2, .int r21]) jo_X10_isWaiting jc_10 rfl jwM_X10_383 jwN_X10_isWaiting jwX_X10_isWaiting dX10_check_78 (jRok_m _ _ _) rfl (jle rfl) ⟨jle rfl, jle rfl⟩ hk22 h (fun r24 S23 h => ?_)
  refine jx_if_ne (tgt := 89) dX10_check_81 (by decide) (fun c25 => ?_) (fun c25 => ?_)
  · replace h := h.2 c25
    refine jx_aload_n 1 dX10_check_89 rfl rfl ?_
    refine jx_iload 0 dX10_check_90 rfl ?_
    refine jx_iconst (v := 1) dX10_check_92 (by decide) ?_
    refine jx_iadd dX10_check_93 ?_
    refine jx_iload_n 3 dX10_check_94 rfl rfl ?_
    refine jx_aload_n 1 dX10_check_95 rfl rfl ?_
    obtain ⟨hk26, h⟩ := h
    obtain ⟨b27, hb27, h⟩ := h
    refine jx_getr jc_10 (j := 3) (by decide) rfl jwF_X10_22 dX10_check_96 hk26 hb27 ?_
    obtain ⟨hk28, h⟩ := h
    refine jx_callVi (M' := mX0_agesTogether) (As := []) jo_X0_agesTogether jc_0 rfl jwM_X10_387 jwN_X0_agesTogether jwX_X0_agesTogether dX10_check_99 (jRok_m _ _ _) rfl (jle rfl) ⟨jle rfl, jle rfl⟩ hk28 h (fun r30 S29 h => ?_)
    obtain ⟨hk31, h⟩ := h
    refine jx_callVi (M' := mX10_isWaiting) (As := [.int ((2 * x3) + 1), .int x2, .int r30]) jo_X10_isWaiting jc_10 rfl jwM_X10_383 jwN_X10_isWaiting jwX_X10_isWaiting dX10_check_102 (jRok_m _ _ _) rfl (jle rfl) ⟨jle rfl, jle rfl⟩ hk31 h (fun r33 S32 h => ?_)
    refine jx_if_ne (tgt := 113) dX10_check_105 (by decide) (fun c34 => ?_) (fun c34 => ?_)
    · replace h := h.2 c34
      refine jx_iinc 4 (v := (x3 + 1)) (lv1 := [(3, .int (x3 + 1)), (4, .int (2 * x3)), (0, .ref a0), (1, .int x1), (2, .int x2)]) kd58.1 rfl rfl (by decide) rfl ?_
      refine jx_goto (tgt := 50) kd58.2 (by decide) ?_
      exact jx_lv [2, 3, 4, 0] rfl h
    replace h := h.1 c34
    refine jx_iconst (v := 2) dX10_check_108 (by decide) ?_
    refine jx_iload 0 dX10_check_109 rfl ?_
    refine jx_iadd dX10_check_111 ?_
    exact jx_iret dX10_check_112 rfl rfl (jle rfl) (jle rfl) ⟨_, rfl, h⟩
  replace h := h.1 c25
  refine jx_iconst (v := 1) dX10_check_84 (by decide) ?_
  refine jx_iload 0 dX10_check_85 rfl ?_
  refine jx_iadd dX10_check_87 ?_
  exact jx_iret dX10_check_88 rfl rfl (jle rfl) (jle rfl) ⟨_, rfl, h⟩
set_option maxRecDepth 100000 in
set_option maxHeartbeats 4000000 in
theorem T_X10_isWaiting {E : jEnv} {d : Nat} {Q : Int32 → jM → Prop} {a0 : Nat} {x1 : Int32} {x2 : Int32} {x3 : Int32} {S : jM} (h : (x2 ≤ x1 → Q 0 S) ∧ (¬ x2 ≤ x1 → ((jwi x1 60) = 0 → Q 0 S) ∧ (¬ (jwi x1 60) = 0 → jk S a0 = 10 ∧ ∃ b7, jr S a0 8 = some b7 ∧ (jk S b7 = 12 ∧ vp_in x1 (jl S b7) ∧ (((ji S b7 (Int32.toNatClampNeg x1)) = x3 → Q 1 S) ∧ (¬ (ji S b7 (Int32.toNatClampNeg x1)) = x3 → Q 0 S)))))) : jFi E mX10_isWaiting (d + 1) 0 0 [.ref a0, .int x1, .int x2, .int x3] S Q := by
  refine jF_of (by decide) (jle rfl) ?_
  refine jx_lv (lv1 := [(0, .ref a0), (1, .int x1), (2, .int x2), (3, .int x3)]) [0, 1, 2, 3] rfl ?_
  refine jx_iload_n 1 dX10_isWaiting_0 rfl rfl ?_
  refine jx_iload_n 2 dX10_isWaiting_1 rfl rfl ?_
  refine jx_icmp_ge (tgt := 28) dX10_isWaiting_2 (by decide) (fun c1 => ?_) (fun c1 => ?_)
  · replace h := h.1 c1
    refine jx_iconst (v := 0) dX10_isWaiting_28 (by decide) ?_
    exact jx_iret dX10_isWaiting_29 rfl (by decide) (jle rfl) (jle rfl) ⟨_, rfl, h⟩
  replace h := h.2 c1
  refine jx_iload_n 1 dX10_isWaiting_5 rfl rfl ?_
  refine jx_bipush (v := 60) dX10_isWaiting_6 (by decide) ?_
  refine jx_callSi (M' := mX10_within) (As := [.int x1, .int 60]) jo_X10_within jwM_X10_58 jwS_X10_within dX10_isWaiting_8 (jRok_m _ _ _) rfl (jle rfl) ⟨jle rfl, jle rfl⟩ (c_X10_within (Q := fun v S' => v = (jwi x1 60) ∧ S = S') ⟨rfl, rfl⟩) (fun r2 S3 hq4 => ?_)
  obtain ⟨rfl, rfl⟩ := hq4
  refine jx_if_eq (tgt := 28) dX10_isWaiting_11 (by decide) (fun c5 => ?_) (fun c5 => ?_)
  · replace h := h.1 c5
    refine jx_iconst (v := 0) dX10_isWaiting_28 (by decide) ?_
    exact jx_iret dX10_isWaiting_29 rfl (by decide) (jle rfl) (jle rfl) ⟨_, rfl, h⟩
  replace h := h.2 c5
  refine jx_aload_n 0 dX10_isWaiting_14 rfl rfl ?_
  obtain ⟨hk6, h⟩ := h
  obtain ⟨b7, hb7, h⟩ := h
  refine jx_getr jc_10 (j := 8) (by decide) rfl jwF_X10_52 dX10_isWaiting_15 hk6 hb7 ?_
  refine jx_iload_n 1 dX10_isWaiting_18 rfl rfl ?_
  obtain ⟨hk8, h⟩ := h
  obtain ⟨hi9, h⟩ := h
  refine jx_iald dX10_isWaiting_19 hk8 hi9 ?_
  refine jx_iload_n 3 dX10_isWaiting_20 rfl rfl ?_
  refine jx_icmp_ne (tgt := 28) dX10_isWaiting_21 (by decide) (fun c10 => ?_) (fun c10 => ?_)
  · replace h := h.2 c10
    refine jx_iconst (v := 0) dX10_isWaiting_28 (by decide) ?_
    exact jx_iret dX10_isWaiting_29 rfl (by decide) (jle rfl) (jle rfl) ⟨_, rfl, h⟩
  replace h := h.1 c10
  refine jx_iconst (v := 1) dX10_isWaiting_24 (by decide) ?_
  refine jx_goto (tgt := 29) dX10_isWaiting_25 (by decide) ?_
  exact jx_iret dX10_isWaiting_29 rfl (by decide) (jle rfl) (jle rfl) ⟨_, rfl, h⟩
set_option maxRecDepth 100000 in
set_option maxHeartbeats 4000000 in
theorem T_X10_keep {E : jEnv} {d : Nat} {Q : Int32 → jM → Prop} {a0 : Nat} {S : jM} (h : jk S a0 = 10 ∧ ∃ b2, jr S a0 1 = some b2 ∧ (∃ b3, jr S a0 0 = some b3 ∧ (jk S b2 = 3 ∧ jFv E mX3_become d 0 0 [.ref b2, .ref b3] S (fun S5 => jk S5 a0 = 10 ∧ ∃ b7, jr S5 a0 1 = some b7 ∧ (jk S5 b7 = 3 ∧ ∃ b9, jr S5 b7 0 = some b9 ∧ (jk S5 b9 = 0 ∧ Q (ji S5 b9 1) (jput S5 a0 2 1))))))) : jFi E mX10_keep (d + 1) 0 0 [.ref a0] S Q := by
  refine jF_of (by decide) (jle rfl) ?_
  refine jx_lv (lv1 := [(0, .ref a0)]) [0] rfl ?_
  refine jx_aload_n 0 dX10_keep_0 rfl rfl ?_
  obtain ⟨hk1, h⟩ := h
  obtain ⟨b2, hb2, h⟩ := h
  refine jx_getr jc_10 (j := 1) (by decide) rfl jwF_X10_16 dX10_keep_1 hk1 hb2 ?_
  refine jx_aload_n 0 dX10_keep_4 rfl rfl ?_
  obtain ⟨b3, hb3, h⟩ := h
  refine jx_getr jc_10 (j := 0) (by decide) rfl jwF_X10_12 dX10_keep_5 hk1 hb3 ?_
  obtain ⟨hk4, h⟩ := h
  refine jx_callVv (M' := mX3_become) (As := [.ref b3]) jo_X3_become jc_3 rfl jwM_X10_390 jwN_X3_become jwX_X3_become dX10_keep_8 (jRok_m _ _ _) rfl (jle rfl) ⟨jle rfl, jle rfl⟩ hk4 h (fun S5 h => ?_)
  refine jx_aload_n 0 dX10_keep_11 rfl rfl ?_
  refine jx_iconst (v := 1) dX10_keep_12 (by decide) ?_
  obtain ⟨hk6, h⟩ := h
  refine jx_puti jc_10 (j := 2) (by decide) rfl jwF_X10_377 rfl (by decide) (by decide) dX10_keep_13 hk6 ?_
  refine jx_aload_n 0 dX10_keep_16 rfl rfl ?_
  obtain ⟨b7, hb7, h⟩ := h
  refine jx_getr jc_10 (j := 1) (by decide) rfl jwF_X10_16 dX10_keep_17 hk6 hb7 ?_
  obtain ⟨hk8, h⟩ := h
  obtain ⟨b9, hb9, h⟩ := h
  refine jx_getr jc_3 (j := 0) (by decide) rfl jwF_X10_63 dX10_keep_20 hk8 hb9 ?_
  obtain ⟨hk10, h⟩ := h
  refine jx_geti jc_0 (j := 1) (by decide) rfl jwF_X10_66 dX10_keep_23 hk10 ?_
  refine jx_topi (y := (ji S5 b9 1)) (by simp [ji_put, ji_row, ji_putr]) ?_
  exact jx_iret dX10_keep_26 rfl rfl (jle rfl) (jle rfl) ⟨_, rfl, h⟩
set_option maxRecDepth 100000 in
set_option maxHeartbeats 4000000 in
theorem T_X10_back {E : jEnv} {d : Nat} {Q : Int32 → jM → Prop} {a0 : Nat} {S : jM} (h : jk S a0 = 10 ∧ ((ji S a0 2) = 0 → Q (-1000000002) S) ∧ (¬ (ji S a0 2) = 0 → ∃ b3, jr S a0 0 = some b3 ∧ (∃ b4, jr S a0 1 = some b4 ∧ (jk S b3 = 3 ∧ jFv E mX3_become d 0 0 [.ref b3, .ref b4] S (fun S6 => jk S6 a0 = 10 ∧ ∃ b8, jr S6 a0 0 = some b8 ∧ (jk S6 b8 = 3 ∧ ∃ b10, jr S6 b8 0 = some b10 ∧ (jk S6 b10 = 0 ∧ Q (ji S6 b10 1) S6))))))) : jFi E mX10_back (d + 1) 0 0 [.ref a0] S Q := by
  refine jF_of (by decide) (jle rfl) ?_
  refine jx_lv (lv1 := [(0, .ref a0)]) [0] rfl ?_
  refine jx_aload_n 0 dX10_back_0 rfl rfl ?_
  obtain ⟨hk1, h⟩ := h
  refine jx_geti jc_10 (j := 2) (by decide) rfl jwF_X10_377 dX10_back_1 hk1 ?_
  refine jx_if_ne (tgt := 10) dX10_back_4 (by decide) (fun c2 => ?_) (fun c2 => ?_)
  · replace h := h.2 c2
    refine jx_aload_n 0 dX10_back_10 rfl rfl ?_
    obtain ⟨b3, hb3, h⟩ := h
    refine jx_getr jc_10 (j := 0) (by decide) rfl jwF_X10_12 dX10_back_11 hk1 hb3 ?_
    refine jx_aload_n 0 dX10_back_14 rfl rfl ?_
    obtain ⟨b4, hb4, h⟩ := h
    refine jx_getr jc_10 (j := 1) (by decide) rfl jwF_X10_16 dX10_back_15 hk1 hb4 ?_
    obtain ⟨hk5, h⟩ := h
    refine jx_callVv (M' := mX3_become) (As := [.ref b4]) jo_X3_become jc_3 rfl jwM_X10_390 jwN_X3_become jwX_X3_become dX10_back_18 (jRok_m _ _ _) rfl (jle rfl) ⟨jle rfl, jle rfl⟩ hk5 h (fun S6 h => ?_)
    refine jx_aload_n 0 dX10_back_21 rfl rfl ?_
    obtain ⟨hk7, h⟩ := h
    obtain ⟨b8, hb8, h⟩ := h
    refine jx_getr jc_10 (j := 0) (by decide) rfl jwF_X10_12 dX10_back_22 hk7 hb8 ?_
    obtain ⟨hk9, h⟩ := h
    obtain ⟨b10, hb10, h⟩ := h
    refine jx_getr jc_3 (j := 0) (by decide) rfl jwF_X10_63 dX10_back_25 hk9 hb10 ?_
    obtain ⟨hk11, h⟩ := h
    refine jx_geti jc_0 (j := 1) (by decide) rfl jwF_X10_66 dX10_back_28 hk11 ?_
    exact jx_iret dX10_back_31 rfl rfl (jle rfl) (jle rfl) ⟨_, rfl, h⟩
  replace h := h.1 c2
  refine jx_ldc jwC_X10_184 dX10_back_7 ?_
  exact jx_iret dX10_back_9 rfl rfl (jle rfl) (jle rfl) ⟨_, rfl, h⟩
set_option maxRecDepth 100000 in
set_option maxHeartbeats 4000000 in
theorem T_X10_count {E : jEnv} {d : Nat} {Q : Int32 → jM → Prop} {a0 : Nat} {x1 : Int32} {S : jM} (h : (x1 = 0 → jk S a0 = 10 ∧ ∃ b3, jr S a0 0 = some b3 ∧ (jk S b3 = 3 ∧ ∃ b5, jr S b3 0 = some b5 ∧ (jk S b5 = 0 ∧ Q (ji S b5 1) S))) ∧ (x1 = 1 → jk S a0 = 10 ∧ ∃ b9, jr S a0 0 = some b9 ∧ (jk S b9 = 3 ∧ ∃ b11, jr S b9 0 = some b11 ∧ (jk S b11 = 0 ∧ jFi E mX0_countDead d 0 0 [.ref b11] S (fun r14 S13 => Q r14 S13)))) ∧ (x1 = 2 → jk S a0 = 10 ∧ ∃ b17, jr S a0 0 = some b17 ∧ (jk S b17 = 3 ∧ ∃ b19, jr S b17 2 = some b19 ∧ (jk S b19 = 1 ∧ Q (ji S b19 4) S))) ∧ (x1 = 3 → jk S a0 = 10 ∧ ∃ b23, jr S a0 0 = some b23 ∧ (jk S b23 = 3 ∧ ∃ b25, jr S b23 2 = some b25 ∧ (jk S b25 = 1 ∧ Q (jbc (ji S b25 1)) S))) ∧ (x1 = 4 → jk S a0 = 10 ∧ ∃ b32, jr S a0 0 = some b32 ∧ (jk S b32 = 3 ∧ Q (ji S b32 4) S)) ∧ (x1 = 5 → jk S a0 = 10 ∧ ∃ b36, jr S a0 0 = some b36 ∧ (jk S b36 = 3 ∧ jFi E mX3_canMakeChair d 0 0 [.ref b36] S (fun r39 S38 => (r39 = 0 → Q 0 S38) ∧ (¬ r39 = 0 → Q 1 S38)))) ∧ (x1 = 6 → jk S a0 = 10 ∧ ∃ b43, jr S a0 0 = some b43 ∧ (jk S b43 = 3 ∧ Q (ji S b43 6) S)) ∧ (x1 = 7 → jk S a0 = 10 ∧ Q (ji S a0 9) S) ∧ (x1 = 8 → jk S a0 = 10 ∧ ∃ b49, jr S a0 5 = some b49 ∧ (jk S b49 = 8 ∧ Q (ji S b49 1) S)) ∧ (x1 = 9 → jk S a0 = 10 ∧ ∃ b53, jr S a0 0 = some b53 ∧ (jk S b53 = 3 ∧ ∃ b55, jr S b53 0 = some b55 ∧ (jk S b55 = 0 ∧ Q (ji S b55 2) S))) ∧ (¬ x1 = 0 → ¬ x1 = 1 → ¬ x1 = 2 → ¬ x1 = 3 → ¬ x1 = 4 → ¬ x1 = 5 → ¬ x1 = 6 → ¬ x1 = 7 → ¬ x1 = 8 → ¬ x1 = 9 → Q (-1000000001) S)) : jFi E mX10_count (d + 1) 0 0 [.ref a0, .int x1] S Q := by
  refine jF_of (by decide) (jle rfl) ?_
  refine jx_lv (lv1 := [(0, .ref a0), (1, .int x1)]) [0, 1] rfl ?_
  refine jx_iload_n 1 dX10_count_0 rfl rfl ?_
  by_cases c1 : x1 = 0
  · replace h := h.1 c1
    refine jx_tableIn (v := 0) (tgt := 56) (off := 55) kd59 c1 (by decide) (by decide) (by decide) (by decide) ?_
    refine jx_aload_n 0 dX10_count_56 rfl rfl ?_
    obtain ⟨hk2, h⟩ := h
    obtain ⟨b3, hb3, h⟩ := h
    refine jx_getr jc_10 (j := 0) (by decide) rfl jwF_X10_12 dX10_count_57 hk2 hb3 ?_
    obtain ⟨hk4, h⟩ := h
    obtain ⟨b5, hb5, h⟩ := h
    refine jx_getr jc_3 (j := 0) (by decide) rfl jwF_X10_63 dX10_count_60 hk4 hb5 ?_
    obtain ⟨hk6, h⟩ := h
    refine jx_geti jc_0 (j := 1) (by decide) rfl jwF_X10_66 dX10_count_63 hk6 ?_
    exact jx_iret dX10_count_66 rfl rfl (jle rfl) (jle rfl) ⟨_, rfl, h⟩
  replace h := h.2
  by_cases c7 : x1 = 1
  · replace h := h.1 c7
    refine jx_tableIn (v := 1) (tgt := 67) (off := 66) kd59 c7 (by decide) (by decide) (by decide) (by decide) ?_
    refine jx_aload_n 0 dX10_count_67 rfl rfl ?_
    obtain ⟨hk8, h⟩ := h
    obtain ⟨b9, hb9, h⟩ := h
    refine jx_getr jc_10 (j := 0) (by decide) rfl jwF_X10_12 dX10_count_68 hk8 hb9 ?_
    obtain ⟨hk10, h⟩ := h
    obtain ⟨b11, hb11, h⟩ := h
    refine jx_getr jc_3 (j := 0) (by decide) rfl jwF_X10_63 dX10_count_71 hk10 hb11 ?_
    obtain ⟨hk12, h⟩ := h
    refine jx_callVi (M' := mX0_countDead) (As := []) jo_X0_countDead jc_0 rfl jwM_X10_244 jwN_X0_countDead jwX_X0_countDead dX10_count_74 (jRok_m _ _ _) rfl (jle rfl) ⟨jle rfl, jle rfl⟩ hk12 h (fun r14 S13 h => ?_)
    exact jx_iret dX10_count_77 rfl rfl (jle rfl) (jle rfl) ⟨_, rfl, h⟩
  replace h := h.2
  by_cases c15 : x1 = 2
  · replace h := h.1 c15
    refine jx_tableIn (v := 2) (tgt := 78) (off := 77) kd59 c15 (by decide) (by decide) (by decide) (by decide) ?_
    refine jx_aload_n 0 dX10_count_78 rfl rfl ?_
    obtain ⟨hk16, h⟩ := h
    obtain ⟨b17, hb17, h⟩ := h
    refine jx_getr jc_10 (j := 0) (by decide) rfl jwF_X10_12 dX10_count_79 hk16 hb17 ?_
    obtain ⟨hk18, h⟩ := h
    obtain ⟨b19, hb19, h⟩ := h
    refine jx_getr jc_3 (j := 2) (by decide) rfl jwF_X10_79 dX10_count_82 hk18 hb19 ?_
    obtain ⟨hk20, h⟩ := h
    refine jx_geti jc_1 (j := 4) (by decide) rfl jwF_X10_195 dX10_count_85 hk20 ?_
    exact jx_iret dX10_count_88 rfl rfl (jle rfl) (jle rfl) ⟨_, rfl, h⟩
  replace h := h.2
  by_cases c21 : x1 = 3
  · replace h := h.1 c21
    refine jx_tableIn (v := 3) (tgt := 89) (off := 88) kd59 c21 (by decide) (by decide) (by decide) (by decide) ?_
    refine jx_aload_n 0 dX10_count_89 rfl rfl ?_
    obtain ⟨hk22, h⟩ := h
    obtain ⟨b23, hb23, h⟩ := h
    refine jx_getr jc_10 (j := 0) (by decide) rfl jwF_X10_12 dX10_count_90 hk22 hb23 ?_
    obtain ⟨hk24, h⟩ := h
    obtain ⟨b25, hb25, h⟩ := h
    refine jx_getr jc_3 (j := 2) (by decide) rfl jwF_X10_79 dX10_count_93 hk24 hb25 ?_
    obtain ⟨hk26, h⟩ := h
    refine jx_geti jc_1 (j := 1) (by decide) rfl jwF_X10_107 dX10_count_96 hk26 ?_
    refine jx_callSi (M' := mJ6_bitCount_0f7a4) (As := [.int (ji S b25 1)]) jo_J6_bitCount_0f7a4 jwM_X10_112 jwS_J6_bitCount_0f7a4 dX10_count_99 (jRok_m _ _ _) rfl (jle rfl) ⟨jle rfl, jle rfl⟩ (c_J6_bitCount_0f7a4 (Q := fun v S' => v = (jbc (ji S b25 1)) ∧ S = S') ⟨rfl, rfl⟩) (fun r27 S28 hq29 => ?_)
    obtain ⟨rfl, rfl⟩ := hq29
    exact jx_iret dX10_count_102 rfl rfl (jle rfl) (jle rfl) ⟨_, rfl, h⟩
  replace h := h.2
  by_cases c30 : x1 = 4
  · replace h := h.1 c30
    refine jx_tableIn (v := 4) (tgt := 103) (off := 102) kd59 c30 (by decide) (by decide) (by decide) (by decide) ?_
    refine jx_aload_n 0 dX10_count_103 rfl rfl ?_
    obtain ⟨hk31, h⟩ := h
    obtain ⟨b32, hb32, h⟩ := h
    refine jx_getr jc_10 (j := 0) (by decide) rfl jwF_X10_12 dX10_count_104 hk31 hb32 ?_
    obtain ⟨hk33, h⟩ := h
    refine jx_geti jc_3 (j := 4) (by decide) rfl jwF_X10_212 dX10_count_107 hk33 ?_
    exact jx_iret dX10_count_110 rfl rfl (jle rfl) (jle rfl) ⟨_, rfl, h⟩
  replace h := h.2
  by_cases c34 : x1 = 5
  · replace h := h.1 c34
    refine jx_tableIn (v := 5) (tgt := 111) (off := 110) kd59 c34 (by decide) (by decide) (by decide) (by decide) ?_
    refine jx_aload_n 0 dX10_count_111 rfl rfl ?_
    obtain ⟨hk35, h⟩ := h
    obtain ⟨b36, hb36, h⟩ := h
    refine jx_getr jc_10 (j := 0) (by decide) rfl jwF_X10_12 dX10_count_112 hk35 hb36 ?_
    obtain ⟨hk37, h⟩ := h
    refine jx_callVi (M' := mX3_canMakeChair) (As := []) jo_X3_canMakeChair jc_3 rfl jwM_X10_215 jwN_X3_canMakeChair jwX_X3_canMakeChair dX10_count_115 (jRok_m _ _ _) rfl (jle rfl) ⟨jle rfl, jle rfl⟩ hk37 h (fun r39 S38 h => ?_)
    refine jx_if_eq (tgt := 125) dX10_count_118 (by decide) (fun c40 => ?_) (fun c40 => ?_)
    · replace h := h.1 c40
      refine jx_iconst (v := 0) dX10_count_125 (by decide) ?_
      exact jx_iret dX10_count_126 rfl rfl (jle rfl) (jle rfl) ⟨_, rfl, h⟩
    replace h := h.2 c40
    refine jx_iconst (v := 1) dX10_count_121 (by decide) ?_
    refine jx_goto (tgt := 126) dX10_count_122 (by decide) ?_
    exact jx_iret dX10_count_126 rfl rfl (jle rfl) (jle rfl) ⟨_, rfl, h⟩
  replace h := h.2
  by_cases c41 : x1 = 6
  · replace h := h.1 c41
    refine jx_tableIn (v := 6) (tgt := 127) (off := 126) kd59 c41 (by decide) (by decide) (by decide) (by decide) ?_
    refine jx_aload_n 0 dX10_count_127 rfl rfl ?_
    obtain ⟨hk42, h⟩ := h
    obtain ⟨b43, hb43, h⟩ := h
    refine jx_getr jc_10 (j := 0) (by decide) rfl jwF_X10_12 dX10_count_128 hk42 hb43 ?_
    obtain ⟨hk44, h⟩ := h
    refine jx_geti jc_3 (j := 6) (by decide) rfl jwF_X10_287 dX10_count_131 hk44 ?_
    exact jx_iret dX10_count_134 rfl rfl (jle rfl) (jle rfl) ⟨_, rfl, h⟩
  replace h := h.2
  by_cases c45 : x1 = 7
  · replace h := h.1 c45
    refine jx_tableIn (v := 7) (tgt := 135) (off := 134) kd59 c45 (by decide) (by decide) (by decide) (by decide) ?_
    refine jx_aload_n 0 dX10_count_135 rfl rfl ?_
    obtain ⟨hk46, h⟩ := h
    refine jx_geti jc_10 (j := 9) (by decide) rfl jwF_X10_374 dX10_count_136 hk46 ?_
    exact jx_iret dX10_count_139 rfl rfl (jle rfl) (jle rfl) ⟨_, rfl, h⟩
  replace h := h.2
  by_cases c47 : x1 = 8
  · replace h := h.1 c47
    refine jx_tableIn (v := 8) (tgt := 140) (off := 139) kd59 c47 (by decide) (by decide) (by decide) (by decide) ?_
    refine jx_aload_n 0 dX10_count_140 rfl rfl ?_
    obtain ⟨hk48, h⟩ := h
    obtain ⟨b49, hb49, h⟩ := h
    refine jx_getr jc_10 (j := 5) (by decide) rfl jwF_X10_36 dX10_count_141 hk48 hb49 ?_
    obtain ⟨hk50, h⟩ := h
    refine jx_geti jc_8 (j := 1) (by decide) rfl jwF_X10_277 dX10_count_144 hk50 ?_
    exact jx_iret dX10_count_147 rfl rfl (jle rfl) (jle rfl) ⟨_, rfl, h⟩
  replace h := h.2
  by_cases c51 : x1 = 9
  · replace h := h.1 c51
    refine jx_tableIn (v := 9) (tgt := 148) (off := 147) kd59 c51 (by decide) (by decide) (by decide) (by decide) ?_
    refine jx_aload_n 0 dX10_count_148 rfl rfl ?_
    obtain ⟨hk52, h⟩ := h
    obtain ⟨b53, hb53, h⟩ := h
    refine jx_getr jc_10 (j := 0) (by decide) rfl jwF_X10_12 dX10_count_149 hk52 hb53 ?_
    obtain ⟨hk54, h⟩ := h
    obtain ⟨b55, hb55, h⟩ := h
    refine jx_getr jc_3 (j := 0) (by decide) rfl jwF_X10_63 dX10_count_152 hk54 hb55 ?_
    obtain ⟨hk56, h⟩ := h
    refine jx_geti jc_0 (j := 2) (by decide) rfl jwF_X10_169 dX10_count_155 hk56 ?_
    exact jx_iret dX10_count_158 rfl rfl (jle rfl) (jle rfl) ⟨_, rfl, h⟩
  replace h := h.2
  replace h := h c1 c7 c15 c21 c30 c34 c41 c45 c47 c51
  refine jx_tableD (tgt := 159) ([0, 1, 2, 3, 4, 5, 6, 7, 8, 9] : List Int) kd59 (by simp only [List.mem_cons, List.not_mem_nil, or_false, forall_eq_or_imp, forall_eq]; exact ⟨lv_neT c1 (by decide), lv_neT c7 (by decide), lv_neT c15 (by decide), lv_neT c21 (by decide), lv_neT c30 (by decide), lv_neT c34 (by decide), lv_neT c41 (by decide), lv_neT c45 (by decide), lv_neT c47 (by decide), lv_neT c51 (by decide)⟩) (by decide) (by decide) (by decide) ?_
  refine jx_ldc jwC_X10_62 dX10_count_159 ?_
  exact jx_iret dX10_count_161 rfl rfl (jle rfl) (jle rfl) ⟨_, rfl, h⟩
set_option maxRecDepth 100000 in
set_option maxHeartbeats 4000000 in
theorem T_X10_findSheet {E : jEnv} {d : Nat} {Q : Option Nat → jM → Prop} {a0 : Nat} {x1 : Int32} {S : jM} (h : ((jwi x1 4) = 0 → Q none S) ∧ (¬ (jwi x1 4) = 0 → jk S a0 = 10 ∧ ∃ b6, jr S a0 6 = some b6 ∧ (jk S b6 = 14 ∧ vp_in x1 (jl S b6) ∧ ∃ b9, jr S b6 (Int32.toNatClampNeg x1) = some b9 ∧ (Q (some b9) S)))) : jFr E mX10_findSheet (d + 1) 0 0 [.ref a0, .int x1] S Q := by
  refine jF_of (by decide) (jle rfl) ?_
  refine jx_lv (lv1 := [(0, .ref a0), (1, .int x1)]) [0, 1] rfl ?_
  refine jx_iload_n 1 dX10_findSheet_0 rfl rfl ?_
  refine jx_iconst (v := 4) dX10_findSheet_1 (by decide) ?_
  refine jx_callSi (M' := mX10_within) (As := [.int x1, .int 4]) jo_X10_within jwM_X10_58 jwS_X10_within dX10_findSheet_2 (jRok_m _ _ _) rfl (jle rfl) ⟨jle rfl, jle rfl⟩ (c_X10_within (Q := fun v S' => v = (jwi x1 4) ∧ S = S') ⟨rfl, rfl⟩) (fun r1 S2 hq3 => ?_)
  obtain ⟨rfl, rfl⟩ := hq3
  refine jx_if_eq (tgt := 17) dX10_findSheet_5 (by decide) (fun c4 => ?_) (fun c4 => ?_)
  · replace h := h.1 c4
    refine jx_null dX10_findSheet_17 ?_
    exact jx_aret (o := none) dX10_findSheet_18 rfl (jle rfl) (jle rfl) ⟨_, rfl, h⟩
  replace h := h.2 c4
  refine jx_aload_n 0 dX10_findSheet_8 rfl rfl ?_
  obtain ⟨hk5, h⟩ := h
  obtain ⟨b6, hb6, h⟩ := h
  refine jx_getr jc_10 (j := 6) (by decide) rfl jwF_X10_42 dX10_findSheet_9 hk5 hb6 ?_
  refine jx_iload_n 1 dX10_findSheet_12 rfl rfl ?_
  obtain ⟨hk7, h⟩ := h
  obtain ⟨hi8, h⟩ := h
  obtain ⟨b9, hb9, h⟩ := h
  refine jx_aaldS dX10_findSheet_13 hk7 (by decide) (by decide) hi8 hb9 ?_
  refine jx_goto (tgt := 18) dX10_findSheet_14 (by decide) ?_
  exact jx_aret (o := (some b9)) dX10_findSheet_18 rfl (jle rfl) (jle rfl) ⟨_, rfl, h⟩
set_option maxRecDepth 100000 in
set_option maxHeartbeats 4000000 in
theorem T_X10_findSlot {E : jEnv} {d : Nat} {Q : Option Nat → jM → Prop} {a0 : Nat} {x1 : Int32} {S : jM} (h : ((jwi x1 5) = 0 → Q none S) ∧ (¬ (jwi x1 5) = 0 → jk S a0 = 10 ∧ ∃ b6, jr S a0 7 = some b6 ∧ (jk S b6 = 15 ∧ vp_in x1 (jl S b6) ∧ ∃ b9, jr S b6 (Int32.toNatClampNeg x1) = some b9 ∧ (Q (some b9) S)))) : jFr E mX10_findSlot (d + 1) 0 0 [.ref a0, .int x1] S Q := by
  refine jF_of (by decide) (jle rfl) ?_
  refine jx_lv (lv1 := [(0, .ref a0), (1, .int x1)]) [0, 1] rfl ?_
  refine jx_iload_n 1 dX10_findSlot_0 rfl rfl ?_
  refine jx_iconst (v := 5) dX10_findSlot_1 (by decide) ?_
  refine jx_callSi (M' := mX10_within) (As := [.int x1, .int 5]) jo_X10_within jwM_X10_58 jwS_X10_within dX10_findSlot_2 (jRok_m _ _ _) rfl (jle rfl) ⟨jle rfl, jle rfl⟩ (c_X10_within (Q := fun v S' => v = (jwi x1 5) ∧ S = S') ⟨rfl, rfl⟩) (fun r1 S2 hq3 => ?_)
  obtain ⟨rfl, rfl⟩ := hq3
  refine jx_if_eq (tgt := 17) dX10_findSlot_5 (by decide) (fun c4 => ?_) (fun c4 => ?_)
  · replace h := h.1 c4
    refine jx_null dX10_findSlot_17 ?_
    exact jx_aret (o := none) dX10_findSlot_18 rfl (jle rfl) (jle rfl) ⟨_, rfl, h⟩
  replace h := h.2 c4
  refine jx_aload_n 0 dX10_findSlot_8 rfl rfl ?_
  obtain ⟨hk5, h⟩ := h
  obtain ⟨b6, hb6, h⟩ := h
  refine jx_getr jc_10 (j := 7) (by decide) rfl jwF_X10_48 dX10_findSlot_9 hk5 hb6 ?_
  refine jx_iload_n 1 dX10_findSlot_12 rfl rfl ?_
  obtain ⟨hk7, h⟩ := h
  obtain ⟨hi8, h⟩ := h
  obtain ⟨b9, hb9, h⟩ := h
  refine jx_aaldS dX10_findSlot_13 hk7 (by decide) (by decide) hi8 hb9 ?_
  refine jx_goto (tgt := 18) dX10_findSlot_14 (by decide) ?_
  exact jx_aret (o := (some b9)) dX10_findSlot_18 rfl (jle rfl) (jle rfl) ⟨_, rfl, h⟩
end
