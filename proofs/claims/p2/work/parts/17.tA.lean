set_option maxRecDepth 100000 in
set_option maxHeartbeats 4000000 in
theorem T_X2_init {E : jEnv} {d : Nat} {Q : jM → Prop} {a0 : Nat} {S : jM} (h : Q S) : jFv E mX2_init (d + 1) 0 0 [.ref a0] S Q := by
  refine jF_of (by decide) (jle rfl) ?_
  refine jx_lv (lv1 := [(0, .ref a0)]) [0] rfl ?_
  refine jx_aload_n 0 dX2_init_0 rfl rfl ?_
  refine jx_objInit jwM_X2_3 jwN_obj jwO_obj dX2_init_1 (jRok_m _ _ _) (jle rfl) ?_
  exact jx_vret dX2_init_4 rfl (jle rfl) (jle rfl) ⟨rfl, h⟩
set_option maxRecDepth 100000 in
set_option maxHeartbeats 4000000 in
theorem T_X2_begin {E : jEnv} {d : Nat} {Q : jM → Prop} {a0 : Nat} {x1 : Int32} {x2 : Int32} {x3 : Int32} {x4 : Int32} {S : jM} (h : jk S a0 = 2 ∧ Q (jput (jput (jput (jput (jput (jput (jput S a0 0 x1) a0 1 x2) a0 2 x3) a0 4 x4) a0 3 0) a0 5 40) a0 6 0)) : jFv E mX2_begin d 0 0 [.ref a0, .int x1, .int x2, .int x3, .int x4] S Q := by
  refine jF_of (by decide) (jle rfl) ?_
  refine jx_lv (lv1 := [(0, .ref a0), (1, .int x1), (2, .int x2), (3, .int x3), (4, .int x4)]) [0, 1, 2, 3, 4] rfl ?_
  refine jx_aload_n 0 dX2_begin_0 rfl rfl ?_
  refine jx_iload_n 1 dX2_begin_1 rfl rfl ?_
  obtain ⟨hk1, h⟩ := h
  refine jx_puti jc_2 (j := 0) (by decide) rfl jwF_X2_9 rfl rfl rfl dX2_begin_2 hk1 ?_
  refine jx_aload_n 0 dX2_begin_5 rfl rfl ?_
  refine jx_iload_n 2 dX2_begin_6 rfl rfl ?_
  refine jx_puti jc_2 (j := 1) (by decide) rfl jwF_X2_15 rfl rfl rfl dX2_begin_7 hk1 ?_
  refine jx_aload_n 0 dX2_begin_10 rfl rfl ?_
  refine jx_iload_n 3 dX2_begin_11 rfl rfl ?_
  refine jx_puti jc_2 (j := 2) (by decide) rfl jwF_X2_18 rfl rfl rfl dX2_begin_12 hk1 ?_
  refine jx_aload_n 0 dX2_begin_15 rfl rfl ?_
  refine jx_iload 4 dX2_begin_16 rfl ?_
  refine jx_puti jc_2 (j := 4) (by decide) rfl jwF_X2_21 rfl rfl rfl dX2_begin_18 hk1 ?_
  refine jx_aload_n 0 dX2_begin_21 rfl rfl ?_
  refine jx_iconst (v := 0) dX2_begin_22 (by decide) ?_
  refine jx_puti jc_2 (j := 3) (by decide) rfl jwF_X2_24 rfl rfl rfl dX2_begin_23 hk1 ?_
  refine jx_aload_n 0 dX2_begin_26 rfl rfl ?_
  refine jx_bipush (v := 40) dX2_begin_27 (by decide) ?_
  refine jx_puti jc_2 (j := 5) (by decide) rfl jwF_X2_27 rfl rfl rfl dX2_begin_29 hk1 ?_
  refine jx_aload_n 0 dX2_begin_32 rfl rfl ?_
  refine jx_iconst (v := 0) dX2_begin_33 (by decide) ?_
  refine jx_puti jc_2 (j := 6) (by decide) rfl jwF_X2_30 rfl (by decide) (by decide) dX2_begin_34 hk1 ?_
  exact jx_vret dX2_begin_37 rfl (jle rfl) (jle rfl) ⟨rfl, h⟩
set_option maxRecDepth 100000 in
set_option maxHeartbeats 4000000 in
theorem T_X2_become {E : jEnv} {d : Nat} {Q : jM → Prop} {a0 : Nat} {a1 : Nat} {S : jM} (h : jk S a1 = 2 ∧ jk S a0 = 2 ∧ ((ji S a1 6) = 0 ∨ (ji S a1 6) = 1) ∧ Q (jput (jput (jput (jput (jput (jput (jput S a0 0 (ji S a1 0)) a0 1 (ji S a1 1)) a0 2 (ji S a1 2)) a0 3 (ji S a1 3)) a0 4 (ji S a1 4)) a0 5 (ji S a1 5)) a0 6 (ji S a1 6))) : jFv E mX2_become d 0 0 [.ref a0, .ref a1] S Q := by
  refine jF_of (by decide) (jle rfl) ?_
  refine jx_lv (lv1 := [(0, .ref a0), (1, .ref a1)]) [0, 1] rfl ?_
  refine jx_aload_n 0 dX2_become_0 rfl rfl ?_
  refine jx_aload_n 1 dX2_become_1 rfl rfl ?_
  obtain ⟨hk1, h⟩ := h
  refine jx_geti jc_2 (j := 0) (by decide) rfl jwF_X2_9 dX2_become_2 hk1 ?_
  obtain ⟨hk2, h⟩ := h
  refine jx_puti jc_2 (j := 0) (by decide) rfl jwF_X2_9 rfl rfl rfl dX2_become_5 hk2 ?_
  refine jx_aload_n 0 dX2_become_8 rfl rfl ?_
  refine jx_aload_n 1 dX2_become_9 rfl rfl ?_
  refine jx_geti jc_2 (j := 1) (by decide) rfl jwF_X2_15 dX2_become_10 hk1 ?_
  refine jx_topi (y := (ji S a1 1)) (by simp [ji_put, ji_row, ji_putr]) ?_
  refine jx_puti jc_2 (j := 1) (by decide) rfl jwF_X2_15 rfl rfl rfl dX2_become_13 hk2 ?_
  refine jx_aload_n 0 dX2_become_16 rfl rfl ?_
  refine jx_aload_n 1 dX2_become_17 rfl rfl ?_
  refine jx_geti jc_2 (j := 2) (by decide) rfl jwF_X2_18 dX2_become_18 hk1 ?_
  refine jx_topi (y := (ji S a1 2)) (by simp [ji_put, ji_row, ji_putr]) ?_
  refine jx_puti jc_2 (j := 2) (by decide) rfl jwF_X2_18 rfl rfl rfl dX2_become_21 hk2 ?_
  refine jx_aload_n 0 dX2_become_24 rfl rfl ?_
  refine jx_aload_n 1 dX2_become_25 rfl rfl ?_
  refine jx_geti jc_2 (j := 3) (by decide) rfl jwF_X2_24 dX2_become_26 hk1 ?_
  refine jx_topi (y := (ji S a1 3)) (by simp [ji_put, ji_row, ji_putr]) ?_
  refine jx_puti jc_2 (j := 3) (by decide) rfl jwF_X2_24 rfl rfl rfl dX2_become_29 hk2 ?_
  refine jx_aload_n 0 dX2_become_32 rfl rfl ?_
  refine jx_aload_n 1 dX2_become_33 rfl rfl ?_
  refine jx_geti jc_2 (j := 4) (by decide) rfl jwF_X2_21 dX2_become_34 hk1 ?_
  refine jx_topi (y := (ji S a1 4)) (by simp [ji_put, ji_row, ji_putr]) ?_
  refine jx_puti jc_2 (j := 4) (by decide) rfl jwF_X2_21 rfl rfl rfl dX2_become_37 hk2 ?_
  refine jx_aload_n 0 dX2_become_40 rfl rfl ?_
  refine jx_aload_n 1 dX2_become_41 rfl rfl ?_
  refine jx_geti jc_2 (j := 5) (by decide) rfl jwF_X2_27 dX2_become_42 hk1 ?_
  refine jx_topi (y := (ji S a1 5)) (by simp [ji_put, ji_row, ji_putr]) ?_
  refine jx_puti jc_2 (j := 5) (by decide) rfl jwF_X2_27 rfl rfl rfl dX2_become_45 hk2 ?_
  refine jx_aload_n 0 dX2_become_48 rfl rfl ?_
  refine jx_aload_n 1 dX2_become_49 rfl rfl ?_
  refine jx_geti jc_2 (j := 6) (by decide) rfl jwF_X2_30 dX2_become_50 hk1 ?_
  refine jx_topi (y := (ji S a1 6)) (by simp [ji_put, ji_row, ji_putr]) ?_
  obtain ⟨hb3, h⟩ := h
  refine jx_puti jc_2 (j := 6) (by decide) rfl jwF_X2_30 rfl (jb_nar hb3) (jb_fit hb3) dX2_become_53 hk2 ?_
  exact jx_vret dX2_become_56 rfl (jle rfl) (jle rfl) ⟨rfl, h⟩
/-- X2_isOf at its loop's head 7 -/
abbrev L_X2_isOf_7 (E : jEnv) (d : Nat) (Q : Int32 → jM → Prop) (x1 : Int32) (x2 : Int32) (x3 : Int32) (S : jM) : Prop := jX E mX2_isOf (jRm (d + 1) 0 0) (jZm E (fun r S' => ∃ v : Int32, r = some (.int v) ∧ Q v S') 0 0) 7 [(1, .int x1), (2, .int x2), (3, .int x3)] [] S 0 0
set_option maxRecDepth 100000 in
set_option maxHeartbeats 4000000 in
theorem T_X2_isOf {E : jEnv} {d : Nat} {Q : Int32 → jM → Prop} {a0 : Nat} {x1 : Int32} {S : jM} (h : jk S a0 = 2 ∧ L_X2_isOf_7 E d Q x1 (ji S a0 0) 0 S) : jFi E mX2_isOf (d + 1) 0 0 [.ref a0, .int x1] S Q := by
  refine jF_of (by decide) (jle rfl) ?_
  refine jx_lv (lv1 := [(0, .ref a0), (1, .int x1)]) [0, 1] rfl ?_
  refine jx_aload_n 0 dX2_isOf_0 rfl rfl ?_
  obtain ⟨hk1, h⟩ := h
  refine jx_geti jc_2 (j := 0) (by decide) rfl jwF_X2_9 dX2_isOf_1 hk1 ?_
  refine jx_istore_n (lv1 := [(2, .int (ji S a0 0)), (0, .ref a0), (1, .int x1)]) dX2_isOf_4 rfl (by decide) rfl ?_
  refine jx_iconst (v := 0) dX2_isOf_5 (by decide) ?_
  refine jx_istore_n (lv1 := [(3, .int 0), (2, .int (ji S a0 0)), (0, .ref a0), (1, .int x1)]) dX2_isOf_6 rfl (by decide) rfl ?_
  exact jx_lv [3, 1, 0] rfl h
set_option maxRecDepth 100000 in
set_option maxHeartbeats 4000000 in
theorem T_X2_isOf_7 {E : jEnv} {d : Nat} {Q : Int32 → jM → Prop} {x1 : Int32} {x2 : Int32} {x3 : Int32} {S : jM} (h : (6 ≤ x3 → Q 0 S) ∧ (¬ 6 ≤ x3 → ((jwi x2 6) = 0 → Q 0 S) ∧ (¬ (jwi x2 6) = 0 → (x2 = x1 → Q 1 S) ∧ (¬ x2 = x1 → vp_in x2 6 ∧ (L_X2_isOf_7 E d Q x1 (jab x2) (x3 + 1) S))))) : L_X2_isOf_7 E d Q x1 x2 x3 S := by
  show jX E mX2_isOf (jRm (d + 1) 0 0) (jZm E (fun r S' => ∃ v : Int32, r = some (.int v) ∧ Q v S') 0 0) 7 [(1, .int x1), (2, .int x2), (3, .int x3)] [] S 0 0
  refine jx_iload_n 2 dX2_isOf_7 rfl rfl ?_
  refine jx_bipush (v := 6) dX2_isOf_8 (by decide) ?_
  refine jx_icmp_ge (tgt := 41) dX2_isOf_10 (by decide) (fun c2 => ?_) (fun c2 => ?_)
  · replace h := h.1 c2
    refine jx_iconst (v := 0) dX2_isOf_41 (by decide) ?_
    exact jx_iret dX2_isOf_42 rfl (by decide) (jle rfl) (jle rfl) ⟨_, rfl, h⟩
  replace h := h.2 c2
  refine jx_iload_n 1 dX2_isOf_13 rfl rfl ?_
  refine jx_bipush (v := 6) dX2_isOf_14 (by decide) ?_
  refine jx_callSNi (M' := mX10_within) (As := [.int x2, .int 6]) (host := "NineMasters") jo_X10_within (by decide) jwS_X10_within dX2_isOf_16 (jRok_m _ _ _) rfl (jle rfl) ⟨jle rfl, jle rfl⟩ (c_X10_within (Q := fun v S' => v = (jwi x2 6) ∧ S = S') ⟨rfl, rfl⟩) (fun r3 S4 hq5 => ?_)
  obtain ⟨rfl, rfl⟩ := hq5
  refine jx_if_eq (tgt := 41) dX2_isOf_19 (by decide) (fun c6 => ?_) (fun c6 => ?_)
  · replace h := h.1 c6
    refine jx_iconst (v := 0) dX2_isOf_41 (by decide) ?_
    exact jx_iret dX2_isOf_42 rfl (by decide) (jle rfl) (jle rfl) ⟨_, rfl, h⟩
  replace h := h.2 c6
  refine jx_iload_n 1 dX2_isOf_22 rfl rfl ?_
  refine jx_iload_n 0 dX2_isOf_23 rfl rfl ?_
  refine jx_icmp_ne (tgt := 29) dX2_isOf_24 (by decide) (fun c7 => ?_) (fun c7 => ?_)
  · replace h := h.2 c7
    refine jx_above rfl dX2_isOf_29 ?_
    refine jx_iload_n 1 dX2_isOf_32 rfl rfl ?_
    obtain ⟨hi8, h⟩ := h
    refine jx_aboveLd dX2_isOf_33 hi8 ?_
    refine jx_istore_n (lv1 := [(2, .int (jab x2)), (1, .int x1), (3, .int x3)]) dX2_isOf_34 rfl (by decide) rfl ?_
    refine jx_iinc 2 (v := (x3 + 1)) (lv1 := [(3, .int (x3 + 1)), (2, .int (jab x2)), (1, .int x1)]) dX2_isOf_35 rfl rfl (by decide) rfl ?_
    refine jx_goto (tgt := 7) dX2_isOf_38 (by decide) ?_
    exact jx_lv [2, 1, 0] rfl h
  replace h := h.1 c7
  refine jx_iconst (v := 1) dX2_isOf_27 (by decide) ?_
  exact jx_iret dX2_isOf_28 rfl (by decide) (jle rfl) (jle rfl) ⟨_, rfl, h⟩
set_option maxRecDepth 100000 in
set_option maxHeartbeats 4000000 in
theorem T_X2_daysFrom {E : jEnv} {d : Nat} {Q : Int32 → jM → Prop} {a0 : Nat} {x1 : Int32} {S : jM} (h : jk S a0 = 2 ∧ ((ji S a0 0) = 1 → Q (2 * x1) S) ∧ ((ji S a0 0) = 2 → Q (jmax 1 (x1 - 1)) S) ∧ ((ji S a0 0) = 3 → Q ((2 * x1) + ((ji S a0 5) / 10)) S) ∧ ((ji S a0 0) = 4 → Q (jmax 1 ((jmax 1 (x1 - 1)) / 2)) S) ∧ ((ji S a0 0) = 5 → Q 1 S) ∧ (¬ (ji S a0 0) = 1 → ¬ (ji S a0 0) = 2 → ¬ (ji S a0 0) = 3 → ¬ (ji S a0 0) = 4 → ¬ (ji S a0 0) = 5 → Q x1 S)) : jFi E mX2_daysFrom (d + 1) 0 0 [.ref a0, .int x1] S Q := by
  refine jF_of (by decide) (jle rfl) ?_
  refine jx_lv (lv1 := [(0, .ref a0), (1, .int x1)]) [0, 1] rfl ?_
  refine jx_iconst (v := 1) dX2_daysFrom_0 (by decide) ?_
  refine jx_iload_n 1 dX2_daysFrom_1 rfl rfl ?_
  refine jx_iconst (v := 1) dX2_daysFrom_2 (by decide) ?_
  refine jx_isub dX2_daysFrom_3 ?_
  refine jx_max jwM_X2_42 jwS_max jwZ_J9 jwO_max dX2_daysFrom_4 (jRok_m _ _ _) (jle rfl) ⟨Nat.zero_le _, Nat.zero_le _⟩ ?_
  refine jx_istore_n (lv1 := [(2, .int (jmax 1 (x1 - 1))), (0, .ref a0), (1, .int x1)]) dX2_daysFrom_7 rfl (by decide) rfl ?_
  refine jx_aload_n 1 dX2_daysFrom_8 rfl rfl ?_
  obtain ⟨hk1, h⟩ := h
  refine jx_geti jc_2 (j := 0) (by decide) rfl jwF_X2_9 dX2_daysFrom_9 hk1 ?_
  by_cases c2 : (ji S a0 0) = 1
  · replace h := h.1 c2
    refine jx_tableIn (v := 1) (tgt := 48) (off := 36) dX2_daysFrom_12 c2 (by decide) (by decide) (by decide) (by decide) ?_
    refine jx_iconst (v := 2) dX2_daysFrom_48 (by decide) ?_
    refine jx_iload_n 2 dX2_daysFrom_49 rfl rfl ?_
    refine jx_imul dX2_daysFrom_50 ?_
    exact jx_iret dX2_daysFrom_51 rfl rfl (jle rfl) (jle rfl) ⟨_, rfl, h⟩
  replace h := h.2
  by_cases c3 : (ji S a0 0) = 2
  · replace h := h.1 c3
    refine jx_tableIn (v := 2) (tgt := 64) (off := 52) dX2_daysFrom_12 c3 (by decide) (by decide) (by decide) (by decide) ?_
    refine jx_iload_n 0 dX2_daysFrom_64 rfl rfl ?_
    exact jx_iret dX2_daysFrom_65 rfl rfl (jle rfl) (jle rfl) ⟨_, rfl, h⟩
  replace h := h.2
  by_cases c4 : (ji S a0 0) = 3
  · replace h := h.1 c4
    refine jx_tableIn (v := 3) (tgt := 52) (off := 40) dX2_daysFrom_12 c4 (by decide) (by decide) (by decide) (by decide) ?_
    refine jx_iconst (v := 2) dX2_daysFrom_52 (by decide) ?_
    refine jx_iload_n 2 dX2_daysFrom_53 rfl rfl ?_
    refine jx_imul dX2_daysFrom_54 ?_
    refine jx_aload_n 1 dX2_daysFrom_55 rfl rfl ?_
    refine jx_geti jc_2 (j := 5) (by decide) rfl jwF_X2_27 dX2_daysFrom_56 hk1 ?_
    refine jx_bipush (v := 10) dX2_daysFrom_59 (by decide) ?_
    refine jx_idiv dX2_daysFrom_61 (by decide) ?_
    refine jx_iadd dX2_daysFrom_62 ?_
    exact jx_iret dX2_daysFrom_63 rfl rfl (jle rfl) (jle rfl) ⟨_, rfl, h⟩
  replace h := h.2
  by_cases c5 : (ji S a0 0) = 4
  · replace h := h.1 c5
    refine jx_tableIn (v := 4) (tgt := 66) (off := 54) dX2_daysFrom_12 c5 (by decide) (by decide) (by decide) (by decide) ?_
    refine jx_iconst (v := 1) dX2_daysFrom_66 (by decide) ?_
    refine jx_iload_n 0 dX2_daysFrom_67 rfl rfl ?_
    refine jx_iconst (v := 2) dX2_daysFrom_68 (by decide) ?_
    refine jx_idiv dX2_daysFrom_69 (by decide) ?_
    refine jx_max jwM_X2_42 jwS_max jwZ_J9 jwO_max dX2_daysFrom_70 (jRok_m _ _ _) (jle rfl) ⟨Nat.zero_le _, Nat.zero_le _⟩ ?_
    exact jx_iret dX2_daysFrom_73 rfl rfl (jle rfl) (jle rfl) ⟨_, rfl, h⟩
  replace h := h.2
  by_cases c6 : (ji S a0 0) = 5
  · replace h := h.1 c6
    refine jx_tableIn (v := 5) (tgt := 74) (off := 62) dX2_daysFrom_12 c6 (by decide) (by decide) (by decide) (by decide) ?_
    refine jx_iconst (v := 1) dX2_daysFrom_74 (by decide) ?_
    exact jx_iret dX2_daysFrom_75 rfl rfl (jle rfl) (jle rfl) ⟨_, rfl, h⟩
  replace h := h.2
  replace h := h c2 c3 c4 c5 c6
  refine jx_tableD (tgt := 76) ([1, 2, 3, 4, 5] : List Int) dX2_daysFrom_12 (by simp only [List.mem_cons, List.not_mem_nil, or_false, forall_eq_or_imp, forall_eq]; exact ⟨lv_neT c2 (by decide), lv_neT c3 (by decide), lv_neT c4 (by decide), lv_neT c5 (by decide), lv_neT c6 (by decide)⟩) (by decide) (by decide) (by decide) ?_
  refine jx_iload_n 2 dX2_daysFrom_76 rfl rfl ?_
  exact jx_iret dX2_daysFrom_77 rfl rfl (jle rfl) (jle rfl) ⟨_, rfl, h⟩
set_option maxRecDepth 100000 in
set_option maxHeartbeats 4000000 in
theorem T_X2_teaches {E : jEnv} {d : Nat} {Q : Int32 → jM → Prop} {a0 : Nat} {x1 : Int32} {S : jM} (h : jk S a0 = 2 ∧ ((ji S a0 0) = 2 → Q 1 S) ∧ ((ji S a0 0) = 3 → ((jbc ((ji S a0 3) &&& x1)) = 0 → ((jbc x1) < 3 → Q 0 S) ∧ (¬ (jbc x1) < 3 → Q 1 S)) ∧ (¬ (jbc ((ji S a0 3) &&& x1)) = 0 → Q 0 S)) ∧ ((ji S a0 0) = 4 → Q 1 S) ∧ ((ji S a0 0) = 5 → (1 < (jbc ((ji S a0 3) &&& x1)) → Q 0 S) ∧ (¬ 1 < (jbc ((ji S a0 3) &&& x1)) → Q 1 S)) ∧ (¬ (ji S a0 0) = 2 → ¬ (ji S a0 0) = 3 → ¬ (ji S a0 0) = 4 → ¬ (ji S a0 0) = 5 → ((jbc ((ji S a0 3) &&& x1)) = 0 → Q 1 S) ∧ (¬ (jbc ((ji S a0 3) &&& x1)) = 0 → Q 0 S))) : jFi E mX2_teaches (d + 1) 0 0 [.ref a0, .int x1] S Q := by
  refine jF_of (by decide) (jle rfl) ?_
  refine jx_lv (lv1 := [(0, .ref a0), (1, .int x1)]) [0, 1] rfl ?_
  refine jx_aload_n 0 dX2_teaches_0 rfl rfl ?_
  obtain ⟨hk1, h⟩ := h
  refine jx_geti jc_2 (j := 3) (by decide) rfl jwF_X2_24 dX2_teaches_1 hk1 ?_
  refine jx_iload_n 1 dX2_teaches_4 rfl rfl ?_
  refine jx_iand dX2_teaches_5 ?_
  refine jx_callSi (M' := mJ6_bitCount_0f7a4) (As := [.int ((ji S a0 3) &&& x1)]) jo_J6_bitCount_0f7a4 jwM_X2_48 jwS_J6_bitCount_0f7a4 dX2_teaches_6 (jRok_m _ _ _) rfl (jle rfl) ⟨jle rfl, jle rfl⟩ (c_J6_bitCount_0f7a4 (Q := fun v S' => v = (jbc ((ji S a0 3) &&& x1)) ∧ S = S') ⟨rfl, rfl⟩) (fun r2 S3 hq4 => ?_)
  obtain ⟨rfl, rfl⟩ := hq4
  refine jx_istore_n (lv1 := [(2, .int (jbc ((ji S a0 3) &&& x1))), (0, .ref a0), (1, .int x1)]) dX2_teaches_9 rfl (by decide) rfl ?_
  refine jx_aload_n 1 dX2_teaches_10 rfl rfl ?_
  refine jx_geti jc_2 (j := 0) (by decide) rfl jwF_X2_9 dX2_teaches_11 hk1 ?_
  by_cases c5 : (ji S a0 0) = 2
  · replace h := h.1 c5
    refine jx_tableIn (v := 2) (tgt := 62) (off := 48) dX2_teaches_14 c5 (by decide) (by decide) (by decide) (by decide) ?_
    refine jx_iconst (v := 1) dX2_teaches_62 (by decide) ?_
    exact jx_iret dX2_teaches_63 rfl (by decide) (jle rfl) (jle rfl) ⟨_, rfl, h⟩
  replace h := h.2
  by_cases c6 : (ji S a0 0) = 3
  · replace h := h.1 c6
    refine jx_tableIn (v := 3) (tgt := 44) (off := 30) dX2_teaches_14 c6 (by decide) (by decide) (by decide) (by decide) ?_
    refine jx_iload_n 0 dX2_teaches_44 rfl rfl ?_
    refine jx_if_ne (tgt := 60) dX2_teaches_45 (by decide) (fun c7 => ?_) (fun c7 => ?_)
    · replace h := h.2 c7
      refine jx_iconst (v := 0) dX2_teaches_60 (by decide) ?_
      exact jx_iret dX2_teaches_61 rfl (by decide) (jle rfl) (jle rfl) ⟨_, rfl, h⟩
    replace h := h.1 c7
    refine jx_iload_n 2 dX2_teaches_48 rfl rfl ?_
    refine jx_callSi (M' := mJ6_bitCount_0f7a4) (As := [.int x1]) jo_J6_bitCount_0f7a4 jwM_X2_48 jwS_J6_bitCount_0f7a4 dX2_teaches_49 (jRok_m _ _ _) rfl (jle rfl) ⟨jle rfl, jle rfl⟩ (c_J6_bitCount_0f7a4 (Q := fun v S' => v = (jbc x1) ∧ S = S') ⟨rfl, rfl⟩) (fun r8 S9 hq10 => ?_)
    obtain ⟨rfl, rfl⟩ := hq10
    refine jx_iconst (v := 3) dX2_teaches_52 (by decide) ?_
    refine jx_icmp_lt (tgt := 60) dX2_teaches_53 (by decide) (fun c11 => ?_) (fun c11 => ?_)
    · replace h := h.1 c11
      refine jx_iconst (v := 0) dX2_teaches_60 (by decide) ?_
      exact jx_iret dX2_teaches_61 rfl (by decide) (jle rfl) (jle rfl) ⟨_, rfl, h⟩
    replace h := h.2 c11
    refine jx_iconst (v := 1) dX2_teaches_56 (by decide) ?_
    refine jx_goto (tgt := 61) dX2_teaches_57 (by decide) ?_
    exact jx_iret dX2_teaches_61 rfl (by decide) (jle rfl) (jle rfl) ⟨_, rfl, h⟩
  replace h := h.2
  by_cases c12 : (ji S a0 0) = 4
  · replace h := h.1 c12
    refine jx_tableIn (v := 4) (tgt := 64) (off := 50) dX2_teaches_14 c12 (by decide) (by decide) (by decide) (by decide) ?_
    refine jx_iconst (v := 1) dX2_teaches_64 (by decide) ?_
    exact jx_iret dX2_teaches_65 rfl (by decide) (jle rfl) (jle rfl) ⟨_, rfl, h⟩
  replace h := h.2
  by_cases c13 : (ji S a0 0) = 5
  · replace h := h.1 c13
    refine jx_tableIn (v := 5) (tgt := 66) (off := 52) dX2_teaches_14 c13 (by decide) (by decide) (by decide) (by decide) ?_
    refine jx_iload_n 0 dX2_teaches_66 rfl rfl ?_
    refine jx_iconst (v := 1) dX2_teaches_67 (by decide) ?_
    refine jx_icmp_gt (tgt := 75) dX2_teaches_68 (by decide) (fun c14 => ?_) (fun c14 => ?_)
    · replace h := h.1 c14
      refine jx_iconst (v := 0) dX2_teaches_75 (by decide) ?_
      exact jx_iret dX2_teaches_76 rfl (by decide) (jle rfl) (jle rfl) ⟨_, rfl, h⟩
    replace h := h.2 c14
    refine jx_iconst (v := 1) dX2_teaches_71 (by decide) ?_
    refine jx_goto (tgt := 76) dX2_teaches_72 (by decide) ?_
    exact jx_iret dX2_teaches_76 rfl (by decide) (jle rfl) (jle rfl) ⟨_, rfl, h⟩
  replace h := h.2
  replace h := h c5 c6 c12 c13
  refine jx_tableD (tgt := 77) ([2, 3, 4, 5] : List Int) dX2_teaches_14 (by simp only [List.mem_cons, List.not_mem_nil, or_false, forall_eq_or_imp, forall_eq]; exact ⟨lv_neT c5 (by decide), lv_neT c6 (by decide), lv_neT c12 (by decide), lv_neT c13 (by decide)⟩) (by decide) (by decide) (by decide) ?_
  refine jx_iload_n 0 dX2_teaches_77 rfl rfl ?_
  refine jx_if_ne (tgt := 85) dX2_teaches_78 (by decide) (fun c15 => ?_) (fun c15 => ?_)
  · replace h := h.2 c15
    refine jx_iconst (v := 0) dX2_teaches_85 (by decide) ?_
    exact jx_iret dX2_teaches_86 rfl (by decide) (jle rfl) (jle rfl) ⟨_, rfl, h⟩
  replace h := h.1 c15
  refine jx_iconst (v := 1) dX2_teaches_81 (by decide) ?_
  refine jx_goto (tgt := 86) dX2_teaches_82 (by decide) ?_
  exact jx_iret dX2_teaches_86 rfl (by decide) (jle rfl) (jle rfl) ⟨_, rfl, h⟩
set_option maxRecDepth 100000 in
set_option maxHeartbeats 4000000 in
theorem T_X2_unlearnt {E : jEnv} {d : Nat} {Q : Int32 → jM → Prop} {a0 : Nat} {S : jM} (h : jk S a0 = 2 ∧ ((ji S a0 0) = 2 → Q (ji S a0 3) S) ∧ (¬ (ji S a0 0) = 2 → Q 0 S)) : jFi E mX2_unlearnt d 0 0 [.ref a0] S Q := by
  refine jF_of (by decide) (jle rfl) ?_
  refine jx_lv (lv1 := [(0, .ref a0)]) [0] rfl ?_
  refine jx_aload_n 0 dX2_unlearnt_0 rfl rfl ?_
  obtain ⟨hk1, h⟩ := h
  refine jx_geti jc_2 (j := 0) (by decide) rfl jwF_X2_9 dX2_unlearnt_1 hk1 ?_
  refine jx_iconst (v := 2) dX2_unlearnt_4 (by decide) ?_
  refine jx_icmp_ne (tgt := 15) dX2_unlearnt_5 (by decide) (fun c2 => ?_) (fun c2 => ?_)
  · replace h := h.2 c2
    refine jx_iconst (v := 0) dX2_unlearnt_15 (by decide) ?_
    exact jx_iret dX2_unlearnt_16 rfl rfl (jle rfl) (jle rfl) ⟨_, rfl, h⟩
  replace h := h.1 c2
  refine jx_aload_n 0 dX2_unlearnt_8 rfl rfl ?_
  refine jx_geti jc_2 (j := 3) (by decide) rfl jwF_X2_24 dX2_unlearnt_9 hk1 ?_
  refine jx_goto (tgt := 16) dX2_unlearnt_12 (by decide) ?_
  exact jx_iret dX2_unlearnt_16 rfl rfl (jle rfl) (jle rfl) ⟨_, rfl, h⟩
set_option maxRecDepth 100000 in
set_option maxHeartbeats 4000000 in
theorem T_X2_worth {E : jEnv} {d : Nat} {Q : Int32 → jM → Prop} {a0 : Nat} {S : jM} (h : jk S a0 = 2 ∧ ((ji S a0 0) = 1 → Q ((ji S a0 4) + 11) S) ∧ ((ji S a0 0) = 2 → Q (99 - (ji S a0 4)) S) ∧ ((ji S a0 0) = 3 → Q (2 * ((ji S a0 4) + 11)) S) ∧ ((ji S a0 0) = 4 → Q ((99 - (ji S a0 4)) - 4) S) ∧ ((ji S a0 0) = 5 → Q 8 S) ∧ (¬ (ji S a0 0) = 1 → ¬ (ji S a0 0) = 2 → ¬ (ji S a0 0) = 3 → ¬ (ji S a0 0) = 4 → ¬ (ji S a0 0) = 5 → Q (ji S a0 4) S)) : jFi E mX2_worth d 0 0 [.ref a0] S Q := by
  refine jF_of (by decide) (jle rfl) ?_
  refine jx_lv (lv1 := [(0, .ref a0)]) [0] rfl ?_
  refine jx_aload_n 0 dX2_worth_0 rfl rfl ?_
  obtain ⟨hk1, h⟩ := h
  refine jx_geti jc_2 (j := 0) (by decide) rfl jwF_X2_9 dX2_worth_1 hk1 ?_
  by_cases c2 : (ji S a0 0) = 1
  · replace h := h.1 c2
    refine jx_tableIn (v := 1) (tgt := 40) (off := 36) dX2_worth_4 c2 (by decide) (by decide) (by decide) (by decide) ?_
    refine jx_aload_n 0 dX2_worth_40 rfl rfl ?_
    refine jx_geti jc_2 (j := 4) (by decide) rfl jwF_X2_21 dX2_worth_41 hk1 ?_
    refine jx_bipush (v := 11) dX2_worth_44 (by decide) ?_
    refine jx_iadd dX2_worth_46 ?_
    exact jx_iret dX2_worth_47 rfl rfl (jle rfl) (jle rfl) ⟨_, rfl, h⟩
  replace h := h.2
  by_cases c3 : (ji S a0 0) = 2
  · replace h := h.1 c3
    refine jx_tableIn (v := 2) (tgt := 58) (off := 54) dX2_worth_4 c3 (by decide) (by decide) (by decide) (by decide) ?_
    refine jx_bipush (v := 99) dX2_worth_58 (by decide) ?_
    refine jx_aload_n 0 dX2_worth_60 rfl rfl ?_
    refine jx_geti jc_2 (j := 4) (by decide) rfl jwF_X2_21 dX2_worth_61 hk1 ?_
    refine jx_isub dX2_worth_64 ?_
    exact jx_iret dX2_worth_65 rfl rfl (jle rfl) (jle rfl) ⟨_, rfl, h⟩
  replace h := h.2
  by_cases c4 : (ji S a0 0) = 3
  · replace h := h.1 c4
    refine jx_tableIn (v := 3) (tgt := 48) (off := 44) dX2_worth_4 c4 (by decide) (by decide) (by decide) (by decide) ?_
    refine jx_iconst (v := 2) dX2_worth_48 (by decide) ?_
    refine jx_aload_n 0 dX2_worth_49 rfl rfl ?_
    refine jx_geti jc_2 (j := 4) (by decide) rfl jwF_X2_21 dX2_worth_50 hk1 ?_
    refine jx_bipush (v := 11) dX2_worth_53 (by decide) ?_
    refine jx_iadd dX2_worth_55 ?_
    refine jx_imul dX2_worth_56 ?_
    exact jx_iret dX2_worth_57 rfl rfl (jle rfl) (jle rfl) ⟨_, rfl, h⟩
  replace h := h.2
  by_cases c5 : (ji S a0 0) = 4
  · replace h := h.1 c5
    refine jx_tableIn (v := 4) (tgt := 66) (off := 62) dX2_worth_4 c5 (by decide) (by decide) (by decide) (by decide) ?_
    refine jx_bipush (v := 99) dX2_worth_66 (by decide) ?_
    refine jx_aload_n 0 dX2_worth_68 rfl rfl ?_
    refine jx_geti jc_2 (j := 4) (by decide) rfl jwF_X2_21 dX2_worth_69 hk1 ?_
    refine jx_isub dX2_worth_72 ?_
    refine jx_iconst (v := 4) dX2_worth_73 (by decide) ?_
    refine jx_isub dX2_worth_74 ?_
    exact jx_iret dX2_worth_75 rfl rfl (jle rfl) (jle rfl) ⟨_, rfl, h⟩
  replace h := h.2
  by_cases c6 : (ji S a0 0) = 5
  · replace h := h.1 c6
    refine jx_tableIn (v := 5) (tgt := 76) (off := 72) dX2_worth_4 c6 (by decide) (by decide) (by decide) (by decide) ?_
    refine jx_bipush (v := 8) dX2_worth_76 (by decide) ?_
    exact jx_iret dX2_worth_78 rfl rfl (jle rfl) (jle rfl) ⟨_, rfl, h⟩
  replace h := h.2
  replace h := h c2 c3 c4 c5 c6
  refine jx_tableD (tgt := 79) ([1, 2, 3, 4, 5] : List Int) dX2_worth_4 (by simp only [List.mem_cons, List.not_mem_nil, or_false, forall_eq_or_imp, forall_eq]; exact ⟨lv_neT c2 (by decide), lv_neT c3 (by decide), lv_neT c4 (by decide), lv_neT c5 (by decide), lv_neT c6 (by decide)⟩) (by decide) (by decide) (by decide) ?_
  refine jx_aload_n 0 dX2_worth_79 rfl rfl ?_
  refine jx_geti jc_2 (j := 4) (by decide) rfl jwF_X2_21 dX2_worth_80 hk1 ?_
  exact jx_iret dX2_worth_83 rfl rfl (jle rfl) (jle rfl) ⟨_, rfl, h⟩
set_option maxRecDepth 100000 in
set_option maxHeartbeats 4000000 in
theorem T_X6_init {E : jEnv} {d : Nat} {Q : jM → Prop} {a0 : Nat} {S : jM} (h : jk S a0 = 6 ∧ ∀ q2, q2 = jn (jput S a0 0 (-1)) → jk (jnew (jput S a0 0 (-1)) 12 24) a0 = 6 ∧ Q (jputr (jnew (jput S a0 0 (-1)) 12 24) a0 2 (some q2))) : jFv E mX6_init (d + 1) 1 24 [.ref a0] S Q := by
  refine jF_of (by decide) (jle rfl) ?_
  refine jx_lv (lv1 := [(0, .ref a0)]) [0] rfl ?_
  refine jx_aload_n 0 dX6_init_0 rfl rfl ?_
  refine jx_objInit jwM_X6_3 jwN_obj jwO_obj dX6_init_1 (jRok_m _ _ _) (jle rfl) ?_
  refine jx_aload_n 0 dX6_init_4 rfl rfl ?_
  refine jx_iconst (v := (-1)) dX6_init_5 (by decide) ?_
  obtain ⟨hk1, h⟩ := h
  refine jx_puti jc_6 (j := 0) (by decide) rfl jwF_X6_9 rfl rfl rfl dX6_init_6 hk1 ?_
  refine jx_aload_n 0 dX6_init_9 rfl rfl ?_
  refine jx_bipush (v := 24) dX6_init_10 (by decide) ?_
  refine jx_newa (N := 24) jwA dX6_init_12 (by decide) (by decide) (by decide) ⟨jle rfl, jle rfl⟩ ?_
  obtain ⟨q2, hq2⟩ : ∃ q, q = jn (jput S a0 0 (-1)) := ⟨_, rfl⟩
  rw [← hq2]
  replace h := h q2 hq2
  obtain ⟨hk3, h⟩ := h
  refine jx_putrF jc_6 (j := 2) (by decide) rfl jwF_X6_15 rfl rfl rfl rfl rfl dX6_init_14 hk3 ?_
  exact jx_vret dX6_init_17 rfl (jle rfl) (jle rfl) ⟨rfl, h⟩
/-- X6_begin at its loop's head 12 -/
abbrev L_X6_begin_12 (E : jEnv) (d : Nat) (Q : jM → Prop) (a0 : Nat) (x3 : Int32) (S : jM) : Prop := jX E mX6_begin (jRm d 0 0) (jZm E (fun r S' => r = none ∧ Q S') 0 0) 12 [(0, .ref a0), (3, .int x3)] [] S 0 0
set_option maxRecDepth 100000 in
set_option maxHeartbeats 4000000 in
theorem T_X6_begin {E : jEnv} {d : Nat} {Q : jM → Prop} {a0 : Nat} {x1 : Int32} {x2 : Int32} {S : jM} (h : jk S a0 = 6 ∧ L_X6_begin_12 E d Q a0 0 (jput (jput S a0 0 x1) a0 1 x2)) : jFv E mX6_begin d 0 0 [.ref a0, .int x1, .int x2] S Q := by
  refine jF_of (by decide) (jle rfl) ?_
  refine jx_lv (lv1 := [(0, .ref a0), (1, .int x1), (2, .int x2)]) [0, 1, 2] rfl ?_
  refine jx_aload_n 0 dX6_begin_0 rfl rfl ?_
  refine jx_iload_n 1 dX6_begin_1 rfl rfl ?_
  obtain ⟨hk1, h⟩ := h
  refine jx_puti jc_6 (j := 0) (by decide) rfl jwF_X6_9 rfl rfl rfl dX6_begin_2 hk1 ?_
  refine jx_aload_n 0 dX6_begin_5 rfl rfl ?_
  refine jx_iload_n 2 dX6_begin_6 rfl rfl ?_
  refine jx_puti jc_6 (j := 1) (by decide) rfl jwF_X6_19 rfl rfl rfl dX6_begin_7 hk1 ?_
  refine jx_iconst (v := 0) dX6_begin_10 (by decide) ?_
  refine jx_istore_n (lv1 := [(3, .int 0), (0, .ref a0), (1, .int x1), (2, .int x2)]) dX6_begin_11 rfl (by decide) rfl ?_
  exact jx_lv [1, 0] rfl h
set_option maxRecDepth 100000 in
set_option maxHeartbeats 4000000 in
theorem T_X6_begin_12 {E : jEnv} {d : Nat} {Q : jM → Prop} {a0 : Nat} {x3 : Int32} {S : jM} (h : (24 ≤ x3 → Q S) ∧ (¬ 24 ≤ x3 → jk S a0 = 6 ∧ ∃ b4, jr S a0 2 = some b4 ∧ (jk S b4 = 12 ∧ vp_in x3 (jl S b4) ∧ (L_X6_begin_12 E d Q a0 (x3 + 1) (jput S b4 (Int32.toNatClampNeg x3) 0))))) : L_X6_begin_12 E d Q a0 x3 S := by
  show jX E mX6_begin (jRm d 0 0) (jZm E (fun r S' => r = none ∧ Q S') 0 0) 12 [(0, .ref a0), (3, .int x3)] [] S 0 0
  refine jx_iload_n 1 dX6_begin_12 rfl rfl ?_
  refine jx_bipush (v := 24) dX6_begin_13 (by decide) ?_
  refine jx_icmp_ge (tgt := 31) dX6_begin_15 (by decide) (fun c2 => ?_) (fun c2 => ?_)
  · replace h := h.1 c2
    exact jx_vret dX6_begin_31 rfl (jle rfl) (jle rfl) ⟨rfl, h⟩
  replace h := h.2 c2
  refine jx_aload_n 0 dX6_begin_18 rfl rfl ?_
  obtain ⟨hk3, h⟩ := h
  obtain ⟨b4, hb4, h⟩ := h
  refine jx_getr jc_6 (j := 2) (by decide) rfl jwF_X6_15 dX6_begin_19 hk3 hb4 ?_
  refine jx_iload_n 1 dX6_begin_22 rfl rfl ?_
  refine jx_iconst (v := 0) dX6_begin_23 (by decide) ?_
  obtain ⟨hk5, h⟩ := h
  obtain ⟨hi6, h⟩ := h
  refine jx_iast dX6_begin_24 hk5 hi6 ?_
  refine jx_iinc 1 (v := (x3 + 1)) (lv1 := [(3, .int (x3 + 1)), (0, .ref a0)]) dX6_begin_25 rfl rfl (by decide) rfl ?_
  refine jx_goto (tgt := 12) dX6_begin_28 (by decide) ?_
  exact jx_lv [1, 0] rfl h
set_option maxRecDepth 100000 in
set_option maxHeartbeats 4000000 in
theorem T_X6_become {E : jEnv} {d : Nat} {Q : jM → Prop} {a0 : Nat} {a1 : Nat} {S : jM} (h : jk S a1 = 6 ∧ jk S a0 = 6 ∧ ∃ b3, jr S a1 2 = some b3 ∧ (∃ b4, jr S a0 2 = some b4 ∧ (jk S b3 = 12 ∧ jk S b4 = 12 ∧ (¬ (0 : Int32) < 0 ∧ ¬ (0 : Int32) < 0 ∧ ¬ (24 : Int32) < 0 ∧ (Int32.toNatClampNeg 0) + (Int32.toNatClampNeg 24) ≤ jl S b3 ∧ (Int32.toNatClampNeg 0) + (Int32.toNatClampNeg 24) ≤ jl S b4) ∧ (Q (jrow (jput (jput S a0 0 (ji S a1 0)) a0 1 (ji S a1 1)) b4 (va_cpy (ji (jput (jput S a0 0 (ji S a1 0)) a0 1 (ji S a1 1)) b3) (ji (jput (jput S a0 0 (ji S a1 0)) a0 1 (ji S a1 1)) b4) (Int32.toNatClampNeg 0) (Int32.toNatClampNeg 0) (Int32.toNatClampNeg 24))))))) : jFv E mX6_become (d + 1) 0 0 [.ref a0, .ref a1] S Q := by
  refine jF_of (by decide) (jle rfl) ?_
  refine jx_lv (lv1 := [(0, .ref a0), (1, .ref a1)]) [0, 1] rfl ?_
  refine jx_aload_n 0 dX6_become_0 rfl rfl ?_
  refine jx_aload_n 1 dX6_become_1 rfl rfl ?_
  obtain ⟨hk1, h⟩ := h
  refine jx_geti jc_6 (j := 0) (by decide) rfl jwF_X6_9 dX6_become_2 hk1 ?_
  obtain ⟨hk2, h⟩ := h
  refine jx_puti jc_6 (j := 0) (by decide) rfl jwF_X6_9 rfl rfl rfl dX6_become_5 hk2 ?_
  refine jx_aload_n 0 dX6_become_8 rfl rfl ?_
  refine jx_aload_n 1 dX6_become_9 rfl rfl ?_
  refine jx_geti jc_6 (j := 1) (by decide) rfl jwF_X6_19 dX6_become_10 hk1 ?_
  refine jx_topi (y := (ji S a1 1)) (by simp [ji_put, ji_row, ji_putr]) ?_
  refine jx_puti jc_6 (j := 1) (by decide) rfl jwF_X6_19 rfl rfl rfl dX6_become_13 hk2 ?_
  refine jx_aload_n 1 dX6_become_16 rfl rfl ?_
  obtain ⟨b3, hb3, h⟩ := h
  refine jx_getr jc_6 (j := 2) (by decide) rfl jwF_X6_15 dX6_become_17 hk1 hb3 ?_
  refine jx_iconst (v := 0) dX6_become_20 (by decide) ?_
  refine jx_aload_n 0 dX6_become_21 rfl rfl ?_
  obtain ⟨b4, hb4, h⟩ := h
  refine jx_getr jc_6 (j := 2) (by decide) rfl jwF_X6_15 dX6_become_22 hk2 hb4 ?_
  refine jx_iconst (v := 0) dX6_become_25 (by decide) ?_
  refine jx_bipush (v := 24) dX6_become_26 (by decide) ?_
  obtain ⟨hk5, h⟩ := h
  obtain ⟨hk6, h⟩ := h
  obtain ⟨⟨hc7, hc8, hc9, hc10, hc11⟩, h⟩ := h
  refine jx_copy jwM_X6_22 jwV_copy jwS_copy jwZ_J10 dX6_become_28 (jRok_m _ _ _) (jle rfl) hk5 hk6 hc7 hc8 hc9 hc10 hc11 ?_
  exact jx_vret dX6_become_31 rfl (jle rfl) (jle rfl) ⟨rfl, h⟩
set_option maxRecDepth 100000 in
set_option maxHeartbeats 4000000 in
theorem T_X6_hasPlace {E : jEnv} {d : Nat} {Q : Int32 → jM → Prop} {a0 : Nat} {x1 : Int32} {S : jM} (h : jk S a0 = 6 ∧ ((jwi x1 (ji S a0 1)) = 0 → Q 0 S) ∧ (¬ (jwi x1 (ji S a0 1)) = 0 → (24 ≤ x1 → Q 0 S) ∧ (¬ 24 ≤ x1 → Q 1 S))) : jFi E mX6_hasPlace (d + 1) 0 0 [.ref a0, .int x1] S Q := by
  refine jF_of (by decide) (jle rfl) ?_
  refine jx_lv (lv1 := [(0, .ref a0), (1, .int x1)]) [0, 1] rfl ?_
  refine jx_iload_n 1 dX6_hasPlace_0 rfl rfl ?_
  refine jx_aload_n 0 dX6_hasPlace_1 rfl rfl ?_
  obtain ⟨hk1, h⟩ := h
  refine jx_geti jc_6 (j := 1) (by decide) rfl jwF_X6_19 dX6_hasPlace_2 hk1 ?_
  refine jx_callSNi (M' := mX10_within) (As := [.int x1, .int (ji S a0 1)]) (host := "NineMasters") jo_X10_within (by decide) jwS_X10_within dX6_hasPlace_5 (jRok_m _ _ _) rfl (jle rfl) ⟨jle rfl, jle rfl⟩ (c_X10_within (Q := fun v S' => v = (jwi x1 (ji S a0 1)) ∧ S = S') ⟨rfl, rfl⟩) (fun r2 S3 hq4 => ?_)
  obtain ⟨rfl, rfl⟩ := hq4
  refine jx_if_eq (tgt := 21) dX6_hasPlace_8 (by decide) (fun c5 => ?_) (fun c5 => ?_)
  · replace h := h.1 c5
    refine jx_iconst (v := 0) dX6_hasPlace_21 (by decide) ?_
    exact jx_iret dX6_hasPlace_22 rfl (by decide) (jle rfl) (jle rfl) ⟨_, rfl, h⟩
  replace h := h.2 c5
  refine jx_iload_n 1 dX6_hasPlace_11 rfl rfl ?_
  refine jx_bipush (v := 24) dX6_hasPlace_12 (by decide) ?_
  refine jx_icmp_ge (tgt := 21) dX6_hasPlace_14 (by decide) (fun c6 => ?_) (fun c6 => ?_)
  · replace h := h.1 c6
    refine jx_iconst (v := 0) dX6_hasPlace_21 (by decide) ?_
    exact jx_iret dX6_hasPlace_22 rfl (by decide) (jle rfl) (jle rfl) ⟨_, rfl, h⟩
  replace h := h.2 c6
  refine jx_iconst (v := 1) dX6_hasPlace_17 (by decide) ?_
  refine jx_goto (tgt := 22) dX6_hasPlace_18 (by decide) ?_
  exact jx_iret dX6_hasPlace_22 rfl (by decide) (jle rfl) (jle rfl) ⟨_, rfl, h⟩
set_option maxRecDepth 100000 in
set_option maxHeartbeats 4000000 in
theorem T_X6_hasPlaces {E : jEnv} {d : Nat} {Q : Int32 → jM → Prop} {a0 : Nat} {x1 : Int32} {x2 : Int32} {S : jM} (h : (x1 < 0 → Q 0 S) ∧ (¬ x1 < 0 → (x2 < 0 → Q 0 S) ∧ (¬ x2 < 0 → jk S a0 = 6 ∧ ((ji S a0 1) < x2 → Q 0 S) ∧ (¬ (ji S a0 1) < x2 → (((ji S a0 1) - x2) < x1 → Q 0 S) ∧ (¬ ((ji S a0 1) - x2) < x1 → Q 1 S))))) : jFi E mX6_hasPlaces d 0 0 [.ref a0, .int x1, .int x2] S Q := by
  refine jF_of (by decide) (jle rfl) ?_
  refine jx_lv (lv1 := [(0, .ref a0), (1, .int x1), (2, .int x2)]) [0, 1, 2] rfl ?_
  refine jx_iload_n 1 dX6_hasPlaces_0 rfl rfl ?_
  refine jx_if_lt (tgt := 30) dX6_hasPlaces_1 (by decide) (fun c1 => ?_) (fun c1 => ?_)
  · replace h := h.1 c1
    refine jx_iconst (v := 0) dX6_hasPlaces_30 (by decide) ?_
    exact jx_iret dX6_hasPlaces_31 rfl (by decide) (jle rfl) (jle rfl) ⟨_, rfl, h⟩
  replace h := h.2 c1
  refine jx_iload_n 2 dX6_hasPlaces_4 rfl rfl ?_
  refine jx_if_lt (tgt := 30) dX6_hasPlaces_5 (by decide) (fun c2 => ?_) (fun c2 => ?_)
  · replace h := h.1 c2
    refine jx_iconst (v := 0) dX6_hasPlaces_30 (by decide) ?_
    exact jx_iret dX6_hasPlaces_31 rfl (by decide) (jle rfl) (jle rfl) ⟨_, rfl, h⟩
  replace h := h.2 c2
  refine jx_iload_n 2 dX6_hasPlaces_8 rfl rfl ?_
  refine jx_aload_n 0 dX6_hasPlaces_9 rfl rfl ?_
  obtain ⟨hk3, h⟩ := h
  refine jx_geti jc_6 (j := 1) (by decide) rfl jwF_X6_19 dX6_hasPlaces_10 hk3 ?_
  refine jx_icmp_gt (tgt := 30) dX6_hasPlaces_13 (by decide) (fun c4 => ?_) (fun c4 => ?_)
  · replace h := h.1 c4
    refine jx_iconst (v := 0) dX6_hasPlaces_30 (by decide) ?_
    exact jx_iret dX6_hasPlaces_31 rfl (by decide) (jle rfl) (jle rfl) ⟨_, rfl, h⟩
  replace h := h.2 c4
  refine jx_iload_n 1 dX6_hasPlaces_16 rfl rfl ?_
  refine jx_aload_n 0 dX6_hasPlaces_17 rfl rfl ?_
  refine jx_geti jc_6 (j := 1) (by decide) rfl jwF_X6_19 dX6_hasPlaces_18 hk3 ?_
  refine jx_iload_n 2 dX6_hasPlaces_21 rfl rfl ?_
  refine jx_isub dX6_hasPlaces_22 ?_
  refine jx_icmp_gt (tgt := 30) dX6_hasPlaces_23 (by decide) (fun c5 => ?_) (fun c5 => ?_)
  · replace h := h.1 c5
    refine jx_iconst (v := 0) dX6_hasPlaces_30 (by decide) ?_
    exact jx_iret dX6_hasPlaces_31 rfl (by decide) (jle rfl) (jle rfl) ⟨_, rfl, h⟩
  replace h := h.2 c5
  refine jx_iconst (v := 1) dX6_hasPlaces_26 (by decide) ?_
  refine jx_goto (tgt := 31) dX6_hasPlaces_27 (by decide) ?_
  exact jx_iret dX6_hasPlaces_31 rfl (by decide) (jle rfl) (jle rfl) ⟨_, rfl, h⟩
set_option maxRecDepth 100000 in
set_option maxHeartbeats 4000000 in
theorem T_X6_isNumber {E : jEnv} {d : Nat} {Q : Int32 → jM → Prop} {a0 : Nat} {x1 : Int32} {S : jM} (h : jk S a0 = 6 ∧ jFi E mX6_hasPlace d 0 0 [.ref a0, .int x1] S (fun r3 S2 => (r3 = 0 → Q 0 S2) ∧ (¬ r3 = 0 → jk S2 a0 = 6 ∧ ∃ b6, jr S2 a0 2 = some b6 ∧ (jk S2 b6 = 12 ∧ vp_in x1 (jl S2 b6) ∧ (((ji S2 b6 (Int32.toNatClampNeg x1)) = (-1000000005) → Q 0 S2) ∧ (¬ (ji S2 b6 (Int32.toNatClampNeg x1)) = (-1000000005) → Q 1 S2)))))) : jFi E mX6_isNumber (d + 1) 0 0 [.ref a0, .int x1] S Q := by
  refine jF_of (by decide) (jle rfl) ?_
  refine jx_lv (lv1 := [(0, .ref a0), (1, .int x1)]) [0, 1] rfl ?_
  refine jx_aload_n 0 dX6_isNumber_0 rfl rfl ?_
  refine jx_iload_n 1 dX6_isNumber_1 rfl rfl ?_
  obtain ⟨hk1, h⟩ := h
  refine jx_callVi (M' := mX6_hasPlace) (As := [.int x1]) jo_X6_hasPlace jc_6 rfl jwM_X6_32 jwN_X6_hasPlace jwX_X6_hasPlace dX6_isNumber_2 (jRok_m _ _ _) rfl (jle rfl) ⟨jle rfl, jle rfl⟩ hk1 h (fun r3 S2 h => ?_)
  refine jx_if_eq (tgt := 23) dX6_isNumber_5 (by decide) (fun c4 => ?_) (fun c4 => ?_)
  · replace h := h.1 c4
    refine jx_iconst (v := 0) dX6_isNumber_23 (by decide) ?_
    exact jx_iret dX6_isNumber_24 rfl (by decide) (jle rfl) (jle rfl) ⟨_, rfl, h⟩
  replace h := h.2 c4
  refine jx_aload_n 0 dX6_isNumber_8 rfl rfl ?_
  obtain ⟨hk5, h⟩ := h
  obtain ⟨b6, hb6, h⟩ := h
  refine jx_getr jc_6 (j := 2) (by decide) rfl jwF_X6_15 dX6_isNumber_9 hk5 hb6 ?_
  refine jx_iload_n 1 dX6_isNumber_12 rfl rfl ?_
  obtain ⟨hk7, h⟩ := h
  obtain ⟨hi8, h⟩ := h
  refine jx_iald dX6_isNumber_13 hk7 hi8 ?_
  refine jx_ldc jwC_X6_36 dX6_isNumber_14 ?_
  refine jx_icmp_eq (tgt := 23) dX6_isNumber_16 (by decide) (fun c9 => ?_) (fun c9 => ?_)
  · replace h := h.1 c9
    refine jx_iconst (v := 0) dX6_isNumber_23 (by decide) ?_
    exact jx_iret dX6_isNumber_24 rfl (by decide) (jle rfl) (jle rfl) ⟨_, rfl, h⟩
  replace h := h.2 c9
  refine jx_iconst (v := 1) dX6_isNumber_19 (by decide) ?_
  refine jx_goto (tgt := 24) dX6_isNumber_20 (by decide) ?_
  exact jx_iret dX6_isNumber_24 rfl (by decide) (jle rfl) (jle rfl) ⟨_, rfl, h⟩
set_option maxRecDepth 100000 in
set_option maxHeartbeats 4000000 in
theorem T_X7_init {E : jEnv} {d : Nat} {Q : jM → Prop} {a0 : Nat} {S : jM} (h : jk S a0 = 7 ∧ ∀ q2, q2 = jn (jput S a0 0 0) → jFv E mX2_init d 0 0 [.ref q2] (jnew (jput S a0 0 0) 2 0) (fun S3 => jk S3 a0 = 7 ∧ ∀ q6, q6 = jn (jputr S3 a0 1 (some q2)) → jFv E mX6_init d 1 24 [.ref q6] (jnew (jputr S3 a0 1 (some q2)) 6 0) (fun S7 => jk S7 a0 = 7 ∧ Q (jputr S7 a0 2 (some q6))))) : jFv E mX7_init (d + 1) 3 34 [.ref a0] S Q := by
  refine jF_of (by decide) (jle rfl) ?_
  refine jx_lv (lv1 := [(0, .ref a0)]) [0] rfl ?_
  refine jx_aload_n 0 dX7_init_0 rfl rfl ?_
  refine jx_objInit jwM_X7_3 jwN_obj jwO_obj dX7_init_1 (jRok_m _ _ _) (jle rfl) ?_
  refine jx_aload_n 0 dX7_init_4 rfl rfl ?_
  refine jx_iconst (v := 0) dX7_init_5 (by decide) ?_
  obtain ⟨hk1, h⟩ := h
  refine jx_puti jc_7 (j := 0) (by decide) rfl jwF_X7_9 rfl rfl rfl dX7_init_6 hk1 ?_
  refine jx_aload_n 0 dX7_init_9 rfl rfl ?_
  refine jx_new jc_2 jwK_X7_15 jwI_X2 jwZ_X2 jdv_2 dX7_init_10 ⟨jle rfl, jle rfl⟩ ?_
  obtain ⟨q2, hq2⟩ : ∃ q, q = jn (jput S a0 0 0) := ⟨_, rfl⟩
  rw [← hq2]
  replace h := h q2 hq2
  refine jx_dup dX7_init_13 rfl ?_
  refine jx_callINv (M' := mX2_init) (As := []) (b := q2) (host := "NineMasters") jo_X2_init rfl (by decide) jwN_X2_init rfl dX7_init_14 (jRok_m _ _ _) rfl (jle rfl) ⟨jle rfl, jle rfl⟩ h (fun S3 h => ?_)
  obtain ⟨hk4, h⟩ := h
  refine jx_putrF jc_7 (j := 1) (by decide) rfl jwF_X7_18 rfl rfl rfl rfl rfl dX7_init_17 hk4 ?_
  refine jx_aload_n 0 dX7_init_20 rfl rfl ?_
  refine jx_new jc_6 jwK_X7_22 jwI_X6 jwZ_X6 jdv_6 dX7_init_21 ⟨jle rfl, jle rfl⟩ ?_
  obtain ⟨q6, hq6⟩ : ∃ q, q = jn (jputr S3 a0 1 (some q2)) := ⟨_, rfl⟩
  rw [← hq6]
  replace h := h q6 hq6
  refine jx_dup dX7_init_24 rfl ?_
  refine jx_callINv (M' := mX6_init) (As := []) (b := q6) (host := "NineMasters") jo_X6_init rfl (by decide) jwN_X6_init rfl dX7_init_25 (jRok_m _ _ _) rfl (jle rfl) ⟨jle rfl, jle rfl⟩ h (fun S7 h => ?_)
  obtain ⟨hk8, h⟩ := h
  refine jx_putrF jc_7 (j := 2) (by decide) rfl jwF_X7_25 rfl rfl rfl rfl rfl dX7_init_28 hk8 ?_
  exact jx_vret dX7_init_31 rfl (jle rfl) (jle rfl) ⟨rfl, h⟩
set_option maxRecDepth 100000 in
set_option maxHeartbeats 4000000 in
theorem T_X4_init {E : jEnv} {d : Nat} {Q : jM → Prop} {a0 : Nat} {S : jM} (h : ∀ q1, q1 = jn S → jk (jnew S 12 36) a0 = 4 ∧ ∀ q4, q4 = jn (jputr (jnew S 12 36) a0 0 (some q1)) → jk (jnew (jputr (jnew S 12 36) a0 0 (some q1)) 12 36) a0 = 4 ∧ jFv E mX4_measure d 0 0 [.ref a0] (jputr (jnew (jputr (jnew S 12 36) a0 0 (some q1)) 12 36) a0 1 (some q4)) (fun S7 => Q S7)) : jFv E mX4_init (d + 1) 2 72 [.ref a0] S Q := by
  refine jF_of (by decide) (jle rfl) ?_
  refine jx_lv (lv1 := [(0, .ref a0)]) [0] rfl ?_
  refine jx_aload_n 0 dX4_init_0 rfl rfl ?_
  refine jx_objInit jwM_X4_3 jwN_obj jwO_obj dX4_init_1 (jRok_m _ _ _) (jle rfl) ?_
  refine jx_aload_n 0 dX4_init_4 rfl rfl ?_
  refine jx_bipush (v := 36) dX4_init_5 (by decide) ?_
  refine jx_newa (N := 36) jwA dX4_init_7 (by decide) (by decide) (by decide) ⟨jle rfl, jle rfl⟩ ?_
  obtain ⟨q1, hq1⟩ : ∃ q, q = jn S := ⟨_, rfl⟩
  rw [← hq1]
  replace h := h q1 hq1
  obtain ⟨hk2, h⟩ := h
  refine jx_putrF jc_4 (j := 0) (by decide) rfl jwF_X4_9 rfl rfl rfl rfl rfl dX4_init_9 hk2 ?_
  refine jx_aload_n 0 dX4_init_12 rfl rfl ?_
  refine jx_bipush (v := 36) dX4_init_13 (by decide) ?_
  refine jx_newa (N := 36) jwA dX4_init_15 (by decide) (by decide) (by decide) ⟨jle rfl, jle rfl⟩ ?_
  obtain ⟨q4, hq4⟩ : ∃ q, q = jn (jputr (jnew S 12 36) a0 0 (some q1)) := ⟨_, rfl⟩
  rw [← hq4]
  replace h := h q4 hq4
  obtain ⟨hk5, h⟩ := h
  refine jx_putrF jc_4 (j := 1) (by decide) rfl jwF_X4_15 rfl rfl rfl rfl rfl dX4_init_17 hk5 ?_
  refine jx_aload_n 0 dX4_init_20 rfl rfl ?_
  refine jx_callVv (M' := mX4_measure) (As := []) jo_X4_measure jc_4 rfl jwM_X4_18 jwN_X4_measure jwX_X4_measure dX4_init_21 (jRok_m _ _ _) rfl (jle rfl) ⟨jle rfl, jle rfl⟩ hk5 h (fun S7 h => ?_)
  exact jx_vret dX4_init_24 rfl (jle rfl) (jle rfl) ⟨rfl, h⟩
set_option maxRecDepth 100000 in
set_option maxHeartbeats 4000000 in
theorem T_X4_become {E : jEnv} {d : Nat} {Q : jM → Prop} {a0 : Nat} {a1 : Nat} {S : jM} (h : jk S a1 = 4 ∧ ∃ b2, jr S a1 0 = some b2 ∧ (jk S a0 = 4 ∧ ∃ b4, jr S a0 0 = some b4 ∧ (jk S b2 = 12 ∧ jk S b4 = 12 ∧ (¬ (0 : Int32) < 0 ∧ ¬ (0 : Int32) < 0 ∧ ¬ (36 : Int32) < 0 ∧ (Int32.toNatClampNeg 0) + (Int32.toNatClampNeg 36) ≤ jl S b2 ∧ (Int32.toNatClampNeg 0) + (Int32.toNatClampNeg 36) ≤ jl S b4) ∧ (∃ b12, jr S a1 1 = some b12 ∧ (∃ b13, jr S a0 1 = some b13 ∧ (jk S b12 = 12 ∧ jk S b13 = 12 ∧ (¬ (0 : Int32) < 0 ∧ ¬ (0 : Int32) < 0 ∧ ¬ (36 : Int32) < 0 ∧ (Int32.toNatClampNeg 0) + (Int32.toNatClampNeg 36) ≤ jl S b12 ∧ (Int32.toNatClampNeg 0) + (Int32.toNatClampNeg 36) ≤ jl S b13) ∧ (Q (jrow (jrow S b4 (va_cpy (ji S b2) (ji S b4) (Int32.toNatClampNeg 0) (Int32.toNatClampNeg 0) (Int32.toNatClampNeg 36))) b13 (va_cpy (ji (jrow S b4 (va_cpy (ji S b2) (ji S b4) (Int32.toNatClampNeg 0) (Int32.toNatClampNeg 0) (Int32.toNatClampNeg 36))) b12) (ji (jrow S b4 (va_cpy (ji S b2) (ji S b4) (Int32.toNatClampNeg 0) (Int32.toNatClampNeg 0) (Int32.toNatClampNeg 36))) b13) (Int32.toNatClampNeg 0) (Int32.toNatClampNeg 0) (Int32.toNatClampNeg 36)))))))))) : jFv E mX4_become (d + 1) 0 0 [.ref a0, .ref a1] S Q := by
  refine jF_of (by decide) (jle rfl) ?_
  refine jx_lv (lv1 := [(0, .ref a0), (1, .ref a1)]) [0, 1] rfl ?_
  refine jx_aload_n 1 dX4_become_0 rfl rfl ?_
  obtain ⟨hk1, h⟩ := h
  obtain ⟨b2, hb2, h⟩ := h
  refine jx_getr jc_4 (j := 0) (by decide) rfl jwF_X4_9 dX4_become_1 hk1 hb2 ?_
  refine jx_iconst (v := 0) dX4_become_4 (by decide) ?_
  refine jx_aload_n 0 dX4_become_5 rfl rfl ?_
  obtain ⟨hk3, h⟩ := h
  obtain ⟨b4, hb4, h⟩ := h
  refine jx_getr jc_4 (j := 0) (by decide) rfl jwF_X4_9 dX4_become_6 hk3 hb4 ?_
  refine jx_iconst (v := 0) dX4_become_9 (by decide) ?_
  refine jx_bipush (v := 36) dX4_become_10 (by decide) ?_
  obtain ⟨hk5, h⟩ := h
  obtain ⟨hk6, h⟩ := h
  obtain ⟨⟨hc7, hc8, hc9, hc10, hc11⟩, h⟩ := h
  refine jx_copy jwM_X4_21 jwV_copy jwS_copy jwZ_J10 dX4_become_12 (jRok_m _ _ _) (jle rfl) hk5 hk6 hc7 hc8 hc9 hc10 hc11 ?_
  refine jx_aload_n 1 dX4_become_15 rfl rfl ?_
  obtain ⟨b12, hb12, h⟩ := h
  refine jx_getr jc_4 (j := 1) (by decide) rfl jwF_X4_15 dX4_become_16 hk1 hb12 ?_
  refine jx_iconst (v := 0) dX4_become_19 (by decide) ?_
  refine jx_aload_n 0 dX4_become_20 rfl rfl ?_
  obtain ⟨b13, hb13, h⟩ := h
  refine jx_getr jc_4 (j := 1) (by decide) rfl jwF_X4_15 dX4_become_21 hk3 hb13 ?_
  refine jx_iconst (v := 0) dX4_become_24 (by decide) ?_
  refine jx_bipush (v := 36) dX4_become_25 (by decide) ?_
  obtain ⟨hk14, h⟩ := h
  obtain ⟨hk15, h⟩ := h
  obtain ⟨⟨hc16, hc17, hc18, hc19, hc20⟩, h⟩ := h
  refine jx_copy jwM_X4_21 jwV_copy jwS_copy jwZ_J10 dX4_become_27 (jRok_m _ _ _) (jle rfl) hk14 hk15 hc16 hc17 hc18 hc19 hc20 ?_
  exact jx_vret dX4_become_30 rfl (jle rfl) (jle rfl) ⟨rfl, h⟩
set_option maxRecDepth 100000 in
set_option maxHeartbeats 4000000 in
theorem T_X4_direct {E : jEnv} {d : Nat} {Q : Int32 → jM → Prop} {a0 : Nat} {x1 : Int32} {x2 : Int32} {S : jM} (h : ((jwi x1 6) = 0 → Q 0 S) ∧ (¬ (jwi x1 6) = 0 → ((jwi x2 6) = 0 → Q 0 S) ∧ (¬ (jwi x2 6) = 0 → jk S a0 = 4 ∧ ∃ b10, jr S a0 0 = some b10 ∧ (jk S b10 = 12 ∧ vp_in ((x1 * 6) + x2) (jl S b10) ∧ (Q (ji S b10 (Int32.toNatClampNeg ((x1 * 6) + x2))) S))))) : jFi E mX4_direct (d + 1) 0 0 [.ref a0, .int x1, .int x2] S Q := by
  refine jF_of (by decide) (jle rfl) ?_
  refine jx_lv (lv1 := [(0, .ref a0), (1, .int x1), (2, .int x2)]) [0, 1, 2] rfl ?_
  refine jx_iload_n 1 dX4_direct_0 rfl rfl ?_
  refine jx_bipush (v := 6) dX4_direct_1 (by decide) ?_
  refine jx_callSNi (M' := mX10_within) (As := [.int x1, .int 6]) (host := "NineMasters") jo_X10_within (by decide) jwS_X10_within dX4_direct_3 (jRok_m _ _ _) rfl (jle rfl) ⟨jle rfl, jle rfl⟩ (c_X10_within (Q := fun v S' => v = (jwi x1 6) ∧ S = S') ⟨rfl, rfl⟩) (fun r1 S2 hq3 => ?_)
  obtain ⟨rfl, rfl⟩ := hq3
  refine jx_if_eq (tgt := 32) dX4_direct_6 (by decide) (fun c4 => ?_) (fun c4 => ?_)
  · replace h := h.1 c4
    refine jx_iconst (v := 0) dX4_direct_32 (by decide) ?_
    exact jx_iret dX4_direct_33 rfl rfl (jle rfl) (jle rfl) ⟨_, rfl, h⟩
  replace h := h.2 c4
  refine jx_iload_n 2 dX4_direct_9 rfl rfl ?_
  refine jx_bipush (v := 6) dX4_direct_10 (by decide) ?_
  refine jx_callSNi (M' := mX10_within) (As := [.int x2, .int 6]) (host := "NineMasters") jo_X10_within (by decide) jwS_X10_within dX4_direct_12 (jRok_m _ _ _) rfl (jle rfl) ⟨jle rfl, jle rfl⟩ (c_X10_within (Q := fun v S' => v = (jwi x2 6) ∧ S = S') ⟨rfl, rfl⟩) (fun r5 S6 hq7 => ?_)
  obtain ⟨rfl, rfl⟩ := hq7
  refine jx_if_eq (tgt := 32) dX4_direct_15 (by decide) (fun c8 => ?_) (fun c8 => ?_)
  · replace h := h.1 c8
    refine jx_iconst (v := 0) dX4_direct_32 (by decide) ?_
    exact jx_iret dX4_direct_33 rfl rfl (jle rfl) (jle rfl) ⟨_, rfl, h⟩
  replace h := h.2 c8
  refine jx_aload_n 0 dX4_direct_18 rfl rfl ?_
  obtain ⟨hk9, h⟩ := h
  obtain ⟨b10, hb10, h⟩ := h
  refine jx_getr jc_4 (j := 0) (by decide) rfl jwF_X4_9 dX4_direct_19 hk9 hb10 ?_
  refine jx_iload_n 1 dX4_direct_22 rfl rfl ?_
  refine jx_bipush (v := 6) dX4_direct_23 (by decide) ?_
  refine jx_imul dX4_direct_25 ?_
  refine jx_iload_n 2 dX4_direct_26 rfl rfl ?_
  refine jx_iadd dX4_direct_27 ?_
  obtain ⟨hk11, h⟩ := h
  obtain ⟨hi12, h⟩ := h
  refine jx_iald dX4_direct_28 hk11 hi12 ?_
  refine jx_goto (tgt := 33) dX4_direct_29 (by decide) ?_
  exact jx_iret dX4_direct_33 rfl rfl (jle rfl) (jle rfl) ⟨_, rfl, h⟩
set_option maxRecDepth 100000 in
set_option maxHeartbeats 4000000 in
theorem T_X4_fewest {E : jEnv} {d : Nat} {Q : Int32 → jM → Prop} {a0 : Nat} {x1 : Int32} {x2 : Int32} {S : jM} (h : ((jwi x1 6) = 0 → Q 9999 S) ∧ (¬ (jwi x1 6) = 0 → ((jwi x2 6) = 0 → Q 9999 S) ∧ (¬ (jwi x2 6) = 0 → jk S a0 = 4 ∧ ∃ b10, jr S a0 1 = some b10 ∧ (jk S b10 = 12 ∧ vp_in ((x1 * 6) + x2) (jl S b10) ∧ (Q (ji S b10 (Int32.toNatClampNeg ((x1 * 6) + x2))) S))))) : jFi E mX4_fewest (d + 1) 0 0 [.ref a0, .int x1, .int x2] S Q := by
  refine jF_of (by decide) (jle rfl) ?_
  refine jx_lv (lv1 := [(0, .ref a0), (1, .int x1), (2, .int x2)]) [0, 1, 2] rfl ?_
  refine jx_iload_n 1 dX4_fewest_0 rfl rfl ?_
  refine jx_bipush (v := 6) dX4_fewest_1 (by decide) ?_
  refine jx_callSNi (M' := mX10_within) (As := [.int x1, .int 6]) (host := "NineMasters") jo_X10_within (by decide) jwS_X10_within dX4_fewest_3 (jRok_m _ _ _) rfl (jle rfl) ⟨jle rfl, jle rfl⟩ (c_X10_within (Q := fun v S' => v = (jwi x1 6) ∧ S = S') ⟨rfl, rfl⟩) (fun r1 S2 hq3 => ?_)
  obtain ⟨rfl, rfl⟩ := hq3
  refine jx_if_eq (tgt := 32) dX4_fewest_6 (by decide) (fun c4 => ?_) (fun c4 => ?_)
  · replace h := h.1 c4
    refine jx_sipush (v := 9999) dX4_fewest_32 (by decide) ?_
    exact jx_iret dX4_fewest_35 rfl rfl (jle rfl) (jle rfl) ⟨_, rfl, h⟩
  replace h := h.2 c4
  refine jx_iload_n 2 dX4_fewest_9 rfl rfl ?_
  refine jx_bipush (v := 6) dX4_fewest_10 (by decide) ?_
  refine jx_callSNi (M' := mX10_within) (As := [.int x2, .int 6]) (host := "NineMasters") jo_X10_within (by decide) jwS_X10_within dX4_fewest_12 (jRok_m _ _ _) rfl (jle rfl) ⟨jle rfl, jle rfl⟩ (c_X10_within (Q := fun v S' => v = (jwi x2 6) ∧ S = S') ⟨rfl, rfl⟩) (fun r5 S6 hq7 => ?_)
  obtain ⟨rfl, rfl⟩ := hq7
  refine jx_if_eq (tgt := 32) dX4_fewest_15 (by decide) (fun c8 => ?_) (fun c8 => ?_)
  · replace h := h.1 c8
    refine jx_sipush (v := 9999) dX4_fewest_32 (by decide) ?_
    exact jx_iret dX4_fewest_35 rfl rfl (jle rfl) (jle rfl) ⟨_, rfl, h⟩
  replace h := h.2 c8
  refine jx_aload_n 0 dX4_fewest_18 rfl rfl ?_
  obtain ⟨hk9, h⟩ := h
  obtain ⟨b10, hb10, h⟩ := h
  refine jx_getr jc_4 (j := 1) (by decide) rfl jwF_X4_15 dX4_fewest_19 hk9 hb10 ?_
  refine jx_iload_n 1 dX4_fewest_22 rfl rfl ?_
  refine jx_bipush (v := 6) dX4_fewest_23 (by decide) ?_
  refine jx_imul dX4_fewest_25 ?_
  refine jx_iload_n 2 dX4_fewest_26 rfl rfl ?_
  refine jx_iadd dX4_fewest_27 ?_
  obtain ⟨hk11, h⟩ := h
  obtain ⟨hi12, h⟩ := h
  refine jx_iald dX4_fewest_28 hk11 hi12 ?_
  refine jx_goto (tgt := 35) dX4_fewest_29 (by decide) ?_
  exact jx_iret dX4_fewest_35 rfl rfl (jle rfl) (jle rfl) ⟨_, rfl, h⟩
set_option maxRecDepth 100000 in
set_option maxHeartbeats 4000000 in
theorem T_X4_build {E : jEnv} {d : Nat} {Q : jM → Prop} {a0 : Nat} {x1 : Int32} {x2 : Int32} {x3 : Int32} {S : jM} (h : ((jwi x1 6) = 0 → Q S) ∧ (¬ (jwi x1 6) = 0 → ((jwi x2 6) = 0 → Q S) ∧ (¬ (jwi x2 6) = 0 → jk S a0 = 4 ∧ ∃ b10, jr S a0 0 = some b10 ∧ (jk S b10 = 12 ∧ vp_in ((x1 * 6) + x2) (jl S b10) ∧ (vp_in ((x2 * 6) + x1) (jl S b10) ∧ (jFv E mX4_measure d 0 0 [.ref a0] (jput (jput S b10 (Int32.toNatClampNeg ((x1 * 6) + x2)) x3) b10 (Int32.toNatClampNeg ((x2 * 6) + x1)) x3) (fun S14 => Q S14))))))) : jFv E mX4_build (d + 1) 0 0 [.ref a0, .int x1, .int x2, .int x3] S Q := by
  refine jF_of (by decide) (jle rfl) ?_
  refine jx_lv (lv1 := [(0, .ref a0), (1, .int x1), (2, .int x2), (3, .int x3)]) [0, 1, 2, 3] rfl ?_
  refine jx_iload_n 1 dX4_build_0 rfl rfl ?_
  refine jx_bipush (v := 6) dX4_build_1 (by decide) ?_
  refine jx_callSNi (M' := mX10_within) (As := [.int x1, .int 6]) (host := "NineMasters") jo_X10_within (by decide) jwS_X10_within dX4_build_3 (jRok_m _ _ _) rfl (jle rfl) ⟨jle rfl, jle rfl⟩ (c_X10_within (Q := fun v S' => v = (jwi x1 6) ∧ S = S') ⟨rfl, rfl⟩) (fun r1 S2 hq3 => ?_)
  obtain ⟨rfl, rfl⟩ := hq3
  refine jx_if_eq (tgt := 46) dX4_build_6 (by decide) (fun c4 => ?_) (fun c4 => ?_)
  · replace h := h.1 c4
    exact jx_vret dX4_build_46 rfl (jle rfl) (jle rfl) ⟨rfl, h⟩
  replace h := h.2 c4
  refine jx_iload_n 2 dX4_build_9 rfl rfl ?_
  refine jx_bipush (v := 6) dX4_build_10 (by decide) ?_
  refine jx_callSNi (M' := mX10_within) (As := [.int x2, .int 6]) (host := "NineMasters") jo_X10_within (by decide) jwS_X10_within dX4_build_12 (jRok_m _ _ _) rfl (jle rfl) ⟨jle rfl, jle rfl⟩ (c_X10_within (Q := fun v S' => v = (jwi x2 6) ∧ S = S') ⟨rfl, rfl⟩) (fun r5 S6 hq7 => ?_)
  obtain ⟨rfl, rfl⟩ := hq7
  refine jx_if_eq (tgt := 46) dX4_build_15 (by decide) (fun c8 => ?_) (fun c8 => ?_)
  · replace h := h.1 c8
    exact jx_vret dX4_build_46 rfl (jle rfl) (jle rfl) ⟨rfl, h⟩
  replace h := h.2 c8
  refine jx_aload_n 0 dX4_build_18 rfl rfl ?_
  obtain ⟨hk9, h⟩ := h
  obtain ⟨b10, hb10, h⟩ := h
  refine jx_getr jc_4 (j := 0) (by decide) rfl jwF_X4_9 dX4_build_19 hk9 hb10 ?_
  refine jx_iload_n 1 dX4_build_22 rfl rfl ?_
  refine jx_bipush (v := 6) dX4_build_23 (by decide) ?_
  refine jx_imul dX4_build_25 ?_
  refine jx_iload_n 2 dX4_build_26 rfl rfl ?_
  refine jx_iadd dX4_build_27 ?_
  refine jx_iload_n 3 dX4_build_28 rfl rfl ?_
  obtain ⟨hk11, h⟩ := h
  obtain ⟨hi12, h⟩ := h
  refine jx_iast dX4_build_29 hk11 hi12 ?_
  refine jx_aload_n 0 dX4_build_30 rfl rfl ?_
  refine jx_getr jc_4 (j := 0) (by decide) rfl jwF_X4_9 dX4_build_31 hk9 hb10 ?_
  refine jx_iload_n 2 dX4_build_34 rfl rfl ?_
  refine jx_bipush (v := 6) dX4_build_35 (by decide) ?_
  refine jx_imul dX4_build_37 ?_
  refine jx_iload_n 1 dX4_build_38 rfl rfl ?_
  refine jx_iadd dX4_build_39 ?_
  refine jx_iload_n 3 dX4_build_40 rfl rfl ?_
  obtain ⟨hi13, h⟩ := h
  refine jx_iast dX4_build_41 hk11 hi13 ?_
  refine jx_aload_n 0 dX4_build_42 rfl rfl ?_
  refine jx_callVv (M' := mX4_measure) (As := []) jo_X4_measure jc_4 rfl jwM_X4_18 jwN_X4_measure jwX_X4_measure dX4_build_43 (jRok_m _ _ _) rfl (jle rfl) ⟨jle rfl, jle rfl⟩ hk9 h (fun S14 h => ?_)
  exact jx_vret dX4_build_46 rfl (jle rfl) (jle rfl) ⟨rfl, h⟩
/-- X4_measure at its loop's head 2 -/
abbrev L_X4_measure_2 (E : jEnv) (d : Nat) (Q : jM → Prop) (a0 : Nat) (x1 : Int32) (S : jM) : Prop := jX E mX4_measure (jRm (d + 1) 0 0) (jZm E (fun r S' => r = none ∧ Q S') 0 0) 2 [(0, .ref a0), (1, .int x1)] [] S 0 0
/-- X4_measure at its loop's head 73 -/
abbrev L_X4_measure_73 (E : jEnv) (d : Nat) (Q : jM → Prop) (a0 : Nat) (x1 : Int32) (S : jM) : Prop := jX E mX4_measure (jRm (d + 1) 0 0) (jZm E (fun r S' => r = none ∧ Q S') 0 0) 73 [(0, .ref a0), (1, .int x1)] [] S 0 0
/-- X4_measure at its loop's head 10 -/
abbrev L_X4_measure_10 (E : jEnv) (d : Nat) (Q : jM → Prop) (a0 : Nat) (x1 : Int32) (x2 : Int32) (S : jM) : Prop := jX E mX4_measure (jRm (d + 1) 0 0) (jZm E (fun r S' => r = none ∧ Q S') 0 0) 10 [(0, .ref a0), (1, .int x1), (2, .int x2)] [] S 0 0
/-- X4_measure at its loop's head 81 -/
abbrev L_X4_measure_81 (E : jEnv) (d : Nat) (Q : jM → Prop) (a0 : Nat) (x1 : Int32) (x2 : Int32) (S : jM) : Prop := jX E mX4_measure (jRm (d + 1) 0 0) (jZm E (fun r S' => r = none ∧ Q S') 0 0) 81 [(0, .ref a0), (1, .int x1), (2, .int x2)] [] S 0 0
/-- X4_measure at its loop's head 89 -/
abbrev L_X4_measure_89 (E : jEnv) (d : Nat) (Q : jM → Prop) (a0 : Nat) (x1 : Int32) (x2 : Int32) (x3 : Int32) (S : jM) : Prop := jX E mX4_measure (jRm (d + 1) 0 0) (jZm E (fun r S' => r = none ∧ Q S') 0 0) 89 [(0, .ref a0), (1, .int x1), (2, .int x2), (3, .int x3)] [] S 0 0
set_option maxRecDepth 100000 in
set_option maxHeartbeats 4000000 in
theorem T_X4_measure {E : jEnv} {d : Nat} {Q : jM → Prop} {a0 : Nat} {S : jM} (h : L_X4_measure_2 E d Q a0 0 S) : jFv E mX4_measure (d + 1) 0 0 [.ref a0] S Q := by
  refine jF_of (by decide) (jle rfl) ?_
  refine jx_lv (lv1 := [(0, .ref a0)]) [0] rfl ?_
  refine jx_iconst (v := 0) dX4_measure_0 (by decide) ?_
  refine jx_istore_n (lv1 := [(1, .int 0), (0, .ref a0)]) dX4_measure_1 rfl (by decide) rfl ?_
  exact jx_lv [1, 0] rfl h
set_option maxRecDepth 100000 in
set_option maxHeartbeats 4000000 in
theorem T_X4_measure_2 {E : jEnv} {d : Nat} {Q : jM → Prop} {a0 : Nat} {x1 : Int32} {S : jM} (h : (6 ≤ x1 → L_X4_measure_73 E d Q a0 0 S) ∧ (¬ 6 ≤ x1 → L_X4_measure_10 E d Q a0 x1 0 S)) : L_X4_measure_2 E d Q a0 x1 S := by
  show jX E mX4_measure (jRm (d + 1) 0 0) (jZm E (fun r S' => r = none ∧ Q S') 0 0) 2 [(0, .ref a0), (1, .int x1)] [] S 0 0
  refine jx_iload_n 1 dX4_measure_2 rfl rfl ?_
  refine jx_bipush (v := 6) dX4_measure_3 (by decide) ?_
  refine jx_icmp_ge (tgt := 71) dX4_measure_5 (by decide) (fun c1 => ?_) (fun c1 => ?_)
  · replace h := h.1 c1
    refine jx_iconst (v := 0) dX4_measure_71 (by decide) ?_
    refine jx_istore_n (lv1 := [(1, .int 0), (0, .ref a0)]) dX4_measure_72 rfl (by decide) rfl ?_
    exact jx_lv [1, 0] rfl h
  replace h := h.2 c1
  refine jx_iconst (v := 0) dX4_measure_8 (by decide) ?_
  refine jx_istore_n (lv1 := [(2, .int 0), (0, .ref a0), (1, .int x1)]) dX4_measure_9 rfl (by decide) rfl ?_
  exact jx_lv [1, 2, 0] rfl h
set_option maxRecDepth 100000 in
set_option maxHeartbeats 4000000 in
theorem T_X4_measure_73 {E : jEnv} {d : Nat} {Q : jM → Prop} {a0 : Nat} {x1 : Int32} {S : jM} (h : (6 ≤ x1 → Q S) ∧ (¬ 6 ≤ x1 → L_X4_measure_81 E d Q a0 x1 0 S)) : L_X4_measure_73 E d Q a0 x1 S := by
  show jX E mX4_measure (jRm (d + 1) 0 0) (jZm E (fun r S' => r = none ∧ Q S') 0 0) 73 [(0, .ref a0), (1, .int x1)] [] S 0 0
  refine jx_iload_n 1 dX4_measure_73 rfl rfl ?_
  refine jx_bipush (v := 6) dX4_measure_74 (by decide) ?_
  refine jx_icmp_ge (tgt := 165) dX4_measure_76 (by decide) (fun c2 => ?_) (fun c2 => ?_)
  · replace h := h.1 c2
    exact jx_vret dX4_measure_165 rfl (jle rfl) (jle rfl) ⟨rfl, h⟩
  replace h := h.2 c2
  refine jx_iconst (v := 0) dX4_measure_79 (by decide) ?_
  refine jx_istore_n (lv1 := [(2, .int 0), (0, .ref a0), (1, .int x1)]) dX4_measure_80 rfl (by decide) rfl ?_
  exact jx_lv [1, 2, 0] rfl h
set_option maxRecDepth 100000 in
set_option maxHeartbeats 4000000 in
theorem T_X4_measure_10 {E : jEnv} {d : Nat} {Q : jM → Prop} {a0 : Nat} {x1 : Int32} {x2 : Int32} {S : jM} (h : (6 ≤ x2 → L_X4_measure_2 E d Q a0 (x1 + 1) S) ∧ (¬ 6 ≤ x2 → jk S a0 = 4 ∧ ∃ b5, jr S a0 0 = some b5 ∧ (jk S b5 = 12 ∧ vp_in ((x1 * 6) + x2) (jl S b5) ∧ (∃ b8, jr S a0 1 = some b8 ∧ ((x1 = x2 → jk S b8 = 12 ∧ vp_in ((x1 * 6) + x2) (jl S b8) ∧ (L_X4_measure_10 E d Q a0 x1 (x2 + 1) (jput S b8 (Int32.toNatClampNeg ((x1 * 6) + x2)) 0))) ∧ (¬ x1 = x2 → ((ji S b5 (Int32.toNatClampNeg ((x1 * 6) + x2))) = 0 → jk S b8 = 12 ∧ vp_in ((x1 * 6) + x2) (jl S b8) ∧ (L_X4_measure_10 E d Q a0 x1 (x2 + 1) (jput S b8 (Int32.toNatClampNeg ((x1 * 6) + x2)) 9999))) ∧ (¬ (ji S b5 (Int32.toNatClampNeg ((x1 * 6) + x2))) = 0 → jk S b8 = 12 ∧ vp_in ((x1 * 6) + x2) (jl S b8) ∧ (L_X4_measure_10 E d Q a0 x1 (x2 + 1) (jput S b8 (Int32.toNatClampNeg ((x1 * 6) + x2)) (ji S b5 (Int32.toNatClampNeg ((x1 * 6) + x2)))))))))))) : L_X4_measure_10 E d Q a0 x1 x2 S := by
  show jX E mX4_measure (jRm (d + 1) 0 0) (jZm E (fun r S' => r = none ∧ Q S') 0 0) 10 [(0, .ref a0), (1, .int x1), (2, .int x2)] [] S 0 0
  refine jx_iload_n 2 dX4_measure_10 rfl rfl ?_
  refine jx_bipush (v := 6) dX4_measure_11 (by decide) ?_
  refine jx_icmp_ge (tgt := 65) dX4_measure_13 (by decide) (fun c3 => ?_) (fun c3 => ?_)
  · replace h := h.1 c3
    refine jx_iinc 1 (v := (x1 + 1)) (lv1 := [(1, .int (x1 + 1)), (0, .ref a0), (2, .int x2)]) dX4_measure_65 rfl rfl (by decide) rfl ?_
    refine jx_goto (tgt := 2) dX4_measure_68 (by decide) ?_
    exact jx_lv [1, 0] rfl h
  replace h := h.2 c3
  refine jx_aload_n 0 dX4_measure_16 rfl rfl ?_
  obtain ⟨hk4, h⟩ := h
  obtain ⟨b5, hb5, h⟩ := h
  refine jx_getr jc_4 (j := 0) (by decide) rfl jwF_X4_9 dX4_measure_17 hk4 hb5 ?_
  refine jx_iload_n 1 dX4_measure_20 rfl rfl ?_
  refine jx_bipush (v := 6) dX4_measure_21 (by decide) ?_
  refine jx_imul dX4_measure_23 ?_
  refine jx_iload_n 2 dX4_measure_24 rfl rfl ?_
  refine jx_iadd dX4_measure_25 ?_
  obtain ⟨hk6, h⟩ := h
  obtain ⟨hi7, h⟩ := h
  refine jx_iald dX4_measure_26 hk6 hi7 ?_
  refine jx_istore_n (lv1 := [(3, .int (ji S b5 (Int32.toNatClampNeg ((x1 * 6) + x2)))), (0, .ref a0), (1, .int x1), (2, .int x2)]) dX4_measure_27 rfl (by decide) rfl ?_
  refine jx_aload_n 1 dX4_measure_28 rfl rfl ?_
  obtain ⟨b8, hb8, h⟩ := h
  refine jx_getr jc_4 (j := 1) (by decide) rfl jwF_X4_15 dX4_measure_29 hk4 hb8 ?_
  refine jx_iload_n 2 dX4_measure_32 rfl rfl ?_
  refine jx_bipush (v := 6) dX4_measure_33 (by decide) ?_
  refine jx_imul dX4_measure_35 ?_
  refine jx_iload_n 3 dX4_measure_36 rfl rfl ?_
  refine jx_iadd dX4_measure_37 ?_
  refine jx_iload_n 2 dX4_measure_38 rfl rfl ?_
  refine jx_iload_n 3 dX4_measure_39 rfl rfl ?_
  refine jx_icmp_ne (tgt := 47) dX4_measure_40 (by decide) (fun c9 => ?_) (fun c9 => ?_)
  · replace h := h.2 c9
    refine jx_iload_n 0 dX4_measure_47 rfl rfl ?_
    refine jx_if_ne (tgt := 57) dX4_measure_48 (by decide) (fun c10 => ?_) (fun c10 => ?_)
    · replace h := h.2 c10
      refine jx_iload_n 0 dX4_measure_57 rfl rfl ?_
      obtain ⟨hk11, h⟩ := h
      obtain ⟨hi12, h⟩ := h
      refine jx_iast dX4_measure_58 hk11 hi12 ?_
      refine jx_iinc 3 (v := (x2 + 1)) (lv1 := [(2, .int (x2 + 1)), (3, .int (ji S b5 (Int32.toNatClampNeg ((x1 * 6) + x2)))), (0, .ref a0), (1, .int x1)]) dX4_measure_59 rfl rfl (by decide) rfl ?_
      refine jx_goto (tgt := 10) dX4_measure_62 (by decide) ?_
      exact jx_lv [2, 3, 0] rfl h
    replace h := h.1 c10
    refine jx_sipush (v := 9999) dX4_measure_51 (by decide) ?_
    refine jx_goto (tgt := 58) dX4_measure_54 (by decide) ?_
    obtain ⟨hk13, h⟩ := h
    obtain ⟨hi14, h⟩ := h
    refine jx_iast dX4_measure_58 hk13 hi14 ?_
    refine jx_iinc 3 (v := (x2 + 1)) (lv1 := [(2, .int (x2 + 1)), (3, .int (ji S b5 (Int32.toNatClampNeg ((x1 * 6) + x2)))), (0, .ref a0), (1, .int x1)]) dX4_measure_59 rfl rfl (by decide) rfl ?_
    refine jx_goto (tgt := 10) dX4_measure_62 (by decide) ?_
    exact jx_lv [2, 3, 0] rfl h
  replace h := h.1 c9
  refine jx_iconst (v := 0) dX4_measure_43 (by decide) ?_
  refine jx_goto (tgt := 58) dX4_measure_44 (by decide) ?_
  obtain ⟨hk15, h⟩ := h
  obtain ⟨hi16, h⟩ := h
  refine jx_iast dX4_measure_58 hk15 hi16 ?_
  refine jx_iinc 3 (v := (x2 + 1)) (lv1 := [(2, .int (x2 + 1)), (3, .int (ji S b5 (Int32.toNatClampNeg ((x1 * 6) + x2)))), (0, .ref a0), (1, .int x1)]) dX4_measure_59 rfl rfl (by decide) rfl ?_
  refine jx_goto (tgt := 10) dX4_measure_62 (by decide) ?_
  exact jx_lv [2, 3, 0] rfl h
set_option maxRecDepth 100000 in
set_option maxHeartbeats 4000000 in
theorem T_X4_measure_81 {E : jEnv} {d : Nat} {Q : jM → Prop} {a0 : Nat} {x1 : Int32} {x2 : Int32} {S : jM} (h : (6 ≤ x2 → L_X4_measure_73 E d Q a0 (x1 + 1) S) ∧ (¬ 6 ≤ x2 → L_X4_measure_89 E d Q a0 x1 x2 0 S)) : L_X4_measure_81 E d Q a0 x1 x2 S := by
  show jX E mX4_measure (jRm (d + 1) 0 0) (jZm E (fun r S' => r = none ∧ Q S') 0 0) 81 [(0, .ref a0), (1, .int x1), (2, .int x2)] [] S 0 0
  refine jx_iload_n 2 dX4_measure_81 rfl rfl ?_
  refine jx_bipush (v := 6) dX4_measure_82 (by decide) ?_
  refine jx_icmp_ge (tgt := 159) dX4_measure_84 (by decide) (fun c17 => ?_) (fun c17 => ?_)
  · replace h := h.1 c17
    refine jx_iinc 1 (v := (x1 + 1)) (lv1 := [(1, .int (x1 + 1)), (0, .ref a0), (2, .int x2)]) dX4_measure_159 rfl rfl (by decide) rfl ?_
    refine jx_goto (tgt := 73) dX4_measure_162 (by decide) ?_
    exact jx_lv [1, 0] rfl h
  replace h := h.2 c17
  refine jx_iconst (v := 0) dX4_measure_87 (by decide) ?_
  refine jx_istore_n (lv1 := [(3, .int 0), (0, .ref a0), (1, .int x1), (2, .int x2)]) dX4_measure_88 rfl (by decide) rfl ?_
  exact jx_lv [1, 2, 3, 0] rfl h
set_option maxRecDepth 100000 in
set_option maxHeartbeats 4000000 in
theorem T_X4_measure_89 {E : jEnv} {d : Nat} {Q : jM → Prop} {a0 : Nat} {x1 : Int32} {x2 : Int32} {x3 : Int32} {S : jM} (h : (6 ≤ x3 → L_X4_measure_81 E d Q a0 x1 (x2 + 1) S) ∧ (¬ 6 ≤ x3 → jk S a0 = 4 ∧ ∃ b20, jr S a0 1 = some b20 ∧ (jk S b20 = 12 ∧ vp_in ((x2 * 6) + x1) (jl S b20) ∧ (vp_in ((x1 * 6) + x3) (jl S b20) ∧ (∀ y24 : Int32, y24 = ((ji S b20 (Int32.toNatClampNeg ((x2 * 6) + x1))) + (ji S b20 (Int32.toNatClampNeg ((x1 * 6) + x3)))) → vp_in ((x2 * 6) + x3) (jl S b20) ∧ ((L_X4_measure_89 E d Q a0 x1 x2 (x3 + 1) (jput S b20 (Int32.toNatClampNeg ((x2 * 6) + x3)) (jmin (ji S b20 (Int32.toNatClampNeg ((x2 * 6) + x3))) y24))))))))) : L_X4_measure_89 E d Q a0 x1 x2 x3 S := by
  show jX E mX4_measure (jRm (d + 1) 0 0) (jZm E (fun r S' => r = none ∧ Q S') 0 0) 89 [(0, .ref a0), (1, .int x1), (2, .int x2), (3, .int x3)] [] S 0 0
  refine jx_iload_n 3 dX4_measure_89 rfl rfl ?_
  refine jx_bipush (v := 6) dX4_measure_90 (by decide) ?_
  refine jx_icmp_ge (tgt := 153) dX4_measure_92 (by decide) (fun c18 => ?_) (fun c18 => ?_)
  · replace h := h.1 c18
    refine jx_iinc 2 (v := (x2 + 1)) (lv1 := [(2, .int (x2 + 1)), (0, .ref a0), (1, .int x1), (3, .int x3)]) dX4_measure_153 rfl rfl (by decide) rfl ?_
    refine jx_goto (tgt := 81) dX4_measure_156 (by decide) ?_
    exact jx_lv [1, 2, 0] rfl h
  replace h := h.2 c18
  refine jx_aload_n 0 dX4_measure_95 rfl rfl ?_
  obtain ⟨hk19, h⟩ := h
  obtain ⟨b20, hb20, h⟩ := h
  refine jx_getr jc_4 (j := 1) (by decide) rfl jwF_X4_15 dX4_measure_96 hk19 hb20 ?_
  refine jx_iload_n 2 dX4_measure_99 rfl rfl ?_
  refine jx_bipush (v := 6) dX4_measure_100 (by decide) ?_
  refine jx_imul dX4_measure_102 ?_
  refine jx_iload_n 1 dX4_measure_103 rfl rfl ?_
  refine jx_iadd dX4_measure_104 ?_
  obtain ⟨hk21, h⟩ := h
  obtain ⟨hi22, h⟩ := h
  refine jx_iald dX4_measure_105 hk21 hi22 ?_
  refine jx_aload_n 0 dX4_measure_106 rfl rfl ?_
  refine jx_getr jc_4 (j := 1) (by decide) rfl jwF_X4_15 dX4_measure_107 hk19 hb20 ?_
  refine jx_iload_n 1 dX4_measure_110 rfl rfl ?_
  refine jx_bipush (v := 6) dX4_measure_111 (by decide) ?_
  refine jx_imul dX4_measure_113 ?_
  refine jx_iload_n 3 dX4_measure_114 rfl rfl ?_
  refine jx_iadd dX4_measure_115 ?_
  obtain ⟨hi23, h⟩ := h
  refine jx_iald dX4_measure_116 hk21 hi23 ?_
  refine jx_iadd dX4_measure_117 ?_
  refine jx_nm (fun y24 ey24 => ?_)
  replace h := h y24 ey24
  refine jx_istore (lv1 := [(4, .int y24), (0, .ref a0), (1, .int x1), (2, .int x2), (3, .int x3)]) dX4_measure_118 (by decide) rfl ?_
  refine jx_aload_n 1 dX4_measure_120 rfl rfl ?_
  refine jx_getr jc_4 (j := 1) (by decide) rfl jwF_X4_15 dX4_measure_121 hk19 hb20 ?_
  refine jx_iload_n 3 dX4_measure_124 rfl rfl ?_
  refine jx_bipush (v := 6) dX4_measure_125 (by decide) ?_
  refine jx_imul dX4_measure_127 ?_
  refine jx_iload_n 4 dX4_measure_128 rfl rfl ?_
  refine jx_iadd dX4_measure_129 ?_
  refine jx_aload_n 1 dX4_measure_130 rfl rfl ?_
  refine jx_getr jc_4 (j := 1) (by decide) rfl jwF_X4_15 dX4_measure_131 hk19 hb20 ?_
  refine jx_iload_n 3 dX4_measure_134 rfl rfl ?_
  refine jx_bipush (v := 6) dX4_measure_135 (by decide) ?_
  refine jx_imul dX4_measure_137 ?_
  refine jx_iload_n 4 dX4_measure_138 rfl rfl ?_
  refine jx_iadd dX4_measure_139 ?_
  obtain ⟨hi25, h⟩ := h
  refine jx_iald dX4_measure_140 hk21 hi25 ?_
  refine jx_iload 0 dX4_measure_141 rfl ?_
  refine jx_min jwM_X4_31 jwS_min jwZ_J9 jwO_min dX4_measure_143 (jRok_m _ _ _) (jle rfl) ⟨Nat.zero_le _, Nat.zero_le _⟩ ?_
  refine jx_iast dX4_measure_146 hk21 hi25 ?_
  refine jx_iinc 4 (v := (x3 + 1)) (lv1 := [(3, .int (x3 + 1)), (4, .int y24), (0, .ref a0), (1, .int x1), (2, .int x2)]) dX4_measure_147 rfl rfl (by decide) rfl ?_
  refine jx_goto (tgt := 89) dX4_measure_150 (by decide) ?_
  exact jx_lv [2, 3, 4, 0] rfl h
set_option maxRecDepth 100000 in
set_option maxHeartbeats 4000000 in
theorem T_X1_init {E : jEnv} {d : Nat} {Q : jM → Prop} {a0 : Nat} {S : jM} (h : jk S a0 = 1 ∧ ∀ q2, q2 = jn (jput S a0 2 100) → jk (jnew (jput S a0 2 100) 12 10) a0 = 1 ∧ ∀ q5, q5 = jn (jputr (jnew (jput S a0 2 100) 12 10) a0 5 (some q2)) → jk (jnew (jputr (jnew (jput S a0 2 100) 12 10) a0 5 (some q2)) 12 10) a0 = 1 ∧ Q (jputr (jnew (jputr (jnew (jput S a0 2 100) 12 10) a0 5 (some q2)) 12 10) a0 6 (some q5))) : jFv E mX1_init (d + 1) 2 20 [.ref a0] S Q := by
  refine jF_of (by decide) (jle rfl) ?_
  refine jx_lv (lv1 := [(0, .ref a0)]) [0] rfl ?_
  refine jx_aload_n 0 dX1_init_0 rfl rfl ?_
  refine jx_objInit jwM_X1_3 jwN_obj jwO_obj dX1_init_1 (jRok_m _ _ _) (jle rfl) ?_
  refine jx_aload_n 0 dX1_init_4 rfl rfl ?_
  refine jx_bipush (v := 100) dX1_init_5 (by decide) ?_
  obtain ⟨hk1, h⟩ := h
  refine jx_puti jc_1 (j := 2) (by decide) rfl jwF_X1_9 rfl rfl rfl dX1_init_7 hk1 ?_
  refine jx_aload_n 0 dX1_init_10 rfl rfl ?_
  refine jx_bipush (v := 10) dX1_init_11 (by decide) ?_
  refine jx_newa (N := 10) jwA dX1_init_13 (by decide) (by decide) (by decide) ⟨jle rfl, jle rfl⟩ ?_
  obtain ⟨q2, hq2⟩ : ∃ q, q = jn (jput S a0 2 100) := ⟨_, rfl⟩
  rw [← hq2]
  replace h := h q2 hq2
  obtain ⟨hk3, h⟩ := h
  refine jx_putrF jc_1 (j := 5) (by decide) rfl jwF_X1_15 rfl rfl rfl rfl rfl dX1_init_15 hk3 ?_
  refine jx_aload_n 0 dX1_init_18 rfl rfl ?_
  refine jx_bipush (v := 10) dX1_init_19 (by decide) ?_
  refine jx_newa (N := 10) jwA dX1_init_21 (by decide) (by decide) (by decide) ⟨jle rfl, jle rfl⟩ ?_
  obtain ⟨q5, hq5⟩ : ∃ q, q = jn (jputr (jnew (jput S a0 2 100) 12 10) a0 5 (some q2)) := ⟨_, rfl⟩
  rw [← hq5]
  replace h := h q5 hq5
  obtain ⟨hk6, h⟩ := h
  refine jx_putrF jc_1 (j := 6) (by decide) rfl jwF_X1_19 rfl rfl rfl rfl rfl dX1_init_23 hk6 ?_
  exact jx_vret dX1_init_26 rfl (jle rfl) (jle rfl) ⟨rfl, h⟩
set_option maxRecDepth 100000 in
set_option maxHeartbeats 4000000 in
theorem T_X1_become {E : jEnv} {d : Nat} {Q : jM → Prop} {a0 : Nat} {a1 : Nat} {S : jM} (h : jk S a1 = 1 ∧ jk S a0 = 1 ∧ ∃ b3, jr S a1 5 = some b3 ∧ (∃ b4, jr S a0 5 = some b4 ∧ (jk S b3 = 12 ∧ jk S b4 = 12 ∧ (¬ (0 : Int32) < 0 ∧ ¬ (0 : Int32) < 0 ∧ ¬ (10 : Int32) < 0 ∧ (Int32.toNatClampNeg 0) + (Int32.toNatClampNeg 10) ≤ jl S b3 ∧ (Int32.toNatClampNeg 0) + (Int32.toNatClampNeg 10) ≤ jl S b4) ∧ (∃ b12, jr S a1 6 = some b12 ∧ (∃ b13, jr S a0 6 = some b13 ∧ (jk S b12 = 12 ∧ jk S b13 = 12 ∧ (¬ (0 : Int32) < 0 ∧ ¬ (0 : Int32) < 0 ∧ ¬ (10 : Int32) < 0 ∧ (Int32.toNatClampNeg 0) + (Int32.toNatClampNeg 10) ≤ jl S b12 ∧ (Int32.toNatClampNeg 0) + (Int32.toNatClampNeg 10) ≤ jl S b13) ∧ (Q (jrow (jrow (jput (jput (jput (jput (jput S a0 0 (ji S a1 0)) a0 1 (ji S a1 1)) a0 2 (ji S a1 2)) a0 3 (ji S a1 3)) a0 4 (ji S a1 4)) b4 (va_cpy (ji (jput (jput (jput (jput (jput S a0 0 (ji S a1 0)) a0 1 (ji S a1 1)) a0 2 (ji S a1 2)) a0 3 (ji S a1 3)) a0 4 (ji S a1 4)) b3) (ji (jput (jput (jput (jput (jput S a0 0 (ji S a1 0)) a0 1 (ji S a1 1)) a0 2 (ji S a1 2)) a0 3 (ji S a1 3)) a0 4 (ji S a1 4)) b4) (Int32.toNatClampNeg 0) (Int32.toNatClampNeg 0) (Int32.toNatClampNeg 10))) b13 (va_cpy (ji (jrow (jput (jput (jput (jput (jput S a0 0 (ji S a1 0)) a0 1 (ji S a1 1)) a0 2 (ji S a1 2)) a0 3 (ji S a1 3)) a0 4 (ji S a1 4)) b4 (va_cpy (ji (jput (jput (jput (jput (jput S a0 0 (ji S a1 0)) a0 1 (ji S a1 1)) a0 2 (ji S a1 2)) a0 3 (ji S a1 3)) a0 4 (ji S a1 4)) b3) (ji (jput (jput (jput (jput (jput S a0 0 (ji S a1 0)) a0 1 (ji S a1 1)) a0 2 (ji S a1 2)) a0 3 (ji S a1 3)) a0 4 (ji S a1 4)) b4) (Int32.toNatClampNeg 0) (Int32.toNatClampNeg 0) (Int32.toNatClampNeg 10))) b12) (ji (jrow (jput (jput (jput (jput (jput S a0 0 (ji S a1 0)) a0 1 (ji S a1 1)) a0 2 (ji S a1 2)) a0 3 (ji S a1 3)) a0 4 (ji S a1 4)) b4 (va_cpy (ji (jput (jput (jput (jput (jput S a0 0 (ji S a1 0)) a0 1 (ji S a1 1)) a0 2 (ji S a1 2)) a0 3 (ji S a1 3)) a0 4 (ji S a1 4)) b3) (ji (jput (jput (jput (jput (jput S a0 0 (ji S a1 0)) a0 1 (ji S a1 1)) a0 2 (ji S a1 2)) a0 3 (ji S a1 3)) a0 4 (ji S a1 4)) b4) (Int32.toNatClampNeg 0) (Int32.toNatClampNeg 0) (Int32.toNatClampNeg 10))) b13) (Int32.toNatClampNeg 0) (Int32.toNatClampNeg 0) (Int32.toNatClampNeg 10)))))))))) : jFv E mX1_become (d + 1) 0 0 [.ref a0, .ref a1] S Q := by
  refine jF_of (by decide) (jle rfl) ?_
  refine jx_lv (lv1 := [(0, .ref a0), (1, .ref a1)]) [0, 1] rfl ?_
  refine jx_aload_n 0 dX1_become_0 rfl rfl ?_
  refine jx_aload_n 1 dX1_become_1 rfl rfl ?_
  obtain ⟨hk1, h⟩ := h
  refine jx_geti jc_1 (j := 0) (by decide) rfl jwF_X1_22 dX1_become_2 hk1 ?_
  obtain ⟨hk2, h⟩ := h
  refine jx_puti jc_1 (j := 0) (by decide) rfl jwF_X1_22 rfl rfl rfl dX1_become_5 hk2 ?_
  refine jx_aload_n 0 dX1_become_8 rfl rfl ?_
  refine jx_aload_n 1 dX1_become_9 rfl rfl ?_
  refine jx_geti jc_1 (j := 1) (by decide) rfl jwF_X1_25 dX1_become_10 hk1 ?_
  refine jx_topi (y := (ji S a1 1)) (by simp [ji_put, ji_row, ji_putr]) ?_
  refine jx_puti jc_1 (j := 1) (by decide) rfl jwF_X1_25 rfl rfl rfl dX1_become_13 hk2 ?_
  refine jx_aload_n 0 dX1_become_16 rfl rfl ?_
  refine jx_aload_n 1 dX1_become_17 rfl rfl ?_
  refine jx_geti jc_1 (j := 2) (by decide) rfl jwF_X1_9 dX1_become_18 hk1 ?_
  refine jx_topi (y := (ji S a1 2)) (by simp [ji_put, ji_row, ji_putr]) ?_
  refine jx_puti jc_1 (j := 2) (by decide) rfl jwF_X1_9 rfl rfl rfl dX1_become_21 hk2 ?_
  refine jx_aload_n 0 dX1_become_24 rfl rfl ?_
  refine jx_aload_n 1 dX1_become_25 rfl rfl ?_
  refine jx_geti jc_1 (j := 3) (by decide) rfl jwF_X1_28 dX1_become_26 hk1 ?_
  refine jx_topi (y := (ji S a1 3)) (by simp [ji_put, ji_row, ji_putr]) ?_
  refine jx_puti jc_1 (j := 3) (by decide) rfl jwF_X1_28 rfl rfl rfl dX1_become_29 hk2 ?_
  refine jx_aload_n 0 dX1_become_32 rfl rfl ?_
  refine jx_aload_n 1 dX1_become_33 rfl rfl ?_
  refine jx_geti jc_1 (j := 4) (by decide) rfl jwF_X1_31 dX1_become_34 hk1 ?_
  refine jx_topi (y := (ji S a1 4)) (by simp [ji_put, ji_row, ji_putr]) ?_
  refine jx_puti jc_1 (j := 4) (by decide) rfl jwF_X1_31 rfl rfl rfl dX1_become_37 hk2 ?_
  refine jx_aload_n 1 dX1_become_40 rfl rfl ?_
  obtain ⟨b3, hb3, h⟩ := h
  refine jx_getr jc_1 (j := 5) (by decide) rfl jwF_X1_15 dX1_become_41 hk1 hb3 ?_
  refine jx_iconst (v := 0) dX1_become_44 (by decide) ?_
  refine jx_aload_n 0 dX1_become_45 rfl rfl ?_
  obtain ⟨b4, hb4, h⟩ := h
  refine jx_getr jc_1 (j := 5) (by decide) rfl jwF_X1_15 dX1_become_46 hk2 hb4 ?_
  refine jx_iconst (v := 0) dX1_become_49 (by decide) ?_
  refine jx_bipush (v := 10) dX1_become_50 (by decide) ?_
  obtain ⟨hk5, h⟩ := h
  obtain ⟨hk6, h⟩ := h
  obtain ⟨⟨hc7, hc8, hc9, hc10, hc11⟩, h⟩ := h
  refine jx_copy jwM_X1_34 jwV_copy jwS_copy jwZ_J10 dX1_become_52 (jRok_m _ _ _) (jle rfl) hk5 hk6 hc7 hc8 hc9 hc10 hc11 ?_
  refine jx_aload_n 1 dX1_become_55 rfl rfl ?_
  obtain ⟨b12, hb12, h⟩ := h
  refine jx_getr jc_1 (j := 6) (by decide) rfl jwF_X1_19 dX1_become_56 hk1 hb12 ?_
  refine jx_iconst (v := 0) dX1_become_59 (by decide) ?_
  refine jx_aload_n 0 dX1_become_60 rfl rfl ?_
  obtain ⟨b13, hb13, h⟩ := h
  refine jx_getr jc_1 (j := 6) (by decide) rfl jwF_X1_19 dX1_become_61 hk2 hb13 ?_
  refine jx_iconst (v := 0) dX1_become_64 (by decide) ?_
  refine jx_bipush (v := 10) dX1_become_65 (by decide) ?_
  obtain ⟨hk14, h⟩ := h
  obtain ⟨hk15, h⟩ := h
  obtain ⟨⟨hc16, hc17, hc18, hc19, hc20⟩, h⟩ := h
  refine jx_copy jwM_X1_34 jwV_copy jwS_copy jwZ_J10 dX1_become_67 (jRok_m _ _ _) (jle rfl) hk14 hk15 hc16 hc17 hc18 hc19 hc20 ?_
  exact jx_vret dX1_become_70 rfl (jle rfl) (jle rfl) ⟨rfl, h⟩
set_option maxRecDepth 100000 in
set_option maxHeartbeats 4000000 in
theorem T_X1_isAble {E : jEnv} {d : Nat} {Q : Int32 → jM → Prop} {a0 : Nat} {x1 : Int32} {S : jM} (h : ((jwi x1 10) = 0 → Q 0 S) ∧ (¬ (jwi x1 10) = 0 → jk S a0 = 1 ∧ (((ji S a0 1) &&& (jshl 1 x1)) = 0 → Q 0 S) ∧ (¬ ((ji S a0 1) &&& (jshl 1 x1)) = 0 → Q 1 S))) : jFi E mX1_isAble (d + 1) 0 0 [.ref a0, .int x1] S Q := by
  refine jF_of (by decide) (jle rfl) ?_
  refine jx_lv (lv1 := [(0, .ref a0), (1, .int x1)]) [0, 1] rfl ?_
  refine jx_iload_n 1 dX1_isAble_0 rfl rfl ?_
  refine jx_bipush (v := 10) dX1_isAble_1 (by decide) ?_
  refine jx_callSNi (M' := mX10_within) (As := [.int x1, .int 10]) (host := "NineMasters") jo_X10_within (by decide) jwS_X10_within dX1_isAble_3 (jRok_m _ _ _) rfl (jle rfl) ⟨jle rfl, jle rfl⟩ (c_X10_within (Q := fun v S' => v = (jwi x1 10) ∧ S = S') ⟨rfl, rfl⟩) (fun r1 S2 hq3 => ?_)
  obtain ⟨rfl, rfl⟩ := hq3
  refine jx_if_eq (tgt := 24) dX1_isAble_6 (by decide) (fun c4 => ?_) (fun c4 => ?_)
  · replace h := h.1 c4
    refine jx_iconst (v := 0) dX1_isAble_24 (by decide) ?_
    exact jx_iret dX1_isAble_25 rfl (by decide) (jle rfl) (jle rfl) ⟨_, rfl, h⟩
  replace h := h.2 c4
  refine jx_aload_n 0 dX1_isAble_9 rfl rfl ?_
  obtain ⟨hk5, h⟩ := h
  refine jx_geti jc_1 (j := 1) (by decide) rfl jwF_X1_25 dX1_isAble_10 hk5 ?_
  refine jx_iconst (v := 1) dX1_isAble_13 (by decide) ?_
  refine jx_iload_n 1 dX1_isAble_14 rfl rfl ?_
  refine jx_ishl dX1_isAble_15 ?_
  refine jx_iand dX1_isAble_16 ?_
  refine jx_if_eq (tgt := 24) dX1_isAble_17 (by decide) (fun c6 => ?_) (fun c6 => ?_)
  · replace h := h.1 c6
    refine jx_iconst (v := 0) dX1_isAble_24 (by decide) ?_
    exact jx_iret dX1_isAble_25 rfl (by decide) (jle rfl) (jle rfl) ⟨_, rfl, h⟩
  replace h := h.2 c6
  refine jx_iconst (v := 1) dX1_isAble_20 (by decide) ?_
  refine jx_goto (tgt := 25) dX1_isAble_21 (by decide) ?_
  exact jx_iret dX1_isAble_25 rfl (by decide) (jle rfl) (jle rfl) ⟨_, rfl, h⟩
/-- X1_passDays at its loop's head 18 -/
abbrev L_X1_passDays_18 (E : jEnv) (d : Nat) (Q : jM → Prop) (a0 : Nat) (x1 : Int32) (x2 : Int32) (S : jM) : Prop := jX E mX1_passDays (jRm (d + 1) 0 0) (jZm E (fun r S' => r = none ∧ Q S') 0 0) 18 [(0, .ref a0), (1, .int x1), (2, .int x2)] [] S 0 0
set_option maxRecDepth 100000 in
set_option maxHeartbeats 4000000 in
theorem T_X1_passDays {E : jEnv} {d : Nat} {Q : jM → Prop} {a0 : Nat} {x1 : Int32} {S : jM} (h : jk S a0 = 1 ∧ L_X1_passDays_18 E d Q a0 x1 0 (jput S a0 4 (jmin 9999 ((ji S a0 4) + x1)))) : jFv E mX1_passDays (d + 1) 0 0 [.ref a0, .int x1] S Q := by
  refine jF_of (by decide) (jle rfl) ?_
  refine jx_lv (lv1 := [(0, .ref a0), (1, .int x1)]) [0, 1] rfl ?_
  refine jx_aload_n 0 dX1_passDays_0 rfl rfl ?_
  refine jx_sipush (v := 9999) dX1_passDays_1 (by decide) ?_
  refine jx_aload_n 0 dX1_passDays_4 rfl rfl ?_
  obtain ⟨hk1, h⟩ := h
  refine jx_geti jc_1 (j := 4) (by decide) rfl jwF_X1_31 dX1_passDays_5 hk1 ?_
  refine jx_iload_n 1 dX1_passDays_8 rfl rfl ?_
  refine jx_iadd dX1_passDays_9 ?_
  refine jx_min jwM_X1_44 jwS_min jwZ_J9 jwO_min dX1_passDays_10 (jRok_m _ _ _) (jle rfl) ⟨Nat.zero_le _, Nat.zero_le _⟩ ?_
  refine jx_puti jc_1 (j := 4) (by decide) rfl jwF_X1_31 rfl rfl rfl dX1_passDays_13 hk1 ?_
  refine jx_iconst (v := 0) dX1_passDays_16 (by decide) ?_
  refine jx_istore_n (lv1 := [(2, .int 0), (0, .ref a0), (1, .int x1)]) dX1_passDays_17 rfl (by decide) rfl ?_
  exact jx_lv [1, 2, 0] rfl h
set_option maxRecDepth 100000 in
set_option maxHeartbeats 4000000 in
theorem T_X1_passDays_18 {E : jEnv} {d : Nat} {Q : jM → Prop} {a0 : Nat} {x1 : Int32} {x2 : Int32} {S : jM} (h : (10 ≤ x2 → Q S) ∧ (¬ 10 ≤ x2 → jk S a0 = 1 ∧ jFi E mX1_isAble d 0 0 [.ref a0, .int x2] S (fun r5 S4 => (r5 = 0 → L_X1_passDays_18 E d Q a0 x1 (x2 + 1) S4) ∧ (¬ r5 = 0 → jk S4 a0 = 1 ∧ ∃ b8, jr S4 a0 6 = some b8 ∧ (jk S4 b8 = 12 ∧ vp_in x2 (jl S4 b8) ∧ ((((ji S4 a0 3) = 0 → L_X1_passDays_18 E d Q a0 x1 (x2 + 1) (jput S4 b8 (Int32.toNatClampNeg x2) ((ji S4 b8 (Int32.toNatClampNeg x2)) + x1))) ∧ (¬ (ji S4 a0 3) = 0 → ((((ji S4 b8 (Int32.toNatClampNeg x2)) + x1) ≤ (ji S4 a0 3) → L_X1_passDays_18 E d Q a0 x1 (x2 + 1) (jput S4 b8 (Int32.toNatClampNeg x2) ((ji S4 b8 (Int32.toNatClampNeg x2)) + x1))) ∧ (¬ ((ji S4 b8 (Int32.toNatClampNeg x2)) + x1) ≤ (ji S4 a0 3) → L_X1_passDays_18 E d Q a0 x1 (x2 + 1) (jput (jput S4 b8 (Int32.toNatClampNeg x2) ((ji S4 b8 (Int32.toNatClampNeg x2)) + x1)) a0 1 ((ji S4 a0 1) &&& ((jshl 1 x2) ^^^ (-1)))))))))))))) : L_X1_passDays_18 E d Q a0 x1 x2 S := by
  show jX E mX1_passDays (jRm (d + 1) 0 0) (jZm E (fun r S' => r = none ∧ Q S') 0 0) 18 [(0, .ref a0), (1, .int x1), (2, .int x2)] [] S 0 0
  refine jx_iload_n 2 dX1_passDays_18 rfl rfl ?_
  refine jx_bipush (v := 10) dX1_passDays_19 (by decide) ?_
  refine jx_icmp_ge (tgt := 82) dX1_passDays_21 (by decide) (fun c2 => ?_) (fun c2 => ?_)
  · replace h := h.1 c2
    exact jx_vret dX1_passDays_82 rfl (jle rfl) (jle rfl) ⟨rfl, h⟩
  replace h := h.2 c2
  refine jx_aload_n 0 dX1_passDays_24 rfl rfl ?_
  refine jx_iload_n 2 dX1_passDays_25 rfl rfl ?_
  obtain ⟨hk3, h⟩ := h
  refine jx_callVi (M' := mX1_isAble) (As := [.int x2]) jo_X1_isAble jc_1 rfl jwM_X1_50 jwN_X1_isAble jwX_X1_isAble dX1_passDays_26 (jRok_m _ _ _) rfl (jle rfl) ⟨jle rfl, jle rfl⟩ hk3 h (fun r5 S4 h => ?_)
  refine jx_if_eq (tgt := 76) dX1_passDays_29 (by decide) (fun c6 => ?_) (fun c6 => ?_)
  · replace h := h.1 c6
    refine jx_iinc 2 (v := (x2 + 1)) (lv1 := [(2, .int (x2 + 1)), (0, .ref a0), (1, .int x1)]) dX1_passDays_76 rfl rfl (by decide) rfl ?_
    refine jx_goto (tgt := 18) dX1_passDays_79 (by decide) ?_
    exact jx_lv [1, 2, 0] rfl h
  replace h := h.2 c6
  refine jx_aload_n 0 dX1_passDays_32 rfl rfl ?_
  obtain ⟨hk7, h⟩ := h
  obtain ⟨b8, hb8, h⟩ := h
  refine jx_getr jc_1 (j := 6) (by decide) rfl jwF_X1_19 dX1_passDays_33 hk7 hb8 ?_
  refine jx_iload_n 2 dX1_passDays_36 rfl rfl ?_
  refine jx_dup2 dX1_passDays_37 rfl rfl ?_
  obtain ⟨hk9, h⟩ := h
  obtain ⟨hi10, h⟩ := h
  refine jx_iald dX1_passDays_38 hk9 hi10 ?_
  refine jx_iload_n 1 dX1_passDays_39 rfl rfl ?_
  refine jx_iadd dX1_passDays_40 ?_
  refine jx_iast dX1_passDays_41 hk9 hi10 ?_
  refine jx_aload_n 0 dX1_passDays_42 rfl rfl ?_
  refine jx_geti jc_1 (j := 3) (by decide) rfl jwF_X1_28 dX1_passDays_43 hk7 ?_
  refine jx_topi (y := (ji S4 a0 3)) (by simp [ji_put, ji_row, ji_putr, jne hk7 hk9 (by decide)]) ?_
  refine jx_if_eq (tgt := 76) dX1_passDays_46 (by decide) (fun c11 => ?_) (fun c11 => ?_)
  · replace h := h.1 c11
    refine jx_iinc 2 (v := (x2 + 1)) (lv1 := [(2, .int (x2 + 1)), (0, .ref a0), (1, .int x1)]) dX1_passDays_76 rfl rfl (by decide) rfl ?_
    refine jx_goto (tgt := 18) dX1_passDays_79 (by decide) ?_
    exact jx_lv [1, 2, 0] rfl h
  replace h := h.2 c11
  refine jx_aload_n 0 dX1_passDays_49 rfl rfl ?_
  refine jx_getr jc_1 (j := 6) (by decide) rfl jwF_X1_19 dX1_passDays_50 hk7 hb8 ?_
  refine jx_iload_n 2 dX1_passDays_53 rfl rfl ?_
  refine jx_iald dX1_passDays_54 hk9 hi10 ?_
  refine jx_topi (y := ((ji S4 b8 (Int32.toNatClampNeg x2)) + x1)) (by simp [ji_put, ji_row, ji_putr]) ?_
  refine jx_aload_n 0 dX1_passDays_55 rfl rfl ?_
  refine jx_geti jc_1 (j := 3) (by decide) rfl jwF_X1_28 dX1_passDays_56 hk7 ?_
  refine jx_topi (y := (ji S4 a0 3)) (by simp [ji_put, ji_row, ji_putr, jne hk7 hk9 (by decide)]) ?_
  refine jx_icmp_le (tgt := 76) dX1_passDays_59 (by decide) (fun c12 => ?_) (fun c12 => ?_)
  · replace h := h.1 c12
    refine jx_iinc 2 (v := (x2 + 1)) (lv1 := [(2, .int (x2 + 1)), (0, .ref a0), (1, .int x1)]) dX1_passDays_76 rfl rfl (by decide) rfl ?_
    refine jx_goto (tgt := 18) dX1_passDays_79 (by decide) ?_
    exact jx_lv [1, 2, 0] rfl h
  replace h := h.2 c12
  refine jx_aload_n 0 dX1_passDays_62 rfl rfl ?_
  refine jx_dup dX1_passDays_63 rfl ?_
  refine jx_geti jc_1 (j := 1) (by decide) rfl jwF_X1_25 dX1_passDays_64 hk7 ?_
  refine jx_topi (y := (ji S4 a0 1)) (by simp [ji_put, ji_row, ji_putr, jne hk7 hk9 (by decide)]) ?_
  refine jx_iconst (v := 1) dX1_passDays_67 (by decide) ?_
  refine jx_iload_n 2 dX1_passDays_68 rfl rfl ?_
  refine jx_ishl dX1_passDays_69 ?_
  refine jx_iconst (v := (-1)) dX1_passDays_70 (by decide) ?_
  refine jx_ixor dX1_passDays_71 ?_
  refine jx_iand dX1_passDays_72 ?_
  refine jx_puti jc_1 (j := 1) (by decide) rfl jwF_X1_25 rfl rfl rfl dX1_passDays_73 hk7 ?_
  refine jx_iinc 2 (v := (x2 + 1)) (lv1 := [(2, .int (x2 + 1)), (0, .ref a0), (1, .int x1)]) dX1_passDays_76 rfl rfl (by decide) rfl ?_
  refine jx_goto (tgt := 18) dX1_passDays_79 (by decide) ?_
  exact jx_lv [1, 2, 0] rfl h
set_option maxRecDepth 100000 in
set_option maxHeartbeats 4000000 in
theorem T_X1_canLearnOf {E : jEnv} {d : Nat} {Q : Int32 → jM → Prop} {a0 : Nat} {a1 : Nat} {S : jM} (h : jk S a1 = 2 ∧ jk S a0 = 1 ∧ ((ji S a1 1) = (ji S a0 0) → ((ji S a1 6) = 0 → jFi E mX2_teaches d 0 0 [.ref a1, .int (ji S a0 1)] S (fun r6 S5 => (r6 = 0 → Q 0 S5) ∧ (¬ r6 = 0 → jk S5 a1 = 2 ∧ jk S5 a0 = 1 ∧ jFi E mX1_isAble d 0 0 [.ref a0, .int (ji S5 a1 2)] S5 (fun r11 S10 => (r11 = 0 → jk S10 a1 = 2 ∧ jk S10 a0 = 1 ∧ ((ji S10 a0 2) < (ji S10 a1 4) → Q 0 S10) ∧ (¬ (ji S10 a0 2) < (ji S10 a1 4) → Q 1 S10)) ∧ (¬ r11 = 0 → Q 0 S10))))) ∧ (¬ (ji S a1 6) = 0 → Q 0 S)) ∧ (¬ (ji S a1 1) = (ji S a0 0) → Q 0 S)) : jFi E mX1_canLearnOf (d + 1) 0 0 [.ref a0, .ref a1] S Q := by
  refine jF_of (by decide) (jle rfl) ?_
  refine jx_lv (lv1 := [(0, .ref a0), (1, .ref a1)]) [0, 1] rfl ?_
  refine jx_aload_n 1 dX1_canLearnOf_0 rfl rfl ?_
  obtain ⟨hk1, h⟩ := h
  refine jx_geti jc_2 (j := 1) (by decide) rfl jwF_X1_54 dX1_canLearnOf_1 hk1 ?_
  refine jx_aload_n 0 dX1_canLearnOf_4 rfl rfl ?_
  obtain ⟨hk2, h⟩ := h
  refine jx_geti jc_1 (j := 0) (by decide) rfl jwF_X1_22 dX1_canLearnOf_5 hk2 ?_
  refine jx_icmp_ne (tgt := 55) dX1_canLearnOf_8 (by decide) (fun c3 => ?_) (fun c3 => ?_)
  · replace h := h.2 c3
    refine jx_iconst (v := 0) dX1_canLearnOf_55 (by decide) ?_
    exact jx_iret dX1_canLearnOf_56 rfl (by decide) (jle rfl) (jle rfl) ⟨_, rfl, h⟩
  replace h := h.1 c3
  refine jx_aload_n 1 dX1_canLearnOf_11 rfl rfl ?_
  refine jx_geti jc_2 (j := 6) (by decide) rfl jwF_X1_59 dX1_canLearnOf_12 hk1 ?_
  refine jx_if_ne (tgt := 55) dX1_canLearnOf_15 (by decide) (fun c4 => ?_) (fun c4 => ?_)
  · replace h := h.2 c4
    refine jx_iconst (v := 0) dX1_canLearnOf_55 (by decide) ?_
    exact jx_iret dX1_canLearnOf_56 rfl (by decide) (jle rfl) (jle rfl) ⟨_, rfl, h⟩
  replace h := h.1 c4
  refine jx_aload_n 1 dX1_canLearnOf_18 rfl rfl ?_
  refine jx_aload_n 0 dX1_canLearnOf_19 rfl rfl ?_
  refine jx_geti jc_1 (j := 1) (by decide) rfl jwF_X1_25 dX1_canLearnOf_20 hk2 ?_
  refine jx_callVi (M' := mX2_teaches) (As := [.int (ji S a0 1)]) jo_X2_teaches jc_2 rfl jwM_X1_63 jwN_X2_teaches jwX_X2_teaches dX1_canLearnOf_23 (jRok_m _ _ _) rfl (jle rfl) ⟨jle rfl, jle rfl⟩ hk1 h (fun r6 S5 h => ?_)
  refine jx_if_eq (tgt := 55) dX1_canLearnOf_26 (by decide) (fun c7 => ?_) (fun c7 => ?_)
  · replace h := h.1 c7
    refine jx_iconst (v := 0) dX1_canLearnOf_55 (by decide) ?_
    exact jx_iret dX1_canLearnOf_56 rfl (by decide) (jle rfl) (jle rfl) ⟨_, rfl, h⟩
  replace h := h.2 c7
  refine jx_aload_n 0 dX1_canLearnOf_29 rfl rfl ?_
  refine jx_aload_n 1 dX1_canLearnOf_30 rfl rfl ?_
  obtain ⟨hk8, h⟩ := h
  refine jx_geti jc_2 (j := 2) (by decide) rfl jwF_X1_66 dX1_canLearnOf_31 hk8 ?_
  obtain ⟨hk9, h⟩ := h
  refine jx_callVi (M' := mX1_isAble) (As := [.int (ji S5 a1 2)]) jo_X1_isAble jc_1 rfl jwM_X1_50 jwN_X1_isAble jwX_X1_isAble dX1_canLearnOf_34 (jRok_m _ _ _) rfl (jle rfl) ⟨jle rfl, jle rfl⟩ hk9 h (fun r11 S10 h => ?_)
  refine jx_if_ne (tgt := 55) dX1_canLearnOf_37 (by decide) (fun c12 => ?_) (fun c12 => ?_)
  · replace h := h.2 c12
    refine jx_iconst (v := 0) dX1_canLearnOf_55 (by decide) ?_
    exact jx_iret dX1_canLearnOf_56 rfl (by decide) (jle rfl) (jle rfl) ⟨_, rfl, h⟩
  replace h := h.1 c12
  refine jx_aload_n 1 dX1_canLearnOf_40 rfl rfl ?_
  obtain ⟨hk13, h⟩ := h
  refine jx_geti jc_2 (j := 4) (by decide) rfl jwF_X1_69 dX1_canLearnOf_41 hk13 ?_
  refine jx_aload_n 0 dX1_canLearnOf_44 rfl rfl ?_
  obtain ⟨hk14, h⟩ := h
  refine jx_geti jc_1 (j := 2) (by decide) rfl jwF_X1_9 dX1_canLearnOf_45 hk14 ?_
  refine jx_icmp_gt (tgt := 55) dX1_canLearnOf_48 (by decide) (fun c15 => ?_) (fun c15 => ?_)
  · replace h := h.1 c15
    refine jx_iconst (v := 0) dX1_canLearnOf_55 (by decide) ?_
    exact jx_iret dX1_canLearnOf_56 rfl (by decide) (jle rfl) (jle rfl) ⟨_, rfl, h⟩
  replace h := h.2 c15
  refine jx_iconst (v := 1) dX1_canLearnOf_51 (by decide) ?_
  refine jx_goto (tgt := 56) dX1_canLearnOf_52 (by decide) ?_
  exact jx_iret dX1_canLearnOf_56 rfl (by decide) (jle rfl) (jle rfl) ⟨_, rfl, h⟩
set_option maxRecDepth 100000 in
set_option maxHeartbeats 4000000 in
theorem T_X1_learnOf {E : jEnv} {d : Nat} {Q : jM → Prop} {a0 : Nat} {x1 : Int32} {a2 : Nat} {x3 : Int32} {S : jM} (h : jk S a0 = 1 ∧ jk S a2 = 2 ∧ jFv E mX1_passDays d 0 0 [.ref a0, .int x3] (jput S a0 2 ((ji S a0 2) - (ji S a2 4))) (fun S3 => jk S3 a0 = 1 ∧ jk S3 a2 = 2 ∧ jFi E mX2_unlearnt d 0 0 [.ref a2] S3 (fun r7 S6 => jk S6 a0 = 1 ∧ jk S6 a2 = 2 ∧ ((jwi (ji S6 a2 2) 10) = 0 → Q (jput S6 a0 1 ((ji S3 a0 1) &&& (r7 ^^^ (-1))))) ∧ (¬ (jwi (ji S6 a2 2) 10) = 0 → ∃ b14, jr S6 a0 5 = some b14 ∧ (jk S6 b14 = 12 ∧ vp_in (ji S6 a2 2) (jl S6 b14) ∧ (∃ b17, jr S6 a0 6 = some b17 ∧ (jk S6 b17 = 12 ∧ vp_in (ji S6 a2 2) (jl S6 b17) ∧ (Q (jput (jput (jput (jput S6 a0 1 ((ji S3 a0 1) &&& (r7 ^^^ (-1)))) a0 1 (((ji S3 a0 1) &&& (r7 ^^^ (-1))) ||| (jshl 1 (ji S6 a2 2)))) b14 (Int32.toNatClampNeg (ji S6 a2 2)) x1) b17 (Int32.toNatClampNeg (ji S6 a2 2)) 0))))))))) : jFv E mX1_learnOf (d + 1) 0 0 [.ref a0, .int x1, .ref a2, .int x3] S Q := by
  refine jF_of (by decide) (jle rfl) ?_
  refine jx_lv (lv1 := [(0, .ref a0), (1, .int x1), (2, .ref a2), (3, .int x3)]) [0, 1, 2, 3] rfl ?_
  refine jx_aload_n 0 dX1_learnOf_0 rfl rfl ?_
  refine jx_dup dX1_learnOf_1 rfl ?_
  obtain ⟨hk1, h⟩ := h
  refine jx_geti jc_1 (j := 2) (by decide) rfl jwF_X1_9 dX1_learnOf_2 hk1 ?_
  refine jx_aload_n 2 dX1_learnOf_5 rfl rfl ?_
  obtain ⟨hk2, h⟩ := h
  refine jx_geti jc_2 (j := 4) (by decide) rfl jwF_X1_69 dX1_learnOf_6 hk2 ?_
  refine jx_isub dX1_learnOf_9 ?_
  refine jx_puti jc_1 (j := 2) (by decide) rfl jwF_X1_9 rfl rfl rfl dX1_learnOf_10 hk1 ?_
  refine jx_aload_n 0 dX1_learnOf_13 rfl rfl ?_
  refine jx_iload_n 3 dX1_learnOf_14 rfl rfl ?_
  refine jx_callVv (M' := mX1_passDays) (As := [.int x3]) jo_X1_passDays jc_1 rfl jwM_X1_72 jwN_X1_passDays jwX_X1_passDays dX1_learnOf_15 (jRok_m _ _ _) rfl (jle rfl) ⟨jle rfl, jle rfl⟩ hk1 h (fun S3 h => ?_)
  refine jx_aload_n 0 dX1_learnOf_18 rfl rfl ?_
  refine jx_dup dX1_learnOf_19 rfl ?_
  obtain ⟨hk4, h⟩ := h
  refine jx_geti jc_1 (j := 1) (by decide) rfl jwF_X1_25 dX1_learnOf_20 hk4 ?_
  refine jx_aload_n 2 dX1_learnOf_23 rfl rfl ?_
  obtain ⟨hk5, h⟩ := h
  refine jx_callVi (M' := mX2_unlearnt) (As := []) jo_X2_unlearnt jc_2 rfl jwM_X1_76 jwN_X2_unlearnt jwX_X2_unlearnt dX1_learnOf_24 (jRok_m _ _ _) rfl (jle rfl) ⟨jle rfl, jle rfl⟩ hk5 h (fun r7 S6 h => ?_)
  refine jx_iconst (v := (-1)) dX1_learnOf_27 (by decide) ?_
  refine jx_ixor dX1_learnOf_28 ?_
  refine jx_iand dX1_learnOf_29 ?_
  obtain ⟨hk8, h⟩ := h
  refine jx_puti jc_1 (j := 1) (by decide) rfl jwF_X1_25 rfl rfl rfl dX1_learnOf_30 hk8 ?_
  refine jx_aload_n 2 dX1_learnOf_33 rfl rfl ?_
  obtain ⟨hk9, h⟩ := h
  refine jx_geti jc_2 (j := 2) (by decide) rfl jwF_X1_66 dX1_learnOf_34 hk9 ?_
  refine jx_topi (y := (ji S6 a2 2)) (by simp [ji_put, ji_row, ji_putr]) ?_
  refine jx_bipush (v := 10) dX1_learnOf_37 (by decide) ?_
  refine jx_callSNi (M' := mX10_within) (As := [.int (ji S6 a2 2), .int 10]) (host := "NineMasters") jo_X10_within (by decide) jwS_X10_within dX1_learnOf_39 (jRok_m _ _ _) rfl (jle rfl) ⟨jle rfl, jle rfl⟩ (c_X10_within (Q := fun v S' => v = (jwi (ji S6 a2 2) 10) ∧ (jput S6 a0 1 ((ji S3 a0 1) &&& (r7 ^^^ (-1)))) = S') ⟨rfl, rfl⟩) (fun r10 S11 hq12 => ?_)
  obtain ⟨rfl, rfl⟩ := hq12
  refine jx_if_eq (tgt := 80) dX1_learnOf_42 (by decide) (fun c13 => ?_) (fun c13 => ?_)
  · replace h := h.1 c13
    exact jx_vret dX1_learnOf_80 rfl (jle rfl) (jle rfl) ⟨rfl, h⟩
  replace h := h.2 c13
  refine jx_aload_n 0 dX1_learnOf_45 rfl rfl ?_
  refine jx_dup dX1_learnOf_46 rfl ?_
  refine jx_geti jc_1 (j := 1) (by decide) rfl jwF_X1_25 dX1_learnOf_47 hk8 ?_
  refine jx_topi (y := ((ji S3 a0 1) &&& (r7 ^^^ (-1)))) (by simp [ji_put, ji_row, ji_putr]) ?_
  refine jx_iconst (v := 1) dX1_learnOf_50 (by decide) ?_
  refine jx_aload_n 2 dX1_learnOf_51 rfl rfl ?_
  refine jx_geti jc_2 (j := 2) (by decide) rfl jwF_X1_66 dX1_learnOf_52 hk9 ?_
  refine jx_topi (y := (ji S6 a2 2)) (by simp [ji_put, ji_row, ji_putr]) ?_
  refine jx_ishl dX1_learnOf_55 ?_
  refine jx_ior dX1_learnOf_56 ?_
  refine jx_puti jc_1 (j := 1) (by decide) rfl jwF_X1_25 rfl rfl rfl dX1_learnOf_57 hk8 ?_
  refine jx_aload_n 0 dX1_learnOf_60 rfl rfl ?_
  obtain ⟨b14, hb14, h⟩ := h
  refine jx_getr jc_1 (j := 5) (by decide) rfl jwF_X1_15 dX1_learnOf_61 hk8 hb14 ?_
  refine jx_aload_n 2 dX1_learnOf_64 rfl rfl ?_
  refine jx_geti jc_2 (j := 2) (by decide) rfl jwF_X1_66 dX1_learnOf_65 hk9 ?_
  refine jx_topi (y := (ji S6 a2 2)) (by simp [ji_put, ji_row, ji_putr]) ?_
  refine jx_iload_n 1 dX1_learnOf_68 rfl rfl ?_
  obtain ⟨hk15, h⟩ := h
  obtain ⟨hi16, h⟩ := h
  refine jx_iast dX1_learnOf_69 hk15 hi16 ?_
  refine jx_aload_n 0 dX1_learnOf_70 rfl rfl ?_
  obtain ⟨b17, hb17, h⟩ := h
  refine jx_getr jc_1 (j := 6) (by decide) rfl jwF_X1_19 dX1_learnOf_71 hk8 hb17 ?_
  refine jx_aload_n 2 dX1_learnOf_74 rfl rfl ?_
  refine jx_geti jc_2 (j := 2) (by decide) rfl jwF_X1_66 dX1_learnOf_75 hk9 ?_
  refine jx_topi (y := (ji S6 a2 2)) (by simp [ji_put, ji_row, ji_putr, jne hk9 hk15 (by decide)]) ?_
  refine jx_iconst (v := 0) dX1_learnOf_78 (by decide) ?_
  obtain ⟨hk18, h⟩ := h
  obtain ⟨hi19, h⟩ := h
  refine jx_iast dX1_learnOf_79 hk18 hi19 ?_
  exact jx_vret dX1_learnOf_80 rfl (jle rfl) (jle rfl) ⟨rfl, h⟩
set_option maxRecDepth 100000 in
set_option maxHeartbeats 4000000 in
theorem T_X1_practise {E : jEnv} {d : Nat} {Q : Int32 → jM → Prop} {a0 : Nat} {x1 : Int32} {S : jM} (h : ((jwi x1 10) = 0 → Q 0 S) ∧ (¬ (jwi x1 10) = 0 → jk S a0 = 1 ∧ jFi E mX1_isAble d 0 0 [.ref a0, .int x1] S (fun r7 S6 => (r7 = 0 → Q 0 S6) ∧ (¬ r7 = 0 → jk S6 a0 = 1 ∧ ∃ b10, jr S6 a0 6 = some b10 ∧ (jk S6 b10 = 12 ∧ vp_in x1 (jl S6 b10) ∧ (jFv E mX1_passDays d 0 0 [.ref a0, .int 1] (jput S6 b10 (Int32.toNatClampNeg x1) 0) (fun S13 => Q 1 S13))))))) : jFi E mX1_practise (d + 1) 0 0 [.ref a0, .int x1] S Q := by
  refine jF_of (by decide) (jle rfl) ?_
  refine jx_lv (lv1 := [(0, .ref a0), (1, .int x1)]) [0, 1] rfl ?_
  refine jx_iload_n 1 dX1_practise_0 rfl rfl ?_
  refine jx_bipush (v := 10) dX1_practise_1 (by decide) ?_
  refine jx_callSNi (M' := mX10_within) (As := [.int x1, .int 10]) (host := "NineMasters") jo_X10_within (by decide) jwS_X10_within dX1_practise_3 (jRok_m _ _ _) rfl (jle rfl) ⟨jle rfl, jle rfl⟩ (c_X10_within (Q := fun v S' => v = (jwi x1 10) ∧ S = S') ⟨rfl, rfl⟩) (fun r1 S2 hq3 => ?_)
  obtain ⟨rfl, rfl⟩ := hq3
  refine jx_if_eq (tgt := 17) dX1_practise_6 (by decide) (fun c4 => ?_) (fun c4 => ?_)
  · replace h := h.1 c4
    refine jx_iconst (v := 0) dX1_practise_17 (by decide) ?_
    exact jx_iret dX1_practise_18 rfl (by decide) (jle rfl) (jle rfl) ⟨_, rfl, h⟩
  replace h := h.2 c4
  refine jx_aload_n 0 dX1_practise_9 rfl rfl ?_
  refine jx_iload_n 1 dX1_practise_10 rfl rfl ?_
  obtain ⟨hk5, h⟩ := h
  refine jx_callVi (M' := mX1_isAble) (As := [.int x1]) jo_X1_isAble jc_1 rfl jwM_X1_50 jwN_X1_isAble jwX_X1_isAble dX1_practise_11 (jRok_m _ _ _) rfl (jle rfl) ⟨jle rfl, jle rfl⟩ hk5 h (fun r7 S6 h => ?_)
  refine jx_if_ne (tgt := 19) dX1_practise_14 (by decide) (fun c8 => ?_) (fun c8 => ?_)
  · replace h := h.2 c8
    refine jx_aload_n 0 dX1_practise_19 rfl rfl ?_
    obtain ⟨hk9, h⟩ := h
    obtain ⟨b10, hb10, h⟩ := h
    refine jx_getr jc_1 (j := 6) (by decide) rfl jwF_X1_19 dX1_practise_20 hk9 hb10 ?_
    refine jx_iload_n 1 dX1_practise_23 rfl rfl ?_
    refine jx_iconst (v := 0) dX1_practise_24 (by decide) ?_
    obtain ⟨hk11, h⟩ := h
    obtain ⟨hi12, h⟩ := h
    refine jx_iast dX1_practise_25 hk11 hi12 ?_
    refine jx_aload_n 0 dX1_practise_26 rfl rfl ?_
    refine jx_iconst (v := 1) dX1_practise_27 (by decide) ?_
    refine jx_callVv (M' := mX1_passDays) (As := [.int 1]) jo_X1_passDays jc_1 rfl jwM_X1_72 jwN_X1_passDays jwX_X1_passDays dX1_practise_28 (jRok_m _ _ _) rfl (jle rfl) ⟨jle rfl, jle rfl⟩ hk9 h (fun S13 h => ?_)
    refine jx_iconst (v := 1) dX1_practise_31 (by decide) ?_
    exact jx_iret dX1_practise_32 rfl (by decide) (jle rfl) (jle rfl) ⟨_, rfl, h⟩
  replace h := h.1 c8
  refine jx_iconst (v := 0) dX1_practise_17 (by decide) ?_
  exact jx_iret dX1_practise_18 rfl (by decide) (jle rfl) (jle rfl) ⟨_, rfl, h⟩
/-- X0_init at its loop's head 20 -/
abbrev L_X0_init_20 (E : jEnv) (d : Nat) (Q : jM → Prop) (a0 : Nat) (x1 : Int32) (S : jM) (c9 k9 : Nat) : Prop := jX E mX0_init (jRm (d + 1) 10 72) (jZm E (fun r S' => r = none ∧ Q S') 10 72) 20 [(0, .ref a0), (1, .int x1)] [] S c9 k9
set_option maxRecDepth 100000 in
set_option maxHeartbeats 4000000 in
theorem T_X0_init {E : jEnv} {d : Nat} {Q : jM → Prop} {a0 : Nat} {S : jM} (h : ∀ q1, q1 = jn S → jk (jnew S 13 9) a0 = 0 ∧ L_X0_init_20 E d Q a0 0 (jput (jputr (jnew S 13 9) a0 0 (some q1)) a0 2 1) 1 9) : jFv E mX0_init (d + 1) 10 72 [.ref a0] S Q := by
  refine jF_of (by decide) (jle rfl) ?_
  refine jx_lv (lv1 := [(0, .ref a0)]) [0] rfl ?_
  refine jx_aload_n 0 dX0_init_0 rfl rfl ?_
  refine jx_objInit jwM_X0_3 jwN_obj jwO_obj dX0_init_1 (jRok_m _ _ _) (jle rfl) ?_
  refine jx_aload_n 0 dX0_init_4 rfl rfl ?_
  refine jx_bipush (v := 9) dX0_init_5 (by decide) ?_
  refine jx_anew (kk := 13) (N := 9) jc_2 (by decide) (by decide) rfl jwK_X0_9 dX0_init_7 (by decide) (by decide) (by decide) ⟨jle rfl, jle rfl⟩ ?_
  obtain ⟨q1, hq1⟩ : ∃ q, q = jn S := ⟨_, rfl⟩
  rw [← hq1]
  replace h := h q1 hq1
  obtain ⟨hk2, h⟩ := h
  refine jx_putrF jc_0 (j := 0) (by decide) rfl jwF_X0_11 rfl rfl rfl rfl rfl dX0_init_10 hk2 ?_
  refine jx_aload_n 0 dX0_init_13 rfl rfl ?_
  refine jx_iconst (v := 1) dX0_init_14 (by decide) ?_
  refine jx_puti jc_0 (j := 2) (by decide) rfl jwF_X0_17 rfl rfl rfl dX0_init_15 hk2 ?_
  refine jx_iconst (v := 0) dX0_init_18 (by decide) ?_
  refine jx_istore_n (lv1 := [(1, .int 0), (0, .ref a0)]) dX0_init_19 rfl (by decide) rfl ?_
  exact jx_lv [1, 0] rfl h
set_option maxRecDepth 100000 in
set_option maxHeartbeats 4000000 in
theorem T_X0_init_20 {E : jEnv} {d : Nat} {Q : jM → Prop} {a0 : Nat} {x1 : Int32} {S : jM} {c9 k9 : Nat} (h : (9 ≤ x1 → (c9 ≤ 10 ∧ k9 ≤ 72) ∧ Q S) ∧ (¬ 9 ≤ x1 → jk S a0 = 0 ∧ ∃ b7, jr S a0 0 = some b7 ∧ ((c9 + 1 ≤ 10 ∧ k9 + 7 ≤ 72) ∧ ∀ q9, q9 = jn S → ((c9 + 1) + 0 ≤ 10 ∧ (k9 + 7) + 0 ≤ 72) ∧ jFv E mX2_init d 0 0 [.ref q9] (jnew S 2 0) (fun S11 => jk S11 b7 = 13 ∧ jk S11 q9 = 2 ∧ vp_in x1 (jl S11 b7) ∧ (L_X0_init_20 E d Q a0 (x1 + 1) (jputr S11 b7 (Int32.toNatClampNeg x1) (some q9)) ((c9 + 1) + 0) ((k9 + 7) + 0)))))) : L_X0_init_20 E d Q a0 x1 S c9 k9 := by
  show jX E mX0_init (jRm (d + 1) 10 72) (jZm E (fun r S' => r = none ∧ Q S') 10 72) 20 [(0, .ref a0), (1, .int x1)] [] S c9 k9
  refine jx_iload_n 1 dX0_init_20 rfl rfl ?_
  refine jx_bipush (v := 9) dX0_init_21 (by decide) ?_
  refine jx_icmp_ge (tgt := 45) dX0_init_23 (by decide) (fun c4 => ?_) (fun c4 => ?_)
  · replace h := h.1 c4
    obtain ⟨hm5, h⟩ := h
    exact jx_vret dX0_init_45 rfl hm5.1 hm5.2 ⟨rfl, h⟩
  replace h := h.2 c4
  refine jx_aload_n 0 dX0_init_26 rfl rfl ?_
  obtain ⟨hk6, h⟩ := h
  obtain ⟨b7, hb7, h⟩ := h
  refine jx_getr jc_0 (j := 0) (by decide) rfl jwF_X0_11 dX0_init_27 hk6 hb7 ?_
  refine jx_iload_n 1 dX0_init_30 rfl rfl ?_
  obtain ⟨hm8, h⟩ := h
  refine jx_new jc_2 jwK_X0_9 jwI_X2 jwZ_X2 jdv_2 dX0_init_31 hm8 ?_
  obtain ⟨q9, hq9⟩ : ∃ q, q = jn S := ⟨_, rfl⟩
  rw [← hq9]
  replace h := h q9 hq9
  refine jx_dup dX0_init_34 rfl ?_
  obtain ⟨hm10, h⟩ := h
  refine jx_callINv (M' := mX2_init) (As := []) (b := q9) (host := "NineMasters") jo_X2_init rfl (by decide) jwN_X2_init rfl dX0_init_35 (jRok_m _ _ _) rfl (jle rfl) hm10 h (fun S11 h => ?_)
  obtain ⟨hk12, h⟩ := h
  obtain ⟨hk14, h⟩ := h
  obtain ⟨hi13, h⟩ := h
  refine jx_aast dX0_init_38 hk12 (by decide) (by decide) jc_2 rfl hk14 hi13 ?_
  refine jx_iinc 1 (v := (x1 + 1)) (lv1 := [(1, .int (x1 + 1)), (0, .ref a0)]) dX0_init_39 rfl rfl (by decide) rfl ?_
  refine jx_goto (tgt := 20) dX0_init_42 (by decide) ?_
  exact jx_lv [1, 0] rfl h
/-- X0_become at its loop's head 18 -/
abbrev L_X0_become_18 (E : jEnv) (d : Nat) (Q : jM → Prop) (a0 : Nat) (a1 : Nat) (x2 : Int32) (S : jM) : Prop := jX E mX0_become (jRm (d + 1) 0 0) (jZm E (fun r S' => r = none ∧ Q S') 0 0) 18 [(0, .ref a0), (1, .ref a1), (2, .int x2)] [] S 0 0
set_option maxRecDepth 100000 in
set_option maxHeartbeats 4000000 in
theorem T_X0_become {E : jEnv} {d : Nat} {Q : jM → Prop} {a0 : Nat} {a1 : Nat} {S : jM} (h : jk S a1 = 0 ∧ jk S a0 = 0 ∧ L_X0_become_18 E d Q a0 a1 0 (jput (jput S a0 1 (ji S a1 1)) a0 2 (ji S a1 2))) : jFv E mX0_become (d + 1) 0 0 [.ref a0, .ref a1] S Q := by
  refine jF_of (by decide) (jle rfl) ?_
  refine jx_lv (lv1 := [(0, .ref a0), (1, .ref a1)]) [0, 1] rfl ?_
  refine jx_aload_n 0 dX0_become_0 rfl rfl ?_
  refine jx_aload_n 1 dX0_become_1 rfl rfl ?_
  obtain ⟨hk1, h⟩ := h
  refine jx_geti jc_0 (j := 1) (by decide) rfl jwF_X0_22 dX0_become_2 hk1 ?_
  obtain ⟨hk2, h⟩ := h
  refine jx_puti jc_0 (j := 1) (by decide) rfl jwF_X0_22 rfl rfl rfl dX0_become_5 hk2 ?_
  refine jx_aload_n 0 dX0_become_8 rfl rfl ?_
  refine jx_aload_n 1 dX0_become_9 rfl rfl ?_
  refine jx_geti jc_0 (j := 2) (by decide) rfl jwF_X0_17 dX0_become_10 hk1 ?_
  refine jx_topi (y := (ji S a1 2)) (by simp [ji_put, ji_row, ji_putr]) ?_
  refine jx_puti jc_0 (j := 2) (by decide) rfl jwF_X0_17 rfl rfl rfl dX0_become_13 hk2 ?_
  refine jx_iconst (v := 0) dX0_become_16 (by decide) ?_
  refine jx_istore_n (lv1 := [(2, .int 0), (0, .ref a0), (1, .ref a1)]) dX0_become_17 rfl (by decide) rfl ?_
  exact jx_lv [1, 2, 0] rfl h
set_option maxRecDepth 100000 in
set_option maxHeartbeats 4000000 in
theorem T_X0_become_18 {E : jEnv} {d : Nat} {Q : jM → Prop} {a0 : Nat} {a1 : Nat} {x2 : Int32} {S : jM} (h : (9 ≤ x2 → Q S) ∧ (¬ 9 ≤ x2 → jk S a0 = 0 ∧ ∃ b5, jr S a0 0 = some b5 ∧ (jk S b5 = 13 ∧ vp_in x2 (jl S b5) ∧ ∃ b8, jr S b5 (Int32.toNatClampNeg x2) = some b8 ∧ (jk S a1 = 0 ∧ ∃ b10, jr S a1 0 = some b10 ∧ (jk S b10 = 13 ∧ vp_in x2 (jl S b10) ∧ ∃ b13, jr S b10 (Int32.toNatClampNeg x2) = some b13 ∧ (jk S b8 = 2 ∧ jFv E mX2_become d 0 0 [.ref b8, .ref b13] S (fun S15 => L_X0_become_18 E d Q a0 a1 (x2 + 1) S15))))))) : L_X0_become_18 E d Q a0 a1 x2 S := by
  show jX E mX0_become (jRm (d + 1) 0 0) (jZm E (fun r S' => r = none ∧ Q S') 0 0) 18 [(0, .ref a0), (1, .ref a1), (2, .int x2)] [] S 0 0
  refine jx_iload_n 2 dX0_become_18 rfl rfl ?_
  refine jx_bipush (v := 9) dX0_become_19 (by decide) ?_
  refine jx_icmp_ge (tgt := 45) dX0_become_21 (by decide) (fun c3 => ?_) (fun c3 => ?_)
  · replace h := h.1 c3
    exact jx_vret dX0_become_45 rfl (jle rfl) (jle rfl) ⟨rfl, h⟩
  replace h := h.2 c3
  refine jx_aload_n 0 dX0_become_24 rfl rfl ?_
  obtain ⟨hk4, h⟩ := h
  obtain ⟨b5, hb5, h⟩ := h
  refine jx_getr jc_0 (j := 0) (by decide) rfl jwF_X0_11 dX0_become_25 hk4 hb5 ?_
  refine jx_iload_n 2 dX0_become_28 rfl rfl ?_
  obtain ⟨hk6, h⟩ := h
  obtain ⟨hi7, h⟩ := h
  obtain ⟨b8, hb8, h⟩ := h
  refine jx_aaldS dX0_become_29 hk6 (by decide) (by decide) hi7 hb8 ?_
  refine jx_aload_n 1 dX0_become_30 rfl rfl ?_
  obtain ⟨hk9, h⟩ := h
  obtain ⟨b10, hb10, h⟩ := h
  refine jx_getr jc_0 (j := 0) (by decide) rfl jwF_X0_11 dX0_become_31 hk9 hb10 ?_
  refine jx_iload_n 2 dX0_become_34 rfl rfl ?_
  obtain ⟨hk11, h⟩ := h
  obtain ⟨hi12, h⟩ := h
  obtain ⟨b13, hb13, h⟩ := h
  refine jx_aaldS dX0_become_35 hk11 (by decide) (by decide) hi12 hb13 ?_
  obtain ⟨hk14, h⟩ := h
  refine jx_callVv (M' := mX2_become) (As := [.ref b13]) jo_X2_become jc_2 rfl jwM_X0_25 jwN_X2_become jwX_X2_become dX0_become_36 (jRok_m _ _ _) rfl (jle rfl) ⟨jle rfl, jle rfl⟩ hk14 h (fun S15 h => ?_)
  refine jx_iinc 2 (v := (x2 + 1)) (lv1 := [(2, .int (x2 + 1)), (0, .ref a0), (1, .ref a1)]) dX0_become_39 rfl rfl (by decide) rfl ?_
  refine jx_goto (tgt := 18) dX0_become_42 (by decide) ?_
  exact jx_lv [1, 2, 0] rfl h
set_option maxRecDepth 100000 in
set_option maxHeartbeats 4000000 in
theorem T_X0_find {E : jEnv} {d : Nat} {Q : Option Nat → jM → Prop} {a0 : Nat} {x1 : Int32} {S : jM} (h : jk S a0 = 0 ∧ ((jwi x1 (ji S a0 1)) = 0 → Q none S) ∧ (¬ (jwi x1 (ji S a0 1)) = 0 → (9 ≤ x1 → Q none S) ∧ (¬ 9 ≤ x1 → ∃ b7, jr S a0 0 = some b7 ∧ (jk S b7 = 13 ∧ vp_in x1 (jl S b7) ∧ ∃ b10, jr S b7 (Int32.toNatClampNeg x1) = some b10 ∧ (Q (some b10) S))))) : jFr E mX0_find (d + 1) 0 0 [.ref a0, .int x1] S Q := by
  refine jF_of (by decide) (jle rfl) ?_
  refine jx_lv (lv1 := [(0, .ref a0), (1, .int x1)]) [0, 1] rfl ?_
  refine jx_iload_n 1 dX0_find_0 rfl rfl ?_
  refine jx_aload_n 0 dX0_find_1 rfl rfl ?_
  obtain ⟨hk1, h⟩ := h
  refine jx_geti jc_0 (j := 1) (by decide) rfl jwF_X0_22 dX0_find_2 hk1 ?_
  refine jx_callSNi (M' := mX10_within) (As := [.int x1, .int (ji S a0 1)]) (host := "NineMasters") jo_X10_within (by decide) jwS_X10_within dX0_find_5 (jRok_m _ _ _) rfl (jle rfl) ⟨jle rfl, jle rfl⟩ (c_X10_within (Q := fun v S' => v = (jwi x1 (ji S a0 1)) ∧ S = S') ⟨rfl, rfl⟩) (fun r2 S3 hq4 => ?_)
  obtain ⟨rfl, rfl⟩ := hq4
  refine jx_if_eq (tgt := 26) dX0_find_8 (by decide) (fun c5 => ?_) (fun c5 => ?_)
  · replace h := h.1 c5
    refine jx_null dX0_find_26 ?_
    exact jx_aret (o := none) dX0_find_27 rfl (jle rfl) (jle rfl) ⟨_, rfl, h⟩
  replace h := h.2 c5
  refine jx_iload_n 1 dX0_find_11 rfl rfl ?_
  refine jx_bipush (v := 9) dX0_find_12 (by decide) ?_
  refine jx_icmp_ge (tgt := 26) dX0_find_14 (by decide) (fun c6 => ?_) (fun c6 => ?_)
  · replace h := h.1 c6
    refine jx_null dX0_find_26 ?_
    exact jx_aret (o := none) dX0_find_27 rfl (jle rfl) (jle rfl) ⟨_, rfl, h⟩
  replace h := h.2 c6
  refine jx_aload_n 0 dX0_find_17 rfl rfl ?_
  obtain ⟨b7, hb7, h⟩ := h
  refine jx_getr jc_0 (j := 0) (by decide) rfl jwF_X0_11 dX0_find_18 hk1 hb7 ?_
  refine jx_iload_n 1 dX0_find_21 rfl rfl ?_
  obtain ⟨hk8, h⟩ := h
  obtain ⟨hi9, h⟩ := h
  obtain ⟨b10, hb10, h⟩ := h
  refine jx_aaldS dX0_find_22 hk8 (by decide) (by decide) hi9 hb10 ?_
  refine jx_goto (tgt := 27) dX0_find_23 (by decide) ?_
  exact jx_aret (o := (some b10)) dX0_find_27 rfl (jle rfl) (jle rfl) ⟨_, rfl, h⟩
set_option maxRecDepth 100000 in
set_option maxHeartbeats 4000000 in
theorem T_X0_join {E : jEnv} {d : Nat} {Q : Int32 → jM → Prop} {a0 : Nat} {x1 : Int32} {x2 : Int32} {x3 : Int32} {x4 : Int32} {S : jM} (h : jk S a0 = 0 ∧ ((jwi (ji S a0 1) 9) = 0 → Q 0 S) ∧ (¬ (jwi (ji S a0 1) 9) = 0 → ∃ b6, jr S a0 0 = some b6 ∧ (jk S b6 = 13 ∧ vp_in (ji S a0 1) (jl S b6) ∧ ∃ b9, jr S b6 (Int32.toNatClampNeg (ji S a0 1)) = some b9 ∧ (jk S b9 = 2 ∧ jFv E mX2_begin d 0 0 [.ref b9, .int x1, .int x2, .int x3, .int x4] S (fun S11 => jk S11 a0 = 0 ∧ Q 1 (jput S11 a0 1 ((ji S11 a0 1) + 1))))))) : jFi E mX0_join (d + 1) 0 0 [.ref a0, .int x1, .int x2, .int x3, .int x4] S Q := by
  refine jF_of (by decide) (jle rfl) ?_
  refine jx_lv (lv1 := [(0, .ref a0), (1, .int x1), (2, .int x2), (3, .int x3), (4, .int x4)]) [0, 1, 2, 3, 4] rfl ?_
  refine jx_aload_n 0 dX0_join_0 rfl rfl ?_
  obtain ⟨hk1, h⟩ := h
  refine jx_geti jc_0 (j := 1) (by decide) rfl jwF_X0_22 dX0_join_1 hk1 ?_
  refine jx_bipush (v := 9) dX0_join_4 (by decide) ?_
  refine jx_callSNi (M' := mX10_within) (As := [.int (ji S a0 1), .int 9]) (host := "NineMasters") jo_X10_within (by decide) jwS_X10_within dX0_join_6 (jRok_m _ _ _) rfl (jle rfl) ⟨jle rfl, jle rfl⟩ (c_X10_within (Q := fun v S' => v = (jwi (ji S a0 1) 9) ∧ S = S') ⟨rfl, rfl⟩) (fun r2 S3 hq4 => ?_)
  obtain ⟨rfl, rfl⟩ := hq4
  refine jx_if_ne (tgt := 14) dX0_join_9 (by decide) (fun c5 => ?_) (fun c5 => ?_)
  · replace h := h.2 c5
    refine jx_aload_n 0 dX0_join_14 rfl rfl ?_
    obtain ⟨b6, hb6, h⟩ := h
    refine jx_getr jc_0 (j := 0) (by decide) rfl jwF_X0_11 dX0_join_15 hk1 hb6 ?_
    refine jx_aload_n 0 dX0_join_18 rfl rfl ?_
    refine jx_geti jc_0 (j := 1) (by decide) rfl jwF_X0_22 dX0_join_19 hk1 ?_
    obtain ⟨hk7, h⟩ := h
    obtain ⟨hi8, h⟩ := h
    obtain ⟨b9, hb9, h⟩ := h
    refine jx_aaldS dX0_join_22 hk7 (by decide) (by decide) hi8 hb9 ?_
    refine jx_iload_n 1 dX0_join_23 rfl rfl ?_
    refine jx_iload_n 2 dX0_join_24 rfl rfl ?_
    refine jx_iload_n 3 dX0_join_25 rfl rfl ?_
    refine jx_iload 4 dX0_join_26 rfl ?_
    obtain ⟨hk10, h⟩ := h
    refine jx_callVv (M' := mX2_begin) (As := [.int x1, .int x2, .int x3, .int x4]) jo_X2_begin jc_2 rfl jwM_X0_33 jwN_X2_begin jwX_X2_begin dX0_join_28 (jRok_m _ _ _) rfl (jle rfl) ⟨jle rfl, jle rfl⟩ hk10 h (fun S11 h => ?_)
    refine jx_aload_n 0 dX0_join_31 rfl rfl ?_
    refine jx_dup dX0_join_32 rfl ?_
    obtain ⟨hk12, h⟩ := h
    refine jx_geti jc_0 (j := 1) (by decide) rfl jwF_X0_22 dX0_join_33 hk12 ?_
    refine jx_iconst (v := 1) dX0_join_36 (by decide) ?_
    refine jx_iadd dX0_join_37 ?_
    refine jx_puti jc_0 (j := 1) (by decide) rfl jwF_X0_22 rfl rfl rfl dX0_join_38 hk12 ?_
    refine jx_iconst (v := 1) dX0_join_41 (by decide) ?_
    exact jx_iret dX0_join_42 rfl (by decide) (jle rfl) (jle rfl) ⟨_, rfl, h⟩
  replace h := h.1 c5
  refine jx_iconst (v := 0) dX0_join_12 (by decide) ?_
  exact jx_iret dX0_join_13 rfl (by decide) (jle rfl) (jle rfl) ⟨_, rfl, h⟩
set_option maxRecDepth 100000 in
set_option maxHeartbeats 4000000 in
theorem T_X0_joinByLot {E : jEnv} {d : Nat} {Q : jM → Prop} {a0 : Nat} {S : jM} (h : jk S a0 = 0 ∧ jFi E mX0_draw d 0 0 [.ref a0] S (fun r3 S2 => jk S2 a0 = 0 ∧ jFi E mX0_draw d 0 0 [.ref a0] S2 (fun r6 S5 => jk S5 a0 = 0 ∧ jFi E mX0_draw d 0 0 [.ref a0] S5 (fun r9 S8 => jk S8 a0 = 0 ∧ jFi E mX0_draw d 0 0 [.ref a0] S8 (fun r12 S11 => jk S11 a0 = 0 ∧ jFi E mX0_join d 0 0 [.ref a0, .int (jrem r3 6), .int (jrem r6 6), .int (jrem r9 10), .int (jrem r12 40)] S11 (fun r15 S14 => Q S14)))))) : jFv E mX0_joinByLot (d + 1) 0 0 [.ref a0] S Q := by
  refine jF_of (by decide) (jle rfl) ?_
  refine jx_lv (lv1 := [(0, .ref a0)]) [0] rfl ?_
  refine jx_aload_n 0 dX0_joinByLot_0 rfl rfl ?_
  obtain ⟨hk1, h⟩ := h
  refine jx_callVi (M' := mX0_draw) (As := []) jo_X0_draw jc_0 rfl jwM_X0_37 jwN_X0_draw jwX_X0_draw dX0_joinByLot_1 (jRok_m _ _ _) rfl (jle rfl) ⟨jle rfl, jle rfl⟩ hk1 h (fun r3 S2 h => ?_)
  refine jx_bipush (v := 6) dX0_joinByLot_4 (by decide) ?_
  refine jx_irem dX0_joinByLot_6 (by decide) ?_
  refine jx_istore_n (lv1 := [(1, .int (jrem r3 6)), (0, .ref a0)]) dX0_joinByLot_7 rfl (by decide) rfl ?_
  refine jx_aload_n 1 dX0_joinByLot_8 rfl rfl ?_
  obtain ⟨hk4, h⟩ := h
  refine jx_callVi (M' := mX0_draw) (As := []) jo_X0_draw jc_0 rfl jwM_X0_37 jwN_X0_draw jwX_X0_draw dX0_joinByLot_9 (jRok_m _ _ _) rfl (jle rfl) ⟨jle rfl, jle rfl⟩ hk4 h (fun r6 S5 h => ?_)
  refine jx_bipush (v := 6) dX0_joinByLot_12 (by decide) ?_
  refine jx_irem dX0_joinByLot_14 (by decide) ?_
  refine jx_istore_n (lv1 := [(2, .int (jrem r6 6)), (1, .int (jrem r3 6)), (0, .ref a0)]) dX0_joinByLot_15 rfl (by decide) rfl ?_
  refine jx_aload_n 2 dX0_joinByLot_16 rfl rfl ?_
  obtain ⟨hk7, h⟩ := h
  refine jx_callVi (M' := mX0_draw) (As := []) jo_X0_draw jc_0 rfl jwM_X0_37 jwN_X0_draw jwX_X0_draw dX0_joinByLot_17 (jRok_m _ _ _) rfl (jle rfl) ⟨jle rfl, jle rfl⟩ hk7 h (fun r9 S8 h => ?_)
  refine jx_bipush (v := 10) dX0_joinByLot_20 (by decide) ?_
  refine jx_irem dX0_joinByLot_22 (by decide) ?_
  refine jx_istore_n (lv1 := [(3, .int (jrem r9 10)), (2, .int (jrem r6 6)), (1, .int (jrem r3 6)), (0, .ref a0)]) dX0_joinByLot_23 rfl (by decide) rfl ?_
  refine jx_aload_n 3 dX0_joinByLot_24 rfl rfl ?_
  obtain ⟨hk10, h⟩ := h
  refine jx_callVi (M' := mX0_draw) (As := []) jo_X0_draw jc_0 rfl jwM_X0_37 jwN_X0_draw jwX_X0_draw dX0_joinByLot_25 (jRok_m _ _ _) rfl (jle rfl) ⟨jle rfl, jle rfl⟩ hk10 h (fun r12 S11 h => ?_)
  refine jx_bipush (v := 40) dX0_joinByLot_28 (by decide) ?_
  refine jx_irem dX0_joinByLot_30 (by decide) ?_
  refine jx_istore (lv1 := [(4, .int (jrem r12 40)), (3, .int (jrem r9 10)), (2, .int (jrem r6 6)), (1, .int (jrem r3 6)), (0, .ref a0)]) dX0_joinByLot_31 (by decide) rfl ?_
  refine jx_aload_n 4 dX0_joinByLot_33 rfl rfl ?_
  refine jx_iload_n 3 dX0_joinByLot_34 rfl rfl ?_
  refine jx_iload_n 2 dX0_joinByLot_35 rfl rfl ?_
  refine jx_iload_n 1 dX0_joinByLot_36 rfl rfl ?_
  refine jx_iload 0 dX0_joinByLot_37 rfl ?_
  obtain ⟨hk13, h⟩ := h
  refine jx_callVi (M' := mX0_join) (As := [.int (jrem r3 6), .int (jrem r6 6), .int (jrem r9 10), .int (jrem r12 40)]) jo_X0_join jc_0 rfl jwM_X0_41 jwN_X0_join jwX_X0_join dX0_joinByLot_39 (jRok_m _ _ _) rfl (jle rfl) ⟨jle rfl, jle rfl⟩ hk13 h (fun r15 S14 h => ?_)
  refine jx_pop dX0_joinByLot_42 rfl ?_
  exact jx_vret dX0_joinByLot_43 rfl (jle rfl) (jle rfl) ⟨rfl, h⟩
set_option maxRecDepth 100000 in
set_option maxHeartbeats 4000000 in
theorem T_X0_draw {E : jEnv} {d : Nat} {Q : Int32 → jM → Prop} {a0 : Nat} {S : jM} (h : jk S a0 = 0 ∧ Q (jushr (((ji S a0 2) * 1103515245) + 12345) 8) (jput S a0 2 (((ji S a0 2) * 1103515245) + 12345))) : jFi E mX0_draw d 0 0 [.ref a0] S Q := by
  refine jF_of (by decide) (jle rfl) ?_
  refine jx_lv (lv1 := [(0, .ref a0)]) [0] rfl ?_
  refine jx_aload_n 0 dX0_draw_0 rfl rfl ?_
  refine jx_aload_n 0 dX0_draw_1 rfl rfl ?_
  obtain ⟨hk1, h⟩ := h
  refine jx_geti jc_0 (j := 2) (by decide) rfl jwF_X0_17 dX0_draw_2 hk1 ?_
  refine jx_ldc jwC_X0_45 dX0_draw_5 ?_
  refine jx_imul dX0_draw_7 ?_
  refine jx_sipush (v := 12345) dX0_draw_8 (by decide) ?_
  refine jx_iadd dX0_draw_11 ?_
  refine jx_puti jc_0 (j := 2) (by decide) rfl jwF_X0_17 rfl rfl rfl dX0_draw_12 hk1 ?_
  refine jx_aload_n 0 dX0_draw_15 rfl rfl ?_
  refine jx_geti jc_0 (j := 2) (by decide) rfl jwF_X0_17 dX0_draw_16 hk1 ?_
  refine jx_topi (y := (((ji S a0 2) * 1103515245) + 12345)) (by simp [ji_put, ji_row, ji_putr]) ?_
  refine jx_bipush (v := 8) dX0_draw_19 (by decide) ?_
  refine jx_iushr dX0_draw_21 ?_
  exact jx_iret dX0_draw_22 rfl rfl (jle rfl) (jle rfl) ⟨_, rfl, h⟩
/-- X0_liveYear at its loop's head 2 -/
abbrev L_X0_liveYear_2 (E : jEnv) (d : Nat) (Q : jM → Prop) (a0 : Nat) (x1 : Int32) (S : jM) : Prop := jX E mX0_liveYear (jRm (d + 1) 0 0) (jZm E (fun r S' => r = none ∧ Q S') 0 0) 2 [(0, .ref a0), (1, .int x1)] [] S 0 0
set_option maxRecDepth 100000 in
set_option maxHeartbeats 4000000 in
theorem T_X0_liveYear {E : jEnv} {d : Nat} {Q : jM → Prop} {a0 : Nat} {S : jM} (h : L_X0_liveYear_2 E d Q a0 0 S) : jFv E mX0_liveYear (d + 1) 0 0 [.ref a0] S Q := by
  refine jF_of (by decide) (jle rfl) ?_
  refine jx_lv (lv1 := [(0, .ref a0)]) [0] rfl ?_
  refine jx_iconst (v := 0) dX0_liveYear_0 (by decide) ?_
  refine jx_istore_n (lv1 := [(1, .int 0), (0, .ref a0)]) dX0_liveYear_1 rfl (by decide) rfl ?_
  exact jx_lv [1, 0] rfl h
set_option maxRecDepth 100000 in
set_option maxHeartbeats 4000000 in
theorem T_X0_liveYear_2 {E : jEnv} {d : Nat} {Q : jM → Prop} {a0 : Nat} {x1 : Int32} {S : jM} (h : jk S a0 = 0 ∧ ((ji S a0 1) ≤ x1 → Q S) ∧ (¬ (ji S a0 1) ≤ x1 → jFr E mX0_find d 0 0 [.ref a0, .int x1] S (fun o4 S3 => (o4 = none → L_X0_liveYear_2 E d Q a0 (x1 + 1) S3) ∧ (∀ b5, o4 = some b5 → jk S3 b5 = 2 ∧ ((ji S3 b5 6) = 0 → jk S3 a0 = 0 ∧ jFi E mX0_draw d 0 0 [.ref a0] S3 (fun r10 S9 => jk S9 b5 = 2 ∧ (((ji S9 b5 5) - 50) ≤ (jrem r10 100) → L_X0_liveYear_2 E d Q a0 (x1 + 1) (jput S9 b5 5 (jmin 99 ((ji S9 b5 5) + 1)))) ∧ (¬ ((ji S9 b5 5) - 50) ≤ (jrem r10 100) → L_X0_liveYear_2 E d Q a0 (x1 + 1) (jput S9 b5 6 1)))) ∧ (¬ (ji S3 b5 6) = 0 → L_X0_liveYear_2 E d Q a0 (x1 + 1) S3))))) : L_X0_liveYear_2 E d Q a0 x1 S := by
  show jX E mX0_liveYear (jRm (d + 1) 0 0) (jZm E (fun r S' => r = none ∧ Q S') 0 0) 2 [(0, .ref a0), (1, .int x1)] [] S 0 0
  refine jx_iload_n 1 dX0_liveYear_2 rfl rfl ?_
  refine jx_aload_n 0 dX0_liveYear_3 rfl rfl ?_
  obtain ⟨hk1, h⟩ := h
  refine jx_geti jc_0 (j := 1) (by decide) rfl jwF_X0_22 dX0_liveYear_4 hk1 ?_
  refine jx_icmp_ge (tgt := 73) dX0_liveYear_7 (by decide) (fun c2 => ?_) (fun c2 => ?_)
  · replace h := h.1 c2
    exact jx_vret dX0_liveYear_73 rfl (jle rfl) (jle rfl) ⟨rfl, h⟩
  replace h := h.2 c2
  refine jx_aload_n 0 dX0_liveYear_10 rfl rfl ?_
  refine jx_iload_n 1 dX0_liveYear_11 rfl rfl ?_
  refine jx_callVr (M' := mX0_find) (As := [.int x1]) jo_X0_find jc_0 rfl jwM_X0_46 jwN_X0_find jwX_X0_find dX0_liveYear_12 (jRok_m _ _ _) rfl (jle rfl) ⟨jle rfl, jle rfl⟩ hk1 h (fun o4 S3 h => ?_)
  rcases o4 with _ | b5
  · replace h := h.1 rfl
    refine jx_astore_nN (lv1 := [(2, .null), (0, .ref a0), (1, .int x1)]) dX0_liveYear_15 rfl (by decide) rfl ?_
    refine jx_aload_nN 0 dX0_liveYear_16 rfl rfl ?_
    refine jx_ifnullN (tgt := 67) dX0_liveYear_17 (by decide) ?_
    refine jx_iinc 2 (v := (x1 + 1)) (lv1 := [(1, .int (x1 + 1)), (2, .null), (0, .ref a0)]) dX0_liveYear_67 rfl rfl (by decide) rfl ?_
    refine jx_goto (tgt := 2) dX0_liveYear_70 (by decide) ?_
    exact jx_lv [2, 0] rfl h
  replace h := h.2 b5 rfl
  refine jx_astore_n (lv1 := [(2, .ref b5), (0, .ref a0), (1, .int x1)]) dX0_liveYear_15 rfl (by decide) rfl ?_
  refine jx_aload_n 0 dX0_liveYear_16 rfl rfl ?_
  refine jx_ifnull dX0_liveYear_17 ?_
  refine jx_aload_n 0 dX0_liveYear_20 rfl rfl ?_
  obtain ⟨hk6, h⟩ := h
  refine jx_geti jc_2 (j := 6) (by decide) rfl jwF_X0_50 dX0_liveYear_21 hk6 ?_
  refine jx_if_ne (tgt := 67) dX0_liveYear_24 (by decide) (fun c7 => ?_) (fun c7 => ?_)
  · replace h := h.2 c7
    refine jx_iinc 2 (v := (x1 + 1)) (lv1 := [(1, .int (x1 + 1)), (2, .ref b5), (0, .ref a0)]) dX0_liveYear_67 rfl rfl (by decide) rfl ?_
    refine jx_goto (tgt := 2) dX0_liveYear_70 (by decide) ?_
    exact jx_lv [2, 0] rfl h
  replace h := h.1 c7
  refine jx_aload_n 1 dX0_liveYear_27 rfl rfl ?_
  obtain ⟨hk8, h⟩ := h
  refine jx_callVi (M' := mX0_draw) (As := []) jo_X0_draw jc_0 rfl jwM_X0_37 jwN_X0_draw jwX_X0_draw dX0_liveYear_28 (jRok_m _ _ _) rfl (jle rfl) ⟨jle rfl, jle rfl⟩ hk8 h (fun r10 S9 h => ?_)
  refine jx_bipush (v := 100) dX0_liveYear_31 (by decide) ?_
  refine jx_irem dX0_liveYear_33 (by decide) ?_
  refine jx_aload_n 0 dX0_liveYear_34 rfl rfl ?_
  obtain ⟨hk11, h⟩ := h
  refine jx_geti jc_2 (j := 5) (by decide) rfl jwF_X0_54 dX0_liveYear_35 hk11 ?_
  refine jx_bipush (v := 50) dX0_liveYear_38 (by decide) ?_
  refine jx_isub dX0_liveYear_40 ?_
  refine jx_icmp_ge (tgt := 52) dX0_liveYear_41 (by decide) (fun c12 => ?_) (fun c12 => ?_)
  · replace h := h.1 c12
    refine jx_aload_n 0 dX0_liveYear_52 rfl rfl ?_
    refine jx_bipush (v := 99) dX0_liveYear_53 (by decide) ?_
    refine jx_aload_n 0 dX0_liveYear_55 rfl rfl ?_
    refine jx_geti jc_2 (j := 5) (by decide) rfl jwF_X0_54 dX0_liveYear_56 hk11 ?_
    refine jx_iconst (v := 1) dX0_liveYear_59 (by decide) ?_
    refine jx_iadd dX0_liveYear_60 ?_
    refine jx_min jwM_X0_57 jwS_min jwZ_J9 jwO_min dX0_liveYear_61 (jRok_m _ _ _) (jle rfl) ⟨Nat.zero_le _, Nat.zero_le _⟩ ?_
    refine jx_puti jc_2 (j := 5) (by decide) rfl jwF_X0_54 rfl rfl rfl dX0_liveYear_64 hk11 ?_
    refine jx_iinc 2 (v := (x1 + 1)) (lv1 := [(1, .int (x1 + 1)), (2, .ref b5), (0, .ref a0)]) dX0_liveYear_67 rfl rfl (by decide) rfl ?_
    refine jx_goto (tgt := 2) dX0_liveYear_70 (by decide) ?_
    exact jx_lv [2, 0] rfl h
  replace h := h.2 c12
  refine jx_aload_n 0 dX0_liveYear_44 rfl rfl ?_
  refine jx_iconst (v := 1) dX0_liveYear_45 (by decide) ?_
  refine jx_puti jc_2 (j := 6) (by decide) rfl jwF_X0_50 rfl (by decide) (by decide) dX0_liveYear_46 hk11 ?_
  refine jx_goto (tgt := 67) dX0_liveYear_49 (by decide) ?_
  refine jx_iinc 2 (v := (x1 + 1)) (lv1 := [(1, .int (x1 + 1)), (2, .ref b5), (0, .ref a0)]) dX0_liveYear_67 rfl rfl (by decide) rfl ?_
  refine jx_goto (tgt := 2) dX0_liveYear_70 (by decide) ?_
  exact jx_lv [2, 0] rfl h
/-- X0_liveYears at its loop's head 2 -/
abbrev L_X0_liveYears_2 (E : jEnv) (d : Nat) (Q : jM → Prop) (a0 : Nat) (x1 : Int32) (x2 : Int32) (S : jM) : Prop := jX E mX0_liveYears (jRm (d + 1) 0 0) (jZm E (fun r S' => r = none ∧ Q S') 0 0) 2 [(0, .ref a0), (1, .int x1), (2, .int x2)] [] S 0 0
set_option maxRecDepth 100000 in
set_option maxHeartbeats 4000000 in
theorem T_X0_liveYears {E : jEnv} {d : Nat} {Q : jM → Prop} {a0 : Nat} {x1 : Int32} {S : jM} (h : L_X0_liveYears_2 E d Q a0 x1 0 S) : jFv E mX0_liveYears (d + 1) 0 0 [.ref a0, .int x1] S Q := by
  refine jF_of (by decide) (jle rfl) ?_
  refine jx_lv (lv1 := [(0, .ref a0), (1, .int x1)]) [0, 1] rfl ?_
  refine jx_iconst (v := 0) dX0_liveYears_0 (by decide) ?_
  refine jx_istore_n (lv1 := [(2, .int 0), (0, .ref a0), (1, .int x1)]) dX0_liveYears_1 rfl (by decide) rfl ?_
  exact jx_lv [1, 2, 0] rfl h
set_option maxRecDepth 100000 in
set_option maxHeartbeats 4000000 in
theorem T_X0_liveYears_2 {E : jEnv} {d : Nat} {Q : jM → Prop} {a0 : Nat} {x1 : Int32} {x2 : Int32} {S : jM} (h : (x1 ≤ x2 → Q S) ∧ (¬ x1 ≤ x2 → jk S a0 = 0 ∧ jFv E mX0_liveYear d 0 0 [.ref a0] S (fun S3 => L_X0_liveYears_2 E d Q a0 x1 (x2 + 1) S3))) : L_X0_liveYears_2 E d Q a0 x1 x2 S := by
  show jX E mX0_liveYears (jRm (d + 1) 0 0) (jZm E (fun r S' => r = none ∧ Q S') 0 0) 2 [(0, .ref a0), (1, .int x1), (2, .int x2)] [] S 0 0
  refine jx_iload_n 2 dX0_liveYears_2 rfl rfl ?_
  refine jx_iload_n 1 dX0_liveYears_3 rfl rfl ?_
  refine jx_icmp_ge (tgt := 17) dX0_liveYears_4 (by decide) (fun c1 => ?_) (fun c1 => ?_)
  · replace h := h.1 c1
    exact jx_vret dX0_liveYears_17 rfl (jle rfl) (jle rfl) ⟨rfl, h⟩
  replace h := h.2 c1
  refine jx_aload_n 0 dX0_liveYears_7 rfl rfl ?_
  obtain ⟨hk2, h⟩ := h
  refine jx_callVv (M' := mX0_liveYear) (As := []) jo_X0_liveYear jc_0 rfl jwM_X0_63 jwN_X0_liveYear jwX_X0_liveYear dX0_liveYears_8 (jRok_m _ _ _) rfl (jle rfl) ⟨jle rfl, jle rfl⟩ hk2 h (fun S3 h => ?_)
  refine jx_iinc 2 (v := (x2 + 1)) (lv1 := [(2, .int (x2 + 1)), (0, .ref a0), (1, .int x1)]) dX0_liveYears_11 rfl rfl (by decide) rfl ?_
  refine jx_goto (tgt := 2) dX0_liveYears_14 (by decide) ?_
  exact jx_lv [1, 2, 0] rfl h
/-- X0_countDead at its loop's head 4 -/
abbrev L_X0_countDead_4 (E : jEnv) (d : Nat) (Q : Int32 → jM → Prop) (a0 : Nat) (x1 : Int32) (x2 : Int32) (S : jM) : Prop := jX E mX0_countDead (jRm (d + 1) 0 0) (jZm E (fun r S' => ∃ v : Int32, r = some (.int v) ∧ Q v S') 0 0) 4 [(0, .ref a0), (1, .int x1), (2, .int x2)] [] S 0 0
set_option maxRecDepth 100000 in
set_option maxHeartbeats 4000000 in
theorem T_X0_countDead {E : jEnv} {d : Nat} {Q : Int32 → jM → Prop} {a0 : Nat} {S : jM} (h : L_X0_countDead_4 E d Q a0 0 0 S) : jFi E mX0_countDead (d + 1) 0 0 [.ref a0] S Q := by
  refine jF_of (by decide) (jle rfl) ?_
  refine jx_lv (lv1 := [(0, .ref a0)]) [0] rfl ?_
  refine jx_iconst (v := 0) dX0_countDead_0 (by decide) ?_
  refine jx_istore_n (lv1 := [(1, .int 0), (0, .ref a0)]) dX0_countDead_1 rfl (by decide) rfl ?_
  refine jx_iconst (v := 0) dX0_countDead_2 (by decide) ?_
  refine jx_istore_n (lv1 := [(2, .int 0), (1, .int 0), (0, .ref a0)]) dX0_countDead_3 rfl (by decide) rfl ?_
  exact jx_lv [2, 1, 0] rfl h
set_option maxRecDepth 100000 in
set_option maxHeartbeats 4000000 in
theorem T_X0_countDead_4 {E : jEnv} {d : Nat} {Q : Int32 → jM → Prop} {a0 : Nat} {x1 : Int32} {x2 : Int32} {S : jM} (h : jk S a0 = 0 ∧ ((ji S a0 1) ≤ x2 → Q x1 S) ∧ (¬ (ji S a0 1) ≤ x2 → jFr E mX0_find d 0 0 [.ref a0, .int x2] S (fun o4 S3 => (o4 = none → L_X0_countDead_4 E d Q a0 (x1 + 0) (x2 + 1) S3) ∧ (∀ b5, o4 = some b5 → jk S3 b5 = 2 ∧ ((ji S3 b5 6) = 0 → L_X0_countDead_4 E d Q a0 (x1 + 0) (x2 + 1) S3) ∧ (¬ (ji S3 b5 6) = 0 → L_X0_countDead_4 E d Q a0 (x1 + 1) (x2 + 1) S3))))) : L_X0_countDead_4 E d Q a0 x1 x2 S := by
  show jX E mX0_countDead (jRm (d + 1) 0 0) (jZm E (fun r S' => ∃ v : Int32, r = some (.int v) ∧ Q v S') 0 0) 4 [(0, .ref a0), (1, .int x1), (2, .int x2)] [] S 0 0
  refine jx_iload_n 2 dX0_countDead_4 rfl rfl ?_
  refine jx_aload_n 0 dX0_countDead_5 rfl rfl ?_
  obtain ⟨hk1, h⟩ := h
  refine jx_geti jc_0 (j := 1) (by decide) rfl jwF_X0_22 dX0_countDead_6 hk1 ?_
  refine jx_icmp_ge (tgt := 43) dX0_countDead_9 (by decide) (fun c2 => ?_) (fun c2 => ?_)
  · replace h := h.1 c2
    refine jx_iload_n 1 dX0_countDead_43 rfl rfl ?_
    exact jx_iret dX0_countDead_44 rfl rfl (jle rfl) (jle rfl) ⟨_, rfl, h⟩
  replace h := h.2 c2
  refine jx_aload_n 0 dX0_countDead_12 rfl rfl ?_
  refine jx_iload_n 2 dX0_countDead_13 rfl rfl ?_
  refine jx_callVr (M' := mX0_find) (As := [.int x2]) jo_X0_find jc_0 rfl jwM_X0_46 jwN_X0_find jwX_X0_find dX0_countDead_14 (jRok_m _ _ _) rfl (jle rfl) ⟨jle rfl, jle rfl⟩ hk1 h (fun o4 S3 h => ?_)
  rcases o4 with _ | b5
  · replace h := h.1 rfl
    refine jx_astore_nN (lv1 := [(3, .null), (0, .ref a0), (1, .int x1), (2, .int x2)]) dX0_countDead_17 rfl (by decide) rfl ?_
    refine jx_iload_n 2 dX0_countDead_18 rfl rfl ?_
    refine jx_aload_nN 0 dX0_countDead_19 rfl rfl ?_
    refine jx_ifnullN (tgt := 34) dX0_countDead_20 (by decide) ?_
    refine jx_iconst (v := 0) dX0_countDead_34 (by decide) ?_
    refine jx_iadd dX0_countDead_35 ?_
    refine jx_istore_n (lv1 := [(1, .int (x1 + 0)), (3, .null), (0, .ref a0), (2, .int x2)]) dX0_countDead_36 rfl (by decide) rfl ?_
    refine jx_iinc 3 (v := (x2 + 1)) (lv1 := [(2, .int (x2 + 1)), (1, .int (x1 + 0)), (3, .null), (0, .ref a0)]) dX0_countDead_37 rfl rfl (by decide) rfl ?_
    refine jx_goto (tgt := 4) dX0_countDead_40 (by decide) ?_
    exact jx_lv [3, 1, 0] rfl h
  replace h := h.2 b5 rfl
  refine jx_astore_n (lv1 := [(3, .ref b5), (0, .ref a0), (1, .int x1), (2, .int x2)]) dX0_countDead_17 rfl (by decide) rfl ?_
  refine jx_iload_n 2 dX0_countDead_18 rfl rfl ?_
  refine jx_aload_n 0 dX0_countDead_19 rfl rfl ?_
  refine jx_ifnull dX0_countDead_20 ?_
  refine jx_aload_n 0 dX0_countDead_23 rfl rfl ?_
  obtain ⟨hk6, h⟩ := h
  refine jx_geti jc_2 (j := 6) (by decide) rfl jwF_X0_50 dX0_countDead_24 hk6 ?_
  refine jx_if_eq (tgt := 34) dX0_countDead_27 (by decide) (fun c7 => ?_) (fun c7 => ?_)
  · replace h := h.1 c7
    refine jx_iconst (v := 0) dX0_countDead_34 (by decide) ?_
    refine jx_iadd dX0_countDead_35 ?_
    refine jx_istore_n (lv1 := [(1, .int (x1 + 0)), (3, .ref b5), (0, .ref a0), (2, .int x2)]) dX0_countDead_36 rfl (by decide) rfl ?_
    refine jx_iinc 3 (v := (x2 + 1)) (lv1 := [(2, .int (x2 + 1)), (1, .int (x1 + 0)), (3, .ref b5), (0, .ref a0)]) dX0_countDead_37 rfl rfl (by decide) rfl ?_
    refine jx_goto (tgt := 4) dX0_countDead_40 (by decide) ?_
    exact jx_lv [3, 1, 0] rfl h
  replace h := h.2 c7
  refine jx_iconst (v := 1) dX0_countDead_30 (by decide) ?_
  refine jx_goto (tgt := 35) dX0_countDead_31 (by decide) ?_
  refine jx_iadd dX0_countDead_35 ?_
  refine jx_istore_n (lv1 := [(1, .int (x1 + 1)), (3, .ref b5), (0, .ref a0), (2, .int x2)]) dX0_countDead_36 rfl (by decide) rfl ?_
  refine jx_iinc 3 (v := (x2 + 1)) (lv1 := [(2, .int (x2 + 1)), (1, .int (x1 + 1)), (3, .ref b5), (0, .ref a0)]) dX0_countDead_37 rfl rfl (by decide) rfl ?_
  refine jx_goto (tgt := 4) dX0_countDead_40 (by decide) ?_
  exact jx_lv [3, 1, 0] rfl h
/-- X0_agesTogether at its loop's head 4 -/
abbrev L_X0_agesTogether_4 (E : jEnv) (d : Nat) (Q : Int32 → jM → Prop) (a0 : Nat) (x1 : Int32) (x2 : Int32) (S : jM) : Prop := jX E mX0_agesTogether (jRm (d + 1) 0 0) (jZm E (fun r S' => ∃ v : Int32, r = some (.int v) ∧ Q v S') 0 0) 4 [(0, .ref a0), (1, .int x1), (2, .int x2)] [] S 0 0
set_option maxRecDepth 100000 in
set_option maxHeartbeats 4000000 in
theorem T_X0_agesTogether {E : jEnv} {d : Nat} {Q : Int32 → jM → Prop} {a0 : Nat} {S : jM} (h : L_X0_agesTogether_4 E d Q a0 0 0 S) : jFi E mX0_agesTogether (d + 1) 0 0 [.ref a0] S Q := by
  refine jF_of (by decide) (jle rfl) ?_
  refine jx_lv (lv1 := [(0, .ref a0)]) [0] rfl ?_
  refine jx_iconst (v := 0) dX0_agesTogether_0 (by decide) ?_
  refine jx_istore_n (lv1 := [(1, .int 0), (0, .ref a0)]) dX0_agesTogether_1 rfl (by decide) rfl ?_
  refine jx_iconst (v := 0) dX0_agesTogether_2 (by decide) ?_
  refine jx_istore_n (lv1 := [(2, .int 0), (1, .int 0), (0, .ref a0)]) dX0_agesTogether_3 rfl (by decide) rfl ?_
  exact jx_lv [2, 1, 0] rfl h
set_option maxRecDepth 100000 in
set_option maxHeartbeats 4000000 in
theorem T_X0_agesTogether_4 {E : jEnv} {d : Nat} {Q : Int32 → jM → Prop} {a0 : Nat} {x1 : Int32} {x2 : Int32} {S : jM} (h : jk S a0 = 0 ∧ ((ji S a0 1) ≤ x2 → Q x1 S) ∧ (¬ (ji S a0 1) ≤ x2 → jFr E mX0_find d 0 0 [.ref a0, .int x2] S (fun o4 S3 => (o4 = none → L_X0_agesTogether_4 E d Q a0 (x1 + 0) (x2 + 1) S3) ∧ (∀ b5, o4 = some b5 → jk S3 b5 = 2 ∧ L_X0_agesTogether_4 E d Q a0 (x1 + (ji S3 b5 5)) (x2 + 1) S3)))) : L_X0_agesTogether_4 E d Q a0 x1 x2 S := by
  show jX E mX0_agesTogether (jRm (d + 1) 0 0) (jZm E (fun r S' => ∃ v : Int32, r = some (.int v) ∧ Q v S') 0 0) 4 [(0, .ref a0), (1, .int x1), (2, .int x2)] [] S 0 0
  refine jx_iload_n 2 dX0_agesTogether_4 rfl rfl ?_
  refine jx_aload_n 0 dX0_agesTogether_5 rfl rfl ?_
  obtain ⟨hk1, h⟩ := h
  refine jx_geti jc_0 (j := 1) (by decide) rfl jwF_X0_22 dX0_agesTogether_6 hk1 ?_
  refine jx_icmp_ge (tgt := 39) dX0_agesTogether_9 (by decide) (fun c2 => ?_) (fun c2 => ?_)
  · replace h := h.1 c2
    refine jx_iload_n 1 dX0_agesTogether_39 rfl rfl ?_
    exact jx_iret dX0_agesTogether_40 rfl rfl (jle rfl) (jle rfl) ⟨_, rfl, h⟩
  replace h := h.2 c2
  refine jx_aload_n 0 dX0_agesTogether_12 rfl rfl ?_
  refine jx_iload_n 2 dX0_agesTogether_13 rfl rfl ?_
  refine jx_callVr (M' := mX0_find) (As := [.int x2]) jo_X0_find jc_0 rfl jwM_X0_46 jwN_X0_find jwX_X0_find dX0_agesTogether_14 (jRok_m _ _ _) rfl (jle rfl) ⟨jle rfl, jle rfl⟩ hk1 h (fun o4 S3 h => ?_)
  rcases o4 with _ | b5
  · replace h := h.1 rfl
    refine jx_astore_nN (lv1 := [(3, .null), (0, .ref a0), (1, .int x1), (2, .int x2)]) dX0_agesTogether_17 rfl (by decide) rfl ?_
    refine jx_iload_n 2 dX0_agesTogether_18 rfl rfl ?_
    refine jx_aload_nN 0 dX0_agesTogether_19 rfl rfl ?_
    refine jx_ifnonnullN dX0_agesTogether_20 ?_
    refine jx_iconst (v := 0) dX0_agesTogether_23 (by decide) ?_
    refine jx_goto (tgt := 31) dX0_agesTogether_24 (by decide) ?_
    refine jx_iadd dX0_agesTogether_31 ?_
    refine jx_istore_n (lv1 := [(1, .int (x1 + 0)), (3, .null), (0, .ref a0), (2, .int x2)]) dX0_agesTogether_32 rfl (by decide) rfl ?_
    refine jx_iinc 3 (v := (x2 + 1)) (lv1 := [(2, .int (x2 + 1)), (1, .int (x1 + 0)), (3, .null), (0, .ref a0)]) dX0_agesTogether_33 rfl rfl (by decide) rfl ?_
    refine jx_goto (tgt := 4) dX0_agesTogether_36 (by decide) ?_
    exact jx_lv [3, 1, 0] rfl h
  replace h := h.2 b5 rfl
  refine jx_astore_n (lv1 := [(3, .ref b5), (0, .ref a0), (1, .int x1), (2, .int x2)]) dX0_agesTogether_17 rfl (by decide) rfl ?_
  refine jx_iload_n 2 dX0_agesTogether_18 rfl rfl ?_
  refine jx_aload_n 0 dX0_agesTogether_19 rfl rfl ?_
  refine jx_ifnonnull (tgt := 27) dX0_agesTogether_20 (by decide) ?_
  refine jx_aload_n 0 dX0_agesTogether_27 rfl rfl ?_
  obtain ⟨hk6, h⟩ := h
  refine jx_geti jc_2 (j := 5) (by decide) rfl jwF_X0_54 dX0_agesTogether_28 hk6 ?_
  refine jx_iadd dX0_agesTogether_31 ?_
  refine jx_istore_n (lv1 := [(1, .int (x1 + (ji S3 b5 5))), (3, .ref b5), (0, .ref a0), (2, .int x2)]) dX0_agesTogether_32 rfl (by decide) rfl ?_
  refine jx_iinc 3 (v := (x2 + 1)) (lv1 := [(2, .int (x2 + 1)), (1, .int (x1 + (ji S3 b5 5))), (3, .ref b5), (0, .ref a0)]) dX0_agesTogether_33 rfl rfl (by decide) rfl ?_
  refine jx_goto (tgt := 4) dX0_agesTogether_36 (by decide) ?_
  exact jx_lv [3, 1, 0] rfl h
/-- X0_taught at its loop's head 4 -/
abbrev L_X0_taught_4 (E : jEnv) (d : Nat) (Q : Int32 → jM → Prop) (a0 : Nat) (x1 : Int32) (x2 : Int32) (S : jM) : Prop := jX E mX0_taught (jRm (d + 1) 0 0) (jZm E (fun r S' => ∃ v : Int32, r = some (.int v) ∧ Q v S') 0 0) 4 [(0, .ref a0), (1, .int x1), (2, .int x2)] [] S 0 0
set_option maxRecDepth 100000 in
set_option maxHeartbeats 4000000 in
theorem T_X0_taught {E : jEnv} {d : Nat} {Q : Int32 → jM → Prop} {a0 : Nat} {S : jM} (h : L_X0_taught_4 E d Q a0 0 0 S) : jFi E mX0_taught (d + 1) 0 0 [.ref a0] S Q := by
  refine jF_of (by decide) (jle rfl) ?_
  refine jx_lv (lv1 := [(0, .ref a0)]) [0] rfl ?_
  refine jx_iconst (v := 0) dX0_taught_0 (by decide) ?_
  refine jx_istore_n (lv1 := [(1, .int 0), (0, .ref a0)]) dX0_taught_1 rfl (by decide) rfl ?_
  refine jx_iconst (v := 0) dX0_taught_2 (by decide) ?_
  refine jx_istore_n (lv1 := [(2, .int 0), (1, .int 0), (0, .ref a0)]) dX0_taught_3 rfl (by decide) rfl ?_
  exact jx_lv [2, 1, 0] rfl h
set_option maxRecDepth 100000 in
set_option maxHeartbeats 4000000 in
theorem T_X0_taught_4 {E : jEnv} {d : Nat} {Q : Int32 → jM → Prop} {a0 : Nat} {x1 : Int32} {x2 : Int32} {S : jM} (h : jk S a0 = 0 ∧ ((ji S a0 1) ≤ x2 → Q x1 S) ∧ (¬ (ji S a0 1) ≤ x2 → jFr E mX0_find d 0 0 [.ref a0, .int x2] S (fun o4 S3 => (o4 = none → L_X0_taught_4 E d Q a0 (x1 ||| 0) (x2 + 1) S3) ∧ (∀ b5, o4 = some b5 → jk S3 b5 = 2 ∧ ((ji S3 b5 6) = 0 → L_X0_taught_4 E d Q a0 (x1 ||| (jshl 1 (ji S3 b5 2))) (x2 + 1) S3) ∧ (¬ (ji S3 b5 6) = 0 → L_X0_taught_4 E d Q a0 (x1 ||| 0) (x2 + 1) S3))))) : L_X0_taught_4 E d Q a0 x1 x2 S := by
  show jX E mX0_taught (jRm (d + 1) 0 0) (jZm E (fun r S' => ∃ v : Int32, r = some (.int v) ∧ Q v S') 0 0) 4 [(0, .ref a0), (1, .int x1), (2, .int x2)] [] S 0 0
  refine jx_iload_n 2 dX0_taught_4 rfl rfl ?_
  refine jx_aload_n 0 dX0_taught_5 rfl rfl ?_
  obtain ⟨hk1, h⟩ := h
  refine jx_geti jc_0 (j := 1) (by decide) rfl jwF_X0_22 dX0_taught_6 hk1 ?_
  refine jx_icmp_ge (tgt := 48) dX0_taught_9 (by decide) (fun c2 => ?_) (fun c2 => ?_)
  · replace h := h.1 c2
    refine jx_iload_n 1 dX0_taught_48 rfl rfl ?_
    exact jx_iret dX0_taught_49 rfl rfl (jle rfl) (jle rfl) ⟨_, rfl, h⟩
  replace h := h.2 c2
  refine jx_aload_n 0 dX0_taught_12 rfl rfl ?_
  refine jx_iload_n 2 dX0_taught_13 rfl rfl ?_
  refine jx_callVr (M' := mX0_find) (As := [.int x2]) jo_X0_find jc_0 rfl jwM_X0_46 jwN_X0_find jwX_X0_find dX0_taught_14 (jRok_m _ _ _) rfl (jle rfl) ⟨jle rfl, jle rfl⟩ hk1 h (fun o4 S3 h => ?_)
  rcases o4 with _ | b5
  · replace h := h.1 rfl
    refine jx_astore_nN (lv1 := [(3, .null), (0, .ref a0), (1, .int x1), (2, .int x2)]) dX0_taught_17 rfl (by decide) rfl ?_
    refine jx_iload_n 2 dX0_taught_18 rfl rfl ?_
    refine jx_aload_nN 0 dX0_taught_19 rfl rfl ?_
    refine jx_ifnullN (tgt := 30) dX0_taught_20 (by decide) ?_
    refine jx_iconst (v := 0) dX0_taught_30 (by decide) ?_
    refine jx_goto (tgt := 40) dX0_taught_31 (by decide) ?_
    refine jx_ior dX0_taught_40 ?_
    refine jx_istore_n (lv1 := [(1, .int (x1 ||| 0)), (3, .null), (0, .ref a0), (2, .int x2)]) dX0_taught_41 rfl (by decide) rfl ?_
    refine jx_iinc 3 (v := (x2 + 1)) (lv1 := [(2, .int (x2 + 1)), (1, .int (x1 ||| 0)), (3, .null), (0, .ref a0)]) dX0_taught_42 rfl rfl (by decide) rfl ?_
    refine jx_goto (tgt := 4) dX0_taught_45 (by decide) ?_
    exact jx_lv [3, 1, 0] rfl h
  replace h := h.2 b5 rfl
  refine jx_astore_n (lv1 := [(3, .ref b5), (0, .ref a0), (1, .int x1), (2, .int x2)]) dX0_taught_17 rfl (by decide) rfl ?_
  refine jx_iload_n 2 dX0_taught_18 rfl rfl ?_
  refine jx_aload_n 0 dX0_taught_19 rfl rfl ?_
  refine jx_ifnull dX0_taught_20 ?_
  refine jx_aload_n 0 dX0_taught_23 rfl rfl ?_
  obtain ⟨hk6, h⟩ := h
  refine jx_geti jc_2 (j := 6) (by decide) rfl jwF_X0_50 dX0_taught_24 hk6 ?_
  refine jx_if_eq (tgt := 34) dX0_taught_27 (by decide) (fun c7 => ?_) (fun c7 => ?_)
  · replace h := h.1 c7
    refine jx_iconst (v := 1) dX0_taught_34 (by decide) ?_
    refine jx_aload_n 0 dX0_taught_35 rfl rfl ?_
    refine jx_geti jc_2 (j := 2) (by decide) rfl jwF_X0_66 dX0_taught_36 hk6 ?_
    refine jx_ishl dX0_taught_39 ?_
    refine jx_ior dX0_taught_40 ?_
    refine jx_istore_n (lv1 := [(1, .int (x1 ||| (jshl 1 (ji S3 b5 2)))), (3, .ref b5), (0, .ref a0), (2, .int x2)]) dX0_taught_41 rfl (by decide) rfl ?_
    refine jx_iinc 3 (v := (x2 + 1)) (lv1 := [(2, .int (x2 + 1)), (1, .int (x1 ||| (jshl 1 (ji S3 b5 2)))), (3, .ref b5), (0, .ref a0)]) dX0_taught_42 rfl rfl (by decide) rfl ?_
    refine jx_goto (tgt := 4) dX0_taught_45 (by decide) ?_
    exact jx_lv [3, 1, 0] rfl h
  replace h := h.2 c7
  refine jx_iconst (v := 0) dX0_taught_30 (by decide) ?_
  refine jx_goto (tgt := 40) dX0_taught_31 (by decide) ?_
  refine jx_ior dX0_taught_40 ?_
  refine jx_istore_n (lv1 := [(1, .int (x1 ||| 0)), (3, .ref b5), (0, .ref a0), (2, .int x2)]) dX0_taught_41 rfl (by decide) rfl ?_
  refine jx_iinc 3 (v := (x2 + 1)) (lv1 := [(2, .int (x2 + 1)), (1, .int (x1 ||| 0)), (3, .ref b5), (0, .ref a0)]) dX0_taught_42 rfl rfl (by decide) rfl ?_
  refine jx_goto (tgt := 4) dX0_taught_45 (by decide) ?_
  exact jx_lv [3, 1, 0] rfl h
/-- X0_onlyTeacher at its loop's head 5 -/
abbrev L_X0_onlyTeacher_5 (E : jEnv) (d : Nat) (Q : Int32 → jM → Prop) (a0 : Nat) (x1 : Int32) (x2 : Int32) (x3 : Int32) (S : jM) : Prop := jX E mX0_onlyTeacher (jRm (d + 1) 0 0) (jZm E (fun r S' => ∃ v : Int32, r = some (.int v) ∧ Q v S') 0 0) 5 [(0, .ref a0), (1, .int x1), (2, .int x2), (3, .int x3)] [] S 0 0
set_option maxRecDepth 100000 in
set_option maxHeartbeats 4000000 in
theorem T_X0_onlyTeacher {E : jEnv} {d : Nat} {Q : Int32 → jM → Prop} {a0 : Nat} {x1 : Int32} {S : jM} (h : L_X0_onlyTeacher_5 E d Q a0 x1 (-1000000005) 0 S) : jFi E mX0_onlyTeacher (d + 1) 0 0 [.ref a0, .int x1] S Q := by
  refine jF_of (by decide) (jle rfl) ?_
  refine jx_lv (lv1 := [(0, .ref a0), (1, .int x1)]) [0, 1] rfl ?_
  refine jx_ldc jwC_X0_69 dX0_onlyTeacher_0 ?_
  refine jx_istore_n (lv1 := [(2, .int (-1000000005)), (0, .ref a0), (1, .int x1)]) dX0_onlyTeacher_2 rfl (by decide) rfl ?_
  refine jx_iconst (v := 0) dX0_onlyTeacher_3 (by decide) ?_
  refine jx_istore_n (lv1 := [(3, .int 0), (2, .int (-1000000005)), (0, .ref a0), (1, .int x1)]) dX0_onlyTeacher_4 rfl (by decide) rfl ?_
  exact jx_lv [2, 3, 1, 0] rfl h
set_option maxRecDepth 100000 in
set_option maxHeartbeats 4000000 in
theorem T_X0_onlyTeacher_5 {E : jEnv} {d : Nat} {Q : Int32 → jM → Prop} {a0 : Nat} {x1 : Int32} {x2 : Int32} {x3 : Int32} {S : jM} (h : jk S a0 = 0 ∧ ((ji S a0 1) ≤ x3 → Q x2 S) ∧ (¬ (ji S a0 1) ≤ x3 → jFr E mX0_find d 0 0 [.ref a0, .int x3] S (fun o4 S3 => (o4 = none → L_X0_onlyTeacher_5 E d Q a0 x1 x2 (x3 + 1) S3) ∧ (∀ b5, o4 = some b5 → jk S3 b5 = 2 ∧ ((ji S3 b5 6) = 0 → ((ji S3 b5 2) = x1 → (x2 = (-1000000005) → L_X0_onlyTeacher_5 E d Q a0 x1 x3 (x3 + 1) S3) ∧ (¬ x2 = (-1000000005) → Q (-1000000005) S3)) ∧ (¬ (ji S3 b5 2) = x1 → L_X0_onlyTeacher_5 E d Q a0 x1 x2 (x3 + 1) S3)) ∧ (¬ (ji S3 b5 6) = 0 → L_X0_onlyTeacher_5 E d Q a0 x1 x2 (x3 + 1) S3))))) : L_X0_onlyTeacher_5 E d Q a0 x1 x2 x3 S := by
  show jX E mX0_onlyTeacher (jRm (d + 1) 0 0) (jZm E (fun r S' => ∃ v : Int32, r = some (.int v) ∧ Q v S') 0 0) 5 [(0, .ref a0), (1, .int x1), (2, .int x2), (3, .int x3)] [] S 0 0
  refine jx_iload_n 3 dX0_onlyTeacher_5 rfl rfl ?_
  refine jx_aload_n 0 dX0_onlyTeacher_6 rfl rfl ?_
  obtain ⟨hk1, h⟩ := h
  refine jx_geti jc_0 (j := 1) (by decide) rfl jwF_X0_22 dX0_onlyTeacher_7 hk1 ?_
  refine jx_icmp_ge (tgt := 59) dX0_onlyTeacher_10 (by decide) (fun c2 => ?_) (fun c2 => ?_)
  · replace h := h.1 c2
    refine jx_iload_n 2 dX0_onlyTeacher_59 rfl rfl ?_
    exact jx_iret dX0_onlyTeacher_60 rfl rfl (jle rfl) (jle rfl) ⟨_, rfl, h⟩
  replace h := h.2 c2
  refine jx_aload_n 0 dX0_onlyTeacher_13 rfl rfl ?_
  refine jx_iload_n 3 dX0_onlyTeacher_14 rfl rfl ?_
  refine jx_callVr (M' := mX0_find) (As := [.int x3]) jo_X0_find jc_0 rfl jwM_X0_46 jwN_X0_find jwX_X0_find dX0_onlyTeacher_15 (jRok_m _ _ _) rfl (jle rfl) ⟨jle rfl, jle rfl⟩ hk1 h (fun o4 S3 h => ?_)
  rcases o4 with _ | b5
  · replace h := h.1 rfl
    refine jx_astoreN (lv1 := [(4, .null), (0, .ref a0), (1, .int x1), (2, .int x2), (3, .int x3)]) dX0_onlyTeacher_18 (by decide) rfl ?_
    refine jx_aloadN 0 dX0_onlyTeacher_20 rfl ?_
    refine jx_ifnullN (tgt := 53) dX0_onlyTeacher_22 (by decide) ?_
    refine jx_iinc 4 (v := (x3 + 1)) (lv1 := [(3, .int (x3 + 1)), (4, .null), (0, .ref a0), (1, .int x1), (2, .int x2)]) dX0_onlyTeacher_53 rfl rfl (by decide) rfl ?_
    refine jx_goto (tgt := 5) dX0_onlyTeacher_56 (by decide) ?_
    exact jx_lv [2, 3, 4, 0] rfl h
  replace h := h.2 b5 rfl
  refine jx_astore (lv1 := [(4, .ref b5), (0, .ref a0), (1, .int x1), (2, .int x2), (3, .int x3)]) dX0_onlyTeacher_18 (by decide) rfl ?_
  refine jx_aload 0 dX0_onlyTeacher_20 rfl ?_
  refine jx_ifnull dX0_onlyTeacher_22 ?_
  refine jx_aload 0 dX0_onlyTeacher_25 rfl ?_
  obtain ⟨hk6, h⟩ := h
  refine jx_geti jc_2 (j := 6) (by decide) rfl jwF_X0_50 dX0_onlyTeacher_27 hk6 ?_
  refine jx_if_ne (tgt := 53) dX0_onlyTeacher_30 (by decide) (fun c7 => ?_) (fun c7 => ?_)
  · replace h := h.2 c7
    refine jx_iinc 4 (v := (x3 + 1)) (lv1 := [(3, .int (x3 + 1)), (4, .ref b5), (0, .ref a0), (1, .int x1), (2, .int x2)]) dX0_onlyTeacher_53 rfl rfl (by decide) rfl ?_
    refine jx_goto (tgt := 5) dX0_onlyTeacher_56 (by decide) ?_
    exact jx_lv [2, 3, 4, 0] rfl h
  replace h := h.1 c7
  refine jx_aload 0 dX0_onlyTeacher_33 rfl ?_
  refine jx_geti jc_2 (j := 2) (by decide) rfl jwF_X0_66 dX0_onlyTeacher_35 hk6 ?_
  refine jx_iload_n 2 dX0_onlyTeacher_38 rfl rfl ?_
  refine jx_icmp_ne (tgt := 53) dX0_onlyTeacher_39 (by decide) (fun c8 => ?_) (fun c8 => ?_)
  · replace h := h.2 c8
    refine jx_iinc 4 (v := (x3 + 1)) (lv1 := [(3, .int (x3 + 1)), (4, .ref b5), (0, .ref a0), (1, .int x1), (2, .int x2)]) dX0_onlyTeacher_53 rfl rfl (by decide) rfl ?_
    refine jx_goto (tgt := 5) dX0_onlyTeacher_56 (by decide) ?_
    exact jx_lv [2, 3, 4, 0] rfl h
  replace h := h.1 c8
  refine jx_iload_n 3 dX0_onlyTeacher_42 rfl rfl ?_
  refine jx_ldc jwC_X0_69 dX0_onlyTeacher_43 ?_
  refine jx_icmp_eq (tgt := 51) dX0_onlyTeacher_45 (by decide) (fun c9 => ?_) (fun c9 => ?_)
  · replace h := h.1 c9
    refine jx_iload_n 4 dX0_onlyTeacher_51 rfl rfl ?_
    refine jx_istore_n (lv1 := [(2, .int x3), (4, .ref b5), (0, .ref a0), (1, .int x1), (3, .int x3)]) dX0_onlyTeacher_52 rfl (by decide) rfl ?_
    refine jx_iinc 4 (v := (x3 + 1)) (lv1 := [(3, .int (x3 + 1)), (2, .int x3), (4, .ref b5), (0, .ref a0), (1, .int x1)]) dX0_onlyTeacher_53 rfl rfl (by decide) rfl ?_
    refine jx_goto (tgt := 5) dX0_onlyTeacher_56 (by decide) ?_
    exact jx_lv [3, 4, 1, 0] rfl h
  replace h := h.2 c9
  refine jx_ldc jwC_X0_69 dX0_onlyTeacher_48 ?_
  exact jx_iret dX0_onlyTeacher_50 rfl rfl (jle rfl) (jle rfl) ⟨_, rfl, h⟩
set_option maxRecDepth 100000 in
set_option maxHeartbeats 4000000 in
theorem T_X0_canBringTogether {E : jEnv} {d : Nat} {Q : Int32 → jM → Prop} {a0 : Nat} {x1 : Int32} {S : jM} (h : jFi E mX0_leadsTo d 0 0 [.ref a0, .int 0, .int x1] S (fun r2 S1 => (r2 = 0 ∨ r2 = 1) ∧ Q r2 S1)) : jFi E mX0_canBringTogether (d + 1) 0 0 [.ref a0, .int x1] S Q := by
  refine jF_of (by decide) (jle rfl) ?_
  refine jx_lv (lv1 := [(0, .ref a0), (1, .int x1)]) [0, 1] rfl ?_
  refine jx_aload_n 0 dX0_canBringTogether_0 rfl rfl ?_
  refine jx_iconst (v := 0) dX0_canBringTogether_1 (by decide) ?_
  refine jx_iload_n 1 dX0_canBringTogether_2 rfl rfl ?_
  refine jx_callSi (M' := mX0_leadsTo) (As := [.ref a0, .int 0, .int x1]) jo_X0_leadsTo jwM_X0_70 jwS_X0_leadsTo dX0_canBringTogether_3 (jRok_m _ _ _) rfl (jle rfl) ⟨jle rfl, jle rfl⟩ h (fun r2 S1 h => ?_)
  obtain ⟨hb3, h⟩ := h
  exact jx_iret dX0_canBringTogether_6 rfl (jb_nar hb3) (jle rfl) (jle rfl) ⟨_, rfl, h⟩
/-- X0_leadsTo at its loop's head 23 -/
abbrev L_X0_leadsTo_23 (E : jEnv) (d : Nat) (Q : Int32 → jM → Prop) (a0 : Nat) (x1 : Int32) (x2 : Int32) (x3 : Int32) (S : jM) : Prop := jX E mX0_leadsTo (jRm (d + 1) 0 0) (jZm E (fun r S' => ∃ v : Int32, r = some (.int v) ∧ Q v S') 0 0) 23 [(0, .ref a0), (1, .int x1), (2, .int x2), (3, .int x3)] [] S 0 0
set_option maxRecDepth 100000 in
set_option maxHeartbeats 4000000 in
theorem T_X0_leadsTo {E : jEnv} {d : Nat} {Q : Int32 → jM → Prop} {a0 : Nat} {x1 : Int32} {x2 : Int32} {S : jM} (h : (x1 = x2 → Q 1 S) ∧ (¬ x1 = x2 → ((jbc (x2 &&& (x1 ^^^ (-1)))) ≤ 3 → L_X0_leadsTo_23 E d Q a0 x1 x2 0 S) ∧ (¬ (jbc (x2 &&& (x1 ^^^ (-1)))) ≤ 3 → Q 0 S))) : jFi E mX0_leadsTo (d + 1) 0 0 [.ref a0, .int x1, .int x2] S Q := by
  refine jF_of (by decide) (jle rfl) ?_
  refine jx_lv (lv1 := [(0, .ref a0), (1, .int x1), (2, .int x2)]) [0, 1, 2] rfl ?_
  refine jx_iload_n 1 dX0_leadsTo_0 rfl rfl ?_
  refine jx_iload_n 2 dX0_leadsTo_1 rfl rfl ?_
  refine jx_icmp_ne (tgt := 7) dX0_leadsTo_2 (by decide) (fun c1 => ?_) (fun c1 => ?_)
  · replace h := h.2 c1
    refine jx_iload_n 2 dX0_leadsTo_7 rfl rfl ?_
    refine jx_iload_n 1 dX0_leadsTo_8 rfl rfl ?_
    refine jx_iconst (v := (-1)) dX0_leadsTo_9 (by decide) ?_
    refine jx_ixor dX0_leadsTo_10 ?_
    refine jx_iand dX0_leadsTo_11 ?_
    refine jx_callSi (M' := mJ6_bitCount_0f7a4) (As := [.int (x2 &&& (x1 ^^^ (-1)))]) jo_J6_bitCount_0f7a4 jwM_X0_74 jwS_J6_bitCount_0f7a4 dX0_leadsTo_12 (jRok_m _ _ _) rfl (jle rfl) ⟨jle rfl, jle rfl⟩ (c_J6_bitCount_0f7a4 (Q := fun v S' => v = (jbc (x2 &&& (x1 ^^^ (-1)))) ∧ S = S') ⟨rfl, rfl⟩) (fun r2 S3 hq4 => ?_)
    obtain ⟨rfl, rfl⟩ := hq4
    refine jx_iconst (v := 3) dX0_leadsTo_15 (by decide) ?_
    refine jx_icmp_le (tgt := 21) dX0_leadsTo_16 (by decide) (fun c5 => ?_) (fun c5 => ?_)
    · replace h := h.1 c5
      refine jx_iconst (v := 0) dX0_leadsTo_21 (by decide) ?_
      refine jx_istore_n (lv1 := [(3, .int 0), (0, .ref a0), (1, .int x1), (2, .int x2)]) dX0_leadsTo_22 rfl (by decide) rfl ?_
      exact jx_lv [1, 2, 3, 0] rfl h
    replace h := h.2 c5
    refine jx_iconst (v := 0) dX0_leadsTo_19 (by decide) ?_
    exact jx_iret dX0_leadsTo_20 rfl (by decide) (jle rfl) (jle rfl) ⟨_, rfl, h⟩
  replace h := h.1 c1
  refine jx_iconst (v := 1) dX0_leadsTo_5 (by decide) ?_
  exact jx_iret dX0_leadsTo_6 rfl (by decide) (jle rfl) (jle rfl) ⟨_, rfl, h⟩
set_option maxRecDepth 100000 in
set_option maxHeartbeats 4000000 in
theorem T_X0_leadsTo_23 {E : jEnv} {d : Nat} {Q : Int32 → jM → Prop} {a0 : Nat} {x1 : Int32} {x2 : Int32} {x3 : Int32} {S : jM} (h : jk S a0 = 0 ∧ ((ji S a0 1) ≤ x3 → Q 0 S) ∧ (¬ (ji S a0 1) ≤ x3 → jFr E mX0_find d 0 0 [.ref a0, .int x3] S (fun o9 S8 => (o9 = none → L_X0_leadsTo_23 E d Q a0 x1 x2 (x3 + 1) S8) ∧ (∀ b10, o9 = some b10 → jFi E mX0_helps d 0 0 [.ref b10, .int x1, .int x2] S8 (fun r12 S11 => (r12 = 0 → L_X0_leadsTo_23 E d Q a0 x1 x2 (x3 + 1) S11) ∧ (¬ r12 = 0 → jk S11 b10 = 2 ∧ jFi E mX0_leadsTo d 0 0 [.ref a0, .int (x1 ||| (jshl 1 (ji S11 b10 2))), .int x2] S11 (fun r16 S15 => (r16 = 0 → L_X0_leadsTo_23 E d Q a0 x1 x2 (x3 + 1) S15) ∧ (¬ r16 = 0 → Q 1 S15)))))))) : L_X0_leadsTo_23 E d Q a0 x1 x2 x3 S := by
  show jX E mX0_leadsTo (jRm (d + 1) 0 0) (jZm E (fun r S' => ∃ v : Int32, r = some (.int v) ∧ Q v S') 0 0) 23 [(0, .ref a0), (1, .int x1), (2, .int x2), (3, .int x3)] [] S 0 0
  refine jx_iload_n 3 dX0_leadsTo_23 rfl rfl ?_
  refine jx_aload_n 0 dX0_leadsTo_24 rfl rfl ?_
  obtain ⟨hk6, h⟩ := h
  refine jx_geti jc_0 (j := 1) (by decide) rfl jwF_X0_22 dX0_leadsTo_25 hk6 ?_
  refine jx_icmp_ge (tgt := 78) dX0_leadsTo_28 (by decide) (fun c7 => ?_) (fun c7 => ?_)
  · replace h := h.1 c7
    refine jx_iconst (v := 0) dX0_leadsTo_78 (by decide) ?_
    exact jx_iret dX0_leadsTo_79 rfl (by decide) (jle rfl) (jle rfl) ⟨_, rfl, h⟩
  replace h := h.2 c7
  refine jx_aload_n 0 dX0_leadsTo_31 rfl rfl ?_
  refine jx_iload_n 3 dX0_leadsTo_32 rfl rfl ?_
  refine jx_callVr (M' := mX0_find) (As := [.int x3]) jo_X0_find jc_0 rfl jwM_X0_46 jwN_X0_find jwX_X0_find dX0_leadsTo_33 (jRok_m _ _ _) rfl (jle rfl) ⟨jle rfl, jle rfl⟩ hk6 h (fun o9 S8 h => ?_)
  rcases o9 with _ | b10
  · replace h := h.1 rfl
    refine jx_astoreN (lv1 := [(4, .null), (0, .ref a0), (1, .int x1), (2, .int x2), (3, .int x3)]) dX0_leadsTo_36 (by decide) rfl ?_
    refine jx_aloadN 0 dX0_leadsTo_38 rfl ?_
    refine jx_ifnullN (tgt := 72) dX0_leadsTo_40 (by decide) ?_
    refine jx_iinc 4 (v := (x3 + 1)) (lv1 := [(3, .int (x3 + 1)), (4, .null), (0, .ref a0), (1, .int x1), (2, .int x2)]) dX0_leadsTo_72 rfl rfl (by decide) rfl ?_
    refine jx_goto (tgt := 23) dX0_leadsTo_75 (by decide) ?_
    exact jx_lv [2, 3, 4, 0] rfl h
  replace h := h.2 b10 rfl
  refine jx_astore (lv1 := [(4, .ref b10), (0, .ref a0), (1, .int x1), (2, .int x2), (3, .int x3)]) dX0_leadsTo_36 (by decide) rfl ?_
  refine jx_aload 0 dX0_leadsTo_38 rfl ?_
  refine jx_ifnull dX0_leadsTo_40 ?_
  refine jx_aload 0 dX0_leadsTo_43 rfl ?_
  refine jx_iload_n 2 dX0_leadsTo_45 rfl rfl ?_
  refine jx_iload_n 3 dX0_leadsTo_46 rfl rfl ?_
  refine jx_callSi (M' := mX0_helps) (As := [.ref b10, .int x1, .int x2]) jo_X0_helps jwM_X0_80 jwS_X0_helps dX0_leadsTo_47 (jRok_m _ _ _) rfl (jle rfl) ⟨jle rfl, jle rfl⟩ h (fun r12 S11 h => ?_)
  refine jx_if_eq (tgt := 72) dX0_leadsTo_50 (by decide) (fun c13 => ?_) (fun c13 => ?_)
  · replace h := h.1 c13
    refine jx_iinc 4 (v := (x3 + 1)) (lv1 := [(3, .int (x3 + 1)), (4, .ref b10), (0, .ref a0), (1, .int x1), (2, .int x2)]) dX0_leadsTo_72 rfl rfl (by decide) rfl ?_
    refine jx_goto (tgt := 23) dX0_leadsTo_75 (by decide) ?_
    exact jx_lv [2, 3, 4, 0] rfl h
  replace h := h.2 c13
  refine jx_aload_n 1 dX0_leadsTo_53 rfl rfl ?_
  refine jx_iload_n 2 dX0_leadsTo_54 rfl rfl ?_
  refine jx_iconst (v := 1) dX0_leadsTo_55 (by decide) ?_
  refine jx_aload 0 dX0_leadsTo_56 rfl ?_
  obtain ⟨hk14, h⟩ := h
  refine jx_geti jc_2 (j := 2) (by decide) rfl jwF_X0_66 dX0_leadsTo_58 hk14 ?_
  refine jx_ishl dX0_leadsTo_61 ?_
  refine jx_ior dX0_leadsTo_62 ?_
  refine jx_iload_n 3 dX0_leadsTo_63 rfl rfl ?_
  refine jx_callSi (M' := mX0_leadsTo) (As := [.ref a0, .int (x1 ||| (jshl 1 (ji S11 b10 2))), .int x2]) jo_X0_leadsTo jwM_X0_70 jwS_X0_leadsTo dX0_leadsTo_64 (jRok_m _ _ _) rfl (jle rfl) ⟨jle rfl, jle rfl⟩ h (fun r16 S15 h => ?_)
  refine jx_if_eq (tgt := 72) dX0_leadsTo_67 (by decide) (fun c17 => ?_) (fun c17 => ?_)
  · replace h := h.1 c17
    refine jx_iinc 4 (v := (x3 + 1)) (lv1 := [(3, .int (x3 + 1)), (4, .ref b10), (0, .ref a0), (1, .int x1), (2, .int x2)]) dX0_leadsTo_72 rfl rfl (by decide) rfl ?_
    refine jx_goto (tgt := 23) dX0_leadsTo_75 (by decide) ?_
    exact jx_lv [2, 3, 4, 0] rfl h
  replace h := h.2 c17
  refine jx_iconst (v := 1) dX0_leadsTo_70 (by decide) ?_
  exact jx_iret dX0_leadsTo_71 rfl (by decide) (jle rfl) (jle rfl) ⟨_, rfl, h⟩
set_option maxRecDepth 100000 in
set_option maxHeartbeats 4000000 in
theorem T_X0_helps {E : jEnv} {d : Nat} {Q : Int32 → jM → Prop} {a0 : Nat} {x1 : Int32} {x2 : Int32} {S : jM} (h : jk S a0 = 2 ∧ (((x2 &&& (x1 ^^^ (-1))) &&& (jshl 1 (ji S a0 2))) = 0 → Q 0 S) ∧ (¬ ((x2 &&& (x1 ^^^ (-1))) &&& (jshl 1 (ji S a0 2))) = 0 → ((ji S a0 6) = 0 → jFi E mX2_teaches d 0 0 [.ref a0, .int x1] S (fun r5 S4 => (r5 = 0 → Q 0 S4) ∧ (¬ r5 = 0 → jk S4 a0 = 2 ∧ jFi E mX2_unlearnt d 0 0 [.ref a0] S4 (fun r9 S8 => ((r9 &&& x1) = 0 → Q 1 S8) ∧ (¬ (r9 &&& x1) = 0 → Q 0 S8))))) ∧ (¬ (ji S a0 6) = 0 → Q 0 S))) : jFi E mX0_helps (d + 1) 0 0 [.ref a0, .int x1, .int x2] S Q := by
  refine jF_of (by decide) (jle rfl) ?_
  refine jx_lv (lv1 := [(0, .ref a0), (1, .int x1), (2, .int x2)]) [0, 1, 2] rfl ?_
  refine jx_iload_n 2 dX0_helps_0 rfl rfl ?_
  refine jx_iload_n 1 dX0_helps_1 rfl rfl ?_
  refine jx_iconst (v := (-1)) dX0_helps_2 (by decide) ?_
  refine jx_ixor dX0_helps_3 ?_
  refine jx_iand dX0_helps_4 ?_
  refine jx_iconst (v := 1) dX0_helps_5 (by decide) ?_
  refine jx_aload_n 0 dX0_helps_6 rfl rfl ?_
  obtain ⟨hk1, h⟩ := h
  refine jx_geti jc_2 (j := 2) (by decide) rfl jwF_X0_66 dX0_helps_7 hk1 ?_
  refine jx_ishl dX0_helps_10 ?_
  refine jx_iand dX0_helps_11 ?_
  refine jx_if_eq (tgt := 19) dX0_helps_12 (by decide) (fun c2 => ?_) (fun c2 => ?_)
  · replace h := h.1 c2
    refine jx_iconst (v := 0) dX0_helps_19 (by decide) ?_
    refine jx_istore_n (lv1 := [(3, .int 0), (0, .ref a0), (1, .int x1), (2, .int x2)]) dX0_helps_20 rfl (by decide) rfl ?_
    refine jx_iload_n 0 dX0_helps_21 rfl rfl ?_
    refine jx_if_eq (tgt := 53) dX0_helps_22 (by decide) (fun _ => ?_) (fun z9 => absurd z9 (by decide))
    refine jx_iconst (v := 0) dX0_helps_53 (by decide) ?_
    exact jx_iret dX0_helps_54 rfl (by decide) (jle rfl) (jle rfl) ⟨_, rfl, h⟩
  replace h := h.2 c2
  refine jx_iconst (v := 1) dX0_helps_15 (by decide) ?_
  refine jx_goto (tgt := 20) dX0_helps_16 (by decide) ?_
  refine jx_istore_n (lv1 := [(3, .int 1), (0, .ref a0), (1, .int x1), (2, .int x2)]) dX0_helps_20 rfl (by decide) rfl ?_
  refine jx_iload_n 0 dX0_helps_21 rfl rfl ?_
  refine jx_if_eq (tgt := 53) dX0_helps_22 (by decide) (fun z9 => absurd z9 (by decide)) (fun _ => ?_)
  refine jx_aload_n 1 dX0_helps_25 rfl rfl ?_
  refine jx_geti jc_2 (j := 6) (by decide) rfl jwF_X0_50 dX0_helps_26 hk1 ?_
  refine jx_if_ne (tgt := 53) dX0_helps_29 (by decide) (fun c3 => ?_) (fun c3 => ?_)
  · replace h := h.2 c3
    refine jx_iconst (v := 0) dX0_helps_53 (by decide) ?_
    exact jx_iret dX0_helps_54 rfl (by decide) (jle rfl) (jle rfl) ⟨_, rfl, h⟩
  replace h := h.1 c3
  refine jx_aload_n 1 dX0_helps_32 rfl rfl ?_
  refine jx_iload_n 2 dX0_helps_33 rfl rfl ?_
  refine jx_callVi (M' := mX2_teaches) (As := [.int x1]) jo_X2_teaches jc_2 rfl jwM_X0_84 jwN_X2_teaches jwX_X2_teaches dX0_helps_34 (jRok_m _ _ _) rfl (jle rfl) ⟨jle rfl, jle rfl⟩ hk1 h (fun r5 S4 h => ?_)
  refine jx_if_eq (tgt := 53) dX0_helps_37 (by decide) (fun c6 => ?_) (fun c6 => ?_)
  · replace h := h.1 c6
    refine jx_iconst (v := 0) dX0_helps_53 (by decide) ?_
    exact jx_iret dX0_helps_54 rfl (by decide) (jle rfl) (jle rfl) ⟨_, rfl, h⟩
  replace h := h.2 c6
  refine jx_aload_n 1 dX0_helps_40 rfl rfl ?_
  obtain ⟨hk7, h⟩ := h
  refine jx_callVi (M' := mX2_unlearnt) (As := []) jo_X2_unlearnt jc_2 rfl jwM_X0_88 jwN_X2_unlearnt jwX_X2_unlearnt dX0_helps_41 (jRok_m _ _ _) rfl (jle rfl) ⟨jle rfl, jle rfl⟩ hk7 h (fun r9 S8 h => ?_)
  refine jx_iload_n 2 dX0_helps_44 rfl rfl ?_
  refine jx_iand dX0_helps_45 ?_
  refine jx_if_ne (tgt := 53) dX0_helps_46 (by decide) (fun c10 => ?_) (fun c10 => ?_)
  · replace h := h.2 c10
    refine jx_iconst (v := 0) dX0_helps_53 (by decide) ?_
    exact jx_iret dX0_helps_54 rfl (by decide) (jle rfl) (jle rfl) ⟨_, rfl, h⟩
  replace h := h.1 c10
  refine jx_iconst (v := 1) dX0_helps_49 (by decide) ?_
  refine jx_goto (tgt := 54) dX0_helps_50 (by decide) ?_
  exact jx_iret dX0_helps_54 rfl (by decide) (jle rfl) (jle rfl) ⟨_, rfl, h⟩
set_option maxRecDepth 100000 in
set_option maxHeartbeats 4000000 in
theorem T_X9_init {E : jEnv} {d : Nat} {Q : jM → Prop} {a0 : Nat} {x1 : Int32} {x2 : Int32} {a3 : Nat} {S : jM} (h : jk S a0 = 9 ∧ (¬ (jmax 1 x2) < 0 ∧ (Int32.toNatClampNeg (jmax 1 x2)) ≤ 4000 ∧ (0 + 1 ≤ 1 ∧ 0 + (Int32.toNatClampNeg (jmax 1 x2)) ≤ 96)) ∧ (∀ q6, q6 = jn (jputr (jput (jput S a0 0 x1) a0 1 x2) a0 2 (some a3)) → jk (jnew (jputr (jput (jput S a0 0 x1) a0 1 x2) a0 2 (some a3)) 12 (Int32.toNatClampNeg (jmax 1 x2))) a0 = 9 ∧ (1 ≤ 1 ∧ (0 + (Int32.toNatClampNeg (jmax 1 x2))) ≤ 96) ∧ Q (jputr (jnew (jputr (jput (jput S a0 0 x1) a0 1 x2) a0 2 (some a3)) 12 (Int32.toNatClampNeg (jmax 1 x2))) a0 3 (some q6)))) : jFv E mX9_init (d + 1) 1 96 [.ref a0, .int x1, .int x2, .ref a3] S Q := by
  refine jF_of (by decide) (jle rfl) ?_
  refine jx_lv (lv1 := [(0, .ref a0), (1, .int x1), (2, .int x2), (3, .ref a3)]) [0, 1, 2, 3] rfl ?_
  refine jx_aload_n 0 dX9_init_0 rfl rfl ?_
  refine jx_objInit jwM_X9_3 jwN_obj jwO_obj dX9_init_1 (jRok_m _ _ _) (jle rfl) ?_
  refine jx_aload_n 0 dX9_init_4 rfl rfl ?_
  refine jx_iload_n 1 dX9_init_5 rfl rfl ?_
  obtain ⟨hk1, h⟩ := h
  refine jx_putiF jc_9 (j := 0) (by decide) rfl jwF_X9_9 rfl rfl rfl rfl rfl dX9_init_6 hk1 ?_
  refine jx_aload_n 0 dX9_init_9 rfl rfl ?_
  refine jx_iload_n 2 dX9_init_10 rfl rfl ?_
  refine jx_putiF jc_9 (j := 1) (by decide) rfl jwF_X9_15 rfl rfl rfl rfl rfl dX9_init_11 hk1 ?_
  refine jx_aload_n 0 dX9_init_14 rfl rfl ?_
  refine jx_aload_n 3 dX9_init_15 rfl rfl ?_
  refine jx_putrF jc_9 (j := 2) (by decide) rfl jwF_X9_18 rfl rfl rfl rfl rfl dX9_init_16 hk1 ?_
  refine jx_aload_n 0 dX9_init_19 rfl rfl ?_
  refine jx_iconst (v := 1) dX9_init_20 (by decide) ?_
  refine jx_iload_n 2 dX9_init_21 rfl rfl ?_
  refine jx_max jwM_X9_22 jwS_max jwZ_J9 jwO_max dX9_init_22 (jRok_m _ _ _) (jle rfl) ⟨Nat.zero_le _, Nat.zero_le _⟩ ?_
  obtain ⟨⟨hn3, hn4, hn5⟩, h⟩ := h
  refine jx_newa jwA dX9_init_25 hn3 rfl hn4 hn5 ?_
  obtain ⟨q6, hq6⟩ : ∃ q, q = jn (jputr (jput (jput S a0 0 x1) a0 1 x2) a0 2 (some a3)) := ⟨_, rfl⟩
  rw [← hq6]
  replace h := h q6 hq6
  obtain ⟨hk7, h⟩ := h
  refine jx_putrF jc_9 (j := 3) (by decide) rfl jwF_X9_28 rfl rfl rfl rfl rfl dX9_init_27 hk7 ?_
  obtain ⟨hm9, h⟩ := h
  exact jx_vret dX9_init_30 rfl hm9.1 hm9.2 ⟨rfl, h⟩
/-- X9_workOut at its loop's head 6 -/
abbrev L_X9_workOut_6 (E : jEnv) (d : Nat) (Q : Int32 → jM → Prop) (a0 : Nat) (x1 : Int32) (x2 : Int32) (x3 : Int32) (x4 : Int32) (x5 : Int32) (S : jM) : Prop := jX E mX9_workOut (jRm (d + 1) 0 0) (jZm E (fun r S' => ∃ v : Int32, r = some (.int v) ∧ Q v S') 0 0) 6 [(0, .ref a0), (1, .int x1), (2, .int x2), (3, .int x3), (4, .int x4), (5, .int x5)] [] S 0 0
set_option maxRecDepth 100000 in
set_option maxHeartbeats 4000000 in
theorem T_X9_workOut {E : jEnv} {d : Nat} {Q : Int32 → jM → Prop} {a0 : Nat} {x1 : Int32} {x2 : Int32} {x3 : Int32} {S : jM} (h : L_X9_workOut_6 E d Q a0 x1 x2 x3 0 0 S) : jFi E mX9_workOut (d + 1) 0 0 [.ref a0, .int x1, .int x2, .int x3] S Q := by
  refine jF_of (by decide) (jle rfl) ?_
  refine jx_lv (lv1 := [(0, .ref a0), (1, .int x1), (2, .int x2), (3, .int x3)]) [0, 1, 2, 3] rfl ?_
  refine jx_iconst (v := 0) dX9_workOut_0 (by decide) ?_
  refine jx_istore (lv1 := [(4, .int 0), (0, .ref a0), (1, .int x1), (2, .int x2), (3, .int x3)]) dX9_workOut_1 (by decide) rfl ?_
  refine jx_iconst (v := 0) dX9_workOut_3 (by decide) ?_
  refine jx_istore (lv1 := [(5, .int 0), (4, .int 0), (0, .ref a0), (1, .int x1), (2, .int x2), (3, .int x3)]) dX9_workOut_4 (by decide) rfl ?_
  exact jx_lv [2, 3, 4, 5, 1, 0] rfl h
set_option maxRecDepth 100000 in
set_option maxHeartbeats 4000000 in
theorem T_X9_workOut_6 {E : jEnv} {d : Nat} {Q : Int32 → jM → Prop} {a0 : Nat} {x1 : Int32} {x2 : Int32} {x3 : Int32} {x4 : Int32} {x5 : Int32} {S : jM} (h : jk S a0 = 9 ∧ ∃ b2, jr S a0 2 = some b2 ∧ (jk S b2 = 12 ∧ ((nI (jl S b2)) ≤ x5 → (x4 = 1 → ∃ b6, jr S a0 3 = some b6 ∧ (jk S b6 = 12 ∧ vp_in 0 (jl S b6) ∧ (Q (ji S b6 (Int32.toNatClampNeg 0)) S))) ∧ (¬ x4 = 1 → Q 0 S)) ∧ (¬ (nI (jl S b2)) ≤ x5 → vp_in x5 (jl S b2) ∧ ((20000 ≤ (ji S b2 (Int32.toNatClampNeg x5)) → ((ji S b2 (Int32.toNatClampNeg x5)) = 20033 → ∃ b21, jr S a0 3 = some b21 ∧ (jk S b21 = 12 ∧ ((jwi (x4 - 1) (nI (jl S b21))) = 0 → L_X9_workOut_6 E d Q a0 x1 x2 x3 x4 (x5 + 1) S) ∧ (¬ (jwi (x4 - 1) (nI (jl S b21))) = 0 → vp_in (x4 - 1) (jl S b21) ∧ (((ji S b21 (Int32.toNatClampNeg (x4 - 1))) = 0 → (L_X9_workOut_6 E d Q a0 x1 x2 x3 x4 (x5 + 1) (jput S b21 (Int32.toNatClampNeg (x4 - 1)) 1))) ∧ (¬ (ji S b21 (Int32.toNatClampNeg (x4 - 1))) = 0 → (L_X9_workOut_6 E d Q a0 x1 x2 x3 x4 (x5 + 1) (jput S b21 (Int32.toNatClampNeg (x4 - 1)) 0))))))) ∧ (¬ (ji S b2 (Int32.toNatClampNeg x5)) = 20033 → (x4 ≤ 1 → L_X9_workOut_6 E d Q a0 x1 x2 x3 x4 (x5 + 1) S) ∧ (¬ x4 ≤ 1 → ∃ b13, jr S a0 3 = some b13 ∧ (jk S b13 = 12 ∧ ((nI (jl S b13)) < x4 → L_X9_workOut_6 E d Q a0 x1 x2 x3 x4 (x5 + 1) S) ∧ (¬ (nI (jl S b13)) < x4 → vp_in ((x4 + (-1)) - 1) (jl S b13) ∧ (vp_in (x4 + (-1)) (jl S b13) ∧ ((L_X9_workOut_6 E d Q a0 x1 x2 x3 (x4 + (-1)) (x5 + 1) (jput S b13 (Int32.toNatClampNeg ((x4 + (-1)) - 1)) (jjoinC ((ji S b2 (Int32.toNatClampNeg x5)) - 20000) (ji S b13 (Int32.toNatClampNeg ((x4 + (-1)) - 1))) (ji S b13 (Int32.toNatClampNeg (x4 + (-1)))))))))))))) ∧ (¬ 20000 ≤ (ji S b2 (Int32.toNatClampNeg x5)) → ∃ b29, jr S a0 3 = some b29 ∧ (jk S b29 = 12 ∧ ((jwi x4 (nI (jl S b29))) = 0 → L_X9_workOut_6 E d Q a0 x1 x2 x3 x4 (x5 + 1) S) ∧ (¬ (jwi x4 (nI (jl S b29))) = 0 → vp_in x4 (jl S b29) ∧ (L_X9_workOut_6 E d Q a0 x1 x2 x3 (x4 + 1) (x5 + 1) (jput S b29 (Int32.toNatClampNeg x4) (jvalof (ji S b2 (Int32.toNatClampNeg x5)) x1 x2 x3)))))))))) : L_X9_workOut_6 E d Q a0 x1 x2 x3 x4 x5 S := by
  show jX E mX9_workOut (jRm (d + 1) 0 0) (jZm E (fun r S' => ∃ v : Int32, r = some (.int v) ∧ Q v S') 0 0) 6 [(0, .ref a0), (1, .int x1), (2, .int x2), (3, .int x3), (4, .int x4), (5, .int x5)] [] S 0 0
  refine jx_iload 5 dX9_workOut_6 rfl ?_
  refine jx_aload_n 0 dX9_workOut_8 rfl rfl ?_
  obtain ⟨hk1, h⟩ := h
  obtain ⟨b2, hb2, h⟩ := h
  refine jx_getr jc_9 (j := 2) (by decide) rfl jwF_X9_18 dX9_workOut_9 hk1 hb2 ?_
  obtain ⟨hk3, h⟩ := h
  refine jx_alen dX9_workOut_12 hk3 ?_
  refine jx_icmp_ge (tgt := 178) dX9_workOut_13 (by decide) (fun c4 => ?_) (fun c4 => ?_)
  · replace h := h.1 c4
    refine jx_iload 4 dX9_workOut_178 rfl ?_
    refine jx_iconst (v := 1) dX9_workOut_180 (by decide) ?_
    refine jx_icmp_ne (tgt := 193) dX9_workOut_181 (by decide) (fun c5 => ?_) (fun c5 => ?_)
    · replace h := h.2 c5
      refine jx_iconst (v := 0) dX9_workOut_193 (by decide) ?_
      exact jx_iret dX9_workOut_194 rfl rfl (jle rfl) (jle rfl) ⟨_, rfl, h⟩
    replace h := h.1 c5
    refine jx_aload_n 0 dX9_workOut_184 rfl rfl ?_
    obtain ⟨b6, hb6, h⟩ := h
    refine jx_getr jc_9 (j := 3) (by decide) rfl jwF_X9_28 dX9_workOut_185 hk1 hb6 ?_
    refine jx_iconst (v := 0) dX9_workOut_188 (by decide) ?_
    obtain ⟨hk7, h⟩ := h
    obtain ⟨hi8, h⟩ := h
    refine jx_iald dX9_workOut_189 hk7 hi8 ?_
    refine jx_goto (tgt := 194) dX9_workOut_190 (by decide) ?_
    exact jx_iret dX9_workOut_194 rfl rfl (jle rfl) (jle rfl) ⟨_, rfl, h⟩
  replace h := h.2 c4
  refine jx_aload_n 0 dX9_workOut_16 rfl rfl ?_
  refine jx_getr jc_9 (j := 2) (by decide) rfl jwF_X9_18 dX9_workOut_17 hk1 hb2 ?_
  refine jx_iload 5 dX9_workOut_20 rfl ?_
  obtain ⟨hi9, h⟩ := h
  refine jx_iald dX9_workOut_22 hk3 hi9 ?_
  refine jx_istore (lv1 := [(6, .int (ji S b2 (Int32.toNatClampNeg x5))), (0, .ref a0), (1, .int x1), (2, .int x2), (3, .int x3), (4, .int x4), (5, .int x5)]) dX9_workOut_23 (by decide) rfl ?_
  refine jx_iload 0 dX9_workOut_25 rfl ?_
  refine jx_sipush (v := 20000) dX9_workOut_27 (by decide) ?_
  refine jx_icmp_ge (tgt := 67) dX9_workOut_30 (by decide) (fun c10 => ?_) (fun c10 => ?_)
  · replace h := h.1 c10
    refine jx_iload 0 dX9_workOut_67 rfl ?_
    refine jx_sipush (v := 20033) dX9_workOut_69 (by decide) ?_
    refine jx_icmp_ne (tgt := 119) dX9_workOut_72 (by decide) (fun c11 => ?_) (fun c11 => ?_)
    · replace h := h.2 c11
      refine jx_iload 5 dX9_workOut_119 rfl ?_
      refine jx_iconst (v := 1) dX9_workOut_121 (by decide) ?_
      refine jx_icmp_le (tgt := 172) dX9_workOut_122 (by decide) (fun c12 => ?_) (fun c12 => ?_)
      · replace h := h.1 c12
        refine jx_iinc 6 (v := (x5 + 1)) (lv1 := [(5, .int (x5 + 1)), (6, .int (ji S b2 (Int32.toNatClampNeg x5))), (0, .ref a0), (1, .int x1), (2, .int x2), (3, .int x3), (4, .int x4)]) dX9_workOut_172 rfl rfl (by decide) rfl ?_
        refine jx_goto (tgt := 6) dX9_workOut_175 (by decide) ?_
        exact jx_lv [2, 3, 4, 5, 6, 0] rfl h
      replace h := h.2 c12
      refine jx_iload 5 dX9_workOut_125 rfl ?_
      refine jx_aload_n 1 dX9_workOut_127 rfl rfl ?_
      obtain ⟨b13, hb13, h⟩ := h
      refine jx_getr jc_9 (j := 3) (by decide) rfl jwF_X9_28 dX9_workOut_128 hk1 hb13 ?_
      obtain ⟨hk14, h⟩ := h
      refine jx_alen dX9_workOut_131 hk14 ?_
      refine jx_icmp_gt (tgt := 172) dX9_workOut_132 (by decide) (fun c15 => ?_) (fun c15 => ?_)
      · replace h := h.1 c15
        refine jx_iinc 6 (v := (x5 + 1)) (lv1 := [(5, .int (x5 + 1)), (6, .int (ji S b2 (Int32.toNatClampNeg x5))), (0, .ref a0), (1, .int x1), (2, .int x2), (3, .int x3), (4, .int x4)]) dX9_workOut_172 rfl rfl (by decide) rfl ?_
        refine jx_goto (tgt := 6) dX9_workOut_175 (by decide) ?_
        exact jx_lv [2, 3, 4, 5, 6, 0] rfl h
      replace h := h.2 c15
      refine jx_iinc 5 (v := (x4 + (-1))) (lv1 := [(4, .int (x4 + (-1))), (6, .int (ji S b2 (Int32.toNatClampNeg x5))), (0, .ref a0), (1, .int x1), (2, .int x2), (3, .int x3), (5, .int x5)]) dX9_workOut_135 rfl rfl (by decide) rfl ?_
      refine jx_aload_n 2 dX9_workOut_138 rfl rfl ?_
      refine jx_getr jc_9 (j := 3) (by decide) rfl jwF_X9_28 dX9_workOut_139 hk1 hb13 ?_
      refine jx_iload 0 dX9_workOut_142 rfl ?_
      refine jx_iconst (v := 1) dX9_workOut_144 (by decide) ?_
      refine jx_isub dX9_workOut_145 ?_
      refine jx_iload 1 dX9_workOut_146 rfl ?_
      refine jx_sipush (v := 20000) dX9_workOut_148 (by decide) ?_
      refine jx_isub dX9_workOut_151 ?_
      refine jx_aload_n 2 dX9_workOut_152 rfl rfl ?_
      refine jx_getr jc_9 (j := 3) (by decide) rfl jwF_X9_28 dX9_workOut_153 hk1 hb13 ?_
      refine jx_iload 0 dX9_workOut_156 rfl ?_
      refine jx_iconst (v := 1) dX9_workOut_158 (by decide) ?_
      refine jx_isub dX9_workOut_159 ?_
      obtain ⟨hi16, h⟩ := h
      refine jx_iald dX9_workOut_160 hk14 hi16 ?_
      refine jx_aload_n 2 dX9_workOut_161 rfl rfl ?_
      refine jx_getr jc_9 (j := 3) (by decide) rfl jwF_X9_28 dX9_workOut_162 hk1 hb13 ?_
      refine jx_iload 0 dX9_workOut_165 rfl ?_
      obtain ⟨hi17, h⟩ := h
      refine jx_iald dX9_workOut_167 hk14 hi17 ?_
      refine jx_callSi (M' := mX9_joined) (As := [.int ((ji S b2 (Int32.toNatClampNeg x5)) - 20000), .int (ji S b13 (Int32.toNatClampNeg ((x4 + (-1)) - 1))), .int (ji S b13 (Int32.toNatClampNeg (x4 + (-1))))]) jo_X9_joined jwM_X9_39 jwS_X9_joined dX9_workOut_168 (jRok_m _ _ _) rfl (jle rfl) ⟨jle rfl, jle rfl⟩ (c_X9_joined (Q := fun v S' => v = (jjoinC ((ji S b2 (Int32.toNatClampNeg x5)) - 20000) (ji S b13 (Int32.toNatClampNeg ((x4 + (-1)) - 1))) (ji S b13 (Int32.toNatClampNeg (x4 + (-1))))) ∧ S = S') ⟨rfl, rfl⟩) (fun r18 S19 hq20 => ?_)
      obtain ⟨rfl, rfl⟩ := hq20
      refine jx_iast dX9_workOut_171 hk14 hi16 ?_
      refine jx_iinc 6 (v := (x5 + 1)) (lv1 := [(5, .int (x5 + 1)), (4, .int (x4 + (-1))), (6, .int (ji S b2 (Int32.toNatClampNeg x5))), (0, .ref a0), (1, .int x1), (2, .int x2), (3, .int x3)]) dX9_workOut_172 rfl rfl (by decide) rfl ?_
      refine jx_goto (tgt := 6) dX9_workOut_175 (by decide) ?_
      exact jx_lv [3, 4, 5, 6, 1, 0] rfl h
    replace h := h.1 c11
    refine jx_iload 5 dX9_workOut_75 rfl ?_
    refine jx_iconst (v := 1) dX9_workOut_77 (by decide) ?_
    refine jx_isub dX9_workOut_78 ?_
    refine jx_aload_n 1 dX9_workOut_79 rfl rfl ?_
    obtain ⟨b21, hb21, h⟩ := h
    refine jx_getr jc_9 (j := 3) (by decide) rfl jwF_X9_28 dX9_workOut_80 hk1 hb21 ?_
    obtain ⟨hk22, h⟩ := h
    refine jx_alen dX9_workOut_83 hk22 ?_
    refine jx_callSNi (M' := mX10_within) (As := [.int (x4 - 1), .int (nI (jl S b21))]) (host := "NineMasters") jo_X10_within (by decide) jwS_X10_within dX9_workOut_84 (jRok_m _ _ _) rfl (jle rfl) ⟨jle rfl, jle rfl⟩ (c_X10_within (Q := fun v S' => v = (jwi (x4 - 1) (nI (jl S b21))) ∧ S = S') ⟨rfl, rfl⟩) (fun r23 S24 hq25 => ?_)
    obtain ⟨rfl, rfl⟩ := hq25
    refine jx_if_eq (tgt := 172) dX9_workOut_87 (by decide) (fun c26 => ?_) (fun c26 => ?_)
    · replace h := h.1 c26
      refine jx_iinc 6 (v := (x5 + 1)) (lv1 := [(5, .int (x5 + 1)), (6, .int (ji S b2 (Int32.toNatClampNeg x5))), (0, .ref a0), (1, .int x1), (2, .int x2), (3, .int x3), (4, .int x4)]) dX9_workOut_172 rfl rfl (by decide) rfl ?_
      refine jx_goto (tgt := 6) dX9_workOut_175 (by decide) ?_
      exact jx_lv [2, 3, 4, 5, 6, 0] rfl h
    replace h := h.2 c26
    refine jx_aload_n 1 dX9_workOut_90 rfl rfl ?_
    refine jx_getr jc_9 (j := 3) (by decide) rfl jwF_X9_28 dX9_workOut_91 hk1 hb21 ?_
    refine jx_iload 5 dX9_workOut_94 rfl ?_
    refine jx_iconst (v := 1) dX9_workOut_96 (by decide) ?_
    refine jx_isub dX9_workOut_97 ?_
    refine jx_aload_n 1 dX9_workOut_98 rfl rfl ?_
    refine jx_getr jc_9 (j := 3) (by decide) rfl jwF_X9_28 dX9_workOut_99 hk1 hb21 ?_
    refine jx_iload 5 dX9_workOut_102 rfl ?_
    refine jx_iconst (v := 1) dX9_workOut_104 (by decide) ?_
    refine jx_isub dX9_workOut_105 ?_
    obtain ⟨hi27, h⟩ := h
    refine jx_iald dX9_workOut_106 hk22 hi27 ?_
    refine jx_if_ne (tgt := 114) dX9_workOut_107 (by decide) (fun c28 => ?_) (fun c28 => ?_)
    · replace h := h.2 c28
      refine jx_iconst (v := 0) dX9_workOut_114 (by decide) ?_
      refine jx_iast dX9_workOut_115 hk22 hi27 ?_
      refine jx_goto (tgt := 172) dX9_workOut_116 (by decide) ?_
      refine jx_iinc 6 (v := (x5 + 1)) (lv1 := [(5, .int (x5 + 1)), (6, .int (ji S b2 (Int32.toNatClampNeg x5))), (0, .ref a0), (1, .int x1), (2, .int x2), (3, .int x3), (4, .int x4)]) dX9_workOut_172 rfl rfl (by decide) rfl ?_
      refine jx_goto (tgt := 6) dX9_workOut_175 (by decide) ?_
      exact jx_lv [2, 3, 4, 5, 6, 0] rfl h
    replace h := h.1 c28
    refine jx_iconst (v := 1) dX9_workOut_110 (by decide) ?_
    refine jx_goto (tgt := 115) dX9_workOut_111 (by decide) ?_
    refine jx_iast dX9_workOut_115 hk22 hi27 ?_
    refine jx_goto (tgt := 172) dX9_workOut_116 (by decide) ?_
    refine jx_iinc 6 (v := (x5 + 1)) (lv1 := [(5, .int (x5 + 1)), (6, .int (ji S b2 (Int32.toNatClampNeg x5))), (0, .ref a0), (1, .int x1), (2, .int x2), (3, .int x3), (4, .int x4)]) dX9_workOut_172 rfl rfl (by decide) rfl ?_
    refine jx_goto (tgt := 6) dX9_workOut_175 (by decide) ?_
    exact jx_lv [2, 3, 4, 5, 6, 0] rfl h
  replace h := h.2 c10
  refine jx_iload 5 dX9_workOut_33 rfl ?_
  refine jx_aload_n 1 dX9_workOut_35 rfl rfl ?_
  obtain ⟨b29, hb29, h⟩ := h
  refine jx_getr jc_9 (j := 3) (by decide) rfl jwF_X9_28 dX9_workOut_36 hk1 hb29 ?_
  obtain ⟨hk30, h⟩ := h
  refine jx_alen dX9_workOut_39 hk30 ?_
  refine jx_callSNi (M' := mX10_within) (As := [.int x4, .int (nI (jl S b29))]) (host := "NineMasters") jo_X10_within (by decide) jwS_X10_within dX9_workOut_40 (jRok_m _ _ _) rfl (jle rfl) ⟨jle rfl, jle rfl⟩ (c_X10_within (Q := fun v S' => v = (jwi x4 (nI (jl S b29))) ∧ S = S') ⟨rfl, rfl⟩) (fun r31 S32 hq33 => ?_)
  obtain ⟨rfl, rfl⟩ := hq33
  refine jx_if_eq (tgt := 172) dX9_workOut_43 (by decide) (fun c34 => ?_) (fun c34 => ?_)
  · replace h := h.1 c34
    refine jx_iinc 6 (v := (x5 + 1)) (lv1 := [(5, .int (x5 + 1)), (6, .int (ji S b2 (Int32.toNatClampNeg x5))), (0, .ref a0), (1, .int x1), (2, .int x2), (3, .int x3), (4, .int x4)]) dX9_workOut_172 rfl rfl (by decide) rfl ?_
    refine jx_goto (tgt := 6) dX9_workOut_175 (by decide) ?_
    exact jx_lv [2, 3, 4, 5, 6, 0] rfl h
  replace h := h.2 c34
  refine jx_aload_n 1 dX9_workOut_46 rfl rfl ?_
  refine jx_getr jc_9 (j := 3) (by decide) rfl jwF_X9_28 dX9_workOut_47 hk1 hb29 ?_
  refine jx_iload 5 dX9_workOut_50 rfl ?_
  refine jx_iload 0 dX9_workOut_52 rfl ?_
  refine jx_iload_n 2 dX9_workOut_54 rfl rfl ?_
  refine jx_iload_n 3 dX9_workOut_55 rfl rfl ?_
  refine jx_iload_n 4 dX9_workOut_56 rfl rfl ?_
  refine jx_callSi (M' := mX9_valueOf) (As := [.int (ji S b2 (Int32.toNatClampNeg x5)), .int x1, .int x2, .int x3]) jo_X9_valueOf jwM_X9_35 jwS_X9_valueOf dX9_workOut_57 (jRok_m _ _ _) rfl (jle rfl) ⟨jle rfl, jle rfl⟩ (c_X9_valueOf (Q := fun v S' => v = (jvalof (ji S b2 (Int32.toNatClampNeg x5)) x1 x2 x3) ∧ S = S') ⟨rfl, rfl⟩) (fun r35 S36 hq37 => ?_)
  obtain ⟨rfl, rfl⟩ := hq37
  obtain ⟨hi38, h⟩ := h
  refine jx_iast dX9_workOut_60 hk30 hi38 ?_
  refine jx_iinc 5 (v := (x4 + 1)) (lv1 := [(4, .int (x4 + 1)), (6, .int (ji S b2 (Int32.toNatClampNeg x5))), (0, .ref a0), (1, .int x1), (2, .int x2), (3, .int x3), (5, .int x5)]) dX9_workOut_61 rfl rfl (by decide) rfl ?_
  refine jx_goto (tgt := 172) dX9_workOut_64 (by decide) ?_
  refine jx_iinc 6 (v := (x5 + 1)) (lv1 := [(5, .int (x5 + 1)), (4, .int (x4 + 1)), (6, .int (ji S b2 (Int32.toNatClampNeg x5))), (0, .ref a0), (1, .int x1), (2, .int x2), (3, .int x3)]) dX9_workOut_172 rfl rfl (by decide) rfl ?_
  refine jx_goto (tgt := 6) dX9_workOut_175 (by decide) ?_
  exact jx_lv [3, 4, 5, 6, 1, 0] rfl h
