set_option maxRecDepth 100000 in
set_option maxHeartbeats 4000000 in
theorem T_X8_init {E : jEnv} {d : Nat} {Q : jM → Prop} {a0 : Nat} {S : jM} (h : ∀ q1, q1 = jn S → jk (jnew S 12 96) a0 = 8 ∧ ∀ q4, q4 = jn (jputr (jnew S 12 96) a0 0 (some q1)) → jk (jnew (jputr (jnew S 12 96) a0 0 (some q1)) 12 96) a0 = 8 ∧ Q (jputr (jnew (jputr (jnew S 12 96) a0 0 (some q1)) 12 96) a0 8 (some q4))) : jFv E mX8_init (d + 1) 2 192 [.ref a0] S Q := by
  refine jF_of (by decide) (jle rfl) ?_
  refine jx_lv (lv1 := [(0, .ref a0)]) [0] rfl ?_
  refine jx_aload_n 0 dX8_init_0 rfl rfl ?_
  refine jx_objInit jwM_X8_3 jwN_obj jwO_obj dX8_init_1 (jRok_m _ _ _) (jle rfl) ?_
  refine jx_aload_n 0 dX8_init_4 rfl rfl ?_
  refine jx_bipush (v := 96) dX8_init_5 (by decide) ?_
  refine jx_newa (N := 96) jwA dX8_init_7 (by decide) (by decide) (by decide) ⟨jle rfl, jle rfl⟩ ?_
  obtain ⟨q1, hq1⟩ : ∃ q, q = jn S := ⟨_, rfl⟩
  rw [← hq1]
  replace h := h q1 hq1
  obtain ⟨hk2, h⟩ := h
  refine jx_putrF jc_8 (j := 0) (by decide) rfl jwF_X8_9 rfl rfl rfl rfl rfl dX8_init_9 hk2 ?_
  refine jx_aload_n 0 dX8_init_12 rfl rfl ?_
  refine jx_bipush (v := 96) dX8_init_13 (by decide) ?_
  refine jx_newa (N := 96) jwA dX8_init_15 (by decide) (by decide) (by decide) ⟨jle rfl, jle rfl⟩ ?_
  obtain ⟨q4, hq4⟩ : ∃ q, q = jn (jputr (jnew S 12 96) a0 0 (some q1)) := ⟨_, rfl⟩
  rw [← hq4]
  replace h := h q4 hq4
  obtain ⟨hk5, h⟩ := h
  refine jx_putrF jc_8 (j := 8) (by decide) rfl jwF_X8_15 rfl rfl rfl rfl rfl dX8_init_17 hk5 ?_
  exact jx_vret dX8_init_20 rfl (jle rfl) (jle rfl) ⟨rfl, h⟩
/-- X8_addNumber at its loop's head 3 -/
abbrev L_X8_addNumber_3 (E : jEnv) (d : Nat) (Q : jM → Prop) (a0 : Nat) (x1 : Int32) (x2 : Int32) (S : jM) : Prop := jX E mX8_addNumber (jRm (d + 1) 0 0) (jZm E (fun r S' => r = none ∧ Q S') 0 0) 3 [(0, .ref a0), (1, .int x1), (2, .int x2)] [] S 0 0
set_option maxRecDepth 100000 in
set_option maxHeartbeats 4000000 in
theorem T_X8_addNumber {E : jEnv} {d : Nat} {Q : jM → Prop} {a0 : Nat} {x1 : Int32} {S : jM} (h : L_X8_addNumber_3 E d Q a0 x1 24 S) : jFv E mX8_addNumber (d + 1) 0 0 [.ref a0, .int x1] S Q := by
  refine jF_of (by decide) (jle rfl) ?_
  refine jx_lv (lv1 := [(0, .ref a0), (1, .int x1)]) [0, 1] rfl ?_
  refine jx_bipush (v := 24) dX8_addNumber_0 (by decide) ?_
  refine jx_istore_n (lv1 := [(2, .int 24), (0, .ref a0), (1, .int x1)]) dX8_addNumber_2 rfl (by decide) rfl ?_
  exact jx_lv [1, 2, 0] rfl h
set_option maxRecDepth 100000 in
set_option maxHeartbeats 4000000 in
theorem T_X8_addNumber_3 {E : jEnv} {d : Nat} {Q : jM → Prop} {a0 : Nat} {x1 : Int32} {x2 : Int32} {S : jM} (h : (x2 < 0 → Q S) ∧ (¬ x2 < 0 → jk S a0 = 8 ∧ ((jwi (ji S a0 1) 96) = 0 → L_X8_addNumber_3 E d Q a0 x1 (x2 + (-8)) S) ∧ (¬ (jwi (ji S a0 1) 96) = 0 → ∃ b7, jr S a0 0 = some b7 ∧ (jk S b7 = 12 ∧ vp_in (ji S a0 1) (jl S b7) ∧ (L_X8_addNumber_3 E d Q a0 x1 (x2 + (-8)) (jput (jput S b7 (Int32.toNatClampNeg (ji S a0 1)) ((jushr x1 x2) &&& 255)) a0 1 ((ji S a0 1) + 1))))))) : L_X8_addNumber_3 E d Q a0 x1 x2 S := by
  show jX E mX8_addNumber (jRm (d + 1) 0 0) (jZm E (fun r S' => r = none ∧ Q S') 0 0) 3 [(0, .ref a0), (1, .int x1), (2, .int x2)] [] S 0 0
  refine jx_iload_n 2 dX8_addNumber_3 rfl rfl ?_
  refine jx_if_lt (tgt := 51) dX8_addNumber_4 (by decide) (fun c1 => ?_) (fun c1 => ?_)
  · replace h := h.1 c1
    exact jx_vret dX8_addNumber_51 rfl (jle rfl) (jle rfl) ⟨rfl, h⟩
  replace h := h.2 c1
  refine jx_aload_n 0 dX8_addNumber_7 rfl rfl ?_
  obtain ⟨hk2, h⟩ := h
  refine jx_geti jc_8 (j := 1) (by decide) rfl jwF_X8_18 dX8_addNumber_8 hk2 ?_
  refine jx_bipush (v := 96) dX8_addNumber_11 (by decide) ?_
  refine jx_callSNi (M' := mX10_within) (As := [.int (ji S a0 1), .int 96]) (host := "NineMasters") jo_X10_within (by decide) jwS_X10_within dX8_addNumber_13 (jRok_m _ _ _) rfl (jle rfl) ⟨jle rfl, jle rfl⟩ (c_X10_within (Q := fun v S' => v = (jwi (ji S a0 1) 96) ∧ S = S') ⟨rfl, rfl⟩) (fun r3 S4 hq5 => ?_)
  obtain ⟨rfl, rfl⟩ := hq5
  refine jx_if_eq (tgt := 45) dX8_addNumber_16 (by decide) (fun c6 => ?_) (fun c6 => ?_)
  · replace h := h.1 c6
    refine jx_iinc 2 (v := (x2 + (-8))) (lv1 := [(2, .int (x2 + (-8))), (0, .ref a0), (1, .int x1)]) dX8_addNumber_45 rfl rfl (by decide) rfl ?_
    refine jx_goto (tgt := 3) dX8_addNumber_48 (by decide) ?_
    exact jx_lv [1, 2, 0] rfl h
  replace h := h.2 c6
  refine jx_aload_n 0 dX8_addNumber_19 rfl rfl ?_
  obtain ⟨b7, hb7, h⟩ := h
  refine jx_getr jc_8 (j := 0) (by decide) rfl jwF_X8_9 dX8_addNumber_20 hk2 hb7 ?_
  refine jx_aload_n 0 dX8_addNumber_23 rfl rfl ?_
  refine jx_geti jc_8 (j := 1) (by decide) rfl jwF_X8_18 dX8_addNumber_24 hk2 ?_
  refine jx_iload_n 1 dX8_addNumber_27 rfl rfl ?_
  refine jx_iload_n 2 dX8_addNumber_28 rfl rfl ?_
  refine jx_iushr dX8_addNumber_29 ?_
  refine jx_sipush (v := 255) dX8_addNumber_30 (by decide) ?_
  refine jx_iand dX8_addNumber_33 ?_
  obtain ⟨hk8, h⟩ := h
  obtain ⟨hi9, h⟩ := h
  refine jx_iast dX8_addNumber_34 hk8 hi9 ?_
  refine jx_aload_n 0 dX8_addNumber_35 rfl rfl ?_
  refine jx_dup dX8_addNumber_36 rfl ?_
  refine jx_geti jc_8 (j := 1) (by decide) rfl jwF_X8_18 dX8_addNumber_37 hk2 ?_
  refine jx_topi (y := (ji S a0 1)) (by simp [ji_put, ji_row, ji_putr, jne hk2 hk8 (by decide)]) ?_
  refine jx_iconst (v := 1) dX8_addNumber_40 (by decide) ?_
  refine jx_iadd dX8_addNumber_41 ?_
  refine jx_puti jc_8 (j := 1) (by decide) rfl jwF_X8_18 rfl rfl rfl dX8_addNumber_42 hk2 ?_
  refine jx_iinc 2 (v := (x2 + (-8))) (lv1 := [(2, .int (x2 + (-8))), (0, .ref a0), (1, .int x1)]) dX8_addNumber_45 rfl rfl (by decide) rfl ?_
  refine jx_goto (tgt := 3) dX8_addNumber_48 (by decide) ?_
  exact jx_lv [1, 2, 0] rfl h
set_option maxRecDepth 100000 in
set_option maxHeartbeats 4000000 in
theorem T_X8_isText {E : jEnv} {d : Nat} {Q : Int32 → jM → Prop} {a0 : Nat} {S : jM} (h : jk S a0 = 8 ∧ jFv E mX8_step d 0 0 [.ref a0] (jput (jput (jput (jput S a0 3 0) a0 4 0) a0 7 0) a0 9 0) (fun S2 => jk S2 a0 = 8 ∧ jFi E mX8_keyInHand d 0 0 [.ref a0] S2 (fun r5 S4 => jk S4 a0 = 8 ∧ (0 ≤ r5 → jFv E mX8_step d 0 0 [.ref a0] (jput S4 a0 6 r5) (fun S8 => jk S8 a0 = 8 ∧ jFi E mX8_readsChain d 0 0 [.ref a0, .int 0, .int 0, .int 0] S8 (fun r11 S10 => (r11 = 0 → Q 0 S10) ∧ (¬ r11 = 0 → jk S10 a0 = 8 ∧ ((ji S10 a0 4) = 0 → Q 1 S10) ∧ (¬ (ji S10 a0 4) = 0 → Q 0 S10))))) ∧ (¬ 0 ≤ r5 → Q 0 (jput S4 a0 6 r5))))) : jFi E mX8_isText (d + 1) 0 0 [.ref a0] S Q := by
  refine jF_of (by decide) (jle rfl) ?_
  refine jx_lv (lv1 := [(0, .ref a0)]) [0] rfl ?_
  refine jx_aload_n 0 dX8_isText_0 rfl rfl ?_
  refine jx_iconst (v := 0) dX8_isText_1 (by decide) ?_
  obtain ⟨hk1, h⟩ := h
  refine jx_puti jc_8 (j := 3) (by decide) rfl jwF_X8_26 rfl rfl rfl dX8_isText_2 hk1 ?_
  refine jx_aload_n 0 dX8_isText_5 rfl rfl ?_
  refine jx_iconst (v := 0) dX8_isText_6 (by decide) ?_
  refine jx_puti jc_8 (j := 4) (by decide) rfl jwF_X8_29 rfl rfl rfl dX8_isText_7 hk1 ?_
  refine jx_aload_n 0 dX8_isText_10 rfl rfl ?_
  refine jx_iconst (v := 0) dX8_isText_11 (by decide) ?_
  refine jx_puti jc_8 (j := 7) (by decide) rfl jwF_X8_32 rfl rfl rfl dX8_isText_12 hk1 ?_
  refine jx_aload_n 0 dX8_isText_15 rfl rfl ?_
  refine jx_iconst (v := 0) dX8_isText_16 (by decide) ?_
  refine jx_puti jc_8 (j := 9) (by decide) rfl jwF_X8_35 rfl rfl rfl dX8_isText_17 hk1 ?_
  refine jx_aload_n 0 dX8_isText_20 rfl rfl ?_
  refine jx_callVv (M' := mX8_step) (As := []) jo_X8_step jc_8 rfl jwM_X8_38 jwN_X8_step jwX_X8_step dX8_isText_21 (jRok_m _ _ _) rfl (jle rfl) ⟨jle rfl, jle rfl⟩ hk1 h (fun S2 h => ?_)
  refine jx_aload_n 0 dX8_isText_24 rfl rfl ?_
  refine jx_aload_n 0 dX8_isText_25 rfl rfl ?_
  obtain ⟨hk3, h⟩ := h
  refine jx_callVi (M' := mX8_keyInHand) (As := []) jo_X8_keyInHand jc_8 rfl jwM_X8_41 jwN_X8_keyInHand jwX_X8_keyInHand dX8_isText_26 (jRok_m _ _ _) rfl (jle rfl) ⟨jle rfl, jle rfl⟩ hk3 h (fun r5 S4 h => ?_)
  obtain ⟨hk6, h⟩ := h
  refine jx_puti jc_8 (j := 6) (by decide) rfl jwF_X8_45 rfl rfl rfl dX8_isText_29 hk6 ?_
  refine jx_aload_n 0 dX8_isText_32 rfl rfl ?_
  refine jx_geti jc_8 (j := 6) (by decide) rfl jwF_X8_45 dX8_isText_33 hk6 ?_
  refine jx_topi (y := r5) (by simp [ji_put, ji_row, ji_putr]) ?_
  refine jx_if_ge (tgt := 41) dX8_isText_36 (by decide) (fun c7 => ?_) (fun c7 => ?_)
  · replace h := h.1 c7
    refine jx_aload_n 0 dX8_isText_41 rfl rfl ?_
    refine jx_callVv (M' := mX8_step) (As := []) jo_X8_step jc_8 rfl jwM_X8_38 jwN_X8_step jwX_X8_step dX8_isText_42 (jRok_m _ _ _) rfl (jle rfl) ⟨jle rfl, jle rfl⟩ hk6 h (fun S8 h => ?_)
    refine jx_aload_n 0 dX8_isText_45 rfl rfl ?_
    refine jx_iconst (v := 0) dX8_isText_46 (by decide) ?_
    refine jx_iconst (v := 0) dX8_isText_47 (by decide) ?_
    refine jx_iconst (v := 0) dX8_isText_48 (by decide) ?_
    obtain ⟨hk9, h⟩ := h
    refine jx_callVi (M' := mX8_readsChain) (As := [.int 0, .int 0, .int 0]) jo_X8_readsChain jc_8 rfl jwM_X8_48 jwN_X8_readsChain jwX_X8_readsChain dX8_isText_49 (jRok_m _ _ _) rfl (jle rfl) ⟨jle rfl, jle rfl⟩ hk9 h (fun r11 S10 h => ?_)
    refine jx_if_eq (tgt := 66) dX8_isText_52 (by decide) (fun c12 => ?_) (fun c12 => ?_)
    · replace h := h.1 c12
      refine jx_iconst (v := 0) dX8_isText_66 (by decide) ?_
      exact jx_iret dX8_isText_67 rfl (by decide) (jle rfl) (jle rfl) ⟨_, rfl, h⟩
    replace h := h.2 c12
    refine jx_aload_n 0 dX8_isText_55 rfl rfl ?_
    obtain ⟨hk13, h⟩ := h
    refine jx_geti jc_8 (j := 4) (by decide) rfl jwF_X8_29 dX8_isText_56 hk13 ?_
    refine jx_if_ne (tgt := 66) dX8_isText_59 (by decide) (fun c14 => ?_) (fun c14 => ?_)
    · replace h := h.2 c14
      refine jx_iconst (v := 0) dX8_isText_66 (by decide) ?_
      exact jx_iret dX8_isText_67 rfl (by decide) (jle rfl) (jle rfl) ⟨_, rfl, h⟩
    replace h := h.1 c14
    refine jx_iconst (v := 1) dX8_isText_62 (by decide) ?_
    refine jx_goto (tgt := 67) dX8_isText_63 (by decide) ?_
    exact jx_iret dX8_isText_67 rfl (by decide) (jle rfl) (jle rfl) ⟨_, rfl, h⟩
  replace h := h.2 c7
  refine jx_iconst (v := 0) dX8_isText_39 (by decide) ?_
  exact jx_iret dX8_isText_40 rfl (by decide) (jle rfl) (jle rfl) ⟨_, rfl, h⟩
set_option maxRecDepth 100000 in
set_option maxHeartbeats 4000000 in
theorem T_X8_textRead {E : jEnv} {d : Nat} {Q : Option Nat → jM → Prop} {a0 : Nat} {S : jM} (h : jk S a0 = 8 ∧ (¬ (ji S a0 9) < 0 ∧ (Int32.toNatClampNeg (ji S a0 9)) ≤ 4000 ∧ (0 + 1 ≤ 3 ∧ 0 + (Int32.toNatClampNeg (ji S a0 9)) ≤ 196)) ∧ (∀ q5, q5 = jn S → jk (jnew S 12 (Int32.toNatClampNeg (ji S a0 9))) a0 = 8 ∧ ∃ b7, jr (jnew S 12 (Int32.toNatClampNeg (ji S a0 9))) a0 8 = some b7 ∧ (jk (jnew S 12 (Int32.toNatClampNeg (ji S a0 9))) b7 = 12 ∧ jk (jnew S 12 (Int32.toNatClampNeg (ji S a0 9))) q5 = 12 ∧ (¬ (0 : Int32) < 0 ∧ ¬ (0 : Int32) < 0 ∧ ¬ (ji (jnew S 12 (Int32.toNatClampNeg (ji S a0 9))) a0 9) < 0 ∧ (Int32.toNatClampNeg 0) + (Int32.toNatClampNeg (ji (jnew S 12 (Int32.toNatClampNeg (ji S a0 9))) a0 9)) ≤ jl (jnew S 12 (Int32.toNatClampNeg (ji S a0 9))) b7 ∧ (Int32.toNatClampNeg 0) + (Int32.toNatClampNeg (ji (jnew S 12 (Int32.toNatClampNeg (ji S a0 9))) a0 9)) ≤ jl (jnew S 12 (Int32.toNatClampNeg (ji S a0 9))) q5) ∧ ((1 + 1 ≤ 3 ∧ (0 + (Int32.toNatClampNeg (ji S a0 9))) + 4 ≤ 196) ∧ ∀ q16, q16 = jn (jrow (jnew S 12 (Int32.toNatClampNeg (ji S a0 9))) q5 (va_cpy (ji (jnew S 12 (Int32.toNatClampNeg (ji S a0 9))) b7) (ji (jnew S 12 (Int32.toNatClampNeg (ji S a0 9))) q5) (Int32.toNatClampNeg 0) (Int32.toNatClampNeg 0) (Int32.toNatClampNeg (ji (jnew S 12 (Int32.toNatClampNeg (ji S a0 9))) a0 9)))) → jk (jnew (jrow (jnew S 12 (Int32.toNatClampNeg (ji S a0 9))) q5 (va_cpy (ji (jnew S 12 (Int32.toNatClampNeg (ji S a0 9))) b7) (ji (jnew S 12 (Int32.toNatClampNeg (ji S a0 9))) q5) (Int32.toNatClampNeg 0) (Int32.toNatClampNeg 0) (Int32.toNatClampNeg (ji (jnew S 12 (Int32.toNatClampNeg (ji S a0 9))) a0 9)))) 9 0) a0 = 8 ∧ ((1 + 1) + 1 ≤ 3 ∧ ((0 + (Int32.toNatClampNeg (ji S a0 9))) + 4) + 96 ≤ 196) ∧ jFv E mX9_init d 1 96 [.ref q16, .int (ji (jnew (jrow (jnew S 12 (Int32.toNatClampNeg (ji S a0 9))) q5 (va_cpy (ji (jnew S 12 (Int32.toNatClampNeg (ji S a0 9))) b7) (ji (jnew S 12 (Int32.toNatClampNeg (ji S a0 9))) q5) (Int32.toNatClampNeg 0) (Int32.toNatClampNeg 0) (Int32.toNatClampNeg (ji (jnew S 12 (Int32.toNatClampNeg (ji S a0 9))) a0 9)))) 9 0) a0 6), .int (ji (jnew (jrow (jnew S 12 (Int32.toNatClampNeg (ji S a0 9))) q5 (va_cpy (ji (jnew S 12 (Int32.toNatClampNeg (ji S a0 9))) b7) (ji (jnew S 12 (Int32.toNatClampNeg (ji S a0 9))) q5) (Int32.toNatClampNeg 0) (Int32.toNatClampNeg 0) (Int32.toNatClampNeg (ji (jnew S 12 (Int32.toNatClampNeg (ji S a0 9))) a0 9)))) 9 0) a0 7), .ref q5] (jnew (jrow (jnew S 12 (Int32.toNatClampNeg (ji S a0 9))) q5 (va_cpy (ji (jnew S 12 (Int32.toNatClampNeg (ji S a0 9))) b7) (ji (jnew S 12 (Int32.toNatClampNeg (ji S a0 9))) q5) (Int32.toNatClampNeg 0) (Int32.toNatClampNeg 0) (Int32.toNatClampNeg (ji (jnew S 12 (Int32.toNatClampNeg (ji S a0 9))) a0 9)))) 9 0) (fun S19 => (((1 + 1) + 1) ≤ 3 ∧ (((0 + (Int32.toNatClampNeg (ji S a0 9))) + 4) + 96) ≤ 196) ∧ Q (some q16) S19))))) : jFr E mX8_textRead (d + 1) 3 196 [.ref a0] S Q := by
  refine jF_of (by decide) (jle rfl) ?_
  refine jx_lv (lv1 := [(0, .ref a0)]) [0] rfl ?_
  refine jx_aload_n 0 dX8_textRead_0 rfl rfl ?_
  obtain ⟨hk1, h⟩ := h
  refine jx_geti jc_8 (j := 9) (by decide) rfl jwF_X8_35 dX8_textRead_1 hk1 ?_
  obtain ⟨⟨hn2, hn3, hn4⟩, h⟩ := h
  refine jx_newa jwA dX8_textRead_4 hn2 rfl hn3 hn4 ?_
  obtain ⟨q5, hq5⟩ : ∃ q, q = jn S := ⟨_, rfl⟩
  rw [← hq5]
  replace h := h q5 hq5
  refine jx_astore_n (lv1 := [(1, .ref q5), (0, .ref a0)]) dX8_textRead_6 rfl (by decide) rfl ?_
  refine jx_aload_n 1 dX8_textRead_7 rfl rfl ?_
  obtain ⟨hk6, h⟩ := h
  obtain ⟨b7, hb7, h⟩ := h
  refine jx_getr jc_8 (j := 8) (by decide) rfl jwF_X8_15 dX8_textRead_8 hk6 hb7 ?_
  refine jx_iconst (v := 0) dX8_textRead_11 (by decide) ?_
  refine jx_aload_n 0 dX8_textRead_12 rfl rfl ?_
  refine jx_iconst (v := 0) dX8_textRead_13 (by decide) ?_
  refine jx_aload_n 1 dX8_textRead_14 rfl rfl ?_
  refine jx_geti jc_8 (j := 9) (by decide) rfl jwF_X8_35 dX8_textRead_15 hk6 ?_
  obtain ⟨hk8, h⟩ := h
  obtain ⟨hk9, h⟩ := h
  obtain ⟨⟨hc10, hc11, hc12, hc13, hc14⟩, h⟩ := h
  refine jx_copy jwM_X8_52 jwV_copy jwS_copy jwZ_J10 dX8_textRead_18 (jRok_m _ _ _) (jle rfl) hk8 hk9 hc10 hc11 hc12 hc13 hc14 ?_
  obtain ⟨hm15, h⟩ := h
  refine jx_new jc_9 jwK_X8_58 jwI_X9 jwZ_X9 jdv_9 dX8_textRead_21 hm15 ?_
  obtain ⟨q16, hq16⟩ : ∃ q, q = jn (jrow (jnew S 12 (Int32.toNatClampNeg (ji S a0 9))) q5 (va_cpy (ji (jnew S 12 (Int32.toNatClampNeg (ji S a0 9))) b7) (ji (jnew S 12 (Int32.toNatClampNeg (ji S a0 9))) q5) (Int32.toNatClampNeg 0) (Int32.toNatClampNeg 0) (Int32.toNatClampNeg (ji (jnew S 12 (Int32.toNatClampNeg (ji S a0 9))) a0 9)))) := ⟨_, rfl⟩
  rw [← hq16]
  replace h := h q16 hq16
  refine jx_dup dX8_textRead_24 rfl ?_
  refine jx_aload_n 1 dX8_textRead_25 rfl rfl ?_
  obtain ⟨hk17, h⟩ := h
  refine jx_geti jc_8 (j := 6) (by decide) rfl jwF_X8_45 dX8_textRead_26 hk17 ?_
  refine jx_aload_n 1 dX8_textRead_29 rfl rfl ?_
  refine jx_geti jc_8 (j := 7) (by decide) rfl jwF_X8_32 dX8_textRead_30 hk17 ?_
  refine jx_aload_n 0 dX8_textRead_33 rfl rfl ?_
  obtain ⟨hm18, h⟩ := h
  refine jx_callIv (M' := mX9_init) (As := [.int (ji (jnew (jrow (jnew S 12 (Int32.toNatClampNeg (ji S a0 9))) q5 (va_cpy (ji (jnew S 12 (Int32.toNatClampNeg (ji S a0 9))) b7) (ji (jnew S 12 (Int32.toNatClampNeg (ji S a0 9))) q5) (Int32.toNatClampNeg 0) (Int32.toNatClampNeg 0) (Int32.toNatClampNeg (ji (jnew S 12 (Int32.toNatClampNeg (ji S a0 9))) a0 9)))) 9 0) a0 6), .int (ji (jnew (jrow (jnew S 12 (Int32.toNatClampNeg (ji S a0 9))) q5 (va_cpy (ji (jnew S 12 (Int32.toNatClampNeg (ji S a0 9))) b7) (ji (jnew S 12 (Int32.toNatClampNeg (ji S a0 9))) q5) (Int32.toNatClampNeg 0) (Int32.toNatClampNeg 0) (Int32.toNatClampNeg (ji (jnew S 12 (Int32.toNatClampNeg (ji S a0 9))) a0 9)))) 9 0) a0 7), .ref q5]) (b := q16) jo_X9_init rfl jwM_X8_60 jwN_X9_init rfl dX8_textRead_34 (jRok_m _ _ _) rfl (jle rfl) hm18 h (fun S19 h => ?_)
  obtain ⟨hm20, h⟩ := h
  exact jx_aret (o := (some q16)) dX8_textRead_37 rfl hm20.1 hm20.2 ⟨_, rfl, h⟩
/-- X8_step at its loop's head 35 -/
abbrev L_X8_step_35 (E : jEnv) (d : Nat) (Q : jM → Prop) (a0 : Nat) (x1 : Int32) (x2 : Int32) (S : jM) : Prop := jX E mX8_step (jRm (d + 1) 0 0) (jZm E (fun r S' => r = none ∧ Q S') 0 0) 35 [(0, .ref a0), (1, .int x1), (2, .int x2)] [] S 0 0
/-- X8_step at its loop's head 129 -/
abbrev L_X8_step_129 (E : jEnv) (d : Nat) (Q : jM → Prop) (a0 : Nat) (S : jM) : Prop := jX E mX8_step (jRm (d + 1) 0 0) (jZm E (fun r S' => r = none ∧ Q S') 0 0) 129 [(0, .ref a0)] [] S 0 0
set_option maxRecDepth 100000 in
set_option maxHeartbeats 4000000 in
theorem T_X8_step {E : jEnv} {d : Nat} {Q : jM → Prop} {a0 : Nat} {S : jM} (h : jk S a0 = 8 ∧ ((ji S a0 4) = 1 → L_X8_step_35 E d Q a0 1 (ji S a0 3) (jput S a0 2 (ji S a0 3))) ∧ (¬ (ji S a0 4) = 1 → ((ji S a0 4) = 2 → L_X8_step_35 E d Q a0 1 (ji S a0 3) (jput S a0 2 (ji S a0 3))) ∧ (¬ (ji S a0 4) = 2 → L_X8_step_35 E d Q a0 0 (ji S a0 3) (jput S a0 2 (ji S a0 3))))) : jFv E mX8_step (d + 1) 0 0 [.ref a0] S Q := by
  refine jF_of (by decide) (jle rfl) ?_
  refine jx_lv (lv1 := [(0, .ref a0)]) [0] rfl ?_
  refine jx_aload_n 0 dX8_step_0 rfl rfl ?_
  obtain ⟨hk1, h⟩ := h
  refine jx_geti jc_8 (j := 4) (by decide) rfl jwF_X8_29 dX8_step_1 hk1 ?_
  refine jx_iconst (v := 1) dX8_step_4 (by decide) ?_
  refine jx_icmp_eq (tgt := 16) dX8_step_5 (by decide) (fun c2 => ?_) (fun c2 => ?_)
  · replace h := h.1 c2
    refine jx_iconst (v := 1) dX8_step_16 (by decide) ?_
    refine jx_goto (tgt := 21) dX8_step_17 (by decide) ?_
    refine jx_istore_n (lv1 := [(1, .int 1), (0, .ref a0)]) dX8_step_21 rfl (by decide) rfl ?_
    refine jx_aload_n 1 dX8_step_22 rfl rfl ?_
    refine jx_geti jc_8 (j := 3) (by decide) rfl jwF_X8_26 dX8_step_23 hk1 ?_
    refine jx_istore_n (lv1 := [(2, .int (ji S a0 3)), (1, .int 1), (0, .ref a0)]) dX8_step_26 rfl (by decide) rfl ?_
    refine jx_aload_n 2 dX8_step_27 rfl rfl ?_
    refine jx_aload_n 2 dX8_step_28 rfl rfl ?_
    refine jx_geti jc_8 (j := 3) (by decide) rfl jwF_X8_26 dX8_step_29 hk1 ?_
    refine jx_puti jc_8 (j := 2) (by decide) rfl jwF_X8_63 rfl rfl rfl dX8_step_32 hk1 ?_
    exact jx_lv [2, 1, 0] rfl h
  replace h := h.2 c2
  refine jx_aload_n 0 dX8_step_8 rfl rfl ?_
  refine jx_geti jc_8 (j := 4) (by decide) rfl jwF_X8_29 dX8_step_9 hk1 ?_
  refine jx_iconst (v := 2) dX8_step_12 (by decide) ?_
  refine jx_icmp_ne (tgt := 20) dX8_step_13 (by decide) (fun c3 => ?_) (fun c3 => ?_)
  · replace h := h.2 c3
    refine jx_iconst (v := 0) dX8_step_20 (by decide) ?_
    refine jx_istore_n (lv1 := [(1, .int 0), (0, .ref a0)]) dX8_step_21 rfl (by decide) rfl ?_
    refine jx_aload_n 1 dX8_step_22 rfl rfl ?_
    refine jx_geti jc_8 (j := 3) (by decide) rfl jwF_X8_26 dX8_step_23 hk1 ?_
    refine jx_istore_n (lv1 := [(2, .int (ji S a0 3)), (1, .int 0), (0, .ref a0)]) dX8_step_26 rfl (by decide) rfl ?_
    refine jx_aload_n 2 dX8_step_27 rfl rfl ?_
    refine jx_aload_n 2 dX8_step_28 rfl rfl ?_
    refine jx_geti jc_8 (j := 3) (by decide) rfl jwF_X8_26 dX8_step_29 hk1 ?_
    refine jx_puti jc_8 (j := 2) (by decide) rfl jwF_X8_63 rfl rfl rfl dX8_step_32 hk1 ?_
    exact jx_lv [2, 1, 0] rfl h
  replace h := h.1 c3
  refine jx_iconst (v := 1) dX8_step_16 (by decide) ?_
  refine jx_goto (tgt := 21) dX8_step_17 (by decide) ?_
  refine jx_istore_n (lv1 := [(1, .int 1), (0, .ref a0)]) dX8_step_21 rfl (by decide) rfl ?_
  refine jx_aload_n 1 dX8_step_22 rfl rfl ?_
  refine jx_geti jc_8 (j := 3) (by decide) rfl jwF_X8_26 dX8_step_23 hk1 ?_
  refine jx_istore_n (lv1 := [(2, .int (ji S a0 3)), (1, .int 1), (0, .ref a0)]) dX8_step_26 rfl (by decide) rfl ?_
  refine jx_aload_n 2 dX8_step_27 rfl rfl ?_
  refine jx_aload_n 2 dX8_step_28 rfl rfl ?_
  refine jx_geti jc_8 (j := 3) (by decide) rfl jwF_X8_26 dX8_step_29 hk1 ?_
  refine jx_puti jc_8 (j := 2) (by decide) rfl jwF_X8_63 rfl rfl rfl dX8_step_32 hk1 ?_
  exact jx_lv [2, 1, 0] rfl h
set_option maxRecDepth 100000 in
set_option maxHeartbeats 4000000 in
theorem T_X8_step_35 {E : jEnv} {d : Nat} {Q : jM → Prop} {a0 : Nat} {x1 : Int32} {x2 : Int32} {S : jM} (h : jk S a0 = 8 ∧ ((ji S a0 1) ≤ (ji S a0 2) → jFi E mX8_sortAt d 0 0 [.ref a0, .int (ji S a0 2)] S (fun r7 S6 => jk S6 a0 = 8 ∧ (x1 = 0 → (r7 = 0 → L_X8_step_129 E d Q a0 (jput (jput (jput S6 a0 4 r7) a0 5 0) a0 3 (ji S6 a0 2))) ∧ (¬ r7 = 0 → L_X8_step_129 E d Q a0 (jput (jput (jput S6 a0 4 r7) a0 5 0) a0 3 ((ji S6 a0 2) + 1)))) ∧ (¬ x1 = 0 → ((ji S6 a0 2) = x2 → (r7 = 0 → L_X8_step_129 E d Q a0 (jput (jput (jput S6 a0 4 r7) a0 5 1) a0 3 (ji S6 a0 2))) ∧ (¬ r7 = 0 → L_X8_step_129 E d Q a0 (jput (jput (jput S6 a0 4 r7) a0 5 1) a0 3 ((ji S6 a0 2) + 1)))) ∧ (¬ (ji S6 a0 2) = x2 → (r7 = 0 → L_X8_step_129 E d Q a0 (jput (jput (jput S6 a0 4 r7) a0 5 0) a0 3 (ji S6 a0 2))) ∧ (¬ r7 = 0 → L_X8_step_129 E d Q a0 (jput (jput (jput S6 a0 4 r7) a0 5 0) a0 3 ((ji S6 a0 2) + 1))))))) ∧ (¬ (ji S a0 1) ≤ (ji S a0 2) → jFi E mX8_byteAt d 0 0 [.ref a0, .int (ji S a0 2)] S (fun r15 S14 => (r15 = 32 → jk S14 a0 = 8 ∧ L_X8_step_35 E d Q a0 x1 x2 (jput S14 a0 2 ((ji S14 a0 2) + 1))) ∧ (¬ r15 = 32 → jk S14 a0 = 8 ∧ jFi E mX8_sortAt d 0 0 [.ref a0, .int (ji S14 a0 2)] S14 (fun r19 S18 => jk S18 a0 = 8 ∧ (x1 = 0 → (r19 = 0 → L_X8_step_129 E d Q a0 (jput (jput (jput S18 a0 4 r19) a0 5 0) a0 3 (ji S18 a0 2))) ∧ (¬ r19 = 0 → L_X8_step_129 E d Q a0 (jput (jput (jput S18 a0 4 r19) a0 5 0) a0 3 ((ji S18 a0 2) + 1)))) ∧ (¬ x1 = 0 → ((ji S18 a0 2) = x2 → (r19 = 0 → L_X8_step_129 E d Q a0 (jput (jput (jput S18 a0 4 r19) a0 5 1) a0 3 (ji S18 a0 2))) ∧ (¬ r19 = 0 → L_X8_step_129 E d Q a0 (jput (jput (jput S18 a0 4 r19) a0 5 1) a0 3 ((ji S18 a0 2) + 1)))) ∧ (¬ (ji S18 a0 2) = x2 → (r19 = 0 → L_X8_step_129 E d Q a0 (jput (jput (jput S18 a0 4 r19) a0 5 0) a0 3 (ji S18 a0 2))) ∧ (¬ r19 = 0 → L_X8_step_129 E d Q a0 (jput (jput (jput S18 a0 4 r19) a0 5 0) a0 3 ((ji S18 a0 2) + 1)))))))))) : L_X8_step_35 E d Q a0 x1 x2 S := by
  show jX E mX8_step (jRm (d + 1) 0 0) (jZm E (fun r S' => r = none ∧ Q S') 0 0) 35 [(0, .ref a0), (1, .int x1), (2, .int x2)] [] S 0 0
  refine jx_aload_n 0 dX8_step_35 rfl rfl ?_
  obtain ⟨hk4, h⟩ := h
  refine jx_geti jc_8 (j := 2) (by decide) rfl jwF_X8_63 dX8_step_36 hk4 ?_
  refine jx_aload_n 0 dX8_step_39 rfl rfl ?_
  refine jx_geti jc_8 (j := 1) (by decide) rfl jwF_X8_18 dX8_step_40 hk4 ?_
  refine jx_icmp_ge (tgt := 72) dX8_step_43 (by decide) (fun c5 => ?_) (fun c5 => ?_)
  · replace h := h.1 c5
    refine jx_aload_n 0 dX8_step_72 rfl rfl ?_
    refine jx_aload_n 0 dX8_step_73 rfl rfl ?_
    refine jx_aload_n 0 dX8_step_74 rfl rfl ?_
    refine jx_geti jc_8 (j := 2) (by decide) rfl jwF_X8_63 dX8_step_75 hk4 ?_
    refine jx_callVi (M' := mX8_sortAt) (As := [.int (ji S a0 2)]) jo_X8_sortAt jc_8 rfl jwM_X8_70 jwN_X8_sortAt jwX_X8_sortAt dX8_step_78 (jRok_m _ _ _) rfl (jle rfl) ⟨jle rfl, jle rfl⟩ hk4 h (fun r7 S6 h => ?_)
    obtain ⟨hk8, h⟩ := h
    refine jx_puti jc_8 (j := 4) (by decide) rfl jwF_X8_29 rfl rfl rfl dX8_step_81 hk8 ?_
    refine jx_aload_n 0 dX8_step_84 rfl rfl ?_
    refine jx_iload_n 1 dX8_step_85 rfl rfl ?_
    refine jx_if_eq (tgt := 101) dX8_step_86 (by decide) (fun c9 => ?_) (fun c9 => ?_)
    · replace h := h.1 c9
      refine jx_iconst (v := 0) dX8_step_101 (by decide) ?_
      refine jx_puti jc_8 (j := 5) (by decide) rfl jwF_X8_73 rfl (by decide) (by decide) dX8_step_102 hk8 ?_
      refine jx_aload_n 0 dX8_step_105 rfl rfl ?_
      refine jx_aload_n 0 dX8_step_106 rfl rfl ?_
      refine jx_geti jc_8 (j := 4) (by decide) rfl jwF_X8_29 dX8_step_107 hk8 ?_
      refine jx_topi (y := r7) (by simp [ji_put, ji_row, ji_putr]) ?_
      refine jx_if_ne (tgt := 120) dX8_step_110 (by decide) (fun c10 => ?_) (fun c10 => ?_)
      · replace h := h.2 c10
        refine jx_aload_n 0 dX8_step_120 rfl rfl ?_
        refine jx_geti jc_8 (j := 2) (by decide) rfl jwF_X8_63 dX8_step_121 hk8 ?_
        refine jx_topi (y := (ji S6 a0 2)) (by simp [ji_put, ji_row, ji_putr]) ?_
        refine jx_iconst (v := 1) dX8_step_124 (by decide) ?_
        refine jx_iadd dX8_step_125 ?_
        refine jx_puti jc_8 (j := 3) (by decide) rfl jwF_X8_26 rfl rfl rfl dX8_step_126 hk8 ?_
        exact jx_lv [0] rfl h
      replace h := h.1 c10
      refine jx_aload_n 0 dX8_step_113 rfl rfl ?_
      refine jx_geti jc_8 (j := 2) (by decide) rfl jwF_X8_63 dX8_step_114 hk8 ?_
      refine jx_topi (y := (ji S6 a0 2)) (by simp [ji_put, ji_row, ji_putr]) ?_
      refine jx_goto (tgt := 126) dX8_step_117 (by decide) ?_
      refine jx_puti jc_8 (j := 3) (by decide) rfl jwF_X8_26 rfl rfl rfl dX8_step_126 hk8 ?_
      exact jx_lv [0] rfl h
    replace h := h.2 c9
    refine jx_aload_n 0 dX8_step_89 rfl rfl ?_
    refine jx_geti jc_8 (j := 2) (by decide) rfl jwF_X8_63 dX8_step_90 hk8 ?_
    refine jx_topi (y := (ji S6 a0 2)) (by simp [ji_put, ji_row, ji_putr]) ?_
    refine jx_iload_n 2 dX8_step_93 rfl rfl ?_
    refine jx_icmp_ne (tgt := 101) dX8_step_94 (by decide) (fun c11 => ?_) (fun c11 => ?_)
    · replace h := h.2 c11
      refine jx_iconst (v := 0) dX8_step_101 (by decide) ?_
      refine jx_puti jc_8 (j := 5) (by decide) rfl jwF_X8_73 rfl (by decide) (by decide) dX8_step_102 hk8 ?_
      refine jx_aload_n 0 dX8_step_105 rfl rfl ?_
      refine jx_aload_n 0 dX8_step_106 rfl rfl ?_
      refine jx_geti jc_8 (j := 4) (by decide) rfl jwF_X8_29 dX8_step_107 hk8 ?_
      refine jx_topi (y := r7) (by simp [ji_put, ji_row, ji_putr]) ?_
      refine jx_if_ne (tgt := 120) dX8_step_110 (by decide) (fun c12 => ?_) (fun c12 => ?_)
      · replace h := h.2 c12
        refine jx_aload_n 0 dX8_step_120 rfl rfl ?_
        refine jx_geti jc_8 (j := 2) (by decide) rfl jwF_X8_63 dX8_step_121 hk8 ?_
        refine jx_topi (y := (ji S6 a0 2)) (by simp [ji_put, ji_row, ji_putr]) ?_
        refine jx_iconst (v := 1) dX8_step_124 (by decide) ?_
        refine jx_iadd dX8_step_125 ?_
        refine jx_puti jc_8 (j := 3) (by decide) rfl jwF_X8_26 rfl rfl rfl dX8_step_126 hk8 ?_
        exact jx_lv [0] rfl h
      replace h := h.1 c12
      refine jx_aload_n 0 dX8_step_113 rfl rfl ?_
      refine jx_geti jc_8 (j := 2) (by decide) rfl jwF_X8_63 dX8_step_114 hk8 ?_
      refine jx_topi (y := (ji S6 a0 2)) (by simp [ji_put, ji_row, ji_putr]) ?_
      refine jx_goto (tgt := 126) dX8_step_117 (by decide) ?_
      refine jx_puti jc_8 (j := 3) (by decide) rfl jwF_X8_26 rfl rfl rfl dX8_step_126 hk8 ?_
      exact jx_lv [0] rfl h
    replace h := h.1 c11
    refine jx_iconst (v := 1) dX8_step_97 (by decide) ?_
    refine jx_goto (tgt := 102) dX8_step_98 (by decide) ?_
    refine jx_puti jc_8 (j := 5) (by decide) rfl jwF_X8_73 rfl (by decide) (by decide) dX8_step_102 hk8 ?_
    refine jx_aload_n 0 dX8_step_105 rfl rfl ?_
    refine jx_aload_n 0 dX8_step_106 rfl rfl ?_
    refine jx_geti jc_8 (j := 4) (by decide) rfl jwF_X8_29 dX8_step_107 hk8 ?_
    refine jx_topi (y := r7) (by simp [ji_put, ji_row, ji_putr]) ?_
    refine jx_if_ne (tgt := 120) dX8_step_110 (by decide) (fun c13 => ?_) (fun c13 => ?_)
    · replace h := h.2 c13
      refine jx_aload_n 0 dX8_step_120 rfl rfl ?_
      refine jx_geti jc_8 (j := 2) (by decide) rfl jwF_X8_63 dX8_step_121 hk8 ?_
      refine jx_topi (y := (ji S6 a0 2)) (by simp [ji_put, ji_row, ji_putr]) ?_
      refine jx_iconst (v := 1) dX8_step_124 (by decide) ?_
      refine jx_iadd dX8_step_125 ?_
      refine jx_puti jc_8 (j := 3) (by decide) rfl jwF_X8_26 rfl rfl rfl dX8_step_126 hk8 ?_
      exact jx_lv [0] rfl h
    replace h := h.1 c13
    refine jx_aload_n 0 dX8_step_113 rfl rfl ?_
    refine jx_geti jc_8 (j := 2) (by decide) rfl jwF_X8_63 dX8_step_114 hk8 ?_
    refine jx_topi (y := (ji S6 a0 2)) (by simp [ji_put, ji_row, ji_putr]) ?_
    refine jx_goto (tgt := 126) dX8_step_117 (by decide) ?_
    refine jx_puti jc_8 (j := 3) (by decide) rfl jwF_X8_26 rfl rfl rfl dX8_step_126 hk8 ?_
    exact jx_lv [0] rfl h
  replace h := h.2 c5
  refine jx_aload_n 0 dX8_step_46 rfl rfl ?_
  refine jx_aload_n 0 dX8_step_47 rfl rfl ?_
  refine jx_geti jc_8 (j := 2) (by decide) rfl jwF_X8_63 dX8_step_48 hk4 ?_
  refine jx_callVi (M' := mX8_byteAt) (As := [.int (ji S a0 2)]) jo_X8_byteAt jc_8 rfl jwM_X8_66 jwN_X8_byteAt jwX_X8_byteAt dX8_step_51 (jRok_m _ _ _) rfl (jle rfl) ⟨jle rfl, jle rfl⟩ hk4 h (fun r15 S14 h => ?_)
  refine jx_bipush (v := 32) dX8_step_54 (by decide) ?_
  refine jx_icmp_ne (tgt := 72) dX8_step_56 (by decide) (fun c16 => ?_) (fun c16 => ?_)
  · replace h := h.2 c16
    refine jx_aload_n 0 dX8_step_72 rfl rfl ?_
    refine jx_aload_n 0 dX8_step_73 rfl rfl ?_
    refine jx_aload_n 0 dX8_step_74 rfl rfl ?_
    obtain ⟨hk17, h⟩ := h
    refine jx_geti jc_8 (j := 2) (by decide) rfl jwF_X8_63 dX8_step_75 hk17 ?_
    refine jx_callVi (M' := mX8_sortAt) (As := [.int (ji S14 a0 2)]) jo_X8_sortAt jc_8 rfl jwM_X8_70 jwN_X8_sortAt jwX_X8_sortAt dX8_step_78 (jRok_m _ _ _) rfl (jle rfl) ⟨jle rfl, jle rfl⟩ hk17 h (fun r19 S18 h => ?_)
    obtain ⟨hk20, h⟩ := h
    refine jx_puti jc_8 (j := 4) (by decide) rfl jwF_X8_29 rfl rfl rfl dX8_step_81 hk20 ?_
    refine jx_aload_n 0 dX8_step_84 rfl rfl ?_
    refine jx_iload_n 1 dX8_step_85 rfl rfl ?_
    refine jx_if_eq (tgt := 101) dX8_step_86 (by decide) (fun c21 => ?_) (fun c21 => ?_)
    · replace h := h.1 c21
      refine jx_iconst (v := 0) dX8_step_101 (by decide) ?_
      refine jx_puti jc_8 (j := 5) (by decide) rfl jwF_X8_73 rfl (by decide) (by decide) dX8_step_102 hk20 ?_
      refine jx_aload_n 0 dX8_step_105 rfl rfl ?_
      refine jx_aload_n 0 dX8_step_106 rfl rfl ?_
      refine jx_geti jc_8 (j := 4) (by decide) rfl jwF_X8_29 dX8_step_107 hk20 ?_
      refine jx_topi (y := r19) (by simp [ji_put, ji_row, ji_putr]) ?_
      refine jx_if_ne (tgt := 120) dX8_step_110 (by decide) (fun c22 => ?_) (fun c22 => ?_)
      · replace h := h.2 c22
        refine jx_aload_n 0 dX8_step_120 rfl rfl ?_
        refine jx_geti jc_8 (j := 2) (by decide) rfl jwF_X8_63 dX8_step_121 hk20 ?_
        refine jx_topi (y := (ji S18 a0 2)) (by simp [ji_put, ji_row, ji_putr]) ?_
        refine jx_iconst (v := 1) dX8_step_124 (by decide) ?_
        refine jx_iadd dX8_step_125 ?_
        refine jx_puti jc_8 (j := 3) (by decide) rfl jwF_X8_26 rfl rfl rfl dX8_step_126 hk20 ?_
        exact jx_lv [0] rfl h
      replace h := h.1 c22
      refine jx_aload_n 0 dX8_step_113 rfl rfl ?_
      refine jx_geti jc_8 (j := 2) (by decide) rfl jwF_X8_63 dX8_step_114 hk20 ?_
      refine jx_topi (y := (ji S18 a0 2)) (by simp [ji_put, ji_row, ji_putr]) ?_
      refine jx_goto (tgt := 126) dX8_step_117 (by decide) ?_
      refine jx_puti jc_8 (j := 3) (by decide) rfl jwF_X8_26 rfl rfl rfl dX8_step_126 hk20 ?_
      exact jx_lv [0] rfl h
    replace h := h.2 c21
    refine jx_aload_n 0 dX8_step_89 rfl rfl ?_
    refine jx_geti jc_8 (j := 2) (by decide) rfl jwF_X8_63 dX8_step_90 hk20 ?_
    refine jx_topi (y := (ji S18 a0 2)) (by simp [ji_put, ji_row, ji_putr]) ?_
    refine jx_iload_n 2 dX8_step_93 rfl rfl ?_
    refine jx_icmp_ne (tgt := 101) dX8_step_94 (by decide) (fun c23 => ?_) (fun c23 => ?_)
    · replace h := h.2 c23
      refine jx_iconst (v := 0) dX8_step_101 (by decide) ?_
      refine jx_puti jc_8 (j := 5) (by decide) rfl jwF_X8_73 rfl (by decide) (by decide) dX8_step_102 hk20 ?_
      refine jx_aload_n 0 dX8_step_105 rfl rfl ?_
      refine jx_aload_n 0 dX8_step_106 rfl rfl ?_
      refine jx_geti jc_8 (j := 4) (by decide) rfl jwF_X8_29 dX8_step_107 hk20 ?_
      refine jx_topi (y := r19) (by simp [ji_put, ji_row, ji_putr]) ?_
      refine jx_if_ne (tgt := 120) dX8_step_110 (by decide) (fun c24 => ?_) (fun c24 => ?_)
      · replace h := h.2 c24
        refine jx_aload_n 0 dX8_step_120 rfl rfl ?_
        refine jx_geti jc_8 (j := 2) (by decide) rfl jwF_X8_63 dX8_step_121 hk20 ?_
        refine jx_topi (y := (ji S18 a0 2)) (by simp [ji_put, ji_row, ji_putr]) ?_
        refine jx_iconst (v := 1) dX8_step_124 (by decide) ?_
        refine jx_iadd dX8_step_125 ?_
        refine jx_puti jc_8 (j := 3) (by decide) rfl jwF_X8_26 rfl rfl rfl dX8_step_126 hk20 ?_
        exact jx_lv [0] rfl h
      replace h := h.1 c24
      refine jx_aload_n 0 dX8_step_113 rfl rfl ?_
      refine jx_geti jc_8 (j := 2) (by decide) rfl jwF_X8_63 dX8_step_114 hk20 ?_
      refine jx_topi (y := (ji S18 a0 2)) (by simp [ji_put, ji_row, ji_putr]) ?_
      refine jx_goto (tgt := 126) dX8_step_117 (by decide) ?_
      refine jx_puti jc_8 (j := 3) (by decide) rfl jwF_X8_26 rfl rfl rfl dX8_step_126 hk20 ?_
      exact jx_lv [0] rfl h
    replace h := h.1 c23
    refine jx_iconst (v := 1) dX8_step_97 (by decide) ?_
    refine jx_goto (tgt := 102) dX8_step_98 (by decide) ?_
    refine jx_puti jc_8 (j := 5) (by decide) rfl jwF_X8_73 rfl (by decide) (by decide) dX8_step_102 hk20 ?_
    refine jx_aload_n 0 dX8_step_105 rfl rfl ?_
    refine jx_aload_n 0 dX8_step_106 rfl rfl ?_
    refine jx_geti jc_8 (j := 4) (by decide) rfl jwF_X8_29 dX8_step_107 hk20 ?_
    refine jx_topi (y := r19) (by simp [ji_put, ji_row, ji_putr]) ?_
    refine jx_if_ne (tgt := 120) dX8_step_110 (by decide) (fun c25 => ?_) (fun c25 => ?_)
    · replace h := h.2 c25
      refine jx_aload_n 0 dX8_step_120 rfl rfl ?_
      refine jx_geti jc_8 (j := 2) (by decide) rfl jwF_X8_63 dX8_step_121 hk20 ?_
      refine jx_topi (y := (ji S18 a0 2)) (by simp [ji_put, ji_row, ji_putr]) ?_
      refine jx_iconst (v := 1) dX8_step_124 (by decide) ?_
      refine jx_iadd dX8_step_125 ?_
      refine jx_puti jc_8 (j := 3) (by decide) rfl jwF_X8_26 rfl rfl rfl dX8_step_126 hk20 ?_
      exact jx_lv [0] rfl h
    replace h := h.1 c25
    refine jx_aload_n 0 dX8_step_113 rfl rfl ?_
    refine jx_geti jc_8 (j := 2) (by decide) rfl jwF_X8_63 dX8_step_114 hk20 ?_
    refine jx_topi (y := (ji S18 a0 2)) (by simp [ji_put, ji_row, ji_putr]) ?_
    refine jx_goto (tgt := 126) dX8_step_117 (by decide) ?_
    refine jx_puti jc_8 (j := 3) (by decide) rfl jwF_X8_26 rfl rfl rfl dX8_step_126 hk20 ?_
    exact jx_lv [0] rfl h
  replace h := h.1 c16
  refine jx_aload_n 0 dX8_step_59 rfl rfl ?_
  refine jx_dup dX8_step_60 rfl ?_
  obtain ⟨hk26, h⟩ := h
  refine jx_geti jc_8 (j := 2) (by decide) rfl jwF_X8_63 dX8_step_61 hk26 ?_
  refine jx_iconst (v := 1) dX8_step_64 (by decide) ?_
  refine jx_iadd dX8_step_65 ?_
  refine jx_puti jc_8 (j := 2) (by decide) rfl jwF_X8_63 rfl rfl rfl dX8_step_66 hk26 ?_
  refine jx_goto (tgt := 35) dX8_step_69 (by decide) ?_
  exact jx_lv [0, 1, 2] rfl h
set_option maxRecDepth 100000 in
set_option maxHeartbeats 4000000 in
theorem T_X8_step_129 {E : jEnv} {d : Nat} {Q : jM → Prop} {a0 : Nat} {S : jM} (h : jk S a0 = 8 ∧ ((ji S a0 1) ≤ (ji S a0 3) → Q S) ∧ (¬ (ji S a0 1) ≤ (ji S a0 3) → ((ji S a0 4) = 3 → Q S) ∧ (¬ (ji S a0 4) = 3 → jFi E mX8_sortAt d 0 0 [.ref a0, .int (ji S a0 3)] S (fun r31 S30 => jk S30 a0 = 8 ∧ (r31 = (ji S30 a0 4) → L_X8_step_129 E d Q a0 (jput S30 a0 3 ((ji S30 a0 3) + 1))) ∧ (¬ r31 = (ji S30 a0 4) → Q S30))))) : L_X8_step_129 E d Q a0 S := by
  show jX E mX8_step (jRm (d + 1) 0 0) (jZm E (fun r S' => r = none ∧ Q S') 0 0) 129 [(0, .ref a0)] [] S 0 0
  refine jx_aload_n 0 dX8_step_129 rfl rfl ?_
  obtain ⟨hk27, h⟩ := h
  refine jx_geti jc_8 (j := 3) (by decide) rfl jwF_X8_26 dX8_step_130 hk27 ?_
  refine jx_aload_n 0 dX8_step_133 rfl rfl ?_
  refine jx_geti jc_8 (j := 1) (by decide) rfl jwF_X8_18 dX8_step_134 hk27 ?_
  refine jx_icmp_ge (tgt := 176) dX8_step_137 (by decide) (fun c28 => ?_) (fun c28 => ?_)
  · replace h := h.1 c28
    exact jx_vret dX8_step_176 rfl (jle rfl) (jle rfl) ⟨rfl, h⟩
  replace h := h.2 c28
  refine jx_aload_n 0 dX8_step_140 rfl rfl ?_
  refine jx_geti jc_8 (j := 4) (by decide) rfl jwF_X8_29 dX8_step_141 hk27 ?_
  refine jx_iconst (v := 3) dX8_step_144 (by decide) ?_
  refine jx_icmp_eq (tgt := 176) dX8_step_145 (by decide) (fun c29 => ?_) (fun c29 => ?_)
  · replace h := h.1 c29
    exact jx_vret dX8_step_176 rfl (jle rfl) (jle rfl) ⟨rfl, h⟩
  replace h := h.2 c29
  refine jx_aload_n 0 dX8_step_148 rfl rfl ?_
  refine jx_aload_n 0 dX8_step_149 rfl rfl ?_
  refine jx_geti jc_8 (j := 3) (by decide) rfl jwF_X8_26 dX8_step_150 hk27 ?_
  refine jx_callVi (M' := mX8_sortAt) (As := [.int (ji S a0 3)]) jo_X8_sortAt jc_8 rfl jwM_X8_70 jwN_X8_sortAt jwX_X8_sortAt dX8_step_153 (jRok_m _ _ _) rfl (jle rfl) ⟨jle rfl, jle rfl⟩ hk27 h (fun r31 S30 h => ?_)
  refine jx_aload_n 0 dX8_step_156 rfl rfl ?_
  obtain ⟨hk32, h⟩ := h
  refine jx_geti jc_8 (j := 4) (by decide) rfl jwF_X8_29 dX8_step_157 hk32 ?_
  refine jx_icmp_ne (tgt := 176) dX8_step_160 (by decide) (fun c33 => ?_) (fun c33 => ?_)
  · replace h := h.2 c33
    exact jx_vret dX8_step_176 rfl (jle rfl) (jle rfl) ⟨rfl, h⟩
  replace h := h.1 c33
  refine jx_aload_n 0 dX8_step_163 rfl rfl ?_
  refine jx_dup dX8_step_164 rfl ?_
  refine jx_geti jc_8 (j := 3) (by decide) rfl jwF_X8_26 dX8_step_165 hk32 ?_
  refine jx_iconst (v := 1) dX8_step_168 (by decide) ?_
  refine jx_iadd dX8_step_169 ?_
  refine jx_puti jc_8 (j := 3) (by decide) rfl jwF_X8_26 rfl rfl rfl dX8_step_170 hk32 ?_
  refine jx_goto (tgt := 129) dX8_step_173 (by decide) ?_
  exact jx_lv [0] rfl h
set_option maxRecDepth 100000 in
set_option maxHeartbeats 4000000 in
theorem T_X8_byteAt {E : jEnv} {d : Nat} {Q : Int32 → jM → Prop} {a0 : Nat} {x1 : Int32} {S : jM} (h : (x1 < 0 → Q 0 S) ∧ (¬ x1 < 0 → jk S a0 = 8 ∧ ((ji S a0 1) ≤ x1 → Q 0 S) ∧ (¬ (ji S a0 1) ≤ x1 → (96 ≤ x1 → Q 0 S) ∧ (¬ 96 ≤ x1 → ∃ b5, jr S a0 0 = some b5 ∧ (jk S b5 = 12 ∧ vp_in x1 (jl S b5) ∧ (Q (ji S b5 (Int32.toNatClampNeg x1)) S)))))) : jFi E mX8_byteAt d 0 0 [.ref a0, .int x1] S Q := by
  refine jF_of (by decide) (jle rfl) ?_
  refine jx_lv (lv1 := [(0, .ref a0), (1, .int x1)]) [0, 1] rfl ?_
  refine jx_iload_n 1 dX8_byteAt_0 rfl rfl ?_
  refine jx_if_lt (tgt := 27) dX8_byteAt_1 (by decide) (fun c1 => ?_) (fun c1 => ?_)
  · replace h := h.1 c1
    refine jx_iconst (v := 0) dX8_byteAt_27 (by decide) ?_
    exact jx_iret dX8_byteAt_28 rfl rfl (jle rfl) (jle rfl) ⟨_, rfl, h⟩
  replace h := h.2 c1
  refine jx_iload_n 1 dX8_byteAt_4 rfl rfl ?_
  refine jx_aload_n 0 dX8_byteAt_5 rfl rfl ?_
  obtain ⟨hk2, h⟩ := h
  refine jx_geti jc_8 (j := 1) (by decide) rfl jwF_X8_18 dX8_byteAt_6 hk2 ?_
  refine jx_icmp_ge (tgt := 27) dX8_byteAt_9 (by decide) (fun c3 => ?_) (fun c3 => ?_)
  · replace h := h.1 c3
    refine jx_iconst (v := 0) dX8_byteAt_27 (by decide) ?_
    exact jx_iret dX8_byteAt_28 rfl rfl (jle rfl) (jle rfl) ⟨_, rfl, h⟩
  replace h := h.2 c3
  refine jx_iload_n 1 dX8_byteAt_12 rfl rfl ?_
  refine jx_bipush (v := 96) dX8_byteAt_13 (by decide) ?_
  refine jx_icmp_ge (tgt := 27) dX8_byteAt_15 (by decide) (fun c4 => ?_) (fun c4 => ?_)
  · replace h := h.1 c4
    refine jx_iconst (v := 0) dX8_byteAt_27 (by decide) ?_
    exact jx_iret dX8_byteAt_28 rfl rfl (jle rfl) (jle rfl) ⟨_, rfl, h⟩
  replace h := h.2 c4
  refine jx_aload_n 0 dX8_byteAt_18 rfl rfl ?_
  obtain ⟨b5, hb5, h⟩ := h
  refine jx_getr jc_8 (j := 0) (by decide) rfl jwF_X8_9 dX8_byteAt_19 hk2 hb5 ?_
  refine jx_iload_n 1 dX8_byteAt_22 rfl rfl ?_
  obtain ⟨hk6, h⟩ := h
  obtain ⟨hi7, h⟩ := h
  refine jx_iald dX8_byteAt_23 hk6 hi7 ?_
  refine jx_goto (tgt := 28) dX8_byteAt_24 (by decide) ?_
  exact jx_iret dX8_byteAt_28 rfl rfl (jle rfl) (jle rfl) ⟨_, rfl, h⟩
set_option maxRecDepth 100000 in
set_option maxHeartbeats 4000000 in
theorem T_X8_sortAt {E : jEnv} {d : Nat} {Q : Int32 → jM → Prop} {a0 : Nat} {x1 : Int32} {S : jM} (h : jk S a0 = 8 ∧ (x1 < (ji S a0 1) → jFi E mX8_byteAt d 0 0 [.ref a0, .int x1] S (fun r4 S3 => (r4 < 97 → (r4 < 48 → Q 3 S3) ∧ (¬ r4 < 48 → (57 < r4 → Q 3 S3) ∧ (¬ 57 < r4 → Q 2 S3))) ∧ (¬ r4 < 97 → (122 < r4 → (r4 < 48 → Q 3 S3) ∧ (¬ r4 < 48 → (57 < r4 → Q 3 S3) ∧ (¬ 57 < r4 → Q 2 S3))) ∧ (¬ 122 < r4 → Q 1 S3)))) ∧ (¬ x1 < (ji S a0 1) → Q 0 S)) : jFi E mX8_sortAt (d + 1) 0 0 [.ref a0, .int x1] S Q := by
  refine jF_of (by decide) (jle rfl) ?_
  refine jx_lv (lv1 := [(0, .ref a0), (1, .int x1)]) [0, 1] rfl ?_
  refine jx_iload_n 1 dX8_sortAt_0 rfl rfl ?_
  refine jx_aload_n 0 dX8_sortAt_1 rfl rfl ?_
  obtain ⟨hk1, h⟩ := h
  refine jx_geti jc_8 (j := 1) (by decide) rfl jwF_X8_18 dX8_sortAt_2 hk1 ?_
  refine jx_icmp_lt (tgt := 10) dX8_sortAt_5 (by decide) (fun c2 => ?_) (fun c2 => ?_)
  · replace h := h.1 c2
    refine jx_aload_n 0 dX8_sortAt_10 rfl rfl ?_
    refine jx_iload_n 1 dX8_sortAt_11 rfl rfl ?_
    refine jx_callVi (M' := mX8_byteAt) (As := [.int x1]) jo_X8_byteAt jc_8 rfl jwM_X8_66 jwN_X8_byteAt jwX_X8_byteAt dX8_sortAt_12 (jRok_m _ _ _) rfl (jle rfl) ⟨jle rfl, jle rfl⟩ hk1 h (fun r4 S3 h => ?_)
    refine jx_istore_n (lv1 := [(2, .int r4), (0, .ref a0), (1, .int x1)]) dX8_sortAt_15 rfl (by decide) rfl ?_
    refine jx_iload_n 0 dX8_sortAt_16 rfl rfl ?_
    refine jx_bipush (v := 97) dX8_sortAt_17 (by decide) ?_
    refine jx_icmp_lt (tgt := 30) dX8_sortAt_19 (by decide) (fun c5 => ?_) (fun c5 => ?_)
    · replace h := h.1 c5
      refine jx_iload_n 0 dX8_sortAt_30 rfl rfl ?_
      refine jx_bipush (v := 48) dX8_sortAt_31 (by decide) ?_
      refine jx_icmp_lt (tgt := 46) dX8_sortAt_33 (by decide) (fun c6 => ?_) (fun c6 => ?_)
      · replace h := h.1 c6
        refine jx_iconst (v := 3) dX8_sortAt_46 (by decide) ?_
        exact jx_iret dX8_sortAt_47 rfl rfl (jle rfl) (jle rfl) ⟨_, rfl, h⟩
      replace h := h.2 c6
      refine jx_iload_n 0 dX8_sortAt_36 rfl rfl ?_
      refine jx_bipush (v := 57) dX8_sortAt_37 (by decide) ?_
      refine jx_icmp_gt (tgt := 46) dX8_sortAt_39 (by decide) (fun c7 => ?_) (fun c7 => ?_)
      · replace h := h.1 c7
        refine jx_iconst (v := 3) dX8_sortAt_46 (by decide) ?_
        exact jx_iret dX8_sortAt_47 rfl rfl (jle rfl) (jle rfl) ⟨_, rfl, h⟩
      replace h := h.2 c7
      refine jx_iconst (v := 2) dX8_sortAt_42 (by decide) ?_
      refine jx_goto (tgt := 47) dX8_sortAt_43 (by decide) ?_
      exact jx_iret dX8_sortAt_47 rfl rfl (jle rfl) (jle rfl) ⟨_, rfl, h⟩
    replace h := h.2 c5
    refine jx_iload_n 0 dX8_sortAt_22 rfl rfl ?_
    refine jx_bipush (v := 122) dX8_sortAt_23 (by decide) ?_
    refine jx_icmp_gt (tgt := 30) dX8_sortAt_25 (by decide) (fun c8 => ?_) (fun c8 => ?_)
    · replace h := h.1 c8
      refine jx_iload_n 0 dX8_sortAt_30 rfl rfl ?_
      refine jx_bipush (v := 48) dX8_sortAt_31 (by decide) ?_
      refine jx_icmp_lt (tgt := 46) dX8_sortAt_33 (by decide) (fun c9 => ?_) (fun c9 => ?_)
      · replace h := h.1 c9
        refine jx_iconst (v := 3) dX8_sortAt_46 (by decide) ?_
        exact jx_iret dX8_sortAt_47 rfl rfl (jle rfl) (jle rfl) ⟨_, rfl, h⟩
      replace h := h.2 c9
      refine jx_iload_n 0 dX8_sortAt_36 rfl rfl ?_
      refine jx_bipush (v := 57) dX8_sortAt_37 (by decide) ?_
      refine jx_icmp_gt (tgt := 46) dX8_sortAt_39 (by decide) (fun c10 => ?_) (fun c10 => ?_)
      · replace h := h.1 c10
        refine jx_iconst (v := 3) dX8_sortAt_46 (by decide) ?_
        exact jx_iret dX8_sortAt_47 rfl rfl (jle rfl) (jle rfl) ⟨_, rfl, h⟩
      replace h := h.2 c10
      refine jx_iconst (v := 2) dX8_sortAt_42 (by decide) ?_
      refine jx_goto (tgt := 47) dX8_sortAt_43 (by decide) ?_
      exact jx_iret dX8_sortAt_47 rfl rfl (jle rfl) (jle rfl) ⟨_, rfl, h⟩
    replace h := h.2 c8
    refine jx_iconst (v := 1) dX8_sortAt_28 (by decide) ?_
    exact jx_iret dX8_sortAt_29 rfl rfl (jle rfl) (jle rfl) ⟨_, rfl, h⟩
  replace h := h.2 c2
  refine jx_iconst (v := 0) dX8_sortAt_8 (by decide) ?_
  exact jx_iret dX8_sortAt_9 rfl rfl (jle rfl) (jle rfl) ⟨_, rfl, h⟩
set_option maxRecDepth 100000 in
set_option maxHeartbeats 4000000 in
theorem T_X8_isInHand {E : jEnv} {d : Nat} {Q : Int32 → jM → Prop} {a0 : Nat} {x1 : Int32} {S : jM} (h : jk S a0 = 8 ∧ ((ji S a0 4) = 3 → jFi E mX8_byteAt d 0 0 [.ref a0, .int (ji S a0 2)] S (fun r4 S3 => (r4 = x1 → Q 1 S3) ∧ (¬ r4 = x1 → Q 0 S3))) ∧ (¬ (ji S a0 4) = 3 → Q 0 S)) : jFi E mX8_isInHand (d + 1) 0 0 [.ref a0, .int x1] S Q := by
  refine jF_of (by decide) (jle rfl) ?_
  refine jx_lv (lv1 := [(0, .ref a0), (1, .int x1)]) [0, 1] rfl ?_
  refine jx_aload_n 0 dX8_isInHand_0 rfl rfl ?_
  obtain ⟨hk1, h⟩ := h
  refine jx_geti jc_8 (j := 4) (by decide) rfl jwF_X8_29 dX8_isInHand_1 hk1 ?_
  refine jx_iconst (v := 3) dX8_isInHand_4 (by decide) ?_
  refine jx_icmp_ne (tgt := 24) dX8_isInHand_5 (by decide) (fun c2 => ?_) (fun c2 => ?_)
  · replace h := h.2 c2
    refine jx_iconst (v := 0) dX8_isInHand_24 (by decide) ?_
    exact jx_iret dX8_isInHand_25 rfl (by decide) (jle rfl) (jle rfl) ⟨_, rfl, h⟩
  replace h := h.1 c2
  refine jx_aload_n 0 dX8_isInHand_8 rfl rfl ?_
  refine jx_aload_n 0 dX8_isInHand_9 rfl rfl ?_
  refine jx_geti jc_8 (j := 2) (by decide) rfl jwF_X8_63 dX8_isInHand_10 hk1 ?_
  refine jx_callVi (M' := mX8_byteAt) (As := [.int (ji S a0 2)]) jo_X8_byteAt jc_8 rfl jwM_X8_66 jwN_X8_byteAt jwX_X8_byteAt dX8_isInHand_13 (jRok_m _ _ _) rfl (jle rfl) ⟨jle rfl, jle rfl⟩ hk1 h (fun r4 S3 h => ?_)
  refine jx_iload_n 1 dX8_isInHand_16 rfl rfl ?_
  refine jx_icmp_ne (tgt := 24) dX8_isInHand_17 (by decide) (fun c5 => ?_) (fun c5 => ?_)
  · replace h := h.2 c5
    refine jx_iconst (v := 0) dX8_isInHand_24 (by decide) ?_
    exact jx_iret dX8_isInHand_25 rfl (by decide) (jle rfl) (jle rfl) ⟨_, rfl, h⟩
  replace h := h.1 c5
  refine jx_iconst (v := 1) dX8_isInHand_20 (by decide) ?_
  refine jx_goto (tgt := 25) dX8_isInHand_21 (by decide) ?_
  exact jx_iret dX8_isInHand_25 rfl (by decide) (jle rfl) (jle rfl) ⟨_, rfl, h⟩
/-- X8_keyInHand at its loop's head 2 -/
abbrev L_X8_keyInHand_2 (E : jEnv) (d : Nat) (Q : Int32 → jM → Prop) (a0 : Nat) (x1 : Int32) (S : jM) : Prop := jX E mX8_keyInHand (jRm (d + 1) 0 0) (jZm E (fun r S' => ∃ v : Int32, r = some (.int v) ∧ Q v S') 0 0) 2 [(0, .ref a0), (1, .int x1)] [] S 0 0
set_option maxRecDepth 100000 in
set_option maxHeartbeats 4000000 in
theorem T_X8_keyInHand {E : jEnv} {d : Nat} {Q : Int32 → jM → Prop} {a0 : Nat} {S : jM} (h : L_X8_keyInHand_2 E d Q a0 0 S) : jFi E mX8_keyInHand (d + 1) 0 0 [.ref a0] S Q := by
  refine jF_of (by decide) (jle rfl) ?_
  refine jx_lv (lv1 := [(0, .ref a0)]) [0] rfl ?_
  refine jx_iconst (v := 0) dX8_keyInHand_0 (by decide) ?_
  refine jx_istore_n (lv1 := [(1, .int 0), (0, .ref a0)]) dX8_keyInHand_1 rfl (by decide) rfl ?_
  exact jx_lv [1, 0] rfl h
set_option maxRecDepth 100000 in
set_option maxHeartbeats 4000000 in
theorem T_X8_keyInHand_2 {E : jEnv} {d : Nat} {Q : Int32 → jM → Prop} {a0 : Nat} {x1 : Int32} {S : jM} (h : (3 ≤ x1 → Q (-1) S) ∧ (¬ 3 ≤ x1 → jFr E mX8_wordOf d 0 0 [.int x1] S (fun o3 S2 => (o3 = none → jk S2 a0 = 8 ∧ jFi E mX8_isWordInHand d 0 0 [.ref a0, .null] S2 (fun r7 S6 => (r7 = 0 → L_X8_keyInHand_2 E d Q a0 (x1 + 1) S6) ∧ (¬ r7 = 0 → Q x1 S6))) ∧ (∀ b4, o3 = some b4 → jk S2 a0 = 8 ∧ jFi E mX8_isWordInHand d 0 0 [.ref a0, .ref b4] S2 (fun r11 S10 => (r11 = 0 → L_X8_keyInHand_2 E d Q a0 (x1 + 1) S10) ∧ (¬ r11 = 0 → Q x1 S10)))))) : L_X8_keyInHand_2 E d Q a0 x1 S := by
  show jX E mX8_keyInHand (jRm (d + 1) 0 0) (jZm E (fun r S' => ∃ v : Int32, r = some (.int v) ∧ Q v S') 0 0) 2 [(0, .ref a0), (1, .int x1)] [] S 0 0
  refine jx_iload_n 1 dX8_keyInHand_2 rfl rfl ?_
  refine jx_iconst (v := 3) dX8_keyInHand_3 (by decide) ?_
  refine jx_icmp_ge (tgt := 26) dX8_keyInHand_4 (by decide) (fun c1 => ?_) (fun c1 => ?_)
  · replace h := h.1 c1
    refine jx_iconst (v := (-1)) dX8_keyInHand_26 (by decide) ?_
    exact jx_iret dX8_keyInHand_27 rfl rfl (jle rfl) (jle rfl) ⟨_, rfl, h⟩
  replace h := h.2 c1
  refine jx_aload_n 0 dX8_keyInHand_7 rfl rfl ?_
  refine jx_iload_n 1 dX8_keyInHand_8 rfl rfl ?_
  refine jx_callSr (M' := mX8_wordOf) (As := [.int x1]) jo_X8_wordOf jwM_X8_77 jwS_X8_wordOf dX8_keyInHand_9 (jRok_m _ _ _) rfl (jle rfl) ⟨jle rfl, jle rfl⟩ h (fun o3 S2 h => ?_)
  rcases o3 with _ | b4
  · replace h := h.1 rfl
    obtain ⟨hk5, h⟩ := h
    refine jx_callVi (M' := mX8_isWordInHand) (As := [.null]) jo_X8_isWordInHand jc_8 rfl jwM_X8_81 jwN_X8_isWordInHand jwX_X8_isWordInHand dX8_keyInHand_12 (jRok_m _ _ _) rfl (jle rfl) ⟨jle rfl, jle rfl⟩ hk5 h (fun r7 S6 h => ?_)
    refine jx_if_eq (tgt := 20) dX8_keyInHand_15 (by decide) (fun c8 => ?_) (fun c8 => ?_)
    · replace h := h.1 c8
      refine jx_iinc 1 (v := (x1 + 1)) (lv1 := [(1, .int (x1 + 1)), (0, .ref a0)]) dX8_keyInHand_20 rfl rfl (by decide) rfl ?_
      refine jx_goto (tgt := 2) dX8_keyInHand_23 (by decide) ?_
      exact jx_lv [1, 0] rfl h
    replace h := h.2 c8
    refine jx_iload_n 1 dX8_keyInHand_18 rfl rfl ?_
    exact jx_iret dX8_keyInHand_19 rfl rfl (jle rfl) (jle rfl) ⟨_, rfl, h⟩
  replace h := h.2 b4 rfl
  obtain ⟨hk9, h⟩ := h
  refine jx_callVi (M' := mX8_isWordInHand) (As := [.ref b4]) jo_X8_isWordInHand jc_8 rfl jwM_X8_81 jwN_X8_isWordInHand jwX_X8_isWordInHand dX8_keyInHand_12 (jRok_m _ _ _) rfl (jle rfl) ⟨jle rfl, jle rfl⟩ hk9 h (fun r11 S10 h => ?_)
  refine jx_if_eq (tgt := 20) dX8_keyInHand_15 (by decide) (fun c12 => ?_) (fun c12 => ?_)
  · replace h := h.1 c12
    refine jx_iinc 1 (v := (x1 + 1)) (lv1 := [(1, .int (x1 + 1)), (0, .ref a0)]) dX8_keyInHand_20 rfl rfl (by decide) rfl ?_
    refine jx_goto (tgt := 2) dX8_keyInHand_23 (by decide) ?_
    exact jx_lv [1, 0] rfl h
  replace h := h.2 c12
  refine jx_iload_n 1 dX8_keyInHand_18 rfl rfl ?_
  exact jx_iret dX8_keyInHand_19 rfl rfl (jle rfl) (jle rfl) ⟨_, rfl, h⟩
set_option maxRecDepth 100000 in
set_option maxHeartbeats 4000000 in
theorem T_X8_levelInHand {E : jEnv} {d : Nat} {Q : Int32 → jM → Prop} {a0 : Nat} {S : jM} (h : jk S a0 = 8 ∧ ((ji S a0 4) = 3 → jFi E mX8_byteAt d 0 0 [.ref a0, .int (ji S a0 2)] S (fun r4 S3 => (r4 = 38 → Q 1 S3) ∧ (r4 = 42 → Q 4 S3) ∧ (r4 = 43 → Q 3 S3) ∧ (r4 = 45 → Q 3 S3) ∧ (r4 = 47 → Q 4 S3) ∧ (r4 = 60 → Q 2 S3) ∧ (r4 = 61 → Q 2 S3) ∧ (r4 = 62 → Q 2 S3) ∧ (r4 = 124 → Q 0 S3) ∧ (¬ r4 = 38 → ¬ r4 = 42 → ¬ r4 = 43 → ¬ r4 = 45 → ¬ r4 = 47 → ¬ r4 = 60 → ¬ r4 = 61 → ¬ r4 = 62 → ¬ r4 = 124 → Q (-1) S3))) ∧ (¬ (ji S a0 4) = 3 → Q (-1) S)) : jFi E mX8_levelInHand (d + 1) 0 0 [.ref a0] S Q := by
  refine jF_of (by decide) (jle rfl) ?_
  refine jx_lv (lv1 := [(0, .ref a0)]) [0] rfl ?_
  refine jx_aload_n 0 dX8_levelInHand_0 rfl rfl ?_
  obtain ⟨hk1, h⟩ := h
  refine jx_geti jc_8 (j := 4) (by decide) rfl jwF_X8_29 dX8_levelInHand_1 hk1 ?_
  refine jx_iconst (v := 3) dX8_levelInHand_4 (by decide) ?_
  refine jx_icmp_eq (tgt := 10) dX8_levelInHand_5 (by decide) (fun c2 => ?_) (fun c2 => ?_)
  · replace h := h.1 c2
    refine jx_aload_n 0 dX8_levelInHand_10 rfl rfl ?_
    refine jx_aload_n 0 dX8_levelInHand_11 rfl rfl ?_
    refine jx_geti jc_8 (j := 2) (by decide) rfl jwF_X8_63 dX8_levelInHand_12 hk1 ?_
    refine jx_callVi (M' := mX8_byteAt) (As := [.int (ji S a0 2)]) jo_X8_byteAt jc_8 rfl jwM_X8_66 jwN_X8_byteAt jwX_X8_byteAt dX8_levelInHand_15 (jRok_m _ _ _) rfl (jle rfl) ⟨jle rfl, jle rfl⟩ hk1 h (fun r4 S3 h => ?_)
    by_cases c5 : r4 = 38
    · replace h := h.1 c5
      refine jx_lookIn (v := 38) (tgt := 102) (off := 84) dX8_levelInHand_18 (by decide) c5 (by decide) (by decide) ?_
      refine jx_iconst (v := 1) dX8_levelInHand_102 (by decide) ?_
      exact jx_iret dX8_levelInHand_103 rfl rfl (jle rfl) (jle rfl) ⟨_, rfl, h⟩
    replace h := h.2
    by_cases c6 : r4 = 42
    · replace h := h.1 c6
      refine jx_lookIn (v := 42) (tgt := 114) (off := 96) dX8_levelInHand_18 (by decide) c6 (by decide) (by decide) ?_
      refine jx_iconst (v := 4) dX8_levelInHand_114 (by decide) ?_
      exact jx_iret dX8_levelInHand_115 rfl rfl (jle rfl) (jle rfl) ⟨_, rfl, h⟩
    replace h := h.2
    by_cases c7 : r4 = 43
    · replace h := h.1 c7
      refine jx_lookIn (v := 43) (tgt := 110) (off := 92) dX8_levelInHand_18 (by decide) c7 (by decide) (by decide) ?_
      refine jx_iconst (v := 3) dX8_levelInHand_110 (by decide) ?_
      exact jx_iret dX8_levelInHand_111 rfl rfl (jle rfl) (jle rfl) ⟨_, rfl, h⟩
    replace h := h.2
    by_cases c8 : r4 = 45
    · replace h := h.1 c8
      refine jx_lookIn (v := 45) (tgt := 112) (off := 94) dX8_levelInHand_18 (by decide) c8 (by decide) (by decide) ?_
      refine jx_iconst (v := 3) dX8_levelInHand_112 (by decide) ?_
      exact jx_iret dX8_levelInHand_113 rfl rfl (jle rfl) (jle rfl) ⟨_, rfl, h⟩
    replace h := h.2
    by_cases c9 : r4 = 47
    · replace h := h.1 c9
      refine jx_lookIn (v := 47) (tgt := 116) (off := 98) dX8_levelInHand_18 (by decide) c9 (by decide) (by decide) ?_
      refine jx_iconst (v := 4) dX8_levelInHand_116 (by decide) ?_
      exact jx_iret dX8_levelInHand_117 rfl rfl (jle rfl) (jle rfl) ⟨_, rfl, h⟩
    replace h := h.2
    by_cases c10 : r4 = 60
    · replace h := h.1 c10
      refine jx_lookIn (v := 60) (tgt := 104) (off := 86) dX8_levelInHand_18 (by decide) c10 (by decide) (by decide) ?_
      refine jx_iconst (v := 2) dX8_levelInHand_104 (by decide) ?_
      exact jx_iret dX8_levelInHand_105 rfl rfl (jle rfl) (jle rfl) ⟨_, rfl, h⟩
    replace h := h.2
    by_cases c11 : r4 = 61
    · replace h := h.1 c11
      refine jx_lookIn (v := 61) (tgt := 106) (off := 88) dX8_levelInHand_18 (by decide) c11 (by decide) (by decide) ?_
      refine jx_iconst (v := 2) dX8_levelInHand_106 (by decide) ?_
      exact jx_iret dX8_levelInHand_107 rfl rfl (jle rfl) (jle rfl) ⟨_, rfl, h⟩
    replace h := h.2
    by_cases c12 : r4 = 62
    · replace h := h.1 c12
      refine jx_lookIn (v := 62) (tgt := 108) (off := 90) dX8_levelInHand_18 (by decide) c12 (by decide) (by decide) ?_
      refine jx_iconst (v := 2) dX8_levelInHand_108 (by decide) ?_
      exact jx_iret dX8_levelInHand_109 rfl rfl (jle rfl) (jle rfl) ⟨_, rfl, h⟩
    replace h := h.2
    by_cases c13 : r4 = 124
    · replace h := h.1 c13
      refine jx_lookIn (v := 124) (tgt := 100) (off := 82) dX8_levelInHand_18 (by decide) c13 (by decide) (by decide) ?_
      refine jx_iconst (v := 0) dX8_levelInHand_100 (by decide) ?_
      exact jx_iret dX8_levelInHand_101 rfl rfl (jle rfl) (jle rfl) ⟨_, rfl, h⟩
    replace h := h.2
    replace h := h c5 c6 c7 c8 c9 c10 c11 c12 c13
    refine jx_lookD (tgt := 118) dX8_levelInHand_18 (by decide) (by simp only [List.mem_cons, List.not_mem_nil, or_false, forall_eq_or_imp, forall_eq]; exact ⟨lv_neT c5 (by decide), lv_neT c6 (by decide), lv_neT c7 (by decide), lv_neT c8 (by decide), lv_neT c9 (by decide), lv_neT c10 (by decide), lv_neT c11 (by decide), lv_neT c12 (by decide), lv_neT c13 (by decide)⟩) (by decide) ?_
    refine jx_iconst (v := (-1)) dX8_levelInHand_118 (by decide) ?_
    exact jx_iret dX8_levelInHand_119 rfl rfl (jle rfl) (jle rfl) ⟨_, rfl, h⟩
  replace h := h.2 c2
  refine jx_iconst (v := (-1)) dX8_levelInHand_8 (by decide) ?_
  exact jx_iret dX8_levelInHand_9 rfl rfl (jle rfl) (jle rfl) ⟨_, rfl, h⟩
/-- X8_readsChain at its loop's head 42 -/
abbrev L_X8_readsChain_42 (E : jEnv) (d : Nat) (Q : Int32 → jM → Prop) (a0 : Nat) (x1 : Int32) (x2 : Int32) (x3 : Int32) (x4 : Int32) (x5 : Int32) (S : jM) : Prop := jX E mX8_readsChain (jRm (d + 1) 0 0) (jZm E (fun r S' => ∃ v : Int32, r = some (.int v) ∧ Q v S') 0 0) 42 [(0, .ref a0), (1, .int x1), (2, .int x2), (3, .int x3), (4, .int x4), (5, .int x5)] [] S 0 0
set_option maxRecDepth 100000 in
set_option maxHeartbeats 4000000 in
theorem T_X8_readsChain {E : jEnv} {d : Nat} {Q : Int32 → jM → Prop} {a0 : Nat} {x1 : Int32} {x2 : Int32} {x3 : Int32} {S : jM} (h : (x1 < 5 → jk S a0 = 8 ∧ jFi E mX8_readsChain d 0 0 [.ref a0, .int (x1 + 1), .int x2, .int x3] S (fun r4 S3 => (r4 = 0 → Q 0 S3) ∧ (¬ r4 = 0 → (x1 = 2 → L_X8_readsChain_42 E d Q a0 x1 x2 x3 1 0 S3) ∧ (¬ x1 = 2 → L_X8_readsChain_42 E d Q a0 x1 x2 x3 96 0 S3)))) ∧ (¬ x1 < 5 → jk S a0 = 8 ∧ jFi E mX8_readsPiece d 0 0 [.ref a0, .int x2, .int x3] S (fun r9 S8 => (r9 = 0 ∨ r9 = 1) ∧ Q r9 S8))) : jFi E mX8_readsChain (d + 1) 0 0 [.ref a0, .int x1, .int x2, .int x3] S Q := by
  refine jF_of (by decide) (jle rfl) ?_
  refine jx_lv (lv1 := [(0, .ref a0), (1, .int x1), (2, .int x2), (3, .int x3)]) [0, 1, 2, 3] rfl ?_
  refine jx_iload_n 1 dX8_readsChain_0 rfl rfl ?_
  refine jx_iconst (v := 5) dX8_readsChain_1 (by decide) ?_
  refine jx_icmp_lt (tgt := 12) dX8_readsChain_2 (by decide) (fun c1 => ?_) (fun c1 => ?_)
  · replace h := h.1 c1
    refine jx_aload_n 0 dX8_readsChain_12 rfl rfl ?_
    refine jx_iload_n 1 dX8_readsChain_13 rfl rfl ?_
    refine jx_iconst (v := 1) dX8_readsChain_14 (by decide) ?_
    refine jx_iadd dX8_readsChain_15 ?_
    refine jx_iload_n 2 dX8_readsChain_16 rfl rfl ?_
    refine jx_iload_n 3 dX8_readsChain_17 rfl rfl ?_
    obtain ⟨hk2, h⟩ := h
    refine jx_callVi (M' := mX8_readsChain) (As := [.int (x1 + 1), .int x2, .int x3]) jo_X8_readsChain jc_8 rfl jwM_X8_48 jwN_X8_readsChain jwX_X8_readsChain dX8_readsChain_18 (jRok_m _ _ _) rfl (jle rfl) ⟨jle rfl, jle rfl⟩ hk2 h (fun r4 S3 h => ?_)
    refine jx_if_ne (tgt := 26) dX8_readsChain_21 (by decide) (fun c5 => ?_) (fun c5 => ?_)
    · replace h := h.2 c5
      refine jx_iload_n 1 dX8_readsChain_26 rfl rfl ?_
      refine jx_iconst (v := 2) dX8_readsChain_27 (by decide) ?_
      refine jx_icmp_ne (tgt := 35) dX8_readsChain_28 (by decide) (fun c6 => ?_) (fun c6 => ?_)
      · replace h := h.2 c6
        refine jx_bipush (v := 96) dX8_readsChain_35 (by decide) ?_
        refine jx_istore (lv1 := [(4, .int 96), (0, .ref a0), (1, .int x1), (2, .int x2), (3, .int x3)]) dX8_readsChain_37 (by decide) rfl ?_
        refine jx_iconst (v := 0) dX8_readsChain_39 (by decide) ?_
        refine jx_istore (lv1 := [(5, .int 0), (4, .int 96), (0, .ref a0), (1, .int x1), (2, .int x2), (3, .int x3)]) dX8_readsChain_40 (by decide) rfl ?_
        exact jx_lv [2, 3, 4, 5, 1, 0] rfl h
      replace h := h.1 c6
      refine jx_iconst (v := 1) dX8_readsChain_31 (by decide) ?_
      refine jx_goto (tgt := 37) dX8_readsChain_32 (by decide) ?_
      refine jx_istore (lv1 := [(4, .int 1), (0, .ref a0), (1, .int x1), (2, .int x2), (3, .int x3)]) dX8_readsChain_37 (by decide) rfl ?_
      refine jx_iconst (v := 0) dX8_readsChain_39 (by decide) ?_
      refine jx_istore (lv1 := [(5, .int 0), (4, .int 1), (0, .ref a0), (1, .int x1), (2, .int x2), (3, .int x3)]) dX8_readsChain_40 (by decide) rfl ?_
      exact jx_lv [2, 3, 4, 5, 1, 0] rfl h
    replace h := h.1 c5
    refine jx_iconst (v := 0) dX8_readsChain_24 (by decide) ?_
    exact jx_iret dX8_readsChain_25 rfl (by decide) (jle rfl) (jle rfl) ⟨_, rfl, h⟩
  replace h := h.2 c1
  refine jx_aload_n 0 dX8_readsChain_5 rfl rfl ?_
  refine jx_iload_n 2 dX8_readsChain_6 rfl rfl ?_
  refine jx_iload_n 3 dX8_readsChain_7 rfl rfl ?_
  obtain ⟨hk7, h⟩ := h
  refine jx_callVi (M' := mX8_readsPiece) (As := [.int x2, .int x3]) jo_X8_readsPiece jc_8 rfl jwM_X8_106 jwN_X8_readsPiece jwX_X8_readsPiece dX8_readsChain_8 (jRok_m _ _ _) rfl (jle rfl) ⟨jle rfl, jle rfl⟩ hk7 h (fun r9 S8 h => ?_)
  obtain ⟨hb10, h⟩ := h
  exact jx_iret dX8_readsChain_11 rfl (jb_nar hb10) (jle rfl) (jle rfl) ⟨_, rfl, h⟩
set_option maxRecDepth 100000 in
set_option maxHeartbeats 4000000 in
theorem T_X8_readsChain_42 {E : jEnv} {d : Nat} {Q : Int32 → jM → Prop} {a0 : Nat} {x1 : Int32} {x2 : Int32} {x3 : Int32} {x4 : Int32} {x5 : Int32} {S : jM} (h : (x4 ≤ x5 → Q 1 S) ∧ (¬ x4 ≤ x5 → jk S a0 = 8 ∧ jFi E mX8_levelInHand d 0 0 [.ref a0] S (fun r14 S13 => (r14 = x1 → jk S13 a0 = 8 ∧ jFi E mX8_byteAt d 0 0 [.ref a0, .int (ji S13 a0 2)] S13 (fun r18 S17 => jk S17 a0 = 8 ∧ jFv E mX8_step d 0 0 [.ref a0] S17 (fun S20 => jk S20 a0 = 8 ∧ jFi E mX8_readsChain d 0 0 [.ref a0, .int (x1 + 1), .int x2, .int x3] S20 (fun r23 S22 => (r23 = 0 → Q 0 S22) ∧ (¬ r23 = 0 → jk S22 a0 = 8 ∧ jFv E mX8_write d 0 0 [.ref a0, .int (20000 + r18)] S22 (fun S26 => L_X8_readsChain_42 E d Q a0 x1 x2 x3 x4 (x5 + 1) S26)))))) ∧ (¬ r14 = x1 → Q 1 S13)))) : L_X8_readsChain_42 E d Q a0 x1 x2 x3 x4 x5 S := by
  show jX E mX8_readsChain (jRm (d + 1) 0 0) (jZm E (fun r S' => ∃ v : Int32, r = some (.int v) ∧ Q v S') 0 0) 42 [(0, .ref a0), (1, .int x1), (2, .int x2), (3, .int x3), (4, .int x4), (5, .int x5)] [] S 0 0
  refine jx_iload 5 dX8_readsChain_42 rfl ?_
  refine jx_iload 4 dX8_readsChain_44 rfl ?_
  refine jx_icmp_ge (tgt := 101) dX8_readsChain_46 (by decide) (fun c11 => ?_) (fun c11 => ?_)
  · replace h := h.1 c11
    refine jx_iconst (v := 1) dX8_readsChain_101 (by decide) ?_
    exact jx_iret dX8_readsChain_102 rfl (by decide) (jle rfl) (jle rfl) ⟨_, rfl, h⟩
  replace h := h.2 c11
  refine jx_aload_n 0 dX8_readsChain_49 rfl rfl ?_
  obtain ⟨hk12, h⟩ := h
  refine jx_callVi (M' := mX8_levelInHand) (As := []) jo_X8_levelInHand jc_8 rfl jwM_X8_109 jwN_X8_levelInHand jwX_X8_levelInHand dX8_readsChain_50 (jRok_m _ _ _) rfl (jle rfl) ⟨jle rfl, jle rfl⟩ hk12 h (fun r14 S13 h => ?_)
  refine jx_iload_n 1 dX8_readsChain_53 rfl rfl ?_
  refine jx_icmp_ne (tgt := 101) dX8_readsChain_54 (by decide) (fun c15 => ?_) (fun c15 => ?_)
  · replace h := h.2 c15
    refine jx_iconst (v := 1) dX8_readsChain_101 (by decide) ?_
    exact jx_iret dX8_readsChain_102 rfl (by decide) (jle rfl) (jle rfl) ⟨_, rfl, h⟩
  replace h := h.1 c15
  refine jx_aload_n 0 dX8_readsChain_57 rfl rfl ?_
  refine jx_aload_n 0 dX8_readsChain_58 rfl rfl ?_
  obtain ⟨hk16, h⟩ := h
  refine jx_geti jc_8 (j := 2) (by decide) rfl jwF_X8_63 dX8_readsChain_59 hk16 ?_
  refine jx_callVi (M' := mX8_byteAt) (As := [.int (ji S13 a0 2)]) jo_X8_byteAt jc_8 rfl jwM_X8_66 jwN_X8_byteAt jwX_X8_byteAt dX8_readsChain_62 (jRok_m _ _ _) rfl (jle rfl) ⟨jle rfl, jle rfl⟩ hk16 h (fun r18 S17 h => ?_)
  refine jx_istore (lv1 := [(6, .int r18), (0, .ref a0), (1, .int x1), (2, .int x2), (3, .int x3), (4, .int x4), (5, .int x5)]) dX8_readsChain_65 (by decide) rfl ?_
  refine jx_aload_n 1 dX8_readsChain_67 rfl rfl ?_
  obtain ⟨hk19, h⟩ := h
  refine jx_callVv (M' := mX8_step) (As := []) jo_X8_step jc_8 rfl jwM_X8_38 jwN_X8_step jwX_X8_step dX8_readsChain_68 (jRok_m _ _ _) rfl (jle rfl) ⟨jle rfl, jle rfl⟩ hk19 h (fun S20 h => ?_)
  refine jx_aload_n 1 dX8_readsChain_71 rfl rfl ?_
  refine jx_iload_n 2 dX8_readsChain_72 rfl rfl ?_
  refine jx_iconst (v := 1) dX8_readsChain_73 (by decide) ?_
  refine jx_iadd dX8_readsChain_74 ?_
  refine jx_iload_n 3 dX8_readsChain_75 rfl rfl ?_
  refine jx_iload_n 4 dX8_readsChain_76 rfl rfl ?_
  obtain ⟨hk21, h⟩ := h
  refine jx_callVi (M' := mX8_readsChain) (As := [.int (x1 + 1), .int x2, .int x3]) jo_X8_readsChain jc_8 rfl jwM_X8_48 jwN_X8_readsChain jwX_X8_readsChain dX8_readsChain_77 (jRok_m _ _ _) rfl (jle rfl) ⟨jle rfl, jle rfl⟩ hk21 h (fun r23 S22 h => ?_)
  refine jx_if_ne (tgt := 85) dX8_readsChain_80 (by decide) (fun c24 => ?_) (fun c24 => ?_)
  · replace h := h.2 c24
    refine jx_aload_n 1 dX8_readsChain_85 rfl rfl ?_
    refine jx_sipush (v := 20000) dX8_readsChain_86 (by decide) ?_
    refine jx_iload 0 dX8_readsChain_89 rfl ?_
    refine jx_iadd dX8_readsChain_91 ?_
    obtain ⟨hk25, h⟩ := h
    refine jx_callVv (M' := mX8_write) (As := [.int (20000 + r18)]) jo_X8_write jc_8 rfl jwM_X8_112 jwN_X8_write jwX_X8_write dX8_readsChain_92 (jRok_m _ _ _) rfl (jle rfl) ⟨jle rfl, jle rfl⟩ hk25 h (fun S26 h => ?_)
    refine jx_iinc 6 (v := (x5 + 1)) (lv1 := [(5, .int (x5 + 1)), (6, .int r18), (0, .ref a0), (1, .int x1), (2, .int x2), (3, .int x3), (4, .int x4)]) dX8_readsChain_95 rfl rfl (by decide) rfl ?_
    refine jx_goto (tgt := 42) dX8_readsChain_98 (by decide) ?_
    exact jx_lv [2, 3, 4, 5, 6, 0] rfl h
  replace h := h.1 c24
  refine jx_iconst (v := 0) dX8_readsChain_83 (by decide) ?_
  exact jx_iret dX8_readsChain_84 rfl (by decide) (jle rfl) (jle rfl) ⟨_, rfl, h⟩
set_option maxRecDepth 100000 in
set_option maxHeartbeats 4000000 in
theorem T_X8_readsPiece {E : jEnv} {d : Nat} {Q : Int32 → jM → Prop} {a0 : Nat} {x1 : Int32} {x2 : Int32} {S : jM} (h : jk S a0 = 8 ∧ ((ji S a0 4) = 1 → jFi E mX8_readsOperand d 0 0 [.ref a0] S (fun r4 S3 => (r4 = 0 ∨ r4 = 1) ∧ Q r4 S3)) ∧ (¬ (ji S a0 4) = 1 → ((ji S a0 4) = 2 → jFi E mX8_readsOperand d 0 0 [.ref a0] S (fun r54 S53 => (r54 = 0 ∨ r54 = 1) ∧ Q r54 S53)) ∧ (¬ (ji S a0 4) = 2 → jFi E mX8_isInHand d 0 0 [.ref a0, .int 33] S (fun r8 S7 => (r8 = 0 → jk S7 a0 = 8 ∧ jFi E mX8_isInHand d 0 0 [.ref a0, .int 40] S7 (fun r12 S11 => (r12 = 0 → Q 0 S11) ∧ (¬ r12 = 0 → (8 ≤ x1 → Q 0 S11) ∧ (¬ 8 ≤ x1 → jk S11 a0 = 8 ∧ jFv E mX8_step d 0 0 [.ref a0] S11 (fun S16 => jk S16 a0 = 8 ∧ jFi E mX8_readsChain d 0 0 [.ref a0, .int 0, .int (x1 + 1), .int x2] S16 (fun r19 S18 => (r19 = 0 → Q 0 S18) ∧ (¬ r19 = 0 → jk S18 a0 = 8 ∧ jFi E mX8_isInHand d 0 0 [.ref a0, .int 41] S18 (fun r23 S22 => (r23 = 0 → Q 0 S22) ∧ (¬ r23 = 0 → jk S22 a0 = 8 ∧ jFv E mX8_step d 0 0 [.ref a0] S22 (fun S26 => Q 1 S26)))))))))) ∧ (¬ r8 = 0 → (8 ≤ x2 → jk S7 a0 = 8 ∧ jFi E mX8_isInHand d 0 0 [.ref a0, .int 40] S7 (fun r30 S29 => (r30 = 0 → Q 0 S29) ∧ (¬ r30 = 0 → (8 ≤ x1 → Q 0 S29) ∧ (¬ 8 ≤ x1 → jk S29 a0 = 8 ∧ jFv E mX8_step d 0 0 [.ref a0] S29 (fun S34 => jk S34 a0 = 8 ∧ jFi E mX8_readsChain d 0 0 [.ref a0, .int 0, .int (x1 + 1), .int x2] S34 (fun r37 S36 => (r37 = 0 → Q 0 S36) ∧ (¬ r37 = 0 → jk S36 a0 = 8 ∧ jFi E mX8_isInHand d 0 0 [.ref a0, .int 41] S36 (fun r41 S40 => (r41 = 0 → Q 0 S40) ∧ (¬ r41 = 0 → jk S40 a0 = 8 ∧ jFv E mX8_step d 0 0 [.ref a0] S40 (fun S44 => Q 1 S44)))))))))) ∧ (¬ 8 ≤ x2 → jk S7 a0 = 8 ∧ jFv E mX8_step d 0 0 [.ref a0] S7 (fun S46 => jk S46 a0 = 8 ∧ jFi E mX8_readsPiece d 0 0 [.ref a0, .int x1, .int (x2 + 1)] S46 (fun r49 S48 => jk S48 a0 = 8 ∧ jFv E mX8_write d 0 0 [.ref a0, .int 20033] S48 (fun S51 => (r49 = 0 ∨ r49 = 1) ∧ Q r49 S51))))))))) : jFi E mX8_readsPiece (d + 1) 0 0 [.ref a0, .int x1, .int x2] S Q := by
  refine jF_of (by decide) (jle rfl) ?_
  refine jx_lv (lv1 := [(0, .ref a0), (1, .int x1), (2, .int x2)]) [0, 1, 2] rfl ?_
  refine jx_aload_n 0 dX8_readsPiece_0 rfl rfl ?_
  obtain ⟨hk1, h⟩ := h
  refine jx_geti jc_8 (j := 4) (by decide) rfl jwF_X8_29 dX8_readsPiece_1 hk1 ?_
  refine jx_iconst (v := 1) dX8_readsPiece_4 (by decide) ?_
  refine jx_icmp_eq (tgt := 16) dX8_readsPiece_5 (by decide) (fun c2 => ?_) (fun c2 => ?_)
  · replace h := h.1 c2
    refine jx_aload_n 0 dX8_readsPiece_16 rfl rfl ?_
    refine jx_callVi (M' := mX8_readsOperand) (As := []) jo_X8_readsOperand jc_8 rfl jwM_X8_116 jwN_X8_readsOperand jwX_X8_readsOperand dX8_readsPiece_17 (jRok_m _ _ _) rfl (jle rfl) ⟨jle rfl, jle rfl⟩ hk1 h (fun r4 S3 h => ?_)
    obtain ⟨hb5, h⟩ := h
    exact jx_iret dX8_readsPiece_20 rfl (jb_nar hb5) (jle rfl) (jle rfl) ⟨_, rfl, h⟩
  replace h := h.2 c2
  refine jx_aload_n 0 dX8_readsPiece_8 rfl rfl ?_
  refine jx_geti jc_8 (j := 4) (by decide) rfl jwF_X8_29 dX8_readsPiece_9 hk1 ?_
  refine jx_iconst (v := 2) dX8_readsPiece_12 (by decide) ?_
  refine jx_icmp_ne (tgt := 21) dX8_readsPiece_13 (by decide) (fun c6 => ?_) (fun c6 => ?_)
  · replace h := h.2 c6
    refine jx_aload_n 0 dX8_readsPiece_21 rfl rfl ?_
    refine jx_bipush (v := 33) dX8_readsPiece_22 (by decide) ?_
    refine jx_callVi (M' := mX8_isInHand) (As := [.int 33]) jo_X8_isInHand jc_8 rfl jwM_X8_120 jwN_X8_isInHand jwX_X8_isInHand dX8_readsPiece_24 (jRok_m _ _ _) rfl (jle rfl) ⟨jle rfl, jle rfl⟩ hk1 h (fun r8 S7 h => ?_)
    refine jx_if_eq (tgt := 58) dX8_readsPiece_27 (by decide) (fun c9 => ?_) (fun c9 => ?_)
    · replace h := h.1 c9
      refine jx_aload_n 0 dX8_readsPiece_58 rfl rfl ?_
      refine jx_bipush (v := 40) dX8_readsPiece_59 (by decide) ?_
      obtain ⟨hk10, h⟩ := h
      refine jx_callVi (M' := mX8_isInHand) (As := [.int 40]) jo_X8_isInHand jc_8 rfl jwM_X8_120 jwN_X8_isInHand jwX_X8_isInHand dX8_readsPiece_61 (jRok_m _ _ _) rfl (jle rfl) ⟨jle rfl, jle rfl⟩ hk10 h (fun r12 S11 h => ?_)
      refine jx_if_eq (tgt := 104) dX8_readsPiece_64 (by decide) (fun c13 => ?_) (fun c13 => ?_)
      · replace h := h.1 c13
        refine jx_iconst (v := 0) dX8_readsPiece_104 (by decide) ?_
        exact jx_iret dX8_readsPiece_105 rfl (by decide) (jle rfl) (jle rfl) ⟨_, rfl, h⟩
      replace h := h.2 c13
      refine jx_iload_n 1 dX8_readsPiece_67 rfl rfl ?_
      refine jx_bipush (v := 8) dX8_readsPiece_68 (by decide) ?_
      refine jx_icmp_ge (tgt := 104) dX8_readsPiece_70 (by decide) (fun c14 => ?_) (fun c14 => ?_)
      · replace h := h.1 c14
        refine jx_iconst (v := 0) dX8_readsPiece_104 (by decide) ?_
        exact jx_iret dX8_readsPiece_105 rfl (by decide) (jle rfl) (jle rfl) ⟨_, rfl, h⟩
      replace h := h.2 c14
      refine jx_aload_n 0 dX8_readsPiece_73 rfl rfl ?_
      obtain ⟨hk15, h⟩ := h
      refine jx_callVv (M' := mX8_step) (As := []) jo_X8_step jc_8 rfl jwM_X8_38 jwN_X8_step jwX_X8_step dX8_readsPiece_74 (jRok_m _ _ _) rfl (jle rfl) ⟨jle rfl, jle rfl⟩ hk15 h (fun S16 h => ?_)
      refine jx_aload_n 0 dX8_readsPiece_77 rfl rfl ?_
      refine jx_iconst (v := 0) dX8_readsPiece_78 (by decide) ?_
      refine jx_iload_n 1 dX8_readsPiece_79 rfl rfl ?_
      refine jx_iconst (v := 1) dX8_readsPiece_80 (by decide) ?_
      refine jx_iadd dX8_readsPiece_81 ?_
      refine jx_iload_n 2 dX8_readsPiece_82 rfl rfl ?_
      obtain ⟨hk17, h⟩ := h
      refine jx_callVi (M' := mX8_readsChain) (As := [.int 0, .int (x1 + 1), .int x2]) jo_X8_readsChain jc_8 rfl jwM_X8_48 jwN_X8_readsChain jwX_X8_readsChain dX8_readsPiece_83 (jRok_m _ _ _) rfl (jle rfl) ⟨jle rfl, jle rfl⟩ hk17 h (fun r19 S18 h => ?_)
      refine jx_if_eq (tgt := 104) dX8_readsPiece_86 (by decide) (fun c20 => ?_) (fun c20 => ?_)
      · replace h := h.1 c20
        refine jx_iconst (v := 0) dX8_readsPiece_104 (by decide) ?_
        exact jx_iret dX8_readsPiece_105 rfl (by decide) (jle rfl) (jle rfl) ⟨_, rfl, h⟩
      replace h := h.2 c20
      refine jx_aload_n 0 dX8_readsPiece_89 rfl rfl ?_
      refine jx_bipush (v := 41) dX8_readsPiece_90 (by decide) ?_
      obtain ⟨hk21, h⟩ := h
      refine jx_callVi (M' := mX8_isInHand) (As := [.int 41]) jo_X8_isInHand jc_8 rfl jwM_X8_120 jwN_X8_isInHand jwX_X8_isInHand dX8_readsPiece_92 (jRok_m _ _ _) rfl (jle rfl) ⟨jle rfl, jle rfl⟩ hk21 h (fun r23 S22 h => ?_)
      refine jx_if_eq (tgt := 104) dX8_readsPiece_95 (by decide) (fun c24 => ?_) (fun c24 => ?_)
      · replace h := h.1 c24
        refine jx_iconst (v := 0) dX8_readsPiece_104 (by decide) ?_
        exact jx_iret dX8_readsPiece_105 rfl (by decide) (jle rfl) (jle rfl) ⟨_, rfl, h⟩
      replace h := h.2 c24
      refine jx_aload_n 0 dX8_readsPiece_98 rfl rfl ?_
      obtain ⟨hk25, h⟩ := h
      refine jx_callVv (M' := mX8_step) (As := []) jo_X8_step jc_8 rfl jwM_X8_38 jwN_X8_step jwX_X8_step dX8_readsPiece_99 (jRok_m _ _ _) rfl (jle rfl) ⟨jle rfl, jle rfl⟩ hk25 h (fun S26 h => ?_)
      refine jx_iconst (v := 1) dX8_readsPiece_102 (by decide) ?_
      exact jx_iret dX8_readsPiece_103 rfl (by decide) (jle rfl) (jle rfl) ⟨_, rfl, h⟩
    replace h := h.2 c9
    refine jx_iload_n 2 dX8_readsPiece_30 rfl rfl ?_
    refine jx_bipush (v := 8) dX8_readsPiece_31 (by decide) ?_
    refine jx_icmp_ge (tgt := 58) dX8_readsPiece_33 (by decide) (fun c27 => ?_) (fun c27 => ?_)
    · replace h := h.1 c27
      refine jx_aload_n 0 dX8_readsPiece_58 rfl rfl ?_
      refine jx_bipush (v := 40) dX8_readsPiece_59 (by decide) ?_
      obtain ⟨hk28, h⟩ := h
      refine jx_callVi (M' := mX8_isInHand) (As := [.int 40]) jo_X8_isInHand jc_8 rfl jwM_X8_120 jwN_X8_isInHand jwX_X8_isInHand dX8_readsPiece_61 (jRok_m _ _ _) rfl (jle rfl) ⟨jle rfl, jle rfl⟩ hk28 h (fun r30 S29 h => ?_)
      refine jx_if_eq (tgt := 104) dX8_readsPiece_64 (by decide) (fun c31 => ?_) (fun c31 => ?_)
      · replace h := h.1 c31
        refine jx_iconst (v := 0) dX8_readsPiece_104 (by decide) ?_
        exact jx_iret dX8_readsPiece_105 rfl (by decide) (jle rfl) (jle rfl) ⟨_, rfl, h⟩
      replace h := h.2 c31
      refine jx_iload_n 1 dX8_readsPiece_67 rfl rfl ?_
      refine jx_bipush (v := 8) dX8_readsPiece_68 (by decide) ?_
      refine jx_icmp_ge (tgt := 104) dX8_readsPiece_70 (by decide) (fun c32 => ?_) (fun c32 => ?_)
      · replace h := h.1 c32
        refine jx_iconst (v := 0) dX8_readsPiece_104 (by decide) ?_
        exact jx_iret dX8_readsPiece_105 rfl (by decide) (jle rfl) (jle rfl) ⟨_, rfl, h⟩
      replace h := h.2 c32
      refine jx_aload_n 0 dX8_readsPiece_73 rfl rfl ?_
      obtain ⟨hk33, h⟩ := h
      refine jx_callVv (M' := mX8_step) (As := []) jo_X8_step jc_8 rfl jwM_X8_38 jwN_X8_step jwX_X8_step dX8_readsPiece_74 (jRok_m _ _ _) rfl (jle rfl) ⟨jle rfl, jle rfl⟩ hk33 h (fun S34 h => ?_)
      refine jx_aload_n 0 dX8_readsPiece_77 rfl rfl ?_
      refine jx_iconst (v := 0) dX8_readsPiece_78 (by decide) ?_
      refine jx_iload_n 1 dX8_readsPiece_79 rfl rfl ?_
      refine jx_iconst (v := 1) dX8_readsPiece_80 (by decide) ?_
      refine jx_iadd dX8_readsPiece_81 ?_
      refine jx_iload_n 2 dX8_readsPiece_82 rfl rfl ?_
      obtain ⟨hk35, h⟩ := h
      refine jx_callVi (M' := mX8_readsChain) (As := [.int 0, .int (x1 + 1), .int x2]) jo_X8_readsChain jc_8 rfl jwM_X8_48 jwN_X8_readsChain jwX_X8_readsChain dX8_readsPiece_83 (jRok_m _ _ _) rfl (jle rfl) ⟨jle rfl, jle rfl⟩ hk35 h (fun r37 S36 h => ?_)
      refine jx_if_eq (tgt := 104) dX8_readsPiece_86 (by decide) (fun c38 => ?_) (fun c38 => ?_)
      · replace h := h.1 c38
        refine jx_iconst (v := 0) dX8_readsPiece_104 (by decide) ?_
        exact jx_iret dX8_readsPiece_105 rfl (by decide) (jle rfl) (jle rfl) ⟨_, rfl, h⟩
      replace h := h.2 c38
      refine jx_aload_n 0 dX8_readsPiece_89 rfl rfl ?_
      refine jx_bipush (v := 41) dX8_readsPiece_90 (by decide) ?_
      obtain ⟨hk39, h⟩ := h
      refine jx_callVi (M' := mX8_isInHand) (As := [.int 41]) jo_X8_isInHand jc_8 rfl jwM_X8_120 jwN_X8_isInHand jwX_X8_isInHand dX8_readsPiece_92 (jRok_m _ _ _) rfl (jle rfl) ⟨jle rfl, jle rfl⟩ hk39 h (fun r41 S40 h => ?_)
      refine jx_if_eq (tgt := 104) dX8_readsPiece_95 (by decide) (fun c42 => ?_) (fun c42 => ?_)
      · replace h := h.1 c42
        refine jx_iconst (v := 0) dX8_readsPiece_104 (by decide) ?_
        exact jx_iret dX8_readsPiece_105 rfl (by decide) (jle rfl) (jle rfl) ⟨_, rfl, h⟩
      replace h := h.2 c42
      refine jx_aload_n 0 dX8_readsPiece_98 rfl rfl ?_
      obtain ⟨hk43, h⟩ := h
      refine jx_callVv (M' := mX8_step) (As := []) jo_X8_step jc_8 rfl jwM_X8_38 jwN_X8_step jwX_X8_step dX8_readsPiece_99 (jRok_m _ _ _) rfl (jle rfl) ⟨jle rfl, jle rfl⟩ hk43 h (fun S44 h => ?_)
      refine jx_iconst (v := 1) dX8_readsPiece_102 (by decide) ?_
      exact jx_iret dX8_readsPiece_103 rfl (by decide) (jle rfl) (jle rfl) ⟨_, rfl, h⟩
    replace h := h.2 c27
    refine jx_aload_n 0 dX8_readsPiece_36 rfl rfl ?_
    obtain ⟨hk45, h⟩ := h
    refine jx_callVv (M' := mX8_step) (As := []) jo_X8_step jc_8 rfl jwM_X8_38 jwN_X8_step jwX_X8_step dX8_readsPiece_37 (jRok_m _ _ _) rfl (jle rfl) ⟨jle rfl, jle rfl⟩ hk45 h (fun S46 h => ?_)
    refine jx_aload_n 0 dX8_readsPiece_40 rfl rfl ?_
    refine jx_iload_n 1 dX8_readsPiece_41 rfl rfl ?_
    refine jx_iload_n 2 dX8_readsPiece_42 rfl rfl ?_
    refine jx_iconst (v := 1) dX8_readsPiece_43 (by decide) ?_
    refine jx_iadd dX8_readsPiece_44 ?_
    obtain ⟨hk47, h⟩ := h
    refine jx_callVi (M' := mX8_readsPiece) (As := [.int x1, .int (x2 + 1)]) jo_X8_readsPiece jc_8 rfl jwM_X8_106 jwN_X8_readsPiece jwX_X8_readsPiece dX8_readsPiece_45 (jRok_m _ _ _) rfl (jle rfl) ⟨jle rfl, jle rfl⟩ hk47 h (fun r49 S48 h => ?_)
    refine jx_istore_n (lv1 := [(3, .int r49), (0, .ref a0), (1, .int x1), (2, .int x2)]) dX8_readsPiece_48 rfl (by decide) rfl ?_
    refine jx_aload_n 1 dX8_readsPiece_49 rfl rfl ?_
    refine jx_sipush (v := 20033) dX8_readsPiece_50 (by decide) ?_
    obtain ⟨hk50, h⟩ := h
    refine jx_callVv (M' := mX8_write) (As := [.int 20033]) jo_X8_write jc_8 rfl jwM_X8_112 jwN_X8_write jwX_X8_write dX8_readsPiece_53 (jRok_m _ _ _) rfl (jle rfl) ⟨jle rfl, jle rfl⟩ hk50 h (fun S51 h => ?_)
    refine jx_iload_n 0 dX8_readsPiece_56 rfl rfl ?_
    obtain ⟨hb52, h⟩ := h
    exact jx_iret dX8_readsPiece_57 rfl (jb_nar hb52) (jle rfl) (jle rfl) ⟨_, rfl, h⟩
  replace h := h.1 c6
  refine jx_aload_n 0 dX8_readsPiece_16 rfl rfl ?_
  refine jx_callVi (M' := mX8_readsOperand) (As := []) jo_X8_readsOperand jc_8 rfl jwM_X8_116 jwN_X8_readsOperand jwX_X8_readsOperand dX8_readsPiece_17 (jRok_m _ _ _) rfl (jle rfl) ⟨jle rfl, jle rfl⟩ hk1 h (fun r54 S53 h => ?_)
  obtain ⟨hb55, h⟩ := h
  exact jx_iret dX8_readsPiece_20 rfl (jb_nar hb55) (jle rfl) (jle rfl) ⟨_, rfl, h⟩
set_option maxRecDepth 100000 in
set_option maxHeartbeats 4000000 in
theorem T_X8_readsOperand {E : jEnv} {d : Nat} {Q : Int32 → jM → Prop} {a0 : Nat} {S : jM} (h : jk S a0 = 8 ∧ ((ji S a0 4) = 2 → jFi E mX8_numberInHand d 0 0 [.ref a0] S (fun r12 S11 => jk S11 a0 = 8 ∧ ((ji S11 a0 5) = 0 → (0 ≤ r12 → jFv E mX8_write d 0 0 [.ref a0, .int r12] S11 (fun S16 => jk S16 a0 = 8 ∧ jFv E mX8_step d 0 0 [.ref a0] (jput S16 a0 7 ((ji S16 a0 7) + 1)) (fun S18 => Q 1 S18))) ∧ (¬ 0 ≤ r12 → Q 0 S11)) ∧ (¬ (ji S11 a0 5) = 0 → Q 0 S11))) ∧ (¬ (ji S a0 4) = 2 → jFi E mX8_nameInHand d 0 0 [.ref a0] S (fun r4 S3 => jk S3 a0 = 8 ∧ ((ji S3 a0 5) = 0 → (0 ≤ r4 → jFv E mX8_write d 0 0 [.ref a0, .int r4] S3 (fun S8 => jk S8 a0 = 8 ∧ jFv E mX8_step d 0 0 [.ref a0] (jput S8 a0 7 ((ji S8 a0 7) + 1)) (fun S10 => Q 1 S10))) ∧ (¬ 0 ≤ r4 → Q 0 S3)) ∧ (¬ (ji S3 a0 5) = 0 → Q 0 S3)))) : jFi E mX8_readsOperand (d + 1) 0 0 [.ref a0] S Q := by
  refine jF_of (by decide) (jle rfl) ?_
  refine jx_lv (lv1 := [(0, .ref a0)]) [0] rfl ?_
  refine jx_aload_n 0 dX8_readsOperand_0 rfl rfl ?_
  obtain ⟨hk1, h⟩ := h
  refine jx_geti jc_8 (j := 4) (by decide) rfl jwF_X8_29 dX8_readsOperand_1 hk1 ?_
  refine jx_iconst (v := 2) dX8_readsOperand_4 (by decide) ?_
  refine jx_icmp_ne (tgt := 15) dX8_readsOperand_5 (by decide) (fun c2 => ?_) (fun c2 => ?_)
  · replace h := h.2 c2
    refine jx_aload_n 0 dX8_readsOperand_15 rfl rfl ?_
    refine jx_callVi (M' := mX8_nameInHand) (As := []) jo_X8_nameInHand jc_8 rfl jwM_X8_127 jwN_X8_nameInHand jwX_X8_nameInHand dX8_readsOperand_16 (jRok_m _ _ _) rfl (jle rfl) ⟨jle rfl, jle rfl⟩ hk1 h (fun r4 S3 h => ?_)
    refine jx_istore_n (lv1 := [(1, .int r4), (0, .ref a0)]) dX8_readsOperand_19 rfl (by decide) rfl ?_
    refine jx_aload_n 1 dX8_readsOperand_20 rfl rfl ?_
    obtain ⟨hk5, h⟩ := h
    refine jx_geti jc_8 (j := 5) (by decide) rfl jwF_X8_73 dX8_readsOperand_21 hk5 ?_
    refine jx_if_ne (tgt := 31) dX8_readsOperand_24 (by decide) (fun c6 => ?_) (fun c6 => ?_)
    · replace h := h.2 c6
      refine jx_iconst (v := 0) dX8_readsOperand_31 (by decide) ?_
      exact jx_iret dX8_readsOperand_32 rfl (by decide) (jle rfl) (jle rfl) ⟨_, rfl, h⟩
    replace h := h.1 c6
    refine jx_iload_n 0 dX8_readsOperand_27 rfl rfl ?_
    refine jx_if_ge (tgt := 33) dX8_readsOperand_28 (by decide) (fun c7 => ?_) (fun c7 => ?_)
    · replace h := h.1 c7
      refine jx_aload_n 1 dX8_readsOperand_33 rfl rfl ?_
      refine jx_iload_n 0 dX8_readsOperand_34 rfl rfl ?_
      refine jx_callVv (M' := mX8_write) (As := [.int r4]) jo_X8_write jc_8 rfl jwM_X8_112 jwN_X8_write jwX_X8_write dX8_readsOperand_35 (jRok_m _ _ _) rfl (jle rfl) ⟨jle rfl, jle rfl⟩ hk5 h (fun S8 h => ?_)
      refine jx_aload_n 1 dX8_readsOperand_38 rfl rfl ?_
      refine jx_dup dX8_readsOperand_39 rfl ?_
      obtain ⟨hk9, h⟩ := h
      refine jx_geti jc_8 (j := 7) (by decide) rfl jwF_X8_32 dX8_readsOperand_40 hk9 ?_
      refine jx_iconst (v := 1) dX8_readsOperand_43 (by decide) ?_
      refine jx_iadd dX8_readsOperand_44 ?_
      refine jx_puti jc_8 (j := 7) (by decide) rfl jwF_X8_32 rfl rfl rfl dX8_readsOperand_45 hk9 ?_
      refine jx_aload_n 1 dX8_readsOperand_48 rfl rfl ?_
      refine jx_callVv (M' := mX8_step) (As := []) jo_X8_step jc_8 rfl jwM_X8_38 jwN_X8_step jwX_X8_step dX8_readsOperand_49 (jRok_m _ _ _) rfl (jle rfl) ⟨jle rfl, jle rfl⟩ hk9 h (fun S10 h => ?_)
      refine jx_iconst (v := 1) dX8_readsOperand_52 (by decide) ?_
      exact jx_iret dX8_readsOperand_53 rfl (by decide) (jle rfl) (jle rfl) ⟨_, rfl, h⟩
    replace h := h.2 c7
    refine jx_iconst (v := 0) dX8_readsOperand_31 (by decide) ?_
    exact jx_iret dX8_readsOperand_32 rfl (by decide) (jle rfl) (jle rfl) ⟨_, rfl, h⟩
  replace h := h.1 c2
  refine jx_aload_n 0 dX8_readsOperand_8 rfl rfl ?_
  refine jx_callVi (M' := mX8_numberInHand) (As := []) jo_X8_numberInHand jc_8 rfl jwM_X8_124 jwN_X8_numberInHand jwX_X8_numberInHand dX8_readsOperand_9 (jRok_m _ _ _) rfl (jle rfl) ⟨jle rfl, jle rfl⟩ hk1 h (fun r12 S11 h => ?_)
  refine jx_goto (tgt := 19) dX8_readsOperand_12 (by decide) ?_
  refine jx_istore_n (lv1 := [(1, .int r12), (0, .ref a0)]) dX8_readsOperand_19 rfl (by decide) rfl ?_
  refine jx_aload_n 1 dX8_readsOperand_20 rfl rfl ?_
  obtain ⟨hk13, h⟩ := h
  refine jx_geti jc_8 (j := 5) (by decide) rfl jwF_X8_73 dX8_readsOperand_21 hk13 ?_
  refine jx_if_ne (tgt := 31) dX8_readsOperand_24 (by decide) (fun c14 => ?_) (fun c14 => ?_)
  · replace h := h.2 c14
    refine jx_iconst (v := 0) dX8_readsOperand_31 (by decide) ?_
    exact jx_iret dX8_readsOperand_32 rfl (by decide) (jle rfl) (jle rfl) ⟨_, rfl, h⟩
  replace h := h.1 c14
  refine jx_iload_n 0 dX8_readsOperand_27 rfl rfl ?_
  refine jx_if_ge (tgt := 33) dX8_readsOperand_28 (by decide) (fun c15 => ?_) (fun c15 => ?_)
  · replace h := h.1 c15
    refine jx_aload_n 1 dX8_readsOperand_33 rfl rfl ?_
    refine jx_iload_n 0 dX8_readsOperand_34 rfl rfl ?_
    refine jx_callVv (M' := mX8_write) (As := [.int r12]) jo_X8_write jc_8 rfl jwM_X8_112 jwN_X8_write jwX_X8_write dX8_readsOperand_35 (jRok_m _ _ _) rfl (jle rfl) ⟨jle rfl, jle rfl⟩ hk13 h (fun S16 h => ?_)
    refine jx_aload_n 1 dX8_readsOperand_38 rfl rfl ?_
    refine jx_dup dX8_readsOperand_39 rfl ?_
    obtain ⟨hk17, h⟩ := h
    refine jx_geti jc_8 (j := 7) (by decide) rfl jwF_X8_32 dX8_readsOperand_40 hk17 ?_
    refine jx_iconst (v := 1) dX8_readsOperand_43 (by decide) ?_
    refine jx_iadd dX8_readsOperand_44 ?_
    refine jx_puti jc_8 (j := 7) (by decide) rfl jwF_X8_32 rfl rfl rfl dX8_readsOperand_45 hk17 ?_
    refine jx_aload_n 1 dX8_readsOperand_48 rfl rfl ?_
    refine jx_callVv (M' := mX8_step) (As := []) jo_X8_step jc_8 rfl jwM_X8_38 jwN_X8_step jwX_X8_step dX8_readsOperand_49 (jRok_m _ _ _) rfl (jle rfl) ⟨jle rfl, jle rfl⟩ hk17 h (fun S18 h => ?_)
    refine jx_iconst (v := 1) dX8_readsOperand_52 (by decide) ?_
    exact jx_iret dX8_readsOperand_53 rfl (by decide) (jle rfl) (jle rfl) ⟨_, rfl, h⟩
  replace h := h.2 c15
  refine jx_iconst (v := 0) dX8_readsOperand_31 (by decide) ?_
  exact jx_iret dX8_readsOperand_32 rfl (by decide) (jle rfl) (jle rfl) ⟨_, rfl, h⟩
/-- X8_numberInHand at its loop's head 22 -/
abbrev L_X8_numberInHand_22 (E : jEnv) (d : Nat) (Q : Int32 → jM → Prop) (a0 : Nat) (x1 : Int32) (x2 : Int32) (S : jM) : Prop := jX E mX8_numberInHand (jRm (d + 1) 0 0) (jZm E (fun r S' => ∃ v : Int32, r = some (.int v) ∧ Q v S') 0 0) 22 [(0, .ref a0), (1, .int x1), (2, .int x2)] [] S 0 0
set_option maxRecDepth 100000 in
set_option maxHeartbeats 4000000 in
theorem T_X8_numberInHand {E : jEnv} {d : Nat} {Q : Int32 → jM → Prop} {a0 : Nat} {S : jM} (h : jk S a0 = 8 ∧ (((ji S a0 3) - (ji S a0 2)) ≤ 4 → L_X8_numberInHand_22 E d Q a0 0 (ji S a0 2) S) ∧ (¬ ((ji S a0 3) - (ji S a0 2)) ≤ 4 → Q (-1) S)) : jFi E mX8_numberInHand (d + 1) 0 0 [.ref a0] S Q := by
  refine jF_of (by decide) (jle rfl) ?_
  refine jx_lv (lv1 := [(0, .ref a0)]) [0] rfl ?_
  refine jx_aload_n 0 dX8_numberInHand_0 rfl rfl ?_
  obtain ⟨hk1, h⟩ := h
  refine jx_geti jc_8 (j := 3) (by decide) rfl jwF_X8_26 dX8_numberInHand_1 hk1 ?_
  refine jx_aload_n 0 dX8_numberInHand_4 rfl rfl ?_
  refine jx_geti jc_8 (j := 2) (by decide) rfl jwF_X8_63 dX8_numberInHand_5 hk1 ?_
  refine jx_isub dX8_numberInHand_8 ?_
  refine jx_iconst (v := 4) dX8_numberInHand_9 (by decide) ?_
  refine jx_icmp_le (tgt := 15) dX8_numberInHand_10 (by decide) (fun c2 => ?_) (fun c2 => ?_)
  · replace h := h.1 c2
    refine jx_iconst (v := 0) dX8_numberInHand_15 (by decide) ?_
    refine jx_istore_n (lv1 := [(1, .int 0), (0, .ref a0)]) dX8_numberInHand_16 rfl (by decide) rfl ?_
    refine jx_aload_n 1 dX8_numberInHand_17 rfl rfl ?_
    refine jx_geti jc_8 (j := 2) (by decide) rfl jwF_X8_63 dX8_numberInHand_18 hk1 ?_
    refine jx_istore_n (lv1 := [(2, .int (ji S a0 2)), (1, .int 0), (0, .ref a0)]) dX8_numberInHand_21 rfl (by decide) rfl ?_
    exact jx_lv [2, 1, 0] rfl h
  replace h := h.2 c2
  refine jx_iconst (v := (-1)) dX8_numberInHand_13 (by decide) ?_
  exact jx_iret dX8_numberInHand_14 rfl rfl (jle rfl) (jle rfl) ⟨_, rfl, h⟩
set_option maxRecDepth 100000 in
set_option maxHeartbeats 4000000 in
theorem T_X8_numberInHand_22 {E : jEnv} {d : Nat} {Q : Int32 → jM → Prop} {a0 : Nat} {x1 : Int32} {x2 : Int32} {S : jM} (h : jk S a0 = 8 ∧ ((ji S a0 3) ≤ x2 → Q x1 S) ∧ (¬ (ji S a0 3) ≤ x2 → jFi E mX8_byteAt d 0 0 [.ref a0, .int x2] S (fun r6 S5 => L_X8_numberInHand_22 E d Q a0 (((10 * x1) + r6) - 48) (x2 + 1) S5))) : L_X8_numberInHand_22 E d Q a0 x1 x2 S := by
  show jX E mX8_numberInHand (jRm (d + 1) 0 0) (jZm E (fun r S' => ∃ v : Int32, r = some (.int v) ∧ Q v S') 0 0) 22 [(0, .ref a0), (1, .int x1), (2, .int x2)] [] S 0 0
  refine jx_iload_n 2 dX8_numberInHand_22 rfl rfl ?_
  refine jx_aload_n 0 dX8_numberInHand_23 rfl rfl ?_
  obtain ⟨hk3, h⟩ := h
  refine jx_geti jc_8 (j := 3) (by decide) rfl jwF_X8_26 dX8_numberInHand_24 hk3 ?_
  refine jx_icmp_ge (tgt := 50) dX8_numberInHand_27 (by decide) (fun c4 => ?_) (fun c4 => ?_)
  · replace h := h.1 c4
    refine jx_iload_n 1 dX8_numberInHand_50 rfl rfl ?_
    exact jx_iret dX8_numberInHand_51 rfl rfl (jle rfl) (jle rfl) ⟨_, rfl, h⟩
  replace h := h.2 c4
  refine jx_bipush (v := 10) dX8_numberInHand_30 (by decide) ?_
  refine jx_iload_n 1 dX8_numberInHand_32 rfl rfl ?_
  refine jx_imul dX8_numberInHand_33 ?_
  refine jx_aload_n 0 dX8_numberInHand_34 rfl rfl ?_
  refine jx_iload_n 2 dX8_numberInHand_35 rfl rfl ?_
  refine jx_callVi (M' := mX8_byteAt) (As := [.int x2]) jo_X8_byteAt jc_8 rfl jwM_X8_66 jwN_X8_byteAt jwX_X8_byteAt dX8_numberInHand_36 (jRok_m _ _ _) rfl (jle rfl) ⟨jle rfl, jle rfl⟩ hk3 h (fun r6 S5 h => ?_)
  refine jx_iadd dX8_numberInHand_39 ?_
  refine jx_bipush (v := 48) dX8_numberInHand_40 (by decide) ?_
  refine jx_isub dX8_numberInHand_42 ?_
  refine jx_istore_n (lv1 := [(1, .int (((10 * x1) + r6) - 48)), (0, .ref a0), (2, .int x2)]) dX8_numberInHand_43 rfl (by decide) rfl ?_
  refine jx_iinc 2 (v := (x2 + 1)) (lv1 := [(2, .int (x2 + 1)), (1, .int (((10 * x1) + r6) - 48)), (0, .ref a0)]) dX8_numberInHand_44 rfl rfl (by decide) rfl ?_
  refine jx_goto (tgt := 22) dX8_numberInHand_47 (by decide) ?_
  exact jx_lv [2, 1, 0] rfl h
set_option maxRecDepth 100000 in
set_option maxHeartbeats 4000000 in
theorem T_X8_write {E : jEnv} {d : Nat} {Q : jM → Prop} {a0 : Nat} {x1 : Int32} {S : jM} (h : jk S a0 = 8 ∧ ((jwi (ji S a0 9) 96) = 0 → Q S) ∧ (¬ (jwi (ji S a0 9) 96) = 0 → ∃ b6, jr S a0 8 = some b6 ∧ (jk S b6 = 12 ∧ vp_in (ji S a0 9) (jl S b6) ∧ (Q (jput (jput S b6 (Int32.toNatClampNeg (ji S a0 9)) x1) a0 9 ((ji S a0 9) + 1)))))) : jFv E mX8_write (d + 1) 0 0 [.ref a0, .int x1] S Q := by
  refine jF_of (by decide) (jle rfl) ?_
  refine jx_lv (lv1 := [(0, .ref a0), (1, .int x1)]) [0, 1] rfl ?_
  refine jx_aload_n 0 dX8_write_0 rfl rfl ?_
  obtain ⟨hk1, h⟩ := h
  refine jx_geti jc_8 (j := 9) (by decide) rfl jwF_X8_35 dX8_write_1 hk1 ?_
  refine jx_bipush (v := 96) dX8_write_4 (by decide) ?_
  refine jx_callSNi (M' := mX10_within) (As := [.int (ji S a0 9), .int 96]) (host := "NineMasters") jo_X10_within (by decide) jwS_X10_within dX8_write_6 (jRok_m _ _ _) rfl (jle rfl) ⟨jle rfl, jle rfl⟩ (c_X10_within (Q := fun v S' => v = (jwi (ji S a0 9) 96) ∧ S = S') ⟨rfl, rfl⟩) (fun r2 S3 hq4 => ?_)
  obtain ⟨rfl, rfl⟩ := hq4
  refine jx_if_eq (tgt := 32) dX8_write_9 (by decide) (fun c5 => ?_) (fun c5 => ?_)
  · replace h := h.1 c5
    exact jx_vret dX8_write_32 rfl (jle rfl) (jle rfl) ⟨rfl, h⟩
  replace h := h.2 c5
  refine jx_aload_n 0 dX8_write_12 rfl rfl ?_
  obtain ⟨b6, hb6, h⟩ := h
  refine jx_getr jc_8 (j := 8) (by decide) rfl jwF_X8_15 dX8_write_13 hk1 hb6 ?_
  refine jx_aload_n 0 dX8_write_16 rfl rfl ?_
  refine jx_geti jc_8 (j := 9) (by decide) rfl jwF_X8_35 dX8_write_17 hk1 ?_
  refine jx_iload_n 1 dX8_write_20 rfl rfl ?_
  obtain ⟨hk7, h⟩ := h
  obtain ⟨hi8, h⟩ := h
  refine jx_iast dX8_write_21 hk7 hi8 ?_
  refine jx_aload_n 0 dX8_write_22 rfl rfl ?_
  refine jx_dup dX8_write_23 rfl ?_
  refine jx_geti jc_8 (j := 9) (by decide) rfl jwF_X8_35 dX8_write_24 hk1 ?_
  refine jx_topi (y := (ji S a0 9)) (by simp [ji_put, ji_row, ji_putr, jne hk1 hk7 (by decide)]) ?_
  refine jx_iconst (v := 1) dX8_write_27 (by decide) ?_
  refine jx_iadd dX8_write_28 ?_
  refine jx_puti jc_8 (j := 9) (by decide) rfl jwF_X8_35 rfl rfl rfl dX8_write_29 hk1 ?_
  exact jx_vret dX8_write_32 rfl (jle rfl) (jle rfl) ⟨rfl, h⟩
set_option maxRecDepth 100000 in
set_option maxHeartbeats 4000000 in
theorem T_X3_init {E : jEnv} {d : Nat} {Q : jM → Prop} {a0 : Nat} {S : jM} (h : ∀ q1, q1 = jn S → jFv E mX0_init d 10 72 [.ref q1] (jnew S 0 0) (fun S2 => jk S2 a0 = 3 ∧ ∀ q5, q5 = jn (jputr S2 a0 0 (some q1)) → jFv E mX4_init d 2 72 [.ref q5] (jnew (jputr S2 a0 0 (some q1)) 4 0) (fun S6 => jk S6 a0 = 3 ∧ ∀ q9, q9 = jn (jputr S6 a0 1 (some q5)) → jFv E mX1_init d 2 20 [.ref q9] (jnew (jputr S6 a0 1 (some q5)) 1 0) (fun S10 => jk S10 a0 = 3 ∧ ∀ q13, q13 = jn (jputr S10 a0 2 (some q9)) → jk (jnew (jputr S10 a0 2 (some q9)) 12 6) a0 = 3 ∧ ∀ q16, q16 = jn (jputr (jnew (jputr S10 a0 2 (some q9)) 12 6) a0 3 (some q13)) → jk (jnew (jputr (jnew (jputr S10 a0 2 (some q9)) 12 6) a0 3 (some q13)) 16 14) a0 = 3 ∧ Q (jputr (jnew (jputr (jnew (jputr S10 a0 2 (some q9)) 12 6) a0 3 (some q13)) 16 14) a0 5 (some q16)))))) : jFv E mX3_init (d + 1) 19 196 [.ref a0] S Q := by
  refine jF_of (by decide) (jle rfl) ?_
  refine jx_lv (lv1 := [(0, .ref a0)]) [0] rfl ?_
  refine jx_aload_n 0 dX3_init_0 rfl rfl ?_
  refine jx_objInit jwM_X3_3 jwN_obj jwO_obj dX3_init_1 (jRok_m _ _ _) (jle rfl) ?_
  refine jx_aload_n 0 dX3_init_4 rfl rfl ?_
  refine jx_new jc_0 jwK_X3_9 jwI_X0 jwZ_X0 jdv_0 dX3_init_5 ⟨jle rfl, jle rfl⟩ ?_
  obtain ⟨q1, hq1⟩ : ∃ q, q = jn S := ⟨_, rfl⟩
  rw [← hq1]
  replace h := h q1 hq1
  refine jx_dup dX3_init_8 rfl ?_
  refine jx_callIv (M' := mX0_init) (As := []) (b := q1) jo_X0_init rfl jwM_X3_11 jwN_X0_init rfl dX3_init_9 (jRok_m _ _ _) rfl (jle rfl) ⟨jle rfl, jle rfl⟩ h (fun S2 h => ?_)
  obtain ⟨hk3, h⟩ := h
  refine jx_putrF jc_3 (j := 0) (by decide) rfl jwF_X3_12 rfl rfl rfl rfl rfl dX3_init_12 hk3 ?_
  refine jx_aload_n 0 dX3_init_15 rfl rfl ?_
  refine jx_new jc_4 jwK_X3_18 jwI_X4 jwZ_X4 jdv_4 dX3_init_16 ⟨jle rfl, jle rfl⟩ ?_
  obtain ⟨q5, hq5⟩ : ∃ q, q = jn (jputr S2 a0 0 (some q1)) := ⟨_, rfl⟩
  rw [← hq5]
  replace h := h q5 hq5
  refine jx_dup dX3_init_19 rfl ?_
  refine jx_callIv (M' := mX4_init) (As := []) (b := q5) jo_X4_init rfl jwM_X3_20 jwN_X4_init rfl dX3_init_20 (jRok_m _ _ _) rfl (jle rfl) ⟨jle rfl, jle rfl⟩ h (fun S6 h => ?_)
  obtain ⟨hk7, h⟩ := h
  refine jx_putrF jc_3 (j := 1) (by decide) rfl jwF_X3_21 rfl rfl rfl rfl rfl dX3_init_23 hk7 ?_
  refine jx_aload_n 0 dX3_init_26 rfl rfl ?_
  refine jx_new jc_1 jwK_X3_25 jwI_X1 jwZ_X1 jdv_1 dX3_init_27 ⟨jle rfl, jle rfl⟩ ?_
  obtain ⟨q9, hq9⟩ : ∃ q, q = jn (jputr S6 a0 1 (some q5)) := ⟨_, rfl⟩
  rw [← hq9]
  replace h := h q9 hq9
  refine jx_dup dX3_init_30 rfl ?_
  refine jx_callINv (M' := mX1_init) (As := []) (b := q9) (host := "NineMasters") jo_X1_init rfl (by decide) jwN_X1_init rfl dX3_init_31 (jRok_m _ _ _) rfl (jle rfl) ⟨jle rfl, jle rfl⟩ h (fun S10 h => ?_)
  obtain ⟨hk11, h⟩ := h
  refine jx_putrF jc_3 (j := 2) (by decide) rfl jwF_X3_28 rfl rfl rfl rfl rfl dX3_init_34 hk11 ?_
  refine jx_aload_n 0 dX3_init_37 rfl rfl ?_
  refine jx_bipush (v := 6) dX3_init_38 (by decide) ?_
  refine jx_newa (N := 6) jwA dX3_init_40 (by decide) (by decide) (by decide) ⟨jle rfl, jle rfl⟩ ?_
  obtain ⟨q13, hq13⟩ : ∃ q, q = jn (jputr S10 a0 2 (some q9)) := ⟨_, rfl⟩
  rw [← hq13]
  replace h := h q13 hq13
  obtain ⟨hk14, h⟩ := h
  refine jx_putrF jc_3 (j := 3) (by decide) rfl jwF_X3_32 rfl rfl rfl rfl rfl dX3_init_42 hk14 ?_
  refine jx_aload_n 0 dX3_init_45 rfl rfl ?_
  refine jx_bipush (v := 14) dX3_init_46 (by decide) ?_
  refine jx_anew (kk := 16) (N := 14) jc_9 (by decide) (by decide) rfl jwK_X3_36 dX3_init_48 (by decide) (by decide) (by decide) ⟨jle rfl, jle rfl⟩ ?_
  obtain ⟨q16, hq16⟩ : ∃ q, q = jn (jputr (jnew (jputr S10 a0 2 (some q9)) 12 6) a0 3 (some q13)) := ⟨_, rfl⟩
  rw [← hq16]
  replace h := h q16 hq16
  obtain ⟨hk17, h⟩ := h
  refine jx_putrF jc_3 (j := 5) (by decide) rfl jwF_X3_38 rfl rfl rfl rfl rfl dX3_init_51 hk17 ?_
  exact jx_vret dX3_init_54 rfl (jle rfl) (jle rfl) ⟨rfl, h⟩
/-- X3_become at its loop's head 58 -/
abbrev L_X3_become_58 (E : jEnv) (d : Nat) (Q : jM → Prop) (a0 : Nat) (a1 : Nat) (x2 : Int32) (S : jM) : Prop := jX E mX3_become (jRm (d + 1) 0 0) (jZm E (fun r S' => r = none ∧ Q S') 0 0) 58 [(0, .ref a0), (1, .ref a1), (2, .int x2)] [] S 0 0
set_option maxRecDepth 100000 in
set_option maxHeartbeats 4000000 in
theorem T_X3_become {E : jEnv} {d : Nat} {Q : jM → Prop} {a0 : Nat} {a1 : Nat} {S : jM} (h : jk S a0 = 3 ∧ ∃ b2, jr S a0 0 = some b2 ∧ (jk S a1 = 3 ∧ ∃ b4, jr S a1 0 = some b4 ∧ (jk S b2 = 0 ∧ jFv E mX0_become d 0 0 [.ref b2, .ref b4] S (fun S6 => jk S6 a0 = 3 ∧ ∃ b8, jr S6 a0 1 = some b8 ∧ (jk S6 a1 = 3 ∧ ∃ b10, jr S6 a1 1 = some b10 ∧ (jk S6 b8 = 4 ∧ jFv E mX4_become d 0 0 [.ref b8, .ref b10] S6 (fun S12 => jk S12 a0 = 3 ∧ ∃ b14, jr S12 a0 2 = some b14 ∧ (jk S12 a1 = 3 ∧ ∃ b16, jr S12 a1 2 = some b16 ∧ (jk S12 b14 = 1 ∧ jFv E mX1_become d 0 0 [.ref b14, .ref b16] S12 (fun S18 => jk S18 a1 = 3 ∧ ∃ b20, jr S18 a1 3 = some b20 ∧ (jk S18 a0 = 3 ∧ ∃ b22, jr S18 a0 3 = some b22 ∧ (jk S18 b20 = 12 ∧ jk S18 b22 = 12 ∧ (¬ (0 : Int32) < 0 ∧ ¬ (0 : Int32) < 0 ∧ ¬ (6 : Int32) < 0 ∧ (Int32.toNatClampNeg 0) + (Int32.toNatClampNeg 6) ≤ jl S18 b20 ∧ (Int32.toNatClampNeg 0) + (Int32.toNatClampNeg 6) ≤ jl S18 b22) ∧ (L_X3_become_58 E d Q a0 a1 0 (jput (jrow S18 b22 (va_cpy (ji S18 b20) (ji S18 b22) (Int32.toNatClampNeg 0) (Int32.toNatClampNeg 0) (Int32.toNatClampNeg 6))) a0 4 (ji S18 a1 4))))))))))))))) : jFv E mX3_become (d + 1) 0 0 [.ref a0, .ref a1] S Q := by
  refine jF_of (by decide) (jle rfl) ?_
  refine jx_lv (lv1 := [(0, .ref a0), (1, .ref a1)]) [0, 1] rfl ?_
  refine jx_aload_n 0 dX3_become_0 rfl rfl ?_
  obtain ⟨hk1, h⟩ := h
  obtain ⟨b2, hb2, h⟩ := h
  refine jx_getr jc_3 (j := 0) (by decide) rfl jwF_X3_12 dX3_become_1 hk1 hb2 ?_
  refine jx_aload_n 1 dX3_become_4 rfl rfl ?_
  obtain ⟨hk3, h⟩ := h
  obtain ⟨b4, hb4, h⟩ := h
  refine jx_getr jc_3 (j := 0) (by decide) rfl jwF_X3_12 dX3_become_5 hk3 hb4 ?_
  obtain ⟨hk5, h⟩ := h
  refine jx_callVv (M' := mX0_become) (As := [.ref b4]) jo_X0_become jc_0 rfl jwM_X3_42 jwN_X0_become jwX_X0_become dX3_become_8 (jRok_m _ _ _) rfl (jle rfl) ⟨jle rfl, jle rfl⟩ hk5 h (fun S6 h => ?_)
  refine jx_aload_n 0 dX3_become_11 rfl rfl ?_
  obtain ⟨hk7, h⟩ := h
  obtain ⟨b8, hb8, h⟩ := h
  refine jx_getr jc_3 (j := 1) (by decide) rfl jwF_X3_21 dX3_become_12 hk7 hb8 ?_
  refine jx_aload_n 1 dX3_become_15 rfl rfl ?_
  obtain ⟨hk9, h⟩ := h
  obtain ⟨b10, hb10, h⟩ := h
  refine jx_getr jc_3 (j := 1) (by decide) rfl jwF_X3_21 dX3_become_16 hk9 hb10 ?_
  obtain ⟨hk11, h⟩ := h
  refine jx_callVv (M' := mX4_become) (As := [.ref b10]) jo_X4_become jc_4 rfl jwM_X3_46 jwN_X4_become jwX_X4_become dX3_become_19 (jRok_m _ _ _) rfl (jle rfl) ⟨jle rfl, jle rfl⟩ hk11 h (fun S12 h => ?_)
  refine jx_aload_n 0 dX3_become_22 rfl rfl ?_
  obtain ⟨hk13, h⟩ := h
  obtain ⟨b14, hb14, h⟩ := h
  refine jx_getr jc_3 (j := 2) (by decide) rfl jwF_X3_28 dX3_become_23 hk13 hb14 ?_
  refine jx_aload_n 1 dX3_become_26 rfl rfl ?_
  obtain ⟨hk15, h⟩ := h
  obtain ⟨b16, hb16, h⟩ := h
  refine jx_getr jc_3 (j := 2) (by decide) rfl jwF_X3_28 dX3_become_27 hk15 hb16 ?_
  obtain ⟨hk17, h⟩ := h
  refine jx_callVv (M' := mX1_become) (As := [.ref b16]) jo_X1_become jc_1 rfl jwM_X3_49 jwN_X1_become jwX_X1_become dX3_become_30 (jRok_m _ _ _) rfl (jle rfl) ⟨jle rfl, jle rfl⟩ hk17 h (fun S18 h => ?_)
  refine jx_aload_n 1 dX3_become_33 rfl rfl ?_
  obtain ⟨hk19, h⟩ := h
  obtain ⟨b20, hb20, h⟩ := h
  refine jx_getr jc_3 (j := 3) (by decide) rfl jwF_X3_32 dX3_become_34 hk19 hb20 ?_
  refine jx_iconst (v := 0) dX3_become_37 (by decide) ?_
  refine jx_aload_n 0 dX3_become_38 rfl rfl ?_
  obtain ⟨hk21, h⟩ := h
  obtain ⟨b22, hb22, h⟩ := h
  refine jx_getr jc_3 (j := 3) (by decide) rfl jwF_X3_32 dX3_become_39 hk21 hb22 ?_
  refine jx_iconst (v := 0) dX3_become_42 (by decide) ?_
  refine jx_bipush (v := 6) dX3_become_43 (by decide) ?_
  obtain ⟨hk23, h⟩ := h
  obtain ⟨hk24, h⟩ := h
  obtain ⟨⟨hc25, hc26, hc27, hc28, hc29⟩, h⟩ := h
  refine jx_copy jwM_X3_52 jwV_copy jwS_copy jwZ_J10 dX3_become_45 (jRok_m _ _ _) (jle rfl) hk23 hk24 hc25 hc26 hc27 hc28 hc29 ?_
  refine jx_aload_n 0 dX3_become_48 rfl rfl ?_
  refine jx_aload_n 1 dX3_become_49 rfl rfl ?_
  refine jx_geti jc_3 (j := 4) (by decide) rfl jwF_X3_58 dX3_become_50 hk19 ?_
  refine jx_topi (y := (ji S18 a1 4)) (by simp [ji_put, ji_row, ji_putr, jne hk19 hk24 (by decide)]) ?_
  refine jx_puti jc_3 (j := 4) (by decide) rfl jwF_X3_58 rfl rfl rfl dX3_become_53 hk21 ?_
  refine jx_iconst (v := 0) dX3_become_56 (by decide) ?_
  refine jx_istore_n (lv1 := [(2, .int 0), (0, .ref a0), (1, .ref a1)]) dX3_become_57 rfl (by decide) rfl ?_
  exact jx_lv [1, 2, 0] rfl h
set_option maxRecDepth 100000 in
set_option maxHeartbeats 4000000 in
theorem T_X3_become_58 {E : jEnv} {d : Nat} {Q : jM → Prop} {a0 : Nat} {a1 : Nat} {x2 : Int32} {S : jM} (h : (14 ≤ x2 → jk S a1 = 3 ∧ jk S a0 = 3 ∧ Q (jput S a0 6 (ji S a1 6))) ∧ (¬ 14 ≤ x2 → jk S a0 = 3 ∧ ∃ b34, jr S a0 5 = some b34 ∧ (jk S a1 = 3 ∧ ∃ b36, jr S a1 5 = some b36 ∧ (jk S b36 = 16 ∧ vp_in x2 (jl S b36) ∧ (jr S b36 (Int32.toNatClampNeg x2) = none → jk S b34 = 16 ∧ vp_in x2 (jl S b34) ∧ (L_X3_become_58 E d Q a0 a1 (x2 + 1) (jputr S b34 (Int32.toNatClampNeg x2) none))) ∧ (∀ b40, jr S b36 (Int32.toNatClampNeg x2) = some b40 → jk S b34 = 16 ∧ jk S b40 = 9 ∧ vp_in x2 (jl S b34) ∧ (L_X3_become_58 E d Q a0 a1 (x2 + 1) (jputr S b34 (Int32.toNatClampNeg x2) (some b40)))))))) : L_X3_become_58 E d Q a0 a1 x2 S := by
  show jX E mX3_become (jRm (d + 1) 0 0) (jZm E (fun r S' => r = none ∧ Q S') 0 0) 58 [(0, .ref a0), (1, .ref a1), (2, .int x2)] [] S 0 0
  refine jx_iload_n 2 dX3_become_58 rfl rfl ?_
  refine jx_bipush (v := 14) dX3_become_59 (by decide) ?_
  refine jx_icmp_ge (tgt := 82) dX3_become_61 (by decide) (fun c30 => ?_) (fun c30 => ?_)
  · replace h := h.1 c30
    refine jx_aload_n 0 dX3_become_82 rfl rfl ?_
    refine jx_aload_n 1 dX3_become_83 rfl rfl ?_
    obtain ⟨hk31, h⟩ := h
    refine jx_geti jc_3 (j := 6) (by decide) rfl jwF_X3_62 dX3_become_84 hk31 ?_
    obtain ⟨hk32, h⟩ := h
    refine jx_puti jc_3 (j := 6) (by decide) rfl jwF_X3_62 rfl rfl rfl dX3_become_87 hk32 ?_
    exact jx_vret dX3_become_90 rfl (jle rfl) (jle rfl) ⟨rfl, h⟩
  replace h := h.2 c30
  refine jx_aload_n 0 dX3_become_64 rfl rfl ?_
  obtain ⟨hk33, h⟩ := h
  obtain ⟨b34, hb34, h⟩ := h
  refine jx_getr jc_3 (j := 5) (by decide) rfl jwF_X3_38 dX3_become_65 hk33 hb34 ?_
  refine jx_iload_n 2 dX3_become_68 rfl rfl ?_
  refine jx_aload_n 1 dX3_become_69 rfl rfl ?_
  obtain ⟨hk35, h⟩ := h
  obtain ⟨b36, hb36, h⟩ := h
  refine jx_getr jc_3 (j := 5) (by decide) rfl jwF_X3_38 dX3_become_70 hk35 hb36 ?_
  refine jx_iload_n 2 dX3_become_73 rfl rfl ?_
  obtain ⟨hk37, h⟩ := h
  obtain ⟨hi38, h⟩ := h
  rcases hb39 : jr S b36 (Int32.toNatClampNeg x2) with _ | b40
  · replace h := h.1 hb39
    refine jx_aaldN dX3_become_74 hk37 (by decide) (by decide) hi38 hb39 ?_
    obtain ⟨hk41, h⟩ := h
    obtain ⟨hi42, h⟩ := h
    refine jx_aastN dX3_become_75 hk41 (by decide) (by decide) hi42 ?_
    refine jx_iinc 2 (v := (x2 + 1)) (lv1 := [(2, .int (x2 + 1)), (0, .ref a0), (1, .ref a1)]) dX3_become_76 rfl rfl (by decide) rfl ?_
    refine jx_goto (tgt := 58) dX3_become_79 (by decide) ?_
    exact jx_lv [1, 2, 0] rfl h
  replace h := h.2 b40 hb39
  refine jx_aaldS dX3_become_74 hk37 (by decide) (by decide) hi38 hb39 ?_
  obtain ⟨hk43, h⟩ := h
  obtain ⟨hk45, h⟩ := h
  obtain ⟨hi44, h⟩ := h
  refine jx_aast dX3_become_75 hk43 (by decide) (by decide) jc_9 rfl hk45 hi44 ?_
  refine jx_iinc 2 (v := (x2 + 1)) (lv1 := [(2, .int (x2 + 1)), (0, .ref a0), (1, .ref a1)]) dX3_become_76 rfl rfl (by decide) rfl ?_
  refine jx_goto (tgt := 58) dX3_become_79 (by decide) ?_
  exact jx_lv [1, 2, 0] rfl h
set_option maxRecDepth 100000 in
set_option maxHeartbeats 4000000 in
theorem T_X3_addWish {E : jEnv} {d : Nat} {Q : Int32 → jM → Prop} {a0 : Nat} {x1 : Int32} {S : jM} (h : jk S a0 = 3 ∧ ((jwi (ji S a0 4) 6) = 0 → Q 0 S) ∧ (¬ (jwi (ji S a0 4) 6) = 0 → ∃ b6, jr S a0 3 = some b6 ∧ (jk S b6 = 12 ∧ vp_in (ji S a0 4) (jl S b6) ∧ (Q 1 (jput (jput S b6 (Int32.toNatClampNeg (ji S a0 4)) x1) a0 4 ((ji S a0 4) + 1)))))) : jFi E mX3_addWish (d + 1) 0 0 [.ref a0, .int x1] S Q := by
  refine jF_of (by decide) (jle rfl) ?_
  refine jx_lv (lv1 := [(0, .ref a0), (1, .int x1)]) [0, 1] rfl ?_
  refine jx_aload_n 0 dX3_addWish_0 rfl rfl ?_
  obtain ⟨hk1, h⟩ := h
  refine jx_geti jc_3 (j := 4) (by decide) rfl jwF_X3_58 dX3_addWish_1 hk1 ?_
  refine jx_bipush (v := 6) dX3_addWish_4 (by decide) ?_
  refine jx_callSNi (M' := mX10_within) (As := [.int (ji S a0 4), .int 6]) (host := "NineMasters") jo_X10_within (by decide) jwS_X10_within dX3_addWish_6 (jRok_m _ _ _) rfl (jle rfl) ⟨jle rfl, jle rfl⟩ (c_X10_within (Q := fun v S' => v = (jwi (ji S a0 4) 6) ∧ S = S') ⟨rfl, rfl⟩) (fun r2 S3 hq4 => ?_)
  obtain ⟨rfl, rfl⟩ := hq4
  refine jx_if_ne (tgt := 14) dX3_addWish_9 (by decide) (fun c5 => ?_) (fun c5 => ?_)
  · replace h := h.2 c5
    refine jx_aload_n 0 dX3_addWish_14 rfl rfl ?_
    obtain ⟨b6, hb6, h⟩ := h
    refine jx_getr jc_3 (j := 3) (by decide) rfl jwF_X3_32 dX3_addWish_15 hk1 hb6 ?_
    refine jx_aload_n 0 dX3_addWish_18 rfl rfl ?_
    refine jx_geti jc_3 (j := 4) (by decide) rfl jwF_X3_58 dX3_addWish_19 hk1 ?_
    refine jx_iload_n 1 dX3_addWish_22 rfl rfl ?_
    obtain ⟨hk7, h⟩ := h
    obtain ⟨hi8, h⟩ := h
    refine jx_iast dX3_addWish_23 hk7 hi8 ?_
    refine jx_aload_n 0 dX3_addWish_24 rfl rfl ?_
    refine jx_dup dX3_addWish_25 rfl ?_
    refine jx_geti jc_3 (j := 4) (by decide) rfl jwF_X3_58 dX3_addWish_26 hk1 ?_
    refine jx_topi (y := (ji S a0 4)) (by simp [ji_put, ji_row, ji_putr, jne hk1 hk7 (by decide)]) ?_
    refine jx_iconst (v := 1) dX3_addWish_29 (by decide) ?_
    refine jx_iadd dX3_addWish_30 ?_
    refine jx_puti jc_3 (j := 4) (by decide) rfl jwF_X3_58 rfl rfl rfl dX3_addWish_31 hk1 ?_
    refine jx_iconst (v := 1) dX3_addWish_34 (by decide) ?_
    exact jx_iret dX3_addWish_35 rfl (by decide) (jle rfl) (jle rfl) ⟨_, rfl, h⟩
  replace h := h.1 c5
  refine jx_iconst (v := 0) dX3_addWish_12 (by decide) ?_
  exact jx_iret dX3_addWish_13 rfl (by decide) (jle rfl) (jle rfl) ⟨_, rfl, h⟩
/-- X3_wishedSet at its loop's head 4 -/
abbrev L_X3_wishedSet_4 (E : jEnv) (d : Nat) (Q : Int32 → jM → Prop) (a0 : Nat) (x1 : Int32) (x2 : Int32) (S : jM) : Prop := jX E mX3_wishedSet (jRm d 0 0) (jZm E (fun r S' => ∃ v : Int32, r = some (.int v) ∧ Q v S') 0 0) 4 [(0, .ref a0), (1, .int x1), (2, .int x2)] [] S 0 0
set_option maxRecDepth 100000 in
set_option maxHeartbeats 4000000 in
theorem T_X3_wishedSet {E : jEnv} {d : Nat} {Q : Int32 → jM → Prop} {a0 : Nat} {S : jM} (h : L_X3_wishedSet_4 E d Q a0 0 0 S) : jFi E mX3_wishedSet d 0 0 [.ref a0] S Q := by
  refine jF_of (by decide) (jle rfl) ?_
  refine jx_lv (lv1 := [(0, .ref a0)]) [0] rfl ?_
  refine jx_iconst (v := 0) dX3_wishedSet_0 (by decide) ?_
  refine jx_istore_n (lv1 := [(1, .int 0), (0, .ref a0)]) dX3_wishedSet_1 rfl (by decide) rfl ?_
  refine jx_iconst (v := 0) dX3_wishedSet_2 (by decide) ?_
  refine jx_istore_n (lv1 := [(2, .int 0), (1, .int 0), (0, .ref a0)]) dX3_wishedSet_3 rfl (by decide) rfl ?_
  exact jx_lv [2, 1, 0] rfl h
set_option maxRecDepth 100000 in
set_option maxHeartbeats 4000000 in
theorem T_X3_wishedSet_4 {E : jEnv} {d : Nat} {Q : Int32 → jM → Prop} {a0 : Nat} {x1 : Int32} {x2 : Int32} {S : jM} (h : jk S a0 = 3 ∧ ((ji S a0 4) ≤ x2 → Q x1 S) ∧ (¬ (ji S a0 4) ≤ x2 → (6 ≤ x2 → Q x1 S) ∧ (¬ 6 ≤ x2 → ∃ b4, jr S a0 3 = some b4 ∧ (jk S b4 = 12 ∧ vp_in x2 (jl S b4) ∧ (L_X3_wishedSet_4 E d Q a0 (x1 ||| (jshl 1 (ji S b4 (Int32.toNatClampNeg x2)))) (x2 + 1) S))))) : L_X3_wishedSet_4 E d Q a0 x1 x2 S := by
  show jX E mX3_wishedSet (jRm d 0 0) (jZm E (fun r S' => ∃ v : Int32, r = some (.int v) ∧ Q v S') 0 0) 4 [(0, .ref a0), (1, .int x1), (2, .int x2)] [] S 0 0
  refine jx_iload_n 2 dX3_wishedSet_4 rfl rfl ?_
  refine jx_aload_n 0 dX3_wishedSet_5 rfl rfl ?_
  obtain ⟨hk1, h⟩ := h
  refine jx_geti jc_3 (j := 4) (by decide) rfl jwF_X3_58 dX3_wishedSet_6 hk1 ?_
  refine jx_icmp_ge (tgt := 35) dX3_wishedSet_9 (by decide) (fun c2 => ?_) (fun c2 => ?_)
  · replace h := h.1 c2
    refine jx_iload_n 1 dX3_wishedSet_35 rfl rfl ?_
    exact jx_iret dX3_wishedSet_36 rfl rfl (jle rfl) (jle rfl) ⟨_, rfl, h⟩
  replace h := h.2 c2
  refine jx_iload_n 2 dX3_wishedSet_12 rfl rfl ?_
  refine jx_bipush (v := 6) dX3_wishedSet_13 (by decide) ?_
  refine jx_icmp_ge (tgt := 35) dX3_wishedSet_15 (by decide) (fun c3 => ?_) (fun c3 => ?_)
  · replace h := h.1 c3
    refine jx_iload_n 1 dX3_wishedSet_35 rfl rfl ?_
    exact jx_iret dX3_wishedSet_36 rfl rfl (jle rfl) (jle rfl) ⟨_, rfl, h⟩
  replace h := h.2 c3
  refine jx_iload_n 1 dX3_wishedSet_18 rfl rfl ?_
  refine jx_iconst (v := 1) dX3_wishedSet_19 (by decide) ?_
  refine jx_aload_n 0 dX3_wishedSet_20 rfl rfl ?_
  obtain ⟨b4, hb4, h⟩ := h
  refine jx_getr jc_3 (j := 3) (by decide) rfl jwF_X3_32 dX3_wishedSet_21 hk1 hb4 ?_
  refine jx_iload_n 2 dX3_wishedSet_24 rfl rfl ?_
  obtain ⟨hk5, h⟩ := h
  obtain ⟨hi6, h⟩ := h
  refine jx_iald dX3_wishedSet_25 hk5 hi6 ?_
  refine jx_ishl dX3_wishedSet_26 ?_
  refine jx_ior dX3_wishedSet_27 ?_
  refine jx_istore_n (lv1 := [(1, .int (x1 ||| (jshl 1 (ji S b4 (Int32.toNatClampNeg x2))))), (0, .ref a0), (2, .int x2)]) dX3_wishedSet_28 rfl (by decide) rfl ?_
  refine jx_iinc 2 (v := (x2 + 1)) (lv1 := [(2, .int (x2 + 1)), (1, .int (x1 ||| (jshl 1 (ji S b4 (Int32.toNatClampNeg x2))))), (0, .ref a0)]) dX3_wishedSet_29 rfl rfl (by decide) rfl ?_
  refine jx_goto (tgt := 4) dX3_wishedSet_32 (by decide) ?_
  exact jx_lv [2, 1, 0] rfl h
set_option maxRecDepth 100000 in
set_option maxHeartbeats 4000000 in
theorem T_X3_canMakeChair {E : jEnv} {d : Nat} {Q : Int32 → jM → Prop} {a0 : Nat} {S : jM} (h : jk S a0 = 3 ∧ jFi E mX3_wishedSet d 0 0 [.ref a0] S (fun r3 S2 => jk S2 a0 = 3 ∧ ∃ b5, jr S2 a0 2 = some b5 ∧ (jk S2 b5 = 1 ∧ ((r3 &&& ((ji S2 b5 1) ^^^ (-1))) = 0 → Q 1 S2) ∧ (¬ (r3 &&& ((ji S2 b5 1) ^^^ (-1))) = 0 → Q 0 S2)))) : jFi E mX3_canMakeChair (d + 1) 0 0 [.ref a0] S Q := by
  refine jF_of (by decide) (jle rfl) ?_
  refine jx_lv (lv1 := [(0, .ref a0)]) [0] rfl ?_
  refine jx_aload_n 0 dX3_canMakeChair_0 rfl rfl ?_
  obtain ⟨hk1, h⟩ := h
  refine jx_callVi (M' := mX3_wishedSet) (As := []) jo_X3_wishedSet jc_3 rfl jwM_X3_69 jwN_X3_wishedSet jwX_X3_wishedSet dX3_canMakeChair_1 (jRok_m _ _ _) rfl (jle rfl) ⟨jle rfl, jle rfl⟩ hk1 h (fun r3 S2 h => ?_)
  refine jx_aload_n 0 dX3_canMakeChair_4 rfl rfl ?_
  obtain ⟨hk4, h⟩ := h
  obtain ⟨b5, hb5, h⟩ := h
  refine jx_getr jc_3 (j := 2) (by decide) rfl jwF_X3_28 dX3_canMakeChair_5 hk4 hb5 ?_
  obtain ⟨hk6, h⟩ := h
  refine jx_geti jc_1 (j := 1) (by decide) rfl jwF_X3_73 dX3_canMakeChair_8 hk6 ?_
  refine jx_iconst (v := (-1)) dX3_canMakeChair_11 (by decide) ?_
  refine jx_ixor dX3_canMakeChair_12 ?_
  refine jx_iand dX3_canMakeChair_13 ?_
  refine jx_if_ne (tgt := 21) dX3_canMakeChair_14 (by decide) (fun c7 => ?_) (fun c7 => ?_)
  · replace h := h.2 c7
    refine jx_iconst (v := 0) dX3_canMakeChair_21 (by decide) ?_
    exact jx_iret dX3_canMakeChair_22 rfl (by decide) (jle rfl) (jle rfl) ⟨_, rfl, h⟩
  replace h := h.1 c7
  refine jx_iconst (v := 1) dX3_canMakeChair_17 (by decide) ?_
  refine jx_goto (tgt := 22) dX3_canMakeChair_18 (by decide) ?_
  exact jx_iret dX3_canMakeChair_22 rfl (by decide) (jle rfl) (jle rfl) ⟨_, rfl, h⟩
/-- X3_makeChair at its loop's head 2 -/
abbrev L_X3_makeChair_2 (E : jEnv) (d : Nat) (Q : jM → Prop) (a0 : Nat) (x1 : Int32) (S : jM) : Prop := jX E mX3_makeChair (jRm (d + 1) 0 0) (jZm E (fun r S' => r = none ∧ Q S') 0 0) 2 [(0, .ref a0), (1, .int x1)] [] S 0 0
set_option maxRecDepth 100000 in
set_option maxHeartbeats 4000000 in
theorem T_X3_makeChair {E : jEnv} {d : Nat} {Q : jM → Prop} {a0 : Nat} {S : jM} (h : L_X3_makeChair_2 E d Q a0 0 S) : jFv E mX3_makeChair (d + 1) 0 0 [.ref a0] S Q := by
  refine jF_of (by decide) (jle rfl) ?_
  refine jx_lv (lv1 := [(0, .ref a0)]) [0] rfl ?_
  refine jx_iconst (v := 0) dX3_makeChair_0 (by decide) ?_
  refine jx_istore_n (lv1 := [(1, .int 0), (0, .ref a0)]) dX3_makeChair_1 rfl (by decide) rfl ?_
  exact jx_lv [1, 0] rfl h
set_option maxRecDepth 100000 in
set_option maxHeartbeats 4000000 in
theorem T_X3_makeChair_2 {E : jEnv} {d : Nat} {Q : jM → Prop} {a0 : Nat} {x1 : Int32} {S : jM} (h : jk S a0 = 3 ∧ ((ji S a0 4) ≤ x1 → Q S) ∧ (¬ (ji S a0 4) ≤ x1 → (6 ≤ x1 → Q S) ∧ (¬ 6 ≤ x1 → ∃ b4, jr S a0 2 = some b4 ∧ (∃ b5, jr S a0 3 = some b5 ∧ (jk S b5 = 12 ∧ vp_in x1 (jl S b5) ∧ (jk S b4 = 1 ∧ jFi E mX1_practise d 0 0 [.ref b4, .int (ji S b5 (Int32.toNatClampNeg x1))] S (fun r10 S9 => L_X3_makeChair_2 E d Q a0 (x1 + 1) S9))))))) : L_X3_makeChair_2 E d Q a0 x1 S := by
  show jX E mX3_makeChair (jRm (d + 1) 0 0) (jZm E (fun r S' => r = none ∧ Q S') 0 0) 2 [(0, .ref a0), (1, .int x1)] [] S 0 0
  refine jx_iload_n 1 dX3_makeChair_2 rfl rfl ?_
  refine jx_aload_n 0 dX3_makeChair_3 rfl rfl ?_
  obtain ⟨hk1, h⟩ := h
  refine jx_geti jc_3 (j := 4) (by decide) rfl jwF_X3_58 dX3_makeChair_4 hk1 ?_
  refine jx_icmp_ge (tgt := 36) dX3_makeChair_7 (by decide) (fun c2 => ?_) (fun c2 => ?_)
  · replace h := h.1 c2
    exact jx_vret dX3_makeChair_36 rfl (jle rfl) (jle rfl) ⟨rfl, h⟩
  replace h := h.2 c2
  refine jx_iload_n 1 dX3_makeChair_10 rfl rfl ?_
  refine jx_bipush (v := 6) dX3_makeChair_11 (by decide) ?_
  refine jx_icmp_ge (tgt := 36) dX3_makeChair_13 (by decide) (fun c3 => ?_) (fun c3 => ?_)
  · replace h := h.1 c3
    exact jx_vret dX3_makeChair_36 rfl (jle rfl) (jle rfl) ⟨rfl, h⟩
  replace h := h.2 c3
  refine jx_aload_n 0 dX3_makeChair_16 rfl rfl ?_
  obtain ⟨b4, hb4, h⟩ := h
  refine jx_getr jc_3 (j := 2) (by decide) rfl jwF_X3_28 dX3_makeChair_17 hk1 hb4 ?_
  refine jx_aload_n 0 dX3_makeChair_20 rfl rfl ?_
  obtain ⟨b5, hb5, h⟩ := h
  refine jx_getr jc_3 (j := 3) (by decide) rfl jwF_X3_32 dX3_makeChair_21 hk1 hb5 ?_
  refine jx_iload_n 1 dX3_makeChair_24 rfl rfl ?_
  obtain ⟨hk6, h⟩ := h
  obtain ⟨hi7, h⟩ := h
  refine jx_iald dX3_makeChair_25 hk6 hi7 ?_
  obtain ⟨hk8, h⟩ := h
  refine jx_callVi (M' := mX1_practise) (As := [.int (ji S b5 (Int32.toNatClampNeg x1))]) jo_X1_practise jc_1 rfl jwM_X3_76 jwN_X1_practise jwX_X1_practise dX3_makeChair_26 (jRok_m _ _ _) rfl (jle rfl) ⟨jle rfl, jle rfl⟩ hk8 h (fun r10 S9 h => ?_)
  refine jx_pop dX3_makeChair_29 rfl ?_
  refine jx_iinc 1 (v := (x1 + 1)) (lv1 := [(1, .int (x1 + 1)), (0, .ref a0)]) dX3_makeChair_30 rfl rfl (by decide) rfl ?_
  refine jx_goto (tgt := 2) dX3_makeChair_33 (by decide) ?_
  exact jx_lv [1, 0] rfl h
set_option maxRecDepth 100000 in
set_option maxHeartbeats 4000000 in
theorem T_X3_addText {E : jEnv} {d : Nat} {Q : Int32 → jM → Prop} {a0 : Nat} {a1 : Nat} {S : jM} (h : jk S a0 = 3 ∧ ((jwi (ji S a0 6) 14) = 0 → Q 0 S) ∧ (¬ (jwi (ji S a0 6) 14) = 0 → ∃ b6, jr S a0 5 = some b6 ∧ (jk S b6 = 16 ∧ jk S a1 = 9 ∧ vp_in (ji S a0 6) (jl S b6) ∧ (Q 1 (jput (jputr S b6 (Int32.toNatClampNeg (ji S a0 6)) (some a1)) a0 6 ((ji S a0 6) + 1)))))) : jFi E mX3_addText (d + 1) 0 0 [.ref a0, .ref a1] S Q := by
  refine jF_of (by decide) (jle rfl) ?_
  refine jx_lv (lv1 := [(0, .ref a0), (1, .ref a1)]) [0, 1] rfl ?_
  refine jx_aload_n 0 dX3_addText_0 rfl rfl ?_
  obtain ⟨hk1, h⟩ := h
  refine jx_geti jc_3 (j := 6) (by decide) rfl jwF_X3_62 dX3_addText_1 hk1 ?_
  refine jx_bipush (v := 14) dX3_addText_4 (by decide) ?_
  refine jx_callSNi (M' := mX10_within) (As := [.int (ji S a0 6), .int 14]) (host := "NineMasters") jo_X10_within (by decide) jwS_X10_within dX3_addText_6 (jRok_m _ _ _) rfl (jle rfl) ⟨jle rfl, jle rfl⟩ (c_X10_within (Q := fun v S' => v = (jwi (ji S a0 6) 14) ∧ S = S') ⟨rfl, rfl⟩) (fun r2 S3 hq4 => ?_)
  obtain ⟨rfl, rfl⟩ := hq4
  refine jx_if_ne (tgt := 14) dX3_addText_9 (by decide) (fun c5 => ?_) (fun c5 => ?_)
  · replace h := h.2 c5
    refine jx_aload_n 0 dX3_addText_14 rfl rfl ?_
    obtain ⟨b6, hb6, h⟩ := h
    refine jx_getr jc_3 (j := 5) (by decide) rfl jwF_X3_38 dX3_addText_15 hk1 hb6 ?_
    refine jx_aload_n 0 dX3_addText_18 rfl rfl ?_
    refine jx_geti jc_3 (j := 6) (by decide) rfl jwF_X3_62 dX3_addText_19 hk1 ?_
    refine jx_aload_n 1 dX3_addText_22 rfl rfl ?_
    obtain ⟨hk7, h⟩ := h
    obtain ⟨hk9, h⟩ := h
    obtain ⟨hi8, h⟩ := h
    refine jx_aast dX3_addText_23 hk7 (by decide) (by decide) jc_9 rfl hk9 hi8 ?_
    refine jx_aload_n 0 dX3_addText_24 rfl rfl ?_
    refine jx_dup dX3_addText_25 rfl ?_
    refine jx_geti jc_3 (j := 6) (by decide) rfl jwF_X3_62 dX3_addText_26 hk1 ?_
    refine jx_topi (y := (ji S a0 6)) (by simp [ji_put, ji_row, ji_putr]) ?_
    refine jx_iconst (v := 1) dX3_addText_29 (by decide) ?_
    refine jx_iadd dX3_addText_30 ?_
    refine jx_puti jc_3 (j := 6) (by decide) rfl jwF_X3_62 rfl rfl rfl dX3_addText_31 hk1 ?_
    refine jx_iconst (v := 1) dX3_addText_34 (by decide) ?_
    exact jx_iret dX3_addText_35 rfl (by decide) (jle rfl) (jle rfl) ⟨_, rfl, h⟩
  replace h := h.1 c5
  refine jx_iconst (v := 0) dX3_addText_12 (by decide) ?_
  exact jx_iret dX3_addText_13 rfl (by decide) (jle rfl) (jle rfl) ⟨_, rfl, h⟩
set_option maxRecDepth 100000 in
set_option maxHeartbeats 4000000 in
theorem T_X3_findText {E : jEnv} {d : Nat} {Q : Option Nat → jM → Prop} {a0 : Nat} {x1 : Int32} {S : jM} (h : jk S a0 = 3 ∧ ((jwi x1 (ji S a0 6)) = 0 → Q none S) ∧ (¬ (jwi x1 (ji S a0 6)) = 0 → (14 ≤ x1 → Q none S) ∧ (¬ 14 ≤ x1 → ∃ b7, jr S a0 5 = some b7 ∧ (jk S b7 = 16 ∧ vp_in x1 (jl S b7) ∧ (jr S b7 (Int32.toNatClampNeg x1) = none → Q none S) ∧ (∀ b11, jr S b7 (Int32.toNatClampNeg x1) = some b11 → Q (some b11) S))))) : jFr E mX3_findText (d + 1) 0 0 [.ref a0, .int x1] S Q := by
  refine jF_of (by decide) (jle rfl) ?_
  refine jx_lv (lv1 := [(0, .ref a0), (1, .int x1)]) [0, 1] rfl ?_
  refine jx_iload_n 1 dX3_findText_0 rfl rfl ?_
  refine jx_aload_n 0 dX3_findText_1 rfl rfl ?_
  obtain ⟨hk1, h⟩ := h
  refine jx_geti jc_3 (j := 6) (by decide) rfl jwF_X3_62 dX3_findText_2 hk1 ?_
  refine jx_callSNi (M' := mX10_within) (As := [.int x1, .int (ji S a0 6)]) (host := "NineMasters") jo_X10_within (by decide) jwS_X10_within dX3_findText_5 (jRok_m _ _ _) rfl (jle rfl) ⟨jle rfl, jle rfl⟩ (c_X10_within (Q := fun v S' => v = (jwi x1 (ji S a0 6)) ∧ S = S') ⟨rfl, rfl⟩) (fun r2 S3 hq4 => ?_)
  obtain ⟨rfl, rfl⟩ := hq4
  refine jx_if_eq (tgt := 26) dX3_findText_8 (by decide) (fun c5 => ?_) (fun c5 => ?_)
  · replace h := h.1 c5
    refine jx_null dX3_findText_26 ?_
    exact jx_aret (o := none) dX3_findText_27 rfl (jle rfl) (jle rfl) ⟨_, rfl, h⟩
  replace h := h.2 c5
  refine jx_iload_n 1 dX3_findText_11 rfl rfl ?_
  refine jx_bipush (v := 14) dX3_findText_12 (by decide) ?_
  refine jx_icmp_ge (tgt := 26) dX3_findText_14 (by decide) (fun c6 => ?_) (fun c6 => ?_)
  · replace h := h.1 c6
    refine jx_null dX3_findText_26 ?_
    exact jx_aret (o := none) dX3_findText_27 rfl (jle rfl) (jle rfl) ⟨_, rfl, h⟩
  replace h := h.2 c6
  refine jx_aload_n 0 dX3_findText_17 rfl rfl ?_
  obtain ⟨b7, hb7, h⟩ := h
  refine jx_getr jc_3 (j := 5) (by decide) rfl jwF_X3_38 dX3_findText_18 hk1 hb7 ?_
  refine jx_iload_n 1 dX3_findText_21 rfl rfl ?_
  obtain ⟨hk8, h⟩ := h
  obtain ⟨hi9, h⟩ := h
  rcases hb10 : jr S b7 (Int32.toNatClampNeg x1) with _ | b11
  · replace h := h.1 hb10
    refine jx_aaldN dX3_findText_22 hk8 (by decide) (by decide) hi9 hb10 ?_
    refine jx_goto (tgt := 27) dX3_findText_23 (by decide) ?_
    exact jx_aret (o := none) dX3_findText_27 rfl (jle rfl) (jle rfl) ⟨_, rfl, h⟩
  replace h := h.2 b11 hb10
  refine jx_aaldS dX3_findText_22 hk8 (by decide) (by decide) hi9 hb10 ?_
  refine jx_goto (tgt := 27) dX3_findText_23 (by decide) ?_
  exact jx_aret (o := (some b11)) dX3_findText_27 rfl (jle rfl) (jle rfl) ⟨_, rfl, h⟩
/-- X3_numberOfLaw at its loop's head 4 -/
abbrev L_X3_numberOfLaw_4 (E : jEnv) (d : Nat) (Q : Int32 → jM → Prop) (a0 : Nat) (x1 : Int32) (x2 : Int32) (x3 : Int32) (S : jM) : Prop := jX E mX3_numberOfLaw (jRm d 0 0) (jZm E (fun r S' => ∃ v : Int32, r = some (.int v) ∧ Q v S') 0 0) 4 [(0, .ref a0), (1, .int x1), (2, .int x2), (3, .int x3)] [] S 0 0
set_option maxRecDepth 100000 in
set_option maxHeartbeats 4000000 in
theorem T_X3_numberOfLaw {E : jEnv} {d : Nat} {Q : Int32 → jM → Prop} {a0 : Nat} {x1 : Int32} {S : jM} (h : L_X3_numberOfLaw_4 E d Q a0 x1 (-1) 0 S) : jFi E mX3_numberOfLaw d 0 0 [.ref a0, .int x1] S Q := by
  refine jF_of (by decide) (jle rfl) ?_
  refine jx_lv (lv1 := [(0, .ref a0), (1, .int x1)]) [0, 1] rfl ?_
  refine jx_iconst (v := (-1)) dX3_numberOfLaw_0 (by decide) ?_
  refine jx_istore_n (lv1 := [(2, .int (-1)), (0, .ref a0), (1, .int x1)]) dX3_numberOfLaw_1 rfl (by decide) rfl ?_
  refine jx_iconst (v := 0) dX3_numberOfLaw_2 (by decide) ?_
  refine jx_istore_n (lv1 := [(3, .int 0), (2, .int (-1)), (0, .ref a0), (1, .int x1)]) dX3_numberOfLaw_3 rfl (by decide) rfl ?_
  exact jx_lv [2, 3, 1, 0] rfl h
set_option maxRecDepth 100000 in
set_option maxHeartbeats 4000000 in
theorem T_X3_numberOfLaw_4 {E : jEnv} {d : Nat} {Q : Int32 → jM → Prop} {a0 : Nat} {x1 : Int32} {x2 : Int32} {x3 : Int32} {S : jM} (h : jk S a0 = 3 ∧ ((ji S a0 6) ≤ x3 → Q x2 S) ∧ (¬ (ji S a0 6) ≤ x3 → (14 ≤ x3 → Q x2 S) ∧ (¬ 14 ≤ x3 → ∃ b4, jr S a0 5 = some b4 ∧ (jk S b4 = 16 ∧ vp_in x3 (jl S b4) ∧ (jr S b4 (Int32.toNatClampNeg x3) = none → L_X3_numberOfLaw_4 E d Q a0 x1 x2 (x3 + 1) S) ∧ (∀ b8, jr S b4 (Int32.toNatClampNeg x3) = some b8 → jk S b8 = 9 ∧ ((ji S b8 0) = x1 → L_X3_numberOfLaw_4 E d Q a0 x1 x3 (x3 + 1) S) ∧ (¬ (ji S b8 0) = x1 → L_X3_numberOfLaw_4 E d Q a0 x1 x2 (x3 + 1) S)))))) : L_X3_numberOfLaw_4 E d Q a0 x1 x2 x3 S := by
  show jX E mX3_numberOfLaw (jRm d 0 0) (jZm E (fun r S' => ∃ v : Int32, r = some (.int v) ∧ Q v S') 0 0) 4 [(0, .ref a0), (1, .int x1), (2, .int x2), (3, .int x3)] [] S 0 0
  refine jx_iload_n 3 dX3_numberOfLaw_4 rfl rfl ?_
  refine jx_aload_n 0 dX3_numberOfLaw_5 rfl rfl ?_
  obtain ⟨hk1, h⟩ := h
  refine jx_geti jc_3 (j := 6) (by decide) rfl jwF_X3_62 dX3_numberOfLaw_6 hk1 ?_
  refine jx_icmp_ge (tgt := 48) dX3_numberOfLaw_9 (by decide) (fun c2 => ?_) (fun c2 => ?_)
  · replace h := h.1 c2
    refine jx_iload_n 2 dX3_numberOfLaw_48 rfl rfl ?_
    exact jx_iret dX3_numberOfLaw_49 rfl rfl (jle rfl) (jle rfl) ⟨_, rfl, h⟩
  replace h := h.2 c2
  refine jx_iload_n 3 dX3_numberOfLaw_12 rfl rfl ?_
  refine jx_bipush (v := 14) dX3_numberOfLaw_13 (by decide) ?_
  refine jx_icmp_ge (tgt := 48) dX3_numberOfLaw_15 (by decide) (fun c3 => ?_) (fun c3 => ?_)
  · replace h := h.1 c3
    refine jx_iload_n 2 dX3_numberOfLaw_48 rfl rfl ?_
    exact jx_iret dX3_numberOfLaw_49 rfl rfl (jle rfl) (jle rfl) ⟨_, rfl, h⟩
  replace h := h.2 c3
  refine jx_aload_n 0 dX3_numberOfLaw_18 rfl rfl ?_
  obtain ⟨b4, hb4, h⟩ := h
  refine jx_getr jc_3 (j := 5) (by decide) rfl jwF_X3_38 dX3_numberOfLaw_19 hk1 hb4 ?_
  refine jx_iload_n 3 dX3_numberOfLaw_22 rfl rfl ?_
  obtain ⟨hk5, h⟩ := h
  obtain ⟨hi6, h⟩ := h
  rcases hb7 : jr S b4 (Int32.toNatClampNeg x3) with _ | b8
  · replace h := h.1 hb7
    refine jx_aaldN dX3_numberOfLaw_23 hk5 (by decide) (by decide) hi6 hb7 ?_
    refine jx_ifnullN (tgt := 42) dX3_numberOfLaw_24 (by decide) ?_
    refine jx_iinc 3 (v := (x3 + 1)) (lv1 := [(3, .int (x3 + 1)), (0, .ref a0), (1, .int x1), (2, .int x2)]) dX3_numberOfLaw_42 rfl rfl (by decide) rfl ?_
    refine jx_goto (tgt := 4) dX3_numberOfLaw_45 (by decide) ?_
    exact jx_lv [1, 2, 3, 0] rfl h
  replace h := h.2 b8 hb7
  refine jx_aaldS dX3_numberOfLaw_23 hk5 (by decide) (by decide) hi6 hb7 ?_
  refine jx_ifnull dX3_numberOfLaw_24 ?_
  refine jx_aload_n 0 dX3_numberOfLaw_27 rfl rfl ?_
  refine jx_getr jc_3 (j := 5) (by decide) rfl jwF_X3_38 dX3_numberOfLaw_28 hk1 hb4 ?_
  refine jx_iload_n 3 dX3_numberOfLaw_31 rfl rfl ?_
  refine jx_aaldS dX3_numberOfLaw_32 hk5 (by decide) (by decide) hi6 hb7 ?_
  obtain ⟨hk9, h⟩ := h
  refine jx_geti jc_9 (j := 0) (by decide) rfl jwF_X3_80 dX3_numberOfLaw_33 hk9 ?_
  refine jx_iload_n 1 dX3_numberOfLaw_36 rfl rfl ?_
  refine jx_icmp_ne (tgt := 42) dX3_numberOfLaw_37 (by decide) (fun c10 => ?_) (fun c10 => ?_)
  · replace h := h.2 c10
    refine jx_iinc 3 (v := (x3 + 1)) (lv1 := [(3, .int (x3 + 1)), (0, .ref a0), (1, .int x1), (2, .int x2)]) dX3_numberOfLaw_42 rfl rfl (by decide) rfl ?_
    refine jx_goto (tgt := 4) dX3_numberOfLaw_45 (by decide) ?_
    exact jx_lv [1, 2, 3, 0] rfl h
  replace h := h.1 c10
  refine jx_iload_n 3 dX3_numberOfLaw_40 rfl rfl ?_
  refine jx_istore_n (lv1 := [(2, .int x3), (0, .ref a0), (1, .int x1), (3, .int x3)]) dX3_numberOfLaw_41 rfl (by decide) rfl ?_
  refine jx_iinc 3 (v := (x3 + 1)) (lv1 := [(3, .int (x3 + 1)), (2, .int x3), (0, .ref a0), (1, .int x1)]) dX3_numberOfLaw_42 rfl rfl (by decide) rfl ?_
  refine jx_goto (tgt := 4) dX3_numberOfLaw_45 (by decide) ?_
  exact jx_lv [2, 3, 1, 0] rfl h
set_option maxRecDepth 100000 in
set_option maxHeartbeats 4000000 in
theorem T_X3_daysTaken {E : jEnv} {d : Nat} {Q : Int32 → jM → Prop} {a0 : Nat} {a1 : Nat} {x2 : Int32} {S : jM} (h : jk S a0 = 3 ∧ jFi E mX3_numberOfLaw d 0 0 [.ref a0, .int 0] S (fun r3 S2 => jk S2 a0 = 3 ∧ jFr E mX3_findText d 0 0 [.ref a0, .int r3] S2 (fun o6 S5 => (o6 = none → jk S5 a1 = 2 ∧ jFi E mX2_daysFrom d 0 0 [.ref a1, .int (jmax 1 (jmin 99 (3 + x2)))] S5 (fun r10 S9 => Q r10 S9)) ∧ (∀ b7, o6 = some b7 → jk S5 a1 = 2 ∧ jk S5 b7 = 9 ∧ jFi E mX9_workOut d 0 0 [.ref b7, .int x2, .int (ji S5 a1 2), .int (ji S5 a1 5)] S5 (fun r14 S13 => jk S13 a1 = 2 ∧ jFi E mX2_daysFrom d 0 0 [.ref a1, .int (jmax 1 (jmin 99 r14))] S13 (fun r17 S16 => Q r17 S16)))))) : jFi E mX3_daysTaken (d + 1) 0 0 [.ref a0, .ref a1, .int x2] S Q := by
  refine jF_of (by decide) (jle rfl) ?_
  refine jx_lv (lv1 := [(0, .ref a0), (1, .ref a1), (2, .int x2)]) [0, 1, 2] rfl ?_
  refine jx_aload_n 0 dX3_daysTaken_0 rfl rfl ?_
  refine jx_aload_n 0 dX3_daysTaken_1 rfl rfl ?_
  refine jx_iconst (v := 0) dX3_daysTaken_2 (by decide) ?_
  obtain ⟨hk1, h⟩ := h
  refine jx_callVi (M' := mX3_numberOfLaw) (As := [.int 0]) jo_X3_numberOfLaw jc_3 rfl jwM_X3_83 jwN_X3_numberOfLaw jwX_X3_numberOfLaw dX3_daysTaken_3 (jRok_m _ _ _) rfl (jle rfl) ⟨jle rfl, jle rfl⟩ hk1 h (fun r3 S2 h => ?_)
  obtain ⟨hk4, h⟩ := h
  refine jx_callVr (M' := mX3_findText) (As := [.int r3]) jo_X3_findText jc_3 rfl jwM_X3_87 jwN_X3_findText jwX_X3_findText dX3_daysTaken_6 (jRok_m _ _ _) rfl (jle rfl) ⟨jle rfl, jle rfl⟩ hk4 h (fun o6 S5 h => ?_)
  rcases o6 with _ | b7
  · replace h := h.1 rfl
    refine jx_astore_nN (lv1 := [(3, .null), (0, .ref a0), (1, .ref a1), (2, .int x2)]) dX3_daysTaken_9 rfl (by decide) rfl ?_
    refine jx_aload_nN 0 dX3_daysTaken_10 rfl rfl ?_
    refine jx_ifnonnullN dX3_daysTaken_11 ?_
    refine jx_iconst (v := 3) dX3_daysTaken_14 (by decide) ?_
    refine jx_iload_n 3 dX3_daysTaken_15 rfl rfl ?_
    refine jx_iadd dX3_daysTaken_16 ?_
    refine jx_goto (tgt := 33) dX3_daysTaken_17 (by decide) ?_
    refine jx_istore (lv1 := [(4, .int (3 + x2)), (3, .null), (0, .ref a0), (1, .ref a1), (2, .int x2)]) dX3_daysTaken_33 (by decide) rfl ?_
    refine jx_aload_n 3 dX3_daysTaken_35 rfl rfl ?_
    refine jx_iconst (v := 1) dX3_daysTaken_36 (by decide) ?_
    refine jx_bipush (v := 99) dX3_daysTaken_37 (by decide) ?_
    refine jx_iload 0 dX3_daysTaken_39 rfl ?_
    refine jx_min jwM_X3_103 jwS_min jwZ_J9 jwO_min dX3_daysTaken_41 (jRok_m _ _ _) (jle rfl) ⟨Nat.zero_le _, Nat.zero_le _⟩ ?_
    refine jx_max jwM_X3_109 jwS_max jwZ_J9 jwO_max dX3_daysTaken_44 (jRok_m _ _ _) (jle rfl) ⟨Nat.zero_le _, Nat.zero_le _⟩ ?_
    obtain ⟨hk8, h⟩ := h
    refine jx_callVi (M' := mX2_daysFrom) (As := [.int (jmax 1 (jmin 99 (3 + x2)))]) jo_X2_daysFrom jc_2 rfl jwM_X3_112 jwN_X2_daysFrom jwX_X2_daysFrom dX3_daysTaken_47 (jRok_m _ _ _) rfl (jle rfl) ⟨jle rfl, jle rfl⟩ hk8 h (fun r10 S9 h => ?_)
    exact jx_iret dX3_daysTaken_50 rfl rfl (jle rfl) (jle rfl) ⟨_, rfl, h⟩
  replace h := h.2 b7 rfl
  refine jx_astore_n (lv1 := [(3, .ref b7), (0, .ref a0), (1, .ref a1), (2, .int x2)]) dX3_daysTaken_9 rfl (by decide) rfl ?_
  refine jx_aload_n 0 dX3_daysTaken_10 rfl rfl ?_
  refine jx_ifnonnull (tgt := 20) dX3_daysTaken_11 (by decide) ?_
  refine jx_aload_n 0 dX3_daysTaken_20 rfl rfl ?_
  refine jx_iload_n 3 dX3_daysTaken_21 rfl rfl ?_
  refine jx_aload_n 2 dX3_daysTaken_22 rfl rfl ?_
  obtain ⟨hk11, h⟩ := h
  refine jx_geti jc_2 (j := 2) (by decide) rfl jwF_X3_91 dX3_daysTaken_23 hk11 ?_
  refine jx_aload_n 2 dX3_daysTaken_26 rfl rfl ?_
  refine jx_geti jc_2 (j := 5) (by decide) rfl jwF_X3_96 dX3_daysTaken_27 hk11 ?_
  obtain ⟨hk12, h⟩ := h
  refine jx_callVi (M' := mX9_workOut) (As := [.int x2, .int (ji S5 a1 2), .int (ji S5 a1 5)]) jo_X9_workOut jc_9 rfl jwM_X3_99 jwN_X9_workOut jwX_X9_workOut dX3_daysTaken_30 (jRok_m _ _ _) rfl (jle rfl) ⟨jle rfl, jle rfl⟩ hk12 h (fun r14 S13 h => ?_)
  refine jx_istore (lv1 := [(4, .int r14), (3, .ref b7), (0, .ref a0), (1, .ref a1), (2, .int x2)]) dX3_daysTaken_33 (by decide) rfl ?_
  refine jx_aload_n 3 dX3_daysTaken_35 rfl rfl ?_
  refine jx_iconst (v := 1) dX3_daysTaken_36 (by decide) ?_
  refine jx_bipush (v := 99) dX3_daysTaken_37 (by decide) ?_
  refine jx_iload 0 dX3_daysTaken_39 rfl ?_
  refine jx_min jwM_X3_103 jwS_min jwZ_J9 jwO_min dX3_daysTaken_41 (jRok_m _ _ _) (jle rfl) ⟨Nat.zero_le _, Nat.zero_le _⟩ ?_
  refine jx_max jwM_X3_109 jwS_max jwZ_J9 jwO_max dX3_daysTaken_44 (jRok_m _ _ _) (jle rfl) ⟨Nat.zero_le _, Nat.zero_le _⟩ ?_
  obtain ⟨hk15, h⟩ := h
  refine jx_callVi (M' := mX2_daysFrom) (As := [.int (jmax 1 (jmin 99 r14))]) jo_X2_daysFrom jc_2 rfl jwM_X3_112 jwN_X2_daysFrom jwX_X2_daysFrom dX3_daysTaken_47 (jRok_m _ _ _) rfl (jle rfl) ⟨jle rfl, jle rfl⟩ hk15 h (fun r17 S16 h => ?_)
  exact jx_iret dX3_daysTaken_50 rfl rfl (jle rfl) (jle rfl) ⟨_, rfl, h⟩
set_option maxRecDepth 100000 in
set_option maxHeartbeats 4000000 in
theorem T_X3_fameOf {E : jEnv} {d : Nat} {Q : Int32 → jM → Prop} {a0 : Nat} {a1 : Nat} {S : jM} (h : jk S a0 = 3 ∧ jFi E mX3_numberOfLaw d 0 0 [.ref a0, .int 1] S (fun r3 S2 => jk S2 a0 = 3 ∧ jFr E mX3_findText d 0 0 [.ref a0, .int r3] S2 (fun o6 S5 => (o6 = none → jk S5 a1 = 2 ∧ Q (ji S5 a1 4) S5) ∧ (∀ b7, o6 = some b7 → jk S5 a1 = 2 ∧ jk S5 b7 = 9 ∧ jFi E mX9_workOut d 0 0 [.ref b7, .int (ji S5 a1 4), .int (ji S5 a1 5), .int 0] S5 (fun r12 S11 => Q r12 S11))))) : jFi E mX3_fameOf (d + 1) 0 0 [.ref a0, .ref a1] S Q := by
  refine jF_of (by decide) (jle rfl) ?_
  refine jx_lv (lv1 := [(0, .ref a0), (1, .ref a1)]) [0, 1] rfl ?_
  refine jx_aload_n 0 dX3_fameOf_0 rfl rfl ?_
  refine jx_aload_n 0 dX3_fameOf_1 rfl rfl ?_
  refine jx_iconst (v := 1) dX3_fameOf_2 (by decide) ?_
  obtain ⟨hk1, h⟩ := h
  refine jx_callVi (M' := mX3_numberOfLaw) (As := [.int 1]) jo_X3_numberOfLaw jc_3 rfl jwM_X3_83 jwN_X3_numberOfLaw jwX_X3_numberOfLaw dX3_fameOf_3 (jRok_m _ _ _) rfl (jle rfl) ⟨jle rfl, jle rfl⟩ hk1 h (fun r3 S2 h => ?_)
  obtain ⟨hk4, h⟩ := h
  refine jx_callVr (M' := mX3_findText) (As := [.int r3]) jo_X3_findText jc_3 rfl jwM_X3_87 jwN_X3_findText jwX_X3_findText dX3_fameOf_6 (jRok_m _ _ _) rfl (jle rfl) ⟨jle rfl, jle rfl⟩ hk4 h (fun o6 S5 h => ?_)
  rcases o6 with _ | b7
  · replace h := h.1 rfl
    refine jx_astore_nN (lv1 := [(2, .null), (0, .ref a0), (1, .ref a1)]) dX3_fameOf_9 rfl (by decide) rfl ?_
    refine jx_aload_nN 0 dX3_fameOf_10 rfl rfl ?_
    refine jx_ifnonnullN dX3_fameOf_11 ?_
    refine jx_aload_n 2 dX3_fameOf_14 rfl rfl ?_
    obtain ⟨hk8, h⟩ := h
    refine jx_geti jc_2 (j := 4) (by decide) rfl jwF_X3_115 dX3_fameOf_15 hk8 ?_
    refine jx_goto (tgt := 34) dX3_fameOf_18 (by decide) ?_
    exact jx_iret dX3_fameOf_34 rfl rfl (jle rfl) (jle rfl) ⟨_, rfl, h⟩
  replace h := h.2 b7 rfl
  refine jx_astore_n (lv1 := [(2, .ref b7), (0, .ref a0), (1, .ref a1)]) dX3_fameOf_9 rfl (by decide) rfl ?_
  refine jx_aload_n 0 dX3_fameOf_10 rfl rfl ?_
  refine jx_ifnonnull (tgt := 21) dX3_fameOf_11 (by decide) ?_
  refine jx_aload_n 0 dX3_fameOf_21 rfl rfl ?_
  refine jx_aload_n 2 dX3_fameOf_22 rfl rfl ?_
  obtain ⟨hk9, h⟩ := h
  refine jx_geti jc_2 (j := 4) (by decide) rfl jwF_X3_115 dX3_fameOf_23 hk9 ?_
  refine jx_aload_n 2 dX3_fameOf_26 rfl rfl ?_
  refine jx_geti jc_2 (j := 5) (by decide) rfl jwF_X3_96 dX3_fameOf_27 hk9 ?_
  refine jx_iconst (v := 0) dX3_fameOf_30 (by decide) ?_
  obtain ⟨hk10, h⟩ := h
  refine jx_callVi (M' := mX9_workOut) (As := [.int (ji S5 a1 4), .int (ji S5 a1 5), .int 0]) jo_X9_workOut jc_9 rfl jwM_X3_99 jwN_X9_workOut jwX_X9_workOut dX3_fameOf_31 (jRok_m _ _ _) rfl (jle rfl) ⟨jle rfl, jle rfl⟩ hk10 h (fun r12 S11 h => ?_)
  exact jx_iret dX3_fameOf_34 rfl rfl (jle rfl) (jle rfl) ⟨_, rfl, h⟩
set_option maxRecDepth 100000 in
set_option maxHeartbeats 4000000 in
theorem T_X3_fineNow {E : jEnv} {d : Nat} {Q : Int32 → jM → Prop} {a0 : Nat} {S : jM} (h : jk S a0 = 3 ∧ jFi E mX3_numberOfLaw d 0 0 [.ref a0, .int 2] S (fun r3 S2 => jk S2 a0 = 3 ∧ jFr E mX3_findText d 0 0 [.ref a0, .int r3] S2 (fun o6 S5 => (o6 = none → jk S5 a0 = 3 ∧ ∃ b9, jr S5 a0 2 = some b9 ∧ (jk S5 b9 = 1 ∧ Q (ji S5 b9 2) S5)) ∧ (∀ b7, o6 = some b7 → jk S5 a0 = 3 ∧ ∃ b12, jr S5 a0 2 = some b12 ∧ (jk S5 b12 = 1 ∧ jk S5 b7 = 9 ∧ jFi E mX9_workOut d 0 0 [.ref b7, .int (ji S5 b12 2), .int (ji S5 b12 4), .int 0] S5 (fun r16 S15 => Q r16 S15)))))) : jFi E mX3_fineNow (d + 1) 0 0 [.ref a0] S Q := by
  refine jF_of (by decide) (jle rfl) ?_
  refine jx_lv (lv1 := [(0, .ref a0)]) [0] rfl ?_
  refine jx_aload_n 0 dX3_fineNow_0 rfl rfl ?_
  refine jx_aload_n 0 dX3_fineNow_1 rfl rfl ?_
  refine jx_iconst (v := 2) dX3_fineNow_2 (by decide) ?_
  obtain ⟨hk1, h⟩ := h
  refine jx_callVi (M' := mX3_numberOfLaw) (As := [.int 2]) jo_X3_numberOfLaw jc_3 rfl jwM_X3_83 jwN_X3_numberOfLaw jwX_X3_numberOfLaw dX3_fineNow_3 (jRok_m _ _ _) rfl (jle rfl) ⟨jle rfl, jle rfl⟩ hk1 h (fun r3 S2 h => ?_)
  obtain ⟨hk4, h⟩ := h
  refine jx_callVr (M' := mX3_findText) (As := [.int r3]) jo_X3_findText jc_3 rfl jwM_X3_87 jwN_X3_findText jwX_X3_findText dX3_fineNow_6 (jRok_m _ _ _) rfl (jle rfl) ⟨jle rfl, jle rfl⟩ hk4 h (fun o6 S5 h => ?_)
  rcases o6 with _ | b7
  · replace h := h.1 rfl
    refine jx_astore_nN (lv1 := [(1, .null), (0, .ref a0)]) dX3_fineNow_9 rfl (by decide) rfl ?_
    refine jx_aload_nN 0 dX3_fineNow_10 rfl rfl ?_
    refine jx_ifnonnullN dX3_fineNow_11 ?_
    refine jx_aload_n 1 dX3_fineNow_14 rfl rfl ?_
    obtain ⟨hk8, h⟩ := h
    obtain ⟨b9, hb9, h⟩ := h
    refine jx_getr jc_3 (j := 2) (by decide) rfl jwF_X3_28 dX3_fineNow_15 hk8 hb9 ?_
    obtain ⟨hk10, h⟩ := h
    refine jx_geti jc_1 (j := 2) (by decide) rfl jwF_X3_118 dX3_fineNow_18 hk10 ?_
    refine jx_goto (tgt := 43) dX3_fineNow_21 (by decide) ?_
    exact jx_iret dX3_fineNow_43 rfl rfl (jle rfl) (jle rfl) ⟨_, rfl, h⟩
  replace h := h.2 b7 rfl
  refine jx_astore_n (lv1 := [(1, .ref b7), (0, .ref a0)]) dX3_fineNow_9 rfl (by decide) rfl ?_
  refine jx_aload_n 0 dX3_fineNow_10 rfl rfl ?_
  refine jx_ifnonnull (tgt := 24) dX3_fineNow_11 (by decide) ?_
  refine jx_aload_n 0 dX3_fineNow_24 rfl rfl ?_
  refine jx_aload_n 1 dX3_fineNow_25 rfl rfl ?_
  obtain ⟨hk11, h⟩ := h
  obtain ⟨b12, hb12, h⟩ := h
  refine jx_getr jc_3 (j := 2) (by decide) rfl jwF_X3_28 dX3_fineNow_26 hk11 hb12 ?_
  obtain ⟨hk13, h⟩ := h
  refine jx_geti jc_1 (j := 2) (by decide) rfl jwF_X3_118 dX3_fineNow_29 hk13 ?_
  refine jx_aload_n 1 dX3_fineNow_32 rfl rfl ?_
  refine jx_getr jc_3 (j := 2) (by decide) rfl jwF_X3_28 dX3_fineNow_33 hk11 hb12 ?_
  refine jx_geti jc_1 (j := 4) (by decide) rfl jwF_X3_121 dX3_fineNow_36 hk13 ?_
  refine jx_iconst (v := 0) dX3_fineNow_39 (by decide) ?_
  obtain ⟨hk14, h⟩ := h
  refine jx_callVi (M' := mX9_workOut) (As := [.int (ji S5 b12 2), .int (ji S5 b12 4), .int 0]) jo_X9_workOut jc_9 rfl jwM_X3_99 jwN_X9_workOut jwX_X9_workOut dX3_fineNow_40 (jRok_m _ _ _) rfl (jle rfl) ⟨jle rfl, jle rfl⟩ hk14 h (fun r16 S15 h => ?_)
  exact jx_iret dX3_fineNow_43 rfl rfl (jle rfl) (jle rfl) ⟨_, rfl, h⟩
/-- X3_waysToMasters at its loop's head 4 -/
abbrev L_X3_waysToMasters_4 (E : jEnv) (d : Nat) (Q : Int32 → jM → Prop) (a0 : Nat) (x1 : Int32) (x2 : Int32) (x3 : Int32) (S : jM) : Prop := jX E mX3_waysToMasters (jRm (d + 1) 0 0) (jZm E (fun r S' => ∃ v : Int32, r = some (.int v) ∧ Q v S') 0 0) 4 [(0, .ref a0), (1, .int x1), (2, .int x2), (3, .int x3)] [] S 0 0
set_option maxRecDepth 100000 in
set_option maxHeartbeats 4000000 in
theorem T_X3_waysToMasters {E : jEnv} {d : Nat} {Q : Int32 → jM → Prop} {a0 : Nat} {x1 : Int32} {S : jM} (h : L_X3_waysToMasters_4 E d Q a0 x1 0 0 S) : jFi E mX3_waysToMasters (d + 1) 0 0 [.ref a0, .int x1] S Q := by
  refine jF_of (by decide) (jle rfl) ?_
  refine jx_lv (lv1 := [(0, .ref a0), (1, .int x1)]) [0, 1] rfl ?_
  refine jx_iconst (v := 0) dX3_waysToMasters_0 (by decide) ?_
  refine jx_istore_n (lv1 := [(2, .int 0), (0, .ref a0), (1, .int x1)]) dX3_waysToMasters_1 rfl (by decide) rfl ?_
  refine jx_iconst (v := 0) dX3_waysToMasters_2 (by decide) ?_
  refine jx_istore_n (lv1 := [(3, .int 0), (2, .int 0), (0, .ref a0), (1, .int x1)]) dX3_waysToMasters_3 rfl (by decide) rfl ?_
  exact jx_lv [2, 3, 1, 0] rfl h
set_option maxRecDepth 100000 in
set_option maxHeartbeats 4000000 in
theorem T_X3_waysToMasters_4 {E : jEnv} {d : Nat} {Q : Int32 → jM → Prop} {a0 : Nat} {x1 : Int32} {x2 : Int32} {x3 : Int32} {S : jM} (h : jk S a0 = 3 ∧ ∃ b2, jr S a0 0 = some b2 ∧ (jk S b2 = 0 ∧ ((ji S b2 1) ≤ x3 → Q x2 S) ∧ (¬ (ji S b2 1) ≤ x3 → jFr E mX0_find d 0 0 [.ref b2, .int x3] S (fun o6 S5 => (o6 = none → L_X3_waysToMasters_4 E d Q a0 x1 (x2 + 0) (x3 + 1) S5) ∧ (∀ b7, o6 = some b7 → jk S5 b7 = 2 ∧ ((ji S5 b7 6) = 0 → jk S5 a0 = 3 ∧ ∃ b11, jr S5 a0 1 = some b11 ∧ (jk S5 b11 = 4 ∧ jFi E mX4_fewest d 0 0 [.ref b11, .int x1, .int (ji S5 b7 1)] S5 (fun r14 S13 => L_X3_waysToMasters_4 E d Q a0 x1 (x2 + r14) (x3 + 1) S13))) ∧ (¬ (ji S5 b7 6) = 0 → L_X3_waysToMasters_4 E d Q a0 x1 (x2 + 0) (x3 + 1) S5)))))) : L_X3_waysToMasters_4 E d Q a0 x1 x2 x3 S := by
  show jX E mX3_waysToMasters (jRm (d + 1) 0 0) (jZm E (fun r S' => ∃ v : Int32, r = some (.int v) ∧ Q v S') 0 0) 4 [(0, .ref a0), (1, .int x1), (2, .int x2), (3, .int x3)] [] S 0 0
  refine jx_iload_n 3 dX3_waysToMasters_4 rfl rfl ?_
  refine jx_aload_n 0 dX3_waysToMasters_5 rfl rfl ?_
  obtain ⟨hk1, h⟩ := h
  obtain ⟨b2, hb2, h⟩ := h
  refine jx_getr jc_3 (j := 0) (by decide) rfl jwF_X3_12 dX3_waysToMasters_6 hk1 hb2 ?_
  obtain ⟨hk3, h⟩ := h
  refine jx_geti jc_0 (j := 1) (by decide) rfl jwF_X3_124 dX3_waysToMasters_9 hk3 ?_
  refine jx_icmp_ge (tgt := 64) dX3_waysToMasters_12 (by decide) (fun c4 => ?_) (fun c4 => ?_)
  · replace h := h.1 c4
    refine jx_iload_n 2 dX3_waysToMasters_64 rfl rfl ?_
    exact jx_iret dX3_waysToMasters_65 rfl rfl (jle rfl) (jle rfl) ⟨_, rfl, h⟩
  replace h := h.2 c4
  refine jx_aload_n 0 dX3_waysToMasters_15 rfl rfl ?_
  refine jx_getr jc_3 (j := 0) (by decide) rfl jwF_X3_12 dX3_waysToMasters_16 hk1 hb2 ?_
  refine jx_iload_n 3 dX3_waysToMasters_19 rfl rfl ?_
  refine jx_callVr (M' := mX0_find) (As := [.int x3]) jo_X0_find jc_0 rfl jwM_X3_127 jwN_X0_find jwX_X0_find dX3_waysToMasters_20 (jRok_m _ _ _) rfl (jle rfl) ⟨jle rfl, jle rfl⟩ hk3 h (fun o6 S5 h => ?_)
  rcases o6 with _ | b7
  · replace h := h.1 rfl
    refine jx_astoreN (lv1 := [(4, .null), (0, .ref a0), (1, .int x1), (2, .int x2), (3, .int x3)]) dX3_waysToMasters_23 (by decide) rfl ?_
    refine jx_iload_n 3 dX3_waysToMasters_25 rfl rfl ?_
    refine jx_aloadN 0 dX3_waysToMasters_26 rfl ?_
    refine jx_ifnullN (tgt := 39) dX3_waysToMasters_28 (by decide) ?_
    refine jx_iconst (v := 0) dX3_waysToMasters_39 (by decide) ?_
    refine jx_goto (tgt := 56) dX3_waysToMasters_40 (by decide) ?_
    refine jx_iadd dX3_waysToMasters_56 ?_
    refine jx_istore_n (lv1 := [(2, .int (x2 + 0)), (4, .null), (0, .ref a0), (1, .int x1), (3, .int x3)]) dX3_waysToMasters_57 rfl (by decide) rfl ?_
    refine jx_iinc 4 (v := (x3 + 1)) (lv1 := [(3, .int (x3 + 1)), (2, .int (x2 + 0)), (4, .null), (0, .ref a0), (1, .int x1)]) dX3_waysToMasters_58 rfl rfl (by decide) rfl ?_
    refine jx_goto (tgt := 4) dX3_waysToMasters_61 (by decide) ?_
    exact jx_lv [3, 4, 1, 0] rfl h
  replace h := h.2 b7 rfl
  refine jx_astore (lv1 := [(4, .ref b7), (0, .ref a0), (1, .int x1), (2, .int x2), (3, .int x3)]) dX3_waysToMasters_23 (by decide) rfl ?_
  refine jx_iload_n 3 dX3_waysToMasters_25 rfl rfl ?_
  refine jx_aload 0 dX3_waysToMasters_26 rfl ?_
  refine jx_ifnull dX3_waysToMasters_28 ?_
  refine jx_aload 0 dX3_waysToMasters_31 rfl ?_
  obtain ⟨hk8, h⟩ := h
  refine jx_geti jc_2 (j := 6) (by decide) rfl jwF_X3_131 dX3_waysToMasters_33 hk8 ?_
  refine jx_if_eq (tgt := 43) dX3_waysToMasters_36 (by decide) (fun c9 => ?_) (fun c9 => ?_)
  · replace h := h.1 c9
    refine jx_aload_n 1 dX3_waysToMasters_43 rfl rfl ?_
    obtain ⟨hk10, h⟩ := h
    obtain ⟨b11, hb11, h⟩ := h
    refine jx_getr jc_3 (j := 1) (by decide) rfl jwF_X3_21 dX3_waysToMasters_44 hk10 hb11 ?_
    refine jx_iload_n 2 dX3_waysToMasters_47 rfl rfl ?_
    refine jx_aload 0 dX3_waysToMasters_48 rfl ?_
    refine jx_geti jc_2 (j := 1) (by decide) rfl jwF_X3_135 dX3_waysToMasters_50 hk8 ?_
    obtain ⟨hk12, h⟩ := h
    refine jx_callVi (M' := mX4_fewest) (As := [.int x1, .int (ji S5 b7 1)]) jo_X4_fewest jc_4 rfl jwM_X3_138 jwN_X4_fewest jwX_X4_fewest dX3_waysToMasters_53 (jRok_m _ _ _) rfl (jle rfl) ⟨jle rfl, jle rfl⟩ hk12 h (fun r14 S13 h => ?_)
    refine jx_iadd dX3_waysToMasters_56 ?_
    refine jx_istore_n (lv1 := [(2, .int (x2 + r14)), (4, .ref b7), (0, .ref a0), (1, .int x1), (3, .int x3)]) dX3_waysToMasters_57 rfl (by decide) rfl ?_
    refine jx_iinc 4 (v := (x3 + 1)) (lv1 := [(3, .int (x3 + 1)), (2, .int (x2 + r14)), (4, .ref b7), (0, .ref a0), (1, .int x1)]) dX3_waysToMasters_58 rfl rfl (by decide) rfl ?_
    refine jx_goto (tgt := 4) dX3_waysToMasters_61 (by decide) ?_
    exact jx_lv [3, 4, 1, 0] rfl h
  replace h := h.2 c9
  refine jx_iconst (v := 0) dX3_waysToMasters_39 (by decide) ?_
  refine jx_goto (tgt := 56) dX3_waysToMasters_40 (by decide) ?_
  refine jx_iadd dX3_waysToMasters_56 ?_
  refine jx_istore_n (lv1 := [(2, .int (x2 + 0)), (4, .ref b7), (0, .ref a0), (1, .int x1), (3, .int x3)]) dX3_waysToMasters_57 rfl (by decide) rfl ?_
  refine jx_iinc 4 (v := (x3 + 1)) (lv1 := [(3, .int (x3 + 1)), (2, .int (x2 + 0)), (4, .ref b7), (0, .ref a0), (1, .int x1)]) dX3_waysToMasters_58 rfl rfl (by decide) rfl ?_
  refine jx_goto (tgt := 4) dX3_waysToMasters_61 (by decide) ?_
  exact jx_lv [3, 4, 1, 0] rfl h
/-- X3_apart at its loop's head 5 -/
abbrev L_X3_apart_5 (E : jEnv) (d : Nat) (Q : Int32 → jM → Prop) (a0 : Nat) (a1 : Nat) (a2 : Nat) (x3 : Int32) (x4 : Int32) (S : jM) : Prop := jX E mX3_apart (jRm (d + 1) 0 0) (jZm E (fun r S' => ∃ v : Int32, r = some (.int v) ∧ Q v S') 0 0) 5 [(0, .ref a0), (1, .ref a1), (2, .ref a2), (3, .int x3), (4, .int x4)] [] S 0 0
set_option maxRecDepth 100000 in
set_option maxHeartbeats 4000000 in
theorem T_X3_apart {E : jEnv} {d : Nat} {Q : Int32 → jM → Prop} {a0 : Nat} {a1 : Nat} {a2 : Nat} {S : jM} (h : L_X3_apart_5 E d Q a0 a1 a2 0 0 S) : jFi E mX3_apart (d + 1) 0 0 [.ref a0, .ref a1, .ref a2] S Q := by
  refine jF_of (by decide) (jle rfl) ?_
  refine jx_lv (lv1 := [(0, .ref a0), (1, .ref a1), (2, .ref a2)]) [0, 1, 2] rfl ?_
  refine jx_iconst (v := 0) dX3_apart_0 (by decide) ?_
  refine jx_istore_n (lv1 := [(3, .int 0), (0, .ref a0), (1, .ref a1), (2, .ref a2)]) dX3_apart_1 rfl (by decide) rfl ?_
  refine jx_iconst (v := 0) dX3_apart_2 (by decide) ?_
  refine jx_istore (lv1 := [(4, .int 0), (3, .int 0), (0, .ref a0), (1, .ref a1), (2, .ref a2)]) dX3_apart_3 (by decide) rfl ?_
  exact jx_lv [2, 3, 4, 1, 0] rfl h
set_option maxRecDepth 100000 in
set_option maxHeartbeats 4000000 in
theorem T_X3_apart_5 {E : jEnv} {d : Nat} {Q : Int32 → jM → Prop} {a0 : Nat} {a1 : Nat} {a2 : Nat} {x3 : Int32} {x4 : Int32} {S : jM} (h : jk S a2 = 6 ∧ ((ji S a2 1) ≤ x4 → Q x3 S) ∧ (¬ (ji S a2 1) ≤ x4 → jFi E mX6_isNumber d 0 0 [.ref a2, .int x4] S (fun r4 S3 => (r4 = 0 → L_X3_apart_5 E d Q a0 a1 a2 x3 (x4 + 1) S3) ∧ (¬ r4 = 0 → jk S3 a0 = 3 ∧ jFi E mX3_daysTaken d 0 0 [.ref a0, .ref a1, .int x4] S3 (fun r8 S7 => jk S7 a2 = 6 ∧ ∃ b10, jr S7 a2 2 = some b10 ∧ (jk S7 b10 = 12 ∧ vp_in x4 (jl S7 b10) ∧ (L_X3_apart_5 E d Q a0 a1 a2 (x3 + (jabs (r8 - (ji S7 b10 (Int32.toNatClampNeg x4))))) (x4 + 1) S7))))))) : L_X3_apart_5 E d Q a0 a1 a2 x3 x4 S := by
  show jX E mX3_apart (jRm (d + 1) 0 0) (jZm E (fun r S' => ∃ v : Int32, r = some (.int v) ∧ Q v S') 0 0) 5 [(0, .ref a0), (1, .ref a1), (2, .ref a2), (3, .int x3), (4, .int x4)] [] S 0 0
  refine jx_iload 4 dX3_apart_5 rfl ?_
  refine jx_aload_n 2 dX3_apart_7 rfl rfl ?_
  obtain ⟨hk1, h⟩ := h
  refine jx_geti jc_6 (j := 1) (by decide) rfl jwF_X3_141 dX3_apart_8 hk1 ?_
  refine jx_icmp_ge (tgt := 50) dX3_apart_11 (by decide) (fun c2 => ?_) (fun c2 => ?_)
  · replace h := h.1 c2
    refine jx_iload_n 3 dX3_apart_50 rfl rfl ?_
    exact jx_iret dX3_apart_51 rfl rfl (jle rfl) (jle rfl) ⟨_, rfl, h⟩
  replace h := h.2 c2
  refine jx_aload_n 2 dX3_apart_14 rfl rfl ?_
  refine jx_iload 4 dX3_apart_15 rfl ?_
  refine jx_callVi (M' := mX6_isNumber) (As := [.int x4]) jo_X6_isNumber jc_6 rfl jwM_X3_144 jwN_X6_isNumber jwX_X6_isNumber dX3_apart_17 (jRok_m _ _ _) rfl (jle rfl) ⟨jle rfl, jle rfl⟩ hk1 h (fun r4 S3 h => ?_)
  refine jx_if_eq (tgt := 44) dX3_apart_20 (by decide) (fun c5 => ?_) (fun c5 => ?_)
  · replace h := h.1 c5
    refine jx_iinc 4 (v := (x4 + 1)) (lv1 := [(4, .int (x4 + 1)), (0, .ref a0), (1, .ref a1), (2, .ref a2), (3, .int x3)]) dX3_apart_44 rfl rfl (by decide) rfl ?_
    refine jx_goto (tgt := 5) dX3_apart_47 (by decide) ?_
    exact jx_lv [1, 2, 3, 4, 0] rfl h
  replace h := h.2 c5
  refine jx_iload_n 3 dX3_apart_23 rfl rfl ?_
  refine jx_aload_n 0 dX3_apart_24 rfl rfl ?_
  refine jx_aload_n 1 dX3_apart_25 rfl rfl ?_
  refine jx_iload 4 dX3_apart_26 rfl ?_
  obtain ⟨hk6, h⟩ := h
  refine jx_callVi (M' := mX3_daysTaken) (As := [.ref a1, .int x4]) jo_X3_daysTaken jc_3 rfl jwM_X3_147 jwN_X3_daysTaken jwX_X3_daysTaken dX3_apart_28 (jRok_m _ _ _) rfl (jle rfl) ⟨jle rfl, jle rfl⟩ hk6 h (fun r8 S7 h => ?_)
  refine jx_aload_n 2 dX3_apart_31 rfl rfl ?_
  obtain ⟨hk9, h⟩ := h
  obtain ⟨b10, hb10, h⟩ := h
  refine jx_getr jc_6 (j := 2) (by decide) rfl jwF_X3_151 dX3_apart_32 hk9 hb10 ?_
  refine jx_iload 4 dX3_apart_35 rfl ?_
  obtain ⟨hk11, h⟩ := h
  obtain ⟨hi12, h⟩ := h
  refine jx_iald dX3_apart_37 hk11 hi12 ?_
  refine jx_isub dX3_apart_38 ?_
  refine jx_abs jwM_X3_154 jwS_abs jwZ_J9 jwO_abs dX3_apart_39 (jRok_m _ _ _) (jle rfl) ⟨Nat.zero_le _, Nat.zero_le _⟩ ?_
  refine jx_iadd dX3_apart_42 ?_
  refine jx_istore_n (lv1 := [(3, .int (x3 + (jabs (r8 - (ji S7 b10 (Int32.toNatClampNeg x4)))))), (0, .ref a0), (1, .ref a1), (2, .ref a2), (4, .int x4)]) dX3_apart_43 rfl (by decide) rfl ?_
  refine jx_iinc 4 (v := (x4 + 1)) (lv1 := [(4, .int (x4 + 1)), (3, .int (x3 + (jabs (r8 - (ji S7 b10 (Int32.toNatClampNeg x4)))))), (0, .ref a0), (1, .ref a1), (2, .ref a2)]) dX3_apart_44 rfl rfl (by decide) rfl ?_
  refine jx_goto (tgt := 5) dX3_apart_47 (by decide) ?_
  exact jx_lv [2, 3, 4, 1, 0] rfl h
set_option maxRecDepth 100000 in
set_option maxHeartbeats 4000000 in
theorem T_X5_init {E : jEnv} {d : Nat} {Q : jM → Prop} {a0 : Nat} {S : jM} (h : ∀ q1, q1 = jn S → jk (jnew S 12 5) a0 = 5 ∧ ∀ q4, q4 = jn (jputr (jnew S 12 5) a0 0 (some q1)) → jk (jnew (jputr (jnew S 12 5) a0 0 (some q1)) 12 5) a0 = 5 ∧ ∀ q7, q7 = jn (jputr (jnew (jputr (jnew S 12 5) a0 0 (some q1)) 12 5) a0 1 (some q4)) → jk (jnew (jputr (jnew (jputr (jnew S 12 5) a0 0 (some q1)) 12 5) a0 1 (some q4)) 12 5) a0 = 5 ∧ ∀ q10, q10 = jn (jputr (jnew (jputr (jnew (jputr (jnew S 12 5) a0 0 (some q1)) 12 5) a0 1 (some q4)) 12 5) a0 2 (some q7)) → jk (jnew (jputr (jnew (jputr (jnew (jputr (jnew S 12 5) a0 0 (some q1)) 12 5) a0 1 (some q4)) 12 5) a0 2 (some q7)) 12 5) a0 = 5 ∧ ∀ q13, q13 = jn (jputr (jnew (jputr (jnew (jputr (jnew (jputr (jnew S 12 5) a0 0 (some q1)) 12 5) a0 1 (some q4)) 12 5) a0 2 (some q7)) 12 5) a0 3 (some q10)) → jk (jnew (jputr (jnew (jputr (jnew (jputr (jnew (jputr (jnew S 12 5) a0 0 (some q1)) 12 5) a0 1 (some q4)) 12 5) a0 2 (some q7)) 12 5) a0 3 (some q10)) 12 5) a0 = 5 ∧ ∀ q16, q16 = jn (jputr (jnew (jputr (jnew (jputr (jnew (jputr (jnew (jputr (jnew S 12 5) a0 0 (some q1)) 12 5) a0 1 (some q4)) 12 5) a0 2 (some q7)) 12 5) a0 3 (some q10)) 12 5) a0 4 (some q13)) → jk (jnew (jputr (jnew (jputr (jnew (jputr (jnew (jputr (jnew (jputr (jnew S 12 5) a0 0 (some q1)) 12 5) a0 1 (some q4)) 12 5) a0 2 (some q7)) 12 5) a0 3 (some q10)) 12 5) a0 4 (some q13)) 12 10) a0 = 5 ∧ ∀ q19, q19 = jn (jputr (jnew (jputr (jnew (jputr (jnew (jputr (jnew (jputr (jnew (jputr (jnew S 12 5) a0 0 (some q1)) 12 5) a0 1 (some q4)) 12 5) a0 2 (some q7)) 12 5) a0 3 (some q10)) 12 5) a0 4 (some q13)) 12 10) a0 5 (some q16)) → jk (jnew (jputr (jnew (jputr (jnew (jputr (jnew (jputr (jnew (jputr (jnew (jputr (jnew S 12 5) a0 0 (some q1)) 12 5) a0 1 (some q4)) 12 5) a0 2 (some q7)) 12 5) a0 3 (some q10)) 12 5) a0 4 (some q13)) 12 10) a0 5 (some q16)) 12 99) a0 = 5 ∧ Q (jputr (jnew (jputr (jnew (jputr (jnew (jputr (jnew (jputr (jnew (jputr (jnew (jputr (jnew S 12 5) a0 0 (some q1)) 12 5) a0 1 (some q4)) 12 5) a0 2 (some q7)) 12 5) a0 3 (some q10)) 12 5) a0 4 (some q13)) 12 10) a0 5 (some q16)) 12 99) a0 6 (some q19))) : jFv E mX5_init (d + 1) 7 134 [.ref a0] S Q := by
  refine jF_of (by decide) (jle rfl) ?_
  refine jx_lv (lv1 := [(0, .ref a0)]) [0] rfl ?_
  refine jx_aload_n 0 dX5_init_0 rfl rfl ?_
  refine jx_objInit jwM_X5_3 jwN_obj jwO_obj dX5_init_1 (jRok_m _ _ _) (jle rfl) ?_
  refine jx_aload_n 0 dX5_init_4 rfl rfl ?_
  refine jx_iconst (v := 5) dX5_init_5 (by decide) ?_
  refine jx_newa (N := 5) jwA dX5_init_6 (by decide) (by decide) (by decide) ⟨jle rfl, jle rfl⟩ ?_
  obtain ⟨q1, hq1⟩ : ∃ q, q = jn S := ⟨_, rfl⟩
  rw [← hq1]
  replace h := h q1 hq1
  obtain ⟨hk2, h⟩ := h
  refine jx_putrF jc_5 (j := 0) (by decide) rfl jwF_X5_11 rfl rfl rfl rfl rfl dX5_init_8 hk2 ?_
  refine jx_aload_n 0 dX5_init_11 rfl rfl ?_
  refine jx_iconst (v := 5) dX5_init_12 (by decide) ?_
  refine jx_newa (N := 5) jwA dX5_init_13 (by decide) (by decide) (by decide) ⟨jle rfl, jle rfl⟩ ?_
  obtain ⟨q4, hq4⟩ : ∃ q, q = jn (jputr (jnew S 12 5) a0 0 (some q1)) := ⟨_, rfl⟩
  rw [← hq4]
  replace h := h q4 hq4
  obtain ⟨hk5, h⟩ := h
  refine jx_putrF jc_5 (j := 1) (by decide) rfl jwF_X5_15 rfl rfl rfl rfl rfl dX5_init_15 hk5 ?_
  refine jx_aload_n 0 dX5_init_18 rfl rfl ?_
  refine jx_iconst (v := 5) dX5_init_19 (by decide) ?_
  refine jx_newa (N := 5) jwA dX5_init_20 (by decide) (by decide) (by decide) ⟨jle rfl, jle rfl⟩ ?_
  obtain ⟨q7, hq7⟩ : ∃ q, q = jn (jputr (jnew (jputr (jnew S 12 5) a0 0 (some q1)) 12 5) a0 1 (some q4)) := ⟨_, rfl⟩
  rw [← hq7]
  replace h := h q7 hq7
  obtain ⟨hk8, h⟩ := h
  refine jx_putrF jc_5 (j := 2) (by decide) rfl jwF_X5_18 rfl rfl rfl rfl rfl dX5_init_22 hk8 ?_
  refine jx_aload_n 0 dX5_init_25 rfl rfl ?_
  refine jx_iconst (v := 5) dX5_init_26 (by decide) ?_
  refine jx_newa (N := 5) jwA dX5_init_27 (by decide) (by decide) (by decide) ⟨jle rfl, jle rfl⟩ ?_
  obtain ⟨q10, hq10⟩ : ∃ q, q = jn (jputr (jnew (jputr (jnew (jputr (jnew S 12 5) a0 0 (some q1)) 12 5) a0 1 (some q4)) 12 5) a0 2 (some q7)) := ⟨_, rfl⟩
  rw [← hq10]
  replace h := h q10 hq10
  obtain ⟨hk11, h⟩ := h
  refine jx_putrF jc_5 (j := 3) (by decide) rfl jwF_X5_21 rfl rfl rfl rfl rfl dX5_init_29 hk11 ?_
  refine jx_aload_n 0 dX5_init_32 rfl rfl ?_
  refine jx_iconst (v := 5) dX5_init_33 (by decide) ?_
  refine jx_newa (N := 5) jwA dX5_init_34 (by decide) (by decide) (by decide) ⟨jle rfl, jle rfl⟩ ?_
  obtain ⟨q13, hq13⟩ : ∃ q, q = jn (jputr (jnew (jputr (jnew (jputr (jnew (jputr (jnew S 12 5) a0 0 (some q1)) 12 5) a0 1 (some q4)) 12 5) a0 2 (some q7)) 12 5) a0 3 (some q10)) := ⟨_, rfl⟩
  rw [← hq13]
  replace h := h q13 hq13
  obtain ⟨hk14, h⟩ := h
  refine jx_putrF jc_5 (j := 4) (by decide) rfl jwF_X5_24 rfl rfl rfl rfl rfl dX5_init_36 hk14 ?_
  refine jx_aload_n 0 dX5_init_39 rfl rfl ?_
  refine jx_bipush (v := 10) dX5_init_40 (by decide) ?_
  refine jx_newa (N := 10) jwA dX5_init_42 (by decide) (by decide) (by decide) ⟨jle rfl, jle rfl⟩ ?_
  obtain ⟨q16, hq16⟩ : ∃ q, q = jn (jputr (jnew (jputr (jnew (jputr (jnew (jputr (jnew (jputr (jnew S 12 5) a0 0 (some q1)) 12 5) a0 1 (some q4)) 12 5) a0 2 (some q7)) 12 5) a0 3 (some q10)) 12 5) a0 4 (some q13)) := ⟨_, rfl⟩
  rw [← hq16]
  replace h := h q16 hq16
  obtain ⟨hk17, h⟩ := h
  refine jx_putrF jc_5 (j := 5) (by decide) rfl jwF_X5_27 rfl rfl rfl rfl rfl dX5_init_44 hk17 ?_
  refine jx_aload_n 0 dX5_init_47 rfl rfl ?_
  refine jx_bipush (v := 99) dX5_init_48 (by decide) ?_
  refine jx_newa (N := 99) jwA dX5_init_50 (by decide) (by decide) (by decide) ⟨jle rfl, jle rfl⟩ ?_
  obtain ⟨q19, hq19⟩ : ∃ q, q = jn (jputr (jnew (jputr (jnew (jputr (jnew (jputr (jnew (jputr (jnew (jputr (jnew S 12 5) a0 0 (some q1)) 12 5) a0 1 (some q4)) 12 5) a0 2 (some q7)) 12 5) a0 3 (some q10)) 12 5) a0 4 (some q13)) 12 10) a0 5 (some q16)) := ⟨_, rfl⟩
  rw [← hq19]
  replace h := h q19 hq19
  obtain ⟨hk20, h⟩ := h
  refine jx_putrF jc_5 (j := 6) (by decide) rfl jwF_X5_30 rfl rfl rfl rfl rfl dX5_init_52 hk20 ?_
  exact jx_vret dX5_init_55 rfl (jle rfl) (jle rfl) ⟨rfl, h⟩
/-- X5_finds at its loop's head 39 -/
abbrev L_X5_finds_39 (E : jEnv) (d : Nat) (Q : Int32 → jM → Prop) (a0 : Nat) (a1 : Nat) (x2 : Int32) (S : jM) : Prop := jX E mX5_finds (jRm (d + 1) 0 0) (jZm E (fun r S' => ∃ v : Int32, r = some (.int v) ∧ Q v S') 0 0) 39 [(0, .ref a0), (1, .ref a1), (2, .int x2)] [] S 0 0
/-- X5_finds at its loop's head 63 -/
abbrev L_X5_finds_63 (E : jEnv) (d : Nat) (Q : Int32 → jM → Prop) (a0 : Nat) (a1 : Nat) (x2 : Int32) (S : jM) : Prop := jX E mX5_finds (jRm (d + 1) 0 0) (jZm E (fun r S' => ∃ v : Int32, r = some (.int v) ∧ Q v S') 0 0) 63 [(0, .ref a0), (1, .ref a1), (2, .int x2)] [] S 0 0
set_option maxRecDepth 100000 in
set_option maxHeartbeats 4000000 in
theorem T_X5_finds {E : jEnv} {d : Nat} {Q : Int32 → jM → Prop} {a0 : Nat} {a1 : Nat} {S : jM} (h : jk S a0 = 5 ∧ jk S a1 = 3 ∧ jFi E mX3_wishedSet d 0 0 [.ref a1] (jput (jput (jput S a0 9 1000000000) a0 10 1000000000) a0 11 1000000000) (fun r4 S3 => jk S3 a0 = 5 ∧ jk S3 a1 = 3 ∧ ∃ b7, jr S3 a1 0 = some b7 ∧ (jk S3 b7 = 0 ∧ jFi E mX0_taught d 0 0 [.ref b7] (jput S3 a0 7 r4) (fun r10 S9 => jk S9 a0 = 5 ∧ L_X5_finds_39 E d Q a0 a1 0 (jput S9 a0 8 r10))))) : jFi E mX5_finds (d + 1) 0 0 [.ref a0, .ref a1] S Q := by
  refine jF_of (by decide) (jle rfl) ?_
  refine jx_lv (lv1 := [(0, .ref a0), (1, .ref a1)]) [0, 1] rfl ?_
  refine jx_aload_n 0 dX5_finds_0 rfl rfl ?_
  refine jx_ldc jwC_X5_33 dX5_finds_1 ?_
  obtain ⟨hk1, h⟩ := h
  refine jx_puti jc_5 (j := 9) (by decide) rfl jwF_X5_34 rfl rfl rfl dX5_finds_3 hk1 ?_
  refine jx_aload_n 0 dX5_finds_6 rfl rfl ?_
  refine jx_ldc jwC_X5_33 dX5_finds_7 ?_
  refine jx_puti jc_5 (j := 10) (by decide) rfl jwF_X5_38 rfl rfl rfl dX5_finds_9 hk1 ?_
  refine jx_aload_n 0 dX5_finds_12 rfl rfl ?_
  refine jx_ldc jwC_X5_33 dX5_finds_13 ?_
  refine jx_puti jc_5 (j := 11) (by decide) rfl jwF_X5_41 rfl rfl rfl dX5_finds_15 hk1 ?_
  refine jx_aload_n 0 dX5_finds_18 rfl rfl ?_
  refine jx_aload_n 1 dX5_finds_19 rfl rfl ?_
  obtain ⟨hk2, h⟩ := h
  refine jx_callVi (M' := mX3_wishedSet) (As := []) jo_X3_wishedSet jc_3 rfl jwM_X5_44 jwN_X3_wishedSet jwX_X3_wishedSet dX5_finds_20 (jRok_m _ _ _) rfl (jle rfl) ⟨jle rfl, jle rfl⟩ hk2 h (fun r4 S3 h => ?_)
  obtain ⟨hk5, h⟩ := h
  refine jx_puti jc_5 (j := 7) (by decide) rfl jwF_X5_50 rfl rfl rfl dX5_finds_23 hk5 ?_
  refine jx_aload_n 0 dX5_finds_26 rfl rfl ?_
  refine jx_aload_n 1 dX5_finds_27 rfl rfl ?_
  obtain ⟨hk6, h⟩ := h
  obtain ⟨b7, hb7, h⟩ := h
  refine jx_getr jc_3 (j := 0) (by decide) rfl jwF_X5_53 dX5_finds_28 hk6 hb7 ?_
  obtain ⟨hk8, h⟩ := h
  refine jx_callVi (M' := mX0_taught) (As := []) jo_X0_taught jc_0 rfl jwM_X5_57 jwN_X0_taught jwX_X0_taught dX5_finds_31 (jRok_m _ _ _) rfl (jle rfl) ⟨jle rfl, jle rfl⟩ hk8 h (fun r10 S9 h => ?_)
  obtain ⟨hk11, h⟩ := h
  refine jx_puti jc_5 (j := 8) (by decide) rfl jwF_X5_62 rfl rfl rfl dX5_finds_34 hk11 ?_
  refine jx_iconst (v := 0) dX5_finds_37 (by decide) ?_
  refine jx_istore_n (lv1 := [(2, .int 0), (0, .ref a0), (1, .ref a1)]) dX5_finds_38 rfl (by decide) rfl ?_
  exact jx_lv [1, 2, 0] rfl h
set_option maxRecDepth 100000 in
set_option maxHeartbeats 4000000 in
theorem T_X5_finds_39 {E : jEnv} {d : Nat} {Q : Int32 → jM → Prop} {a0 : Nat} {a1 : Nat} {x2 : Int32} {S : jM} (h : jk S a0 = 5 ∧ ∃ b13, jr S a0 6 = some b13 ∧ (jk S b13 = 12 ∧ ((nI (jl S b13)) ≤ x2 → L_X5_finds_63 E d Q a0 a1 0 S) ∧ (¬ (nI (jl S b13)) ≤ x2 → vp_in x2 (jl S b13) ∧ (L_X5_finds_39 E d Q a0 a1 (x2 + 1) (jput S b13 (Int32.toNatClampNeg x2) 0))))) : L_X5_finds_39 E d Q a0 a1 x2 S := by
  show jX E mX5_finds (jRm (d + 1) 0 0) (jZm E (fun r S' => ∃ v : Int32, r = some (.int v) ∧ Q v S') 0 0) 39 [(0, .ref a0), (1, .ref a1), (2, .int x2)] [] S 0 0
  refine jx_iload_n 2 dX5_finds_39 rfl rfl ?_
  refine jx_aload_n 0 dX5_finds_40 rfl rfl ?_
  obtain ⟨hk12, h⟩ := h
  obtain ⟨b13, hb13, h⟩ := h
  refine jx_getr jc_5 (j := 6) (by decide) rfl jwF_X5_30 dX5_finds_41 hk12 hb13 ?_
  obtain ⟨hk14, h⟩ := h
  refine jx_alen dX5_finds_44 hk14 ?_
  refine jx_icmp_ge (tgt := 61) dX5_finds_45 (by decide) (fun c15 => ?_) (fun c15 => ?_)
  · replace h := h.1 c15
    refine jx_iconst (v := 0) dX5_finds_61 (by decide) ?_
    refine jx_istore_n (lv1 := [(2, .int 0), (0, .ref a0), (1, .ref a1)]) dX5_finds_62 rfl (by decide) rfl ?_
    exact jx_lv [1, 2, 0] rfl h
  replace h := h.2 c15
  refine jx_aload_n 0 dX5_finds_48 rfl rfl ?_
  refine jx_getr jc_5 (j := 6) (by decide) rfl jwF_X5_30 dX5_finds_49 hk12 hb13 ?_
  refine jx_iload_n 2 dX5_finds_52 rfl rfl ?_
  refine jx_iconst (v := 0) dX5_finds_53 (by decide) ?_
  obtain ⟨hi16, h⟩ := h
  refine jx_iast dX5_finds_54 hk14 hi16 ?_
  refine jx_iinc 2 (v := (x2 + 1)) (lv1 := [(2, .int (x2 + 1)), (0, .ref a0), (1, .ref a1)]) dX5_finds_55 rfl rfl (by decide) rfl ?_
  refine jx_goto (tgt := 39) dX5_finds_58 (by decide) ?_
  exact jx_lv [1, 2, 0] rfl h
set_option maxRecDepth 100000 in
set_option maxHeartbeats 4000000 in
theorem T_X5_finds_63 {E : jEnv} {d : Nat} {Q : Int32 → jM → Prop} {a0 : Nat} {a1 : Nat} {x2 : Int32} {S : jM} (h : (10 ≤ x2 → jk S a0 = 5 ∧ ∃ b19, jr S a0 0 = some b19 ∧ (jk S a1 = 3 ∧ ∃ b21, jr S a1 2 = some b21 ∧ (jk S b21 = 1 ∧ jk S b19 = 12 ∧ vp_in 0 (jl S b19) ∧ (∃ b25, jr S a0 1 = some b25 ∧ (jk S b25 = 12 ∧ vp_in 0 (jl S b25) ∧ (∃ b28, jr S a0 2 = some b28 ∧ (jk S b28 = 12 ∧ vp_in 0 (jl S b28) ∧ (∃ b31, jr S a0 3 = some b31 ∧ (jk S b31 = 12 ∧ vp_in 0 (jl S b31) ∧ (∃ b34, jr S a0 4 = some b34 ∧ (jk S b34 = 12 ∧ vp_in 0 (jl S b34) ∧ (jFv E mX5_goOn d 0 0 [.ref a0, .ref a1, .int 0] (jput (jput (jput (jput (jput S b19 (Int32.toNatClampNeg 0) (ji S b21 0)) b25 (Int32.toNatClampNeg 0) (ji S b21 1)) b28 (Int32.toNatClampNeg 0) 0) b31 (Int32.toNatClampNeg 0) 0) b34 (Int32.toNatClampNeg 0) (-1000000005)) (fun S37 => jk S37 a0 = 5 ∧ ((ji S37 a0 9) = 1000000000 → Q 0 S37) ∧ (¬ (ji S37 a0 9) = 1000000000 → Q 1 S37)))))))))))))) ∧ (¬ 10 ≤ x2 → jk S a0 = 5 ∧ ∃ b41, jr S a0 5 = some b41 ∧ (jk S a1 = 3 ∧ ∃ b43, jr S a1 2 = some b43 ∧ (jk S b43 = 1 ∧ ∃ b45, jr S b43 6 = some b45 ∧ (jk S b45 = 12 ∧ vp_in x2 (jl S b45) ∧ (jk S b41 = 12 ∧ vp_in x2 (jl S b41) ∧ (L_X5_finds_63 E d Q a0 a1 (x2 + 1) (jput S b41 (Int32.toNatClampNeg x2) (-(ji S b45 (Int32.toNatClampNeg x2))))))))))) : L_X5_finds_63 E d Q a0 a1 x2 S := by
  show jX E mX5_finds (jRm (d + 1) 0 0) (jZm E (fun r S' => ∃ v : Int32, r = some (.int v) ∧ Q v S') 0 0) 63 [(0, .ref a0), (1, .ref a1), (2, .int x2)] [] S 0 0
  refine jx_iload_n 2 dX5_finds_63 rfl rfl ?_
  refine jx_bipush (v := 10) dX5_finds_64 (by decide) ?_
  refine jx_icmp_ge (tgt := 91) dX5_finds_66 (by decide) (fun c17 => ?_) (fun c17 => ?_)
  · replace h := h.1 c17
    refine jx_aload_n 0 dX5_finds_91 rfl rfl ?_
    obtain ⟨hk18, h⟩ := h
    obtain ⟨b19, hb19, h⟩ := h
    refine jx_getr jc_5 (j := 0) (by decide) rfl jwF_X5_11 dX5_finds_92 hk18 hb19 ?_
    refine jx_iconst (v := 0) dX5_finds_95 (by decide) ?_
    refine jx_aload_n 1 dX5_finds_96 rfl rfl ?_
    obtain ⟨hk20, h⟩ := h
    obtain ⟨b21, hb21, h⟩ := h
    refine jx_getr jc_3 (j := 2) (by decide) rfl jwF_X5_64 dX5_finds_97 hk20 hb21 ?_
    obtain ⟨hk22, h⟩ := h
    refine jx_geti jc_1 (j := 0) (by decide) rfl jwF_X5_73 dX5_finds_100 hk22 ?_
    obtain ⟨hk23, h⟩ := h
    obtain ⟨hi24, h⟩ := h
    refine jx_iast dX5_finds_103 hk23 hi24 ?_
    refine jx_aload_n 0 dX5_finds_104 rfl rfl ?_
    obtain ⟨b25, hb25, h⟩ := h
    refine jx_getr jc_5 (j := 1) (by decide) rfl jwF_X5_15 dX5_finds_105 hk18 hb25 ?_
    refine jx_iconst (v := 0) dX5_finds_108 (by decide) ?_
    refine jx_aload_n 1 dX5_finds_109 rfl rfl ?_
    refine jx_getr jc_3 (j := 2) (by decide) rfl jwF_X5_64 dX5_finds_110 hk20 hb21 ?_
    refine jx_geti jc_1 (j := 1) (by decide) rfl jwF_X5_76 dX5_finds_113 hk22 ?_
    refine jx_topi (y := (ji S b21 1)) (by simp [ji_put, ji_row, ji_putr, jne hk22 hk23 (by decide)]) ?_
    obtain ⟨hk26, h⟩ := h
    obtain ⟨hi27, h⟩ := h
    refine jx_iast dX5_finds_116 hk26 hi27 ?_
    refine jx_aload_n 0 dX5_finds_117 rfl rfl ?_
    obtain ⟨b28, hb28, h⟩ := h
    refine jx_getr jc_5 (j := 2) (by decide) rfl jwF_X5_18 dX5_finds_118 hk18 hb28 ?_
    refine jx_iconst (v := 0) dX5_finds_121 (by decide) ?_
    refine jx_iconst (v := 0) dX5_finds_122 (by decide) ?_
    obtain ⟨hk29, h⟩ := h
    obtain ⟨hi30, h⟩ := h
    refine jx_iast dX5_finds_123 hk29 hi30 ?_
    refine jx_aload_n 0 dX5_finds_124 rfl rfl ?_
    obtain ⟨b31, hb31, h⟩ := h
    refine jx_getr jc_5 (j := 3) (by decide) rfl jwF_X5_21 dX5_finds_125 hk18 hb31 ?_
    refine jx_iconst (v := 0) dX5_finds_128 (by decide) ?_
    refine jx_iconst (v := 0) dX5_finds_129 (by decide) ?_
    obtain ⟨hk32, h⟩ := h
    obtain ⟨hi33, h⟩ := h
    refine jx_iast dX5_finds_130 hk32 hi33 ?_
    refine jx_aload_n 0 dX5_finds_131 rfl rfl ?_
    obtain ⟨b34, hb34, h⟩ := h
    refine jx_getr jc_5 (j := 4) (by decide) rfl jwF_X5_24 dX5_finds_132 hk18 hb34 ?_
    refine jx_iconst (v := 0) dX5_finds_135 (by decide) ?_
    refine jx_ldc jwC_X5_78 dX5_finds_136 ?_
    obtain ⟨hk35, h⟩ := h
    obtain ⟨hi36, h⟩ := h
    refine jx_iast dX5_finds_138 hk35 hi36 ?_
    refine jx_aload_n 0 dX5_finds_139 rfl rfl ?_
    refine jx_aload_n 1 dX5_finds_140 rfl rfl ?_
    refine jx_iconst (v := 0) dX5_finds_141 (by decide) ?_
    refine jx_callVv (M' := mX5_goOn) (As := [.ref a1, .int 0]) jo_X5_goOn jc_5 rfl jwM_X5_79 jwN_X5_goOn jwX_X5_goOn dX5_finds_142 (jRok_m _ _ _) rfl (jle rfl) ⟨jle rfl, jle rfl⟩ hk18 h (fun S37 h => ?_)
    refine jx_aload_n 0 dX5_finds_145 rfl rfl ?_
    obtain ⟨hk38, h⟩ := h
    refine jx_geti jc_5 (j := 9) (by decide) rfl jwF_X5_34 dX5_finds_146 hk38 ?_
    refine jx_ldc jwC_X5_33 dX5_finds_149 ?_
    refine jx_icmp_eq (tgt := 158) dX5_finds_151 (by decide) (fun c39 => ?_) (fun c39 => ?_)
    · replace h := h.1 c39
      refine jx_iconst (v := 0) dX5_finds_158 (by decide) ?_
      exact jx_iret dX5_finds_159 rfl (by decide) (jle rfl) (jle rfl) ⟨_, rfl, h⟩
    replace h := h.2 c39
    refine jx_iconst (v := 1) dX5_finds_154 (by decide) ?_
    refine jx_goto (tgt := 159) dX5_finds_155 (by decide) ?_
    exact jx_iret dX5_finds_159 rfl (by decide) (jle rfl) (jle rfl) ⟨_, rfl, h⟩
  replace h := h.2 c17
  refine jx_aload_n 0 dX5_finds_69 rfl rfl ?_
  obtain ⟨hk40, h⟩ := h
  obtain ⟨b41, hb41, h⟩ := h
  refine jx_getr jc_5 (j := 5) (by decide) rfl jwF_X5_27 dX5_finds_70 hk40 hb41 ?_
  refine jx_iload_n 2 dX5_finds_73 rfl rfl ?_
  refine jx_aload_n 1 dX5_finds_74 rfl rfl ?_
  obtain ⟨hk42, h⟩ := h
  obtain ⟨b43, hb43, h⟩ := h
  refine jx_getr jc_3 (j := 2) (by decide) rfl jwF_X5_64 dX5_finds_75 hk42 hb43 ?_
  obtain ⟨hk44, h⟩ := h
  obtain ⟨b45, hb45, h⟩ := h
  refine jx_getr jc_1 (j := 6) (by decide) rfl jwF_X5_68 dX5_finds_78 hk44 hb45 ?_
  refine jx_iload_n 2 dX5_finds_81 rfl rfl ?_
  obtain ⟨hk46, h⟩ := h
  obtain ⟨hi47, h⟩ := h
  refine jx_iald dX5_finds_82 hk46 hi47 ?_
  refine jx_ineg dX5_finds_83 ?_
  obtain ⟨hk48, h⟩ := h
  obtain ⟨hi49, h⟩ := h
  refine jx_iast dX5_finds_84 hk48 hi49 ?_
  refine jx_iinc 2 (v := (x2 + 1)) (lv1 := [(2, .int (x2 + 1)), (0, .ref a0), (1, .ref a1)]) dX5_finds_85 rfl rfl (by decide) rfl ?_
  refine jx_goto (tgt := 63) dX5_finds_88 (by decide) ?_
  exact jx_lv [1, 2, 0] rfl h
/-- X5_goOn at its loop's head 63 -/
abbrev L_X5_goOn_63 (E : jEnv) (d : Nat) (Q : jM → Prop) (a0 : Nat) (a1 : Nat) (x2 : Int32) (x3 : Int32) (x4 : Int32) (x5 : Int32) (S : jM) : Prop := jX E mX5_goOn (jRm (d + 1) 0 0) (jZm E (fun r S' => r = none ∧ Q S') 0 0) 63 [(0, .ref a0), (1, .ref a1), (2, .int x2), (3, .int x3), (4, .int x4), (5, .int x5)] [] S 0 0
set_option maxRecDepth 100000 in
set_option maxHeartbeats 4000000 in
theorem T_X5_goOn {E : jEnv} {d : Nat} {Q : jM → Prop} {a0 : Nat} {a1 : Nat} {x2 : Int32} {S : jM} (h : ((jwi x2 5) = 0 → Q S) ∧ (¬ (jwi x2 5) = 0 → jk S a0 = 5 ∧ ∃ b6, jr S a0 1 = some b6 ∧ (jk S b6 = 12 ∧ vp_in x2 (jl S b6) ∧ ((((ji S a0 7) &&& ((ji S b6 (Int32.toNatClampNeg x2)) ^^^ (-1))) = 0 → jFv E mX5_offer d 0 0 [.ref a0, .int x2] S (fun S15 => Q S15)) ∧ (¬ ((ji S a0 7) &&& ((ji S b6 (Int32.toNatClampNeg x2)) ^^^ (-1))) = 0 → (((4 - x2) - (jbc ((ji S a0 7) &&& ((ji S b6 (Int32.toNatClampNeg x2)) ^^^ (-1))))) < 0 → Q S) ∧ (¬ ((4 - x2) - (jbc ((ji S a0 7) &&& ((ji S b6 (Int32.toNatClampNeg x2)) ^^^ (-1))))) < 0 → ((((ji S a0 7) &&& ((ji S b6 (Int32.toNatClampNeg x2)) ^^^ (-1))) &&& ((ji S a0 8) ^^^ (-1))) = 0 → L_X5_goOn_63 E d Q a0 a1 x2 ((ji S a0 7) &&& ((ji S b6 (Int32.toNatClampNeg x2)) ^^^ (-1))) ((4 - x2) - (jbc ((ji S a0 7) &&& ((ji S b6 (Int32.toNatClampNeg x2)) ^^^ (-1))))) 0 S) ∧ (¬ (((ji S a0 7) &&& ((ji S b6 (Int32.toNatClampNeg x2)) ^^^ (-1))) &&& ((ji S a0 8) ^^^ (-1))) = 0 → Q S))))))) : jFv E mX5_goOn (d + 1) 0 0 [.ref a0, .ref a1, .int x2] S Q := by
  refine jF_of (by decide) (jle rfl) ?_
  refine jx_lv (lv1 := [(0, .ref a0), (1, .ref a1), (2, .int x2)]) [0, 1, 2] rfl ?_
  refine jx_iload_n 2 dX5_goOn_0 rfl rfl ?_
  refine jx_iconst (v := 5) dX5_goOn_1 (by decide) ?_
  refine jx_callSNi (M' := mX10_within) (As := [.int x2, .int 5]) (host := "NineMasters") jo_X10_within (by decide) jwS_X10_within dX5_goOn_2 (jRok_m _ _ _) rfl (jle rfl) ⟨jle rfl, jle rfl⟩ (c_X10_within (Q := fun v S' => v = (jwi x2 5) ∧ S = S') ⟨rfl, rfl⟩) (fun r1 S2 hq3 => ?_)
  obtain ⟨rfl, rfl⟩ := hq3
  refine jx_if_ne (tgt := 9) dX5_goOn_5 (by decide) (fun c4 => ?_) (fun c4 => ?_)
  · replace h := h.2 c4
    refine jx_aload_n 0 dX5_goOn_9 rfl rfl ?_
    obtain ⟨hk5, h⟩ := h
    refine jx_geti jc_5 (j := 7) (by decide) rfl jwF_X5_50 dX5_goOn_10 hk5 ?_
    refine jx_aload_n 0 dX5_goOn_13 rfl rfl ?_
    obtain ⟨b6, hb6, h⟩ := h
    refine jx_getr jc_5 (j := 1) (by decide) rfl jwF_X5_15 dX5_goOn_14 hk5 hb6 ?_
    refine jx_iload_n 2 dX5_goOn_17 rfl rfl ?_
    obtain ⟨hk7, h⟩ := h
    obtain ⟨hi8, h⟩ := h
    refine jx_iald dX5_goOn_18 hk7 hi8 ?_
    refine jx_iconst (v := (-1)) dX5_goOn_19 (by decide) ?_
    refine jx_ixor dX5_goOn_20 ?_
    refine jx_iand dX5_goOn_21 ?_
    refine jx_istore_n (lv1 := [(3, .int ((ji S a0 7) &&& ((ji S b6 (Int32.toNatClampNeg x2)) ^^^ (-1)))), (0, .ref a0), (1, .ref a1), (2, .int x2)]) dX5_goOn_22 rfl (by decide) rfl ?_
    refine jx_iload_n 0 dX5_goOn_23 rfl rfl ?_
    refine jx_if_ne (tgt := 33) dX5_goOn_24 (by decide) (fun c9 => ?_) (fun c9 => ?_)
    · replace h := h.2 c9
      refine jx_iconst (v := 4) dX5_goOn_33 (by decide) ?_
      refine jx_iload_n 3 dX5_goOn_34 rfl rfl ?_
      refine jx_isub dX5_goOn_35 ?_
      refine jx_iload_n 0 dX5_goOn_36 rfl rfl ?_
      refine jx_callSi (M' := mJ6_bitCount_0f7a4) (As := [.int ((ji S a0 7) &&& ((ji S b6 (Int32.toNatClampNeg x2)) ^^^ (-1)))]) jo_J6_bitCount_0f7a4 jwM_X5_91 jwS_J6_bitCount_0f7a4 dX5_goOn_37 (jRok_m _ _ _) rfl (jle rfl) ⟨jle rfl, jle rfl⟩ (c_J6_bitCount_0f7a4 (Q := fun v S' => v = (jbc ((ji S a0 7) &&& ((ji S b6 (Int32.toNatClampNeg x2)) ^^^ (-1)))) ∧ S = S') ⟨rfl, rfl⟩) (fun r10 S11 hq12 => ?_)
      obtain ⟨rfl, rfl⟩ := hq12
      refine jx_isub dX5_goOn_40 ?_
      refine jx_istore (lv1 := [(4, .int ((4 - x2) - (jbc ((ji S a0 7) &&& ((ji S b6 (Int32.toNatClampNeg x2)) ^^^ (-1)))))), (3, .int ((ji S a0 7) &&& ((ji S b6 (Int32.toNatClampNeg x2)) ^^^ (-1)))), (0, .ref a0), (1, .ref a1), (2, .int x2)]) dX5_goOn_41 (by decide) rfl ?_
      refine jx_iload 0 dX5_goOn_43 rfl ?_
      refine jx_if_lt (tgt := 59) dX5_goOn_45 (by decide) (fun c13 => ?_) (fun c13 => ?_)
      · replace h := h.1 c13
        exact jx_vret dX5_goOn_59 rfl (jle rfl) (jle rfl) ⟨rfl, h⟩
      replace h := h.2 c13
      refine jx_iload_n 1 dX5_goOn_48 rfl rfl ?_
      refine jx_aload_n 2 dX5_goOn_49 rfl rfl ?_
      refine jx_geti jc_5 (j := 8) (by decide) rfl jwF_X5_62 dX5_goOn_50 hk5 ?_
      refine jx_iconst (v := (-1)) dX5_goOn_53 (by decide) ?_
      refine jx_ixor dX5_goOn_54 ?_
      refine jx_iand dX5_goOn_55 ?_
      refine jx_if_eq (tgt := 60) dX5_goOn_56 (by decide) (fun c14 => ?_) (fun c14 => ?_)
      · replace h := h.1 c14
        refine jx_iconst (v := 0) dX5_goOn_60 (by decide) ?_
        refine jx_istore (lv1 := [(5, .int 0), (4, .int ((4 - x2) - (jbc ((ji S a0 7) &&& ((ji S b6 (Int32.toNatClampNeg x2)) ^^^ (-1)))))), (3, .int ((ji S a0 7) &&& ((ji S b6 (Int32.toNatClampNeg x2)) ^^^ (-1)))), (0, .ref a0), (1, .ref a1), (2, .int x2)]) dX5_goOn_61 (by decide) rfl ?_
        exact jx_lv [3, 4, 5, 2, 1, 0] rfl h
      replace h := h.2 c14
      exact jx_vret dX5_goOn_59 rfl (jle rfl) (jle rfl) ⟨rfl, h⟩
    replace h := h.1 c9
    refine jx_aload_n 1 dX5_goOn_27 rfl rfl ?_
    refine jx_iload_n 3 dX5_goOn_28 rfl rfl ?_
    refine jx_callVv (M' := mX5_offer) (As := [.int x2]) jo_X5_offer jc_5 rfl jwM_X5_87 jwN_X5_offer jwX_X5_offer dX5_goOn_29 (jRok_m _ _ _) rfl (jle rfl) ⟨jle rfl, jle rfl⟩ hk5 h (fun S15 h => ?_)
    exact jx_vret dX5_goOn_32 rfl (jle rfl) (jle rfl) ⟨rfl, h⟩
  replace h := h.1 c4
  exact jx_vret dX5_goOn_8 rfl (jle rfl) (jle rfl) ⟨rfl, h⟩
set_option maxRecDepth 100000 in
set_option maxHeartbeats 4000000 in
theorem T_X5_goOn_63 {E : jEnv} {d : Nat} {Q : jM → Prop} {a0 : Nat} {a1 : Nat} {x2 : Int32} {x3 : Int32} {x4 : Int32} {x5 : Int32} {S : jM} (h : jk S a1 = 3 ∧ ∃ b17, jr S a1 0 = some b17 ∧ (jk S b17 = 0 ∧ ((ji S b17 1) ≤ x5 → Q S) ∧ (¬ (ji S b17 1) ≤ x5 → jFr E mX0_find d 0 0 [.ref b17, .int x5] S (fun o21 S20 => (o21 = none → L_X5_goOn_63 E d Q a0 a1 x2 x3 x4 (x5 + 1) S20) ∧ (∀ b22, o21 = some b22 → (0 < x4 → jk S20 a0 = 5 ∧ jFv E mX5_tryMaster d 0 0 [.ref a0, .ref a1, .int x2, .int x5, .ref b22] S20 (fun S25 => L_X5_goOn_63 E d Q a0 a1 x2 x3 x4 (x5 + 1) S25)) ∧ (¬ 0 < x4 → jk S20 b22 = 2 ∧ ((x3 &&& (jshl 1 (ji S20 b22 2))) = 0 → L_X5_goOn_63 E d Q a0 a1 x2 x3 x4 (x5 + 1) S20) ∧ (¬ (x3 &&& (jshl 1 (ji S20 b22 2))) = 0 → jk S20 a0 = 5 ∧ jFv E mX5_tryMaster d 0 0 [.ref a0, .ref a1, .int x2, .int x5, .ref b22] S20 (fun S29 => L_X5_goOn_63 E d Q a0 a1 x2 x3 x4 (x5 + 1) S29)))))))) : L_X5_goOn_63 E d Q a0 a1 x2 x3 x4 x5 S := by
  show jX E mX5_goOn (jRm (d + 1) 0 0) (jZm E (fun r S' => r = none ∧ Q S') 0 0) 63 [(0, .ref a0), (1, .ref a1), (2, .int x2), (3, .int x3), (4, .int x4), (5, .int x5)] [] S 0 0
  refine jx_iload 5 dX5_goOn_63 rfl ?_
  refine jx_aload_n 1 dX5_goOn_65 rfl rfl ?_
  obtain ⟨hk16, h⟩ := h
  obtain ⟨b17, hb17, h⟩ := h
  refine jx_getr jc_3 (j := 0) (by decide) rfl jwF_X5_53 dX5_goOn_66 hk16 hb17 ?_
  obtain ⟨hk18, h⟩ := h
  refine jx_geti jc_0 (j := 1) (by decide) rfl jwF_X5_97 dX5_goOn_69 hk18 ?_
  refine jx_icmp_ge (tgt := 124) dX5_goOn_72 (by decide) (fun c19 => ?_) (fun c19 => ?_)
  · replace h := h.1 c19
    exact jx_vret dX5_goOn_124 rfl (jle rfl) (jle rfl) ⟨rfl, h⟩
  replace h := h.2 c19
  refine jx_aload_n 1 dX5_goOn_75 rfl rfl ?_
  refine jx_getr jc_3 (j := 0) (by decide) rfl jwF_X5_53 dX5_goOn_76 hk16 hb17 ?_
  refine jx_iload 5 dX5_goOn_79 rfl ?_
  refine jx_callVr (M' := mX0_find) (As := [.int x5]) jo_X0_find jc_0 rfl jwM_X5_100 jwN_X0_find jwX_X0_find dX5_goOn_81 (jRok_m _ _ _) rfl (jle rfl) ⟨jle rfl, jle rfl⟩ hk18 h (fun o21 S20 h => ?_)
  rcases o21 with _ | b22
  · replace h := h.1 rfl
    refine jx_astoreN (lv1 := [(6, .null), (0, .ref a0), (1, .ref a1), (2, .int x2), (3, .int x3), (4, .int x4), (5, .int x5)]) dX5_goOn_84 (by decide) rfl ?_
    refine jx_aloadN 0 dX5_goOn_86 rfl ?_
    refine jx_ifnullN (tgt := 118) dX5_goOn_88 (by decide) ?_
    refine jx_iinc 6 (v := (x5 + 1)) (lv1 := [(5, .int (x5 + 1)), (6, .null), (0, .ref a0), (1, .ref a1), (2, .int x2), (3, .int x3), (4, .int x4)]) dX5_goOn_118 rfl rfl (by decide) rfl ?_
    refine jx_goto (tgt := 63) dX5_goOn_121 (by decide) ?_
    exact jx_lv [2, 3, 4, 5, 6, 0] rfl h
  replace h := h.2 b22 rfl
  refine jx_astore (lv1 := [(6, .ref b22), (0, .ref a0), (1, .ref a1), (2, .int x2), (3, .int x3), (4, .int x4), (5, .int x5)]) dX5_goOn_84 (by decide) rfl ?_
  refine jx_aload 0 dX5_goOn_86 rfl ?_
  refine jx_ifnull dX5_goOn_88 ?_
  refine jx_iload 5 dX5_goOn_91 rfl ?_
  refine jx_if_gt (tgt := 108) dX5_goOn_93 (by decide) (fun c23 => ?_) (fun c23 => ?_)
  · replace h := h.1 c23
    refine jx_aload_n 1 dX5_goOn_108 rfl rfl ?_
    refine jx_aload_n 2 dX5_goOn_109 rfl rfl ?_
    refine jx_iload_n 3 dX5_goOn_110 rfl rfl ?_
    refine jx_iload 6 dX5_goOn_111 rfl ?_
    refine jx_aload 0 dX5_goOn_113 rfl ?_
    obtain ⟨hk24, h⟩ := h
    refine jx_callVv (M' := mX5_tryMaster) (As := [.ref a1, .int x2, .int x5, .ref b22]) jo_X5_tryMaster jc_5 rfl jwM_X5_109 jwN_X5_tryMaster jwX_X5_tryMaster dX5_goOn_115 (jRok_m _ _ _) rfl (jle rfl) ⟨jle rfl, jle rfl⟩ hk24 h (fun S25 h => ?_)
    refine jx_iinc 6 (v := (x5 + 1)) (lv1 := [(5, .int (x5 + 1)), (6, .ref b22), (0, .ref a0), (1, .ref a1), (2, .int x2), (3, .int x3), (4, .int x4)]) dX5_goOn_118 rfl rfl (by decide) rfl ?_
    refine jx_goto (tgt := 63) dX5_goOn_121 (by decide) ?_
    exact jx_lv [2, 3, 4, 5, 6, 0] rfl h
  replace h := h.2 c23
  refine jx_iload_n 4 dX5_goOn_96 rfl rfl ?_
  refine jx_iconst (v := 1) dX5_goOn_97 (by decide) ?_
  refine jx_aload 0 dX5_goOn_98 rfl ?_
  obtain ⟨hk26, h⟩ := h
  refine jx_geti jc_2 (j := 2) (by decide) rfl jwF_X5_104 dX5_goOn_100 hk26 ?_
  refine jx_ishl dX5_goOn_103 ?_
  refine jx_iand dX5_goOn_104 ?_
  refine jx_if_eq (tgt := 118) dX5_goOn_105 (by decide) (fun c27 => ?_) (fun c27 => ?_)
  · replace h := h.1 c27
    refine jx_iinc 6 (v := (x5 + 1)) (lv1 := [(5, .int (x5 + 1)), (6, .ref b22), (0, .ref a0), (1, .ref a1), (2, .int x2), (3, .int x3), (4, .int x4)]) dX5_goOn_118 rfl rfl (by decide) rfl ?_
    refine jx_goto (tgt := 63) dX5_goOn_121 (by decide) ?_
    exact jx_lv [2, 3, 4, 5, 6, 0] rfl h
  replace h := h.2 c27
  refine jx_aload_n 1 dX5_goOn_108 rfl rfl ?_
  refine jx_aload_n 2 dX5_goOn_109 rfl rfl ?_
  refine jx_iload_n 3 dX5_goOn_110 rfl rfl ?_
  refine jx_iload 6 dX5_goOn_111 rfl ?_
  refine jx_aload 0 dX5_goOn_113 rfl ?_
  obtain ⟨hk28, h⟩ := h
  refine jx_callVv (M' := mX5_tryMaster) (As := [.ref a1, .int x2, .int x5, .ref b22]) jo_X5_tryMaster jc_5 rfl jwM_X5_109 jwN_X5_tryMaster jwX_X5_tryMaster dX5_goOn_115 (jRok_m _ _ _) rfl (jle rfl) ⟨jle rfl, jle rfl⟩ hk28 h (fun S29 h => ?_)
  refine jx_iinc 6 (v := (x5 + 1)) (lv1 := [(5, .int (x5 + 1)), (6, .ref b22), (0, .ref a0), (1, .ref a1), (2, .int x2), (3, .int x3), (4, .int x4)]) dX5_goOn_118 rfl rfl (by decide) rfl ?_
  refine jx_goto (tgt := 63) dX5_goOn_121 (by decide) ?_
  exact jx_lv [2, 3, 4, 5, 6, 0] rfl h
set_option maxRecDepth 100000 in
set_option maxHeartbeats 4000000 in
theorem T_X5_tryMaster {E : jEnv} {d : Nat} {Q : jM → Prop} {a0 : Nat} {a1 : Nat} {x2 : Int32} {x3 : Int32} {a4 : Nat} {S : jM} (h : jk S a4 = 2 ∧ ((jwi x2 5) = 0 → Q S) ∧ (¬ (jwi x2 5) = 0 → ((jwi (x2 + 1) 5) = 0 → Q S) ∧ (¬ (jwi (x2 + 1) 5) = 0 → ((jwi (ji S a4 2) 10) = 0 → Q S) ∧ (¬ (jwi (ji S a4 2) 10) = 0 → jk S a1 = 3 ∧ ∃ b15, jr S a1 1 = some b15 ∧ (jk S a0 = 5 ∧ ∃ b17, jr S a0 0 = some b17 ∧ (jk S b17 = 12 ∧ vp_in x2 (jl S b17) ∧ (jk S b15 = 4 ∧ jFi E mX4_fewest d 0 0 [.ref b15, .int (ji S b17 (Int32.toNatClampNeg x2)), .int (ji S a4 1)] S (fun r22 S21 => jk S21 a0 = 5 ∧ ∃ b24, jr S21 a0 2 = some b24 ∧ (jk S21 b24 = 12 ∧ vp_in x2 (jl S21 b24) ∧ (jk S21 a1 = 3 ∧ ∃ b28, jr S21 a1 2 = some b28 ∧ (jk S21 b28 = 1 ∧ (r22 = 0 → ∃ b103, jr S21 a0 1 = some b103 ∧ (jk S21 b103 = 12 ∧ vp_in x2 (jl S21 b103) ∧ (∃ b106, jr S21 a0 3 = some b106 ∧ (jk S21 b106 = 12 ∧ vp_in x2 (jl S21 b106) ∧ (jk S21 a4 = 2 ∧ ((ji S21 a4 6) = 0 → (r22 = 9999 → Q S21) ∧ (¬ r22 = 9999 → ((ji S21 b28 2) < ((ji S21 b106 (Int32.toNatClampNeg x2)) + (ji S21 a4 4)) → Q S21) ∧ (¬ (ji S21 b28 2) < ((ji S21 b106 (Int32.toNatClampNeg x2)) + (ji S21 a4 4)) → (((ji S21 b103 (Int32.toNatClampNeg x2)) &&& (jshl 1 (ji S a4 2))) = 0 → jFi E mX2_teaches d 0 0 [.ref a4, .int (ji S21 b103 (Int32.toNatClampNeg x2))] S21 (fun r115 S114 => (r115 = 0 → Q S114) ∧ (¬ r115 = 0 → jk S114 a0 = 5 ∧ jFi E mX5_daysTaken d 0 0 [.ref a0, .ref a1, .int x3, .ref a4, .int (jbc (ji S21 b103 (Int32.toNatClampNeg x2)))] S114 (fun r122 S121 => jk S121 a0 = 5 ∧ ((((ji S21 b24 (Int32.toNatClampNeg x2)) + r22) + r122) ≤ (ji S121 a0 9) → ∃ b125, jr S121 a0 0 = some b125 ∧ (jk S121 a4 = 2 ∧ jk S121 b125 = 12 ∧ vp_in (x2 + 1) (jl S121 b125) ∧ (∃ b129, jr S121 a0 1 = some b129 ∧ (jFi E mX5_keptOf d 0 0 [.ref a0, .int (ji S21 b103 (Int32.toNatClampNeg x2)), .int (((ji S21 b24 (Int32.toNatClampNeg x2)) + r22) + r122), .int (ji S21 b28 3)] (jput S121 b125 (Int32.toNatClampNeg (x2 + 1)) (ji S121 a4 1)) (fun r131 S130 => jk S130 a4 = 2 ∧ jFi E mX2_unlearnt d 0 0 [.ref a4] S130 (fun r134 S133 => jk S133 b129 = 12 ∧ vp_in (x2 + 1) (jl S133 b129) ∧ (jk S133 a0 = 5 ∧ ∃ b138, jr S133 a0 2 = some b138 ∧ (jk S133 b138 = 12 ∧ vp_in (x2 + 1) (jl S133 b138) ∧ (∃ b141, jr S133 a0 3 = some b141 ∧ (jk S133 b141 = 12 ∧ vp_in (x2 + 1) (jl S133 b141) ∧ (∃ b144, jr S133 a0 4 = some b144 ∧ ((x2 = 0 → jk S133 b144 = 12 ∧ vp_in (x2 + 1) (jl S133 b144) ∧ (∃ b160, jr S133 a0 5 = some b160 ∧ (jk S133 b160 = 12 ∧ vp_in (ji S a4 2) (jl S133 b160) ∧ (∀ y163 : Int32, y163 = (ji (jput (jput (jput (jput S133 b129 (Int32.toNatClampNeg (x2 + 1)) ((r131 &&& (r134 ^^^ (-1))) ||| (jshl 1 (ji S a4 2)))) b138 (Int32.toNatClampNeg (x2 + 1)) (((ji S21 b24 (Int32.toNatClampNeg x2)) + r22) + r122)) b141 (Int32.toNatClampNeg (x2 + 1)) ((ji S21 b106 (Int32.toNatClampNeg x2)) + (ji S21 a4 4))) b144 (Int32.toNatClampNeg (x2 + 1)) x3) b160 (Int32.toNatClampNeg (ji S a4 2))) → (jFv E mX5_goOn d 0 0 [.ref a0, .ref a1, .int (x2 + 1)] (jput (jput (jput (jput (jput S133 b129 (Int32.toNatClampNeg (x2 + 1)) ((r131 &&& (r134 ^^^ (-1))) ||| (jshl 1 (ji S a4 2)))) b138 (Int32.toNatClampNeg (x2 + 1)) (((ji S21 b24 (Int32.toNatClampNeg x2)) + r22) + r122)) b141 (Int32.toNatClampNeg (x2 + 1)) ((ji S21 b106 (Int32.toNatClampNeg x2)) + (ji S21 a4 4))) b144 (Int32.toNatClampNeg (x2 + 1)) x3) b160 (Int32.toNatClampNeg (ji S a4 2)) (((ji S21 b24 (Int32.toNatClampNeg x2)) + r22) + r122)) (fun S164 => jk S164 a0 = 5 ∧ ∃ b166, jr S164 a0 5 = some b166 ∧ (jk S164 b166 = 12 ∧ vp_in (ji S a4 2) (jl S164 b166) ∧ (Q (jput S164 b166 (Int32.toNatClampNeg (ji S a4 2)) y163))))))))) ∧ (¬ x2 = 0 → jk S133 b144 = 12 ∧ vp_in x2 (jl S133 b144) ∧ (vp_in (x2 + 1) (jl S133 b144) ∧ (∃ b149, jr S133 a0 5 = some b149 ∧ (jk S133 b149 = 12 ∧ vp_in (ji S a4 2) (jl S133 b149) ∧ (∀ y152 : Int32, y152 = (ji (jput (jput (jput (jput S133 b129 (Int32.toNatClampNeg (x2 + 1)) ((r131 &&& (r134 ^^^ (-1))) ||| (jshl 1 (ji S a4 2)))) b138 (Int32.toNatClampNeg (x2 + 1)) (((ji S21 b24 (Int32.toNatClampNeg x2)) + r22) + r122)) b141 (Int32.toNatClampNeg (x2 + 1)) ((ji S21 b106 (Int32.toNatClampNeg x2)) + (ji S21 a4 4))) b144 (Int32.toNatClampNeg (x2 + 1)) (ji (jput (jput (jput S133 b129 (Int32.toNatClampNeg (x2 + 1)) ((r131 &&& (r134 ^^^ (-1))) ||| (jshl 1 (ji S a4 2)))) b138 (Int32.toNatClampNeg (x2 + 1)) (((ji S21 b24 (Int32.toNatClampNeg x2)) + r22) + r122)) b141 (Int32.toNatClampNeg (x2 + 1)) ((ji S21 b106 (Int32.toNatClampNeg x2)) + (ji S21 a4 4))) b144 (Int32.toNatClampNeg x2))) b149 (Int32.toNatClampNeg (ji S a4 2))) → (jFv E mX5_goOn d 0 0 [.ref a0, .ref a1, .int (x2 + 1)] (jput (jput (jput (jput (jput S133 b129 (Int32.toNatClampNeg (x2 + 1)) ((r131 &&& (r134 ^^^ (-1))) ||| (jshl 1 (ji S a4 2)))) b138 (Int32.toNatClampNeg (x2 + 1)) (((ji S21 b24 (Int32.toNatClampNeg x2)) + r22) + r122)) b141 (Int32.toNatClampNeg (x2 + 1)) ((ji S21 b106 (Int32.toNatClampNeg x2)) + (ji S21 a4 4))) b144 (Int32.toNatClampNeg (x2 + 1)) (ji (jput (jput (jput S133 b129 (Int32.toNatClampNeg (x2 + 1)) ((r131 &&& (r134 ^^^ (-1))) ||| (jshl 1 (ji S a4 2)))) b138 (Int32.toNatClampNeg (x2 + 1)) (((ji S21 b24 (Int32.toNatClampNeg x2)) + r22) + r122)) b141 (Int32.toNatClampNeg (x2 + 1)) ((ji S21 b106 (Int32.toNatClampNeg x2)) + (ji S21 a4 4))) b144 (Int32.toNatClampNeg x2))) b149 (Int32.toNatClampNeg (ji S a4 2)) (((ji S21 b24 (Int32.toNatClampNeg x2)) + r22) + r122)) (fun S153 => jk S153 a0 = 5 ∧ ∃ b155, jr S153 a0 5 = some b155 ∧ (jk S153 b155 = 12 ∧ vp_in (ji S a4 2) (jl S153 b155) ∧ (Q (jput S153 b155 (Int32.toNatClampNeg (ji S a4 2)) y152)))))))))))))))))))))) ∧ (¬ (((ji S21 b24 (Int32.toNatClampNeg x2)) + r22) + r122) ≤ (ji S121 a0 9) → Q S121))))) ∧ (¬ ((ji S21 b103 (Int32.toNatClampNeg x2)) &&& (jshl 1 (ji S a4 2))) = 0 → Q S21)))) ∧ (¬ (ji S21 a4 6) = 0 → Q S21)))))) ∧ (¬ r22 = 0 → ∃ b31, jr S21 a0 1 = some b31 ∧ (jk S21 b31 = 12 ∧ vp_in x2 (jl S21 b31) ∧ (jFi E mX5_keptOf d 0 0 [.ref a0, .int (ji S21 b31 (Int32.toNatClampNeg x2)), .int ((ji S21 b24 (Int32.toNatClampNeg x2)) + r22), .int (ji S21 b28 3)] S21 (fun r35 S34 => jk S34 a0 = 5 ∧ ∃ b37, jr S34 a0 3 = some b37 ∧ (jk S34 b37 = 12 ∧ vp_in x2 (jl S34 b37) ∧ (jk S34 a4 = 2 ∧ ((ji S34 a4 6) = 0 → (r22 = 9999 → Q S34) ∧ (¬ r22 = 9999 → jk S34 a1 = 3 ∧ ∃ b44, jr S34 a1 2 = some b44 ∧ (jk S34 b44 = 1 ∧ ((ji S34 b44 2) < ((ji S34 b37 (Int32.toNatClampNeg x2)) + (ji S34 a4 4)) → Q S34) ∧ (¬ (ji S34 b44 2) < ((ji S34 b37 (Int32.toNatClampNeg x2)) + (ji S34 a4 4)) → ((r35 &&& (jshl 1 (ji S a4 2))) = 0 → jFi E mX2_teaches d 0 0 [.ref a4, .int r35] S34 (fun r49 S48 => (r49 = 0 → Q S48) ∧ (¬ r49 = 0 → jk S48 a0 = 5 ∧ jFi E mX5_daysTaken d 0 0 [.ref a0, .ref a1, .int x3, .ref a4, .int (jbc r35)] S48 (fun r56 S55 => jk S55 a0 = 5 ∧ ((((ji S21 b24 (Int32.toNatClampNeg x2)) + r22) + r56) ≤ (ji S55 a0 9) → ∃ b59, jr S55 a0 0 = some b59 ∧ (jk S55 a4 = 2 ∧ jk S55 b59 = 12 ∧ vp_in (x2 + 1) (jl S55 b59) ∧ (∃ b63, jr S55 a0 1 = some b63 ∧ (jFi E mX5_keptOf d 0 0 [.ref a0, .int r35, .int (((ji S21 b24 (Int32.toNatClampNeg x2)) + r22) + r56), .int (ji S21 b28 3)] (jput S55 b59 (Int32.toNatClampNeg (x2 + 1)) (ji S55 a4 1)) (fun r65 S64 => jk S64 a4 = 2 ∧ jFi E mX2_unlearnt d 0 0 [.ref a4] S64 (fun r68 S67 => jk S67 b63 = 12 ∧ vp_in (x2 + 1) (jl S67 b63) ∧ (jk S67 a0 = 5 ∧ ∃ b72, jr S67 a0 2 = some b72 ∧ (jk S67 b72 = 12 ∧ vp_in (x2 + 1) (jl S67 b72) ∧ (∃ b75, jr S67 a0 3 = some b75 ∧ (jk S67 b75 = 12 ∧ vp_in (x2 + 1) (jl S67 b75) ∧ (∃ b78, jr S67 a0 4 = some b78 ∧ ((x2 = 0 → jk S67 b78 = 12 ∧ vp_in (x2 + 1) (jl S67 b78) ∧ (∃ b94, jr S67 a0 5 = some b94 ∧ (jk S67 b94 = 12 ∧ vp_in (ji S a4 2) (jl S67 b94) ∧ (∀ y97 : Int32, y97 = (ji (jput (jput (jput (jput S67 b63 (Int32.toNatClampNeg (x2 + 1)) ((r65 &&& (r68 ^^^ (-1))) ||| (jshl 1 (ji S a4 2)))) b72 (Int32.toNatClampNeg (x2 + 1)) (((ji S21 b24 (Int32.toNatClampNeg x2)) + r22) + r56)) b75 (Int32.toNatClampNeg (x2 + 1)) ((ji S34 b37 (Int32.toNatClampNeg x2)) + (ji S34 a4 4))) b78 (Int32.toNatClampNeg (x2 + 1)) x3) b94 (Int32.toNatClampNeg (ji S a4 2))) → (jFv E mX5_goOn d 0 0 [.ref a0, .ref a1, .int (x2 + 1)] (jput (jput (jput (jput (jput S67 b63 (Int32.toNatClampNeg (x2 + 1)) ((r65 &&& (r68 ^^^ (-1))) ||| (jshl 1 (ji S a4 2)))) b72 (Int32.toNatClampNeg (x2 + 1)) (((ji S21 b24 (Int32.toNatClampNeg x2)) + r22) + r56)) b75 (Int32.toNatClampNeg (x2 + 1)) ((ji S34 b37 (Int32.toNatClampNeg x2)) + (ji S34 a4 4))) b78 (Int32.toNatClampNeg (x2 + 1)) x3) b94 (Int32.toNatClampNeg (ji S a4 2)) (((ji S21 b24 (Int32.toNatClampNeg x2)) + r22) + r56)) (fun S98 => jk S98 a0 = 5 ∧ ∃ b100, jr S98 a0 5 = some b100 ∧ (jk S98 b100 = 12 ∧ vp_in (ji S a4 2) (jl S98 b100) ∧ (Q (jput S98 b100 (Int32.toNatClampNeg (ji S a4 2)) y97))))))))) ∧ (¬ x2 = 0 → jk S67 b78 = 12 ∧ vp_in x2 (jl S67 b78) ∧ (vp_in (x2 + 1) (jl S67 b78) ∧ (∃ b83, jr S67 a0 5 = some b83 ∧ (jk S67 b83 = 12 ∧ vp_in (ji S a4 2) (jl S67 b83) ∧ (∀ y86 : Int32, y86 = (ji (jput (jput (jput (jput S67 b63 (Int32.toNatClampNeg (x2 + 1)) ((r65 &&& (r68 ^^^ (-1))) ||| (jshl 1 (ji S a4 2)))) b72 (Int32.toNatClampNeg (x2 + 1)) (((ji S21 b24 (Int32.toNatClampNeg x2)) + r22) + r56)) b75 (Int32.toNatClampNeg (x2 + 1)) ((ji S34 b37 (Int32.toNatClampNeg x2)) + (ji S34 a4 4))) b78 (Int32.toNatClampNeg (x2 + 1)) (ji (jput (jput (jput S67 b63 (Int32.toNatClampNeg (x2 + 1)) ((r65 &&& (r68 ^^^ (-1))) ||| (jshl 1 (ji S a4 2)))) b72 (Int32.toNatClampNeg (x2 + 1)) (((ji S21 b24 (Int32.toNatClampNeg x2)) + r22) + r56)) b75 (Int32.toNatClampNeg (x2 + 1)) ((ji S34 b37 (Int32.toNatClampNeg x2)) + (ji S34 a4 4))) b78 (Int32.toNatClampNeg x2))) b83 (Int32.toNatClampNeg (ji S a4 2))) → (jFv E mX5_goOn d 0 0 [.ref a0, .ref a1, .int (x2 + 1)] (jput (jput (jput (jput (jput S67 b63 (Int32.toNatClampNeg (x2 + 1)) ((r65 &&& (r68 ^^^ (-1))) ||| (jshl 1 (ji S a4 2)))) b72 (Int32.toNatClampNeg (x2 + 1)) (((ji S21 b24 (Int32.toNatClampNeg x2)) + r22) + r56)) b75 (Int32.toNatClampNeg (x2 + 1)) ((ji S34 b37 (Int32.toNatClampNeg x2)) + (ji S34 a4 4))) b78 (Int32.toNatClampNeg (x2 + 1)) (ji (jput (jput (jput S67 b63 (Int32.toNatClampNeg (x2 + 1)) ((r65 &&& (r68 ^^^ (-1))) ||| (jshl 1 (ji S a4 2)))) b72 (Int32.toNatClampNeg (x2 + 1)) (((ji S21 b24 (Int32.toNatClampNeg x2)) + r22) + r56)) b75 (Int32.toNatClampNeg (x2 + 1)) ((ji S34 b37 (Int32.toNatClampNeg x2)) + (ji S34 a4 4))) b78 (Int32.toNatClampNeg x2))) b83 (Int32.toNatClampNeg (ji S a4 2)) (((ji S21 b24 (Int32.toNatClampNeg x2)) + r22) + r56)) (fun S87 => jk S87 a0 = 5 ∧ ∃ b89, jr S87 a0 5 = some b89 ∧ (jk S87 b89 = 12 ∧ vp_in (ji S a4 2) (jl S87 b89) ∧ (Q (jput S87 b89 (Int32.toNatClampNeg (ji S a4 2)) y86)))))))))))))))))))))) ∧ (¬ (((ji S21 b24 (Int32.toNatClampNeg x2)) + r22) + r56) ≤ (ji S55 a0 9) → Q S55))))) ∧ (¬ (r35 &&& (jshl 1 (ji S a4 2))) = 0 → Q S34))))) ∧ (¬ (ji S34 a4 6) = 0 → Q S34)))))))))))))))))) : jFv E mX5_tryMaster (d + 1) 0 0 [.ref a0, .ref a1, .int x2, .int x3, .ref a4] S Q := by
  refine jF_of (by decide) (jle rfl) ?_
  refine jx_lv (lv1 := [(0, .ref a0), (1, .ref a1), (2, .int x2), (3, .int x3), (4, .ref a4)]) [0, 1, 2, 3, 4] rfl ?_
  refine jx_iload_n 2 dX5_tryMaster_0 rfl rfl ?_
  refine jx_iconst (v := 1) dX5_tryMaster_1 (by decide) ?_
  refine jx_iadd dX5_tryMaster_2 ?_
  refine jx_istore (lv1 := [(5, .int (x2 + 1)), (0, .ref a0), (1, .ref a1), (2, .int x2), (3, .int x3), (4, .ref a4)]) dX5_tryMaster_3 (by decide) rfl ?_
  refine jx_aload 5 dX5_tryMaster_5 rfl ?_
  obtain ⟨hk1, h⟩ := h
  refine jx_geti jc_2 (j := 2) (by decide) rfl jwF_X5_104 dX5_tryMaster_7 hk1 ?_
  refine jx_istore (lv1 := [(6, .int (ji S a4 2)), (5, .int (x2 + 1)), (0, .ref a0), (1, .ref a1), (2, .int x2), (3, .int x3), (4, .ref a4)]) dX5_tryMaster_10 (by decide) rfl ?_
  refine jx_iload_n 4 dX5_tryMaster_12 rfl rfl ?_
  refine jx_iconst (v := 5) dX5_tryMaster_13 (by decide) ?_
  refine jx_callSNi (M' := mX10_within) (As := [.int x2, .int 5]) (host := "NineMasters") jo_X10_within (by decide) jwS_X10_within dX5_tryMaster_14 (jRok_m _ _ _) rfl (jle rfl) ⟨jle rfl, jle rfl⟩ (c_X10_within (Q := fun v S' => v = (jwi x2 5) ∧ S = S') ⟨rfl, rfl⟩) (fun r2 S3 hq4 => ?_)
  obtain ⟨rfl, rfl⟩ := hq4
  refine jx_if_eq (tgt := 39) dX5_tryMaster_17 (by decide) (fun c5 => ?_) (fun c5 => ?_)
  · replace h := h.1 c5
    exact jx_vret dX5_tryMaster_39 rfl (jle rfl) (jle rfl) ⟨rfl, h⟩
  replace h := h.2 c5
  refine jx_iload 1 dX5_tryMaster_20 rfl ?_
  refine jx_iconst (v := 5) dX5_tryMaster_22 (by decide) ?_
  refine jx_callSNi (M' := mX10_within) (As := [.int (x2 + 1), .int 5]) (host := "NineMasters") jo_X10_within (by decide) jwS_X10_within dX5_tryMaster_23 (jRok_m _ _ _) rfl (jle rfl) ⟨jle rfl, jle rfl⟩ (c_X10_within (Q := fun v S' => v = (jwi (x2 + 1) 5) ∧ S = S') ⟨rfl, rfl⟩) (fun r6 S7 hq8 => ?_)
  obtain ⟨rfl, rfl⟩ := hq8
  refine jx_if_eq (tgt := 39) dX5_tryMaster_26 (by decide) (fun c9 => ?_) (fun c9 => ?_)
  · replace h := h.1 c9
    exact jx_vret dX5_tryMaster_39 rfl (jle rfl) (jle rfl) ⟨rfl, h⟩
  replace h := h.2 c9
  refine jx_iload 0 dX5_tryMaster_29 rfl ?_
  refine jx_bipush (v := 10) dX5_tryMaster_31 (by decide) ?_
  refine jx_callSNi (M' := mX10_within) (As := [.int (ji S a4 2), .int 10]) (host := "NineMasters") jo_X10_within (by decide) jwS_X10_within dX5_tryMaster_33 (jRok_m _ _ _) rfl (jle rfl) ⟨jle rfl, jle rfl⟩ (c_X10_within (Q := fun v S' => v = (jwi (ji S a4 2) 10) ∧ S = S') ⟨rfl, rfl⟩) (fun r10 S11 hq12 => ?_)
  obtain ⟨rfl, rfl⟩ := hq12
  refine jx_if_ne (tgt := 40) dX5_tryMaster_36 (by decide) (fun c13 => ?_) (fun c13 => ?_)
  · replace h := h.2 c13
    refine jx_aload_n 3 dX5_tryMaster_40 rfl rfl ?_
    obtain ⟨hk14, h⟩ := h
    obtain ⟨b15, hb15, h⟩ := h
    refine jx_getr jc_3 (j := 1) (by decide) rfl jwF_X5_113 dX5_tryMaster_41 hk14 hb15 ?_
    refine jx_aload_n 2 dX5_tryMaster_44 rfl rfl ?_
    obtain ⟨hk16, h⟩ := h
    obtain ⟨b17, hb17, h⟩ := h
    refine jx_getr jc_5 (j := 0) (by decide) rfl jwF_X5_11 dX5_tryMaster_45 hk16 hb17 ?_
    refine jx_iload_n 4 dX5_tryMaster_48 rfl rfl ?_
    obtain ⟨hk18, h⟩ := h
    obtain ⟨hi19, h⟩ := h
    refine jx_iald dX5_tryMaster_49 hk18 hi19 ?_
    refine jx_aload 6 dX5_tryMaster_50 rfl ?_
    refine jx_geti jc_2 (j := 1) (by decide) rfl jwF_X5_117 dX5_tryMaster_52 hk1 ?_
    obtain ⟨hk20, h⟩ := h
    refine jx_callVi (M' := mX4_fewest) (As := [.int (ji S b17 (Int32.toNatClampNeg x2)), .int (ji S a4 1)]) jo_X4_fewest jc_4 rfl jwM_X5_119 jwN_X4_fewest jwX_X4_fewest dX5_tryMaster_55 (jRok_m _ _ _) rfl (jle rfl) ⟨jle rfl, jle rfl⟩ hk20 h (fun r22 S21 h => ?_)
    refine jx_istore (lv1 := [(7, .int r22), (6, .int (ji S a4 2)), (5, .int (x2 + 1)), (0, .ref a0), (1, .ref a1), (2, .int x2), (3, .int x3), (4, .ref a4)]) dX5_tryMaster_58 (by decide) rfl ?_
    refine jx_aload_n 3 dX5_tryMaster_60 rfl rfl ?_
    obtain ⟨hk23, h⟩ := h
    obtain ⟨b24, hb24, h⟩ := h
    refine jx_getr jc_5 (j := 2) (by decide) rfl jwF_X5_18 dX5_tryMaster_61 hk23 hb24 ?_
    refine jx_iload_n 5 dX5_tryMaster_64 rfl rfl ?_
    obtain ⟨hk25, h⟩ := h
    obtain ⟨hi26, h⟩ := h
    refine jx_iald dX5_tryMaster_65 hk25 hi26 ?_
    refine jx_iload 0 dX5_tryMaster_66 rfl ?_
    refine jx_iadd dX5_tryMaster_68 ?_
    refine jx_istore (lv1 := [(8, .int ((ji S21 b24 (Int32.toNatClampNeg x2)) + r22)), (7, .int r22), (6, .int (ji S a4 2)), (5, .int (x2 + 1)), (0, .ref a0), (1, .ref a1), (2, .int x2), (3, .int x3), (4, .ref a4)]) dX5_tryMaster_69 (by decide) rfl ?_
    refine jx_aload_n 5 dX5_tryMaster_71 rfl rfl ?_
    obtain ⟨hk27, h⟩ := h
    obtain ⟨b28, hb28, h⟩ := h
    refine jx_getr jc_3 (j := 2) (by decide) rfl jwF_X5_64 dX5_tryMaster_72 hk27 hb28 ?_
    obtain ⟨hk29, h⟩ := h
    refine jx_geti jc_1 (j := 3) (by decide) rfl jwF_X5_125 dX5_tryMaster_75 hk29 ?_
    refine jx_istore (lv1 := [(9, .int (ji S21 b28 3)), (8, .int ((ji S21 b24 (Int32.toNatClampNeg x2)) + r22)), (7, .int r22), (6, .int (ji S a4 2)), (5, .int (x2 + 1)), (0, .ref a0), (1, .ref a1), (2, .int x2), (3, .int x3), (4, .ref a4)]) dX5_tryMaster_78 (by decide) rfl ?_
    refine jx_iload 2 dX5_tryMaster_80 rfl ?_
    refine jx_if_ne (tgt := 94) dX5_tryMaster_82 (by decide) (fun c30 => ?_) (fun c30 => ?_)
    · replace h := h.2 c30
      refine jx_aload_n 5 dX5_tryMaster_94 rfl rfl ?_
      refine jx_aload_n 5 dX5_tryMaster_95 rfl rfl ?_
      obtain ⟨b31, hb31, h⟩ := h
      refine jx_getr jc_5 (j := 1) (by decide) rfl jwF_X5_15 dX5_tryMaster_96 hk23 hb31 ?_
      refine jx_iload_n 7 dX5_tryMaster_99 rfl rfl ?_
      obtain ⟨hk32, h⟩ := h
      obtain ⟨hi33, h⟩ := h
      refine jx_iald dX5_tryMaster_100 hk32 hi33 ?_
      refine jx_iload 1 dX5_tryMaster_101 rfl ?_
      refine jx_iload 0 dX5_tryMaster_103 rfl ?_
      refine jx_callVi (M' := mX5_keptOf) (As := [.int (ji S21 b31 (Int32.toNatClampNeg x2)), .int ((ji S21 b24 (Int32.toNatClampNeg x2)) + r22), .int (ji S21 b28 3)]) jo_X5_keptOf jc_5 rfl jwM_X5_128 jwN_X5_keptOf jwX_X5_keptOf dX5_tryMaster_105 (jRok_m _ _ _) rfl (jle rfl) ⟨jle rfl, jle rfl⟩ hk23 h (fun r35 S34 h => ?_)
      refine jx_istore (lv1 := [(10, .int r35), (9, .int (ji S21 b28 3)), (8, .int ((ji S21 b24 (Int32.toNatClampNeg x2)) + r22)), (7, .int r22), (6, .int (ji S a4 2)), (5, .int (x2 + 1)), (0, .ref a0), (1, .ref a1), (2, .int x2), (3, .int x3), (4, .ref a4)]) dX5_tryMaster_108 (by decide) rfl ?_
      refine jx_aload_n 6 dX5_tryMaster_110 rfl rfl ?_
      obtain ⟨hk36, h⟩ := h
      obtain ⟨b37, hb37, h⟩ := h
      refine jx_getr jc_5 (j := 3) (by decide) rfl jwF_X5_21 dX5_tryMaster_111 hk36 hb37 ?_
      refine jx_iload_n 8 dX5_tryMaster_114 rfl rfl ?_
      obtain ⟨hk38, h⟩ := h
      obtain ⟨hi39, h⟩ := h
      refine jx_iald dX5_tryMaster_115 hk38 hi39 ?_
      refine jx_aload 10 dX5_tryMaster_116 rfl ?_
      obtain ⟨hk40, h⟩ := h
      refine jx_geti jc_2 (j := 4) (by decide) rfl jwF_X5_132 dX5_tryMaster_118 hk40 ?_
      refine jx_iadd dX5_tryMaster_121 ?_
      refine jx_istore (lv1 := [(11, .int ((ji S34 b37 (Int32.toNatClampNeg x2)) + (ji S34 a4 4))), (10, .int r35), (9, .int (ji S21 b28 3)), (8, .int ((ji S21 b24 (Int32.toNatClampNeg x2)) + r22)), (7, .int r22), (6, .int (ji S a4 2)), (5, .int (x2 + 1)), (0, .ref a0), (1, .ref a1), (2, .int x2), (3, .int x3), (4, .ref a4)]) dX5_tryMaster_122 (by decide) rfl ?_
      refine jx_aload 11 dX5_tryMaster_124 rfl ?_
      refine jx_geti jc_2 (j := 6) (by decide) rfl jwF_X5_135 dX5_tryMaster_126 hk40 ?_
      refine jx_if_ne (tgt := 172) dX5_tryMaster_129 (by decide) (fun c41 => ?_) (fun c41 => ?_)
      · replace h := h.2 c41
        exact jx_vret dX5_tryMaster_172 rfl (jle rfl) (jle rfl) ⟨rfl, h⟩
      replace h := h.1 c41
      refine jx_iload 4 dX5_tryMaster_132 rfl ?_
      refine jx_sipush (v := 9999) dX5_tryMaster_134 (by decide) ?_
      refine jx_icmp_eq (tgt := 172) dX5_tryMaster_137 (by decide) (fun c42 => ?_) (fun c42 => ?_)
      · replace h := h.1 c42
        exact jx_vret dX5_tryMaster_172 rfl (jle rfl) (jle rfl) ⟨rfl, h⟩
      replace h := h.2 c42
      refine jx_iload 0 dX5_tryMaster_140 rfl ?_
      refine jx_aload_n 8 dX5_tryMaster_142 rfl rfl ?_
      obtain ⟨hk43, h⟩ := h
      obtain ⟨b44, hb44, h⟩ := h
      refine jx_getr jc_3 (j := 2) (by decide) rfl jwF_X5_64 dX5_tryMaster_143 hk43 hb44 ?_
      obtain ⟨hk45, h⟩ := h
      refine jx_geti jc_1 (j := 2) (by decide) rfl jwF_X5_139 dX5_tryMaster_146 hk45 ?_
      refine jx_icmp_gt (tgt := 172) dX5_tryMaster_149 (by decide) (fun c46 => ?_) (fun c46 => ?_)
      · replace h := h.1 c46
        exact jx_vret dX5_tryMaster_172 rfl (jle rfl) (jle rfl) ⟨rfl, h⟩
      replace h := h.2 c46
      refine jx_iload 1 dX5_tryMaster_152 rfl ?_
      refine jx_iconst (v := 1) dX5_tryMaster_154 (by decide) ?_
      refine jx_iload 5 dX5_tryMaster_155 rfl ?_
      refine jx_ishl dX5_tryMaster_157 ?_
      refine jx_iand dX5_tryMaster_158 ?_
      refine jx_if_ne (tgt := 172) dX5_tryMaster_159 (by decide) (fun c47 => ?_) (fun c47 => ?_)
      · replace h := h.2 c47
        exact jx_vret dX5_tryMaster_172 rfl (jle rfl) (jle rfl) ⟨rfl, h⟩
      replace h := h.1 c47
      refine jx_aload 11 dX5_tryMaster_162 rfl ?_
      refine jx_iload 1 dX5_tryMaster_164 rfl ?_
      refine jx_callVi (M' := mX2_teaches) (As := [.int r35]) jo_X2_teaches jc_2 rfl jwM_X5_142 jwN_X2_teaches jwX_X2_teaches dX5_tryMaster_166 (jRok_m _ _ _) rfl (jle rfl) ⟨jle rfl, jle rfl⟩ hk40 h (fun r49 S48 h => ?_)
      refine jx_if_ne (tgt := 173) dX5_tryMaster_169 (by decide) (fun c50 => ?_) (fun c50 => ?_)
      · replace h := h.2 c50
        refine jx_iload 3 dX5_tryMaster_173 rfl ?_
        refine jx_aload_n 7 dX5_tryMaster_175 rfl rfl ?_
        refine jx_aload_n 8 dX5_tryMaster_176 rfl rfl ?_
        refine jx_iload_n 10 dX5_tryMaster_177 rfl rfl ?_
        refine jx_aload 11 dX5_tryMaster_178 rfl ?_
        refine jx_iload 1 dX5_tryMaster_180 rfl ?_
        refine jx_callSi (M' := mJ6_bitCount_0f7a4) (As := [.int r35]) jo_J6_bitCount_0f7a4 jwM_X5_91 jwS_J6_bitCount_0f7a4 dX5_tryMaster_182 (jRok_m _ _ _) rfl (jle rfl) ⟨jle rfl, jle rfl⟩ (c_J6_bitCount_0f7a4 (Q := fun v S' => v = (jbc r35) ∧ S48 = S') ⟨rfl, rfl⟩) (fun r51 S52 hq53 => ?_)
        obtain ⟨rfl, rfl⟩ := hq53
        obtain ⟨hk54, h⟩ := h
        refine jx_callVi (M' := mX5_daysTaken) (As := [.ref a1, .int x3, .ref a4, .int (jbc r35)]) jo_X5_daysTaken jc_5 rfl jwM_X5_146 jwN_X5_daysTaken jwX_X5_daysTaken dX5_tryMaster_185 (jRok_m _ _ _) rfl (jle rfl) ⟨jle rfl, jle rfl⟩ hk54 h (fun r56 S55 h => ?_)
        refine jx_iadd dX5_tryMaster_188 ?_
        refine jx_istore (lv1 := [(12, .int (((ji S21 b24 (Int32.toNatClampNeg x2)) + r22) + r56)), (11, .int ((ji S34 b37 (Int32.toNatClampNeg x2)) + (ji S34 a4 4))), (10, .int r35), (9, .int (ji S21 b28 3)), (8, .int ((ji S21 b24 (Int32.toNatClampNeg x2)) + r22)), (7, .int r22), (6, .int (ji S a4 2)), (5, .int (x2 + 1)), (0, .ref a0), (1, .ref a1), (2, .int x2), (3, .int x3), (4, .ref a4)]) dX5_tryMaster_189 (by decide) rfl ?_
        refine jx_iload 0 dX5_tryMaster_191 rfl ?_
        refine jx_aload_n 8 dX5_tryMaster_193 rfl rfl ?_
        obtain ⟨hk57, h⟩ := h
        refine jx_geti jc_5 (j := 9) (by decide) rfl jwF_X5_34 dX5_tryMaster_194 hk57 ?_
        refine jx_icmp_le (tgt := 201) dX5_tryMaster_197 (by decide) (fun c58 => ?_) (fun c58 => ?_)
        · replace h := h.1 c58
          refine jx_aload_n 8 dX5_tryMaster_201 rfl rfl ?_
          obtain ⟨b59, hb59, h⟩ := h
          refine jx_getr jc_5 (j := 0) (by decide) rfl jwF_X5_11 dX5_tryMaster_202 hk57 hb59 ?_
          refine jx_iload 7 dX5_tryMaster_205 rfl ?_
          refine jx_aload 12 dX5_tryMaster_207 rfl ?_
          obtain ⟨hk60, h⟩ := h
          refine jx_geti jc_2 (j := 1) (by decide) rfl jwF_X5_117 dX5_tryMaster_209 hk60 ?_
          obtain ⟨hk61, h⟩ := h
          obtain ⟨hi62, h⟩ := h
          refine jx_iast dX5_tryMaster_212 hk61 hi62 ?_
          refine jx_aload_n 8 dX5_tryMaster_213 rfl rfl ?_
          obtain ⟨b63, hb63, h⟩ := h
          refine jx_getr jc_5 (j := 1) (by decide) rfl jwF_X5_15 dX5_tryMaster_214 hk57 hb63 ?_
          refine jx_iload 7 dX5_tryMaster_217 rfl ?_
          refine jx_aload_n 8 dX5_tryMaster_219 rfl rfl ?_
          refine jx_iload 2 dX5_tryMaster_220 rfl ?_
          refine jx_iload 0 dX5_tryMaster_222 rfl ?_
          refine jx_iload 3 dX5_tryMaster_224 rfl ?_
          refine jx_callVi (M' := mX5_keptOf) (As := [.int r35, .int (((ji S21 b24 (Int32.toNatClampNeg x2)) + r22) + r56), .int (ji S21 b28 3)]) jo_X5_keptOf jc_5 rfl jwM_X5_128 jwN_X5_keptOf jwX_X5_keptOf dX5_tryMaster_226 (jRok_m _ _ _) rfl (jle rfl) ⟨jle rfl, jle rfl⟩ hk57 h (fun r65 S64 h => ?_)
          refine jx_aload 12 dX5_tryMaster_229 rfl ?_
          obtain ⟨hk66, h⟩ := h
          refine jx_callVi (M' := mX2_unlearnt) (As := []) jo_X2_unlearnt jc_2 rfl jwM_X5_150 jwN_X2_unlearnt jwX_X2_unlearnt dX5_tryMaster_231 (jRok_m _ _ _) rfl (jle rfl) ⟨jle rfl, jle rfl⟩ hk66 h (fun r68 S67 h => ?_)
          refine jx_iconst (v := (-1)) dX5_tryMaster_234 (by decide) ?_
          refine jx_ixor dX5_tryMaster_235 ?_
          refine jx_iand dX5_tryMaster_236 ?_
          refine jx_iconst (v := 1) dX5_tryMaster_237 (by decide) ?_
          refine jx_iload 6 dX5_tryMaster_238 rfl ?_
          refine jx_ishl dX5_tryMaster_240 ?_
          refine jx_ior dX5_tryMaster_241 ?_
          obtain ⟨hk69, h⟩ := h
          obtain ⟨hi70, h⟩ := h
          refine jx_iast dX5_tryMaster_242 hk69 hi70 ?_
          refine jx_aload_n 8 dX5_tryMaster_243 rfl rfl ?_
          obtain ⟨hk71, h⟩ := h
          obtain ⟨b72, hb72, h⟩ := h
          refine jx_getr jc_5 (j := 2) (by decide) rfl jwF_X5_18 dX5_tryMaster_244 hk71 hb72 ?_
          refine jx_iload 7 dX5_tryMaster_247 rfl ?_
          refine jx_iload 0 dX5_tryMaster_249 rfl ?_
          obtain ⟨hk73, h⟩ := h
          obtain ⟨hi74, h⟩ := h
          refine jx_iast dX5_tryMaster_251 hk73 hi74 ?_
          refine jx_aload_n 8 dX5_tryMaster_252 rfl rfl ?_
          obtain ⟨b75, hb75, h⟩ := h
          refine jx_getr jc_5 (j := 3) (by decide) rfl jwF_X5_21 dX5_tryMaster_253 hk71 hb75 ?_
          refine jx_iload 7 dX5_tryMaster_256 rfl ?_
          refine jx_iload 1 dX5_tryMaster_258 rfl ?_
          obtain ⟨hk76, h⟩ := h
          obtain ⟨hi77, h⟩ := h
          refine jx_iast dX5_tryMaster_260 hk76 hi77 ?_
          refine jx_aload_n 8 dX5_tryMaster_261 rfl rfl ?_
          obtain ⟨b78, hb78, h⟩ := h
          refine jx_getr jc_5 (j := 4) (by decide) rfl jwF_X5_24 dX5_tryMaster_262 hk71 hb78 ?_
          refine jx_iload 7 dX5_tryMaster_265 rfl ?_
          refine jx_iload_n 10 dX5_tryMaster_267 rfl rfl ?_
          refine jx_if_ne (tgt := 275) dX5_tryMaster_268 (by decide) (fun c79 => ?_) (fun c79 => ?_)
          · replace h := h.2 c79
            refine jx_aload_n 8 dX5_tryMaster_275 rfl rfl ?_
            refine jx_getr jc_5 (j := 4) (by decide) rfl jwF_X5_24 dX5_tryMaster_276 hk71 hb78 ?_
            refine jx_iload_n 10 dX5_tryMaster_279 rfl rfl ?_
            obtain ⟨hk80, h⟩ := h
            obtain ⟨hi81, h⟩ := h
            refine jx_iald dX5_tryMaster_280 hk80 hi81 ?_
            obtain ⟨hi82, h⟩ := h
            refine jx_iast dX5_tryMaster_281 hk80 hi82 ?_
            refine jx_aload_n 8 dX5_tryMaster_282 rfl rfl ?_
            obtain ⟨b83, hb83, h⟩ := h
            refine jx_getr jc_5 (j := 5) (by decide) rfl jwF_X5_27 dX5_tryMaster_283 hk71 hb83 ?_
            refine jx_iload 6 dX5_tryMaster_286 rfl ?_
            obtain ⟨hk84, h⟩ := h
            obtain ⟨hi85, h⟩ := h
            refine jx_iald dX5_tryMaster_288 hk84 hi85 ?_
            refine jx_nm (fun y86 ey86 => ?_)
            replace h := h y86 ey86
            refine jx_istore (lv1 := [(13, .int y86), (12, .int (((ji S21 b24 (Int32.toNatClampNeg x2)) + r22) + r56)), (11, .int ((ji S34 b37 (Int32.toNatClampNeg x2)) + (ji S34 a4 4))), (10, .int r35), (9, .int (ji S21 b28 3)), (8, .int ((ji S21 b24 (Int32.toNatClampNeg x2)) + r22)), (7, .int r22), (6, .int (ji S a4 2)), (5, .int (x2 + 1)), (0, .ref a0), (1, .ref a1), (2, .int x2), (3, .int x3), (4, .ref a4)]) dX5_tryMaster_289 (by decide) rfl ?_
            refine jx_aload_n 9 dX5_tryMaster_291 rfl rfl ?_
            refine jx_getr jc_5 (j := 5) (by decide) rfl jwF_X5_27 dX5_tryMaster_292 hk71 hb83 ?_
            refine jx_iload 7 dX5_tryMaster_295 rfl ?_
            refine jx_iload 1 dX5_tryMaster_297 rfl ?_
            refine jx_iast dX5_tryMaster_299 hk84 hi85 ?_
            refine jx_aload_n 9 dX5_tryMaster_300 rfl rfl ?_
            refine jx_aload_n 10 dX5_tryMaster_301 rfl rfl ?_
            refine jx_iload 8 dX5_tryMaster_302 rfl ?_
            refine jx_callVv (M' := mX5_goOn) (As := [.ref a1, .int (x2 + 1)]) jo_X5_goOn jc_5 rfl jwM_X5_79 jwN_X5_goOn jwX_X5_goOn dX5_tryMaster_304 (jRok_m _ _ _) rfl (jle rfl) ⟨jle rfl, jle rfl⟩ hk71 h (fun S87 h => ?_)
            refine jx_aload_n 9 dX5_tryMaster_307 rfl rfl ?_
            obtain ⟨hk88, h⟩ := h
            obtain ⟨b89, hb89, h⟩ := h
            refine jx_getr jc_5 (j := 5) (by decide) rfl jwF_X5_27 dX5_tryMaster_308 hk88 hb89 ?_
            refine jx_iload 7 dX5_tryMaster_311 rfl ?_
            refine jx_iload 0 dX5_tryMaster_313 rfl ?_
            obtain ⟨hk90, h⟩ := h
            obtain ⟨hi91, h⟩ := h
            refine jx_iast dX5_tryMaster_315 hk90 hi91 ?_
            exact jx_vret dX5_tryMaster_316 rfl (jle rfl) (jle rfl) ⟨rfl, h⟩
          replace h := h.1 c79
          refine jx_iload_n 11 dX5_tryMaster_271 rfl rfl ?_
          refine jx_goto (tgt := 281) dX5_tryMaster_272 (by decide) ?_
          obtain ⟨hk92, h⟩ := h
          obtain ⟨hi93, h⟩ := h
          refine jx_iast dX5_tryMaster_281 hk92 hi93 ?_
          refine jx_aload_n 8 dX5_tryMaster_282 rfl rfl ?_
          obtain ⟨b94, hb94, h⟩ := h
          refine jx_getr jc_5 (j := 5) (by decide) rfl jwF_X5_27 dX5_tryMaster_283 hk71 hb94 ?_
          refine jx_iload 6 dX5_tryMaster_286 rfl ?_
          obtain ⟨hk95, h⟩ := h
          obtain ⟨hi96, h⟩ := h
          refine jx_iald dX5_tryMaster_288 hk95 hi96 ?_
          refine jx_nm (fun y97 ey97 => ?_)
          replace h := h y97 ey97
          refine jx_istore (lv1 := [(13, .int y97), (12, .int (((ji S21 b24 (Int32.toNatClampNeg x2)) + r22) + r56)), (11, .int ((ji S34 b37 (Int32.toNatClampNeg x2)) + (ji S34 a4 4))), (10, .int r35), (9, .int (ji S21 b28 3)), (8, .int ((ji S21 b24 (Int32.toNatClampNeg x2)) + r22)), (7, .int r22), (6, .int (ji S a4 2)), (5, .int (x2 + 1)), (0, .ref a0), (1, .ref a1), (2, .int x2), (3, .int x3), (4, .ref a4)]) dX5_tryMaster_289 (by decide) rfl ?_
          refine jx_aload_n 9 dX5_tryMaster_291 rfl rfl ?_
          refine jx_getr jc_5 (j := 5) (by decide) rfl jwF_X5_27 dX5_tryMaster_292 hk71 hb94 ?_
          refine jx_iload 7 dX5_tryMaster_295 rfl ?_
          refine jx_iload 1 dX5_tryMaster_297 rfl ?_
          refine jx_iast dX5_tryMaster_299 hk95 hi96 ?_
          refine jx_aload_n 9 dX5_tryMaster_300 rfl rfl ?_
          refine jx_aload_n 10 dX5_tryMaster_301 rfl rfl ?_
          refine jx_iload 8 dX5_tryMaster_302 rfl ?_
          refine jx_callVv (M' := mX5_goOn) (As := [.ref a1, .int (x2 + 1)]) jo_X5_goOn jc_5 rfl jwM_X5_79 jwN_X5_goOn jwX_X5_goOn dX5_tryMaster_304 (jRok_m _ _ _) rfl (jle rfl) ⟨jle rfl, jle rfl⟩ hk71 h (fun S98 h => ?_)
          refine jx_aload_n 9 dX5_tryMaster_307 rfl rfl ?_
          obtain ⟨hk99, h⟩ := h
          obtain ⟨b100, hb100, h⟩ := h
          refine jx_getr jc_5 (j := 5) (by decide) rfl jwF_X5_27 dX5_tryMaster_308 hk99 hb100 ?_
          refine jx_iload 7 dX5_tryMaster_311 rfl ?_
          refine jx_iload 0 dX5_tryMaster_313 rfl ?_
          obtain ⟨hk101, h⟩ := h
          obtain ⟨hi102, h⟩ := h
          refine jx_iast dX5_tryMaster_315 hk101 hi102 ?_
          exact jx_vret dX5_tryMaster_316 rfl (jle rfl) (jle rfl) ⟨rfl, h⟩
        replace h := h.2 c58
        exact jx_vret dX5_tryMaster_200 rfl (jle rfl) (jle rfl) ⟨rfl, h⟩
      replace h := h.1 c50
      exact jx_vret dX5_tryMaster_172 rfl (jle rfl) (jle rfl) ⟨rfl, h⟩
    replace h := h.1 c30
    refine jx_aload_n 5 dX5_tryMaster_85 rfl rfl ?_
    obtain ⟨b103, hb103, h⟩ := h
    refine jx_getr jc_5 (j := 1) (by decide) rfl jwF_X5_15 dX5_tryMaster_86 hk23 hb103 ?_
    refine jx_iload_n 7 dX5_tryMaster_89 rfl rfl ?_
    obtain ⟨hk104, h⟩ := h
    obtain ⟨hi105, h⟩ := h
    refine jx_iald dX5_tryMaster_90 hk104 hi105 ?_
    refine jx_goto (tgt := 108) dX5_tryMaster_91 (by decide) ?_
    refine jx_istore (lv1 := [(10, .int (ji S21 b103 (Int32.toNatClampNeg x2))), (9, .int (ji S21 b28 3)), (8, .int ((ji S21 b24 (Int32.toNatClampNeg x2)) + r22)), (7, .int r22), (6, .int (ji S a4 2)), (5, .int (x2 + 1)), (0, .ref a0), (1, .ref a1), (2, .int x2), (3, .int x3), (4, .ref a4)]) dX5_tryMaster_108 (by decide) rfl ?_
    refine jx_aload_n 6 dX5_tryMaster_110 rfl rfl ?_
    obtain ⟨b106, hb106, h⟩ := h
    refine jx_getr jc_5 (j := 3) (by decide) rfl jwF_X5_21 dX5_tryMaster_111 hk23 hb106 ?_
    refine jx_iload_n 8 dX5_tryMaster_114 rfl rfl ?_
    obtain ⟨hk107, h⟩ := h
    obtain ⟨hi108, h⟩ := h
    refine jx_iald dX5_tryMaster_115 hk107 hi108 ?_
    refine jx_aload 10 dX5_tryMaster_116 rfl ?_
    obtain ⟨hk109, h⟩ := h
    refine jx_geti jc_2 (j := 4) (by decide) rfl jwF_X5_132 dX5_tryMaster_118 hk109 ?_
    refine jx_iadd dX5_tryMaster_121 ?_
    refine jx_istore (lv1 := [(11, .int ((ji S21 b106 (Int32.toNatClampNeg x2)) + (ji S21 a4 4))), (10, .int (ji S21 b103 (Int32.toNatClampNeg x2))), (9, .int (ji S21 b28 3)), (8, .int ((ji S21 b24 (Int32.toNatClampNeg x2)) + r22)), (7, .int r22), (6, .int (ji S a4 2)), (5, .int (x2 + 1)), (0, .ref a0), (1, .ref a1), (2, .int x2), (3, .int x3), (4, .ref a4)]) dX5_tryMaster_122 (by decide) rfl ?_
    refine jx_aload 11 dX5_tryMaster_124 rfl ?_
    refine jx_geti jc_2 (j := 6) (by decide) rfl jwF_X5_135 dX5_tryMaster_126 hk109 ?_
    refine jx_if_ne (tgt := 172) dX5_tryMaster_129 (by decide) (fun c110 => ?_) (fun c110 => ?_)
    · replace h := h.2 c110
      exact jx_vret dX5_tryMaster_172 rfl (jle rfl) (jle rfl) ⟨rfl, h⟩
    replace h := h.1 c110
    refine jx_iload 4 dX5_tryMaster_132 rfl ?_
    refine jx_sipush (v := 9999) dX5_tryMaster_134 (by decide) ?_
    refine jx_icmp_eq (tgt := 172) dX5_tryMaster_137 (by decide) (fun c111 => ?_) (fun c111 => ?_)
    · replace h := h.1 c111
      exact jx_vret dX5_tryMaster_172 rfl (jle rfl) (jle rfl) ⟨rfl, h⟩
    replace h := h.2 c111
    refine jx_iload 0 dX5_tryMaster_140 rfl ?_
    refine jx_aload_n 8 dX5_tryMaster_142 rfl rfl ?_
    refine jx_getr jc_3 (j := 2) (by decide) rfl jwF_X5_64 dX5_tryMaster_143 hk27 hb28 ?_
    refine jx_geti jc_1 (j := 2) (by decide) rfl jwF_X5_139 dX5_tryMaster_146 hk29 ?_
    refine jx_icmp_gt (tgt := 172) dX5_tryMaster_149 (by decide) (fun c112 => ?_) (fun c112 => ?_)
    · replace h := h.1 c112
      exact jx_vret dX5_tryMaster_172 rfl (jle rfl) (jle rfl) ⟨rfl, h⟩
    replace h := h.2 c112
    refine jx_iload 1 dX5_tryMaster_152 rfl ?_
    refine jx_iconst (v := 1) dX5_tryMaster_154 (by decide) ?_
    refine jx_iload 5 dX5_tryMaster_155 rfl ?_
    refine jx_ishl dX5_tryMaster_157 ?_
    refine jx_iand dX5_tryMaster_158 ?_
    refine jx_if_ne (tgt := 172) dX5_tryMaster_159 (by decide) (fun c113 => ?_) (fun c113 => ?_)
    · replace h := h.2 c113
      exact jx_vret dX5_tryMaster_172 rfl (jle rfl) (jle rfl) ⟨rfl, h⟩
    replace h := h.1 c113
    refine jx_aload 11 dX5_tryMaster_162 rfl ?_
    refine jx_iload 1 dX5_tryMaster_164 rfl ?_
    refine jx_callVi (M' := mX2_teaches) (As := [.int (ji S21 b103 (Int32.toNatClampNeg x2))]) jo_X2_teaches jc_2 rfl jwM_X5_142 jwN_X2_teaches jwX_X2_teaches dX5_tryMaster_166 (jRok_m _ _ _) rfl (jle rfl) ⟨jle rfl, jle rfl⟩ hk109 h (fun r115 S114 h => ?_)
    refine jx_if_ne (tgt := 173) dX5_tryMaster_169 (by decide) (fun c116 => ?_) (fun c116 => ?_)
    · replace h := h.2 c116
      refine jx_iload 3 dX5_tryMaster_173 rfl ?_
      refine jx_aload_n 7 dX5_tryMaster_175 rfl rfl ?_
      refine jx_aload_n 8 dX5_tryMaster_176 rfl rfl ?_
      refine jx_iload_n 10 dX5_tryMaster_177 rfl rfl ?_
      refine jx_aload 11 dX5_tryMaster_178 rfl ?_
      refine jx_iload 1 dX5_tryMaster_180 rfl ?_
      refine jx_callSi (M' := mJ6_bitCount_0f7a4) (As := [.int (ji S21 b103 (Int32.toNatClampNeg x2))]) jo_J6_bitCount_0f7a4 jwM_X5_91 jwS_J6_bitCount_0f7a4 dX5_tryMaster_182 (jRok_m _ _ _) rfl (jle rfl) ⟨jle rfl, jle rfl⟩ (c_J6_bitCount_0f7a4 (Q := fun v S' => v = (jbc (ji S21 b103 (Int32.toNatClampNeg x2))) ∧ S114 = S') ⟨rfl, rfl⟩) (fun r117 S118 hq119 => ?_)
      obtain ⟨rfl, rfl⟩ := hq119
      obtain ⟨hk120, h⟩ := h
      refine jx_callVi (M' := mX5_daysTaken) (As := [.ref a1, .int x3, .ref a4, .int (jbc (ji S21 b103 (Int32.toNatClampNeg x2)))]) jo_X5_daysTaken jc_5 rfl jwM_X5_146 jwN_X5_daysTaken jwX_X5_daysTaken dX5_tryMaster_185 (jRok_m _ _ _) rfl (jle rfl) ⟨jle rfl, jle rfl⟩ hk120 h (fun r122 S121 h => ?_)
      refine jx_iadd dX5_tryMaster_188 ?_
      refine jx_istore (lv1 := [(12, .int (((ji S21 b24 (Int32.toNatClampNeg x2)) + r22) + r122)), (11, .int ((ji S21 b106 (Int32.toNatClampNeg x2)) + (ji S21 a4 4))), (10, .int (ji S21 b103 (Int32.toNatClampNeg x2))), (9, .int (ji S21 b28 3)), (8, .int ((ji S21 b24 (Int32.toNatClampNeg x2)) + r22)), (7, .int r22), (6, .int (ji S a4 2)), (5, .int (x2 + 1)), (0, .ref a0), (1, .ref a1), (2, .int x2), (3, .int x3), (4, .ref a4)]) dX5_tryMaster_189 (by decide) rfl ?_
      refine jx_iload 0 dX5_tryMaster_191 rfl ?_
      refine jx_aload_n 8 dX5_tryMaster_193 rfl rfl ?_
      obtain ⟨hk123, h⟩ := h
      refine jx_geti jc_5 (j := 9) (by decide) rfl jwF_X5_34 dX5_tryMaster_194 hk123 ?_
      refine jx_icmp_le (tgt := 201) dX5_tryMaster_197 (by decide) (fun c124 => ?_) (fun c124 => ?_)
      · replace h := h.1 c124
        refine jx_aload_n 8 dX5_tryMaster_201 rfl rfl ?_
        obtain ⟨b125, hb125, h⟩ := h
        refine jx_getr jc_5 (j := 0) (by decide) rfl jwF_X5_11 dX5_tryMaster_202 hk123 hb125 ?_
        refine jx_iload 7 dX5_tryMaster_205 rfl ?_
        refine jx_aload 12 dX5_tryMaster_207 rfl ?_
        obtain ⟨hk126, h⟩ := h
        refine jx_geti jc_2 (j := 1) (by decide) rfl jwF_X5_117 dX5_tryMaster_209 hk126 ?_
        obtain ⟨hk127, h⟩ := h
        obtain ⟨hi128, h⟩ := h
        refine jx_iast dX5_tryMaster_212 hk127 hi128 ?_
        refine jx_aload_n 8 dX5_tryMaster_213 rfl rfl ?_
        obtain ⟨b129, hb129, h⟩ := h
        refine jx_getr jc_5 (j := 1) (by decide) rfl jwF_X5_15 dX5_tryMaster_214 hk123 hb129 ?_
        refine jx_iload 7 dX5_tryMaster_217 rfl ?_
        refine jx_aload_n 8 dX5_tryMaster_219 rfl rfl ?_
        refine jx_iload 2 dX5_tryMaster_220 rfl ?_
        refine jx_iload 0 dX5_tryMaster_222 rfl ?_
        refine jx_iload 3 dX5_tryMaster_224 rfl ?_
        refine jx_callVi (M' := mX5_keptOf) (As := [.int (ji S21 b103 (Int32.toNatClampNeg x2)), .int (((ji S21 b24 (Int32.toNatClampNeg x2)) + r22) + r122), .int (ji S21 b28 3)]) jo_X5_keptOf jc_5 rfl jwM_X5_128 jwN_X5_keptOf jwX_X5_keptOf dX5_tryMaster_226 (jRok_m _ _ _) rfl (jle rfl) ⟨jle rfl, jle rfl⟩ hk123 h (fun r131 S130 h => ?_)
        refine jx_aload 12 dX5_tryMaster_229 rfl ?_
        obtain ⟨hk132, h⟩ := h
        refine jx_callVi (M' := mX2_unlearnt) (As := []) jo_X2_unlearnt jc_2 rfl jwM_X5_150 jwN_X2_unlearnt jwX_X2_unlearnt dX5_tryMaster_231 (jRok_m _ _ _) rfl (jle rfl) ⟨jle rfl, jle rfl⟩ hk132 h (fun r134 S133 h => ?_)
        refine jx_iconst (v := (-1)) dX5_tryMaster_234 (by decide) ?_
        refine jx_ixor dX5_tryMaster_235 ?_
        refine jx_iand dX5_tryMaster_236 ?_
        refine jx_iconst (v := 1) dX5_tryMaster_237 (by decide) ?_
        refine jx_iload 6 dX5_tryMaster_238 rfl ?_
        refine jx_ishl dX5_tryMaster_240 ?_
        refine jx_ior dX5_tryMaster_241 ?_
        obtain ⟨hk135, h⟩ := h
        obtain ⟨hi136, h⟩ := h
        refine jx_iast dX5_tryMaster_242 hk135 hi136 ?_
        refine jx_aload_n 8 dX5_tryMaster_243 rfl rfl ?_
        obtain ⟨hk137, h⟩ := h
        obtain ⟨b138, hb138, h⟩ := h
        refine jx_getr jc_5 (j := 2) (by decide) rfl jwF_X5_18 dX5_tryMaster_244 hk137 hb138 ?_
        refine jx_iload 7 dX5_tryMaster_247 rfl ?_
        refine jx_iload 0 dX5_tryMaster_249 rfl ?_
        obtain ⟨hk139, h⟩ := h
        obtain ⟨hi140, h⟩ := h
        refine jx_iast dX5_tryMaster_251 hk139 hi140 ?_
        refine jx_aload_n 8 dX5_tryMaster_252 rfl rfl ?_
        obtain ⟨b141, hb141, h⟩ := h
        refine jx_getr jc_5 (j := 3) (by decide) rfl jwF_X5_21 dX5_tryMaster_253 hk137 hb141 ?_
        refine jx_iload 7 dX5_tryMaster_256 rfl ?_
        refine jx_iload 1 dX5_tryMaster_258 rfl ?_
        obtain ⟨hk142, h⟩ := h
        obtain ⟨hi143, h⟩ := h
        refine jx_iast dX5_tryMaster_260 hk142 hi143 ?_
        refine jx_aload_n 8 dX5_tryMaster_261 rfl rfl ?_
        obtain ⟨b144, hb144, h⟩ := h
        refine jx_getr jc_5 (j := 4) (by decide) rfl jwF_X5_24 dX5_tryMaster_262 hk137 hb144 ?_
        refine jx_iload 7 dX5_tryMaster_265 rfl ?_
        refine jx_iload_n 10 dX5_tryMaster_267 rfl rfl ?_
        refine jx_if_ne (tgt := 275) dX5_tryMaster_268 (by decide) (fun c145 => ?_) (fun c145 => ?_)
        · replace h := h.2 c145
          refine jx_aload_n 8 dX5_tryMaster_275 rfl rfl ?_
          refine jx_getr jc_5 (j := 4) (by decide) rfl jwF_X5_24 dX5_tryMaster_276 hk137 hb144 ?_
          refine jx_iload_n 10 dX5_tryMaster_279 rfl rfl ?_
          obtain ⟨hk146, h⟩ := h
          obtain ⟨hi147, h⟩ := h
          refine jx_iald dX5_tryMaster_280 hk146 hi147 ?_
          obtain ⟨hi148, h⟩ := h
          refine jx_iast dX5_tryMaster_281 hk146 hi148 ?_
          refine jx_aload_n 8 dX5_tryMaster_282 rfl rfl ?_
          obtain ⟨b149, hb149, h⟩ := h
          refine jx_getr jc_5 (j := 5) (by decide) rfl jwF_X5_27 dX5_tryMaster_283 hk137 hb149 ?_
          refine jx_iload 6 dX5_tryMaster_286 rfl ?_
          obtain ⟨hk150, h⟩ := h
          obtain ⟨hi151, h⟩ := h
          refine jx_iald dX5_tryMaster_288 hk150 hi151 ?_
          refine jx_nm (fun y152 ey152 => ?_)
          replace h := h y152 ey152
          refine jx_istore (lv1 := [(13, .int y152), (12, .int (((ji S21 b24 (Int32.toNatClampNeg x2)) + r22) + r122)), (11, .int ((ji S21 b106 (Int32.toNatClampNeg x2)) + (ji S21 a4 4))), (10, .int (ji S21 b103 (Int32.toNatClampNeg x2))), (9, .int (ji S21 b28 3)), (8, .int ((ji S21 b24 (Int32.toNatClampNeg x2)) + r22)), (7, .int r22), (6, .int (ji S a4 2)), (5, .int (x2 + 1)), (0, .ref a0), (1, .ref a1), (2, .int x2), (3, .int x3), (4, .ref a4)]) dX5_tryMaster_289 (by decide) rfl ?_
          refine jx_aload_n 9 dX5_tryMaster_291 rfl rfl ?_
          refine jx_getr jc_5 (j := 5) (by decide) rfl jwF_X5_27 dX5_tryMaster_292 hk137 hb149 ?_
          refine jx_iload 7 dX5_tryMaster_295 rfl ?_
          refine jx_iload 1 dX5_tryMaster_297 rfl ?_
          refine jx_iast dX5_tryMaster_299 hk150 hi151 ?_
          refine jx_aload_n 9 dX5_tryMaster_300 rfl rfl ?_
          refine jx_aload_n 10 dX5_tryMaster_301 rfl rfl ?_
          refine jx_iload 8 dX5_tryMaster_302 rfl ?_
          refine jx_callVv (M' := mX5_goOn) (As := [.ref a1, .int (x2 + 1)]) jo_X5_goOn jc_5 rfl jwM_X5_79 jwN_X5_goOn jwX_X5_goOn dX5_tryMaster_304 (jRok_m _ _ _) rfl (jle rfl) ⟨jle rfl, jle rfl⟩ hk137 h (fun S153 h => ?_)
          refine jx_aload_n 9 dX5_tryMaster_307 rfl rfl ?_
          obtain ⟨hk154, h⟩ := h
          obtain ⟨b155, hb155, h⟩ := h
          refine jx_getr jc_5 (j := 5) (by decide) rfl jwF_X5_27 dX5_tryMaster_308 hk154 hb155 ?_
          refine jx_iload 7 dX5_tryMaster_311 rfl ?_
          refine jx_iload 0 dX5_tryMaster_313 rfl ?_
          obtain ⟨hk156, h⟩ := h
          obtain ⟨hi157, h⟩ := h
          refine jx_iast dX5_tryMaster_315 hk156 hi157 ?_
          exact jx_vret dX5_tryMaster_316 rfl (jle rfl) (jle rfl) ⟨rfl, h⟩
        replace h := h.1 c145
        refine jx_iload_n 11 dX5_tryMaster_271 rfl rfl ?_
        refine jx_goto (tgt := 281) dX5_tryMaster_272 (by decide) ?_
        obtain ⟨hk158, h⟩ := h
        obtain ⟨hi159, h⟩ := h
        refine jx_iast dX5_tryMaster_281 hk158 hi159 ?_
        refine jx_aload_n 8 dX5_tryMaster_282 rfl rfl ?_
        obtain ⟨b160, hb160, h⟩ := h
        refine jx_getr jc_5 (j := 5) (by decide) rfl jwF_X5_27 dX5_tryMaster_283 hk137 hb160 ?_
        refine jx_iload 6 dX5_tryMaster_286 rfl ?_
        obtain ⟨hk161, h⟩ := h
        obtain ⟨hi162, h⟩ := h
        refine jx_iald dX5_tryMaster_288 hk161 hi162 ?_
        refine jx_nm (fun y163 ey163 => ?_)
        replace h := h y163 ey163
        refine jx_istore (lv1 := [(13, .int y163), (12, .int (((ji S21 b24 (Int32.toNatClampNeg x2)) + r22) + r122)), (11, .int ((ji S21 b106 (Int32.toNatClampNeg x2)) + (ji S21 a4 4))), (10, .int (ji S21 b103 (Int32.toNatClampNeg x2))), (9, .int (ji S21 b28 3)), (8, .int ((ji S21 b24 (Int32.toNatClampNeg x2)) + r22)), (7, .int r22), (6, .int (ji S a4 2)), (5, .int (x2 + 1)), (0, .ref a0), (1, .ref a1), (2, .int x2), (3, .int x3), (4, .ref a4)]) dX5_tryMaster_289 (by decide) rfl ?_
        refine jx_aload_n 9 dX5_tryMaster_291 rfl rfl ?_
        refine jx_getr jc_5 (j := 5) (by decide) rfl jwF_X5_27 dX5_tryMaster_292 hk137 hb160 ?_
        refine jx_iload 7 dX5_tryMaster_295 rfl ?_
        refine jx_iload 1 dX5_tryMaster_297 rfl ?_
        refine jx_iast dX5_tryMaster_299 hk161 hi162 ?_
        refine jx_aload_n 9 dX5_tryMaster_300 rfl rfl ?_
        refine jx_aload_n 10 dX5_tryMaster_301 rfl rfl ?_
        refine jx_iload 8 dX5_tryMaster_302 rfl ?_
        refine jx_callVv (M' := mX5_goOn) (As := [.ref a1, .int (x2 + 1)]) jo_X5_goOn jc_5 rfl jwM_X5_79 jwN_X5_goOn jwX_X5_goOn dX5_tryMaster_304 (jRok_m _ _ _) rfl (jle rfl) ⟨jle rfl, jle rfl⟩ hk137 h (fun S164 h => ?_)
        refine jx_aload_n 9 dX5_tryMaster_307 rfl rfl ?_
        obtain ⟨hk165, h⟩ := h
        obtain ⟨b166, hb166, h⟩ := h
        refine jx_getr jc_5 (j := 5) (by decide) rfl jwF_X5_27 dX5_tryMaster_308 hk165 hb166 ?_
        refine jx_iload 7 dX5_tryMaster_311 rfl ?_
        refine jx_iload 0 dX5_tryMaster_313 rfl ?_
        obtain ⟨hk167, h⟩ := h
        obtain ⟨hi168, h⟩ := h
        refine jx_iast dX5_tryMaster_315 hk167 hi168 ?_
        exact jx_vret dX5_tryMaster_316 rfl (jle rfl) (jle rfl) ⟨rfl, h⟩
      replace h := h.2 c124
      exact jx_vret dX5_tryMaster_200 rfl (jle rfl) (jle rfl) ⟨rfl, h⟩
    replace h := h.1 c116
    exact jx_vret dX5_tryMaster_172 rfl (jle rfl) (jle rfl) ⟨rfl, h⟩
  replace h := h.1 c13
  exact jx_vret dX5_tryMaster_39 rfl (jle rfl) (jle rfl) ⟨rfl, h⟩
/-- X5_keptOf at its loop's head 12 -/
abbrev L_X5_keptOf_12 (E : jEnv) (d : Nat) (Q : Int32 → jM → Prop) (a0 : Nat) (x2 : Int32) (x3 : Int32) (x4 : Int32) (x5 : Int32) (S : jM) : Prop := jX E mX5_keptOf (jRm d 0 0) (jZm E (fun r S' => ∃ v : Int32, r = some (.int v) ∧ Q v S') 0 0) 12 [(0, .ref a0), (2, .int x2), (3, .int x3), (4, .int x4), (5, .int x5)] [] S 0 0
set_option maxRecDepth 100000 in
set_option maxHeartbeats 4000000 in
theorem T_X5_keptOf {E : jEnv} {d : Nat} {Q : Int32 → jM → Prop} {a0 : Nat} {x1 : Int32} {x2 : Int32} {x3 : Int32} {S : jM} (h : (x3 = 0 → Q x1 S) ∧ (¬ x3 = 0 → L_X5_keptOf_12 E d Q a0 x2 x3 x1 0 S)) : jFi E mX5_keptOf d 0 0 [.ref a0, .int x1, .int x2, .int x3] S Q := by
  refine jF_of (by decide) (jle rfl) ?_
  refine jx_lv (lv1 := [(0, .ref a0), (1, .int x1), (2, .int x2), (3, .int x3)]) [0, 1, 2, 3] rfl ?_
  refine jx_iload_n 3 dX5_keptOf_0 rfl rfl ?_
  refine jx_if_ne (tgt := 6) dX5_keptOf_1 (by decide) (fun c1 => ?_) (fun c1 => ?_)
  · replace h := h.2 c1
    refine jx_iload_n 1 dX5_keptOf_6 rfl rfl ?_
    refine jx_istore (lv1 := [(4, .int x1), (0, .ref a0), (1, .int x1), (2, .int x2), (3, .int x3)]) dX5_keptOf_7 (by decide) rfl ?_
    refine jx_iconst (v := 0) dX5_keptOf_9 (by decide) ?_
    refine jx_istore (lv1 := [(5, .int 0), (4, .int x1), (0, .ref a0), (1, .int x1), (2, .int x2), (3, .int x3)]) dX5_keptOf_10 (by decide) rfl ?_
    exact jx_lv [2, 4, 5, 1, 0] rfl h
  replace h := h.1 c1
  refine jx_iload_n 1 dX5_keptOf_4 rfl rfl ?_
  exact jx_iret dX5_keptOf_5 rfl rfl (jle rfl) (jle rfl) ⟨_, rfl, h⟩
set_option maxRecDepth 100000 in
set_option maxHeartbeats 4000000 in
theorem T_X5_keptOf_12 {E : jEnv} {d : Nat} {Q : Int32 → jM → Prop} {a0 : Nat} {x2 : Int32} {x3 : Int32} {x4 : Int32} {x5 : Int32} {S : jM} (h : (10 ≤ x5 → Q x4 S) ∧ (¬ 10 ≤ x5 → jk S a0 = 5 ∧ ∃ b4, jr S a0 5 = some b4 ∧ (jk S b4 = 12 ∧ vp_in x5 (jl S b4) ∧ (((x2 - (ji S b4 (Int32.toNatClampNeg x5))) ≤ x3 → L_X5_keptOf_12 E d Q a0 x2 x3 x4 (x5 + 1) S) ∧ (¬ (x2 - (ji S b4 (Int32.toNatClampNeg x5))) ≤ x3 → L_X5_keptOf_12 E d Q a0 x2 x3 (x4 &&& ((jshl 1 x5) ^^^ (-1))) (x5 + 1) S))))) : L_X5_keptOf_12 E d Q a0 x2 x3 x4 x5 S := by
  show jX E mX5_keptOf (jRm d 0 0) (jZm E (fun r S' => ∃ v : Int32, r = some (.int v) ∧ Q v S') 0 0) 12 [(0, .ref a0), (2, .int x2), (3, .int x3), (4, .int x4), (5, .int x5)] [] S 0 0
  refine jx_iload 4 dX5_keptOf_12 rfl ?_
  refine jx_bipush (v := 10) dX5_keptOf_14 (by decide) ?_
  refine jx_icmp_ge (tgt := 49) dX5_keptOf_16 (by decide) (fun c2 => ?_) (fun c2 => ?_)
  · replace h := h.1 c2
    refine jx_iload 3 dX5_keptOf_49 rfl ?_
    exact jx_iret dX5_keptOf_51 rfl rfl (jle rfl) (jle rfl) ⟨_, rfl, h⟩
  replace h := h.2 c2
  refine jx_iload_n 1 dX5_keptOf_19 rfl rfl ?_
  refine jx_aload_n 0 dX5_keptOf_20 rfl rfl ?_
  obtain ⟨hk3, h⟩ := h
  obtain ⟨b4, hb4, h⟩ := h
  refine jx_getr jc_5 (j := 5) (by decide) rfl jwF_X5_27 dX5_keptOf_21 hk3 hb4 ?_
  refine jx_iload 4 dX5_keptOf_24 rfl ?_
  obtain ⟨hk5, h⟩ := h
  obtain ⟨hi6, h⟩ := h
  refine jx_iald dX5_keptOf_26 hk5 hi6 ?_
  refine jx_isub dX5_keptOf_27 ?_
  refine jx_iload_n 2 dX5_keptOf_28 rfl rfl ?_
  refine jx_icmp_le (tgt := 43) dX5_keptOf_29 (by decide) (fun c7 => ?_) (fun c7 => ?_)
  · replace h := h.1 c7
    refine jx_iinc 4 (v := (x5 + 1)) (lv1 := [(5, .int (x5 + 1)), (0, .ref a0), (2, .int x2), (3, .int x3), (4, .int x4)]) dX5_keptOf_43 rfl rfl (by decide) rfl ?_
    refine jx_goto (tgt := 12) dX5_keptOf_46 (by decide) ?_
    exact jx_lv [1, 2, 3, 4, 0] rfl h
  replace h := h.2 c7
  refine jx_iload 3 dX5_keptOf_32 rfl ?_
  refine jx_iconst (v := 1) dX5_keptOf_34 (by decide) ?_
  refine jx_iload 4 dX5_keptOf_35 rfl ?_
  refine jx_ishl dX5_keptOf_37 ?_
  refine jx_iconst (v := (-1)) dX5_keptOf_38 (by decide) ?_
  refine jx_ixor dX5_keptOf_39 ?_
  refine jx_iand dX5_keptOf_40 ?_
  refine jx_istore (lv1 := [(4, .int (x4 &&& ((jshl 1 x5) ^^^ (-1)))), (0, .ref a0), (2, .int x2), (3, .int x3), (5, .int x5)]) dX5_keptOf_41 (by decide) rfl ?_
  refine jx_iinc 4 (v := (x5 + 1)) (lv1 := [(5, .int (x5 + 1)), (4, .int (x4 &&& ((jshl 1 x5) ^^^ (-1)))), (0, .ref a0), (2, .int x2), (3, .int x3)]) dX5_keptOf_43 rfl rfl (by decide) rfl ?_
  refine jx_goto (tgt := 12) dX5_keptOf_46 (by decide) ?_
  exact jx_lv [2, 3, 4, 1, 0] rfl h
set_option maxRecDepth 100000 in
set_option maxHeartbeats 4000000 in
theorem T_X5_daysTaken {E : jEnv} {d : Nat} {Q : Int32 → jM → Prop} {a0 : Nat} {a1 : Nat} {x2 : Int32} {a3 : Nat} {x4 : Int32} {S : jM} (h : jk S a0 = 5 ∧ ∃ b2, jr S a0 6 = some b2 ∧ (jk S b2 = 12 ∧ ((jwi ((x2 * 11) + x4) (nI (jl S b2))) = 0 → jk S a1 = 3 ∧ jFi E mX3_daysTaken d 0 0 [.ref a1, .ref a3, .int x4] S (fun r21 S20 => Q r21 S20)) ∧ (¬ (jwi ((x2 * 11) + x4) (nI (jl S b2))) = 0 → vp_in ((x2 * 11) + x4) (jl S b2) ∧ (((ji S b2 (Int32.toNatClampNeg ((x2 * 11) + x4))) = 0 → jk S a1 = 3 ∧ jFi E mX3_daysTaken d 0 0 [.ref a1, .ref a3, .int x4] S (fun r12 S11 => jk S11 b2 = 12 ∧ vp_in ((x2 * 11) + x4) (jl S11 b2) ∧ (jk S11 a0 = 5 ∧ ∃ b16, jr S11 a0 6 = some b16 ∧ (jk S11 b16 = 12 ∧ vp_in ((x2 * 11) + x4) (jl S11 b16) ∧ (Q (ji (jput S11 b2 (Int32.toNatClampNeg ((x2 * 11) + x4)) r12) b16 (Int32.toNatClampNeg ((x2 * 11) + x4))) (jput S11 b2 (Int32.toNatClampNeg ((x2 * 11) + x4)) r12)))))) ∧ (¬ (ji S b2 (Int32.toNatClampNeg ((x2 * 11) + x4))) = 0 → (Q (ji S b2 (Int32.toNatClampNeg ((x2 * 11) + x4))) S)))))) : jFi E mX5_daysTaken (d + 1) 0 0 [.ref a0, .ref a1, .int x2, .ref a3, .int x4] S Q := by
  refine jF_of (by decide) (jle rfl) ?_
  refine jx_lv (lv1 := [(0, .ref a0), (1, .ref a1), (2, .int x2), (3, .ref a3), (4, .int x4)]) [0, 1, 2, 3, 4] rfl ?_
  refine jx_iload_n 2 dX5_daysTaken_0 rfl rfl ?_
  refine jx_bipush (v := 11) dX5_daysTaken_1 (by decide) ?_
  refine jx_imul dX5_daysTaken_3 ?_
  refine jx_iload 4 dX5_daysTaken_4 rfl ?_
  refine jx_iadd dX5_daysTaken_6 ?_
  refine jx_istore (lv1 := [(5, .int ((x2 * 11) + x4)), (0, .ref a0), (1, .ref a1), (2, .int x2), (3, .ref a3), (4, .int x4)]) dX5_daysTaken_7 (by decide) rfl ?_
  refine jx_iload 0 dX5_daysTaken_9 rfl ?_
  refine jx_aload_n 1 dX5_daysTaken_11 rfl rfl ?_
  obtain ⟨hk1, h⟩ := h
  obtain ⟨b2, hb2, h⟩ := h
  refine jx_getr jc_5 (j := 6) (by decide) rfl jwF_X5_30 dX5_daysTaken_12 hk1 hb2 ?_
  obtain ⟨hk3, h⟩ := h
  refine jx_alen dX5_daysTaken_15 hk3 ?_
  refine jx_callSNi (M' := mX10_within) (As := [.int ((x2 * 11) + x4), .int (nI (jl S b2))]) (host := "NineMasters") jo_X10_within (by decide) jwS_X10_within dX5_daysTaken_16 (jRok_m _ _ _) rfl (jle rfl) ⟨jle rfl, jle rfl⟩ (c_X10_within (Q := fun v S' => v = (jwi ((x2 * 11) + x4) (nI (jl S b2))) ∧ S = S') ⟨rfl, rfl⟩) (fun r4 S5 hq6 => ?_)
  obtain ⟨rfl, rfl⟩ := hq6
  refine jx_if_ne (tgt := 30) dX5_daysTaken_19 (by decide) (fun c7 => ?_) (fun c7 => ?_)
  · replace h := h.2 c7
    refine jx_aload_n 1 dX5_daysTaken_30 rfl rfl ?_
    refine jx_getr jc_5 (j := 6) (by decide) rfl jwF_X5_30 dX5_daysTaken_31 hk1 hb2 ?_
    refine jx_iload 0 dX5_daysTaken_34 rfl ?_
    obtain ⟨hi8, h⟩ := h
    refine jx_iald dX5_daysTaken_36 hk3 hi8 ?_
    refine jx_if_ne (tgt := 54) dX5_daysTaken_37 (by decide) (fun c9 => ?_) (fun c9 => ?_)
    · replace h := h.2 c9
      refine jx_aload_n 1 dX5_daysTaken_54 rfl rfl ?_
      refine jx_getr jc_5 (j := 6) (by decide) rfl jwF_X5_30 dX5_daysTaken_55 hk1 hb2 ?_
      refine jx_iload 0 dX5_daysTaken_58 rfl ?_
      refine jx_iald dX5_daysTaken_60 hk3 hi8 ?_
      exact jx_iret dX5_daysTaken_61 rfl rfl (jle rfl) (jle rfl) ⟨_, rfl, h⟩
    replace h := h.1 c9
    refine jx_aload_n 1 dX5_daysTaken_40 rfl rfl ?_
    refine jx_getr jc_5 (j := 6) (by decide) rfl jwF_X5_30 dX5_daysTaken_41 hk1 hb2 ?_
    refine jx_iload 0 dX5_daysTaken_44 rfl ?_
    refine jx_aload_n 2 dX5_daysTaken_46 rfl rfl ?_
    refine jx_aload_n 4 dX5_daysTaken_47 rfl rfl ?_
    refine jx_iload 5 dX5_daysTaken_48 rfl ?_
    obtain ⟨hk10, h⟩ := h
    refine jx_callVi (M' := mX3_daysTaken) (As := [.ref a3, .int x4]) jo_X3_daysTaken jc_3 rfl jwM_X5_153 jwN_X3_daysTaken jwX_X3_daysTaken dX5_daysTaken_50 (jRok_m _ _ _) rfl (jle rfl) ⟨jle rfl, jle rfl⟩ hk10 h (fun r12 S11 h => ?_)
    obtain ⟨hk13, h⟩ := h
    obtain ⟨hi14, h⟩ := h
    refine jx_iast dX5_daysTaken_53 hk13 hi14 ?_
    refine jx_aload_n 1 dX5_daysTaken_54 rfl rfl ?_
    obtain ⟨hk15, h⟩ := h
    obtain ⟨b16, hb16, h⟩ := h
    refine jx_getr jc_5 (j := 6) (by decide) rfl jwF_X5_30 dX5_daysTaken_55 hk15 hb16 ?_
    refine jx_iload 0 dX5_daysTaken_58 rfl ?_
    obtain ⟨hk17, h⟩ := h
    obtain ⟨hi18, h⟩ := h
    refine jx_iald dX5_daysTaken_60 hk17 hi18 ?_
    exact jx_iret dX5_daysTaken_61 rfl rfl (jle rfl) (jle rfl) ⟨_, rfl, h⟩
  replace h := h.1 c7
  refine jx_aload_n 2 dX5_daysTaken_22 rfl rfl ?_
  refine jx_aload_n 4 dX5_daysTaken_23 rfl rfl ?_
  refine jx_iload 5 dX5_daysTaken_24 rfl ?_
  obtain ⟨hk19, h⟩ := h
  refine jx_callVi (M' := mX3_daysTaken) (As := [.ref a3, .int x4]) jo_X3_daysTaken jc_3 rfl jwM_X5_153 jwN_X3_daysTaken jwX_X3_daysTaken dX5_daysTaken_26 (jRok_m _ _ _) rfl (jle rfl) ⟨jle rfl, jle rfl⟩ hk19 h (fun r21 S20 h => ?_)
  exact jx_iret dX5_daysTaken_29 rfl rfl (jle rfl) (jle rfl) ⟨_, rfl, h⟩
set_option maxRecDepth 100000 in
set_option maxHeartbeats 4000000 in
theorem T_X5_offer {E : jEnv} {d : Nat} {Q : jM → Prop} {a0 : Nat} {x1 : Int32} {S : jM} (h : ((jwi x1 5) = 0 → Q S) ∧ (¬ (jwi x1 5) = 0 → jk S a0 = 5 ∧ ∃ b6, jr S a0 2 = some b6 ∧ (jk S b6 = 12 ∧ vp_in x1 (jl S b6) ∧ (∃ b9, jr S a0 3 = some b9 ∧ (jk S b9 = 12 ∧ vp_in x1 (jl S b9) ∧ (∃ b12, jr S a0 4 = some b12 ∧ (jk S b12 = 12 ∧ vp_in x1 (jl S b12) ∧ (jFi E mX5_isBetter d 0 0 [.ref a0, .int (ji S b6 (Int32.toNatClampNeg x1)), .int (ji S b9 (Int32.toNatClampNeg x1)), .int (ji S b12 (Int32.toNatClampNeg x1))] S (fun r16 S15 => (r16 = 0 → Q S15) ∧ (¬ r16 = 0 → jk S15 a0 = 5 ∧ ∃ b19, jr S15 a0 2 = some b19 ∧ (jk S15 b19 = 12 ∧ vp_in x1 (jl S15 b19) ∧ (∃ b22, jr S15 a0 3 = some b22 ∧ (jk S15 b22 = 12 ∧ vp_in x1 (jl S15 b22) ∧ (∃ b25, jr S15 a0 4 = some b25 ∧ (jk S15 b25 = 12 ∧ vp_in x1 (jl S15 b25) ∧ (Q (jput (jput (jput S15 a0 9 (ji S15 b19 (Int32.toNatClampNeg x1))) a0 10 (ji S15 b22 (Int32.toNatClampNeg x1))) a0 11 (ji S15 b25 (Int32.toNatClampNeg x1))))))))))))))))))) : jFv E mX5_offer (d + 1) 0 0 [.ref a0, .int x1] S Q := by
  refine jF_of (by decide) (jle rfl) ?_
  refine jx_lv (lv1 := [(0, .ref a0), (1, .int x1)]) [0, 1] rfl ?_
  refine jx_iload_n 1 dX5_offer_0 rfl rfl ?_
  refine jx_iconst (v := 5) dX5_offer_1 (by decide) ?_
  refine jx_callSNi (M' := mX10_within) (As := [.int x1, .int 5]) (host := "NineMasters") jo_X10_within (by decide) jwS_X10_within dX5_offer_2 (jRok_m _ _ _) rfl (jle rfl) ⟨jle rfl, jle rfl⟩ (c_X10_within (Q := fun v S' => v = (jwi x1 5) ∧ S = S') ⟨rfl, rfl⟩) (fun r1 S2 hq3 => ?_)
  obtain ⟨rfl, rfl⟩ := hq3
  refine jx_if_eq (tgt := 63) dX5_offer_5 (by decide) (fun c4 => ?_) (fun c4 => ?_)
  · replace h := h.1 c4
    exact jx_vret dX5_offer_63 rfl (jle rfl) (jle rfl) ⟨rfl, h⟩
  replace h := h.2 c4
  refine jx_aload_n 0 dX5_offer_8 rfl rfl ?_
  refine jx_aload_n 0 dX5_offer_9 rfl rfl ?_
  obtain ⟨hk5, h⟩ := h
  obtain ⟨b6, hb6, h⟩ := h
  refine jx_getr jc_5 (j := 2) (by decide) rfl jwF_X5_18 dX5_offer_10 hk5 hb6 ?_
  refine jx_iload_n 1 dX5_offer_13 rfl rfl ?_
  obtain ⟨hk7, h⟩ := h
  obtain ⟨hi8, h⟩ := h
  refine jx_iald dX5_offer_14 hk7 hi8 ?_
  refine jx_aload_n 0 dX5_offer_15 rfl rfl ?_
  obtain ⟨b9, hb9, h⟩ := h
  refine jx_getr jc_5 (j := 3) (by decide) rfl jwF_X5_21 dX5_offer_16 hk5 hb9 ?_
  refine jx_iload_n 1 dX5_offer_19 rfl rfl ?_
  obtain ⟨hk10, h⟩ := h
  obtain ⟨hi11, h⟩ := h
  refine jx_iald dX5_offer_20 hk10 hi11 ?_
  refine jx_aload_n 0 dX5_offer_21 rfl rfl ?_
  obtain ⟨b12, hb12, h⟩ := h
  refine jx_getr jc_5 (j := 4) (by decide) rfl jwF_X5_24 dX5_offer_22 hk5 hb12 ?_
  refine jx_iload_n 1 dX5_offer_25 rfl rfl ?_
  obtain ⟨hk13, h⟩ := h
  obtain ⟨hi14, h⟩ := h
  refine jx_iald dX5_offer_26 hk13 hi14 ?_
  refine jx_callVi (M' := mX5_isBetter) (As := [.int (ji S b6 (Int32.toNatClampNeg x1)), .int (ji S b9 (Int32.toNatClampNeg x1)), .int (ji S b12 (Int32.toNatClampNeg x1))]) jo_X5_isBetter jc_5 rfl jwM_X5_156 jwN_X5_isBetter jwX_X5_isBetter dX5_offer_27 (jRok_m _ _ _) rfl (jle rfl) ⟨jle rfl, jle rfl⟩ hk5 h (fun r16 S15 h => ?_)
  refine jx_if_eq (tgt := 63) dX5_offer_30 (by decide) (fun c17 => ?_) (fun c17 => ?_)
  · replace h := h.1 c17
    exact jx_vret dX5_offer_63 rfl (jle rfl) (jle rfl) ⟨rfl, h⟩
  replace h := h.2 c17
  refine jx_aload_n 0 dX5_offer_33 rfl rfl ?_
  refine jx_aload_n 0 dX5_offer_34 rfl rfl ?_
  obtain ⟨hk18, h⟩ := h
  obtain ⟨b19, hb19, h⟩ := h
  refine jx_getr jc_5 (j := 2) (by decide) rfl jwF_X5_18 dX5_offer_35 hk18 hb19 ?_
  refine jx_iload_n 1 dX5_offer_38 rfl rfl ?_
  obtain ⟨hk20, h⟩ := h
  obtain ⟨hi21, h⟩ := h
  refine jx_iald dX5_offer_39 hk20 hi21 ?_
  refine jx_puti jc_5 (j := 9) (by decide) rfl jwF_X5_34 rfl rfl rfl dX5_offer_40 hk18 ?_
  refine jx_aload_n 0 dX5_offer_43 rfl rfl ?_
  refine jx_aload_n 0 dX5_offer_44 rfl rfl ?_
  obtain ⟨b22, hb22, h⟩ := h
  refine jx_getr jc_5 (j := 3) (by decide) rfl jwF_X5_21 dX5_offer_45 hk18 hb22 ?_
  refine jx_iload_n 1 dX5_offer_48 rfl rfl ?_
  obtain ⟨hk23, h⟩ := h
  obtain ⟨hi24, h⟩ := h
  refine jx_iald dX5_offer_49 hk23 hi24 ?_
  refine jx_topi (y := (ji S15 b22 (Int32.toNatClampNeg x1))) (by simp [ji_put, ji_row, ji_putr, jne hk23 hk18 (by decide)]) ?_
  refine jx_puti jc_5 (j := 10) (by decide) rfl jwF_X5_38 rfl rfl rfl dX5_offer_50 hk18 ?_
  refine jx_aload_n 0 dX5_offer_53 rfl rfl ?_
  refine jx_aload_n 0 dX5_offer_54 rfl rfl ?_
  obtain ⟨b25, hb25, h⟩ := h
  refine jx_getr jc_5 (j := 4) (by decide) rfl jwF_X5_24 dX5_offer_55 hk18 hb25 ?_
  refine jx_iload_n 1 dX5_offer_58 rfl rfl ?_
  obtain ⟨hk26, h⟩ := h
  obtain ⟨hi27, h⟩ := h
  refine jx_iald dX5_offer_59 hk26 hi27 ?_
  refine jx_topi (y := (ji S15 b25 (Int32.toNatClampNeg x1))) (by simp [ji_put, ji_row, ji_putr, jne hk26 hk18 (by decide), jne hk26 hk18 (by decide)]) ?_
  refine jx_puti jc_5 (j := 11) (by decide) rfl jwF_X5_41 rfl rfl rfl dX5_offer_60 hk18 ?_
  exact jx_vret dX5_offer_63 rfl (jle rfl) (jle rfl) ⟨rfl, h⟩
set_option maxRecDepth 100000 in
set_option maxHeartbeats 4000000 in
theorem T_X5_isBetter {E : jEnv} {d : Nat} {Q : Int32 → jM → Prop} {a0 : Nat} {x1 : Int32} {x2 : Int32} {x3 : Int32} {S : jM} (h : jk S a0 = 5 ∧ (x1 = (ji S a0 9) → (x2 = (ji S a0 10) → ((ji S a0 11) ≤ x3 → Q 0 S) ∧ (¬ (ji S a0 11) ≤ x3 → Q 1 S)) ∧ (¬ x2 = (ji S a0 10) → ((ji S a0 10) ≤ x2 → Q 0 S) ∧ (¬ (ji S a0 10) ≤ x2 → Q 1 S))) ∧ (¬ x1 = (ji S a0 9) → ((ji S a0 9) ≤ x1 → Q 0 S) ∧ (¬ (ji S a0 9) ≤ x1 → Q 1 S))) : jFi E mX5_isBetter d 0 0 [.ref a0, .int x1, .int x2, .int x3] S Q := by
  refine jF_of (by decide) (jle rfl) ?_
  refine jx_lv (lv1 := [(0, .ref a0), (1, .int x1), (2, .int x2), (3, .int x3)]) [0, 1, 2, 3] rfl ?_
  refine jx_iload_n 1 dX5_isBetter_0 rfl rfl ?_
  refine jx_aload_n 0 dX5_isBetter_1 rfl rfl ?_
  obtain ⟨hk1, h⟩ := h
  refine jx_geti jc_5 (j := 9) (by decide) rfl jwF_X5_34 dX5_isBetter_2 hk1 ?_
  refine jx_icmp_eq (tgt := 22) dX5_isBetter_5 (by decide) (fun c2 => ?_) (fun c2 => ?_)
  · replace h := h.1 c2
    refine jx_iload_n 2 dX5_isBetter_22 rfl rfl ?_
    refine jx_aload_n 0 dX5_isBetter_23 rfl rfl ?_
    refine jx_geti jc_5 (j := 10) (by decide) rfl jwF_X5_38 dX5_isBetter_24 hk1 ?_
    refine jx_icmp_eq (tgt := 46) dX5_isBetter_27 (by decide) (fun c3 => ?_) (fun c3 => ?_)
    · replace h := h.1 c3
      refine jx_iload_n 3 dX5_isBetter_46 rfl rfl ?_
      refine jx_aload_n 0 dX5_isBetter_47 rfl rfl ?_
      refine jx_geti jc_5 (j := 11) (by decide) rfl jwF_X5_41 dX5_isBetter_48 hk1 ?_
      refine jx_icmp_ge (tgt := 58) dX5_isBetter_51 (by decide) (fun c4 => ?_) (fun c4 => ?_)
      · replace h := h.1 c4
        refine jx_iconst (v := 0) dX5_isBetter_58 (by decide) ?_
        exact jx_iret dX5_isBetter_59 rfl (by decide) (jle rfl) (jle rfl) ⟨_, rfl, h⟩
      replace h := h.2 c4
      refine jx_iconst (v := 1) dX5_isBetter_54 (by decide) ?_
      refine jx_goto (tgt := 59) dX5_isBetter_55 (by decide) ?_
      exact jx_iret dX5_isBetter_59 rfl (by decide) (jle rfl) (jle rfl) ⟨_, rfl, h⟩
    replace h := h.2 c3
    refine jx_iload_n 2 dX5_isBetter_30 rfl rfl ?_
    refine jx_aload_n 0 dX5_isBetter_31 rfl rfl ?_
    refine jx_geti jc_5 (j := 10) (by decide) rfl jwF_X5_38 dX5_isBetter_32 hk1 ?_
    refine jx_icmp_ge (tgt := 42) dX5_isBetter_35 (by decide) (fun c5 => ?_) (fun c5 => ?_)
    · replace h := h.1 c5
      refine jx_iconst (v := 0) dX5_isBetter_42 (by decide) ?_
      refine jx_goto (tgt := 59) dX5_isBetter_43 (by decide) ?_
      exact jx_iret dX5_isBetter_59 rfl (by decide) (jle rfl) (jle rfl) ⟨_, rfl, h⟩
    replace h := h.2 c5
    refine jx_iconst (v := 1) dX5_isBetter_38 (by decide) ?_
    refine jx_goto (tgt := 59) dX5_isBetter_39 (by decide) ?_
    exact jx_iret dX5_isBetter_59 rfl (by decide) (jle rfl) (jle rfl) ⟨_, rfl, h⟩
  replace h := h.2 c2
  refine jx_iload_n 1 dX5_isBetter_8 rfl rfl ?_
  refine jx_aload_n 0 dX5_isBetter_9 rfl rfl ?_
  refine jx_geti jc_5 (j := 9) (by decide) rfl jwF_X5_34 dX5_isBetter_10 hk1 ?_
  refine jx_icmp_ge (tgt := 20) dX5_isBetter_13 (by decide) (fun c6 => ?_) (fun c6 => ?_)
  · replace h := h.1 c6
    refine jx_iconst (v := 0) dX5_isBetter_20 (by decide) ?_
    exact jx_iret dX5_isBetter_21 rfl (by decide) (jle rfl) (jle rfl) ⟨_, rfl, h⟩
  replace h := h.2 c6
  refine jx_iconst (v := 1) dX5_isBetter_16 (by decide) ?_
  refine jx_goto (tgt := 21) dX5_isBetter_17 (by decide) ?_
  exact jx_iret dX5_isBetter_21 rfl (by decide) (jle rfl) (jle rfl) ⟨_, rfl, h⟩
