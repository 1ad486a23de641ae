set_option maxRecDepth 100000 in
set_option maxHeartbeats 4000000 in
theorem T_X11_text {E : jEnv} {d : Nat} {Q : Int32 → jM → Prop} {a0 : Nat} {S : jM} (h : jk S a0 = 11 ∧ jFi E mX11_parse d 0 0 [.ref a0] S (fun r3 S2 => (0 ≤ r3 → jk S2 a0 = 11 ∧ ∃ b6, jr S2 a0 0 = some b6 ∧ (jk S2 b6 = 12 ∧ vp_in 1 (jl S2 b6) ∧ (((ji S2 b6 (Int32.toNatClampNeg 1)) = 14 → Q (-1000000003) S2) ∧ (¬ (ji S2 b6 (Int32.toNatClampNeg 1)) = 14 → (vp_in ((jtextat (ji S2 b6 (Int32.toNatClampNeg 1))) + 0) (jl S2 b6) ∧ (vp_in ((jtextat (ji S2 b6 (Int32.toNatClampNeg 1))) + 1) (jl S2 b6) ∧ (vp_in ((jtextat (ji S2 b6 (Int32.toNatClampNeg 1))) + 2) (jl S2 b6) ∧ ((((Q (((ji (jput (jput (jput S2 b6 (Int32.toNatClampNeg ((jtextat (ji S2 b6 (Int32.toNatClampNeg 1))) + 0)) r3) b6 (Int32.toNatClampNeg ((jtextat (ji S2 b6 (Int32.toNatClampNeg 1))) + 1)) (ji S2 a0 29)) b6 (Int32.toNatClampNeg ((jtextat (ji S2 b6 (Int32.toNatClampNeg 1))) + 2)) (ji S2 a0 27)) b6 (Int32.toNatClampNeg 1)) + 1) - 1) (jput (jput (jput (jput S2 b6 (Int32.toNatClampNeg ((jtextat (ji S2 b6 (Int32.toNatClampNeg 1))) + 0)) r3) b6 (Int32.toNatClampNeg ((jtextat (ji S2 b6 (Int32.toNatClampNeg 1))) + 1)) (ji S2 a0 29)) b6 (Int32.toNatClampNeg ((jtextat (ji S2 b6 (Int32.toNatClampNeg 1))) + 2)) (ji S2 a0 27)) b6 (Int32.toNatClampNeg 1) ((ji (jput (jput (jput S2 b6 (Int32.toNatClampNeg ((jtextat (ji S2 b6 (Int32.toNatClampNeg 1))) + 0)) r3) b6 (Int32.toNatClampNeg ((jtextat (ji S2 b6 (Int32.toNatClampNeg 1))) + 1)) (ji S2 a0 29)) b6 (Int32.toNatClampNeg ((jtextat (ji S2 b6 (Int32.toNatClampNeg 1))) + 2)) (ji S2 a0 27)) b6 (Int32.toNatClampNeg 1)) + 1))))))))))))) ∧ (¬ 0 ≤ r3 → jk S2 a0 = 11 ∧ Q ((-100) - (ji S2 a0 20)) S2))) : jFi E mX11_text (d + 1) 0 0 [.ref a0] S Q := by
  refine jF_of (by decide) (jle rfl) ?_
  refine jx_lv (lv1 := [(0, .ref a0)]) [0] rfl ?_
  refine jx_aload_n 0 dX11_text_0 rfl rfl ?_
  obtain ⟨hk1, h⟩ := h
  refine jx_callVi (M' := mX11_parse) (As := []) jo_X11_parse jc_11 rfl jwM_X11_302 jwN_X11_parse jwX_X11_parse dX11_text_1 (jRok_m _ _ _) rfl (jle rfl) ⟨jle rfl, jle rfl⟩ hk1 h (fun r3 S2 h => ?_)
  refine jx_istore_n (lv1 := [(1, .int r3), (0, .ref a0)]) dX11_text_4 rfl (by decide) rfl ?_
  refine jx_iload_n 0 dX11_text_5 rfl rfl ?_
  refine jx_if_ge (tgt := 17) dX11_text_6 (by decide) (fun c4 => ?_) (fun c4 => ?_)
  · replace h := h.1 c4
    refine jx_aload_n 1 dX11_text_17 rfl rfl ?_
    obtain ⟨hk5, h⟩ := h
    obtain ⟨b6, hb6, h⟩ := h
    refine jx_getr jc_11 (j := 0) (by decide) rfl jwF_X11_7 dX11_text_18 hk5 hb6 ?_
    refine jx_iconst (v := 1) dX11_text_21 (by decide) ?_
    obtain ⟨hk7, h⟩ := h
    obtain ⟨hi8, h⟩ := h
    refine jx_iald dX11_text_22 hk7 hi8 ?_
    refine jx_bipush (v := 14) dX11_text_23 (by decide) ?_
    refine jx_icmp_ne (tgt := 31) dX11_text_25 (by decide) (fun c9 => ?_) (fun c9 => ?_)
    · replace h := h.2 c9
      refine jx_aload_n 1 dX11_text_31 rfl rfl ?_
      refine jx_aload_n 1 dX11_text_32 rfl rfl ?_
      refine jx_getr jc_11 (j := 0) (by decide) rfl jwF_X11_7 dX11_text_33 hk5 hb6 ?_
      refine jx_iconst (v := 1) dX11_text_36 (by decide) ?_
      refine jx_iald dX11_text_37 hk7 hi8 ?_
      refine jx_callVi (M' := mX11_textAt) (As := [.int (ji S2 b6 (Int32.toNatClampNeg 1))]) jo_X11_textAt jc_11 rfl jwM_X11_296 jwN_X11_textAt jwX_X11_textAt dX11_text_38 (jRok_m _ _ _) rfl (jle rfl) ⟨jle rfl, jle rfl⟩ hk5 (c_X11_textAt (Q := fun v S' => v = (jtextat (ji S2 b6 (Int32.toNatClampNeg 1))) ∧ S2 = S') ⟨rfl, rfl⟩) (fun r10 S11 hq12 => ?_)
      obtain ⟨rfl, rfl⟩ := hq12
      refine jx_istore_n (lv1 := [(2, .int (jtextat (ji S2 b6 (Int32.toNatClampNeg 1)))), (1, .int r3), (0, .ref a0)]) dX11_text_41 rfl (by decide) rfl ?_
      refine jx_aload_n 2 dX11_text_42 rfl rfl ?_
      refine jx_getr jc_11 (j := 0) (by decide) rfl jwF_X11_7 dX11_text_43 hk5 hb6 ?_
      refine jx_iload_n 0 dX11_text_46 rfl rfl ?_
      refine jx_iconst (v := 0) dX11_text_47 (by decide) ?_
      refine jx_iadd dX11_text_48 ?_
      refine jx_iload_n 1 dX11_text_49 rfl rfl ?_
      obtain ⟨hi13, h⟩ := h
      refine jx_iast dX11_text_50 hk7 hi13 ?_
      refine jx_aload_n 2 dX11_text_51 rfl rfl ?_
      refine jx_getr jc_11 (j := 0) (by decide) rfl jwF_X11_7 dX11_text_52 hk5 hb6 ?_
      refine jx_iload_n 0 dX11_text_55 rfl rfl ?_
      refine jx_iconst (v := 1) dX11_text_56 (by decide) ?_
      refine jx_iadd dX11_text_57 ?_
      refine jx_aload_n 2 dX11_text_58 rfl rfl ?_
      refine jx_geti jc_11 (j := 29) (by decide) rfl jwF_X11_281 dX11_text_59 hk5 ?_
      refine jx_topi (y := (ji S2 a0 29)) (by simp [ji_put, ji_row, ji_putr, jne hk5 hk7 (by decide)]) ?_
      obtain ⟨hi14, h⟩ := h
      refine jx_iast dX11_text_62 hk7 hi14 ?_
      refine jx_aload_n 2 dX11_text_63 rfl rfl ?_
      refine jx_getr jc_11 (j := 0) (by decide) rfl jwF_X11_7 dX11_text_64 hk5 hb6 ?_
      refine jx_iload_n 0 dX11_text_67 rfl rfl ?_
      refine jx_iconst (v := 2) dX11_text_68 (by decide) ?_
      refine jx_iadd dX11_text_69 ?_
      refine jx_aload_n 2 dX11_text_70 rfl rfl ?_
      refine jx_geti jc_11 (j := 27) (by decide) rfl jwF_X11_253 dX11_text_71 hk5 ?_
      refine jx_topi (y := (ji S2 a0 27)) (by simp [ji_put, ji_row, ji_putr, jne hk5 hk7 (by decide), jne hk5 hk7 (by decide)]) ?_
      obtain ⟨hi15, h⟩ := h
      refine jx_iast dX11_text_74 hk7 hi15 ?_
      refine jx_aload_n 2 dX11_text_75 rfl rfl ?_
      refine jx_getr jc_11 (j := 0) (by decide) rfl jwF_X11_7 dX11_text_76 hk5 hb6 ?_
      refine jx_iconst (v := 1) dX11_text_79 (by decide) ?_
      refine jx_dup2 dX11_text_80 rfl rfl ?_
      refine jx_iald dX11_text_81 hk7 hi8 ?_
      refine jx_iconst (v := 1) dX11_text_82 (by decide) ?_
      refine jx_iadd dX11_text_83 ?_
      refine jx_iast dX11_text_84 hk7 hi8 ?_
      refine jx_aload_n 2 dX11_text_85 rfl rfl ?_
      refine jx_getr jc_11 (j := 0) (by decide) rfl jwF_X11_7 dX11_text_86 hk5 hb6 ?_
      refine jx_iconst (v := 1) dX11_text_89 (by decide) ?_
      refine jx_iald dX11_text_90 hk7 hi8 ?_
      refine jx_topi (y := ((ji (jput (jput (jput S2 b6 (Int32.toNatClampNeg ((jtextat (ji S2 b6 (Int32.toNatClampNeg 1))) + 0)) r3) b6 (Int32.toNatClampNeg ((jtextat (ji S2 b6 (Int32.toNatClampNeg 1))) + 1)) (ji S2 a0 29)) b6 (Int32.toNatClampNeg ((jtextat (ji S2 b6 (Int32.toNatClampNeg 1))) + 2)) (ji S2 a0 27)) b6 (Int32.toNatClampNeg 1)) + 1)) (by simp [ji_put, ji_row, ji_putr]) ?_
      refine jx_iconst (v := 1) dX11_text_91 (by decide) ?_
      refine jx_isub dX11_text_92 ?_
      exact jx_iret dX11_text_93 rfl rfl (jle rfl) (jle rfl) ⟨_, rfl, h⟩
    replace h := h.1 c9
    refine jx_ldc jwC_X11_88 dX11_text_28 ?_
    exact jx_iret dX11_text_30 rfl rfl (jle rfl) (jle rfl) ⟨_, rfl, h⟩
  replace h := h.2 c4
  refine jx_bipush (v := (-100)) dX11_text_9 (by decide) ?_
  refine jx_aload_n 1 dX11_text_11 rfl rfl ?_
  obtain ⟨hk16, h⟩ := h
  refine jx_geti jc_11 (j := 20) (by decide) rfl jwF_X11_231 dX11_text_12 hk16 ?_
  refine jx_isub dX11_text_15 ?_
  exact jx_iret dX11_text_16 rfl rfl (jle rfl) (jle rfl) ⟨_, rfl, h⟩
set_option maxRecDepth 100000 in
set_option maxHeartbeats 4000000 in
theorem T_X11_textTold {E : jEnv} {d : Nat} {Q : Int32 → jM → Prop} {a0 : Nat} {x1 : Int32} {x2 : Int32} {S : jM} (h : jk S a0 = 11 ∧ jFi E mX11_isText d 0 0 [.ref a0, .int x1] S (fun r3 S2 => (r3 = 0 → Q (-1000000001) S2) ∧ (¬ r3 = 0 → ((jisin (Int32.toInt64 x2) 0 1) = 0 → Q (-1000000001) S2) ∧ (¬ (jisin (Int32.toInt64 x2) 0 1) = 0 → jk S2 a0 = 11 ∧ ∃ b10, jr S2 a0 0 = some b10 ∧ (jk S2 b10 = 12 ∧ vp_in ((jtextat x1) + x2) (jl S2 b10) ∧ (Q (ji S2 b10 (Int32.toNatClampNeg ((jtextat x1) + x2))) S2)))))) : jFi E mX11_textTold (d + 1) 0 0 [.ref a0, .int x1, .int x2] S Q := by
  refine jF_of (by decide) (jle rfl) ?_
  refine jx_lv (lv1 := [(0, .ref a0), (1, .int x1), (2, .int x2)]) [0, 1, 2] rfl ?_
  refine jx_aload_n 0 dX11_textTold_0 rfl rfl ?_
  refine jx_iload_n 1 dX11_textTold_1 rfl rfl ?_
  obtain ⟨hk1, h⟩ := h
  refine jx_callVi (M' := mX11_isText) (As := [.int x1]) jo_X11_isText jc_11 rfl jwM_X11_305 jwN_X11_isText jwX_X11_isText dX11_textTold_2 (jRok_m _ _ _) rfl (jle rfl) ⟨jle rfl, jle rfl⟩ hk1 h (fun r3 S2 h => ?_)
  refine jx_if_eq (tgt := 18) dX11_textTold_5 (by decide) (fun c4 => ?_) (fun c4 => ?_)
  · replace h := h.1 c4
    refine jx_ldc jwC_X11_87 dX11_textTold_18 ?_
    exact jx_iret dX11_textTold_20 rfl rfl (jle rfl) (jle rfl) ⟨_, rfl, h⟩
  replace h := h.2 c4
  refine jx_iload_n 2 dX11_textTold_8 rfl rfl ?_
  refine jx_i2l dX11_textTold_9 ?_
  refine jx_lconst (v := 0) dX11_textTold_10 (by decide) ?_
  refine jx_lconst (v := 1) dX11_textTold_11 (by decide) ?_
  refine jx_callSi (M' := mX11_isIn) (As := [.long (Int32.toInt64 x2), .long 0, .long 1]) jo_X11_isIn jwM_X11_71 jwS_X11_isIn dX11_textTold_12 (jRok_m _ _ _) rfl (jle rfl) ⟨jle rfl, jle rfl⟩ (c_X11_isIn (Q := fun v S' => v = (jisin (Int32.toInt64 x2) 0 1) ∧ S2 = S') ⟨rfl, rfl⟩) (fun r5 S6 hq7 => ?_)
  obtain ⟨rfl, rfl⟩ := hq7
  refine jx_if_ne (tgt := 21) dX11_textTold_15 (by decide) (fun c8 => ?_) (fun c8 => ?_)
  · replace h := h.2 c8
    refine jx_aload_n 0 dX11_textTold_21 rfl rfl ?_
    obtain ⟨hk9, h⟩ := h
    obtain ⟨b10, hb10, h⟩ := h
    refine jx_getr jc_11 (j := 0) (by decide) rfl jwF_X11_7 dX11_textTold_22 hk9 hb10 ?_
    refine jx_aload_n 0 dX11_textTold_25 rfl rfl ?_
    refine jx_iload_n 1 dX11_textTold_26 rfl rfl ?_
    refine jx_callVi (M' := mX11_textAt) (As := [.int x1]) jo_X11_textAt jc_11 rfl jwM_X11_296 jwN_X11_textAt jwX_X11_textAt dX11_textTold_27 (jRok_m _ _ _) rfl (jle rfl) ⟨jle rfl, jle rfl⟩ hk9 (c_X11_textAt (Q := fun v S' => v = (jtextat x1) ∧ S2 = S') ⟨rfl, rfl⟩) (fun r11 S12 hq13 => ?_)
    obtain ⟨rfl, rfl⟩ := hq13
    refine jx_iload_n 2 dX11_textTold_30 rfl rfl ?_
    refine jx_iadd dX11_textTold_31 ?_
    obtain ⟨hk14, h⟩ := h
    obtain ⟨hi15, h⟩ := h
    refine jx_iald dX11_textTold_32 hk14 hi15 ?_
    exact jx_iret dX11_textTold_33 rfl rfl (jle rfl) (jle rfl) ⟨_, rfl, h⟩
  replace h := h.1 c8
  refine jx_ldc jwC_X11_87 dX11_textTold_18 ?_
  exact jx_iret dX11_textTold_20 rfl rfl (jle rfl) (jle rfl) ⟨_, rfl, h⟩
/-- X11_counts at its loop's head 4 -/
abbrev L_X11_counts_4 (E : jEnv) (d : Nat) (Q : Int32 → jM → Prop) (a0 : Nat) (x1 : Int32) (x2 : Int32) (x3 : Int32) (S : jM) : Prop := jX E mX11_counts (jRm (d + 1) 0 0) (jZm E (fun r S' => ∃ v : Int32, r = some (.int v) ∧ Q v S') 0 0) 4 [(0, .ref a0), (1, .int x1), (2, .int x2), (3, .int x3)] [] S 0 0
set_option maxRecDepth 100000 in
set_option maxHeartbeats 4000000 in
theorem T_X11_counts {E : jEnv} {d : Nat} {Q : Int32 → jM → Prop} {a0 : Nat} {x1 : Int32} {S : jM} (h : L_X11_counts_4 E d Q a0 x1 (-1) 0 S) : jFi E mX11_counts (d + 1) 0 0 [.ref a0, .int x1] S Q := by
  refine jF_of (by decide) (jle rfl) ?_
  refine jx_lv (lv1 := [(0, .ref a0), (1, .int x1)]) [0, 1] rfl ?_
  refine jx_iconst (v := (-1)) dX11_counts_0 (by decide) ?_
  refine jx_istore_n (lv1 := [(2, .int (-1)), (0, .ref a0), (1, .int x1)]) dX11_counts_1 rfl (by decide) rfl ?_
  refine jx_iconst (v := 0) dX11_counts_2 (by decide) ?_
  refine jx_istore_n (lv1 := [(3, .int 0), (2, .int (-1)), (0, .ref a0), (1, .int x1)]) dX11_counts_3 rfl (by decide) rfl ?_
  exact jx_lv [2, 3, 1, 0] rfl h
set_option maxRecDepth 100000 in
set_option maxHeartbeats 4000000 in
theorem T_X11_counts_4 {E : jEnv} {d : Nat} {Q : Int32 → jM → Prop} {a0 : Nat} {x1 : Int32} {x2 : Int32} {x3 : Int32} {S : jM} (h : jk S a0 = 11 ∧ ∃ b2, jr S a0 0 = some b2 ∧ (jk S b2 = 12 ∧ vp_in 1 (jl S b2) ∧ (((ji S b2 (Int32.toNatClampNeg 1)) ≤ x3 → Q x2 S) ∧ (¬ (ji S b2 (Int32.toNatClampNeg 1)) ≤ x3 → vp_in (jtextat x3) (jl S b2) ∧ (((ji S b2 (Int32.toNatClampNeg (jtextat x3))) = x1 → L_X11_counts_4 E d Q a0 x1 x3 (x3 + 1) S) ∧ (¬ (ji S b2 (Int32.toNatClampNeg (jtextat x3))) = x1 → L_X11_counts_4 E d Q a0 x1 x2 (x3 + 1) S)))))) : L_X11_counts_4 E d Q a0 x1 x2 x3 S := by
  show jX E mX11_counts (jRm (d + 1) 0 0) (jZm E (fun r S' => ∃ v : Int32, r = some (.int v) ∧ Q v S') 0 0) 4 [(0, .ref a0), (1, .int x1), (2, .int x2), (3, .int x3)] [] S 0 0
  refine jx_iload_n 3 dX11_counts_4 rfl rfl ?_
  refine jx_aload_n 0 dX11_counts_5 rfl rfl ?_
  obtain ⟨hk1, h⟩ := h
  obtain ⟨b2, hb2, h⟩ := h
  refine jx_getr jc_11 (j := 0) (by decide) rfl jwF_X11_7 dX11_counts_6 hk1 hb2 ?_
  refine jx_iconst (v := 1) dX11_counts_9 (by decide) ?_
  obtain ⟨hk3, h⟩ := h
  obtain ⟨hi4, h⟩ := h
  refine jx_iald dX11_counts_10 hk3 hi4 ?_
  refine jx_icmp_ge (tgt := 40) dX11_counts_11 (by decide) (fun c5 => ?_) (fun c5 => ?_)
  · replace h := h.1 c5
    refine jx_iload_n 2 dX11_counts_40 rfl rfl ?_
    exact jx_iret dX11_counts_41 rfl rfl (jle rfl) (jle rfl) ⟨_, rfl, h⟩
  replace h := h.2 c5
  refine jx_aload_n 0 dX11_counts_14 rfl rfl ?_
  refine jx_getr jc_11 (j := 0) (by decide) rfl jwF_X11_7 dX11_counts_15 hk1 hb2 ?_
  refine jx_aload_n 0 dX11_counts_18 rfl rfl ?_
  refine jx_iload_n 3 dX11_counts_19 rfl rfl ?_
  refine jx_callVi (M' := mX11_textAt) (As := [.int x3]) jo_X11_textAt jc_11 rfl jwM_X11_296 jwN_X11_textAt jwX_X11_textAt dX11_counts_20 (jRok_m _ _ _) rfl (jle rfl) ⟨jle rfl, jle rfl⟩ hk1 (c_X11_textAt (Q := fun v S' => v = (jtextat x3) ∧ S = S') ⟨rfl, rfl⟩) (fun r6 S7 hq8 => ?_)
  obtain ⟨rfl, rfl⟩ := hq8
  obtain ⟨hi9, h⟩ := h
  refine jx_iald dX11_counts_23 hk3 hi9 ?_
  refine jx_iload_n 1 dX11_counts_24 rfl rfl ?_
  refine jx_icmp_ne (tgt := 32) dX11_counts_25 (by decide) (fun c10 => ?_) (fun c10 => ?_)
  · replace h := h.2 c10
    refine jx_iload_n 2 dX11_counts_32 rfl rfl ?_
    refine jx_istore_n (lv1 := [(2, .int x2), (0, .ref a0), (1, .int x1), (3, .int x3)]) dX11_counts_33 rfl (by decide) rfl ?_
    refine jx_iinc 3 (v := (x3 + 1)) (lv1 := [(3, .int (x3 + 1)), (2, .int x2), (0, .ref a0), (1, .int x1)]) dX11_counts_34 rfl rfl (by decide) rfl ?_
    refine jx_goto (tgt := 4) dX11_counts_37 (by decide) ?_
    exact jx_lv [2, 3, 1, 0] rfl h
  replace h := h.1 c10
  refine jx_iload_n 3 dX11_counts_28 rfl rfl ?_
  refine jx_goto (tgt := 33) dX11_counts_29 (by decide) ?_
  refine jx_istore_n (lv1 := [(2, .int x3), (0, .ref a0), (1, .int x1), (3, .int x3)]) dX11_counts_33 rfl (by decide) rfl ?_
  refine jx_iinc 3 (v := (x3 + 1)) (lv1 := [(3, .int (x3 + 1)), (2, .int x3), (0, .ref a0), (1, .int x1)]) dX11_counts_34 rfl rfl (by decide) rfl ?_
  refine jx_goto (tgt := 4) dX11_counts_37 (by decide) ?_
  exact jx_lv [2, 3, 1, 0] rfl h
set_option maxRecDepth 100000 in
set_option maxHeartbeats 4000000 in
theorem T_X11_why {E : jEnv} {d : Nat} {Q : Int32 → jM → Prop} {a0 : Nat} {x1 : Int32} {S : jM} (h : ((jisin (Int32.toInt64 x1) 0 2) = 0 → Q (-1000000001) S) ∧ (¬ (jisin (Int32.toInt64 x1) 0 2) = 0 → jk S a0 = 11 ∧ jFi E mX11_counts d 0 0 [.ref a0, .int x1] S (fun r7 S6 => Q (jornone r7) S6))) : jFi E mX11_why (d + 1) 0 0 [.ref a0, .int x1] S Q := by
  refine jF_of (by decide) (jle rfl) ?_
  refine jx_lv (lv1 := [(0, .ref a0), (1, .int x1)]) [0, 1] rfl ?_
  refine jx_iload_n 1 dX11_why_0 rfl rfl ?_
  refine jx_i2l dX11_why_1 ?_
  refine jx_lconst (v := 0) dX11_why_2 (by decide) ?_
  refine jx_ldc2 jwL_X11_146 dX11_why_3 ?_
  refine jx_callSi (M' := mX11_isIn) (As := [.long (Int32.toInt64 x1), .long 0, .long 2]) jo_X11_isIn jwM_X11_71 jwS_X11_isIn dX11_why_6 (jRok_m _ _ _) rfl (jle rfl) ⟨jle rfl, jle rfl⟩ (c_X11_isIn (Q := fun v S' => v = (jisin (Int32.toInt64 x1) 0 2) ∧ S = S') ⟨rfl, rfl⟩) (fun r1 S2 hq3 => ?_)
  obtain ⟨rfl, rfl⟩ := hq3
  refine jx_if_eq (tgt := 23) dX11_why_9 (by decide) (fun c4 => ?_) (fun c4 => ?_)
  · replace h := h.1 c4
    refine jx_ldc jwC_X11_87 dX11_why_23 ?_
    exact jx_iret dX11_why_25 rfl rfl (jle rfl) (jle rfl) ⟨_, rfl, h⟩
  replace h := h.2 c4
  refine jx_aload_n 0 dX11_why_12 rfl rfl ?_
  refine jx_iload_n 1 dX11_why_13 rfl rfl ?_
  obtain ⟨hk5, h⟩ := h
  refine jx_callVi (M' := mX11_counts) (As := [.int x1]) jo_X11_counts jc_11 rfl jwM_X11_93 jwN_X11_counts jwX_X11_counts dX11_why_14 (jRok_m _ _ _) rfl (jle rfl) ⟨jle rfl, jle rfl⟩ hk5 h (fun r7 S6 h => ?_)
  refine jx_callSi (M' := mX11_orNone) (As := [.int r7]) jo_X11_orNone jwM_X11_308 jwS_X11_orNone dX11_why_17 (jRok_m _ _ _) rfl (jle rfl) ⟨jle rfl, jle rfl⟩ (c_X11_orNone (Q := fun v S' => v = (jornone r7) ∧ S6 = S') ⟨rfl, rfl⟩) (fun r8 S9 hq10 => ?_)
  obtain ⟨rfl, rfl⟩ := hq10
  refine jx_goto (tgt := 25) dX11_why_20 (by decide) ?_
  exact jx_iret dX11_why_25 rfl rfl (jle rfl) (jle rfl) ⟨_, rfl, h⟩
/-- X11_worked at its loop's head 4 -/
abbrev L_X11_worked_4 (E : jEnv) (d : Nat) (Q : Int32 → jM → Prop) (a0 : Nat) (x1 : Int32) (x2 : Int32) (x3 : Int32) (S : jM) : Prop := jX E mX11_worked (jRm (d + 1) 0 0) (jZm E (fun r S' => ∃ v : Int32, r = some (.int v) ∧ Q v S') 0 0) 4 [(0, .ref a0), (1, .int x1), (2, .int x2), (3, .int x3)] [] S 0 0
set_option maxRecDepth 100000 in
set_option maxHeartbeats 4000000 in
theorem T_X11_worked {E : jEnv} {d : Nat} {Q : Int32 → jM → Prop} {a0 : Nat} {x1 : Int32} {S : jM} (h : L_X11_worked_4 E d Q a0 x1 0 0 S) : jFi E mX11_worked (d + 1) 0 0 [.ref a0, .int x1] S Q := by
  refine jF_of (by decide) (jle rfl) ?_
  refine jx_lv (lv1 := [(0, .ref a0), (1, .int x1)]) [0, 1] rfl ?_
  refine jx_iconst (v := 0) dX11_worked_0 (by decide) ?_
  refine jx_istore_n (lv1 := [(2, .int 0), (0, .ref a0), (1, .int x1)]) dX11_worked_1 rfl (by decide) rfl ?_
  refine jx_iconst (v := 0) dX11_worked_2 (by decide) ?_
  refine jx_istore_n (lv1 := [(3, .int 0), (2, .int 0), (0, .ref a0), (1, .int x1)]) dX11_worked_3 rfl (by decide) rfl ?_
  exact jx_lv [2, 3, 1, 0] rfl h
set_option maxRecDepth 100000 in
set_option maxHeartbeats 4000000 in
theorem T_X11_worked_4 {E : jEnv} {d : Nat} {Q : Int32 → jM → Prop} {a0 : Nat} {x1 : Int32} {x2 : Int32} {x3 : Int32} {S : jM} (h : jk S a0 = 11 ∧ ∃ b2, jr S a0 0 = some b2 ∧ (jk S b2 = 12 ∧ vp_in ((jtextat x1) + 2) (jl S b2) ∧ (((ji S b2 (Int32.toNatClampNeg ((jtextat x1) + 2))) ≤ x3 → ∃ b9, jr S a0 31 = some b9 ∧ (jk S b9 = 12 ∧ vp_in 0 (jl S b9) ∧ (Q (ji S b9 (Int32.toNatClampNeg 0)) S))) ∧ (¬ (ji S b2 (Int32.toNatClampNeg ((jtextat x1) + 2))) ≤ x3 → vp_in (((jtextat x1) + 4) + (2 * x3)) (jl S b2) ∧ (vp_in ((((jtextat x1) + 4) + (2 * x3)) + 1) (jl S b2) ∧ (((ji S b2 (Int32.toNatClampNeg (((jtextat x1) + 4) + (2 * x3)))) = 2 → ((ji S b2 (Int32.toNatClampNeg ((((jtextat x1) + 4) + (2 * x3)) + 1))) = 33 → ∃ b29, jr S a0 31 = some b29 ∧ (jk S b29 = 12 ∧ vp_in (x2 - 1) (jl S b29) ∧ (((ji S b29 (Int32.toNatClampNeg (x2 - 1))) = 0 → (L_X11_worked_4 E d Q a0 x1 x2 (x3 + 1) (jput S b29 (Int32.toNatClampNeg (x2 - 1)) 1))) ∧ (¬ (ji S b29 (Int32.toNatClampNeg (x2 - 1))) = 0 → (L_X11_worked_4 E d Q a0 x1 x2 (x3 + 1) (jput S b29 (Int32.toNatClampNeg (x2 - 1)) 0)))))) ∧ (¬ (ji S b2 (Int32.toNatClampNeg ((((jtextat x1) + 4) + (2 * x3)) + 1))) = 33 → ∃ b22, jr S a0 31 = some b22 ∧ (jk S b22 = 12 ∧ vp_in ((x2 + (-1)) - 1) (jl S b22) ∧ (vp_in (x2 + (-1)) (jl S b22) ∧ ((L_X11_worked_4 E d Q a0 x1 (x2 + (-1)) (x3 + 1) (jput S b22 (Int32.toNatClampNeg ((x2 + (-1)) - 1)) (jjoinM (ji S b2 (Int32.toNatClampNeg ((((jtextat x1) + 4) + (2 * x3)) + 1))) (ji S b22 (Int32.toNatClampNeg ((x2 + (-1)) - 1))) (ji S b22 (Int32.toNatClampNeg (x2 + (-1)))))))))))) ∧ (¬ (ji S b2 (Int32.toNatClampNeg (((jtextat x1) + 4) + (2 * x3)))) = 2 → ∃ b33, jr S a0 31 = some b33 ∧ (((ji S b2 (Int32.toNatClampNeg (((jtextat x1) + 4) + (2 * x3)))) = 0 → jk S b33 = 12 ∧ vp_in x2 (jl S b33) ∧ (L_X11_worked_4 E d Q a0 x1 (x2 + 1) (x3 + 1) (jput S b33 (Int32.toNatClampNeg x2) (ji S b2 (Int32.toNatClampNeg ((((jtextat x1) + 4) + (2 * x3)) + 1)))))) ∧ (¬ (ji S b2 (Int32.toNatClampNeg (((jtextat x1) + 4) + (2 * x3)))) = 0 → ∃ b35, jr S a0 30 = some b35 ∧ (jk S b35 = 12 ∧ vp_in (ji S b2 (Int32.toNatClampNeg ((((jtextat x1) + 4) + (2 * x3)) + 1))) (jl S b35) ∧ (jk S b33 = 12 ∧ vp_in x2 (jl S b33) ∧ (L_X11_worked_4 E d Q a0 x1 (x2 + 1) (x3 + 1) (jput S b33 (Int32.toNatClampNeg x2) (ji S b35 (Int32.toNatClampNeg (ji S b2 (Int32.toNatClampNeg ((((jtextat x1) + 4) + (2 * x3)) + 1)))))))))))))))))) : L_X11_worked_4 E d Q a0 x1 x2 x3 S := by
  show jX E mX11_worked (jRm (d + 1) 0 0) (jZm E (fun r S' => ∃ v : Int32, r = some (.int v) ∧ Q v S') 0 0) 4 [(0, .ref a0), (1, .int x1), (2, .int x2), (3, .int x3)] [] S 0 0
  refine jx_iload_n 3 dX11_worked_4 rfl rfl ?_
  refine jx_aload_n 0 dX11_worked_5 rfl rfl ?_
  obtain ⟨hk1, h⟩ := h
  obtain ⟨b2, hb2, h⟩ := h
  refine jx_getr jc_11 (j := 0) (by decide) rfl jwF_X11_7 dX11_worked_6 hk1 hb2 ?_
  refine jx_aload_n 0 dX11_worked_9 rfl rfl ?_
  refine jx_iload_n 1 dX11_worked_10 rfl rfl ?_
  refine jx_callVi (M' := mX11_textAt) (As := [.int x1]) jo_X11_textAt jc_11 rfl jwM_X11_296 jwN_X11_textAt jwX_X11_textAt dX11_worked_11 (jRok_m _ _ _) rfl (jle rfl) ⟨jle rfl, jle rfl⟩ hk1 (c_X11_textAt (Q := fun v S' => v = (jtextat x1) ∧ S = S') ⟨rfl, rfl⟩) (fun r3 S4 hq5 => ?_)
  obtain ⟨rfl, rfl⟩ := hq5
  refine jx_iconst (v := 2) dX11_worked_14 (by decide) ?_
  refine jx_iadd dX11_worked_15 ?_
  obtain ⟨hk6, h⟩ := h
  obtain ⟨hi7, h⟩ := h
  refine jx_iald dX11_worked_16 hk6 hi7 ?_
  refine jx_icmp_ge (tgt := 163) dX11_worked_17 (by decide) (fun c8 => ?_) (fun c8 => ?_)
  · replace h := h.1 c8
    refine jx_aload_n 0 dX11_worked_163 rfl rfl ?_
    obtain ⟨b9, hb9, h⟩ := h
    refine jx_getr jc_11 (j := 31) (by decide) rfl jwF_X11_58 dX11_worked_164 hk1 hb9 ?_
    refine jx_iconst (v := 0) dX11_worked_167 (by decide) ?_
    obtain ⟨hk10, h⟩ := h
    obtain ⟨hi11, h⟩ := h
    refine jx_iald dX11_worked_168 hk10 hi11 ?_
    exact jx_iret dX11_worked_169 rfl rfl (jle rfl) (jle rfl) ⟨_, rfl, h⟩
  replace h := h.2 c8
  refine jx_aload_n 0 dX11_worked_20 rfl rfl ?_
  refine jx_getr jc_11 (j := 0) (by decide) rfl jwF_X11_7 dX11_worked_21 hk1 hb2 ?_
  refine jx_aload_n 0 dX11_worked_24 rfl rfl ?_
  refine jx_iload_n 1 dX11_worked_25 rfl rfl ?_
  refine jx_callVi (M' := mX11_textAt) (As := [.int x1]) jo_X11_textAt jc_11 rfl jwM_X11_296 jwN_X11_textAt jwX_X11_textAt dX11_worked_26 (jRok_m _ _ _) rfl (jle rfl) ⟨jle rfl, jle rfl⟩ hk1 (c_X11_textAt (Q := fun v S' => v = (jtextat x1) ∧ S = S') ⟨rfl, rfl⟩) (fun r12 S13 hq14 => ?_)
  obtain ⟨rfl, rfl⟩ := hq14
  refine jx_iconst (v := 4) dX11_worked_29 (by decide) ?_
  refine jx_iadd dX11_worked_30 ?_
  refine jx_iconst (v := 2) dX11_worked_31 (by decide) ?_
  refine jx_iload_n 3 dX11_worked_32 rfl rfl ?_
  refine jx_imul dX11_worked_33 ?_
  refine jx_iadd dX11_worked_34 ?_
  obtain ⟨hi15, h⟩ := h
  refine jx_iald dX11_worked_35 hk6 hi15 ?_
  refine jx_istore (lv1 := [(4, .int (ji S b2 (Int32.toNatClampNeg (((jtextat x1) + 4) + (2 * x3))))), (0, .ref a0), (1, .int x1), (2, .int x2), (3, .int x3)]) dX11_worked_36 (by decide) rfl ?_
  refine jx_aload_n 1 dX11_worked_38 rfl rfl ?_
  refine jx_getr jc_11 (j := 0) (by decide) rfl jwF_X11_7 dX11_worked_39 hk1 hb2 ?_
  refine jx_aload_n 1 dX11_worked_42 rfl rfl ?_
  refine jx_iload_n 2 dX11_worked_43 rfl rfl ?_
  refine jx_callVi (M' := mX11_textAt) (As := [.int x1]) jo_X11_textAt jc_11 rfl jwM_X11_296 jwN_X11_textAt jwX_X11_textAt dX11_worked_44 (jRok_m _ _ _) rfl (jle rfl) ⟨jle rfl, jle rfl⟩ hk1 (c_X11_textAt (Q := fun v S' => v = (jtextat x1) ∧ S = S') ⟨rfl, rfl⟩) (fun r16 S17 hq18 => ?_)
  obtain ⟨rfl, rfl⟩ := hq18
  refine jx_iconst (v := 4) dX11_worked_47 (by decide) ?_
  refine jx_iadd dX11_worked_48 ?_
  refine jx_iconst (v := 2) dX11_worked_49 (by decide) ?_
  refine jx_iload_n 4 dX11_worked_50 rfl rfl ?_
  refine jx_imul dX11_worked_51 ?_
  refine jx_iadd dX11_worked_52 ?_
  refine jx_iconst (v := 1) dX11_worked_53 (by decide) ?_
  refine jx_iadd dX11_worked_54 ?_
  obtain ⟨hi19, h⟩ := h
  refine jx_iald dX11_worked_55 hk6 hi19 ?_
  refine jx_istore (lv1 := [(5, .int (ji S b2 (Int32.toNatClampNeg ((((jtextat x1) + 4) + (2 * x3)) + 1)))), (4, .int (ji S b2 (Int32.toNatClampNeg (((jtextat x1) + 4) + (2 * x3))))), (0, .ref a0), (1, .int x1), (2, .int x2), (3, .int x3)]) dX11_worked_56 (by decide) rfl ?_
  refine jx_iload 1 dX11_worked_58 rfl ?_
  refine jx_iconst (v := 2) dX11_worked_60 (by decide) ?_
  refine jx_icmp_eq (tgt := 93) dX11_worked_61 (by decide) (fun c20 => ?_) (fun c20 => ?_)
  · replace h := h.1 c20
    refine jx_iload 0 dX11_worked_93 rfl ?_
    refine jx_bipush (v := 33) dX11_worked_95 (by decide) ?_
    refine jx_icmp_ne (tgt := 127) dX11_worked_97 (by decide) (fun c21 => ?_) (fun c21 => ?_)
    · replace h := h.2 c21
      refine jx_iinc 4 (v := (x2 + (-1))) (lv1 := [(2, .int (x2 + (-1))), (5, .int (ji S b2 (Int32.toNatClampNeg ((((jtextat x1) + 4) + (2 * x3)) + 1)))), (4, .int (ji S b2 (Int32.toNatClampNeg (((jtextat x1) + 4) + (2 * x3))))), (0, .ref a0), (1, .int x1), (3, .int x3)]) dX11_worked_127 rfl rfl (by decide) rfl ?_
      refine jx_aload_n 3 dX11_worked_130 rfl rfl ?_
      obtain ⟨b22, hb22, h⟩ := h
      refine jx_getr jc_11 (j := 31) (by decide) rfl jwF_X11_58 dX11_worked_131 hk1 hb22 ?_
      refine jx_iload_n 0 dX11_worked_134 rfl rfl ?_
      refine jx_iconst (v := 1) dX11_worked_135 (by decide) ?_
      refine jx_isub dX11_worked_136 ?_
      refine jx_iload 1 dX11_worked_137 rfl ?_
      refine jx_aload_n 3 dX11_worked_139 rfl rfl ?_
      refine jx_getr jc_11 (j := 31) (by decide) rfl jwF_X11_58 dX11_worked_140 hk1 hb22 ?_
      refine jx_iload_n 0 dX11_worked_143 rfl rfl ?_
      refine jx_iconst (v := 1) dX11_worked_144 (by decide) ?_
      refine jx_isub dX11_worked_145 ?_
      obtain ⟨hk23, h⟩ := h
      obtain ⟨hi24, h⟩ := h
      refine jx_iald dX11_worked_146 hk23 hi24 ?_
      refine jx_aload_n 3 dX11_worked_147 rfl rfl ?_
      refine jx_getr jc_11 (j := 31) (by decide) rfl jwF_X11_58 dX11_worked_148 hk1 hb22 ?_
      refine jx_iload_n 0 dX11_worked_151 rfl rfl ?_
      obtain ⟨hi25, h⟩ := h
      refine jx_iald dX11_worked_152 hk23 hi25 ?_
      refine jx_callSi (M' := mX11_joined) (As := [.int (ji S b2 (Int32.toNatClampNeg ((((jtextat x1) + 4) + (2 * x3)) + 1))), .int (ji S b22 (Int32.toNatClampNeg ((x2 + (-1)) - 1))), .int (ji S b22 (Int32.toNatClampNeg (x2 + (-1))))]) jo_X11_joined jwM_X11_311 jwS_X11_joined dX11_worked_153 (jRok_m _ _ _) rfl (jle rfl) ⟨jle rfl, jle rfl⟩ (c_X11_joined (Q := fun v S' => v = (jjoinM (ji S b2 (Int32.toNatClampNeg ((((jtextat x1) + 4) + (2 * x3)) + 1))) (ji S b22 (Int32.toNatClampNeg ((x2 + (-1)) - 1))) (ji S b22 (Int32.toNatClampNeg (x2 + (-1))))) ∧ S = S') ⟨rfl, rfl⟩) (fun r26 S27 hq28 => ?_)
      obtain ⟨rfl, rfl⟩ := hq28
      refine jx_iast dX11_worked_156 hk23 hi24 ?_
      refine jx_iinc 5 (v := (x3 + 1)) (lv1 := [(3, .int (x3 + 1)), (2, .int (x2 + (-1))), (5, .int (ji S b2 (Int32.toNatClampNeg ((((jtextat x1) + 4) + (2 * x3)) + 1)))), (4, .int (ji S b2 (Int32.toNatClampNeg (((jtextat x1) + 4) + (2 * x3))))), (0, .ref a0), (1, .int x1)]) dX11_worked_157 rfl rfl (by decide) rfl ?_
      refine jx_goto (tgt := 4) dX11_worked_160 (by decide) ?_
      exact jx_lv [4, 5, 1, 0] rfl h
    replace h := h.1 c21
    refine jx_aload_n 2 dX11_worked_100 rfl rfl ?_
    obtain ⟨b29, hb29, h⟩ := h
    refine jx_getr jc_11 (j := 31) (by decide) rfl jwF_X11_58 dX11_worked_101 hk1 hb29 ?_
    refine jx_iload_n 4 dX11_worked_104 rfl rfl ?_
    refine jx_iconst (v := 1) dX11_worked_105 (by decide) ?_
    refine jx_isub dX11_worked_106 ?_
    refine jx_aload_n 2 dX11_worked_107 rfl rfl ?_
    refine jx_getr jc_11 (j := 31) (by decide) rfl jwF_X11_58 dX11_worked_108 hk1 hb29 ?_
    refine jx_iload_n 4 dX11_worked_111 rfl rfl ?_
    refine jx_iconst (v := 1) dX11_worked_112 (by decide) ?_
    refine jx_isub dX11_worked_113 ?_
    obtain ⟨hk30, h⟩ := h
    obtain ⟨hi31, h⟩ := h
    refine jx_iald dX11_worked_114 hk30 hi31 ?_
    refine jx_if_ne (tgt := 122) dX11_worked_115 (by decide) (fun c32 => ?_) (fun c32 => ?_)
    · replace h := h.2 c32
      refine jx_iconst (v := 0) dX11_worked_122 (by decide) ?_
      refine jx_iast dX11_worked_123 hk30 hi31 ?_
      refine jx_goto (tgt := 157) dX11_worked_124 (by decide) ?_
      refine jx_iinc 5 (v := (x3 + 1)) (lv1 := [(3, .int (x3 + 1)), (5, .int (ji S b2 (Int32.toNatClampNeg ((((jtextat x1) + 4) + (2 * x3)) + 1)))), (4, .int (ji S b2 (Int32.toNatClampNeg (((jtextat x1) + 4) + (2 * x3))))), (0, .ref a0), (1, .int x1), (2, .int x2)]) dX11_worked_157 rfl rfl (by decide) rfl ?_
      refine jx_goto (tgt := 4) dX11_worked_160 (by decide) ?_
      exact jx_lv [3, 4, 5, 0] rfl h
    replace h := h.1 c32
    refine jx_iconst (v := 1) dX11_worked_118 (by decide) ?_
    refine jx_goto (tgt := 123) dX11_worked_119 (by decide) ?_
    refine jx_iast dX11_worked_123 hk30 hi31 ?_
    refine jx_goto (tgt := 157) dX11_worked_124 (by decide) ?_
    refine jx_iinc 5 (v := (x3 + 1)) (lv1 := [(3, .int (x3 + 1)), (5, .int (ji S b2 (Int32.toNatClampNeg ((((jtextat x1) + 4) + (2 * x3)) + 1)))), (4, .int (ji S b2 (Int32.toNatClampNeg (((jtextat x1) + 4) + (2 * x3))))), (0, .ref a0), (1, .int x1), (2, .int x2)]) dX11_worked_157 rfl rfl (by decide) rfl ?_
    refine jx_goto (tgt := 4) dX11_worked_160 (by decide) ?_
    exact jx_lv [3, 4, 5, 0] rfl h
  replace h := h.2 c20
  refine jx_aload_n 2 dX11_worked_64 rfl rfl ?_
  obtain ⟨b33, hb33, h⟩ := h
  refine jx_getr jc_11 (j := 31) (by decide) rfl jwF_X11_58 dX11_worked_65 hk1 hb33 ?_
  refine jx_iload_n 4 dX11_worked_68 rfl rfl ?_
  refine jx_iload 1 dX11_worked_69 rfl ?_
  refine jx_if_ne (tgt := 79) dX11_worked_71 (by decide) (fun c34 => ?_) (fun c34 => ?_)
  · replace h := h.2 c34
    refine jx_aload_n 2 dX11_worked_79 rfl rfl ?_
    obtain ⟨b35, hb35, h⟩ := h
    refine jx_getr jc_11 (j := 30) (by decide) rfl jwF_X11_55 dX11_worked_80 hk1 hb35 ?_
    refine jx_iload 0 dX11_worked_83 rfl ?_
    obtain ⟨hk36, h⟩ := h
    obtain ⟨hi37, h⟩ := h
    refine jx_iald dX11_worked_85 hk36 hi37 ?_
    obtain ⟨hk38, h⟩ := h
    obtain ⟨hi39, h⟩ := h
    refine jx_iast dX11_worked_86 hk38 hi39 ?_
    refine jx_iinc 4 (v := (x2 + 1)) (lv1 := [(2, .int (x2 + 1)), (5, .int (ji S b2 (Int32.toNatClampNeg ((((jtextat x1) + 4) + (2 * x3)) + 1)))), (4, .int (ji S b2 (Int32.toNatClampNeg (((jtextat x1) + 4) + (2 * x3))))), (0, .ref a0), (1, .int x1), (3, .int x3)]) dX11_worked_87 rfl rfl (by decide) rfl ?_
    refine jx_goto (tgt := 157) dX11_worked_90 (by decide) ?_
    refine jx_iinc 5 (v := (x3 + 1)) (lv1 := [(3, .int (x3 + 1)), (2, .int (x2 + 1)), (5, .int (ji S b2 (Int32.toNatClampNeg ((((jtextat x1) + 4) + (2 * x3)) + 1)))), (4, .int (ji S b2 (Int32.toNatClampNeg (((jtextat x1) + 4) + (2 * x3))))), (0, .ref a0), (1, .int x1)]) dX11_worked_157 rfl rfl (by decide) rfl ?_
    refine jx_goto (tgt := 4) dX11_worked_160 (by decide) ?_
    exact jx_lv [4, 5, 1, 0] rfl h
  replace h := h.1 c34
  refine jx_iload 0 dX11_worked_74 rfl ?_
  refine jx_goto (tgt := 86) dX11_worked_76 (by decide) ?_
  obtain ⟨hk40, h⟩ := h
  obtain ⟨hi41, h⟩ := h
  refine jx_iast dX11_worked_86 hk40 hi41 ?_
  refine jx_iinc 4 (v := (x2 + 1)) (lv1 := [(2, .int (x2 + 1)), (5, .int (ji S b2 (Int32.toNatClampNeg ((((jtextat x1) + 4) + (2 * x3)) + 1)))), (4, .int (ji S b2 (Int32.toNatClampNeg (((jtextat x1) + 4) + (2 * x3))))), (0, .ref a0), (1, .int x1), (3, .int x3)]) dX11_worked_87 rfl rfl (by decide) rfl ?_
  refine jx_goto (tgt := 157) dX11_worked_90 (by decide) ?_
  refine jx_iinc 5 (v := (x3 + 1)) (lv1 := [(3, .int (x3 + 1)), (2, .int (x2 + 1)), (5, .int (ji S b2 (Int32.toNatClampNeg ((((jtextat x1) + 4) + (2 * x3)) + 1)))), (4, .int (ji S b2 (Int32.toNatClampNeg (((jtextat x1) + 4) + (2 * x3))))), (0, .ref a0), (1, .int x1)]) dX11_worked_157 rfl rfl (by decide) rfl ?_
  refine jx_goto (tgt := 4) dX11_worked_160 (by decide) ?_
  exact jx_lv [4, 5, 1, 0] rfl h
/-- X11_sheet at its loop's head 69 -/
abbrev L_X11_sheet_69 (E : jEnv) (d : Nat) (Q : Int32 → jM → Prop) (a0 : Nat) (x1 : Int32) (x4 : Int32) (S : jM) : Prop := jX E mX11_sheet (jRm (d + 2) 0 0) (jZm E (fun r S' => ∃ v : Int32, r = some (.int v) ∧ Q v S') 0 0) 69 [(0, .ref a0), (1, .int x1), (4, .int x4)] [] S 0 0
set_option maxRecDepth 100000 in
set_option maxHeartbeats 4000000 in
theorem T_X11_sheet {E : jEnv} {d : Nat} {Q : Int32 → jM → Prop} {a0 : Nat} {x1 : Int32} {x2 : Int32} {x3 : Int32} {S : jM} (h : ((jissheet x1) = 0 → Q (-1000000001) S) ∧ (¬ (jissheet x1) = 0 → ((jisin (Int32.toInt64 x2) (-1) 1) = 0 → Q (-1000000001) S) ∧ (¬ (jisin (Int32.toInt64 x2) (-1) 1) = 0 → (x2 < 0 → jk S a0 = 11 ∧ ∃ b11, jr S a0 4 = some b11 ∧ (jk S b11 = 12 ∧ vp_in x1 (jl S b11) ∧ (∃ b14, jr S a0 5 = some b14 ∧ ((0 ≤ x2 → jk S b14 = 12 ∧ vp_in x1 (jl S b14) ∧ (L_X11_sheet_69 E d Q a0 x1 0 (jput (jput S b11 (Int32.toNatClampNeg x1) x2) b14 (Int32.toNatClampNeg x1) x3))) ∧ (¬ 0 ≤ x2 → jk S b14 = 12 ∧ vp_in x1 (jl S b14) ∧ (L_X11_sheet_69 E d Q a0 x1 0 (jput (jput S b11 (Int32.toNatClampNeg x1) x2) b14 (Int32.toNatClampNeg x1) 0))))))) ∧ (¬ x2 < 0 → (x3 ≤ 24 → (0 ≤ x3 → jk S a0 = 11 ∧ ∃ b23, jr S a0 4 = some b23 ∧ (jk S b23 = 12 ∧ vp_in x1 (jl S b23) ∧ (∃ b26, jr S a0 5 = some b26 ∧ ((0 ≤ x2 → jk S b26 = 12 ∧ vp_in x1 (jl S b26) ∧ (L_X11_sheet_69 E d Q a0 x1 0 (jput (jput S b23 (Int32.toNatClampNeg x1) x2) b26 (Int32.toNatClampNeg x1) x3))) ∧ (¬ 0 ≤ x2 → jk S b26 = 12 ∧ vp_in x1 (jl S b26) ∧ (L_X11_sheet_69 E d Q a0 x1 0 (jput (jput S b23 (Int32.toNatClampNeg x1) x2) b26 (Int32.toNatClampNeg x1) 0))))))) ∧ (¬ 0 ≤ x3 → Q (-1000000014) S)) ∧ (¬ x3 ≤ 24 → Q (-1000000001) S))))) : jFi E mX11_sheet (d + 2) 0 0 [.ref a0, .int x1, .int x2, .int x3] S Q := by
  refine jF_of (by decide) (jle rfl) ?_
  refine jx_lv (lv1 := [(0, .ref a0), (1, .int x1), (2, .int x2), (3, .int x3)]) [0, 1, 2, 3] rfl ?_
  refine jx_iload_n 1 dX11_sheet_0 rfl rfl ?_
  refine jx_callSi (M' := mX11_isSheet) (As := [.int x1]) jo_X11_isSheet jwM_X11_314 jwS_X11_isSheet dX11_sheet_1 (jRok_m _ _ _) rfl (jle rfl) ⟨jle rfl, jle rfl⟩ (c_X11_isSheet (Q := fun v S' => v = (jissheet x1) ∧ S = S') ⟨rfl, rfl⟩) (fun r1 S2 hq3 => ?_)
  obtain ⟨rfl, rfl⟩ := hq3
  refine jx_if_eq (tgt := 29) dX11_sheet_4 (by decide) (fun c4 => ?_) (fun c4 => ?_)
  · replace h := h.1 c4
    refine jx_ldc jwC_X11_87 dX11_sheet_29 ?_
    exact jx_iret dX11_sheet_31 rfl rfl (jle rfl) (jle rfl) ⟨_, rfl, h⟩
  replace h := h.2 c4
  refine jx_iload_n 2 dX11_sheet_7 rfl rfl ?_
  refine jx_i2l dX11_sheet_8 ?_
  refine jx_ldc2 jwL_X11_317 dX11_sheet_9 ?_
  refine jx_lconst (v := 1) dX11_sheet_12 (by decide) ?_
  refine jx_callSi (M' := mX11_isIn) (As := [.long (Int32.toInt64 x2), .long (-1), .long 1]) jo_X11_isIn jwM_X11_71 jwS_X11_isIn dX11_sheet_13 (jRok_m _ _ _) rfl (jle rfl) ⟨jle rfl, jle rfl⟩ (c_X11_isIn (Q := fun v S' => v = (jisin (Int32.toInt64 x2) (-1) 1) ∧ S = S') ⟨rfl, rfl⟩) (fun r5 S6 hq7 => ?_)
  obtain ⟨rfl, rfl⟩ := hq7
  refine jx_if_eq (tgt := 29) dX11_sheet_16 (by decide) (fun c8 => ?_) (fun c8 => ?_)
  · replace h := h.1 c8
    refine jx_ldc jwC_X11_87 dX11_sheet_29 ?_
    exact jx_iret dX11_sheet_31 rfl rfl (jle rfl) (jle rfl) ⟨_, rfl, h⟩
  replace h := h.2 c8
  refine jx_iload_n 2 dX11_sheet_19 rfl rfl ?_
  refine jx_if_lt (tgt := 32) dX11_sheet_20 (by decide) (fun c9 => ?_) (fun c9 => ?_)
  · replace h := h.1 c9
    refine jx_iload_n 2 dX11_sheet_32 rfl rfl ?_
    refine jx_if_lt (tgt := 44) dX11_sheet_33 (by decide) (fun _ => ?_) (fun z9 => absurd c9 z9)
    refine jx_aload_n 0 dX11_sheet_44 rfl rfl ?_
    obtain ⟨hk10, h⟩ := h
    obtain ⟨b11, hb11, h⟩ := h
    refine jx_getr jc_11 (j := 4) (by decide) rfl jwF_X11_19 dX11_sheet_45 hk10 hb11 ?_
    refine jx_iload_n 1 dX11_sheet_48 rfl rfl ?_
    refine jx_iload_n 2 dX11_sheet_49 rfl rfl ?_
    obtain ⟨hk12, h⟩ := h
    obtain ⟨hi13, h⟩ := h
    refine jx_iast dX11_sheet_50 hk12 hi13 ?_
    refine jx_aload_n 0 dX11_sheet_51 rfl rfl ?_
    obtain ⟨b14, hb14, h⟩ := h
    refine jx_getr jc_11 (j := 5) (by decide) rfl jwF_X11_22 dX11_sheet_52 hk10 hb14 ?_
    refine jx_iload_n 1 dX11_sheet_55 rfl rfl ?_
    refine jx_iload_n 2 dX11_sheet_56 rfl rfl ?_
    refine jx_if_ge (tgt := 64) dX11_sheet_57 (by decide) (fun c15 => ?_) (fun c15 => ?_)
    · replace h := h.1 c15
      refine jx_iload_n 3 dX11_sheet_64 rfl rfl ?_
      obtain ⟨hk16, h⟩ := h
      obtain ⟨hi17, h⟩ := h
      refine jx_iast dX11_sheet_65 hk16 hi17 ?_
      refine jx_iconst (v := 0) dX11_sheet_66 (by decide) ?_
      refine jx_istore (lv1 := [(4, .int 0), (0, .ref a0), (1, .int x1), (2, .int x2), (3, .int x3)]) dX11_sheet_67 (by decide) rfl ?_
      exact jx_lv [1, 2, 0] rfl h
    replace h := h.2 c15
    refine jx_iconst (v := 0) dX11_sheet_60 (by decide) ?_
    refine jx_goto (tgt := 65) dX11_sheet_61 (by decide) ?_
    obtain ⟨hk18, h⟩ := h
    obtain ⟨hi19, h⟩ := h
    refine jx_iast dX11_sheet_65 hk18 hi19 ?_
    refine jx_iconst (v := 0) dX11_sheet_66 (by decide) ?_
    refine jx_istore (lv1 := [(4, .int 0), (0, .ref a0), (1, .int x1), (2, .int x2), (3, .int x3)]) dX11_sheet_67 (by decide) rfl ?_
    exact jx_lv [1, 2, 0] rfl h
  replace h := h.2 c9
  refine jx_iload_n 3 dX11_sheet_23 rfl rfl ?_
  refine jx_bipush (v := 24) dX11_sheet_24 (by decide) ?_
  refine jx_icmp_le (tgt := 32) dX11_sheet_26 (by decide) (fun c20 => ?_) (fun c20 => ?_)
  · replace h := h.1 c20
    refine jx_iload_n 2 dX11_sheet_32 rfl rfl ?_
    refine jx_if_lt (tgt := 44) dX11_sheet_33 (by decide) (fun z9 => absurd z9 c9) (fun _ => ?_)
    refine jx_iload_n 3 dX11_sheet_36 rfl rfl ?_
    refine jx_if_ge (tgt := 44) dX11_sheet_37 (by decide) (fun c21 => ?_) (fun c21 => ?_)
    · replace h := h.1 c21
      refine jx_aload_n 0 dX11_sheet_44 rfl rfl ?_
      obtain ⟨hk22, h⟩ := h
      obtain ⟨b23, hb23, h⟩ := h
      refine jx_getr jc_11 (j := 4) (by decide) rfl jwF_X11_19 dX11_sheet_45 hk22 hb23 ?_
      refine jx_iload_n 1 dX11_sheet_48 rfl rfl ?_
      refine jx_iload_n 2 dX11_sheet_49 rfl rfl ?_
      obtain ⟨hk24, h⟩ := h
      obtain ⟨hi25, h⟩ := h
      refine jx_iast dX11_sheet_50 hk24 hi25 ?_
      refine jx_aload_n 0 dX11_sheet_51 rfl rfl ?_
      obtain ⟨b26, hb26, h⟩ := h
      refine jx_getr jc_11 (j := 5) (by decide) rfl jwF_X11_22 dX11_sheet_52 hk22 hb26 ?_
      refine jx_iload_n 1 dX11_sheet_55 rfl rfl ?_
      refine jx_iload_n 2 dX11_sheet_56 rfl rfl ?_
      refine jx_if_ge (tgt := 64) dX11_sheet_57 (by decide) (fun c27 => ?_) (fun c27 => ?_)
      · replace h := h.1 c27
        refine jx_iload_n 3 dX11_sheet_64 rfl rfl ?_
        obtain ⟨hk28, h⟩ := h
        obtain ⟨hi29, h⟩ := h
        refine jx_iast dX11_sheet_65 hk28 hi29 ?_
        refine jx_iconst (v := 0) dX11_sheet_66 (by decide) ?_
        refine jx_istore (lv1 := [(4, .int 0), (0, .ref a0), (1, .int x1), (2, .int x2), (3, .int x3)]) dX11_sheet_67 (by decide) rfl ?_
        exact jx_lv [1, 2, 0] rfl h
      replace h := h.2 c27
      refine jx_iconst (v := 0) dX11_sheet_60 (by decide) ?_
      refine jx_goto (tgt := 65) dX11_sheet_61 (by decide) ?_
      obtain ⟨hk30, h⟩ := h
      obtain ⟨hi31, h⟩ := h
      refine jx_iast dX11_sheet_65 hk30 hi31 ?_
      refine jx_iconst (v := 0) dX11_sheet_66 (by decide) ?_
      refine jx_istore (lv1 := [(4, .int 0), (0, .ref a0), (1, .int x1), (2, .int x2), (3, .int x3)]) dX11_sheet_67 (by decide) rfl ?_
      exact jx_lv [1, 2, 0] rfl h
    replace h := h.2 c21
    refine jx_ldcw jwC_X11_319 dX11_sheet_40 ?_
    exact jx_iret dX11_sheet_43 rfl rfl (jle rfl) (jle rfl) ⟨_, rfl, h⟩
  replace h := h.2 c20
  refine jx_ldc jwC_X11_87 dX11_sheet_29 ?_
  exact jx_iret dX11_sheet_31 rfl rfl (jle rfl) (jle rfl) ⟨_, rfl, h⟩
set_option maxRecDepth 100000 in
set_option maxHeartbeats 4000000 in
theorem T_X11_sheet_69 {E : jEnv} {d : Nat} {Q : Int32 → jM → Prop} {a0 : Nat} {x1 : Int32} {x4 : Int32} {S : jM} (h : (24 ≤ x4 → jk S a0 = 11 ∧ ∃ b34, jr S a0 5 = some b34 ∧ (jk S b34 = 12 ∧ vp_in x1 (jl S b34) ∧ (Q (ji S b34 (Int32.toNatClampNeg x1)) S))) ∧ (¬ 24 ≤ x4 → jk S a0 = 11 ∧ ∃ b38, jr S a0 6 = some b38 ∧ (jk S b38 = 12 ∧ vp_in ((24 * x1) + x4) (jl S b38) ∧ (L_X11_sheet_69 E d Q a0 x1 (x4 + 1) (jput S b38 (Int32.toNatClampNeg ((24 * x1) + x4)) 0))))) : L_X11_sheet_69 E d Q a0 x1 x4 S := by
  show jX E mX11_sheet (jRm (d + 2) 0 0) (jZm E (fun r S' => ∃ v : Int32, r = some (.int v) ∧ Q v S') 0 0) 69 [(0, .ref a0), (1, .int x1), (4, .int x4)] [] S 0 0
  refine jx_iload 2 dX11_sheet_69 rfl ?_
  refine jx_bipush (v := 24) dX11_sheet_71 (by decide) ?_
  refine jx_icmp_ge (tgt := 95) dX11_sheet_73 (by decide) (fun c32 => ?_) (fun c32 => ?_)
  · replace h := h.1 c32
    refine jx_aload_n 0 dX11_sheet_95 rfl rfl ?_
    obtain ⟨hk33, h⟩ := h
    obtain ⟨b34, hb34, h⟩ := h
    refine jx_getr jc_11 (j := 5) (by decide) rfl jwF_X11_22 dX11_sheet_96 hk33 hb34 ?_
    refine jx_iload_n 1 dX11_sheet_99 rfl rfl ?_
    obtain ⟨hk35, h⟩ := h
    obtain ⟨hi36, h⟩ := h
    refine jx_iald dX11_sheet_100 hk35 hi36 ?_
    exact jx_iret dX11_sheet_101 rfl rfl (jle rfl) (jle rfl) ⟨_, rfl, h⟩
  replace h := h.2 c32
  refine jx_aload_n 0 dX11_sheet_76 rfl rfl ?_
  obtain ⟨hk37, h⟩ := h
  obtain ⟨b38, hb38, h⟩ := h
  refine jx_getr jc_11 (j := 6) (by decide) rfl jwF_X11_25 dX11_sheet_77 hk37 hb38 ?_
  refine jx_bipush (v := 24) dX11_sheet_80 (by decide) ?_
  refine jx_iload_n 1 dX11_sheet_82 rfl rfl ?_
  refine jx_imul dX11_sheet_83 ?_
  refine jx_iload 2 dX11_sheet_84 rfl ?_
  refine jx_iadd dX11_sheet_86 ?_
  refine jx_iconst (v := 0) dX11_sheet_87 (by decide) ?_
  obtain ⟨hk39, h⟩ := h
  obtain ⟨hi40, h⟩ := h
  refine jx_iast dX11_sheet_88 hk39 hi40 ?_
  refine jx_iinc 2 (v := (x4 + 1)) (lv1 := [(4, .int (x4 + 1)), (0, .ref a0), (1, .int x1)]) dX11_sheet_89 rfl rfl (by decide) rfl ?_
  refine jx_goto (tgt := 69) dX11_sheet_92 (by decide) ?_
  exact jx_lv [1, 2, 0] rfl h
set_option maxRecDepth 100000 in
set_option maxHeartbeats 4000000 in
theorem T_X11_mark {E : jEnv} {d : Nat} {Q : Int32 → jM → Prop} {a0 : Nat} {x1 : Int32} {x2 : Int32} {x3 : Int32} {S : jM} (h : ((jissheet x1) = 0 → Q (-1000000001) S) ∧ (¬ (jissheet x1) = 0 → jk S a0 = 11 ∧ ∃ b6, jr S a0 4 = some b6 ∧ (jk S b6 = 12 ∧ vp_in x1 (jl S b6) ∧ ((0 ≤ (ji S b6 (Int32.toNatClampNeg x1)) → ∃ b10, jr S a0 5 = some b10 ∧ (jk S b10 = 12 ∧ vp_in x1 (jl S b10) ∧ (((jisin (Int32.toInt64 x2) 0 (Int32.toInt64 ((ji S b10 (Int32.toNatClampNeg x1)) - 1))) = 0 → Q (-1000000013) S) ∧ (¬ (jisin (Int32.toInt64 x2) 0 (Int32.toInt64 ((ji S b10 (Int32.toNatClampNeg x1)) - 1))) = 0 → (((ji S b6 (Int32.toNatClampNeg x1)) = 0 → (x3 = (-1000000005) → Q (-1000000012) S) ∧ (¬ x3 = (-1000000005) → (((ji S b6 (Int32.toNatClampNeg x1)) = 1 → ((jisin (Int32.toInt64 x3) (-99999) 99999) = 0 → Q (-1000000001) S) ∧ (¬ (jisin (Int32.toInt64 x3) (-99999) 99999) = 0 → ∃ b42, jr S a0 6 = some b42 ∧ ((jk S b42 = 12 ∧ vp_in ((24 * x1) + x2) (jl S b42) ∧ (Q 1 (jput S b42 (Int32.toNatClampNeg ((24 * x1) + x2)) (jshr (jshl x3 16) 16))))))) ∧ (¬ (ji S b6 (Int32.toNatClampNeg x1)) = 1 → ∃ b35, jr S a0 6 = some b35 ∧ ((jk S b35 = 12 ∧ vp_in ((24 * x1) + x2) (jl S b35) ∧ (Q 1 (jput S b35 (Int32.toNatClampNeg ((24 * x1) + x2)) (jshr (jshl x3 16) 16))))))))) ∧ (¬ (ji S b6 (Int32.toNatClampNeg x1)) = 0 → (((ji S b6 (Int32.toNatClampNeg x1)) = 1 → (x3 = (-1000000005) → ∃ b23, jr S a0 6 = some b23 ∧ ((jk S b23 = 12 ∧ vp_in ((24 * x1) + x2) (jl S b23) ∧ (Q 1 (jput S b23 (Int32.toNatClampNeg ((24 * x1) + x2)) x3))))) ∧ (¬ x3 = (-1000000005) → ((jisin (Int32.toInt64 x3) (-99999) 99999) = 0 → Q (-1000000001) S) ∧ (¬ (jisin (Int32.toInt64 x3) (-99999) 99999) = 0 → ∃ b30, jr S a0 6 = some b30 ∧ ((jk S b30 = 12 ∧ vp_in ((24 * x1) + x2) (jl S b30) ∧ (Q 1 (jput S b30 (Int32.toNatClampNeg ((24 * x1) + x2)) x3))))))) ∧ (¬ (ji S b6 (Int32.toNatClampNeg x1)) = 1 → ∃ b19, jr S a0 6 = some b19 ∧ ((jk S b19 = 12 ∧ vp_in ((24 * x1) + x2) (jl S b19) ∧ (Q 1 (jput S b19 (Int32.toNatClampNeg ((24 * x1) + x2)) x3)))))))))))) ∧ (¬ 0 ≤ (ji S b6 (Int32.toNatClampNeg x1)) → Q (-1000000011) S))))) : jFi E mX11_mark (d + 2) 0 0 [.ref a0, .int x1, .int x2, .int x3] S Q := by
  refine jF_of (by decide) (jle rfl) ?_
  refine jx_lv (lv1 := [(0, .ref a0), (1, .int x1), (2, .int x2), (3, .int x3)]) [0, 1, 2, 3] rfl ?_
  refine jx_iload_n 1 dX11_mark_0 rfl rfl ?_
  refine jx_callSi (M' := mX11_isSheet) (As := [.int x1]) jo_X11_isSheet jwM_X11_314 jwS_X11_isSheet dX11_mark_1 (jRok_m _ _ _) rfl (jle rfl) ⟨jle rfl, jle rfl⟩ (c_X11_isSheet (Q := fun v S' => v = (jissheet x1) ∧ S = S') ⟨rfl, rfl⟩) (fun r1 S2 hq3 => ?_)
  obtain ⟨rfl, rfl⟩ := hq3
  refine jx_if_ne (tgt := 10) dX11_mark_4 (by decide) (fun c4 => ?_) (fun c4 => ?_)
  · replace h := h.2 c4
    refine jx_aload_n 0 dX11_mark_10 rfl rfl ?_
    obtain ⟨hk5, h⟩ := h
    obtain ⟨b6, hb6, h⟩ := h
    refine jx_getr jc_11 (j := 4) (by decide) rfl jwF_X11_19 dX11_mark_11 hk5 hb6 ?_
    refine jx_iload_n 1 dX11_mark_14 rfl rfl ?_
    obtain ⟨hk7, h⟩ := h
    obtain ⟨hi8, h⟩ := h
    refine jx_iald dX11_mark_15 hk7 hi8 ?_
    refine jx_if_ge (tgt := 23) dX11_mark_16 (by decide) (fun c9 => ?_) (fun c9 => ?_)
    · replace h := h.1 c9
      refine jx_iload_n 2 dX11_mark_23 rfl rfl ?_
      refine jx_i2l dX11_mark_24 ?_
      refine jx_lconst (v := 0) dX11_mark_25 (by decide) ?_
      refine jx_aload_n 0 dX11_mark_26 rfl rfl ?_
      obtain ⟨b10, hb10, h⟩ := h
      refine jx_getr jc_11 (j := 5) (by decide) rfl jwF_X11_22 dX11_mark_27 hk5 hb10 ?_
      refine jx_iload_n 1 dX11_mark_30 rfl rfl ?_
      obtain ⟨hk11, h⟩ := h
      obtain ⟨hi12, h⟩ := h
      refine jx_iald dX11_mark_31 hk11 hi12 ?_
      refine jx_iconst (v := 1) dX11_mark_32 (by decide) ?_
      refine jx_isub dX11_mark_33 ?_
      refine jx_i2l dX11_mark_34 ?_
      refine jx_callSi (M' := mX11_isIn) (As := [.long (Int32.toInt64 x2), .long 0, .long (Int32.toInt64 ((ji S b10 (Int32.toNatClampNeg x1)) - 1))]) jo_X11_isIn jwM_X11_71 jwS_X11_isIn dX11_mark_35 (jRok_m _ _ _) rfl (jle rfl) ⟨jle rfl, jle rfl⟩ (c_X11_isIn (Q := fun v S' => v = (jisin (Int32.toInt64 x2) 0 (Int32.toInt64 ((ji S b10 (Int32.toNatClampNeg x1)) - 1))) ∧ S = S') ⟨rfl, rfl⟩) (fun r13 S14 hq15 => ?_)
      obtain ⟨rfl, rfl⟩ := hq15
      refine jx_if_ne (tgt := 45) dX11_mark_38 (by decide) (fun c16 => ?_) (fun c16 => ?_)
      · replace h := h.2 c16
        refine jx_aload_n 0 dX11_mark_45 rfl rfl ?_
        refine jx_getr jc_11 (j := 4) (by decide) rfl jwF_X11_19 dX11_mark_46 hk5 hb6 ?_
        refine jx_iload_n 1 dX11_mark_49 rfl rfl ?_
        refine jx_iald dX11_mark_50 hk7 hi8 ?_
        refine jx_if_ne (tgt := 63) dX11_mark_51 (by decide) (fun c17 => ?_) (fun c17 => ?_)
        · replace h := h.2 c17
          refine jx_aload_n 0 dX11_mark_63 rfl rfl ?_
          refine jx_getr jc_11 (j := 4) (by decide) rfl jwF_X11_19 dX11_mark_64 hk5 hb6 ?_
          refine jx_iload_n 1 dX11_mark_67 rfl rfl ?_
          refine jx_iald dX11_mark_68 hk7 hi8 ?_
          refine jx_iconst (v := 1) dX11_mark_69 (by decide) ?_
          refine jx_icmp_ne (tgt := 96) dX11_mark_70 (by decide) (fun c18 => ?_) (fun c18 => ?_)
          · replace h := h.2 c18
            refine jx_aload_n 0 dX11_mark_96 rfl rfl ?_
            obtain ⟨b19, hb19, h⟩ := h
            refine jx_getr jc_11 (j := 6) (by decide) rfl jwF_X11_25 dX11_mark_97 hk5 hb19 ?_
            refine jx_bipush (v := 24) dX11_mark_100 (by decide) ?_
            refine jx_iload_n 1 dX11_mark_102 rfl rfl ?_
            refine jx_imul dX11_mark_103 ?_
            refine jx_iload_n 2 dX11_mark_104 rfl rfl ?_
            refine jx_iadd dX11_mark_105 ?_
            refine jx_aload_n 0 dX11_mark_106 rfl rfl ?_
            refine jx_getr jc_11 (j := 4) (by decide) rfl jwF_X11_19 dX11_mark_107 hk5 hb6 ?_
            refine jx_iload_n 1 dX11_mark_110 rfl rfl ?_
            refine jx_iald dX11_mark_111 hk7 hi8 ?_
            refine jx_if_ne (tgt := 125) dX11_mark_112 (by decide) (fun _ => ?_) (fun z9 => absurd z9 c17)
            refine jx_iload_n 3 dX11_mark_125 rfl rfl ?_
            obtain ⟨hk20, h⟩ := h
            obtain ⟨hi21, h⟩ := h
            refine jx_iast dX11_mark_126 hk20 hi21 ?_
            refine jx_iconst (v := 1) dX11_mark_127 (by decide) ?_
            exact jx_iret dX11_mark_128 rfl rfl (jle rfl) (jle rfl) ⟨_, rfl, h⟩
          replace h := h.1 c18
          refine jx_iload_n 3 dX11_mark_73 rfl rfl ?_
          refine jx_ldc jwC_X11_70 dX11_mark_74 ?_
          refine jx_icmp_eq (tgt := 96) dX11_mark_76 (by decide) (fun c22 => ?_) (fun c22 => ?_)
          · replace h := h.1 c22
            refine jx_aload_n 0 dX11_mark_96 rfl rfl ?_
            obtain ⟨b23, hb23, h⟩ := h
            refine jx_getr jc_11 (j := 6) (by decide) rfl jwF_X11_25 dX11_mark_97 hk5 hb23 ?_
            refine jx_bipush (v := 24) dX11_mark_100 (by decide) ?_
            refine jx_iload_n 1 dX11_mark_102 rfl rfl ?_
            refine jx_imul dX11_mark_103 ?_
            refine jx_iload_n 2 dX11_mark_104 rfl rfl ?_
            refine jx_iadd dX11_mark_105 ?_
            refine jx_aload_n 0 dX11_mark_106 rfl rfl ?_
            refine jx_getr jc_11 (j := 4) (by decide) rfl jwF_X11_19 dX11_mark_107 hk5 hb6 ?_
            refine jx_iload_n 1 dX11_mark_110 rfl rfl ?_
            refine jx_iald dX11_mark_111 hk7 hi8 ?_
            refine jx_if_ne (tgt := 125) dX11_mark_112 (by decide) (fun _ => ?_) (fun z9 => absurd z9 c17)
            refine jx_iload_n 3 dX11_mark_125 rfl rfl ?_
            obtain ⟨hk24, h⟩ := h
            obtain ⟨hi25, h⟩ := h
            refine jx_iast dX11_mark_126 hk24 hi25 ?_
            refine jx_iconst (v := 1) dX11_mark_127 (by decide) ?_
            exact jx_iret dX11_mark_128 rfl rfl (jle rfl) (jle rfl) ⟨_, rfl, h⟩
          replace h := h.2 c22
          refine jx_iload_n 3 dX11_mark_79 rfl rfl ?_
          refine jx_i2l dX11_mark_80 ?_
          refine jx_ldc2 jwL_X11_322 dX11_mark_81 ?_
          refine jx_ldc2 jwL_X11_324 dX11_mark_84 ?_
          refine jx_callSi (M' := mX11_isIn) (As := [.long (Int32.toInt64 x3), .long (-99999), .long 99999]) jo_X11_isIn jwM_X11_71 jwS_X11_isIn dX11_mark_87 (jRok_m _ _ _) rfl (jle rfl) ⟨jle rfl, jle rfl⟩ (c_X11_isIn (Q := fun v S' => v = (jisin (Int32.toInt64 x3) (-99999) 99999) ∧ S = S') ⟨rfl, rfl⟩) (fun r26 S27 hq28 => ?_)
          obtain ⟨rfl, rfl⟩ := hq28
          refine jx_if_ne (tgt := 96) dX11_mark_90 (by decide) (fun c29 => ?_) (fun c29 => ?_)
          · replace h := h.2 c29
            refine jx_aload_n 0 dX11_mark_96 rfl rfl ?_
            obtain ⟨b30, hb30, h⟩ := h
            refine jx_getr jc_11 (j := 6) (by decide) rfl jwF_X11_25 dX11_mark_97 hk5 hb30 ?_
            refine jx_bipush (v := 24) dX11_mark_100 (by decide) ?_
            refine jx_iload_n 1 dX11_mark_102 rfl rfl ?_
            refine jx_imul dX11_mark_103 ?_
            refine jx_iload_n 2 dX11_mark_104 rfl rfl ?_
            refine jx_iadd dX11_mark_105 ?_
            refine jx_aload_n 0 dX11_mark_106 rfl rfl ?_
            refine jx_getr jc_11 (j := 4) (by decide) rfl jwF_X11_19 dX11_mark_107 hk5 hb6 ?_
            refine jx_iload_n 1 dX11_mark_110 rfl rfl ?_
            refine jx_iald dX11_mark_111 hk7 hi8 ?_
            refine jx_if_ne (tgt := 125) dX11_mark_112 (by decide) (fun _ => ?_) (fun z9 => absurd z9 c17)
            refine jx_iload_n 3 dX11_mark_125 rfl rfl ?_
            obtain ⟨hk31, h⟩ := h
            obtain ⟨hi32, h⟩ := h
            refine jx_iast dX11_mark_126 hk31 hi32 ?_
            refine jx_iconst (v := 1) dX11_mark_127 (by decide) ?_
            exact jx_iret dX11_mark_128 rfl rfl (jle rfl) (jle rfl) ⟨_, rfl, h⟩
          replace h := h.1 c29
          refine jx_ldc jwC_X11_87 dX11_mark_93 ?_
          exact jx_iret dX11_mark_95 rfl rfl (jle rfl) (jle rfl) ⟨_, rfl, h⟩
        replace h := h.1 c17
        refine jx_iload_n 3 dX11_mark_54 rfl rfl ?_
        refine jx_ldc jwC_X11_70 dX11_mark_55 ?_
        refine jx_icmp_ne (tgt := 63) dX11_mark_57 (by decide) (fun c33 => ?_) (fun c33 => ?_)
        · replace h := h.2 c33
          refine jx_aload_n 0 dX11_mark_63 rfl rfl ?_
          refine jx_getr jc_11 (j := 4) (by decide) rfl jwF_X11_19 dX11_mark_64 hk5 hb6 ?_
          refine jx_iload_n 1 dX11_mark_67 rfl rfl ?_
          refine jx_iald dX11_mark_68 hk7 hi8 ?_
          refine jx_iconst (v := 1) dX11_mark_69 (by decide) ?_
          refine jx_icmp_ne (tgt := 96) dX11_mark_70 (by decide) (fun c34 => ?_) (fun c34 => ?_)
          · replace h := h.2 c34
            refine jx_aload_n 0 dX11_mark_96 rfl rfl ?_
            obtain ⟨b35, hb35, h⟩ := h
            refine jx_getr jc_11 (j := 6) (by decide) rfl jwF_X11_25 dX11_mark_97 hk5 hb35 ?_
            refine jx_bipush (v := 24) dX11_mark_100 (by decide) ?_
            refine jx_iload_n 1 dX11_mark_102 rfl rfl ?_
            refine jx_imul dX11_mark_103 ?_
            refine jx_iload_n 2 dX11_mark_104 rfl rfl ?_
            refine jx_iadd dX11_mark_105 ?_
            refine jx_aload_n 0 dX11_mark_106 rfl rfl ?_
            refine jx_getr jc_11 (j := 4) (by decide) rfl jwF_X11_19 dX11_mark_107 hk5 hb6 ?_
            refine jx_iload_n 1 dX11_mark_110 rfl rfl ?_
            refine jx_iald dX11_mark_111 hk7 hi8 ?_
            refine jx_if_ne (tgt := 125) dX11_mark_112 (by decide) (fun z9 => absurd c17 z9) (fun _ => ?_)
            refine jx_iload_n 3 dX11_mark_115 rfl rfl ?_
            refine jx_bipush (v := 16) dX11_mark_116 (by decide) ?_
            refine jx_ishl dX11_mark_118 ?_
            refine jx_bipush (v := 16) dX11_mark_119 (by decide) ?_
            refine jx_ishr dX11_mark_121 ?_
            refine jx_goto (tgt := 126) dX11_mark_122 (by decide) ?_
            obtain ⟨hk36, h⟩ := h
            obtain ⟨hi37, h⟩ := h
            refine jx_iast dX11_mark_126 hk36 hi37 ?_
            refine jx_iconst (v := 1) dX11_mark_127 (by decide) ?_
            exact jx_iret dX11_mark_128 rfl rfl (jle rfl) (jle rfl) ⟨_, rfl, h⟩
          replace h := h.1 c34
          refine jx_iload_n 3 dX11_mark_73 rfl rfl ?_
          refine jx_ldc jwC_X11_70 dX11_mark_74 ?_
          refine jx_icmp_eq (tgt := 96) dX11_mark_76 (by decide) (fun z9 => absurd z9 c33) (fun _ => ?_)
          refine jx_iload_n 3 dX11_mark_79 rfl rfl ?_
          refine jx_i2l dX11_mark_80 ?_
          refine jx_ldc2 jwL_X11_322 dX11_mark_81 ?_
          refine jx_ldc2 jwL_X11_324 dX11_mark_84 ?_
          refine jx_callSi (M' := mX11_isIn) (As := [.long (Int32.toInt64 x3), .long (-99999), .long 99999]) jo_X11_isIn jwM_X11_71 jwS_X11_isIn dX11_mark_87 (jRok_m _ _ _) rfl (jle rfl) ⟨jle rfl, jle rfl⟩ (c_X11_isIn (Q := fun v S' => v = (jisin (Int32.toInt64 x3) (-99999) 99999) ∧ S = S') ⟨rfl, rfl⟩) (fun r38 S39 hq40 => ?_)
          obtain ⟨rfl, rfl⟩ := hq40
          refine jx_if_ne (tgt := 96) dX11_mark_90 (by decide) (fun c41 => ?_) (fun c41 => ?_)
          · replace h := h.2 c41
            refine jx_aload_n 0 dX11_mark_96 rfl rfl ?_
            obtain ⟨b42, hb42, h⟩ := h
            refine jx_getr jc_11 (j := 6) (by decide) rfl jwF_X11_25 dX11_mark_97 hk5 hb42 ?_
            refine jx_bipush (v := 24) dX11_mark_100 (by decide) ?_
            refine jx_iload_n 1 dX11_mark_102 rfl rfl ?_
            refine jx_imul dX11_mark_103 ?_
            refine jx_iload_n 2 dX11_mark_104 rfl rfl ?_
            refine jx_iadd dX11_mark_105 ?_
            refine jx_aload_n 0 dX11_mark_106 rfl rfl ?_
            refine jx_getr jc_11 (j := 4) (by decide) rfl jwF_X11_19 dX11_mark_107 hk5 hb6 ?_
            refine jx_iload_n 1 dX11_mark_110 rfl rfl ?_
            refine jx_iald dX11_mark_111 hk7 hi8 ?_
            refine jx_if_ne (tgt := 125) dX11_mark_112 (by decide) (fun z9 => absurd c17 z9) (fun _ => ?_)
            refine jx_iload_n 3 dX11_mark_115 rfl rfl ?_
            refine jx_bipush (v := 16) dX11_mark_116 (by decide) ?_
            refine jx_ishl dX11_mark_118 ?_
            refine jx_bipush (v := 16) dX11_mark_119 (by decide) ?_
            refine jx_ishr dX11_mark_121 ?_
            refine jx_goto (tgt := 126) dX11_mark_122 (by decide) ?_
            obtain ⟨hk43, h⟩ := h
            obtain ⟨hi44, h⟩ := h
            refine jx_iast dX11_mark_126 hk43 hi44 ?_
            refine jx_iconst (v := 1) dX11_mark_127 (by decide) ?_
            exact jx_iret dX11_mark_128 rfl rfl (jle rfl) (jle rfl) ⟨_, rfl, h⟩
          replace h := h.1 c41
          refine jx_ldc jwC_X11_87 dX11_mark_93 ?_
          exact jx_iret dX11_mark_95 rfl rfl (jle rfl) (jle rfl) ⟨_, rfl, h⟩
        replace h := h.1 c33
        refine jx_ldc jwC_X11_129 dX11_mark_60 ?_
        exact jx_iret dX11_mark_62 rfl rfl (jle rfl) (jle rfl) ⟨_, rfl, h⟩
      replace h := h.1 c16
      refine jx_ldcw jwC_X11_321 dX11_mark_41 ?_
      exact jx_iret dX11_mark_44 rfl rfl (jle rfl) (jle rfl) ⟨_, rfl, h⟩
    replace h := h.2 c9
    refine jx_ldcw jwC_X11_320 dX11_mark_19 ?_
    exact jx_iret dX11_mark_22 rfl rfl (jle rfl) (jle rfl) ⟨_, rfl, h⟩
  replace h := h.1 c4
  refine jx_ldc jwC_X11_87 dX11_mark_7 ?_
  exact jx_iret dX11_mark_9 rfl rfl (jle rfl) (jle rfl) ⟨_, rfl, h⟩
/-- X11_pour at its loop's head 27 -/
abbrev L_X11_pour_27 (E : jEnv) (d : Nat) (Q : Int32 → jM → Prop) (a0 : Nat) (x1 : Int32) (x2 : Int32) (x3 : Int32) (S : jM) : Prop := jX E mX11_pour (jRm (d + 2) 0 0) (jZm E (fun r S' => ∃ v : Int32, r = some (.int v) ∧ Q v S') 0 0) 27 [(0, .ref a0), (1, .int x1), (2, .int x2), (3, .int x3)] [] S 0 0
set_option maxRecDepth 100000 in
set_option maxHeartbeats 4000000 in
theorem T_X11_pour {E : jEnv} {d : Nat} {Q : Int32 → jM → Prop} {a0 : Nat} {x1 : Int32} {S : jM} (h : ((jissheet x1) = 0 → Q (-1000000001) S) ∧ (¬ (jissheet x1) = 0 → jk S a0 = 11 ∧ ∃ b6, jr S a0 4 = some b6 ∧ (jk S b6 = 12 ∧ vp_in x1 (jl S b6) ∧ ((0 ≤ (ji S b6 (Int32.toNatClampNeg x1)) → L_X11_pour_27 E d Q a0 x1 0 0 S) ∧ (¬ 0 ≤ (ji S b6 (Int32.toNatClampNeg x1)) → Q (-1000000011) S))))) : jFi E mX11_pour (d + 2) 0 0 [.ref a0, .int x1] S Q := by
  refine jF_of (by decide) (jle rfl) ?_
  refine jx_lv (lv1 := [(0, .ref a0), (1, .int x1)]) [0, 1] rfl ?_
  refine jx_iload_n 1 dX11_pour_0 rfl rfl ?_
  refine jx_callSi (M' := mX11_isSheet) (As := [.int x1]) jo_X11_isSheet jwM_X11_314 jwS_X11_isSheet dX11_pour_1 (jRok_m _ _ _) rfl (jle rfl) ⟨jle rfl, jle rfl⟩ (c_X11_isSheet (Q := fun v S' => v = (jissheet x1) ∧ S = S') ⟨rfl, rfl⟩) (fun r1 S2 hq3 => ?_)
  obtain ⟨rfl, rfl⟩ := hq3
  refine jx_if_ne (tgt := 10) dX11_pour_4 (by decide) (fun c4 => ?_) (fun c4 => ?_)
  · replace h := h.2 c4
    refine jx_aload_n 0 dX11_pour_10 rfl rfl ?_
    obtain ⟨hk5, h⟩ := h
    obtain ⟨b6, hb6, h⟩ := h
    refine jx_getr jc_11 (j := 4) (by decide) rfl jwF_X11_19 dX11_pour_11 hk5 hb6 ?_
    refine jx_iload_n 1 dX11_pour_14 rfl rfl ?_
    obtain ⟨hk7, h⟩ := h
    obtain ⟨hi8, h⟩ := h
    refine jx_iald dX11_pour_15 hk7 hi8 ?_
    refine jx_if_ge (tgt := 23) dX11_pour_16 (by decide) (fun c9 => ?_) (fun c9 => ?_)
    · replace h := h.1 c9
      refine jx_iconst (v := 0) dX11_pour_23 (by decide) ?_
      refine jx_istore_n (lv1 := [(2, .int 0), (0, .ref a0), (1, .int x1)]) dX11_pour_24 rfl (by decide) rfl ?_
      refine jx_iconst (v := 0) dX11_pour_25 (by decide) ?_
      refine jx_istore_n (lv1 := [(3, .int 0), (2, .int 0), (0, .ref a0), (1, .int x1)]) dX11_pour_26 rfl (by decide) rfl ?_
      exact jx_lv [2, 3, 1, 0] rfl h
    replace h := h.2 c9
    refine jx_ldcw jwC_X11_320 dX11_pour_19 ?_
    exact jx_iret dX11_pour_22 rfl rfl (jle rfl) (jle rfl) ⟨_, rfl, h⟩
  replace h := h.1 c4
  refine jx_ldc jwC_X11_87 dX11_pour_7 ?_
  exact jx_iret dX11_pour_9 rfl rfl (jle rfl) (jle rfl) ⟨_, rfl, h⟩
set_option maxRecDepth 100000 in
set_option maxHeartbeats 4000000 in
theorem T_X11_pour_27 {E : jEnv} {d : Nat} {Q : Int32 → jM → Prop} {a0 : Nat} {x1 : Int32} {x2 : Int32} {x3 : Int32} {S : jM} (h : jk S a0 = 11 ∧ ∃ b11, jr S a0 5 = some b11 ∧ (jk S b11 = 12 ∧ vp_in x1 (jl S b11) ∧ (((ji S b11 (Int32.toNatClampNeg x1)) ≤ x3 → Q x2 S) ∧ (¬ (ji S b11 (Int32.toNatClampNeg x1)) ≤ x3 → ∃ b15, jr S a0 0 = some b15 ∧ (jk S b15 = 12 ∧ vp_in 0 (jl S b15) ∧ (((ji S b15 (Int32.toNatClampNeg 0)) ≤ x3 → Q x2 S) ∧ (¬ (ji S b15 (Int32.toNatClampNeg 0)) ≤ x3 → ∃ b19, jr S a0 6 = some b19 ∧ (jk S b19 = 12 ∧ vp_in ((24 * x1) + x3) (jl S b19) ∧ (((ji S b19 (Int32.toNatClampNeg ((24 * x1) + x3))) = (-1000000005) → jFi E mX11_of (d + 1) 0 0 [.ref a0, .int x3, .int 4] S (fun r30 S29 => jk S29 a0 = 11 ∧ jFi E mX11_becomes (d + 1) 0 0 [.ref a0, .int ((72 + (7 * x3)) + 4), .int r30] S29 (fun r33 S32 => (r30 = r33 → L_X11_pour_27 E d Q a0 x1 (x2 + 0) (x3 + 1) S32) ∧ (¬ r30 = r33 → L_X11_pour_27 E d Q a0 x1 (x2 + 1) (x3 + 1) S32)))) ∧ (¬ (ji S b19 (Int32.toNatClampNeg ((24 * x1) + x3))) = (-1000000005) → jFi E mX11_becomes (d + 1) 0 0 [.ref a0, .int ((72 + (7 * x3)) + 4), .int (jclamp (ji S b19 (Int32.toNatClampNeg ((24 * x1) + x3))) 0 99)] S (fun r27 S26 => ((jclamp (ji S b19 (Int32.toNatClampNeg ((24 * x1) + x3))) 0 99) = r27 → L_X11_pour_27 E d Q a0 x1 (x2 + 0) (x3 + 1) S26) ∧ (¬ (jclamp (ji S b19 (Int32.toNatClampNeg ((24 * x1) + x3))) 0 99) = r27 → L_X11_pour_27 E d Q a0 x1 (x2 + 1) (x3 + 1) S26)))))))))))) : L_X11_pour_27 E d Q a0 x1 x2 x3 S := by
  show jX E mX11_pour (jRm (d + 2) 0 0) (jZm E (fun r S' => ∃ v : Int32, r = some (.int v) ∧ Q v S') 0 0) 27 [(0, .ref a0), (1, .int x1), (2, .int x2), (3, .int x3)] [] S 0 0
  refine jx_iload_n 3 dX11_pour_27 rfl rfl ?_
  refine jx_aload_n 0 dX11_pour_28 rfl rfl ?_
  obtain ⟨hk10, h⟩ := h
  obtain ⟨b11, hb11, h⟩ := h
  refine jx_getr jc_11 (j := 5) (by decide) rfl jwF_X11_22 dX11_pour_29 hk10 hb11 ?_
  refine jx_iload_n 1 dX11_pour_32 rfl rfl ?_
  obtain ⟨hk12, h⟩ := h
  obtain ⟨hi13, h⟩ := h
  refine jx_iald dX11_pour_33 hk12 hi13 ?_
  refine jx_icmp_ge (tgt := 120) dX11_pour_34 (by decide) (fun c14 => ?_) (fun c14 => ?_)
  · replace h := h.1 c14
    refine jx_iload_n 2 dX11_pour_120 rfl rfl ?_
    exact jx_iret dX11_pour_121 rfl rfl (jle rfl) (jle rfl) ⟨_, rfl, h⟩
  replace h := h.2 c14
  refine jx_iload_n 3 dX11_pour_37 rfl rfl ?_
  refine jx_aload_n 0 dX11_pour_38 rfl rfl ?_
  obtain ⟨b15, hb15, h⟩ := h
  refine jx_getr jc_11 (j := 0) (by decide) rfl jwF_X11_7 dX11_pour_39 hk10 hb15 ?_
  refine jx_iconst (v := 0) dX11_pour_42 (by decide) ?_
  obtain ⟨hk16, h⟩ := h
  obtain ⟨hi17, h⟩ := h
  refine jx_iald dX11_pour_43 hk16 hi17 ?_
  refine jx_icmp_ge (tgt := 120) dX11_pour_44 (by decide) (fun c18 => ?_) (fun c18 => ?_)
  · replace h := h.1 c18
    refine jx_iload_n 2 dX11_pour_120 rfl rfl ?_
    exact jx_iret dX11_pour_121 rfl rfl (jle rfl) (jle rfl) ⟨_, rfl, h⟩
  replace h := h.2 c18
  refine jx_aload_n 0 dX11_pour_47 rfl rfl ?_
  obtain ⟨b19, hb19, h⟩ := h
  refine jx_getr jc_11 (j := 6) (by decide) rfl jwF_X11_25 dX11_pour_48 hk10 hb19 ?_
  refine jx_bipush (v := 24) dX11_pour_51 (by decide) ?_
  refine jx_iload_n 1 dX11_pour_53 rfl rfl ?_
  refine jx_imul dX11_pour_54 ?_
  refine jx_iload_n 3 dX11_pour_55 rfl rfl ?_
  refine jx_iadd dX11_pour_56 ?_
  obtain ⟨hk20, h⟩ := h
  obtain ⟨hi21, h⟩ := h
  refine jx_iald dX11_pour_57 hk20 hi21 ?_
  refine jx_istore (lv1 := [(4, .int (ji S b19 (Int32.toNatClampNeg ((24 * x1) + x3)))), (0, .ref a0), (1, .int x1), (2, .int x2), (3, .int x3)]) dX11_pour_58 (by decide) rfl ?_
  refine jx_iload 0 dX11_pour_60 rfl ?_
  refine jx_ldc jwC_X11_70 dX11_pour_62 ?_
  refine jx_icmp_ne (tgt := 76) dX11_pour_64 (by decide) (fun c22 => ?_) (fun c22 => ?_)
  · replace h := h.2 c22
    refine jx_iload 0 dX11_pour_76 rfl ?_
    refine jx_iconst (v := 0) dX11_pour_78 (by decide) ?_
    refine jx_bipush (v := 99) dX11_pour_79 (by decide) ?_
    refine jx_callSi (M' := mX11_within) (As := [.int (ji S b19 (Int32.toNatClampNeg ((24 * x1) + x3))), .int 0, .int 99]) jo_X11_within jwM_X11_104 jwS_X11_within dX11_pour_81 (jRok_m _ _ _) rfl (jle rfl) ⟨jle rfl, jle rfl⟩ (c_X11_within (Q := fun v S' => v = (jclamp (ji S b19 (Int32.toNatClampNeg ((24 * x1) + x3))) 0 99) ∧ S = S') ⟨rfl, rfl⟩) (fun r23 S24 hq25 => ?_)
    obtain ⟨rfl, rfl⟩ := hq25
    refine jx_istore (lv1 := [(5, .int (jclamp (ji S b19 (Int32.toNatClampNeg ((24 * x1) + x3))) 0 99)), (4, .int (ji S b19 (Int32.toNatClampNeg ((24 * x1) + x3)))), (0, .ref a0), (1, .int x1), (2, .int x2), (3, .int x3)]) dX11_pour_84 (by decide) rfl ?_
    refine jx_iload_n 4 dX11_pour_86 rfl rfl ?_
    refine jx_iload 0 dX11_pour_87 rfl ?_
    refine jx_aload_n 2 dX11_pour_89 rfl rfl ?_
    refine jx_bipush (v := 72) dX11_pour_90 (by decide) ?_
    refine jx_bipush (v := 7) dX11_pour_92 (by decide) ?_
    refine jx_iload_n 5 dX11_pour_94 rfl rfl ?_
    refine jx_imul dX11_pour_95 ?_
    refine jx_iadd dX11_pour_96 ?_
    refine jx_iconst (v := 4) dX11_pour_97 (by decide) ?_
    refine jx_iadd dX11_pour_98 ?_
    refine jx_iload 0 dX11_pour_99 rfl ?_
    refine jx_callVi (M' := mX11_becomes) (As := [.int ((72 + (7 * x3)) + 4), .int (jclamp (ji S b19 (Int32.toNatClampNeg ((24 * x1) + x3))) 0 99)]) jo_X11_becomes jc_11 rfl jwM_X11_130 jwN_X11_becomes jwX_X11_becomes dX11_pour_101 (jRok_m _ _ _) rfl (jle rfl) ⟨jle rfl, jle rfl⟩ hk10 h (fun r27 S26 h => ?_)
    refine jx_icmp_ne (tgt := 111) dX11_pour_104 (by decide) (fun c28 => ?_) (fun c28 => ?_)
    · replace h := h.2 c28
      refine jx_iconst (v := 1) dX11_pour_111 (by decide) ?_
      refine jx_iadd dX11_pour_112 ?_
      refine jx_istore_n (lv1 := [(2, .int (x2 + 1)), (5, .int (jclamp (ji S b19 (Int32.toNatClampNeg ((24 * x1) + x3))) 0 99)), (4, .int (ji S b19 (Int32.toNatClampNeg ((24 * x1) + x3)))), (0, .ref a0), (1, .int x1), (3, .int x3)]) dX11_pour_113 rfl (by decide) rfl ?_
      refine jx_iinc 5 (v := (x3 + 1)) (lv1 := [(3, .int (x3 + 1)), (2, .int (x2 + 1)), (5, .int (jclamp (ji S b19 (Int32.toNatClampNeg ((24 * x1) + x3))) 0 99)), (4, .int (ji S b19 (Int32.toNatClampNeg ((24 * x1) + x3)))), (0, .ref a0), (1, .int x1)]) dX11_pour_114 rfl rfl (by decide) rfl ?_
      refine jx_goto (tgt := 27) dX11_pour_117 (by decide) ?_
      exact jx_lv [4, 5, 1, 0] rfl h
    replace h := h.1 c28
    refine jx_iconst (v := 0) dX11_pour_107 (by decide) ?_
    refine jx_goto (tgt := 112) dX11_pour_108 (by decide) ?_
    refine jx_iadd dX11_pour_112 ?_
    refine jx_istore_n (lv1 := [(2, .int (x2 + 0)), (5, .int (jclamp (ji S b19 (Int32.toNatClampNeg ((24 * x1) + x3))) 0 99)), (4, .int (ji S b19 (Int32.toNatClampNeg ((24 * x1) + x3)))), (0, .ref a0), (1, .int x1), (3, .int x3)]) dX11_pour_113 rfl (by decide) rfl ?_
    refine jx_iinc 5 (v := (x3 + 1)) (lv1 := [(3, .int (x3 + 1)), (2, .int (x2 + 0)), (5, .int (jclamp (ji S b19 (Int32.toNatClampNeg ((24 * x1) + x3))) 0 99)), (4, .int (ji S b19 (Int32.toNatClampNeg ((24 * x1) + x3)))), (0, .ref a0), (1, .int x1)]) dX11_pour_114 rfl rfl (by decide) rfl ?_
    refine jx_goto (tgt := 27) dX11_pour_117 (by decide) ?_
    exact jx_lv [4, 5, 1, 0] rfl h
  replace h := h.1 c22
  refine jx_aload_n 1 dX11_pour_67 rfl rfl ?_
  refine jx_iload_n 4 dX11_pour_68 rfl rfl ?_
  refine jx_iconst (v := 4) dX11_pour_69 (by decide) ?_
  refine jx_callVi (M' := mX11_of) (As := [.int x3, .int 4]) jo_X11_of jc_11 rfl jwM_X11_97 jwN_X11_of jwX_X11_of dX11_pour_70 (jRok_m _ _ _) rfl (jle rfl) ⟨jle rfl, jle rfl⟩ hk10 h (fun r30 S29 h => ?_)
  refine jx_goto (tgt := 84) dX11_pour_73 (by decide) ?_
  refine jx_istore (lv1 := [(5, .int r30), (4, .int (ji S b19 (Int32.toNatClampNeg ((24 * x1) + x3)))), (0, .ref a0), (1, .int x1), (2, .int x2), (3, .int x3)]) dX11_pour_84 (by decide) rfl ?_
  refine jx_iload_n 4 dX11_pour_86 rfl rfl ?_
  refine jx_iload 0 dX11_pour_87 rfl ?_
  refine jx_aload_n 2 dX11_pour_89 rfl rfl ?_
  refine jx_bipush (v := 72) dX11_pour_90 (by decide) ?_
  refine jx_bipush (v := 7) dX11_pour_92 (by decide) ?_
  refine jx_iload_n 5 dX11_pour_94 rfl rfl ?_
  refine jx_imul dX11_pour_95 ?_
  refine jx_iadd dX11_pour_96 ?_
  refine jx_iconst (v := 4) dX11_pour_97 (by decide) ?_
  refine jx_iadd dX11_pour_98 ?_
  refine jx_iload 0 dX11_pour_99 rfl ?_
  obtain ⟨hk31, h⟩ := h
  refine jx_callVi (M' := mX11_becomes) (As := [.int ((72 + (7 * x3)) + 4), .int r30]) jo_X11_becomes jc_11 rfl jwM_X11_130 jwN_X11_becomes jwX_X11_becomes dX11_pour_101 (jRok_m _ _ _) rfl (jle rfl) ⟨jle rfl, jle rfl⟩ hk31 h (fun r33 S32 h => ?_)
  refine jx_icmp_ne (tgt := 111) dX11_pour_104 (by decide) (fun c34 => ?_) (fun c34 => ?_)
  · replace h := h.2 c34
    refine jx_iconst (v := 1) dX11_pour_111 (by decide) ?_
    refine jx_iadd dX11_pour_112 ?_
    refine jx_istore_n (lv1 := [(2, .int (x2 + 1)), (5, .int r30), (4, .int (ji S b19 (Int32.toNatClampNeg ((24 * x1) + x3)))), (0, .ref a0), (1, .int x1), (3, .int x3)]) dX11_pour_113 rfl (by decide) rfl ?_
    refine jx_iinc 5 (v := (x3 + 1)) (lv1 := [(3, .int (x3 + 1)), (2, .int (x2 + 1)), (5, .int r30), (4, .int (ji S b19 (Int32.toNatClampNeg ((24 * x1) + x3)))), (0, .ref a0), (1, .int x1)]) dX11_pour_114 rfl rfl (by decide) rfl ?_
    refine jx_goto (tgt := 27) dX11_pour_117 (by decide) ?_
    exact jx_lv [4, 5, 1, 0] rfl h
  replace h := h.1 c34
  refine jx_iconst (v := 0) dX11_pour_107 (by decide) ?_
  refine jx_goto (tgt := 112) dX11_pour_108 (by decide) ?_
  refine jx_iadd dX11_pour_112 ?_
  refine jx_istore_n (lv1 := [(2, .int (x2 + 0)), (5, .int r30), (4, .int (ji S b19 (Int32.toNatClampNeg ((24 * x1) + x3)))), (0, .ref a0), (1, .int x1), (3, .int x3)]) dX11_pour_113 rfl (by decide) rfl ?_
  refine jx_iinc 5 (v := (x3 + 1)) (lv1 := [(3, .int (x3 + 1)), (2, .int (x2 + 0)), (5, .int r30), (4, .int (ji S b19 (Int32.toNatClampNeg ((24 * x1) + x3)))), (0, .ref a0), (1, .int x1)]) dX11_pour_114 rfl rfl (by decide) rfl ?_
  refine jx_goto (tgt := 27) dX11_pour_117 (by decide) ?_
  exact jx_lv [4, 5, 1, 0] rfl h
/-- X11_reads at its loop's head 25 -/
abbrev L_X11_reads_25 (E : jEnv) (d : Nat) (Q : Int32 → jM → Prop) (a0 : Nat) (x1 : Int32) (x2 : Int32) (S : jM) : Prop := jX E mX11_reads (jRm (d + 2) 0 0) (jZm E (fun r S' => ∃ v : Int32, r = some (.int v) ∧ Q v S') 0 0) 25 [(0, .ref a0), (1, .int x1), (2, .int x2)] [] S 0 0
set_option maxRecDepth 100000 in
set_option maxHeartbeats 4000000 in
theorem T_X11_reads {E : jEnv} {d : Nat} {Q : Int32 → jM → Prop} {a0 : Nat} {x1 : Int32} {S : jM} (h : ((jissheet x1) = 0 → Q (-1000000001) S) ∧ (¬ (jissheet x1) = 0 → jk S a0 = 11 ∧ ∃ b6, jr S a0 4 = some b6 ∧ (jk S b6 = 12 ∧ vp_in x1 (jl S b6) ∧ ((0 ≤ (ji S b6 (Int32.toNatClampNeg x1)) → L_X11_reads_25 E d Q a0 x1 0 S) ∧ (¬ 0 ≤ (ji S b6 (Int32.toNatClampNeg x1)) → Q (-1000000011) S))))) : jFi E mX11_reads (d + 2) 0 0 [.ref a0, .int x1] S Q := by
  refine jF_of (by decide) (jle rfl) ?_
  refine jx_lv (lv1 := [(0, .ref a0), (1, .int x1)]) [0, 1] rfl ?_
  refine jx_iload_n 1 dX11_reads_0 rfl rfl ?_
  refine jx_callSi (M' := mX11_isSheet) (As := [.int x1]) jo_X11_isSheet jwM_X11_314 jwS_X11_isSheet dX11_reads_1 (jRok_m _ _ _) rfl (jle rfl) ⟨jle rfl, jle rfl⟩ (c_X11_isSheet (Q := fun v S' => v = (jissheet x1) ∧ S = S') ⟨rfl, rfl⟩) (fun r1 S2 hq3 => ?_)
  obtain ⟨rfl, rfl⟩ := hq3
  refine jx_if_ne (tgt := 10) dX11_reads_4 (by decide) (fun c4 => ?_) (fun c4 => ?_)
  · replace h := h.2 c4
    refine jx_aload_n 0 dX11_reads_10 rfl rfl ?_
    obtain ⟨hk5, h⟩ := h
    obtain ⟨b6, hb6, h⟩ := h
    refine jx_getr jc_11 (j := 4) (by decide) rfl jwF_X11_19 dX11_reads_11 hk5 hb6 ?_
    refine jx_iload_n 1 dX11_reads_14 rfl rfl ?_
    obtain ⟨hk7, h⟩ := h
    obtain ⟨hi8, h⟩ := h
    refine jx_iald dX11_reads_15 hk7 hi8 ?_
    refine jx_if_ge (tgt := 23) dX11_reads_16 (by decide) (fun c9 => ?_) (fun c9 => ?_)
    · replace h := h.1 c9
      refine jx_iconst (v := 0) dX11_reads_23 (by decide) ?_
      refine jx_istore_n (lv1 := [(2, .int 0), (0, .ref a0), (1, .int x1)]) dX11_reads_24 rfl (by decide) rfl ?_
      exact jx_lv [1, 2, 0] rfl h
    replace h := h.2 c9
    refine jx_ldcw jwC_X11_320 dX11_reads_19 ?_
    exact jx_iret dX11_reads_22 rfl rfl (jle rfl) (jle rfl) ⟨_, rfl, h⟩
  replace h := h.1 c4
  refine jx_ldc jwC_X11_87 dX11_reads_7 ?_
  exact jx_iret dX11_reads_9 rfl rfl (jle rfl) (jle rfl) ⟨_, rfl, h⟩
set_option maxRecDepth 100000 in
set_option maxHeartbeats 4000000 in
theorem T_X11_reads_25 {E : jEnv} {d : Nat} {Q : Int32 → jM → Prop} {a0 : Nat} {x1 : Int32} {x2 : Int32} {S : jM} (h : jk S a0 = 11 ∧ ∃ b11, jr S a0 5 = some b11 ∧ (jk S b11 = 12 ∧ vp_in x1 (jl S b11) ∧ (((ji S b11 (Int32.toNatClampNeg x1)) ≤ x2 → Q (-1000000005) S) ∧ (¬ (ji S b11 (Int32.toNatClampNeg x1)) ≤ x2 → ∃ b15, jr S a0 6 = some b15 ∧ (jk S b15 = 12 ∧ vp_in ((24 * x1) + x2) (jl S b15) ∧ (((ji S b15 (Int32.toNatClampNeg ((24 * x1) + x2))) = (-1000000005) → L_X11_reads_25 E d Q a0 x1 (x2 + 1) S) ∧ (¬ (ji S b15 (Int32.toNatClampNeg ((24 * x1) + x2))) = (-1000000005) → ∃ b19, jr S a0 0 = some b19 ∧ (jk S b19 = 12 ∧ vp_in 0 (jl S b19) ∧ (((ji S b19 (Int32.toNatClampNeg 0)) ≤ x2 → Q x2 S) ∧ (¬ (ji S b19 (Int32.toNatClampNeg 0)) ≤ x2 → jFi E mX11_of (d + 1) 0 0 [.ref a0, .int x2, .int 5] S (fun r24 S23 => ((ji S b15 (Int32.toNatClampNeg ((24 * x1) + x2))) = r24 → L_X11_reads_25 E d Q a0 x1 (x2 + 1) S23) ∧ (¬ (ji S b15 (Int32.toNatClampNeg ((24 * x1) + x2))) = r24 → Q x2 S23)))))))))))) : L_X11_reads_25 E d Q a0 x1 x2 S := by
  show jX E mX11_reads (jRm (d + 2) 0 0) (jZm E (fun r S' => ∃ v : Int32, r = some (.int v) ∧ Q v S') 0 0) 25 [(0, .ref a0), (1, .int x1), (2, .int x2)] [] S 0 0
  refine jx_iload_n 2 dX11_reads_25 rfl rfl ?_
  refine jx_aload_n 0 dX11_reads_26 rfl rfl ?_
  obtain ⟨hk10, h⟩ := h
  obtain ⟨b11, hb11, h⟩ := h
  refine jx_getr jc_11 (j := 5) (by decide) rfl jwF_X11_22 dX11_reads_27 hk10 hb11 ?_
  refine jx_iload_n 1 dX11_reads_30 rfl rfl ?_
  obtain ⟨hk12, h⟩ := h
  obtain ⟨hi13, h⟩ := h
  refine jx_iald dX11_reads_31 hk12 hi13 ?_
  refine jx_icmp_ge (tgt := 81) dX11_reads_32 (by decide) (fun c14 => ?_) (fun c14 => ?_)
  · replace h := h.1 c14
    refine jx_ldc jwC_X11_70 dX11_reads_81 ?_
    exact jx_iret dX11_reads_83 rfl rfl (jle rfl) (jle rfl) ⟨_, rfl, h⟩
  replace h := h.2 c14
  refine jx_aload_n 0 dX11_reads_35 rfl rfl ?_
  obtain ⟨b15, hb15, h⟩ := h
  refine jx_getr jc_11 (j := 6) (by decide) rfl jwF_X11_25 dX11_reads_36 hk10 hb15 ?_
  refine jx_bipush (v := 24) dX11_reads_39 (by decide) ?_
  refine jx_iload_n 1 dX11_reads_41 rfl rfl ?_
  refine jx_imul dX11_reads_42 ?_
  refine jx_iload_n 2 dX11_reads_43 rfl rfl ?_
  refine jx_iadd dX11_reads_44 ?_
  obtain ⟨hk16, h⟩ := h
  obtain ⟨hi17, h⟩ := h
  refine jx_iald dX11_reads_45 hk16 hi17 ?_
  refine jx_istore_n (lv1 := [(3, .int (ji S b15 (Int32.toNatClampNeg ((24 * x1) + x2)))), (0, .ref a0), (1, .int x1), (2, .int x2)]) dX11_reads_46 rfl (by decide) rfl ?_
  refine jx_iload_n 0 dX11_reads_47 rfl rfl ?_
  refine jx_ldc jwC_X11_70 dX11_reads_48 ?_
  refine jx_icmp_eq (tgt := 75) dX11_reads_50 (by decide) (fun c18 => ?_) (fun c18 => ?_)
  · replace h := h.1 c18
    refine jx_iinc 3 (v := (x2 + 1)) (lv1 := [(2, .int (x2 + 1)), (3, .int (ji S b15 (Int32.toNatClampNeg ((24 * x1) + x2)))), (0, .ref a0), (1, .int x1)]) dX11_reads_75 rfl rfl (by decide) rfl ?_
    refine jx_goto (tgt := 25) dX11_reads_78 (by decide) ?_
    exact jx_lv [2, 3, 0] rfl h
  replace h := h.2 c18
  refine jx_iload_n 3 dX11_reads_53 rfl rfl ?_
  refine jx_aload_n 1 dX11_reads_54 rfl rfl ?_
  obtain ⟨b19, hb19, h⟩ := h
  refine jx_getr jc_11 (j := 0) (by decide) rfl jwF_X11_7 dX11_reads_55 hk10 hb19 ?_
  refine jx_iconst (v := 0) dX11_reads_58 (by decide) ?_
  obtain ⟨hk20, h⟩ := h
  obtain ⟨hi21, h⟩ := h
  refine jx_iald dX11_reads_59 hk20 hi21 ?_
  refine jx_icmp_ge (tgt := 73) dX11_reads_60 (by decide) (fun c22 => ?_) (fun c22 => ?_)
  · replace h := h.1 c22
    refine jx_iload_n 3 dX11_reads_73 rfl rfl ?_
    exact jx_iret dX11_reads_74 rfl rfl (jle rfl) (jle rfl) ⟨_, rfl, h⟩
  replace h := h.2 c22
  refine jx_iload_n 0 dX11_reads_63 rfl rfl ?_
  refine jx_aload_n 1 dX11_reads_64 rfl rfl ?_
  refine jx_iload_n 3 dX11_reads_65 rfl rfl ?_
  refine jx_iconst (v := 5) dX11_reads_66 (by decide) ?_
  refine jx_callVi (M' := mX11_of) (As := [.int x2, .int 5]) jo_X11_of jc_11 rfl jwM_X11_97 jwN_X11_of jwX_X11_of dX11_reads_67 (jRok_m _ _ _) rfl (jle rfl) ⟨jle rfl, jle rfl⟩ hk10 h (fun r24 S23 h => ?_)
  refine jx_icmp_eq (tgt := 75) dX11_reads_70 (by decide) (fun c25 => ?_) (fun c25 => ?_)
  · replace h := h.1 c25
    refine jx_iinc 3 (v := (x2 + 1)) (lv1 := [(2, .int (x2 + 1)), (3, .int (ji S b15 (Int32.toNatClampNeg ((24 * x1) + x2)))), (0, .ref a0), (1, .int x1)]) dX11_reads_75 rfl rfl (by decide) rfl ?_
    refine jx_goto (tgt := 25) dX11_reads_78 (by decide) ?_
    exact jx_lv [2, 3, 0] rfl h
  replace h := h.2 c25
  refine jx_iload_n 3 dX11_reads_73 rfl rfl ?_
  exact jx_iret dX11_reads_74 rfl rfl (jle rfl) (jle rfl) ⟨_, rfl, h⟩
/-- X11_cut at its loop's head 41 -/
abbrev L_X11_cut_41 (E : jEnv) (d : Nat) (Q : Int32 → jM → Prop) (a0 : Nat) (x1 : Int32) (x2 : Int32) (x3 : Int32) (x4 : Int32) (x5 : Int32) (S : jM) : Prop := jX E mX11_cut (jRm (d + 2) 0 0) (jZm E (fun r S' => ∃ v : Int32, r = some (.int v) ∧ Q v S') 0 0) 41 [(0, .ref a0), (1, .int x1), (2, .int x2), (3, .int x3), (4, .int x4), (5, .int x5)] [] S 0 0
/-- X11_cut at its loop's head 58 -/
abbrev L_X11_cut_58 (E : jEnv) (d : Nat) (Q : Int32 → jM → Prop) (a0 : Nat) (x1 : Int32) (x2 : Int32) (x3 : Int32) (x4 : Int32) (x5 : Int32) (x6 : Int32) (x7 : Int32) (S : jM) : Prop := jX E mX11_cut (jRm (d + 2) 0 0) (jZm E (fun r S' => ∃ v : Int32, r = some (.int v) ∧ Q v S') 0 0) 58 [(0, .ref a0), (1, .int x1), (2, .int x2), (3, .int x3), (4, .int x4), (5, .int x5), (6, .int x6), (7, .int x7)] [] S 0 0
set_option maxRecDepth 100000 in
set_option maxHeartbeats 4000000 in
theorem T_X11_cut {E : jEnv} {d : Nat} {Q : Int32 → jM → Prop} {a0 : Nat} {x1 : Int32} {x2 : Int32} {S : jM} (h : ((jissheet x1) = 0 → Q (-1000000001) S) ∧ (¬ (jissheet x1) = 0 → ((jisin (Int32.toInt64 x2) 0 1) = 0 → Q (-1000000001) S) ∧ (¬ (jisin (Int32.toInt64 x2) 0 1) = 0 → jk S a0 = 11 ∧ ∃ b10, jr S a0 4 = some b10 ∧ (jk S b10 = 12 ∧ vp_in x1 (jl S b10) ∧ ((0 ≤ (ji S b10 (Int32.toNatClampNeg x1)) → L_X11_cut_41 E d Q a0 x1 x2 (-1) 0 0 S) ∧ (¬ 0 ≤ (ji S b10 (Int32.toNatClampNeg x1)) → Q (-1000000011) S)))))) : jFi E mX11_cut (d + 2) 0 0 [.ref a0, .int x1, .int x2] S Q := by
  refine jF_of (by decide) (jle rfl) ?_
  refine jx_lv (lv1 := [(0, .ref a0), (1, .int x1), (2, .int x2)]) [0, 1, 2] rfl ?_
  refine jx_iload_n 1 dX11_cut_0 rfl rfl ?_
  refine jx_callSi (M' := mX11_isSheet) (As := [.int x1]) jo_X11_isSheet jwM_X11_314 jwS_X11_isSheet dX11_cut_1 (jRok_m _ _ _) rfl (jle rfl) ⟨jle rfl, jle rfl⟩ (c_X11_isSheet (Q := fun v S' => v = (jissheet x1) ∧ S = S') ⟨rfl, rfl⟩) (fun r1 S2 hq3 => ?_)
  obtain ⟨rfl, rfl⟩ := hq3
  refine jx_if_eq (tgt := 17) dX11_cut_4 (by decide) (fun c4 => ?_) (fun c4 => ?_)
  · replace h := h.1 c4
    refine jx_ldc jwC_X11_87 dX11_cut_17 ?_
    exact jx_iret dX11_cut_19 rfl rfl (jle rfl) (jle rfl) ⟨_, rfl, h⟩
  replace h := h.2 c4
  refine jx_iload_n 2 dX11_cut_7 rfl rfl ?_
  refine jx_i2l dX11_cut_8 ?_
  refine jx_lconst (v := 0) dX11_cut_9 (by decide) ?_
  refine jx_lconst (v := 1) dX11_cut_10 (by decide) ?_
  refine jx_callSi (M' := mX11_isIn) (As := [.long (Int32.toInt64 x2), .long 0, .long 1]) jo_X11_isIn jwM_X11_71 jwS_X11_isIn dX11_cut_11 (jRok_m _ _ _) rfl (jle rfl) ⟨jle rfl, jle rfl⟩ (c_X11_isIn (Q := fun v S' => v = (jisin (Int32.toInt64 x2) 0 1) ∧ S = S') ⟨rfl, rfl⟩) (fun r5 S6 hq7 => ?_)
  obtain ⟨rfl, rfl⟩ := hq7
  refine jx_if_ne (tgt := 20) dX11_cut_14 (by decide) (fun c8 => ?_) (fun c8 => ?_)
  · replace h := h.2 c8
    refine jx_aload_n 0 dX11_cut_20 rfl rfl ?_
    obtain ⟨hk9, h⟩ := h
    obtain ⟨b10, hb10, h⟩ := h
    refine jx_getr jc_11 (j := 4) (by decide) rfl jwF_X11_19 dX11_cut_21 hk9 hb10 ?_
    refine jx_iload_n 1 dX11_cut_24 rfl rfl ?_
    obtain ⟨hk11, h⟩ := h
    obtain ⟨hi12, h⟩ := h
    refine jx_iald dX11_cut_25 hk11 hi12 ?_
    refine jx_if_ge (tgt := 33) dX11_cut_26 (by decide) (fun c13 => ?_) (fun c13 => ?_)
    · replace h := h.1 c13
      refine jx_iconst (v := (-1)) dX11_cut_33 (by decide) ?_
      refine jx_istore_n (lv1 := [(3, .int (-1)), (0, .ref a0), (1, .int x1), (2, .int x2)]) dX11_cut_34 rfl (by decide) rfl ?_
      refine jx_iconst (v := 0) dX11_cut_35 (by decide) ?_
      refine jx_istore (lv1 := [(4, .int 0), (3, .int (-1)), (0, .ref a0), (1, .int x1), (2, .int x2)]) dX11_cut_36 (by decide) rfl ?_
      refine jx_iconst (v := 0) dX11_cut_38 (by decide) ?_
      refine jx_istore (lv1 := [(5, .int 0), (4, .int 0), (3, .int (-1)), (0, .ref a0), (1, .int x1), (2, .int x2)]) dX11_cut_39 (by decide) rfl ?_
      exact jx_lv [3, 4, 5, 2, 1, 0] rfl h
    replace h := h.2 c13
    refine jx_ldcw jwC_X11_320 dX11_cut_29 ?_
    exact jx_iret dX11_cut_32 rfl rfl (jle rfl) (jle rfl) ⟨_, rfl, h⟩
  replace h := h.1 c8
  refine jx_ldc jwC_X11_87 dX11_cut_17 ?_
  exact jx_iret dX11_cut_19 rfl rfl (jle rfl) (jle rfl) ⟨_, rfl, h⟩
set_option maxRecDepth 100000 in
set_option maxHeartbeats 4000000 in
theorem T_X11_cut_41 {E : jEnv} {d : Nat} {Q : Int32 → jM → Prop} {a0 : Nat} {x1 : Int32} {x2 : Int32} {x3 : Int32} {x4 : Int32} {x5 : Int32} {S : jM} (h : jk S a0 = 11 ∧ ∃ b15, jr S a0 0 = some b15 ∧ (jk S b15 = 12 ∧ vp_in 0 (jl S b15) ∧ (((ji S b15 (Int32.toNatClampNeg 0)) ≤ x5 → (0 ≤ x3 → (x2 = 0 → Q x3 S) ∧ (¬ x2 = 0 → Q x4 S)) ∧ (¬ 0 ≤ x3 → Q (-1000000005) S)) ∧ (¬ (ji S b15 (Int32.toNatClampNeg 0)) ≤ x5 → L_X11_cut_58 E d Q a0 x1 x2 x3 x4 x5 0 0 S)))) : L_X11_cut_41 E d Q a0 x1 x2 x3 x4 x5 S := by
  show jX E mX11_cut (jRm (d + 2) 0 0) (jZm E (fun r S' => ∃ v : Int32, r = some (.int v) ∧ Q v S') 0 0) 41 [(0, .ref a0), (1, .int x1), (2, .int x2), (3, .int x3), (4, .int x4), (5, .int x5)] [] S 0 0
  refine jx_iload 5 dX11_cut_41 rfl ?_
  refine jx_aload_n 0 dX11_cut_43 rfl rfl ?_
  obtain ⟨hk14, h⟩ := h
  obtain ⟨b15, hb15, h⟩ := h
  refine jx_getr jc_11 (j := 0) (by decide) rfl jwF_X11_7 dX11_cut_44 hk14 hb15 ?_
  refine jx_iconst (v := 0) dX11_cut_47 (by decide) ?_
  obtain ⟨hk16, h⟩ := h
  obtain ⟨hi17, h⟩ := h
  refine jx_iald dX11_cut_48 hk16 hi17 ?_
  refine jx_icmp_ge (tgt := 142) dX11_cut_49 (by decide) (fun c18 => ?_) (fun c18 => ?_)
  · replace h := h.1 c18
    refine jx_iload_n 3 dX11_cut_142 rfl rfl ?_
    refine jx_if_ge (tgt := 151) dX11_cut_143 (by decide) (fun c19 => ?_) (fun c19 => ?_)
    · replace h := h.1 c19
      refine jx_iload_n 2 dX11_cut_151 rfl rfl ?_
      refine jx_if_ne (tgt := 159) dX11_cut_152 (by decide) (fun c20 => ?_) (fun c20 => ?_)
      · replace h := h.2 c20
        refine jx_iload 4 dX11_cut_159 rfl ?_
        exact jx_iret dX11_cut_161 rfl rfl (jle rfl) (jle rfl) ⟨_, rfl, h⟩
      replace h := h.1 c20
      refine jx_iload_n 3 dX11_cut_155 rfl rfl ?_
      refine jx_goto (tgt := 161) dX11_cut_156 (by decide) ?_
      exact jx_iret dX11_cut_161 rfl rfl (jle rfl) (jle rfl) ⟨_, rfl, h⟩
    replace h := h.2 c19
    refine jx_ldc jwC_X11_70 dX11_cut_146 ?_
    refine jx_goto (tgt := 161) dX11_cut_148 (by decide) ?_
    exact jx_iret dX11_cut_161 rfl rfl (jle rfl) (jle rfl) ⟨_, rfl, h⟩
  replace h := h.2 c18
  refine jx_iconst (v := 0) dX11_cut_52 (by decide) ?_
  refine jx_istore (lv1 := [(6, .int 0), (0, .ref a0), (1, .int x1), (2, .int x2), (3, .int x3), (4, .int x4), (5, .int x5)]) dX11_cut_53 (by decide) rfl ?_
  refine jx_iconst (v := 0) dX11_cut_55 (by decide) ?_
  refine jx_istore (lv1 := [(7, .int 0), (6, .int 0), (0, .ref a0), (1, .int x1), (2, .int x2), (3, .int x3), (4, .int x4), (5, .int x5)]) dX11_cut_56 (by decide) rfl ?_
  exact jx_lv [2, 3, 4, 5, 6, 7, 1, 0] rfl h
set_option maxRecDepth 100000 in
set_option maxHeartbeats 4000000 in
theorem T_X11_cut_58 {E : jEnv} {d : Nat} {Q : Int32 → jM → Prop} {a0 : Nat} {x1 : Int32} {x2 : Int32} {x3 : Int32} {x4 : Int32} {x5 : Int32} {x6 : Int32} {x7 : Int32} {S : jM} (h : jk S a0 = 11 ∧ ∃ b22, jr S a0 5 = some b22 ∧ (jk S b22 = 12 ∧ vp_in x1 (jl S b22) ∧ (((ji S b22 (Int32.toNatClampNeg x1)) ≤ x7 → (x3 < 0 → L_X11_cut_41 E d Q a0 x1 x2 x5 x6 (x5 + 1) S) ∧ (¬ x3 < 0 → (x4 ≤ x6 → L_X11_cut_41 E d Q a0 x1 x2 x3 x4 (x5 + 1) S) ∧ (¬ x4 ≤ x6 → L_X11_cut_41 E d Q a0 x1 x2 x5 x6 (x5 + 1) S))) ∧ (¬ (ji S b22 (Int32.toNatClampNeg x1)) ≤ x7 → ∃ b28, jr S a0 6 = some b28 ∧ (jk S b28 = 12 ∧ vp_in ((24 * x1) + x7) (jl S b28) ∧ (((ji S b28 (Int32.toNatClampNeg ((24 * x1) + x7))) = (-1000000005) → L_X11_cut_58 E d Q a0 x1 x2 x3 x4 x5 (x6 + 0) (x7 + 1) S) ∧ (¬ (ji S b28 (Int32.toNatClampNeg ((24 * x1) + x7))) = (-1000000005) → jFi E mX11_takes (d + 1) 0 0 [.ref a0, .int x5, .int x7] S (fun r33 S32 => L_X11_cut_58 E d Q a0 x1 x2 x3 x4 x5 (x6 + (joff (ji S b28 (Int32.toNatClampNeg ((24 * x1) + x7))) r33)) (x7 + 1) S32)))))))) : L_X11_cut_58 E d Q a0 x1 x2 x3 x4 x5 x6 x7 S := by
  show jX E mX11_cut (jRm (d + 2) 0 0) (jZm E (fun r S' => ∃ v : Int32, r = some (.int v) ∧ Q v S') 0 0) 58 [(0, .ref a0), (1, .int x1), (2, .int x2), (3, .int x3), (4, .int x4), (5, .int x5), (6, .int x6), (7, .int x7)] [] S 0 0
  refine jx_iload 7 dX11_cut_58 rfl ?_
  refine jx_aload_n 0 dX11_cut_60 rfl rfl ?_
  obtain ⟨hk21, h⟩ := h
  obtain ⟨b22, hb22, h⟩ := h
  refine jx_getr jc_11 (j := 5) (by decide) rfl jwF_X11_22 dX11_cut_61 hk21 hb22 ?_
  refine jx_iload_n 1 dX11_cut_64 rfl rfl ?_
  obtain ⟨hk23, h⟩ := h
  obtain ⟨hi24, h⟩ := h
  refine jx_iald dX11_cut_65 hk23 hi24 ?_
  refine jx_icmp_ge (tgt := 118) dX11_cut_66 (by decide) (fun c25 => ?_) (fun c25 => ?_)
  · replace h := h.1 c25
    refine jx_iload_n 3 dX11_cut_118 rfl rfl ?_
    refine jx_if_lt (tgt := 129) dX11_cut_119 (by decide) (fun c26 => ?_) (fun c26 => ?_)
    · replace h := h.1 c26
      refine jx_iload 5 dX11_cut_129 rfl ?_
      refine jx_istore_n (lv1 := [(3, .int x5), (0, .ref a0), (1, .int x1), (2, .int x2), (4, .int x4), (5, .int x5), (6, .int x6), (7, .int x7)]) dX11_cut_131 rfl (by decide) rfl ?_
      refine jx_iload 6 dX11_cut_132 rfl ?_
      refine jx_istore (lv1 := [(4, .int x6), (3, .int x5), (0, .ref a0), (1, .int x1), (2, .int x2), (5, .int x5), (6, .int x6), (7, .int x7)]) dX11_cut_134 (by decide) rfl ?_
      refine jx_iinc 5 (v := (x5 + 1)) (lv1 := [(5, .int (x5 + 1)), (4, .int x6), (3, .int x5), (0, .ref a0), (1, .int x1), (2, .int x2), (6, .int x6), (7, .int x7)]) dX11_cut_136 rfl rfl (by decide) rfl ?_
      refine jx_goto (tgt := 41) dX11_cut_139 (by decide) ?_
      exact jx_lv [3, 4, 5, 2, 1, 0] rfl h
    replace h := h.2 c26
    refine jx_iload 6 dX11_cut_122 rfl ?_
    refine jx_iload 4 dX11_cut_124 rfl ?_
    refine jx_icmp_ge (tgt := 136) dX11_cut_126 (by decide) (fun c27 => ?_) (fun c27 => ?_)
    · replace h := h.1 c27
      refine jx_iinc 5 (v := (x5 + 1)) (lv1 := [(5, .int (x5 + 1)), (0, .ref a0), (1, .int x1), (2, .int x2), (3, .int x3), (4, .int x4), (6, .int x6), (7, .int x7)]) dX11_cut_136 rfl rfl (by decide) rfl ?_
      refine jx_goto (tgt := 41) dX11_cut_139 (by decide) ?_
      exact jx_lv [1, 2, 3, 4, 5, 0] rfl h
    replace h := h.2 c27
    refine jx_iload 5 dX11_cut_129 rfl ?_
    refine jx_istore_n (lv1 := [(3, .int x5), (0, .ref a0), (1, .int x1), (2, .int x2), (4, .int x4), (5, .int x5), (6, .int x6), (7, .int x7)]) dX11_cut_131 rfl (by decide) rfl ?_
    refine jx_iload 6 dX11_cut_132 rfl ?_
    refine jx_istore (lv1 := [(4, .int x6), (3, .int x5), (0, .ref a0), (1, .int x1), (2, .int x2), (5, .int x5), (6, .int x6), (7, .int x7)]) dX11_cut_134 (by decide) rfl ?_
    refine jx_iinc 5 (v := (x5 + 1)) (lv1 := [(5, .int (x5 + 1)), (4, .int x6), (3, .int x5), (0, .ref a0), (1, .int x1), (2, .int x2), (6, .int x6), (7, .int x7)]) dX11_cut_136 rfl rfl (by decide) rfl ?_
    refine jx_goto (tgt := 41) dX11_cut_139 (by decide) ?_
    exact jx_lv [3, 4, 5, 2, 1, 0] rfl h
  replace h := h.2 c25
  refine jx_aload_n 0 dX11_cut_69 rfl rfl ?_
  obtain ⟨b28, hb28, h⟩ := h
  refine jx_getr jc_11 (j := 6) (by decide) rfl jwF_X11_25 dX11_cut_70 hk21 hb28 ?_
  refine jx_bipush (v := 24) dX11_cut_73 (by decide) ?_
  refine jx_iload_n 1 dX11_cut_75 rfl rfl ?_
  refine jx_imul dX11_cut_76 ?_
  refine jx_iload 7 dX11_cut_77 rfl ?_
  refine jx_iadd dX11_cut_79 ?_
  obtain ⟨hk29, h⟩ := h
  obtain ⟨hi30, h⟩ := h
  refine jx_iald dX11_cut_80 hk29 hi30 ?_
  refine jx_istore (lv1 := [(8, .int (ji S b28 (Int32.toNatClampNeg ((24 * x1) + x7)))), (0, .ref a0), (1, .int x1), (2, .int x2), (3, .int x3), (4, .int x4), (5, .int x5), (6, .int x6), (7, .int x7)]) dX11_cut_81 (by decide) rfl ?_
  refine jx_iload 7 dX11_cut_83 rfl ?_
  refine jx_iload 0 dX11_cut_85 rfl ?_
  refine jx_ldc jwC_X11_70 dX11_cut_87 ?_
  refine jx_icmp_ne (tgt := 96) dX11_cut_89 (by decide) (fun c31 => ?_) (fun c31 => ?_)
  · replace h := h.2 c31
    refine jx_iload 0 dX11_cut_96 rfl ?_
    refine jx_aload_n 1 dX11_cut_98 rfl rfl ?_
    refine jx_iload 6 dX11_cut_99 rfl ?_
    refine jx_iload 8 dX11_cut_101 rfl ?_
    refine jx_callVi (M' := mX11_takes) (As := [.int x5, .int x7]) jo_X11_takes jc_11 rfl jwM_X11_116 jwN_X11_takes jwX_X11_takes dX11_cut_103 (jRok_m _ _ _) rfl (jle rfl) ⟨jle rfl, jle rfl⟩ hk21 h (fun r33 S32 h => ?_)
    refine jx_callSi (M' := mX11_off) (As := [.int (ji S b28 (Int32.toNatClampNeg ((24 * x1) + x7))), .int r33]) jo_X11_off jwM_X11_326 jwS_X11_off dX11_cut_106 (jRok_m _ _ _) rfl (jle rfl) ⟨jle rfl, jle rfl⟩ (c_X11_off (Q := fun v S' => v = (joff (ji S b28 (Int32.toNatClampNeg ((24 * x1) + x7))) r33) ∧ S32 = S') ⟨rfl, rfl⟩) (fun r34 S35 hq36 => ?_)
    obtain ⟨rfl, rfl⟩ := hq36
    refine jx_iadd dX11_cut_109 ?_
    refine jx_istore (lv1 := [(6, .int (x6 + (joff (ji S b28 (Int32.toNatClampNeg ((24 * x1) + x7))) r33))), (8, .int (ji S b28 (Int32.toNatClampNeg ((24 * x1) + x7)))), (0, .ref a0), (1, .int x1), (2, .int x2), (3, .int x3), (4, .int x4), (5, .int x5), (7, .int x7)]) dX11_cut_110 (by decide) rfl ?_
    refine jx_iinc 8 (v := (x7 + 1)) (lv1 := [(7, .int (x7 + 1)), (6, .int (x6 + (joff (ji S b28 (Int32.toNatClampNeg ((24 * x1) + x7))) r33))), (8, .int (ji S b28 (Int32.toNatClampNeg ((24 * x1) + x7)))), (0, .ref a0), (1, .int x1), (2, .int x2), (3, .int x3), (4, .int x4), (5, .int x5)]) dX11_cut_112 rfl rfl (by decide) rfl ?_
    refine jx_goto (tgt := 58) dX11_cut_115 (by decide) ?_
    exact jx_lv [3, 4, 5, 6, 7, 8, 1, 0] rfl h
  replace h := h.1 c31
  refine jx_iconst (v := 0) dX11_cut_92 (by decide) ?_
  refine jx_goto (tgt := 109) dX11_cut_93 (by decide) ?_
  refine jx_iadd dX11_cut_109 ?_
  refine jx_istore (lv1 := [(6, .int (x6 + 0)), (8, .int (ji S b28 (Int32.toNatClampNeg ((24 * x1) + x7)))), (0, .ref a0), (1, .int x1), (2, .int x2), (3, .int x3), (4, .int x4), (5, .int x5), (7, .int x7)]) dX11_cut_110 (by decide) rfl ?_
  refine jx_iinc 8 (v := (x7 + 1)) (lv1 := [(7, .int (x7 + 1)), (6, .int (x6 + 0)), (8, .int (ji S b28 (Int32.toNatClampNeg ((24 * x1) + x7)))), (0, .ref a0), (1, .int x1), (2, .int x2), (3, .int x3), (4, .int x4), (5, .int x5)]) dX11_cut_112 rfl rfl (by decide) rfl ?_
  refine jx_goto (tgt := 58) dX11_cut_115 (by decide) ?_
  exact jx_lv [3, 4, 5, 6, 7, 8, 1, 0] rfl h
/-- X11_copy at its loop's head 113 -/
abbrev L_X11_copy_113 (E : jEnv) (d : Nat) (Q : Int32 → jM → Prop) (a0 : Nat) (x1 : Int32) (x2 : Int32) (x3 : Int32) (x4 : Int32) (x5 : Int32) (x6 : Int32) (S : jM) : Prop := jX E mX11_copy (jRm (d + 2) 0 0) (jZm E (fun r S' => ∃ v : Int32, r = some (.int v) ∧ Q v S') 0 0) 113 [(0, .ref a0), (1, .int x1), (2, .int x2), (3, .int x3), (4, .int x4), (5, .int x5), (6, .int x6)] [] S 0 0
/-- X11_copy at its loop's head 150 -/
abbrev L_X11_copy_150 (E : jEnv) (d : Nat) (Q : Int32 → jM → Prop) (a0 : Nat) (x3 : Int32) (x4 : Int32) (x5 : Int32) (x6 : Int32) (S : jM) : Prop := jX E mX11_copy (jRm (d + 2) 0 0) (jZm E (fun r S' => ∃ v : Int32, r = some (.int v) ∧ Q v S') 0 0) 150 [(0, .ref a0), (3, .int x3), (4, .int x4), (5, .int x5), (6, .int x6)] [] S 0 0
set_option maxRecDepth 100000 in
set_option maxHeartbeats 4000000 in
theorem T_X11_copy {E : jEnv} {d : Nat} {Q : Int32 → jM → Prop} {a0 : Nat} {x1 : Int32} {x2 : Int32} {x3 : Int32} {x4 : Int32} {x5 : Int32} {S : jM} (h : ((jissheet x1) = 0 → Q (-1000000001) S) ∧ (¬ (jissheet x1) = 0 → ((jissheet x3) = 0 → Q (-1000000001) S) ∧ (¬ (jissheet x3) = 0 → jk S a0 = 11 ∧ ∃ b10, jr S a0 4 = some b10 ∧ (jk S b10 = 12 ∧ vp_in x1 (jl S b10) ∧ (((ji S b10 (Int32.toNatClampNeg x1)) < 0 → Q (-1000000011) S) ∧ (¬ (ji S b10 (Int32.toNatClampNeg x1)) < 0 → vp_in x3 (jl S b10) ∧ ((0 ≤ (ji S b10 (Int32.toNatClampNeg x3)) → ((((ji S b10 (Int32.toNatClampNeg x1)) = (ji S b10 (Int32.toNatClampNeg x3)) → (x2 < 0 → Q (-1000000013) S) ∧ (¬ x2 < 0 → (x4 < 0 → Q (-1000000013) S) ∧ (¬ x4 < 0 → (x5 < 0 → Q (-1000000013) S) ∧ (¬ x5 < 0 → ∃ b20, jr S a0 5 = some b20 ∧ (jk S b20 = 12 ∧ vp_in x1 (jl S b20) ∧ ((0 < (lg_cmp ((Int32.toInt64 x2) + (Int32.toInt64 x5)) (Int32.toInt64 (ji S b20 (Int32.toNatClampNeg x1)))) → Q (-1000000013) S) ∧ (¬ 0 < (lg_cmp ((Int32.toInt64 x2) + (Int32.toInt64 x5)) (Int32.toInt64 (ji S b20 (Int32.toNatClampNeg x1)))) → vp_in x3 (jl S b20) ∧ (((lg_cmp ((Int32.toInt64 x4) + (Int32.toInt64 x5)) (Int32.toInt64 (ji S b20 (Int32.toNatClampNeg x3)))) ≤ 0 → L_X11_copy_113 E d Q a0 x1 x2 x3 x4 x5 0 S) ∧ (¬ (lg_cmp ((Int32.toInt64 x4) + (Int32.toInt64 x5)) (Int32.toInt64 (ji S b20 (Int32.toNatClampNeg x3)))) ≤ 0 → Q (-1000000013) S))))))))) ∧ (¬ (ji S b10 (Int32.toNatClampNeg x1)) = (ji S b10 (Int32.toNatClampNeg x3)) → Q (-1000000012) S)))) ∧ (¬ 0 ≤ (ji S b10 (Int32.toNatClampNeg x3)) → Q (-1000000011) S)))))))) : jFi E mX11_copy (d + 2) 0 0 [.ref a0, .int x1, .int x2, .int x3, .int x4, .int x5] S Q := by
  refine jF_of (by decide) (jle rfl) ?_
  refine jx_lv (lv1 := [(0, .ref a0), (1, .int x1), (2, .int x2), (3, .int x3), (4, .int x4), (5, .int x5)]) [0, 1, 2, 3, 4, 5] rfl ?_
  refine jx_iload_n 1 dX11_copy_0 rfl rfl ?_
  refine jx_callSi (M' := mX11_isSheet) (As := [.int x1]) jo_X11_isSheet jwM_X11_314 jwS_X11_isSheet dX11_copy_1 (jRok_m _ _ _) rfl (jle rfl) ⟨jle rfl, jle rfl⟩ (c_X11_isSheet (Q := fun v S' => v = (jissheet x1) ∧ S = S') ⟨rfl, rfl⟩) (fun r1 S2 hq3 => ?_)
  obtain ⟨rfl, rfl⟩ := hq3
  refine jx_if_eq (tgt := 14) dX11_copy_4 (by decide) (fun c4 => ?_) (fun c4 => ?_)
  · replace h := h.1 c4
    refine jx_ldc jwC_X11_87 dX11_copy_14 ?_
    exact jx_iret dX11_copy_16 rfl rfl (jle rfl) (jle rfl) ⟨_, rfl, h⟩
  replace h := h.2 c4
  refine jx_iload_n 3 dX11_copy_7 rfl rfl ?_
  refine jx_callSi (M' := mX11_isSheet) (As := [.int x3]) jo_X11_isSheet jwM_X11_314 jwS_X11_isSheet dX11_copy_8 (jRok_m _ _ _) rfl (jle rfl) ⟨jle rfl, jle rfl⟩ (c_X11_isSheet (Q := fun v S' => v = (jissheet x3) ∧ S = S') ⟨rfl, rfl⟩) (fun r5 S6 hq7 => ?_)
  obtain ⟨rfl, rfl⟩ := hq7
  refine jx_if_ne (tgt := 17) dX11_copy_11 (by decide) (fun c8 => ?_) (fun c8 => ?_)
  · replace h := h.2 c8
    refine jx_aload_n 0 dX11_copy_17 rfl rfl ?_
    obtain ⟨hk9, h⟩ := h
    obtain ⟨b10, hb10, h⟩ := h
    refine jx_getr jc_11 (j := 4) (by decide) rfl jwF_X11_19 dX11_copy_18 hk9 hb10 ?_
    refine jx_iload_n 1 dX11_copy_21 rfl rfl ?_
    obtain ⟨hk11, h⟩ := h
    obtain ⟨hi12, h⟩ := h
    refine jx_iald dX11_copy_22 hk11 hi12 ?_
    refine jx_if_lt (tgt := 35) dX11_copy_23 (by decide) (fun c13 => ?_) (fun c13 => ?_)
    · replace h := h.1 c13
      refine jx_ldcw jwC_X11_320 dX11_copy_35 ?_
      exact jx_iret dX11_copy_38 rfl rfl (jle rfl) (jle rfl) ⟨_, rfl, h⟩
    replace h := h.2 c13
    refine jx_aload_n 0 dX11_copy_26 rfl rfl ?_
    refine jx_getr jc_11 (j := 4) (by decide) rfl jwF_X11_19 dX11_copy_27 hk9 hb10 ?_
    refine jx_iload_n 3 dX11_copy_30 rfl rfl ?_
    obtain ⟨hi14, h⟩ := h
    refine jx_iald dX11_copy_31 hk11 hi14 ?_
    refine jx_if_ge (tgt := 39) dX11_copy_32 (by decide) (fun c15 => ?_) (fun c15 => ?_)
    · replace h := h.1 c15
      refine jx_aload_n 0 dX11_copy_39 rfl rfl ?_
      refine jx_getr jc_11 (j := 4) (by decide) rfl jwF_X11_19 dX11_copy_40 hk9 hb10 ?_
      refine jx_iload_n 1 dX11_copy_43 rfl rfl ?_
      refine jx_iald dX11_copy_44 hk11 hi12 ?_
      refine jx_aload_n 0 dX11_copy_45 rfl rfl ?_
      refine jx_getr jc_11 (j := 4) (by decide) rfl jwF_X11_19 dX11_copy_46 hk9 hb10 ?_
      refine jx_iload_n 3 dX11_copy_49 rfl rfl ?_
      refine jx_iald dX11_copy_50 hk11 hi14 ?_
      refine jx_icmp_eq (tgt := 57) dX11_copy_51 (by decide) (fun c16 => ?_) (fun c16 => ?_)
      · replace h := h.1 c16
        refine jx_iload_n 2 dX11_copy_57 rfl rfl ?_
        refine jx_if_lt (tgt := 106) dX11_copy_58 (by decide) (fun c17 => ?_) (fun c17 => ?_)
        · replace h := h.1 c17
          refine jx_ldcw jwC_X11_321 dX11_copy_106 ?_
          exact jx_iret dX11_copy_109 rfl rfl (jle rfl) (jle rfl) ⟨_, rfl, h⟩
        replace h := h.2 c17
        refine jx_iload 4 dX11_copy_61 rfl ?_
        refine jx_if_lt (tgt := 106) dX11_copy_63 (by decide) (fun c18 => ?_) (fun c18 => ?_)
        · replace h := h.1 c18
          refine jx_ldcw jwC_X11_321 dX11_copy_106 ?_
          exact jx_iret dX11_copy_109 rfl rfl (jle rfl) (jle rfl) ⟨_, rfl, h⟩
        replace h := h.2 c18
        refine jx_iload 5 dX11_copy_66 rfl ?_
        refine jx_if_lt (tgt := 106) dX11_copy_68 (by decide) (fun c19 => ?_) (fun c19 => ?_)
        · replace h := h.1 c19
          refine jx_ldcw jwC_X11_321 dX11_copy_106 ?_
          exact jx_iret dX11_copy_109 rfl rfl (jle rfl) (jle rfl) ⟨_, rfl, h⟩
        replace h := h.2 c19
        refine jx_iload_n 2 dX11_copy_71 rfl rfl ?_
        refine jx_i2l dX11_copy_72 ?_
        refine jx_iload 5 dX11_copy_73 rfl ?_
        refine jx_i2l dX11_copy_75 ?_
        refine jx_ladd dX11_copy_76 ?_
        refine jx_aload_n 0 dX11_copy_77 rfl rfl ?_
        obtain ⟨b20, hb20, h⟩ := h
        refine jx_getr jc_11 (j := 5) (by decide) rfl jwF_X11_22 dX11_copy_78 hk9 hb20 ?_
        refine jx_iload_n 1 dX11_copy_81 rfl rfl ?_
        obtain ⟨hk21, h⟩ := h
        obtain ⟨hi22, h⟩ := h
        refine jx_iald dX11_copy_82 hk21 hi22 ?_
        refine jx_i2l dX11_copy_83 ?_
        refine jx_lcmp dX11_copy_84 ?_
        refine jx_if_gt (tgt := 106) dX11_copy_85 (by decide) (fun c23 => ?_) (fun c23 => ?_)
        · replace h := h.1 c23
          refine jx_ldcw jwC_X11_321 dX11_copy_106 ?_
          exact jx_iret dX11_copy_109 rfl rfl (jle rfl) (jle rfl) ⟨_, rfl, h⟩
        replace h := h.2 c23
        refine jx_iload 4 dX11_copy_88 rfl ?_
        refine jx_i2l dX11_copy_90 ?_
        refine jx_iload 5 dX11_copy_91 rfl ?_
        refine jx_i2l dX11_copy_93 ?_
        refine jx_ladd dX11_copy_94 ?_
        refine jx_aload_n 0 dX11_copy_95 rfl rfl ?_
        refine jx_getr jc_11 (j := 5) (by decide) rfl jwF_X11_22 dX11_copy_96 hk9 hb20 ?_
        refine jx_iload_n 3 dX11_copy_99 rfl rfl ?_
        obtain ⟨hi24, h⟩ := h
        refine jx_iald dX11_copy_100 hk21 hi24 ?_
        refine jx_i2l dX11_copy_101 ?_
        refine jx_lcmp dX11_copy_102 ?_
        refine jx_if_le (tgt := 110) dX11_copy_103 (by decide) (fun c25 => ?_) (fun c25 => ?_)
        · replace h := h.1 c25
          refine jx_iconst (v := 0) dX11_copy_110 (by decide) ?_
          refine jx_istore (lv1 := [(6, .int 0), (0, .ref a0), (1, .int x1), (2, .int x2), (3, .int x3), (4, .int x4), (5, .int x5)]) dX11_copy_111 (by decide) rfl ?_
          exact jx_lv [1, 2, 3, 4, 5, 6, 0] rfl h
        replace h := h.2 c25
        refine jx_ldcw jwC_X11_321 dX11_copy_106 ?_
        exact jx_iret dX11_copy_109 rfl rfl (jle rfl) (jle rfl) ⟨_, rfl, h⟩
      replace h := h.2 c16
      refine jx_ldc jwC_X11_129 dX11_copy_54 ?_
      exact jx_iret dX11_copy_56 rfl rfl (jle rfl) (jle rfl) ⟨_, rfl, h⟩
    replace h := h.2 c15
    refine jx_ldcw jwC_X11_320 dX11_copy_35 ?_
    exact jx_iret dX11_copy_38 rfl rfl (jle rfl) (jle rfl) ⟨_, rfl, h⟩
  replace h := h.1 c8
  refine jx_ldc jwC_X11_87 dX11_copy_14 ?_
  exact jx_iret dX11_copy_16 rfl rfl (jle rfl) (jle rfl) ⟨_, rfl, h⟩
set_option maxRecDepth 100000 in
set_option maxHeartbeats 4000000 in
theorem T_X11_copy_113 {E : jEnv} {d : Nat} {Q : Int32 → jM → Prop} {a0 : Nat} {x1 : Int32} {x2 : Int32} {x3 : Int32} {x4 : Int32} {x5 : Int32} {x6 : Int32} {S : jM} (h : (x5 ≤ x6 → L_X11_copy_150 E d Q a0 x3 x4 x5 0 S) ∧ (¬ x5 ≤ x6 → jk S a0 = 11 ∧ ∃ b28, jr S a0 32 = some b28 ∧ (∃ b29, jr S a0 6 = some b29 ∧ (jk S b29 = 12 ∧ vp_in (((24 * x1) + x2) + x6) (jl S b29) ∧ (jk S b28 = 12 ∧ vp_in x6 (jl S b28) ∧ (L_X11_copy_113 E d Q a0 x1 x2 x3 x4 x5 (x6 + 1) (jput S b28 (Int32.toNatClampNeg x6) (ji S b29 (Int32.toNatClampNeg (((24 * x1) + x2) + x6)))))))))) : L_X11_copy_113 E d Q a0 x1 x2 x3 x4 x5 x6 S := by
  show jX E mX11_copy (jRm (d + 2) 0 0) (jZm E (fun r S' => ∃ v : Int32, r = some (.int v) ∧ Q v S') 0 0) 113 [(0, .ref a0), (1, .int x1), (2, .int x2), (3, .int x3), (4, .int x4), (5, .int x5), (6, .int x6)] [] S 0 0
  refine jx_iload 6 dX11_copy_113 rfl ?_
  refine jx_iload 5 dX11_copy_115 rfl ?_
  refine jx_icmp_ge (tgt := 147) dX11_copy_117 (by decide) (fun c26 => ?_) (fun c26 => ?_)
  · replace h := h.1 c26
    refine jx_iconst (v := 0) dX11_copy_147 (by decide) ?_
    refine jx_istore (lv1 := [(6, .int 0), (0, .ref a0), (1, .int x1), (2, .int x2), (3, .int x3), (4, .int x4), (5, .int x5)]) dX11_copy_148 (by decide) rfl ?_
    exact jx_lv [1, 4, 5, 6, 0] rfl h
  replace h := h.2 c26
  refine jx_aload_n 0 dX11_copy_120 rfl rfl ?_
  obtain ⟨hk27, h⟩ := h
  obtain ⟨b28, hb28, h⟩ := h
  refine jx_getr jc_11 (j := 32) (by decide) rfl jwF_X11_61 dX11_copy_121 hk27 hb28 ?_
  refine jx_iload 6 dX11_copy_124 rfl ?_
  refine jx_aload_n 0 dX11_copy_126 rfl rfl ?_
  obtain ⟨b29, hb29, h⟩ := h
  refine jx_getr jc_11 (j := 6) (by decide) rfl jwF_X11_25 dX11_copy_127 hk27 hb29 ?_
  refine jx_bipush (v := 24) dX11_copy_130 (by decide) ?_
  refine jx_iload_n 1 dX11_copy_132 rfl rfl ?_
  refine jx_imul dX11_copy_133 ?_
  refine jx_iload_n 2 dX11_copy_134 rfl rfl ?_
  refine jx_iadd dX11_copy_135 ?_
  refine jx_iload 6 dX11_copy_136 rfl ?_
  refine jx_iadd dX11_copy_138 ?_
  obtain ⟨hk30, h⟩ := h
  obtain ⟨hi31, h⟩ := h
  refine jx_iald dX11_copy_139 hk30 hi31 ?_
  obtain ⟨hk32, h⟩ := h
  obtain ⟨hi33, h⟩ := h
  refine jx_iast dX11_copy_140 hk32 hi33 ?_
  refine jx_iinc 6 (v := (x6 + 1)) (lv1 := [(6, .int (x6 + 1)), (0, .ref a0), (1, .int x1), (2, .int x2), (3, .int x3), (4, .int x4), (5, .int x5)]) dX11_copy_141 rfl rfl (by decide) rfl ?_
  refine jx_goto (tgt := 113) dX11_copy_144 (by decide) ?_
  exact jx_lv [1, 2, 3, 4, 5, 6, 0] rfl h
set_option maxRecDepth 100000 in
set_option maxHeartbeats 4000000 in
theorem T_X11_copy_150 {E : jEnv} {d : Nat} {Q : Int32 → jM → Prop} {a0 : Nat} {x3 : Int32} {x4 : Int32} {x5 : Int32} {x6 : Int32} {S : jM} (h : (x5 ≤ x6 → Q x5 S) ∧ (¬ x5 ≤ x6 → jk S a0 = 11 ∧ ∃ b36, jr S a0 6 = some b36 ∧ (∃ b37, jr S a0 32 = some b37 ∧ (jk S b37 = 12 ∧ vp_in x6 (jl S b37) ∧ (jk S b36 = 12 ∧ vp_in (((24 * x3) + x4) + x6) (jl S b36) ∧ (L_X11_copy_150 E d Q a0 x3 x4 x5 (x6 + 1) (jput S b36 (Int32.toNatClampNeg (((24 * x3) + x4) + x6)) (ji S b37 (Int32.toNatClampNeg x6))))))))) : L_X11_copy_150 E d Q a0 x3 x4 x5 x6 S := by
  show jX E mX11_copy (jRm (d + 2) 0 0) (jZm E (fun r S' => ∃ v : Int32, r = some (.int v) ∧ Q v S') 0 0) 150 [(0, .ref a0), (3, .int x3), (4, .int x4), (5, .int x5), (6, .int x6)] [] S 0 0
  refine jx_iload 4 dX11_copy_150 rfl ?_
  refine jx_iload 3 dX11_copy_152 rfl ?_
  refine jx_icmp_ge (tgt := 185) dX11_copy_154 (by decide) (fun c34 => ?_) (fun c34 => ?_)
  · replace h := h.1 c34
    refine jx_iload 3 dX11_copy_185 rfl ?_
    exact jx_iret dX11_copy_187 rfl rfl (jle rfl) (jle rfl) ⟨_, rfl, h⟩
  replace h := h.2 c34
  refine jx_aload_n 0 dX11_copy_157 rfl rfl ?_
  obtain ⟨hk35, h⟩ := h
  obtain ⟨b36, hb36, h⟩ := h
  refine jx_getr jc_11 (j := 6) (by decide) rfl jwF_X11_25 dX11_copy_158 hk35 hb36 ?_
  refine jx_bipush (v := 24) dX11_copy_161 (by decide) ?_
  refine jx_iload_n 1 dX11_copy_163 rfl rfl ?_
  refine jx_imul dX11_copy_164 ?_
  refine jx_iload 2 dX11_copy_165 rfl ?_
  refine jx_iadd dX11_copy_167 ?_
  refine jx_iload 4 dX11_copy_168 rfl ?_
  refine jx_iadd dX11_copy_170 ?_
  refine jx_aload_n 0 dX11_copy_171 rfl rfl ?_
  obtain ⟨b37, hb37, h⟩ := h
  refine jx_getr jc_11 (j := 32) (by decide) rfl jwF_X11_61 dX11_copy_172 hk35 hb37 ?_
  refine jx_iload 4 dX11_copy_175 rfl ?_
  obtain ⟨hk38, h⟩ := h
  obtain ⟨hi39, h⟩ := h
  refine jx_iald dX11_copy_177 hk38 hi39 ?_
  obtain ⟨hk40, h⟩ := h
  obtain ⟨hi41, h⟩ := h
  refine jx_iast dX11_copy_178 hk40 hi41 ?_
  refine jx_iinc 4 (v := (x6 + 1)) (lv1 := [(6, .int (x6 + 1)), (0, .ref a0), (3, .int x3), (4, .int x4), (5, .int x5)]) dX11_copy_179 rfl rfl (by decide) rfl ?_
  refine jx_goto (tgt := 150) dX11_copy_182 (by decide) ?_
  exact jx_lv [1, 2, 3, 4, 0] rfl h
/-- X11_lay at its loop's head 150 -/
abbrev L_X11_lay_150 (E : jEnv) (d : Nat) (Q : Int32 → jM → Prop) (a0 : Nat) (x1 : Int32) (x3 : Int32) (x5 : Int32) (x6 : Int32) (S : jM) : Prop := jX E mX11_lay (jRm (d + 2) 0 0) (jZm E (fun r S' => ∃ v : Int32, r = some (.int v) ∧ Q v S') 0 0) 150 [(0, .ref a0), (1, .int x1), (3, .int x3), (5, .int x5), (6, .int x6)] [] S 0 0
set_option maxRecDepth 100000 in
set_option maxHeartbeats 4000000 in
theorem T_X11_lay {E : jEnv} {d : Nat} {Q : Int32 → jM → Prop} {a0 : Nat} {x1 : Int32} {x2 : Int32} {x3 : Int32} {S : jM} (h : (x2 = 0 → ((jisslot x1) = 0 → Q (-1000000001) S) ∧ (¬ (jisslot x1) = 0 → (x2 = 2 → jk S a0 = 11 ∧ ∃ b29, jr S a0 4 = some b29 ∧ (jk S b29 = 12 ∧ vp_in x3 (jl S b29) ∧ ((0 ≤ (ji S b29 (Int32.toNatClampNeg x3)) → ∃ b33, jr S a0 7 = some b33 ∧ (jk S b33 = 12 ∧ vp_in x1 (jl S b33) ∧ ((∃ b36, jr S a0 8 = some b36 ∧ ((x2 = 1 → jFi E mX11_of (d + 1) 0 0 [.ref a0, .int x3, .int 0] (jput S b33 (Int32.toNatClampNeg x1) x2) (fun r50 S49 => jk S49 b36 = 12 ∧ vp_in x1 (jl S49 b36) ∧ (jk S49 a0 = 11 ∧ ∃ b54, jr S49 a0 9 = some b54 ∧ (jFi E mX11_worth (d + 1) 0 0 [.ref a0, .int x3] (jput S49 b36 (Int32.toNatClampNeg x1) r50) (fun r56 S55 => jk S55 b54 = 12 ∧ vp_in x1 (jl S55 b54) ∧ (jk S55 a0 = 11 ∧ ∃ b60, jr S55 a0 10 = some b60 ∧ (∃ b61, jr S55 a0 5 = some b61 ∧ (jk S55 b61 = 12 ∧ vp_in x3 (jl S55 b61) ∧ (jk S55 b60 = 12 ∧ vp_in x1 (jl S55 b60) ∧ (L_X11_lay_150 E d Q a0 x1 x3 (ji S b33 (Int32.toNatClampNeg x1)) 0 (jput (jput S55 b54 (Int32.toNatClampNeg x1) r56) b60 (Int32.toNatClampNeg x1) (ji (jput S55 b54 (Int32.toNatClampNeg x1) r56) b61 (Int32.toNatClampNeg x3))))))))))))) ∧ (¬ x2 = 1 → jk S b36 = 12 ∧ vp_in x1 (jl S b36) ∧ (∃ b40, jr S a0 9 = some b40 ∧ (jk S b40 = 12 ∧ vp_in x1 (jl S b40) ∧ (∃ b43, jr S a0 10 = some b43 ∧ (∃ b44, jr S a0 5 = some b44 ∧ (jk S b44 = 12 ∧ vp_in x3 (jl S b44) ∧ (jk S b43 = 12 ∧ vp_in x1 (jl S b43) ∧ (L_X11_lay_150 E d Q a0 x1 x3 (ji S b33 (Int32.toNatClampNeg x1)) 0 (jput (jput (jput (jput S b33 (Int32.toNatClampNeg x1) x2) b36 (Int32.toNatClampNeg x1) x3) b40 (Int32.toNatClampNeg x1) 0) b43 (Int32.toNatClampNeg x1) (ji (jput (jput (jput S b33 (Int32.toNatClampNeg x1) x2) b36 (Int32.toNatClampNeg x1) x3) b40 (Int32.toNatClampNeg x1) 0) b44 (Int32.toNatClampNeg x3)))))))))))))))) ∧ (¬ 0 ≤ (ji S b29 (Int32.toNatClampNeg x3)) → Q (-1000000011) S)))) ∧ (¬ x2 = 2 → jk S a0 = 11 ∧ ∃ b8, jr S a0 7 = some b8 ∧ (jk S b8 = 12 ∧ vp_in x1 (jl S b8) ∧ ((∃ b11, jr S a0 8 = some b11 ∧ ((x2 = 1 → jFi E mX11_of (d + 1) 0 0 [.ref a0, .int x3, .int 0] (jput S b8 (Int32.toNatClampNeg x1) x2) (fun r19 S18 => jk S18 b11 = 12 ∧ vp_in x1 (jl S18 b11) ∧ (jk S18 a0 = 11 ∧ ∃ b23, jr S18 a0 9 = some b23 ∧ (jFi E mX11_worth (d + 1) 0 0 [.ref a0, .int x3] (jput S18 b11 (Int32.toNatClampNeg x1) r19) (fun r25 S24 => jk S24 b23 = 12 ∧ vp_in x1 (jl S24 b23) ∧ (Q (ji S b8 (Int32.toNatClampNeg x1)) (jput S24 b23 (Int32.toNatClampNeg x1) r25))))))) ∧ (¬ x2 = 1 → jk S b11 = 12 ∧ vp_in x1 (jl S b11) ∧ (∃ b15, jr S a0 9 = some b15 ∧ (jk S b15 = 12 ∧ vp_in x1 (jl S b15) ∧ (Q (ji S b8 (Int32.toNatClampNeg x1)) (jput (jput (jput S b8 (Int32.toNatClampNeg x1) x2) b11 (Int32.toNatClampNeg x1) x3) b15 (Int32.toNatClampNeg x1) 0)))))))))))) ∧ (¬ x2 = 0 → (x2 = 3 → ((jisslot x1) = 0 → Q (-1000000001) S) ∧ (¬ (jisslot x1) = 0 → (x2 = 2 → jk S a0 = 11 ∧ ∃ b94, jr S a0 4 = some b94 ∧ (jk S b94 = 12 ∧ vp_in x3 (jl S b94) ∧ ((0 ≤ (ji S b94 (Int32.toNatClampNeg x3)) → ∃ b98, jr S a0 7 = some b98 ∧ (jk S b98 = 12 ∧ vp_in x1 (jl S b98) ∧ ((∃ b101, jr S a0 8 = some b101 ∧ ((x2 = 1 → jFi E mX11_of (d + 1) 0 0 [.ref a0, .int x3, .int 0] (jput S b98 (Int32.toNatClampNeg x1) x2) (fun r115 S114 => jk S114 b101 = 12 ∧ vp_in x1 (jl S114 b101) ∧ (jk S114 a0 = 11 ∧ ∃ b119, jr S114 a0 9 = some b119 ∧ (jFi E mX11_worth (d + 1) 0 0 [.ref a0, .int x3] (jput S114 b101 (Int32.toNatClampNeg x1) r115) (fun r121 S120 => jk S120 b119 = 12 ∧ vp_in x1 (jl S120 b119) ∧ (jk S120 a0 = 11 ∧ ∃ b125, jr S120 a0 10 = some b125 ∧ (∃ b126, jr S120 a0 5 = some b126 ∧ (jk S120 b126 = 12 ∧ vp_in x3 (jl S120 b126) ∧ (jk S120 b125 = 12 ∧ vp_in x1 (jl S120 b125) ∧ (L_X11_lay_150 E d Q a0 x1 x3 (ji S b98 (Int32.toNatClampNeg x1)) 0 (jput (jput S120 b119 (Int32.toNatClampNeg x1) r121) b125 (Int32.toNatClampNeg x1) (ji (jput S120 b119 (Int32.toNatClampNeg x1) r121) b126 (Int32.toNatClampNeg x3))))))))))))) ∧ (¬ x2 = 1 → jk S b101 = 12 ∧ vp_in x1 (jl S b101) ∧ (∃ b105, jr S a0 9 = some b105 ∧ (jk S b105 = 12 ∧ vp_in x1 (jl S b105) ∧ (∃ b108, jr S a0 10 = some b108 ∧ (∃ b109, jr S a0 5 = some b109 ∧ (jk S b109 = 12 ∧ vp_in x3 (jl S b109) ∧ (jk S b108 = 12 ∧ vp_in x1 (jl S b108) ∧ (L_X11_lay_150 E d Q a0 x1 x3 (ji S b98 (Int32.toNatClampNeg x1)) 0 (jput (jput (jput (jput S b98 (Int32.toNatClampNeg x1) x2) b101 (Int32.toNatClampNeg x1) x3) b105 (Int32.toNatClampNeg x1) 0) b108 (Int32.toNatClampNeg x1) (ji (jput (jput (jput S b98 (Int32.toNatClampNeg x1) x2) b101 (Int32.toNatClampNeg x1) x3) b105 (Int32.toNatClampNeg x1) 0) b109 (Int32.toNatClampNeg x3)))))))))))))))) ∧ (¬ 0 ≤ (ji S b94 (Int32.toNatClampNeg x3)) → Q (-1000000011) S)))) ∧ (¬ x2 = 2 → jk S a0 = 11 ∧ ∃ b73, jr S a0 7 = some b73 ∧ (jk S b73 = 12 ∧ vp_in x1 (jl S b73) ∧ ((∃ b76, jr S a0 8 = some b76 ∧ ((x2 = 1 → jFi E mX11_of (d + 1) 0 0 [.ref a0, .int x3, .int 0] (jput S b73 (Int32.toNatClampNeg x1) x2) (fun r84 S83 => jk S83 b76 = 12 ∧ vp_in x1 (jl S83 b76) ∧ (jk S83 a0 = 11 ∧ ∃ b88, jr S83 a0 9 = some b88 ∧ (jFi E mX11_worth (d + 1) 0 0 [.ref a0, .int x3] (jput S83 b76 (Int32.toNatClampNeg x1) r84) (fun r90 S89 => jk S89 b88 = 12 ∧ vp_in x1 (jl S89 b88) ∧ (Q (ji S b73 (Int32.toNatClampNeg x1)) (jput S89 b88 (Int32.toNatClampNeg x1) r90))))))) ∧ (¬ x2 = 1 → jk S b76 = 12 ∧ vp_in x1 (jl S b76) ∧ (∃ b80, jr S a0 9 = some b80 ∧ (jk S b80 = 12 ∧ vp_in x1 (jl S b80) ∧ (Q (ji S b73 (Int32.toNatClampNeg x1)) (jput (jput (jput S b73 (Int32.toNatClampNeg x1) x2) b76 (Int32.toNatClampNeg x1) x3) b80 (Int32.toNatClampNeg x1) 0)))))))))))) ∧ (¬ x2 = 3 → (x2 = 1 → jk S a0 = 11 ∧ jFi E mX11_isMaster (d + 1) 0 0 [.ref a0, .int x3] S (fun r171 S170 => (r171 = 0 → (x2 = 2 → ((jissheet x3) = 0 → ((jisslot x1) = 0 → Q (-1000000001) S170) ∧ (¬ (jisslot x1) = 0 → Q (-1000000001) S170)) ∧ (¬ (jissheet x3) = 0 → ((jisslot x1) = 0 → Q (-1000000001) S170) ∧ (¬ (jisslot x1) = 0 → jk S170 a0 = 11 ∧ ∃ b237, jr S170 a0 4 = some b237 ∧ (jk S170 b237 = 12 ∧ vp_in x3 (jl S170 b237) ∧ ((0 ≤ (ji S170 b237 (Int32.toNatClampNeg x3)) → ∃ b241, jr S170 a0 7 = some b241 ∧ (jk S170 b241 = 12 ∧ vp_in x1 (jl S170 b241) ∧ ((∃ b244, jr S170 a0 8 = some b244 ∧ (jFi E mX11_of (d + 1) 0 0 [.ref a0, .int x3, .int 0] (jput S170 b241 (Int32.toNatClampNeg x1) x2) (fun r246 S245 => jk S245 b244 = 12 ∧ vp_in x1 (jl S245 b244) ∧ (jk S245 a0 = 11 ∧ ∃ b250, jr S245 a0 9 = some b250 ∧ (jFi E mX11_worth (d + 1) 0 0 [.ref a0, .int x3] (jput S245 b244 (Int32.toNatClampNeg x1) r246) (fun r252 S251 => jk S251 b250 = 12 ∧ vp_in x1 (jl S251 b250) ∧ (jk S251 a0 = 11 ∧ ∃ b256, jr S251 a0 10 = some b256 ∧ (∃ b257, jr S251 a0 5 = some b257 ∧ (jk S251 b257 = 12 ∧ vp_in x3 (jl S251 b257) ∧ (jk S251 b256 = 12 ∧ vp_in x1 (jl S251 b256) ∧ (L_X11_lay_150 E d Q a0 x1 x3 (ji S170 b241 (Int32.toNatClampNeg x1)) 0 (jput (jput S251 b250 (Int32.toNatClampNeg x1) r252) b256 (Int32.toNatClampNeg x1) (ji (jput S251 b250 (Int32.toNatClampNeg x1) r252) b257 (Int32.toNatClampNeg x3))))))))))))))))) ∧ (¬ 0 ≤ (ji S170 b237 (Int32.toNatClampNeg x3)) → Q (-1000000011) S170)))))) ∧ (¬ x2 = 2 → ((jisslot x1) = 0 → Q (-1000000001) S170) ∧ (¬ (jisslot x1) = 0 → Q (-1000000001) S170))) ∧ (¬ r171 = 0 → ((jisslot x1) = 0 → Q (-1000000001) S170) ∧ (¬ (jisslot x1) = 0 → (x2 = 2 → jk S170 a0 = 11 ∧ ∃ b194, jr S170 a0 4 = some b194 ∧ (jk S170 b194 = 12 ∧ vp_in x3 (jl S170 b194) ∧ ((0 ≤ (ji S170 b194 (Int32.toNatClampNeg x3)) → ∃ b198, jr S170 a0 7 = some b198 ∧ (jk S170 b198 = 12 ∧ vp_in x1 (jl S170 b198) ∧ ((∃ b201, jr S170 a0 8 = some b201 ∧ (jFi E mX11_of (d + 1) 0 0 [.ref a0, .int x3, .int 0] (jput S170 b198 (Int32.toNatClampNeg x1) x2) (fun r203 S202 => jk S202 b201 = 12 ∧ vp_in x1 (jl S202 b201) ∧ (jk S202 a0 = 11 ∧ ∃ b207, jr S202 a0 9 = some b207 ∧ (jFi E mX11_worth (d + 1) 0 0 [.ref a0, .int x3] (jput S202 b201 (Int32.toNatClampNeg x1) r203) (fun r209 S208 => jk S208 b207 = 12 ∧ vp_in x1 (jl S208 b207) ∧ (jk S208 a0 = 11 ∧ ∃ b213, jr S208 a0 10 = some b213 ∧ (∃ b214, jr S208 a0 5 = some b214 ∧ (jk S208 b214 = 12 ∧ vp_in x3 (jl S208 b214) ∧ (jk S208 b213 = 12 ∧ vp_in x1 (jl S208 b213) ∧ (L_X11_lay_150 E d Q a0 x1 x3 (ji S170 b198 (Int32.toNatClampNeg x1)) 0 (jput (jput S208 b207 (Int32.toNatClampNeg x1) r209) b213 (Int32.toNatClampNeg x1) (ji (jput S208 b207 (Int32.toNatClampNeg x1) r209) b214 (Int32.toNatClampNeg x3))))))))))))))))) ∧ (¬ 0 ≤ (ji S170 b194 (Int32.toNatClampNeg x3)) → Q (-1000000011) S170)))) ∧ (¬ x2 = 2 → jk S170 a0 = 11 ∧ ∃ b179, jr S170 a0 7 = some b179 ∧ (jk S170 b179 = 12 ∧ vp_in x1 (jl S170 b179) ∧ ((∃ b182, jr S170 a0 8 = some b182 ∧ (jFi E mX11_of (d + 1) 0 0 [.ref a0, .int x3, .int 0] (jput S170 b179 (Int32.toNatClampNeg x1) x2) (fun r184 S183 => jk S183 b182 = 12 ∧ vp_in x1 (jl S183 b182) ∧ (jk S183 a0 = 11 ∧ ∃ b188, jr S183 a0 9 = some b188 ∧ (jFi E mX11_worth (d + 1) 0 0 [.ref a0, .int x3] (jput S183 b182 (Int32.toNatClampNeg x1) r184) (fun r190 S189 => jk S189 b188 = 12 ∧ vp_in x1 (jl S189 b188) ∧ (Q (ji S170 b179 (Int32.toNatClampNeg x1)) (jput S189 b188 (Int32.toNatClampNeg x1) r190))))))))))))))) ∧ (¬ x2 = 1 → (x2 = 2 → ((jissheet x3) = 0 → ((jisslot x1) = 0 → Q (-1000000001) S) ∧ (¬ (jisslot x1) = 0 → Q (-1000000001) S)) ∧ (¬ (jissheet x3) = 0 → ((jisslot x1) = 0 → Q (-1000000001) S) ∧ (¬ (jisslot x1) = 0 → jk S a0 = 11 ∧ ∃ b150, jr S a0 4 = some b150 ∧ (jk S b150 = 12 ∧ vp_in x3 (jl S b150) ∧ ((0 ≤ (ji S b150 (Int32.toNatClampNeg x3)) → ∃ b154, jr S a0 7 = some b154 ∧ (jk S b154 = 12 ∧ vp_in x1 (jl S b154) ∧ ((∃ b157, jr S a0 8 = some b157 ∧ (jk S b157 = 12 ∧ vp_in x1 (jl S b157) ∧ (∃ b160, jr S a0 9 = some b160 ∧ (jk S b160 = 12 ∧ vp_in x1 (jl S b160) ∧ (∃ b163, jr S a0 10 = some b163 ∧ (∃ b164, jr S a0 5 = some b164 ∧ (jk S b164 = 12 ∧ vp_in x3 (jl S b164) ∧ (jk S b163 = 12 ∧ vp_in x1 (jl S b163) ∧ (L_X11_lay_150 E d Q a0 x1 x3 (ji S b154 (Int32.toNatClampNeg x1)) 0 (jput (jput (jput (jput S b154 (Int32.toNatClampNeg x1) x2) b157 (Int32.toNatClampNeg x1) x3) b160 (Int32.toNatClampNeg x1) 0) b163 (Int32.toNatClampNeg x1) (ji (jput (jput (jput S b154 (Int32.toNatClampNeg x1) x2) b157 (Int32.toNatClampNeg x1) x3) b160 (Int32.toNatClampNeg x1) 0) b164 (Int32.toNatClampNeg x3))))))))))))))) ∧ (¬ 0 ≤ (ji S b150 (Int32.toNatClampNeg x3)) → Q (-1000000011) S)))))) ∧ (¬ x2 = 2 → ((jisslot x1) = 0 → Q (-1000000001) S) ∧ (¬ (jisslot x1) = 0 → Q (-1000000001) S)))))) : jFi E mX11_lay (d + 2) 0 0 [.ref a0, .int x1, .int x2, .int x3] S Q := by
  refine jF_of (by decide) (jle rfl) ?_
  refine jx_lv (lv1 := [(0, .ref a0), (1, .int x1), (2, .int x2), (3, .int x3)]) [0, 1, 2, 3] rfl ?_
  refine jx_iload_n 2 dX11_lay_0 rfl rfl ?_
  refine jx_if_eq (tgt := 34) dX11_lay_1 (by decide) (fun c1 => ?_) (fun c1 => ?_)
  · replace h := h.1 c1
    refine jx_iconst (v := 1) dX11_lay_34 (by decide) ?_
    refine jx_goto (tgt := 39) dX11_lay_35 (by decide) ?_
    refine jx_istore (lv1 := [(4, .int 1), (0, .ref a0), (1, .int x1), (2, .int x2), (3, .int x3)]) dX11_lay_39 (by decide) rfl ?_
    refine jx_iload_n 2 dX11_lay_41 rfl rfl ?_
    refine jx_callSi (M' := mX11_isSlot) (As := [.int x1]) jo_X11_isSlot jwM_X11_329 jwS_X11_isSlot dX11_lay_42 (jRok_m _ _ _) rfl (jle rfl) ⟨jle rfl, jle rfl⟩ (c_X11_isSlot (Q := fun v S' => v = (jisslot x1) ∧ S = S') ⟨rfl, rfl⟩) (fun r2 S3 hq4 => ?_)
    obtain ⟨rfl, rfl⟩ := hq4
    refine jx_if_eq (tgt := 53) dX11_lay_45 (by decide) (fun c5 => ?_) (fun c5 => ?_)
    · replace h := h.1 c5
      refine jx_ldc jwC_X11_87 dX11_lay_53 ?_
      exact jx_iret dX11_lay_55 rfl rfl (jle rfl) (jle rfl) ⟨_, rfl, h⟩
    replace h := h.2 c5
    refine jx_iload 0 dX11_lay_48 rfl ?_
    refine jx_if_ne (tgt := 56) dX11_lay_50 (by decide) (fun _ => ?_) (fun z9 => absurd z9 (by decide))
    refine jx_iload_n 3 dX11_lay_56 rfl rfl ?_
    refine jx_iconst (v := 2) dX11_lay_57 (by decide) ?_
    refine jx_icmp_ne (tgt := 74) dX11_lay_58 (by decide) (fun c6 => ?_) (fun c6 => ?_)
    · replace h := h.2 c6
      refine jx_aload_n 1 dX11_lay_74 rfl rfl ?_
      obtain ⟨hk7, h⟩ := h
      obtain ⟨b8, hb8, h⟩ := h
      refine jx_getr jc_11 (j := 7) (by decide) rfl jwF_X11_28 dX11_lay_75 hk7 hb8 ?_
      refine jx_iload_n 2 dX11_lay_78 rfl rfl ?_
      obtain ⟨hk9, h⟩ := h
      obtain ⟨hi10, h⟩ := h
      refine jx_iald dX11_lay_79 hk9 hi10 ?_
      refine jx_istore (lv1 := [(5, .int (ji S b8 (Int32.toNatClampNeg x1))), (4, .int 1), (0, .ref a0), (1, .int x1), (2, .int x2), (3, .int x3)]) dX11_lay_80 (by decide) rfl ?_
      refine jx_aload_n 2 dX11_lay_82 rfl rfl ?_
      refine jx_getr jc_11 (j := 7) (by decide) rfl jwF_X11_28 dX11_lay_83 hk7 hb8 ?_
      refine jx_iload_n 3 dX11_lay_86 rfl rfl ?_
      refine jx_iload_n 4 dX11_lay_87 rfl rfl ?_
      refine jx_iast dX11_lay_88 hk9 hi10 ?_
      refine jx_aload_n 2 dX11_lay_89 rfl rfl ?_
      obtain ⟨b11, hb11, h⟩ := h
      refine jx_getr jc_11 (j := 8) (by decide) rfl jwF_X11_31 dX11_lay_90 hk7 hb11 ?_
      refine jx_iload_n 3 dX11_lay_93 rfl rfl ?_
      refine jx_iload_n 4 dX11_lay_94 rfl rfl ?_
      refine jx_iconst (v := 1) dX11_lay_95 (by decide) ?_
      refine jx_icmp_ne (tgt := 108) dX11_lay_96 (by decide) (fun c12 => ?_) (fun c12 => ?_)
      · replace h := h.2 c12
        refine jx_iload_n 5 dX11_lay_108 rfl rfl ?_
        obtain ⟨hk13, h⟩ := h
        obtain ⟨hi14, h⟩ := h
        refine jx_iast dX11_lay_109 hk13 hi14 ?_
        refine jx_aload_n 2 dX11_lay_110 rfl rfl ?_
        obtain ⟨b15, hb15, h⟩ := h
        refine jx_getr jc_11 (j := 9) (by decide) rfl jwF_X11_34 dX11_lay_111 hk7 hb15 ?_
        refine jx_iload_n 3 dX11_lay_114 rfl rfl ?_
        refine jx_iload_n 4 dX11_lay_115 rfl rfl ?_
        refine jx_iconst (v := 1) dX11_lay_116 (by decide) ?_
        refine jx_icmp_ne (tgt := 128) dX11_lay_117 (by decide) (fun _ => ?_) (fun z9 => absurd z9 c12)
        refine jx_iconst (v := 0) dX11_lay_128 (by decide) ?_
        obtain ⟨hk16, h⟩ := h
        obtain ⟨hi17, h⟩ := h
        refine jx_iast dX11_lay_129 hk16 hi17 ?_
        refine jx_iload_n 4 dX11_lay_130 rfl rfl ?_
        refine jx_iconst (v := 2) dX11_lay_131 (by decide) ?_
        refine jx_icmp_ne (tgt := 187) dX11_lay_132 (by decide) (fun _ => ?_) (fun z9 => absurd z9 c6)
        refine jx_iload 0 dX11_lay_187 rfl ?_
        exact jx_iret dX11_lay_189 rfl rfl (jle rfl) (jle rfl) ⟨_, rfl, h⟩
      replace h := h.1 c12
      refine jx_aload_n 2 dX11_lay_99 rfl rfl ?_
      refine jx_iload_n 5 dX11_lay_100 rfl rfl ?_
      refine jx_iconst (v := 0) dX11_lay_101 (by decide) ?_
      refine jx_callVi (M' := mX11_of) (As := [.int x3, .int 0]) jo_X11_of jc_11 rfl jwM_X11_97 jwN_X11_of jwX_X11_of dX11_lay_102 (jRok_m _ _ _) rfl (jle rfl) ⟨jle rfl, jle rfl⟩ hk7 h (fun r19 S18 h => ?_)
      refine jx_goto (tgt := 109) dX11_lay_105 (by decide) ?_
      obtain ⟨hk20, h⟩ := h
      obtain ⟨hi21, h⟩ := h
      refine jx_iast dX11_lay_109 hk20 hi21 ?_
      refine jx_aload_n 2 dX11_lay_110 rfl rfl ?_
      obtain ⟨hk22, h⟩ := h
      obtain ⟨b23, hb23, h⟩ := h
      refine jx_getr jc_11 (j := 9) (by decide) rfl jwF_X11_34 dX11_lay_111 hk22 hb23 ?_
      refine jx_iload_n 3 dX11_lay_114 rfl rfl ?_
      refine jx_iload_n 4 dX11_lay_115 rfl rfl ?_
      refine jx_iconst (v := 1) dX11_lay_116 (by decide) ?_
      refine jx_icmp_ne (tgt := 128) dX11_lay_117 (by decide) (fun z9 => absurd c12 z9) (fun _ => ?_)
      refine jx_aload_n 2 dX11_lay_120 rfl rfl ?_
      refine jx_iload_n 5 dX11_lay_121 rfl rfl ?_
      refine jx_callVi (M' := mX11_worth) (As := [.int x3]) jo_X11_worth jc_11 rfl jwM_X11_119 jwN_X11_worth jwX_X11_worth dX11_lay_122 (jRok_m _ _ _) rfl (jle rfl) ⟨jle rfl, jle rfl⟩ hk22 h (fun r25 S24 h => ?_)
      refine jx_goto (tgt := 129) dX11_lay_125 (by decide) ?_
      obtain ⟨hk26, h⟩ := h
      obtain ⟨hi27, h⟩ := h
      refine jx_iast dX11_lay_129 hk26 hi27 ?_
      refine jx_iload_n 4 dX11_lay_130 rfl rfl ?_
      refine jx_iconst (v := 2) dX11_lay_131 (by decide) ?_
      refine jx_icmp_ne (tgt := 187) dX11_lay_132 (by decide) (fun _ => ?_) (fun z9 => absurd z9 c6)
      refine jx_iload 0 dX11_lay_187 rfl ?_
      exact jx_iret dX11_lay_189 rfl rfl (jle rfl) (jle rfl) ⟨_, rfl, h⟩
    replace h := h.1 c6
    refine jx_aload_n 1 dX11_lay_61 rfl rfl ?_
    obtain ⟨hk28, h⟩ := h
    obtain ⟨b29, hb29, h⟩ := h
    refine jx_getr jc_11 (j := 4) (by decide) rfl jwF_X11_19 dX11_lay_62 hk28 hb29 ?_
    refine jx_iload_n 4 dX11_lay_65 rfl rfl ?_
    obtain ⟨hk30, h⟩ := h
    obtain ⟨hi31, h⟩ := h
    refine jx_iald dX11_lay_66 hk30 hi31 ?_
    refine jx_if_ge (tgt := 74) dX11_lay_67 (by decide) (fun c32 => ?_) (fun c32 => ?_)
    · replace h := h.1 c32
      refine jx_aload_n 1 dX11_lay_74 rfl rfl ?_
      obtain ⟨b33, hb33, h⟩ := h
      refine jx_getr jc_11 (j := 7) (by decide) rfl jwF_X11_28 dX11_lay_75 hk28 hb33 ?_
      refine jx_iload_n 2 dX11_lay_78 rfl rfl ?_
      obtain ⟨hk34, h⟩ := h
      obtain ⟨hi35, h⟩ := h
      refine jx_iald dX11_lay_79 hk34 hi35 ?_
      refine jx_istore (lv1 := [(5, .int (ji S b33 (Int32.toNatClampNeg x1))), (4, .int 1), (0, .ref a0), (1, .int x1), (2, .int x2), (3, .int x3)]) dX11_lay_80 (by decide) rfl ?_
      refine jx_aload_n 2 dX11_lay_82 rfl rfl ?_
      refine jx_getr jc_11 (j := 7) (by decide) rfl jwF_X11_28 dX11_lay_83 hk28 hb33 ?_
      refine jx_iload_n 3 dX11_lay_86 rfl rfl ?_
      refine jx_iload_n 4 dX11_lay_87 rfl rfl ?_
      refine jx_iast dX11_lay_88 hk34 hi35 ?_
      refine jx_aload_n 2 dX11_lay_89 rfl rfl ?_
      obtain ⟨b36, hb36, h⟩ := h
      refine jx_getr jc_11 (j := 8) (by decide) rfl jwF_X11_31 dX11_lay_90 hk28 hb36 ?_
      refine jx_iload_n 3 dX11_lay_93 rfl rfl ?_
      refine jx_iload_n 4 dX11_lay_94 rfl rfl ?_
      refine jx_iconst (v := 1) dX11_lay_95 (by decide) ?_
      refine jx_icmp_ne (tgt := 108) dX11_lay_96 (by decide) (fun c37 => ?_) (fun c37 => ?_)
      · replace h := h.2 c37
        refine jx_iload_n 5 dX11_lay_108 rfl rfl ?_
        obtain ⟨hk38, h⟩ := h
        obtain ⟨hi39, h⟩ := h
        refine jx_iast dX11_lay_109 hk38 hi39 ?_
        refine jx_aload_n 2 dX11_lay_110 rfl rfl ?_
        obtain ⟨b40, hb40, h⟩ := h
        refine jx_getr jc_11 (j := 9) (by decide) rfl jwF_X11_34 dX11_lay_111 hk28 hb40 ?_
        refine jx_iload_n 3 dX11_lay_114 rfl rfl ?_
        refine jx_iload_n 4 dX11_lay_115 rfl rfl ?_
        refine jx_iconst (v := 1) dX11_lay_116 (by decide) ?_
        refine jx_icmp_ne (tgt := 128) dX11_lay_117 (by decide) (fun _ => ?_) (fun z9 => absurd z9 c37)
        refine jx_iconst (v := 0) dX11_lay_128 (by decide) ?_
        obtain ⟨hk41, h⟩ := h
        obtain ⟨hi42, h⟩ := h
        refine jx_iast dX11_lay_129 hk41 hi42 ?_
        refine jx_iload_n 4 dX11_lay_130 rfl rfl ?_
        refine jx_iconst (v := 2) dX11_lay_131 (by decide) ?_
        refine jx_icmp_ne (tgt := 187) dX11_lay_132 (by decide) (fun z9 => absurd c6 z9) (fun _ => ?_)
        refine jx_aload_n 2 dX11_lay_135 rfl rfl ?_
        obtain ⟨b43, hb43, h⟩ := h
        refine jx_getr jc_11 (j := 10) (by decide) rfl jwF_X11_37 dX11_lay_136 hk28 hb43 ?_
        refine jx_iload_n 3 dX11_lay_139 rfl rfl ?_
        refine jx_aload_n 2 dX11_lay_140 rfl rfl ?_
        obtain ⟨b44, hb44, h⟩ := h
        refine jx_getr jc_11 (j := 5) (by decide) rfl jwF_X11_22 dX11_lay_141 hk28 hb44 ?_
        refine jx_iload_n 5 dX11_lay_144 rfl rfl ?_
        obtain ⟨hk45, h⟩ := h
        obtain ⟨hi46, h⟩ := h
        refine jx_iald dX11_lay_145 hk45 hi46 ?_
        obtain ⟨hk47, h⟩ := h
        obtain ⟨hi48, h⟩ := h
        refine jx_iast dX11_lay_146 hk47 hi48 ?_
        refine jx_iconst (v := 0) dX11_lay_147 (by decide) ?_
        refine jx_istore (lv1 := [(6, .int 0), (5, .int (ji S b33 (Int32.toNatClampNeg x1))), (4, .int 1), (0, .ref a0), (1, .int x1), (2, .int x2), (3, .int x3)]) dX11_lay_148 (by decide) rfl ?_
        exact jx_lv [3, 4, 6, 1, 0] rfl h
      replace h := h.1 c37
      refine jx_aload_n 2 dX11_lay_99 rfl rfl ?_
      refine jx_iload_n 5 dX11_lay_100 rfl rfl ?_
      refine jx_iconst (v := 0) dX11_lay_101 (by decide) ?_
      refine jx_callVi (M' := mX11_of) (As := [.int x3, .int 0]) jo_X11_of jc_11 rfl jwM_X11_97 jwN_X11_of jwX_X11_of dX11_lay_102 (jRok_m _ _ _) rfl (jle rfl) ⟨jle rfl, jle rfl⟩ hk28 h (fun r50 S49 h => ?_)
      refine jx_goto (tgt := 109) dX11_lay_105 (by decide) ?_
      obtain ⟨hk51, h⟩ := h
      obtain ⟨hi52, h⟩ := h
      refine jx_iast dX11_lay_109 hk51 hi52 ?_
      refine jx_aload_n 2 dX11_lay_110 rfl rfl ?_
      obtain ⟨hk53, h⟩ := h
      obtain ⟨b54, hb54, h⟩ := h
      refine jx_getr jc_11 (j := 9) (by decide) rfl jwF_X11_34 dX11_lay_111 hk53 hb54 ?_
      refine jx_iload_n 3 dX11_lay_114 rfl rfl ?_
      refine jx_iload_n 4 dX11_lay_115 rfl rfl ?_
      refine jx_iconst (v := 1) dX11_lay_116 (by decide) ?_
      refine jx_icmp_ne (tgt := 128) dX11_lay_117 (by decide) (fun z9 => absurd c37 z9) (fun _ => ?_)
      refine jx_aload_n 2 dX11_lay_120 rfl rfl ?_
      refine jx_iload_n 5 dX11_lay_121 rfl rfl ?_
      refine jx_callVi (M' := mX11_worth) (As := [.int x3]) jo_X11_worth jc_11 rfl jwM_X11_119 jwN_X11_worth jwX_X11_worth dX11_lay_122 (jRok_m _ _ _) rfl (jle rfl) ⟨jle rfl, jle rfl⟩ hk53 h (fun r56 S55 h => ?_)
      refine jx_goto (tgt := 129) dX11_lay_125 (by decide) ?_
      obtain ⟨hk57, h⟩ := h
      obtain ⟨hi58, h⟩ := h
      refine jx_iast dX11_lay_129 hk57 hi58 ?_
      refine jx_iload_n 4 dX11_lay_130 rfl rfl ?_
      refine jx_iconst (v := 2) dX11_lay_131 (by decide) ?_
      refine jx_icmp_ne (tgt := 187) dX11_lay_132 (by decide) (fun z9 => absurd c6 z9) (fun _ => ?_)
      refine jx_aload_n 2 dX11_lay_135 rfl rfl ?_
      obtain ⟨hk59, h⟩ := h
      obtain ⟨b60, hb60, h⟩ := h
      refine jx_getr jc_11 (j := 10) (by decide) rfl jwF_X11_37 dX11_lay_136 hk59 hb60 ?_
      refine jx_iload_n 3 dX11_lay_139 rfl rfl ?_
      refine jx_aload_n 2 dX11_lay_140 rfl rfl ?_
      obtain ⟨b61, hb61, h⟩ := h
      refine jx_getr jc_11 (j := 5) (by decide) rfl jwF_X11_22 dX11_lay_141 hk59 hb61 ?_
      refine jx_iload_n 5 dX11_lay_144 rfl rfl ?_
      obtain ⟨hk62, h⟩ := h
      obtain ⟨hi63, h⟩ := h
      refine jx_iald dX11_lay_145 hk62 hi63 ?_
      obtain ⟨hk64, h⟩ := h
      obtain ⟨hi65, h⟩ := h
      refine jx_iast dX11_lay_146 hk64 hi65 ?_
      refine jx_iconst (v := 0) dX11_lay_147 (by decide) ?_
      refine jx_istore (lv1 := [(6, .int 0), (5, .int (ji S b33 (Int32.toNatClampNeg x1))), (4, .int 1), (0, .ref a0), (1, .int x1), (2, .int x2), (3, .int x3)]) dX11_lay_148 (by decide) rfl ?_
      exact jx_lv [3, 4, 6, 1, 0] rfl h
    replace h := h.2 c32
    refine jx_ldcw jwC_X11_320 dX11_lay_70 ?_
    exact jx_iret dX11_lay_73 rfl rfl (jle rfl) (jle rfl) ⟨_, rfl, h⟩
  replace h := h.2 c1
  refine jx_iload_n 2 dX11_lay_4 rfl rfl ?_
  refine jx_iconst (v := 3) dX11_lay_5 (by decide) ?_
  refine jx_icmp_eq (tgt := 34) dX11_lay_6 (by decide) (fun c66 => ?_) (fun c66 => ?_)
  · replace h := h.1 c66
    refine jx_iconst (v := 1) dX11_lay_34 (by decide) ?_
    refine jx_goto (tgt := 39) dX11_lay_35 (by decide) ?_
    refine jx_istore (lv1 := [(4, .int 1), (0, .ref a0), (1, .int x1), (2, .int x2), (3, .int x3)]) dX11_lay_39 (by decide) rfl ?_
    refine jx_iload_n 2 dX11_lay_41 rfl rfl ?_
    refine jx_callSi (M' := mX11_isSlot) (As := [.int x1]) jo_X11_isSlot jwM_X11_329 jwS_X11_isSlot dX11_lay_42 (jRok_m _ _ _) rfl (jle rfl) ⟨jle rfl, jle rfl⟩ (c_X11_isSlot (Q := fun v S' => v = (jisslot x1) ∧ S = S') ⟨rfl, rfl⟩) (fun r67 S68 hq69 => ?_)
    obtain ⟨rfl, rfl⟩ := hq69
    refine jx_if_eq (tgt := 53) dX11_lay_45 (by decide) (fun c70 => ?_) (fun c70 => ?_)
    · replace h := h.1 c70
      refine jx_ldc jwC_X11_87 dX11_lay_53 ?_
      exact jx_iret dX11_lay_55 rfl rfl (jle rfl) (jle rfl) ⟨_, rfl, h⟩
    replace h := h.2 c70
    refine jx_iload 0 dX11_lay_48 rfl ?_
    refine jx_if_ne (tgt := 56) dX11_lay_50 (by decide) (fun _ => ?_) (fun z9 => absurd z9 (by decide))
    refine jx_iload_n 3 dX11_lay_56 rfl rfl ?_
    refine jx_iconst (v := 2) dX11_lay_57 (by decide) ?_
    refine jx_icmp_ne (tgt := 74) dX11_lay_58 (by decide) (fun c71 => ?_) (fun c71 => ?_)
    · replace h := h.2 c71
      refine jx_aload_n 1 dX11_lay_74 rfl rfl ?_
      obtain ⟨hk72, h⟩ := h
      obtain ⟨b73, hb73, h⟩ := h
      refine jx_getr jc_11 (j := 7) (by decide) rfl jwF_X11_28 dX11_lay_75 hk72 hb73 ?_
      refine jx_iload_n 2 dX11_lay_78 rfl rfl ?_
      obtain ⟨hk74, h⟩ := h
      obtain ⟨hi75, h⟩ := h
      refine jx_iald dX11_lay_79 hk74 hi75 ?_
      refine jx_istore (lv1 := [(5, .int (ji S b73 (Int32.toNatClampNeg x1))), (4, .int 1), (0, .ref a0), (1, .int x1), (2, .int x2), (3, .int x3)]) dX11_lay_80 (by decide) rfl ?_
      refine jx_aload_n 2 dX11_lay_82 rfl rfl ?_
      refine jx_getr jc_11 (j := 7) (by decide) rfl jwF_X11_28 dX11_lay_83 hk72 hb73 ?_
      refine jx_iload_n 3 dX11_lay_86 rfl rfl ?_
      refine jx_iload_n 4 dX11_lay_87 rfl rfl ?_
      refine jx_iast dX11_lay_88 hk74 hi75 ?_
      refine jx_aload_n 2 dX11_lay_89 rfl rfl ?_
      obtain ⟨b76, hb76, h⟩ := h
      refine jx_getr jc_11 (j := 8) (by decide) rfl jwF_X11_31 dX11_lay_90 hk72 hb76 ?_
      refine jx_iload_n 3 dX11_lay_93 rfl rfl ?_
      refine jx_iload_n 4 dX11_lay_94 rfl rfl ?_
      refine jx_iconst (v := 1) dX11_lay_95 (by decide) ?_
      refine jx_icmp_ne (tgt := 108) dX11_lay_96 (by decide) (fun c77 => ?_) (fun c77 => ?_)
      · replace h := h.2 c77
        refine jx_iload_n 5 dX11_lay_108 rfl rfl ?_
        obtain ⟨hk78, h⟩ := h
        obtain ⟨hi79, h⟩ := h
        refine jx_iast dX11_lay_109 hk78 hi79 ?_
        refine jx_aload_n 2 dX11_lay_110 rfl rfl ?_
        obtain ⟨b80, hb80, h⟩ := h
        refine jx_getr jc_11 (j := 9) (by decide) rfl jwF_X11_34 dX11_lay_111 hk72 hb80 ?_
        refine jx_iload_n 3 dX11_lay_114 rfl rfl ?_
        refine jx_iload_n 4 dX11_lay_115 rfl rfl ?_
        refine jx_iconst (v := 1) dX11_lay_116 (by decide) ?_
        refine jx_icmp_ne (tgt := 128) dX11_lay_117 (by decide) (fun _ => ?_) (fun z9 => absurd z9 c77)
        refine jx_iconst (v := 0) dX11_lay_128 (by decide) ?_
        obtain ⟨hk81, h⟩ := h
        obtain ⟨hi82, h⟩ := h
        refine jx_iast dX11_lay_129 hk81 hi82 ?_
        refine jx_iload_n 4 dX11_lay_130 rfl rfl ?_
        refine jx_iconst (v := 2) dX11_lay_131 (by decide) ?_
        refine jx_icmp_ne (tgt := 187) dX11_lay_132 (by decide) (fun _ => ?_) (fun z9 => absurd z9 c71)
        refine jx_iload 0 dX11_lay_187 rfl ?_
        exact jx_iret dX11_lay_189 rfl rfl (jle rfl) (jle rfl) ⟨_, rfl, h⟩
      replace h := h.1 c77
      refine jx_aload_n 2 dX11_lay_99 rfl rfl ?_
      refine jx_iload_n 5 dX11_lay_100 rfl rfl ?_
      refine jx_iconst (v := 0) dX11_lay_101 (by decide) ?_
      refine jx_callVi (M' := mX11_of) (As := [.int x3, .int 0]) jo_X11_of jc_11 rfl jwM_X11_97 jwN_X11_of jwX_X11_of dX11_lay_102 (jRok_m _ _ _) rfl (jle rfl) ⟨jle rfl, jle rfl⟩ hk72 h (fun r84 S83 h => ?_)
      refine jx_goto (tgt := 109) dX11_lay_105 (by decide) ?_
      obtain ⟨hk85, h⟩ := h
      obtain ⟨hi86, h⟩ := h
      refine jx_iast dX11_lay_109 hk85 hi86 ?_
      refine jx_aload_n 2 dX11_lay_110 rfl rfl ?_
      obtain ⟨hk87, h⟩ := h
      obtain ⟨b88, hb88, h⟩ := h
      refine jx_getr jc_11 (j := 9) (by decide) rfl jwF_X11_34 dX11_lay_111 hk87 hb88 ?_
      refine jx_iload_n 3 dX11_lay_114 rfl rfl ?_
      refine jx_iload_n 4 dX11_lay_115 rfl rfl ?_
      refine jx_iconst (v := 1) dX11_lay_116 (by decide) ?_
      refine jx_icmp_ne (tgt := 128) dX11_lay_117 (by decide) (fun z9 => absurd c77 z9) (fun _ => ?_)
      refine jx_aload_n 2 dX11_lay_120 rfl rfl ?_
      refine jx_iload_n 5 dX11_lay_121 rfl rfl ?_
      refine jx_callVi (M' := mX11_worth) (As := [.int x3]) jo_X11_worth jc_11 rfl jwM_X11_119 jwN_X11_worth jwX_X11_worth dX11_lay_122 (jRok_m _ _ _) rfl (jle rfl) ⟨jle rfl, jle rfl⟩ hk87 h (fun r90 S89 h => ?_)
      refine jx_goto (tgt := 129) dX11_lay_125 (by decide) ?_
      obtain ⟨hk91, h⟩ := h
      obtain ⟨hi92, h⟩ := h
      refine jx_iast dX11_lay_129 hk91 hi92 ?_
      refine jx_iload_n 4 dX11_lay_130 rfl rfl ?_
      refine jx_iconst (v := 2) dX11_lay_131 (by decide) ?_
      refine jx_icmp_ne (tgt := 187) dX11_lay_132 (by decide) (fun _ => ?_) (fun z9 => absurd z9 c71)
      refine jx_iload 0 dX11_lay_187 rfl ?_
      exact jx_iret dX11_lay_189 rfl rfl (jle rfl) (jle rfl) ⟨_, rfl, h⟩
    replace h := h.1 c71
    refine jx_aload_n 1 dX11_lay_61 rfl rfl ?_
    obtain ⟨hk93, h⟩ := h
    obtain ⟨b94, hb94, h⟩ := h
    refine jx_getr jc_11 (j := 4) (by decide) rfl jwF_X11_19 dX11_lay_62 hk93 hb94 ?_
    refine jx_iload_n 4 dX11_lay_65 rfl rfl ?_
    obtain ⟨hk95, h⟩ := h
    obtain ⟨hi96, h⟩ := h
    refine jx_iald dX11_lay_66 hk95 hi96 ?_
    refine jx_if_ge (tgt := 74) dX11_lay_67 (by decide) (fun c97 => ?_) (fun c97 => ?_)
    · replace h := h.1 c97
      refine jx_aload_n 1 dX11_lay_74 rfl rfl ?_
      obtain ⟨b98, hb98, h⟩ := h
      refine jx_getr jc_11 (j := 7) (by decide) rfl jwF_X11_28 dX11_lay_75 hk93 hb98 ?_
      refine jx_iload_n 2 dX11_lay_78 rfl rfl ?_
      obtain ⟨hk99, h⟩ := h
      obtain ⟨hi100, h⟩ := h
      refine jx_iald dX11_lay_79 hk99 hi100 ?_
      refine jx_istore (lv1 := [(5, .int (ji S b98 (Int32.toNatClampNeg x1))), (4, .int 1), (0, .ref a0), (1, .int x1), (2, .int x2), (3, .int x3)]) dX11_lay_80 (by decide) rfl ?_
      refine jx_aload_n 2 dX11_lay_82 rfl rfl ?_
      refine jx_getr jc_11 (j := 7) (by decide) rfl jwF_X11_28 dX11_lay_83 hk93 hb98 ?_
      refine jx_iload_n 3 dX11_lay_86 rfl rfl ?_
      refine jx_iload_n 4 dX11_lay_87 rfl rfl ?_
      refine jx_iast dX11_lay_88 hk99 hi100 ?_
      refine jx_aload_n 2 dX11_lay_89 rfl rfl ?_
      obtain ⟨b101, hb101, h⟩ := h
      refine jx_getr jc_11 (j := 8) (by decide) rfl jwF_X11_31 dX11_lay_90 hk93 hb101 ?_
      refine jx_iload_n 3 dX11_lay_93 rfl rfl ?_
      refine jx_iload_n 4 dX11_lay_94 rfl rfl ?_
      refine jx_iconst (v := 1) dX11_lay_95 (by decide) ?_
      refine jx_icmp_ne (tgt := 108) dX11_lay_96 (by decide) (fun c102 => ?_) (fun c102 => ?_)
      · replace h := h.2 c102
        refine jx_iload_n 5 dX11_lay_108 rfl rfl ?_
        obtain ⟨hk103, h⟩ := h
        obtain ⟨hi104, h⟩ := h
        refine jx_iast dX11_lay_109 hk103 hi104 ?_
        refine jx_aload_n 2 dX11_lay_110 rfl rfl ?_
        obtain ⟨b105, hb105, h⟩ := h
        refine jx_getr jc_11 (j := 9) (by decide) rfl jwF_X11_34 dX11_lay_111 hk93 hb105 ?_
        refine jx_iload_n 3 dX11_lay_114 rfl rfl ?_
        refine jx_iload_n 4 dX11_lay_115 rfl rfl ?_
        refine jx_iconst (v := 1) dX11_lay_116 (by decide) ?_
        refine jx_icmp_ne (tgt := 128) dX11_lay_117 (by decide) (fun _ => ?_) (fun z9 => absurd z9 c102)
        refine jx_iconst (v := 0) dX11_lay_128 (by decide) ?_
        obtain ⟨hk106, h⟩ := h
        obtain ⟨hi107, h⟩ := h
        refine jx_iast dX11_lay_129 hk106 hi107 ?_
        refine jx_iload_n 4 dX11_lay_130 rfl rfl ?_
        refine jx_iconst (v := 2) dX11_lay_131 (by decide) ?_
        refine jx_icmp_ne (tgt := 187) dX11_lay_132 (by decide) (fun z9 => absurd c71 z9) (fun _ => ?_)
        refine jx_aload_n 2 dX11_lay_135 rfl rfl ?_
        obtain ⟨b108, hb108, h⟩ := h
        refine jx_getr jc_11 (j := 10) (by decide) rfl jwF_X11_37 dX11_lay_136 hk93 hb108 ?_
        refine jx_iload_n 3 dX11_lay_139 rfl rfl ?_
        refine jx_aload_n 2 dX11_lay_140 rfl rfl ?_
        obtain ⟨b109, hb109, h⟩ := h
        refine jx_getr jc_11 (j := 5) (by decide) rfl jwF_X11_22 dX11_lay_141 hk93 hb109 ?_
        refine jx_iload_n 5 dX11_lay_144 rfl rfl ?_
        obtain ⟨hk110, h⟩ := h
        obtain ⟨hi111, h⟩ := h
        refine jx_iald dX11_lay_145 hk110 hi111 ?_
        obtain ⟨hk112, h⟩ := h
        obtain ⟨hi113, h⟩ := h
        refine jx_iast dX11_lay_146 hk112 hi113 ?_
        refine jx_iconst (v := 0) dX11_lay_147 (by decide) ?_
        refine jx_istore (lv1 := [(6, .int 0), (5, .int (ji S b98 (Int32.toNatClampNeg x1))), (4, .int 1), (0, .ref a0), (1, .int x1), (2, .int x2), (3, .int x3)]) dX11_lay_148 (by decide) rfl ?_
        exact jx_lv [3, 4, 6, 1, 0] rfl h
      replace h := h.1 c102
      refine jx_aload_n 2 dX11_lay_99 rfl rfl ?_
      refine jx_iload_n 5 dX11_lay_100 rfl rfl ?_
      refine jx_iconst (v := 0) dX11_lay_101 (by decide) ?_
      refine jx_callVi (M' := mX11_of) (As := [.int x3, .int 0]) jo_X11_of jc_11 rfl jwM_X11_97 jwN_X11_of jwX_X11_of dX11_lay_102 (jRok_m _ _ _) rfl (jle rfl) ⟨jle rfl, jle rfl⟩ hk93 h (fun r115 S114 h => ?_)
      refine jx_goto (tgt := 109) dX11_lay_105 (by decide) ?_
      obtain ⟨hk116, h⟩ := h
      obtain ⟨hi117, h⟩ := h
      refine jx_iast dX11_lay_109 hk116 hi117 ?_
      refine jx_aload_n 2 dX11_lay_110 rfl rfl ?_
      obtain ⟨hk118, h⟩ := h
      obtain ⟨b119, hb119, h⟩ := h
      refine jx_getr jc_11 (j := 9) (by decide) rfl jwF_X11_34 dX11_lay_111 hk118 hb119 ?_
      refine jx_iload_n 3 dX11_lay_114 rfl rfl ?_
      refine jx_iload_n 4 dX11_lay_115 rfl rfl ?_
      refine jx_iconst (v := 1) dX11_lay_116 (by decide) ?_
      refine jx_icmp_ne (tgt := 128) dX11_lay_117 (by decide) (fun z9 => absurd c102 z9) (fun _ => ?_)
      refine jx_aload_n 2 dX11_lay_120 rfl rfl ?_
      refine jx_iload_n 5 dX11_lay_121 rfl rfl ?_
      refine jx_callVi (M' := mX11_worth) (As := [.int x3]) jo_X11_worth jc_11 rfl jwM_X11_119 jwN_X11_worth jwX_X11_worth dX11_lay_122 (jRok_m _ _ _) rfl (jle rfl) ⟨jle rfl, jle rfl⟩ hk118 h (fun r121 S120 h => ?_)
      refine jx_goto (tgt := 129) dX11_lay_125 (by decide) ?_
      obtain ⟨hk122, h⟩ := h
      obtain ⟨hi123, h⟩ := h
      refine jx_iast dX11_lay_129 hk122 hi123 ?_
      refine jx_iload_n 4 dX11_lay_130 rfl rfl ?_
      refine jx_iconst (v := 2) dX11_lay_131 (by decide) ?_
      refine jx_icmp_ne (tgt := 187) dX11_lay_132 (by decide) (fun z9 => absurd c71 z9) (fun _ => ?_)
      refine jx_aload_n 2 dX11_lay_135 rfl rfl ?_
      obtain ⟨hk124, h⟩ := h
      obtain ⟨b125, hb125, h⟩ := h
      refine jx_getr jc_11 (j := 10) (by decide) rfl jwF_X11_37 dX11_lay_136 hk124 hb125 ?_
      refine jx_iload_n 3 dX11_lay_139 rfl rfl ?_
      refine jx_aload_n 2 dX11_lay_140 rfl rfl ?_
      obtain ⟨b126, hb126, h⟩ := h
      refine jx_getr jc_11 (j := 5) (by decide) rfl jwF_X11_22 dX11_lay_141 hk124 hb126 ?_
      refine jx_iload_n 5 dX11_lay_144 rfl rfl ?_
      obtain ⟨hk127, h⟩ := h
      obtain ⟨hi128, h⟩ := h
      refine jx_iald dX11_lay_145 hk127 hi128 ?_
      obtain ⟨hk129, h⟩ := h
      obtain ⟨hi130, h⟩ := h
      refine jx_iast dX11_lay_146 hk129 hi130 ?_
      refine jx_iconst (v := 0) dX11_lay_147 (by decide) ?_
      refine jx_istore (lv1 := [(6, .int 0), (5, .int (ji S b98 (Int32.toNatClampNeg x1))), (4, .int 1), (0, .ref a0), (1, .int x1), (2, .int x2), (3, .int x3)]) dX11_lay_148 (by decide) rfl ?_
      exact jx_lv [3, 4, 6, 1, 0] rfl h
    replace h := h.2 c97
    refine jx_ldcw jwC_X11_320 dX11_lay_70 ?_
    exact jx_iret dX11_lay_73 rfl rfl (jle rfl) (jle rfl) ⟨_, rfl, h⟩
  replace h := h.2 c66
  refine jx_iload_n 2 dX11_lay_9 rfl rfl ?_
  refine jx_iconst (v := 1) dX11_lay_10 (by decide) ?_
  refine jx_icmp_ne (tgt := 22) dX11_lay_11 (by decide) (fun c131 => ?_) (fun c131 => ?_)
  · replace h := h.2 c131
    refine jx_iload_n 2 dX11_lay_22 rfl rfl ?_
    refine jx_iconst (v := 2) dX11_lay_23 (by decide) ?_
    refine jx_icmp_ne (tgt := 38) dX11_lay_24 (by decide) (fun c132 => ?_) (fun c132 => ?_)
    · replace h := h.2 c132
      refine jx_iconst (v := 0) dX11_lay_38 (by decide) ?_
      refine jx_istore (lv1 := [(4, .int 0), (0, .ref a0), (1, .int x1), (2, .int x2), (3, .int x3)]) dX11_lay_39 (by decide) rfl ?_
      refine jx_iload_n 2 dX11_lay_41 rfl rfl ?_
      refine jx_callSi (M' := mX11_isSlot) (As := [.int x1]) jo_X11_isSlot jwM_X11_329 jwS_X11_isSlot dX11_lay_42 (jRok_m _ _ _) rfl (jle rfl) ⟨jle rfl, jle rfl⟩ (c_X11_isSlot (Q := fun v S' => v = (jisslot x1) ∧ S = S') ⟨rfl, rfl⟩) (fun r133 S134 hq135 => ?_)
      obtain ⟨rfl, rfl⟩ := hq135
      refine jx_if_eq (tgt := 53) dX11_lay_45 (by decide) (fun c136 => ?_) (fun c136 => ?_)
      · replace h := h.1 c136
        refine jx_ldc jwC_X11_87 dX11_lay_53 ?_
        exact jx_iret dX11_lay_55 rfl rfl (jle rfl) (jle rfl) ⟨_, rfl, h⟩
      replace h := h.2 c136
      refine jx_iload 0 dX11_lay_48 rfl ?_
      refine jx_if_ne (tgt := 56) dX11_lay_50 (by decide) (fun z9 => absurd z9 (by decide)) (fun _ => ?_)
      refine jx_ldc jwC_X11_87 dX11_lay_53 ?_
      exact jx_iret dX11_lay_55 rfl rfl (jle rfl) (jle rfl) ⟨_, rfl, h⟩
    replace h := h.1 c132
    refine jx_iload_n 3 dX11_lay_27 rfl rfl ?_
    refine jx_callSi (M' := mX11_isSheet) (As := [.int x3]) jo_X11_isSheet jwM_X11_314 jwS_X11_isSheet dX11_lay_28 (jRok_m _ _ _) rfl (jle rfl) ⟨jle rfl, jle rfl⟩ (c_X11_isSheet (Q := fun v S' => v = (jissheet x3) ∧ S = S') ⟨rfl, rfl⟩) (fun r137 S138 hq139 => ?_)
    obtain ⟨rfl, rfl⟩ := hq139
    refine jx_if_eq (tgt := 38) dX11_lay_31 (by decide) (fun c140 => ?_) (fun c140 => ?_)
    · replace h := h.1 c140
      refine jx_iconst (v := 0) dX11_lay_38 (by decide) ?_
      refine jx_istore (lv1 := [(4, .int 0), (0, .ref a0), (1, .int x1), (2, .int x2), (3, .int x3)]) dX11_lay_39 (by decide) rfl ?_
      refine jx_iload_n 2 dX11_lay_41 rfl rfl ?_
      refine jx_callSi (M' := mX11_isSlot) (As := [.int x1]) jo_X11_isSlot jwM_X11_329 jwS_X11_isSlot dX11_lay_42 (jRok_m _ _ _) rfl (jle rfl) ⟨jle rfl, jle rfl⟩ (c_X11_isSlot (Q := fun v S' => v = (jisslot x1) ∧ S = S') ⟨rfl, rfl⟩) (fun r141 S142 hq143 => ?_)
      obtain ⟨rfl, rfl⟩ := hq143
      refine jx_if_eq (tgt := 53) dX11_lay_45 (by decide) (fun c144 => ?_) (fun c144 => ?_)
      · replace h := h.1 c144
        refine jx_ldc jwC_X11_87 dX11_lay_53 ?_
        exact jx_iret dX11_lay_55 rfl rfl (jle rfl) (jle rfl) ⟨_, rfl, h⟩
      replace h := h.2 c144
      refine jx_iload 0 dX11_lay_48 rfl ?_
      refine jx_if_ne (tgt := 56) dX11_lay_50 (by decide) (fun z9 => absurd z9 (by decide)) (fun _ => ?_)
      refine jx_ldc jwC_X11_87 dX11_lay_53 ?_
      exact jx_iret dX11_lay_55 rfl rfl (jle rfl) (jle rfl) ⟨_, rfl, h⟩
    replace h := h.2 c140
    refine jx_iconst (v := 1) dX11_lay_34 (by decide) ?_
    refine jx_goto (tgt := 39) dX11_lay_35 (by decide) ?_
    refine jx_istore (lv1 := [(4, .int 1), (0, .ref a0), (1, .int x1), (2, .int x2), (3, .int x3)]) dX11_lay_39 (by decide) rfl ?_
    refine jx_iload_n 2 dX11_lay_41 rfl rfl ?_
    refine jx_callSi (M' := mX11_isSlot) (As := [.int x1]) jo_X11_isSlot jwM_X11_329 jwS_X11_isSlot dX11_lay_42 (jRok_m _ _ _) rfl (jle rfl) ⟨jle rfl, jle rfl⟩ (c_X11_isSlot (Q := fun v S' => v = (jisslot x1) ∧ S = S') ⟨rfl, rfl⟩) (fun r145 S146 hq147 => ?_)
    obtain ⟨rfl, rfl⟩ := hq147
    refine jx_if_eq (tgt := 53) dX11_lay_45 (by decide) (fun c148 => ?_) (fun c148 => ?_)
    · replace h := h.1 c148
      refine jx_ldc jwC_X11_87 dX11_lay_53 ?_
      exact jx_iret dX11_lay_55 rfl rfl (jle rfl) (jle rfl) ⟨_, rfl, h⟩
    replace h := h.2 c148
    refine jx_iload 0 dX11_lay_48 rfl ?_
    refine jx_if_ne (tgt := 56) dX11_lay_50 (by decide) (fun _ => ?_) (fun z9 => absurd z9 (by decide))
    refine jx_iload_n 3 dX11_lay_56 rfl rfl ?_
    refine jx_iconst (v := 2) dX11_lay_57 (by decide) ?_
    refine jx_icmp_ne (tgt := 74) dX11_lay_58 (by decide) (fun z9 => absurd c132 z9) (fun _ => ?_)
    refine jx_aload_n 1 dX11_lay_61 rfl rfl ?_
    obtain ⟨hk149, h⟩ := h
    obtain ⟨b150, hb150, h⟩ := h
    refine jx_getr jc_11 (j := 4) (by decide) rfl jwF_X11_19 dX11_lay_62 hk149 hb150 ?_
    refine jx_iload_n 4 dX11_lay_65 rfl rfl ?_
    obtain ⟨hk151, h⟩ := h
    obtain ⟨hi152, h⟩ := h
    refine jx_iald dX11_lay_66 hk151 hi152 ?_
    refine jx_if_ge (tgt := 74) dX11_lay_67 (by decide) (fun c153 => ?_) (fun c153 => ?_)
    · replace h := h.1 c153
      refine jx_aload_n 1 dX11_lay_74 rfl rfl ?_
      obtain ⟨b154, hb154, h⟩ := h
      refine jx_getr jc_11 (j := 7) (by decide) rfl jwF_X11_28 dX11_lay_75 hk149 hb154 ?_
      refine jx_iload_n 2 dX11_lay_78 rfl rfl ?_
      obtain ⟨hk155, h⟩ := h
      obtain ⟨hi156, h⟩ := h
      refine jx_iald dX11_lay_79 hk155 hi156 ?_
      refine jx_istore (lv1 := [(5, .int (ji S b154 (Int32.toNatClampNeg x1))), (4, .int 1), (0, .ref a0), (1, .int x1), (2, .int x2), (3, .int x3)]) dX11_lay_80 (by decide) rfl ?_
      refine jx_aload_n 2 dX11_lay_82 rfl rfl ?_
      refine jx_getr jc_11 (j := 7) (by decide) rfl jwF_X11_28 dX11_lay_83 hk149 hb154 ?_
      refine jx_iload_n 3 dX11_lay_86 rfl rfl ?_
      refine jx_iload_n 4 dX11_lay_87 rfl rfl ?_
      refine jx_iast dX11_lay_88 hk155 hi156 ?_
      refine jx_aload_n 2 dX11_lay_89 rfl rfl ?_
      obtain ⟨b157, hb157, h⟩ := h
      refine jx_getr jc_11 (j := 8) (by decide) rfl jwF_X11_31 dX11_lay_90 hk149 hb157 ?_
      refine jx_iload_n 3 dX11_lay_93 rfl rfl ?_
      refine jx_iload_n 4 dX11_lay_94 rfl rfl ?_
      refine jx_iconst (v := 1) dX11_lay_95 (by decide) ?_
      refine jx_icmp_ne (tgt := 108) dX11_lay_96 (by decide) (fun _ => ?_) (fun z9 => absurd z9 c131)
      refine jx_iload_n 5 dX11_lay_108 rfl rfl ?_
      obtain ⟨hk158, h⟩ := h
      obtain ⟨hi159, h⟩ := h
      refine jx_iast dX11_lay_109 hk158 hi159 ?_
      refine jx_aload_n 2 dX11_lay_110 rfl rfl ?_
      obtain ⟨b160, hb160, h⟩ := h
      refine jx_getr jc_11 (j := 9) (by decide) rfl jwF_X11_34 dX11_lay_111 hk149 hb160 ?_
      refine jx_iload_n 3 dX11_lay_114 rfl rfl ?_
      refine jx_iload_n 4 dX11_lay_115 rfl rfl ?_
      refine jx_iconst (v := 1) dX11_lay_116 (by decide) ?_
      refine jx_icmp_ne (tgt := 128) dX11_lay_117 (by decide) (fun _ => ?_) (fun z9 => absurd z9 c131)
      refine jx_iconst (v := 0) dX11_lay_128 (by decide) ?_
      obtain ⟨hk161, h⟩ := h
      obtain ⟨hi162, h⟩ := h
      refine jx_iast dX11_lay_129 hk161 hi162 ?_
      refine jx_iload_n 4 dX11_lay_130 rfl rfl ?_
      refine jx_iconst (v := 2) dX11_lay_131 (by decide) ?_
      refine jx_icmp_ne (tgt := 187) dX11_lay_132 (by decide) (fun z9 => absurd c132 z9) (fun _ => ?_)
      refine jx_aload_n 2 dX11_lay_135 rfl rfl ?_
      obtain ⟨b163, hb163, h⟩ := h
      refine jx_getr jc_11 (j := 10) (by decide) rfl jwF_X11_37 dX11_lay_136 hk149 hb163 ?_
      refine jx_iload_n 3 dX11_lay_139 rfl rfl ?_
      refine jx_aload_n 2 dX11_lay_140 rfl rfl ?_
      obtain ⟨b164, hb164, h⟩ := h
      refine jx_getr jc_11 (j := 5) (by decide) rfl jwF_X11_22 dX11_lay_141 hk149 hb164 ?_
      refine jx_iload_n 5 dX11_lay_144 rfl rfl ?_
      obtain ⟨hk165, h⟩ := h
      obtain ⟨hi166, h⟩ := h
      refine jx_iald dX11_lay_145 hk165 hi166 ?_
      obtain ⟨hk167, h⟩ := h
      obtain ⟨hi168, h⟩ := h
      refine jx_iast dX11_lay_146 hk167 hi168 ?_
      refine jx_iconst (v := 0) dX11_lay_147 (by decide) ?_
      refine jx_istore (lv1 := [(6, .int 0), (5, .int (ji S b154 (Int32.toNatClampNeg x1))), (4, .int 1), (0, .ref a0), (1, .int x1), (2, .int x2), (3, .int x3)]) dX11_lay_148 (by decide) rfl ?_
      exact jx_lv [3, 4, 6, 1, 0] rfl h
    replace h := h.2 c153
    refine jx_ldcw jwC_X11_320 dX11_lay_70 ?_
    exact jx_iret dX11_lay_73 rfl rfl (jle rfl) (jle rfl) ⟨_, rfl, h⟩
  replace h := h.1 c131
  refine jx_aload_n 0 dX11_lay_14 rfl rfl ?_
  refine jx_iload_n 3 dX11_lay_15 rfl rfl ?_
  obtain ⟨hk169, h⟩ := h
  refine jx_callVi (M' := mX11_isMaster) (As := [.int x3]) jo_X11_isMaster jc_11 rfl jwM_X11_111 jwN_X11_isMaster jwX_X11_isMaster dX11_lay_16 (jRok_m _ _ _) rfl (jle rfl) ⟨jle rfl, jle rfl⟩ hk169 h (fun r171 S170 h => ?_)
  refine jx_if_ne (tgt := 34) dX11_lay_19 (by decide) (fun c172 => ?_) (fun c172 => ?_)
  · replace h := h.2 c172
    refine jx_iconst (v := 1) dX11_lay_34 (by decide) ?_
    refine jx_goto (tgt := 39) dX11_lay_35 (by decide) ?_
    refine jx_istore (lv1 := [(4, .int 1), (0, .ref a0), (1, .int x1), (2, .int x2), (3, .int x3)]) dX11_lay_39 (by decide) rfl ?_
    refine jx_iload_n 2 dX11_lay_41 rfl rfl ?_
    refine jx_callSi (M' := mX11_isSlot) (As := [.int x1]) jo_X11_isSlot jwM_X11_329 jwS_X11_isSlot dX11_lay_42 (jRok_m _ _ _) rfl (jle rfl) ⟨jle rfl, jle rfl⟩ (c_X11_isSlot (Q := fun v S' => v = (jisslot x1) ∧ S170 = S') ⟨rfl, rfl⟩) (fun r173 S174 hq175 => ?_)
    obtain ⟨rfl, rfl⟩ := hq175
    refine jx_if_eq (tgt := 53) dX11_lay_45 (by decide) (fun c176 => ?_) (fun c176 => ?_)
    · replace h := h.1 c176
      refine jx_ldc jwC_X11_87 dX11_lay_53 ?_
      exact jx_iret dX11_lay_55 rfl rfl (jle rfl) (jle rfl) ⟨_, rfl, h⟩
    replace h := h.2 c176
    refine jx_iload 0 dX11_lay_48 rfl ?_
    refine jx_if_ne (tgt := 56) dX11_lay_50 (by decide) (fun _ => ?_) (fun z9 => absurd z9 (by decide))
    refine jx_iload_n 3 dX11_lay_56 rfl rfl ?_
    refine jx_iconst (v := 2) dX11_lay_57 (by decide) ?_
    refine jx_icmp_ne (tgt := 74) dX11_lay_58 (by decide) (fun c177 => ?_) (fun c177 => ?_)
    · replace h := h.2 c177
      refine jx_aload_n 1 dX11_lay_74 rfl rfl ?_
      obtain ⟨hk178, h⟩ := h
      obtain ⟨b179, hb179, h⟩ := h
      refine jx_getr jc_11 (j := 7) (by decide) rfl jwF_X11_28 dX11_lay_75 hk178 hb179 ?_
      refine jx_iload_n 2 dX11_lay_78 rfl rfl ?_
      obtain ⟨hk180, h⟩ := h
      obtain ⟨hi181, h⟩ := h
      refine jx_iald dX11_lay_79 hk180 hi181 ?_
      refine jx_istore (lv1 := [(5, .int (ji S170 b179 (Int32.toNatClampNeg x1))), (4, .int 1), (0, .ref a0), (1, .int x1), (2, .int x2), (3, .int x3)]) dX11_lay_80 (by decide) rfl ?_
      refine jx_aload_n 2 dX11_lay_82 rfl rfl ?_
      refine jx_getr jc_11 (j := 7) (by decide) rfl jwF_X11_28 dX11_lay_83 hk178 hb179 ?_
      refine jx_iload_n 3 dX11_lay_86 rfl rfl ?_
      refine jx_iload_n 4 dX11_lay_87 rfl rfl ?_
      refine jx_iast dX11_lay_88 hk180 hi181 ?_
      refine jx_aload_n 2 dX11_lay_89 rfl rfl ?_
      obtain ⟨b182, hb182, h⟩ := h
      refine jx_getr jc_11 (j := 8) (by decide) rfl jwF_X11_31 dX11_lay_90 hk178 hb182 ?_
      refine jx_iload_n 3 dX11_lay_93 rfl rfl ?_
      refine jx_iload_n 4 dX11_lay_94 rfl rfl ?_
      refine jx_iconst (v := 1) dX11_lay_95 (by decide) ?_
      refine jx_icmp_ne (tgt := 108) dX11_lay_96 (by decide) (fun z9 => absurd c131 z9) (fun _ => ?_)
      refine jx_aload_n 2 dX11_lay_99 rfl rfl ?_
      refine jx_iload_n 5 dX11_lay_100 rfl rfl ?_
      refine jx_iconst (v := 0) dX11_lay_101 (by decide) ?_
      refine jx_callVi (M' := mX11_of) (As := [.int x3, .int 0]) jo_X11_of jc_11 rfl jwM_X11_97 jwN_X11_of jwX_X11_of dX11_lay_102 (jRok_m _ _ _) rfl (jle rfl) ⟨jle rfl, jle rfl⟩ hk178 h (fun r184 S183 h => ?_)
      refine jx_goto (tgt := 109) dX11_lay_105 (by decide) ?_
      obtain ⟨hk185, h⟩ := h
      obtain ⟨hi186, h⟩ := h
      refine jx_iast dX11_lay_109 hk185 hi186 ?_
      refine jx_aload_n 2 dX11_lay_110 rfl rfl ?_
      obtain ⟨hk187, h⟩ := h
      obtain ⟨b188, hb188, h⟩ := h
      refine jx_getr jc_11 (j := 9) (by decide) rfl jwF_X11_34 dX11_lay_111 hk187 hb188 ?_
      refine jx_iload_n 3 dX11_lay_114 rfl rfl ?_
      refine jx_iload_n 4 dX11_lay_115 rfl rfl ?_
      refine jx_iconst (v := 1) dX11_lay_116 (by decide) ?_
      refine jx_icmp_ne (tgt := 128) dX11_lay_117 (by decide) (fun z9 => absurd c131 z9) (fun _ => ?_)
      refine jx_aload_n 2 dX11_lay_120 rfl rfl ?_
      refine jx_iload_n 5 dX11_lay_121 rfl rfl ?_
      refine jx_callVi (M' := mX11_worth) (As := [.int x3]) jo_X11_worth jc_11 rfl jwM_X11_119 jwN_X11_worth jwX_X11_worth dX11_lay_122 (jRok_m _ _ _) rfl (jle rfl) ⟨jle rfl, jle rfl⟩ hk187 h (fun r190 S189 h => ?_)
      refine jx_goto (tgt := 129) dX11_lay_125 (by decide) ?_
      obtain ⟨hk191, h⟩ := h
      obtain ⟨hi192, h⟩ := h
      refine jx_iast dX11_lay_129 hk191 hi192 ?_
      refine jx_iload_n 4 dX11_lay_130 rfl rfl ?_
      refine jx_iconst (v := 2) dX11_lay_131 (by decide) ?_
      refine jx_icmp_ne (tgt := 187) dX11_lay_132 (by decide) (fun _ => ?_) (fun z9 => absurd z9 c177)
      refine jx_iload 0 dX11_lay_187 rfl ?_
      exact jx_iret dX11_lay_189 rfl rfl (jle rfl) (jle rfl) ⟨_, rfl, h⟩
    replace h := h.1 c177
    refine jx_aload_n 1 dX11_lay_61 rfl rfl ?_
    obtain ⟨hk193, h⟩ := h
    obtain ⟨b194, hb194, h⟩ := h
    refine jx_getr jc_11 (j := 4) (by decide) rfl jwF_X11_19 dX11_lay_62 hk193 hb194 ?_
    refine jx_iload_n 4 dX11_lay_65 rfl rfl ?_
    obtain ⟨hk195, h⟩ := h
    obtain ⟨hi196, h⟩ := h
    refine jx_iald dX11_lay_66 hk195 hi196 ?_
    refine jx_if_ge (tgt := 74) dX11_lay_67 (by decide) (fun c197 => ?_) (fun c197 => ?_)
    · replace h := h.1 c197
      refine jx_aload_n 1 dX11_lay_74 rfl rfl ?_
      obtain ⟨b198, hb198, h⟩ := h
      refine jx_getr jc_11 (j := 7) (by decide) rfl jwF_X11_28 dX11_lay_75 hk193 hb198 ?_
      refine jx_iload_n 2 dX11_lay_78 rfl rfl ?_
      obtain ⟨hk199, h⟩ := h
      obtain ⟨hi200, h⟩ := h
      refine jx_iald dX11_lay_79 hk199 hi200 ?_
      refine jx_istore (lv1 := [(5, .int (ji S170 b198 (Int32.toNatClampNeg x1))), (4, .int 1), (0, .ref a0), (1, .int x1), (2, .int x2), (3, .int x3)]) dX11_lay_80 (by decide) rfl ?_
      refine jx_aload_n 2 dX11_lay_82 rfl rfl ?_
      refine jx_getr jc_11 (j := 7) (by decide) rfl jwF_X11_28 dX11_lay_83 hk193 hb198 ?_
      refine jx_iload_n 3 dX11_lay_86 rfl rfl ?_
      refine jx_iload_n 4 dX11_lay_87 rfl rfl ?_
      refine jx_iast dX11_lay_88 hk199 hi200 ?_
      refine jx_aload_n 2 dX11_lay_89 rfl rfl ?_
      obtain ⟨b201, hb201, h⟩ := h
      refine jx_getr jc_11 (j := 8) (by decide) rfl jwF_X11_31 dX11_lay_90 hk193 hb201 ?_
      refine jx_iload_n 3 dX11_lay_93 rfl rfl ?_
      refine jx_iload_n 4 dX11_lay_94 rfl rfl ?_
      refine jx_iconst (v := 1) dX11_lay_95 (by decide) ?_
      refine jx_icmp_ne (tgt := 108) dX11_lay_96 (by decide) (fun z9 => absurd c131 z9) (fun _ => ?_)
      refine jx_aload_n 2 dX11_lay_99 rfl rfl ?_
      refine jx_iload_n 5 dX11_lay_100 rfl rfl ?_
      refine jx_iconst (v := 0) dX11_lay_101 (by decide) ?_
      refine jx_callVi (M' := mX11_of) (As := [.int x3, .int 0]) jo_X11_of jc_11 rfl jwM_X11_97 jwN_X11_of jwX_X11_of dX11_lay_102 (jRok_m _ _ _) rfl (jle rfl) ⟨jle rfl, jle rfl⟩ hk193 h (fun r203 S202 h => ?_)
      refine jx_goto (tgt := 109) dX11_lay_105 (by decide) ?_
      obtain ⟨hk204, h⟩ := h
      obtain ⟨hi205, h⟩ := h
      refine jx_iast dX11_lay_109 hk204 hi205 ?_
      refine jx_aload_n 2 dX11_lay_110 rfl rfl ?_
      obtain ⟨hk206, h⟩ := h
      obtain ⟨b207, hb207, h⟩ := h
      refine jx_getr jc_11 (j := 9) (by decide) rfl jwF_X11_34 dX11_lay_111 hk206 hb207 ?_
      refine jx_iload_n 3 dX11_lay_114 rfl rfl ?_
      refine jx_iload_n 4 dX11_lay_115 rfl rfl ?_
      refine jx_iconst (v := 1) dX11_lay_116 (by decide) ?_
      refine jx_icmp_ne (tgt := 128) dX11_lay_117 (by decide) (fun z9 => absurd c131 z9) (fun _ => ?_)
      refine jx_aload_n 2 dX11_lay_120 rfl rfl ?_
      refine jx_iload_n 5 dX11_lay_121 rfl rfl ?_
      refine jx_callVi (M' := mX11_worth) (As := [.int x3]) jo_X11_worth jc_11 rfl jwM_X11_119 jwN_X11_worth jwX_X11_worth dX11_lay_122 (jRok_m _ _ _) rfl (jle rfl) ⟨jle rfl, jle rfl⟩ hk206 h (fun r209 S208 h => ?_)
      refine jx_goto (tgt := 129) dX11_lay_125 (by decide) ?_
      obtain ⟨hk210, h⟩ := h
      obtain ⟨hi211, h⟩ := h
      refine jx_iast dX11_lay_129 hk210 hi211 ?_
      refine jx_iload_n 4 dX11_lay_130 rfl rfl ?_
      refine jx_iconst (v := 2) dX11_lay_131 (by decide) ?_
      refine jx_icmp_ne (tgt := 187) dX11_lay_132 (by decide) (fun z9 => absurd c177 z9) (fun _ => ?_)
      refine jx_aload_n 2 dX11_lay_135 rfl rfl ?_
      obtain ⟨hk212, h⟩ := h
      obtain ⟨b213, hb213, h⟩ := h
      refine jx_getr jc_11 (j := 10) (by decide) rfl jwF_X11_37 dX11_lay_136 hk212 hb213 ?_
      refine jx_iload_n 3 dX11_lay_139 rfl rfl ?_
      refine jx_aload_n 2 dX11_lay_140 rfl rfl ?_
      obtain ⟨b214, hb214, h⟩ := h
      refine jx_getr jc_11 (j := 5) (by decide) rfl jwF_X11_22 dX11_lay_141 hk212 hb214 ?_
      refine jx_iload_n 5 dX11_lay_144 rfl rfl ?_
      obtain ⟨hk215, h⟩ := h
      obtain ⟨hi216, h⟩ := h
      refine jx_iald dX11_lay_145 hk215 hi216 ?_
      obtain ⟨hk217, h⟩ := h
      obtain ⟨hi218, h⟩ := h
      refine jx_iast dX11_lay_146 hk217 hi218 ?_
      refine jx_iconst (v := 0) dX11_lay_147 (by decide) ?_
      refine jx_istore (lv1 := [(6, .int 0), (5, .int (ji S170 b198 (Int32.toNatClampNeg x1))), (4, .int 1), (0, .ref a0), (1, .int x1), (2, .int x2), (3, .int x3)]) dX11_lay_148 (by decide) rfl ?_
      exact jx_lv [3, 4, 6, 1, 0] rfl h
    replace h := h.2 c197
    refine jx_ldcw jwC_X11_320 dX11_lay_70 ?_
    exact jx_iret dX11_lay_73 rfl rfl (jle rfl) (jle rfl) ⟨_, rfl, h⟩
  replace h := h.1 c172
  refine jx_iload_n 2 dX11_lay_22 rfl rfl ?_
  refine jx_iconst (v := 2) dX11_lay_23 (by decide) ?_
  refine jx_icmp_ne (tgt := 38) dX11_lay_24 (by decide) (fun c219 => ?_) (fun c219 => ?_)
  · replace h := h.2 c219
    refine jx_iconst (v := 0) dX11_lay_38 (by decide) ?_
    refine jx_istore (lv1 := [(4, .int 0), (0, .ref a0), (1, .int x1), (2, .int x2), (3, .int x3)]) dX11_lay_39 (by decide) rfl ?_
    refine jx_iload_n 2 dX11_lay_41 rfl rfl ?_
    refine jx_callSi (M' := mX11_isSlot) (As := [.int x1]) jo_X11_isSlot jwM_X11_329 jwS_X11_isSlot dX11_lay_42 (jRok_m _ _ _) rfl (jle rfl) ⟨jle rfl, jle rfl⟩ (c_X11_isSlot (Q := fun v S' => v = (jisslot x1) ∧ S170 = S') ⟨rfl, rfl⟩) (fun r220 S221 hq222 => ?_)
    obtain ⟨rfl, rfl⟩ := hq222
    refine jx_if_eq (tgt := 53) dX11_lay_45 (by decide) (fun c223 => ?_) (fun c223 => ?_)
    · replace h := h.1 c223
      refine jx_ldc jwC_X11_87 dX11_lay_53 ?_
      exact jx_iret dX11_lay_55 rfl rfl (jle rfl) (jle rfl) ⟨_, rfl, h⟩
    replace h := h.2 c223
    refine jx_iload 0 dX11_lay_48 rfl ?_
    refine jx_if_ne (tgt := 56) dX11_lay_50 (by decide) (fun z9 => absurd z9 (by decide)) (fun _ => ?_)
    refine jx_ldc jwC_X11_87 dX11_lay_53 ?_
    exact jx_iret dX11_lay_55 rfl rfl (jle rfl) (jle rfl) ⟨_, rfl, h⟩
  replace h := h.1 c219
  refine jx_iload_n 3 dX11_lay_27 rfl rfl ?_
  refine jx_callSi (M' := mX11_isSheet) (As := [.int x3]) jo_X11_isSheet jwM_X11_314 jwS_X11_isSheet dX11_lay_28 (jRok_m _ _ _) rfl (jle rfl) ⟨jle rfl, jle rfl⟩ (c_X11_isSheet (Q := fun v S' => v = (jissheet x3) ∧ S170 = S') ⟨rfl, rfl⟩) (fun r224 S225 hq226 => ?_)
  obtain ⟨rfl, rfl⟩ := hq226
  refine jx_if_eq (tgt := 38) dX11_lay_31 (by decide) (fun c227 => ?_) (fun c227 => ?_)
  · replace h := h.1 c227
    refine jx_iconst (v := 0) dX11_lay_38 (by decide) ?_
    refine jx_istore (lv1 := [(4, .int 0), (0, .ref a0), (1, .int x1), (2, .int x2), (3, .int x3)]) dX11_lay_39 (by decide) rfl ?_
    refine jx_iload_n 2 dX11_lay_41 rfl rfl ?_
    refine jx_callSi (M' := mX11_isSlot) (As := [.int x1]) jo_X11_isSlot jwM_X11_329 jwS_X11_isSlot dX11_lay_42 (jRok_m _ _ _) rfl (jle rfl) ⟨jle rfl, jle rfl⟩ (c_X11_isSlot (Q := fun v S' => v = (jisslot x1) ∧ S170 = S') ⟨rfl, rfl⟩) (fun r228 S229 hq230 => ?_)
    obtain ⟨rfl, rfl⟩ := hq230
    refine jx_if_eq (tgt := 53) dX11_lay_45 (by decide) (fun c231 => ?_) (fun c231 => ?_)
    · replace h := h.1 c231
      refine jx_ldc jwC_X11_87 dX11_lay_53 ?_
      exact jx_iret dX11_lay_55 rfl rfl (jle rfl) (jle rfl) ⟨_, rfl, h⟩
    replace h := h.2 c231
    refine jx_iload 0 dX11_lay_48 rfl ?_
    refine jx_if_ne (tgt := 56) dX11_lay_50 (by decide) (fun z9 => absurd z9 (by decide)) (fun _ => ?_)
    refine jx_ldc jwC_X11_87 dX11_lay_53 ?_
    exact jx_iret dX11_lay_55 rfl rfl (jle rfl) (jle rfl) ⟨_, rfl, h⟩
  replace h := h.2 c227
  refine jx_iconst (v := 1) dX11_lay_34 (by decide) ?_
  refine jx_goto (tgt := 39) dX11_lay_35 (by decide) ?_
  refine jx_istore (lv1 := [(4, .int 1), (0, .ref a0), (1, .int x1), (2, .int x2), (3, .int x3)]) dX11_lay_39 (by decide) rfl ?_
  refine jx_iload_n 2 dX11_lay_41 rfl rfl ?_
  refine jx_callSi (M' := mX11_isSlot) (As := [.int x1]) jo_X11_isSlot jwM_X11_329 jwS_X11_isSlot dX11_lay_42 (jRok_m _ _ _) rfl (jle rfl) ⟨jle rfl, jle rfl⟩ (c_X11_isSlot (Q := fun v S' => v = (jisslot x1) ∧ S170 = S') ⟨rfl, rfl⟩) (fun r232 S233 hq234 => ?_)
  obtain ⟨rfl, rfl⟩ := hq234
  refine jx_if_eq (tgt := 53) dX11_lay_45 (by decide) (fun c235 => ?_) (fun c235 => ?_)
  · replace h := h.1 c235
    refine jx_ldc jwC_X11_87 dX11_lay_53 ?_
    exact jx_iret dX11_lay_55 rfl rfl (jle rfl) (jle rfl) ⟨_, rfl, h⟩
  replace h := h.2 c235
  refine jx_iload 0 dX11_lay_48 rfl ?_
  refine jx_if_ne (tgt := 56) dX11_lay_50 (by decide) (fun _ => ?_) (fun z9 => absurd z9 (by decide))
  refine jx_iload_n 3 dX11_lay_56 rfl rfl ?_
  refine jx_iconst (v := 2) dX11_lay_57 (by decide) ?_
  refine jx_icmp_ne (tgt := 74) dX11_lay_58 (by decide) (fun z9 => absurd c219 z9) (fun _ => ?_)
  refine jx_aload_n 1 dX11_lay_61 rfl rfl ?_
  obtain ⟨hk236, h⟩ := h
  obtain ⟨b237, hb237, h⟩ := h
  refine jx_getr jc_11 (j := 4) (by decide) rfl jwF_X11_19 dX11_lay_62 hk236 hb237 ?_
  refine jx_iload_n 4 dX11_lay_65 rfl rfl ?_
  obtain ⟨hk238, h⟩ := h
  obtain ⟨hi239, h⟩ := h
  refine jx_iald dX11_lay_66 hk238 hi239 ?_
  refine jx_if_ge (tgt := 74) dX11_lay_67 (by decide) (fun c240 => ?_) (fun c240 => ?_)
  · replace h := h.1 c240
    refine jx_aload_n 1 dX11_lay_74 rfl rfl ?_
    obtain ⟨b241, hb241, h⟩ := h
    refine jx_getr jc_11 (j := 7) (by decide) rfl jwF_X11_28 dX11_lay_75 hk236 hb241 ?_
    refine jx_iload_n 2 dX11_lay_78 rfl rfl ?_
    obtain ⟨hk242, h⟩ := h
    obtain ⟨hi243, h⟩ := h
    refine jx_iald dX11_lay_79 hk242 hi243 ?_
    refine jx_istore (lv1 := [(5, .int (ji S170 b241 (Int32.toNatClampNeg x1))), (4, .int 1), (0, .ref a0), (1, .int x1), (2, .int x2), (3, .int x3)]) dX11_lay_80 (by decide) rfl ?_
    refine jx_aload_n 2 dX11_lay_82 rfl rfl ?_
    refine jx_getr jc_11 (j := 7) (by decide) rfl jwF_X11_28 dX11_lay_83 hk236 hb241 ?_
    refine jx_iload_n 3 dX11_lay_86 rfl rfl ?_
    refine jx_iload_n 4 dX11_lay_87 rfl rfl ?_
    refine jx_iast dX11_lay_88 hk242 hi243 ?_
    refine jx_aload_n 2 dX11_lay_89 rfl rfl ?_
    obtain ⟨b244, hb244, h⟩ := h
    refine jx_getr jc_11 (j := 8) (by decide) rfl jwF_X11_31 dX11_lay_90 hk236 hb244 ?_
    refine jx_iload_n 3 dX11_lay_93 rfl rfl ?_
    refine jx_iload_n 4 dX11_lay_94 rfl rfl ?_
    refine jx_iconst (v := 1) dX11_lay_95 (by decide) ?_
    refine jx_icmp_ne (tgt := 108) dX11_lay_96 (by decide) (fun z9 => absurd c131 z9) (fun _ => ?_)
    refine jx_aload_n 2 dX11_lay_99 rfl rfl ?_
    refine jx_iload_n 5 dX11_lay_100 rfl rfl ?_
    refine jx_iconst (v := 0) dX11_lay_101 (by decide) ?_
    refine jx_callVi (M' := mX11_of) (As := [.int x3, .int 0]) jo_X11_of jc_11 rfl jwM_X11_97 jwN_X11_of jwX_X11_of dX11_lay_102 (jRok_m _ _ _) rfl (jle rfl) ⟨jle rfl, jle rfl⟩ hk236 h (fun r246 S245 h => ?_)
    refine jx_goto (tgt := 109) dX11_lay_105 (by decide) ?_
    obtain ⟨hk247, h⟩ := h
    obtain ⟨hi248, h⟩ := h
    refine jx_iast dX11_lay_109 hk247 hi248 ?_
    refine jx_aload_n 2 dX11_lay_110 rfl rfl ?_
    obtain ⟨hk249, h⟩ := h
    obtain ⟨b250, hb250, h⟩ := h
    refine jx_getr jc_11 (j := 9) (by decide) rfl jwF_X11_34 dX11_lay_111 hk249 hb250 ?_
    refine jx_iload_n 3 dX11_lay_114 rfl rfl ?_
    refine jx_iload_n 4 dX11_lay_115 rfl rfl ?_
    refine jx_iconst (v := 1) dX11_lay_116 (by decide) ?_
    refine jx_icmp_ne (tgt := 128) dX11_lay_117 (by decide) (fun z9 => absurd c131 z9) (fun _ => ?_)
    refine jx_aload_n 2 dX11_lay_120 rfl rfl ?_
    refine jx_iload_n 5 dX11_lay_121 rfl rfl ?_
    refine jx_callVi (M' := mX11_worth) (As := [.int x3]) jo_X11_worth jc_11 rfl jwM_X11_119 jwN_X11_worth jwX_X11_worth dX11_lay_122 (jRok_m _ _ _) rfl (jle rfl) ⟨jle rfl, jle rfl⟩ hk249 h (fun r252 S251 h => ?_)
    refine jx_goto (tgt := 129) dX11_lay_125 (by decide) ?_
    obtain ⟨hk253, h⟩ := h
    obtain ⟨hi254, h⟩ := h
    refine jx_iast dX11_lay_129 hk253 hi254 ?_
    refine jx_iload_n 4 dX11_lay_130 rfl rfl ?_
    refine jx_iconst (v := 2) dX11_lay_131 (by decide) ?_
    refine jx_icmp_ne (tgt := 187) dX11_lay_132 (by decide) (fun z9 => absurd c219 z9) (fun _ => ?_)
    refine jx_aload_n 2 dX11_lay_135 rfl rfl ?_
    obtain ⟨hk255, h⟩ := h
    obtain ⟨b256, hb256, h⟩ := h
    refine jx_getr jc_11 (j := 10) (by decide) rfl jwF_X11_37 dX11_lay_136 hk255 hb256 ?_
    refine jx_iload_n 3 dX11_lay_139 rfl rfl ?_
    refine jx_aload_n 2 dX11_lay_140 rfl rfl ?_
    obtain ⟨b257, hb257, h⟩ := h
    refine jx_getr jc_11 (j := 5) (by decide) rfl jwF_X11_22 dX11_lay_141 hk255 hb257 ?_
    refine jx_iload_n 5 dX11_lay_144 rfl rfl ?_
    obtain ⟨hk258, h⟩ := h
    obtain ⟨hi259, h⟩ := h
    refine jx_iald dX11_lay_145 hk258 hi259 ?_
    obtain ⟨hk260, h⟩ := h
    obtain ⟨hi261, h⟩ := h
    refine jx_iast dX11_lay_146 hk260 hi261 ?_
    refine jx_iconst (v := 0) dX11_lay_147 (by decide) ?_
    refine jx_istore (lv1 := [(6, .int 0), (5, .int (ji S170 b241 (Int32.toNatClampNeg x1))), (4, .int 1), (0, .ref a0), (1, .int x1), (2, .int x2), (3, .int x3)]) dX11_lay_148 (by decide) rfl ?_
    exact jx_lv [3, 4, 6, 1, 0] rfl h
  replace h := h.2 c240
  refine jx_ldcw jwC_X11_320 dX11_lay_70 ?_
  exact jx_iret dX11_lay_73 rfl rfl (jle rfl) (jle rfl) ⟨_, rfl, h⟩
set_option maxRecDepth 100000 in
set_option maxHeartbeats 4000000 in
theorem T_X11_lay_150 {E : jEnv} {d : Nat} {Q : Int32 → jM → Prop} {a0 : Nat} {x1 : Int32} {x3 : Int32} {x5 : Int32} {x6 : Int32} {S : jM} (h : (24 ≤ x6 → Q x5 S) ∧ (¬ 24 ≤ x6 → jk S a0 = 11 ∧ ∃ b264, jr S a0 11 = some b264 ∧ (∃ b265, jr S a0 6 = some b265 ∧ (jk S b265 = 12 ∧ vp_in ((24 * x3) + x6) (jl S b265) ∧ (jk S b264 = 12 ∧ vp_in ((24 * x1) + x6) (jl S b264) ∧ (L_X11_lay_150 E d Q a0 x1 x3 x5 (x6 + 1) (jput S b264 (Int32.toNatClampNeg ((24 * x1) + x6)) (ji S b265 (Int32.toNatClampNeg ((24 * x3) + x6)))))))))) : L_X11_lay_150 E d Q a0 x1 x3 x5 x6 S := by
  show jX E mX11_lay (jRm (d + 2) 0 0) (jZm E (fun r S' => ∃ v : Int32, r = some (.int v) ∧ Q v S') 0 0) 150 [(0, .ref a0), (1, .int x1), (3, .int x3), (5, .int x5), (6, .int x6)] [] S 0 0
  refine jx_iload 4 dX11_lay_150 rfl ?_
  refine jx_bipush (v := 24) dX11_lay_152 (by decide) ?_
  refine jx_icmp_ge (tgt := 187) dX11_lay_154 (by decide) (fun c262 => ?_) (fun c262 => ?_)
  · replace h := h.1 c262
    refine jx_iload 3 dX11_lay_187 rfl ?_
    exact jx_iret dX11_lay_189 rfl rfl (jle rfl) (jle rfl) ⟨_, rfl, h⟩
  replace h := h.2 c262
  refine jx_aload_n 0 dX11_lay_157 rfl rfl ?_
  obtain ⟨hk263, h⟩ := h
  obtain ⟨b264, hb264, h⟩ := h
  refine jx_getr jc_11 (j := 11) (by decide) rfl jwF_X11_40 dX11_lay_158 hk263 hb264 ?_
  refine jx_bipush (v := 24) dX11_lay_161 (by decide) ?_
  refine jx_iload_n 1 dX11_lay_163 rfl rfl ?_
  refine jx_imul dX11_lay_164 ?_
  refine jx_iload 4 dX11_lay_165 rfl ?_
  refine jx_iadd dX11_lay_167 ?_
  refine jx_aload_n 0 dX11_lay_168 rfl rfl ?_
  obtain ⟨b265, hb265, h⟩ := h
  refine jx_getr jc_11 (j := 6) (by decide) rfl jwF_X11_25 dX11_lay_169 hk263 hb265 ?_
  refine jx_bipush (v := 24) dX11_lay_172 (by decide) ?_
  refine jx_iload_n 2 dX11_lay_174 rfl rfl ?_
  refine jx_imul dX11_lay_175 ?_
  refine jx_iload 4 dX11_lay_176 rfl ?_
  refine jx_iadd dX11_lay_178 ?_
  obtain ⟨hk266, h⟩ := h
  obtain ⟨hi267, h⟩ := h
  refine jx_iald dX11_lay_179 hk266 hi267 ?_
  obtain ⟨hk268, h⟩ := h
  obtain ⟨hi269, h⟩ := h
  refine jx_iast dX11_lay_180 hk268 hi269 ?_
  refine jx_iinc 4 (v := (x6 + 1)) (lv1 := [(6, .int (x6 + 1)), (0, .ref a0), (1, .int x1), (3, .int x3), (5, .int x5)]) dX11_lay_181 rfl rfl (by decide) rfl ?_
  refine jx_goto (tgt := 150) dX11_lay_184 (by decide) ?_
  exact jx_lv [1, 2, 3, 4, 0] rfl h
set_option maxRecDepth 100000 in
set_option maxHeartbeats 4000000 in
theorem T_X11_ask {E : jEnv} {d : Nat} {Q : Int32 → jM → Prop} {a0 : Nat} {x1 : Int32} {x2 : Int32} {S : jM} (h : ((jisslot x1) = 0 → Q (-1000000001) S) ∧ (¬ (jisslot x1) = 0 → ((jisin (Int32.toInt64 x2) 0 5) = 0 → Q (-1000000001) S) ∧ (¬ (jisin (Int32.toInt64 x2) 0 5) = 0 → jk S a0 = 11 ∧ ∃ b10, jr S a0 7 = some b10 ∧ (jk S b10 = 12 ∧ vp_in x1 (jl S b10) ∧ (((ji S b10 (Int32.toNatClampNeg x1)) = 0 → Q (-1000000011) S) ∧ (¬ (ji S b10 (Int32.toNatClampNeg x1)) = 0 → (((ji S b10 (Int32.toNatClampNeg x1)) = 1 → ∃ b15, jr S a0 8 = some b15 ∧ (jk S b15 = 12 ∧ vp_in x1 (jl S b15) ∧ (((jisof (ji S b15 (Int32.toNatClampNeg x1)) x2) = 0 → Q (-1000000012) S) ∧ (¬ (jisof (ji S b15 (Int32.toNatClampNeg x1)) x2) = 0 → ∃ b22, jr S a0 9 = some b22 ∧ (jk S b22 = 12 ∧ vp_in x1 (jl S b22) ∧ (Q (ji S b22 (Int32.toNatClampNeg x1)) S)))))) ∧ (¬ (ji S b10 (Int32.toNatClampNeg x1)) = 1 → Q (-1000000012) S)))))))) : jFi E mX11_ask (d + 2) 0 0 [.ref a0, .int x1, .int x2] S Q := by
  refine jF_of (by decide) (jle rfl) ?_
  refine jx_lv (lv1 := [(0, .ref a0), (1, .int x1), (2, .int x2)]) [0, 1, 2] rfl ?_
  refine jx_iload_n 1 dX11_ask_0 rfl rfl ?_
  refine jx_callSi (M' := mX11_isSlot) (As := [.int x1]) jo_X11_isSlot jwM_X11_329 jwS_X11_isSlot dX11_ask_1 (jRok_m _ _ _) rfl (jle rfl) ⟨jle rfl, jle rfl⟩ (c_X11_isSlot (Q := fun v S' => v = (jisslot x1) ∧ S = S') ⟨rfl, rfl⟩) (fun r1 S2 hq3 => ?_)
  obtain ⟨rfl, rfl⟩ := hq3
  refine jx_if_eq (tgt := 19) dX11_ask_4 (by decide) (fun c4 => ?_) (fun c4 => ?_)
  · replace h := h.1 c4
    refine jx_ldc jwC_X11_87 dX11_ask_19 ?_
    exact jx_iret dX11_ask_21 rfl rfl (jle rfl) (jle rfl) ⟨_, rfl, h⟩
  replace h := h.2 c4
  refine jx_iload_n 2 dX11_ask_7 rfl rfl ?_
  refine jx_i2l dX11_ask_8 ?_
  refine jx_lconst (v := 0) dX11_ask_9 (by decide) ?_
  refine jx_ldc2 jwL_X11_76 dX11_ask_10 ?_
  refine jx_callSi (M' := mX11_isIn) (As := [.long (Int32.toInt64 x2), .long 0, .long 5]) jo_X11_isIn jwM_X11_71 jwS_X11_isIn dX11_ask_13 (jRok_m _ _ _) rfl (jle rfl) ⟨jle rfl, jle rfl⟩ (c_X11_isIn (Q := fun v S' => v = (jisin (Int32.toInt64 x2) 0 5) ∧ S = S') ⟨rfl, rfl⟩) (fun r5 S6 hq7 => ?_)
  obtain ⟨rfl, rfl⟩ := hq7
  refine jx_if_ne (tgt := 22) dX11_ask_16 (by decide) (fun c8 => ?_) (fun c8 => ?_)
  · replace h := h.2 c8
    refine jx_aload_n 0 dX11_ask_22 rfl rfl ?_
    obtain ⟨hk9, h⟩ := h
    obtain ⟨b10, hb10, h⟩ := h
    refine jx_getr jc_11 (j := 7) (by decide) rfl jwF_X11_28 dX11_ask_23 hk9 hb10 ?_
    refine jx_iload_n 1 dX11_ask_26 rfl rfl ?_
    obtain ⟨hk11, h⟩ := h
    obtain ⟨hi12, h⟩ := h
    refine jx_iald dX11_ask_27 hk11 hi12 ?_
    refine jx_if_ne (tgt := 35) dX11_ask_28 (by decide) (fun c13 => ?_) (fun c13 => ?_)
    · replace h := h.2 c13
      refine jx_aload_n 0 dX11_ask_35 rfl rfl ?_
      refine jx_getr jc_11 (j := 7) (by decide) rfl jwF_X11_28 dX11_ask_36 hk9 hb10 ?_
      refine jx_iload_n 1 dX11_ask_39 rfl rfl ?_
      refine jx_iald dX11_ask_40 hk11 hi12 ?_
      refine jx_iconst (v := 1) dX11_ask_41 (by decide) ?_
      refine jx_icmp_ne (tgt := 67) dX11_ask_42 (by decide) (fun c14 => ?_) (fun c14 => ?_)
      · replace h := h.2 c14
        refine jx_ldc jwC_X11_129 dX11_ask_67 ?_
        exact jx_iret dX11_ask_69 rfl rfl (jle rfl) (jle rfl) ⟨_, rfl, h⟩
      replace h := h.1 c14
      refine jx_aload_n 0 dX11_ask_45 rfl rfl ?_
      obtain ⟨b15, hb15, h⟩ := h
      refine jx_getr jc_11 (j := 8) (by decide) rfl jwF_X11_31 dX11_ask_46 hk9 hb15 ?_
      refine jx_iload_n 1 dX11_ask_49 rfl rfl ?_
      obtain ⟨hk16, h⟩ := h
      obtain ⟨hi17, h⟩ := h
      refine jx_iald dX11_ask_50 hk16 hi17 ?_
      refine jx_iload_n 2 dX11_ask_51 rfl rfl ?_
      refine jx_callSi (M' := mX11_isOf) (As := [.int (ji S b15 (Int32.toNatClampNeg x1)), .int x2]) jo_X11_isOf jwM_X11_126 jwS_X11_isOf dX11_ask_52 (jRok_m _ _ _) rfl (jle rfl) ⟨jle rfl, jle rfl⟩ (c_X11_isOf (Q := fun v S' => v = (jisof (ji S b15 (Int32.toNatClampNeg x1)) x2) ∧ S = S') ⟨rfl, rfl⟩) (fun r18 S19 hq20 => ?_)
      obtain ⟨rfl, rfl⟩ := hq20
      refine jx_if_eq (tgt := 67) dX11_ask_55 (by decide) (fun c21 => ?_) (fun c21 => ?_)
      · replace h := h.1 c21
        refine jx_ldc jwC_X11_129 dX11_ask_67 ?_
        exact jx_iret dX11_ask_69 rfl rfl (jle rfl) (jle rfl) ⟨_, rfl, h⟩
      replace h := h.2 c21
      refine jx_aload_n 0 dX11_ask_58 rfl rfl ?_
      obtain ⟨b22, hb22, h⟩ := h
      refine jx_getr jc_11 (j := 9) (by decide) rfl jwF_X11_34 dX11_ask_59 hk9 hb22 ?_
      refine jx_iload_n 1 dX11_ask_62 rfl rfl ?_
      obtain ⟨hk23, h⟩ := h
      obtain ⟨hi24, h⟩ := h
      refine jx_iald dX11_ask_63 hk23 hi24 ?_
      refine jx_goto (tgt := 69) dX11_ask_64 (by decide) ?_
      exact jx_iret dX11_ask_69 rfl rfl (jle rfl) (jle rfl) ⟨_, rfl, h⟩
    replace h := h.1 c13
    refine jx_ldcw jwC_X11_320 dX11_ask_31 ?_
    exact jx_iret dX11_ask_34 rfl rfl (jle rfl) (jle rfl) ⟨_, rfl, h⟩
  replace h := h.1 c8
  refine jx_ldc jwC_X11_87 dX11_ask_19 ?_
  exact jx_iret dX11_ask_21 rfl rfl (jle rfl) (jle rfl) ⟨_, rfl, h⟩
set_option maxRecDepth 100000 in
set_option maxHeartbeats 4000000 in
theorem T_X11_item {E : jEnv} {d : Nat} {Q : Int32 → jM → Prop} {a0 : Nat} {x1 : Int32} {x2 : Int32} {S : jM} (h : ((jisslot x1) = 0 → Q (-1000000001) S) ∧ (¬ (jisslot x1) = 0 → jk S a0 = 11 ∧ ∃ b6, jr S a0 7 = some b6 ∧ (jk S b6 = 12 ∧ vp_in x1 (jl S b6) ∧ (((ji S b6 (Int32.toNatClampNeg x1)) = 2 → ∃ b10, jr S a0 10 = some b10 ∧ (jk S b10 = 12 ∧ vp_in x1 (jl S b10) ∧ (((jisin (Int32.toInt64 x2) 0 (Int32.toInt64 ((ji S b10 (Int32.toNatClampNeg x1)) - 1))) = 0 → Q (-1000000013) S) ∧ (¬ (jisin (Int32.toInt64 x2) 0 (Int32.toInt64 ((ji S b10 (Int32.toNatClampNeg x1)) - 1))) = 0 → ∃ b17, jr S a0 11 = some b17 ∧ (jk S b17 = 12 ∧ vp_in ((24 * x1) + x2) (jl S b17) ∧ (((ji S b17 (Int32.toNatClampNeg ((24 * x1) + x2))) = (-1000000005) → Q (-1000000012) S) ∧ (¬ (ji S b17 (Int32.toNatClampNeg ((24 * x1) + x2))) = (-1000000005) → Q (ji S b17 (Int32.toNatClampNeg ((24 * x1) + x2))) S))))))) ∧ (¬ (ji S b6 (Int32.toNatClampNeg x1)) = 2 → (((ji S b6 (Int32.toNatClampNeg x1)) = 0 → Q (-1000000011) S) ∧ (¬ (ji S b6 (Int32.toNatClampNeg x1)) = 0 → Q (-1000000012) S))))))) : jFi E mX11_item (d + 2) 0 0 [.ref a0, .int x1, .int x2] S Q := by
  refine jF_of (by decide) (jle rfl) ?_
  refine jx_lv (lv1 := [(0, .ref a0), (1, .int x1), (2, .int x2)]) [0, 1, 2] rfl ?_
  refine jx_iload_n 1 dX11_item_0 rfl rfl ?_
  refine jx_callSi (M' := mX11_isSlot) (As := [.int x1]) jo_X11_isSlot jwM_X11_329 jwS_X11_isSlot dX11_item_1 (jRok_m _ _ _) rfl (jle rfl) ⟨jle rfl, jle rfl⟩ (c_X11_isSlot (Q := fun v S' => v = (jisslot x1) ∧ S = S') ⟨rfl, rfl⟩) (fun r1 S2 hq3 => ?_)
  obtain ⟨rfl, rfl⟩ := hq3
  refine jx_if_ne (tgt := 10) dX11_item_4 (by decide) (fun c4 => ?_) (fun c4 => ?_)
  · replace h := h.2 c4
    refine jx_aload_n 0 dX11_item_10 rfl rfl ?_
    obtain ⟨hk5, h⟩ := h
    obtain ⟨b6, hb6, h⟩ := h
    refine jx_getr jc_11 (j := 7) (by decide) rfl jwF_X11_28 dX11_item_11 hk5 hb6 ?_
    refine jx_iload_n 1 dX11_item_14 rfl rfl ?_
    obtain ⟨hk7, h⟩ := h
    obtain ⟨hi8, h⟩ := h
    refine jx_iald dX11_item_15 hk7 hi8 ?_
    refine jx_iconst (v := 2) dX11_item_16 (by decide) ?_
    refine jx_icmp_eq (tgt := 38) dX11_item_17 (by decide) (fun c9 => ?_) (fun c9 => ?_)
    · replace h := h.1 c9
      refine jx_iload_n 2 dX11_item_38 rfl rfl ?_
      refine jx_i2l dX11_item_39 ?_
      refine jx_lconst (v := 0) dX11_item_40 (by decide) ?_
      refine jx_aload_n 0 dX11_item_41 rfl rfl ?_
      obtain ⟨b10, hb10, h⟩ := h
      refine jx_getr jc_11 (j := 10) (by decide) rfl jwF_X11_37 dX11_item_42 hk5 hb10 ?_
      refine jx_iload_n 1 dX11_item_45 rfl rfl ?_
      obtain ⟨hk11, h⟩ := h
      obtain ⟨hi12, h⟩ := h
      refine jx_iald dX11_item_46 hk11 hi12 ?_
      refine jx_iconst (v := 1) dX11_item_47 (by decide) ?_
      refine jx_isub dX11_item_48 ?_
      refine jx_i2l dX11_item_49 ?_
      refine jx_callSi (M' := mX11_isIn) (As := [.long (Int32.toInt64 x2), .long 0, .long (Int32.toInt64 ((ji S b10 (Int32.toNatClampNeg x1)) - 1))]) jo_X11_isIn jwM_X11_71 jwS_X11_isIn dX11_item_50 (jRok_m _ _ _) rfl (jle rfl) ⟨jle rfl, jle rfl⟩ (c_X11_isIn (Q := fun v S' => v = (jisin (Int32.toInt64 x2) 0 (Int32.toInt64 ((ji S b10 (Int32.toNatClampNeg x1)) - 1))) ∧ S = S') ⟨rfl, rfl⟩) (fun r13 S14 hq15 => ?_)
      obtain ⟨rfl, rfl⟩ := hq15
      refine jx_if_ne (tgt := 60) dX11_item_53 (by decide) (fun c16 => ?_) (fun c16 => ?_)
      · replace h := h.2 c16
        refine jx_aload_n 0 dX11_item_60 rfl rfl ?_
        obtain ⟨b17, hb17, h⟩ := h
        refine jx_getr jc_11 (j := 11) (by decide) rfl jwF_X11_40 dX11_item_61 hk5 hb17 ?_
        refine jx_bipush (v := 24) dX11_item_64 (by decide) ?_
        refine jx_iload_n 1 dX11_item_66 rfl rfl ?_
        refine jx_imul dX11_item_67 ?_
        refine jx_iload_n 2 dX11_item_68 rfl rfl ?_
        refine jx_iadd dX11_item_69 ?_
        obtain ⟨hk18, h⟩ := h
        obtain ⟨hi19, h⟩ := h
        refine jx_iald dX11_item_70 hk18 hi19 ?_
        refine jx_istore_n (lv1 := [(3, .int (ji S b17 (Int32.toNatClampNeg ((24 * x1) + x2)))), (0, .ref a0), (1, .int x1), (2, .int x2)]) dX11_item_71 rfl (by decide) rfl ?_
        refine jx_iload_n 0 dX11_item_72 rfl rfl ?_
        refine jx_ldc jwC_X11_70 dX11_item_73 ?_
        refine jx_icmp_ne (tgt := 83) dX11_item_75 (by decide) (fun c20 => ?_) (fun c20 => ?_)
        · replace h := h.2 c20
          refine jx_iload_n 0 dX11_item_83 rfl rfl ?_
          exact jx_iret dX11_item_84 rfl rfl (jle rfl) (jle rfl) ⟨_, rfl, h⟩
        replace h := h.1 c20
        refine jx_ldc jwC_X11_129 dX11_item_78 ?_
        refine jx_goto (tgt := 84) dX11_item_80 (by decide) ?_
        exact jx_iret dX11_item_84 rfl rfl (jle rfl) (jle rfl) ⟨_, rfl, h⟩
      replace h := h.1 c16
      refine jx_ldcw jwC_X11_321 dX11_item_56 ?_
      exact jx_iret dX11_item_59 rfl rfl (jle rfl) (jle rfl) ⟨_, rfl, h⟩
    replace h := h.2 c9
    refine jx_aload_n 0 dX11_item_20 rfl rfl ?_
    refine jx_getr jc_11 (j := 7) (by decide) rfl jwF_X11_28 dX11_item_21 hk5 hb6 ?_
    refine jx_iload_n 1 dX11_item_24 rfl rfl ?_
    refine jx_iald dX11_item_25 hk7 hi8 ?_
    refine jx_if_ne (tgt := 35) dX11_item_26 (by decide) (fun c21 => ?_) (fun c21 => ?_)
    · replace h := h.2 c21
      refine jx_ldc jwC_X11_129 dX11_item_35 ?_
      exact jx_iret dX11_item_37 rfl rfl (jle rfl) (jle rfl) ⟨_, rfl, h⟩
    replace h := h.1 c21
    refine jx_ldcw jwC_X11_320 dX11_item_29 ?_
    refine jx_goto (tgt := 37) dX11_item_32 (by decide) ?_
    exact jx_iret dX11_item_37 rfl rfl (jle rfl) (jle rfl) ⟨_, rfl, h⟩
  replace h := h.1 c4
  refine jx_ldc jwC_X11_87 dX11_item_7 ?_
  exact jx_iret dX11_item_9 rfl rfl (jle rfl) (jle rfl) ⟨_, rfl, h⟩
set_option maxRecDepth 100000 in
set_option maxHeartbeats 4000000 in
theorem T_X11_rest {E : jEnv} {d : Nat} {Q : Int32 → jM → Prop} {a0 : Nat} {x1 : Int32} {x2 : Int32} {S : jM} (h : ((jisslot x1) = 0 → Q (-1000000001) S) ∧ (¬ (jisslot x1) = 0 → jk S a0 = 11 ∧ ∃ b6, jr S a0 7 = some b6 ∧ (jk S b6 = 12 ∧ vp_in x1 (jl S b6) ∧ (((ji S b6 (Int32.toNatClampNeg x1)) = 3 → (x2 = 0 → Q (-1000000002) S) ∧ (¬ x2 = 0 → ∃ b11, jr S a0 8 = some b11 ∧ (jk S b11 = 12 ∧ vp_in x1 (jl S b11) ∧ ((¬ x2 = 0) ∧ (Q (jrem (ji S b11 (Int32.toNatClampNeg x1)) x2) S))))) ∧ (¬ (ji S b6 (Int32.toNatClampNeg x1)) = 3 → (((ji S b6 (Int32.toNatClampNeg x1)) = 0 → Q (-1000000011) S) ∧ (¬ (ji S b6 (Int32.toNatClampNeg x1)) = 0 → Q (-1000000012) S))))))) : jFi E mX11_rest (d + 2) 0 0 [.ref a0, .int x1, .int x2] S Q := by
  refine jF_of (by decide) (jle rfl) ?_
  refine jx_lv (lv1 := [(0, .ref a0), (1, .int x1), (2, .int x2)]) [0, 1, 2] rfl ?_
  refine jx_iload_n 1 dX11_rest_0 rfl rfl ?_
  refine jx_callSi (M' := mX11_isSlot) (As := [.int x1]) jo_X11_isSlot jwM_X11_329 jwS_X11_isSlot dX11_rest_1 (jRok_m _ _ _) rfl (jle rfl) ⟨jle rfl, jle rfl⟩ (c_X11_isSlot (Q := fun v S' => v = (jisslot x1) ∧ S = S') ⟨rfl, rfl⟩) (fun r1 S2 hq3 => ?_)
  obtain ⟨rfl, rfl⟩ := hq3
  refine jx_if_ne (tgt := 10) dX11_rest_4 (by decide) (fun c4 => ?_) (fun c4 => ?_)
  · replace h := h.2 c4
    refine jx_aload_n 0 dX11_rest_10 rfl rfl ?_
    obtain ⟨hk5, h⟩ := h
    obtain ⟨b6, hb6, h⟩ := h
    refine jx_getr jc_11 (j := 7) (by decide) rfl jwF_X11_28 dX11_rest_11 hk5 hb6 ?_
    refine jx_iload_n 1 dX11_rest_14 rfl rfl ?_
    obtain ⟨hk7, h⟩ := h
    obtain ⟨hi8, h⟩ := h
    refine jx_iald dX11_rest_15 hk7 hi8 ?_
    refine jx_iconst (v := 3) dX11_rest_16 (by decide) ?_
    refine jx_icmp_eq (tgt := 38) dX11_rest_17 (by decide) (fun c9 => ?_) (fun c9 => ?_)
    · replace h := h.1 c9
      refine jx_iload_n 2 dX11_rest_38 rfl rfl ?_
      refine jx_if_ne (tgt := 47) dX11_rest_39 (by decide) (fun c10 => ?_) (fun c10 => ?_)
      · replace h := h.2 c10
        refine jx_aload_n 0 dX11_rest_47 rfl rfl ?_
        obtain ⟨b11, hb11, h⟩ := h
        refine jx_getr jc_11 (j := 8) (by decide) rfl jwF_X11_31 dX11_rest_48 hk5 hb11 ?_
        refine jx_iload_n 1 dX11_rest_51 rfl rfl ?_
        obtain ⟨hk12, h⟩ := h
        obtain ⟨hi13, h⟩ := h
        refine jx_iald dX11_rest_52 hk12 hi13 ?_
        refine jx_iload_n 2 dX11_rest_53 rfl rfl ?_
        obtain ⟨hz14, h⟩ := h
        refine jx_irem dX11_rest_54 hz14 ?_
        exact jx_iret dX11_rest_55 rfl rfl (jle rfl) (jle rfl) ⟨_, rfl, h⟩
      replace h := h.1 c10
      refine jx_ldc jwC_X11_153 dX11_rest_42 ?_
      refine jx_goto (tgt := 55) dX11_rest_44 (by decide) ?_
      exact jx_iret dX11_rest_55 rfl rfl (jle rfl) (jle rfl) ⟨_, rfl, h⟩
    replace h := h.2 c9
    refine jx_aload_n 0 dX11_rest_20 rfl rfl ?_
    refine jx_getr jc_11 (j := 7) (by decide) rfl jwF_X11_28 dX11_rest_21 hk5 hb6 ?_
    refine jx_iload_n 1 dX11_rest_24 rfl rfl ?_
    refine jx_iald dX11_rest_25 hk7 hi8 ?_
    refine jx_if_ne (tgt := 35) dX11_rest_26 (by decide) (fun c15 => ?_) (fun c15 => ?_)
    · replace h := h.2 c15
      refine jx_ldc jwC_X11_129 dX11_rest_35 ?_
      exact jx_iret dX11_rest_37 rfl rfl (jle rfl) (jle rfl) ⟨_, rfl, h⟩
    replace h := h.1 c15
    refine jx_ldcw jwC_X11_320 dX11_rest_29 ?_
    refine jx_goto (tgt := 37) dX11_rest_32 (by decide) ?_
    exact jx_iret dX11_rest_37 rfl rfl (jle rfl) (jle rfl) ⟨_, rfl, h⟩
  replace h := h.1 c4
  refine jx_ldc jwC_X11_87 dX11_rest_7 ?_
  exact jx_iret dX11_rest_9 rfl rfl (jle rfl) (jle rfl) ⟨_, rfl, h⟩
set_option maxRecDepth 100000 in
set_option maxHeartbeats 4000000 in
theorem T_X11_tell {E : jEnv} {d : Nat} {Q : Int32 → jM → Prop} {a0 : Nat} {x1 : Int32} {S : jM} (h : jk S a0 = 11 ∧ ((ji S a0 34) = 60 → Q (-1000000003) S) ∧ (¬ (ji S a0 34) = 60 → ∃ b3, jr S a0 33 = some b3 ∧ (jk S b3 = 12 ∧ vp_in (ji S a0 34) (jl S b3) ∧ (Q ((ji S a0 34) + 1) (jput (jput S b3 (Int32.toNatClampNeg (ji S a0 34)) x1) a0 34 ((ji S a0 34) + 1)))))) : jFi E mX11_tell d 0 0 [.ref a0, .int x1] S Q := by
  refine jF_of (by decide) (jle rfl) ?_
  refine jx_lv (lv1 := [(0, .ref a0), (1, .int x1)]) [0, 1] rfl ?_
  refine jx_aload_n 0 dX11_tell_0 rfl rfl ?_
  obtain ⟨hk1, h⟩ := h
  refine jx_geti jc_11 (j := 34) (by decide) rfl jwF_X11_332 dX11_tell_1 hk1 ?_
  refine jx_bipush (v := 60) dX11_tell_4 (by decide) ?_
  refine jx_icmp_ne (tgt := 12) dX11_tell_6 (by decide) (fun c2 => ?_) (fun c2 => ?_)
  · replace h := h.2 c2
    refine jx_aload_n 0 dX11_tell_12 rfl rfl ?_
    obtain ⟨b3, hb3, h⟩ := h
    refine jx_getr jc_11 (j := 33) (by decide) rfl jwF_X11_64 dX11_tell_13 hk1 hb3 ?_
    refine jx_aload_n 0 dX11_tell_16 rfl rfl ?_
    refine jx_geti jc_11 (j := 34) (by decide) rfl jwF_X11_332 dX11_tell_17 hk1 ?_
    refine jx_iload_n 1 dX11_tell_20 rfl rfl ?_
    obtain ⟨hk4, h⟩ := h
    obtain ⟨hi5, h⟩ := h
    refine jx_iast dX11_tell_21 hk4 hi5 ?_
    refine jx_aload_n 0 dX11_tell_22 rfl rfl ?_
    refine jx_dup dX11_tell_23 rfl ?_
    refine jx_geti jc_11 (j := 34) (by decide) rfl jwF_X11_332 dX11_tell_24 hk1 ?_
    refine jx_topi (y := (ji S a0 34)) (by simp [ji_put, ji_row, ji_putr, jne hk1 hk4 (by decide)]) ?_
    refine jx_iconst (v := 1) dX11_tell_27 (by decide) ?_
    refine jx_iadd dX11_tell_28 ?_
    refine jx_puti jc_11 (j := 34) (by decide) rfl jwF_X11_332 rfl rfl rfl dX11_tell_29 hk1 ?_
    refine jx_aload_n 0 dX11_tell_32 rfl rfl ?_
    refine jx_geti jc_11 (j := 34) (by decide) rfl jwF_X11_332 dX11_tell_33 hk1 ?_
    refine jx_topi (y := ((ji S a0 34) + 1)) (by simp [ji_put, ji_row, ji_putr]) ?_
    exact jx_iret dX11_tell_36 rfl rfl (jle rfl) (jle rfl) ⟨_, rfl, h⟩
  replace h := h.1 c2
  refine jx_ldc jwC_X11_88 dX11_tell_9 ?_
  exact jx_iret dX11_tell_11 rfl rfl (jle rfl) (jle rfl) ⟨_, rfl, h⟩
/-- X11_setAside at its loop's head 2 -/
abbrev L_X11_setAside_2 (E : jEnv) (d : Nat) (Q : jM → Prop) (a1 : Nat) (a2 : Nat) (x3 : Int32) (S : jM) : Prop := jX E mX11_setAside (jRm d 0 0) (jZm E (fun r S' => r = none ∧ Q S') 0 0) 2 [(1, .ref a1), (2, .ref a2), (3, .int x3)] [] S 0 0
set_option maxRecDepth 100000 in
set_option maxHeartbeats 4000000 in
theorem T_X11_setAside {E : jEnv} {d : Nat} {Q : jM → Prop} {a0 : Nat} {a1 : Nat} {a2 : Nat} {S : jM} (h : L_X11_setAside_2 E d Q a1 a2 0 S) : jFv E mX11_setAside d 0 0 [.ref a0, .ref a1, .ref a2] S Q := by
  refine jF_of (by decide) (jle rfl) ?_
  refine jx_lv (lv1 := [(0, .ref a0), (1, .ref a1), (2, .ref a2)]) [0, 1, 2] rfl ?_
  refine jx_iconst (v := 0) dX11_setAside_0 (by decide) ?_
  refine jx_istore_n (lv1 := [(3, .int 0), (0, .ref a0), (1, .ref a1), (2, .ref a2)]) dX11_setAside_1 rfl (by decide) rfl ?_
  exact jx_lv [2, 3, 0] rfl h
set_option maxRecDepth 100000 in
set_option maxHeartbeats 4000000 in
theorem T_X11_setAside_2 {E : jEnv} {d : Nat} {Q : jM → Prop} {a1 : Nat} {a2 : Nat} {x3 : Int32} {S : jM} (h : (2935 ≤ x3 → Q S) ∧ (¬ 2935 ≤ x3 → jk S a1 = 12 ∧ vp_in x3 (jl S a1) ∧ (jk S a2 = 12 ∧ vp_in x3 (jl S a2) ∧ (L_X11_setAside_2 E d Q a1 a2 (x3 + 1) (jput S a2 (Int32.toNatClampNeg x3) (ji S a1 (Int32.toNatClampNeg x3))))))) : L_X11_setAside_2 E d Q a1 a2 x3 S := by
  show jX E mX11_setAside (jRm d 0 0) (jZm E (fun r S' => r = none ∧ Q S') 0 0) 2 [(1, .ref a1), (2, .ref a2), (3, .int x3)] [] S 0 0
  refine jx_iload_n 2 dX11_setAside_2 rfl rfl ?_
  refine jx_sipush (v := 2935) dX11_setAside_3 (by decide) ?_
  refine jx_icmp_ge (tgt := 21) dX11_setAside_6 (by decide) (fun c1 => ?_) (fun c1 => ?_)
  · replace h := h.1 c1
    exact jx_vret dX11_setAside_21 rfl (jle rfl) (jle rfl) ⟨rfl, h⟩
  replace h := h.2 c1
  refine jx_aload_n 1 dX11_setAside_9 rfl rfl ?_
  refine jx_iload_n 2 dX11_setAside_10 rfl rfl ?_
  refine jx_aload_n 0 dX11_setAside_11 rfl rfl ?_
  refine jx_iload_n 2 dX11_setAside_12 rfl rfl ?_
  obtain ⟨hk2, h⟩ := h
  obtain ⟨hi3, h⟩ := h
  refine jx_iald dX11_setAside_13 hk2 hi3 ?_
  obtain ⟨hk4, h⟩ := h
  obtain ⟨hi5, h⟩ := h
  refine jx_iast dX11_setAside_14 hk4 hi5 ?_
  refine jx_iinc 2 (v := (x3 + 1)) (lv1 := [(3, .int (x3 + 1)), (1, .ref a1), (2, .ref a2)]) dX11_setAside_15 rfl rfl (by decide) rfl ?_
  refine jx_goto (tgt := 2) dX11_setAside_18 (by decide) ?_
  exact jx_lv [1, 2, 0] rfl h
/-- X11_allOf at its loop's head 4 -/
abbrev L_X11_allOf_4 (E : jEnv) (d : Nat) (Q : Int32 → jM → Prop) (a0 : Nat) (x1 : Int32) (x2 : Int32) (x3 : Int32) (S : jM) : Prop := jX E mX11_allOf (jRm (d + 1) 0 0) (jZm E (fun r S' => ∃ v : Int32, r = some (.int v) ∧ Q v S') 0 0) 4 [(0, .ref a0), (1, .int x1), (2, .int x2), (3, .int x3)] [] S 0 0
set_option maxRecDepth 100000 in
set_option maxHeartbeats 4000000 in
theorem T_X11_allOf {E : jEnv} {d : Nat} {Q : Int32 → jM → Prop} {a0 : Nat} {x1 : Int32} {S : jM} (h : L_X11_allOf_4 E d Q a0 x1 0 0 S) : jFi E mX11_allOf (d + 1) 0 0 [.ref a0, .int x1] S Q := by
  refine jF_of (by decide) (jle rfl) ?_
  refine jx_lv (lv1 := [(0, .ref a0), (1, .int x1)]) [0, 1] rfl ?_
  refine jx_iconst (v := 0) dX11_allOf_0 (by decide) ?_
  refine jx_istore_n (lv1 := [(2, .int 0), (0, .ref a0), (1, .int x1)]) dX11_allOf_1 rfl (by decide) rfl ?_
  refine jx_iconst (v := 0) dX11_allOf_2 (by decide) ?_
  refine jx_istore_n (lv1 := [(3, .int 0), (2, .int 0), (0, .ref a0), (1, .int x1)]) dX11_allOf_3 rfl (by decide) rfl ?_
  exact jx_lv [2, 3, 1, 0] rfl h
set_option maxRecDepth 100000 in
set_option maxHeartbeats 4000000 in
theorem T_X11_allOf_4 {E : jEnv} {d : Nat} {Q : Int32 → jM → Prop} {a0 : Nat} {x1 : Int32} {x2 : Int32} {x3 : Int32} {S : jM} (h : jk S a0 = 11 ∧ ∃ b2, jr S a0 0 = some b2 ∧ (jk S b2 = 12 ∧ vp_in 0 (jl S b2) ∧ (((ji S b2 (Int32.toNatClampNeg 0)) ≤ x3 → Q x2 S) ∧ (¬ (ji S b2 (Int32.toNatClampNeg 0)) ≤ x3 → jFi E mX11_of d 0 0 [.ref a0, .int x3, .int x1] S (fun r7 S6 => L_X11_allOf_4 E d Q a0 x1 (x2 + r7) (x3 + 1) S6))))) : L_X11_allOf_4 E d Q a0 x1 x2 x3 S := by
  show jX E mX11_allOf (jRm (d + 1) 0 0) (jZm E (fun r S' => ∃ v : Int32, r = some (.int v) ∧ Q v S') 0 0) 4 [(0, .ref a0), (1, .int x1), (2, .int x2), (3, .int x3)] [] S 0 0
  refine jx_iload_n 3 dX11_allOf_4 rfl rfl ?_
  refine jx_aload_n 0 dX11_allOf_5 rfl rfl ?_
  obtain ⟨hk1, h⟩ := h
  obtain ⟨b2, hb2, h⟩ := h
  refine jx_getr jc_11 (j := 0) (by decide) rfl jwF_X11_7 dX11_allOf_6 hk1 hb2 ?_
  refine jx_iconst (v := 0) dX11_allOf_9 (by decide) ?_
  obtain ⟨hk3, h⟩ := h
  obtain ⟨hi4, h⟩ := h
  refine jx_iald dX11_allOf_10 hk3 hi4 ?_
  refine jx_icmp_ge (tgt := 29) dX11_allOf_11 (by decide) (fun c5 => ?_) (fun c5 => ?_)
  · replace h := h.1 c5
    refine jx_iload_n 2 dX11_allOf_29 rfl rfl ?_
    exact jx_iret dX11_allOf_30 rfl rfl (jle rfl) (jle rfl) ⟨_, rfl, h⟩
  replace h := h.2 c5
  refine jx_iload_n 2 dX11_allOf_14 rfl rfl ?_
  refine jx_aload_n 0 dX11_allOf_15 rfl rfl ?_
  refine jx_iload_n 3 dX11_allOf_16 rfl rfl ?_
  refine jx_iload_n 1 dX11_allOf_17 rfl rfl ?_
  refine jx_callVi (M' := mX11_of) (As := [.int x3, .int x1]) jo_X11_of jc_11 rfl jwM_X11_97 jwN_X11_of jwX_X11_of dX11_allOf_18 (jRok_m _ _ _) rfl (jle rfl) ⟨jle rfl, jle rfl⟩ hk1 h (fun r7 S6 h => ?_)
  refine jx_iadd dX11_allOf_21 ?_
  refine jx_istore_n (lv1 := [(2, .int (x2 + r7)), (0, .ref a0), (1, .int x1), (3, .int x3)]) dX11_allOf_22 rfl (by decide) rfl ?_
  refine jx_iinc 3 (v := (x3 + 1)) (lv1 := [(3, .int (x3 + 1)), (2, .int (x2 + r7)), (0, .ref a0), (1, .int x1)]) dX11_allOf_23 rfl rfl (by decide) rfl ?_
  refine jx_goto (tgt := 4) dX11_allOf_26 (by decide) ?_
  exact jx_lv [2, 3, 1, 0] rfl h
/-- X11_check at its loop's head 64 -/
abbrev L_X11_check_64 (E : jEnv) (d : Nat) (Q : Int32 → jM → Prop) (a0 : Nat) (x1 : Int32) (x2 : Int32) (x3 : Int32) (x4 : Int32) (S : jM) : Prop := jX E mX11_check (jRm (d + 1) 0 0) (jZm E (fun r S' => ∃ v : Int32, r = some (.int v) ∧ Q v S') 0 0) 64 [(0, .ref a0), (1, .int x1), (2, .int x2), (3, .int x3), (4, .int x4)] [] S 0 0
/-- X11_check at its loop's head 125 -/
abbrev L_X11_check_125 (E : jEnv) (d : Nat) (Q : Int32 → jM → Prop) (a0 : Nat) (x2 : Int32) (x3 : Int32) (x4 : Int32) (S : jM) : Prop := jX E mX11_check (jRm (d + 1) 0 0) (jZm E (fun r S' => ∃ v : Int32, r = some (.int v) ∧ Q v S') 0 0) 125 [(0, .ref a0), (2, .int x2), (3, .int x3), (4, .int x4)] [] S 0 0
set_option maxRecDepth 100000 in
set_option maxHeartbeats 4000000 in
theorem T_X11_check {E : jEnv} {d : Nat} {Q : Int32 → jM → Prop} {a0 : Nat} {x1 : Int32} {S : jM} (h : jk S a0 = 11 ∧ ((jisin (Int32.toInt64 x1) 1 30) = 0 → Q (-1000000001) (jput S a0 34 0)) ∧ (¬ (jisin (Int32.toInt64 x1) 1 30) = 0 → ((ji S a0 3) = 0 → Q (-1000000002) (jput S a0 34 0)) ∧ (¬ (ji S a0 3) = 0 → ∃ b7, jr S a0 0 = some b7 ∧ (∃ b8, jr S a0 2 = some b8 ∧ (jFv E mX11_setAside d 0 0 [.ref a0, .ref b7, .ref b8] (jput S a0 34 0) (fun S9 => jk S9 a0 = 11 ∧ ∃ b11, jr S9 a0 1 = some b11 ∧ (∃ b12, jr S9 a0 0 = some b12 ∧ (jFv E mX11_setAside d 0 0 [.ref a0, .ref b11, .ref b12] S9 (fun S13 => L_X11_check_64 E d Q a0 x1 (ji S a0 34) 0 0 S13))))))))) : jFi E mX11_check (d + 1) 0 0 [.ref a0, .int x1] S Q := by
  refine jF_of (by decide) (jle rfl) ?_
  refine jx_lv (lv1 := [(0, .ref a0), (1, .int x1)]) [0, 1] rfl ?_
  refine jx_aload_n 0 dX11_check_0 rfl rfl ?_
  obtain ⟨hk1, h⟩ := h
  refine jx_geti jc_11 (j := 34) (by decide) rfl jwF_X11_332 dX11_check_1 hk1 ?_
  refine jx_istore_n (lv1 := [(2, .int (ji S a0 34)), (0, .ref a0), (1, .int x1)]) dX11_check_4 rfl (by decide) rfl ?_
  refine jx_aload_n 1 dX11_check_5 rfl rfl ?_
  refine jx_iconst (v := 0) dX11_check_6 (by decide) ?_
  refine jx_puti jc_11 (j := 34) (by decide) rfl jwF_X11_332 rfl rfl rfl dX11_check_7 hk1 ?_
  refine jx_iload_n 2 dX11_check_10 rfl rfl ?_
  refine jx_i2l dX11_check_11 ?_
  refine jx_lconst (v := 1) dX11_check_12 (by decide) ?_
  refine jx_ldc2 jwL_X11_335 dX11_check_13 ?_
  refine jx_callSi (M' := mX11_isIn) (As := [.long (Int32.toInt64 x1), .long 1, .long 30]) jo_X11_isIn jwM_X11_71 jwS_X11_isIn dX11_check_16 (jRok_m _ _ _) rfl (jle rfl) ⟨jle rfl, jle rfl⟩ (c_X11_isIn (Q := fun v S' => v = (jisin (Int32.toInt64 x1) 1 30) ∧ (jput S a0 34 0) = S') ⟨rfl, rfl⟩) (fun r2 S3 hq4 => ?_)
  obtain ⟨rfl, rfl⟩ := hq4
  refine jx_if_ne (tgt := 25) dX11_check_19 (by decide) (fun c5 => ?_) (fun c5 => ?_)
  · replace h := h.2 c5
    refine jx_aload_n 1 dX11_check_25 rfl rfl ?_
    refine jx_geti jc_11 (j := 3) (by decide) rfl jwF_X11_337 dX11_check_26 hk1 ?_
    refine jx_topi (y := (ji S a0 3)) (by simp [ji_put, ji_row, ji_putr]) ?_
    refine jx_if_ne (tgt := 35) dX11_check_29 (by decide) (fun c6 => ?_) (fun c6 => ?_)
    · replace h := h.2 c6
      refine jx_aload_n 1 dX11_check_35 rfl rfl ?_
      refine jx_aload_n 1 dX11_check_36 rfl rfl ?_
      obtain ⟨b7, hb7, h⟩ := h
      refine jx_getr jc_11 (j := 0) (by decide) rfl jwF_X11_7 dX11_check_37 hk1 hb7 ?_
      refine jx_aload_n 1 dX11_check_40 rfl rfl ?_
      obtain ⟨b8, hb8, h⟩ := h
      refine jx_getr jc_11 (j := 2) (by decide) rfl jwF_X11_16 dX11_check_41 hk1 hb8 ?_
      refine jx_callVv (M' := mX11_setAside) (As := [.ref b7, .ref b8]) jo_X11_setAside jc_11 rfl jwM_X11_341 jwN_X11_setAside jwX_X11_setAside dX11_check_44 (jRok_m _ _ _) rfl (jle rfl) ⟨jle rfl, jle rfl⟩ hk1 h (fun S9 h => ?_)
      refine jx_aload_n 1 dX11_check_47 rfl rfl ?_
      refine jx_aload_n 1 dX11_check_48 rfl rfl ?_
      obtain ⟨hk10, h⟩ := h
      obtain ⟨b11, hb11, h⟩ := h
      refine jx_getr jc_11 (j := 1) (by decide) rfl jwF_X11_13 dX11_check_49 hk10 hb11 ?_
      refine jx_aload_n 1 dX11_check_52 rfl rfl ?_
      obtain ⟨b12, hb12, h⟩ := h
      refine jx_getr jc_11 (j := 0) (by decide) rfl jwF_X11_7 dX11_check_53 hk10 hb12 ?_
      refine jx_callVv (M' := mX11_setAside) (As := [.ref b11, .ref b12]) jo_X11_setAside jc_11 rfl jwM_X11_341 jwN_X11_setAside jwX_X11_setAside dX11_check_56 (jRok_m _ _ _) rfl (jle rfl) ⟨jle rfl, jle rfl⟩ hk10 h (fun S13 h => ?_)
      refine jx_iconst (v := 0) dX11_check_59 (by decide) ?_
      refine jx_istore_n (lv1 := [(3, .int 0), (2, .int (ji S a0 34)), (0, .ref a0), (1, .int x1)]) dX11_check_60 rfl (by decide) rfl ?_
      refine jx_iconst (v := 0) dX11_check_61 (by decide) ?_
      refine jx_istore (lv1 := [(4, .int 0), (3, .int 0), (2, .int (ji S a0 34)), (0, .ref a0), (1, .int x1)]) dX11_check_62 (by decide) rfl ?_
      exact jx_lv [3, 4, 2, 1, 0] rfl h
    replace h := h.1 c6
    refine jx_ldc jwC_X11_153 dX11_check_32 ?_
    exact jx_iret dX11_check_34 rfl rfl (jle rfl) (jle rfl) ⟨_, rfl, h⟩
  replace h := h.1 c5
  refine jx_ldc jwC_X11_87 dX11_check_22 ?_
  exact jx_iret dX11_check_24 rfl rfl (jle rfl) (jle rfl) ⟨_, rfl, h⟩
set_option maxRecDepth 100000 in
set_option maxHeartbeats 4000000 in
theorem T_X11_check_64 {E : jEnv} {d : Nat} {Q : Int32 → jM → Prop} {a0 : Nat} {x1 : Int32} {x2 : Int32} {x3 : Int32} {x4 : Int32} {S : jM} (h : (x1 ≤ x4 → jk S a0 = 11 ∧ ∃ b16, jr S a0 2 = some b16 ∧ (∃ b17, jr S a0 0 = some b17 ∧ (jFv E mX11_setAside d 0 0 [.ref a0, .ref b16, .ref b17] S (fun S18 => L_X11_check_125 E d Q a0 x2 x3 0 S18)))) ∧ (¬ x1 ≤ x4 → jk S a0 = 11 ∧ jFi E mX11_year d 0 0 [.ref a0] S (fun r21 S20 => jk S20 a0 = 11 ∧ ∃ b23, jr S20 a0 35 = some b23 ∧ (jFi E mX11_allOf d 0 0 [.ref a0, .int 6] S20 (fun r25 S24 => jk S24 b23 = 12 ∧ vp_in x3 (jl S24 b23) ∧ (jk S24 a0 = 11 ∧ ∃ b29, jr S24 a0 35 = some b29 ∧ (jFi E mX11_allOf d 0 0 [.ref a0, .int 5] (jput S24 b23 (Int32.toNatClampNeg x3) r25) (fun r31 S30 => jk S30 b29 = 12 ∧ vp_in (x3 + 1) (jl S30 b29) ∧ (L_X11_check_64 E d Q a0 x1 x2 (x3 + 2) (x4 + 1) (jput S30 b29 (Int32.toNatClampNeg (x3 + 1)) r31)))))))))) : L_X11_check_64 E d Q a0 x1 x2 x3 x4 S := by
  show jX E mX11_check (jRm (d + 1) 0 0) (jZm E (fun r S' => ∃ v : Int32, r = some (.int v) ∧ Q v S') 0 0) 64 [(0, .ref a0), (1, .int x1), (2, .int x2), (3, .int x3), (4, .int x4)] [] S 0 0
  refine jx_iload 4 dX11_check_64 rfl ?_
  refine jx_iload_n 1 dX11_check_66 rfl rfl ?_
  refine jx_icmp_ge (tgt := 110) dX11_check_67 (by decide) (fun c14 => ?_) (fun c14 => ?_)
  · replace h := h.1 c14
    refine jx_aload_n 0 dX11_check_110 rfl rfl ?_
    refine jx_aload_n 0 dX11_check_111 rfl rfl ?_
    obtain ⟨hk15, h⟩ := h
    obtain ⟨b16, hb16, h⟩ := h
    refine jx_getr jc_11 (j := 2) (by decide) rfl jwF_X11_16 dX11_check_112 hk15 hb16 ?_
    refine jx_aload_n 0 dX11_check_115 rfl rfl ?_
    obtain ⟨b17, hb17, h⟩ := h
    refine jx_getr jc_11 (j := 0) (by decide) rfl jwF_X11_7 dX11_check_116 hk15 hb17 ?_
    refine jx_callVv (M' := mX11_setAside) (As := [.ref b16, .ref b17]) jo_X11_setAside jc_11 rfl jwM_X11_341 jwN_X11_setAside jwX_X11_setAside dX11_check_119 (jRok_m _ _ _) rfl (jle rfl) ⟨jle rfl, jle rfl⟩ hk15 h (fun S18 h => ?_)
    refine jx_iconst (v := 0) dX11_check_122 (by decide) ?_
    refine jx_istore (lv1 := [(4, .int 0), (0, .ref a0), (1, .int x1), (2, .int x2), (3, .int x3)]) dX11_check_123 (by decide) rfl ?_
    exact jx_lv [1, 3, 4, 0] rfl h
  replace h := h.2 c14
  refine jx_aload_n 0 dX11_check_70 rfl rfl ?_
  obtain ⟨hk19, h⟩ := h
  refine jx_callVi (M' := mX11_year) (As := []) jo_X11_year jc_11 rfl jwM_X11_208 jwN_X11_year jwX_X11_year dX11_check_71 (jRok_m _ _ _) rfl (jle rfl) ⟨jle rfl, jle rfl⟩ hk19 h (fun r21 S20 h => ?_)
  refine jx_istore (lv1 := [(5, .int r21), (0, .ref a0), (1, .int x1), (2, .int x2), (3, .int x3), (4, .int x4)]) dX11_check_74 (by decide) rfl ?_
  refine jx_aload_n 1 dX11_check_76 rfl rfl ?_
  obtain ⟨hk22, h⟩ := h
  obtain ⟨b23, hb23, h⟩ := h
  refine jx_getr jc_11 (j := 35) (by decide) rfl jwF_X11_67 dX11_check_77 hk22 hb23 ?_
  refine jx_iload_n 4 dX11_check_80 rfl rfl ?_
  refine jx_aload_n 1 dX11_check_81 rfl rfl ?_
  refine jx_bipush (v := 6) dX11_check_82 (by decide) ?_
  refine jx_callVi (M' := mX11_allOf) (As := [.int 6]) jo_X11_allOf jc_11 rfl jwM_X11_345 jwN_X11_allOf jwX_X11_allOf dX11_check_84 (jRok_m _ _ _) rfl (jle rfl) ⟨jle rfl, jle rfl⟩ hk22 h (fun r25 S24 h => ?_)
  obtain ⟨hk26, h⟩ := h
  obtain ⟨hi27, h⟩ := h
  refine jx_iast dX11_check_87 hk26 hi27 ?_
  refine jx_aload_n 1 dX11_check_88 rfl rfl ?_
  obtain ⟨hk28, h⟩ := h
  obtain ⟨b29, hb29, h⟩ := h
  refine jx_getr jc_11 (j := 35) (by decide) rfl jwF_X11_67 dX11_check_89 hk28 hb29 ?_
  refine jx_iload_n 4 dX11_check_92 rfl rfl ?_
  refine jx_iconst (v := 1) dX11_check_93 (by decide) ?_
  refine jx_iadd dX11_check_94 ?_
  refine jx_aload_n 1 dX11_check_95 rfl rfl ?_
  refine jx_iconst (v := 5) dX11_check_96 (by decide) ?_
  refine jx_callVi (M' := mX11_allOf) (As := [.int 5]) jo_X11_allOf jc_11 rfl jwM_X11_345 jwN_X11_allOf jwX_X11_allOf dX11_check_97 (jRok_m _ _ _) rfl (jle rfl) ⟨jle rfl, jle rfl⟩ hk28 h (fun r31 S30 h => ?_)
  obtain ⟨hk32, h⟩ := h
  obtain ⟨hi33, h⟩ := h
  refine jx_iast dX11_check_100 hk32 hi33 ?_
  refine jx_iinc 4 (v := (x3 + 2)) (lv1 := [(3, .int (x3 + 2)), (5, .int r21), (0, .ref a0), (1, .int x1), (2, .int x2), (4, .int x4)]) dX11_check_101 rfl rfl (by decide) rfl ?_
  refine jx_iinc 5 (v := (x4 + 1)) (lv1 := [(4, .int (x4 + 1)), (3, .int (x3 + 2)), (5, .int r21), (0, .ref a0), (1, .int x1), (2, .int x2)]) dX11_check_104 rfl rfl (by decide) rfl ?_
  refine jx_goto (tgt := 64) dX11_check_107 (by decide) ?_
  exact jx_lv [3, 4, 5, 1, 0] rfl h
set_option maxRecDepth 100000 in
set_option maxHeartbeats 4000000 in
theorem T_X11_check_125 {E : jEnv} {d : Nat} {Q : Int32 → jM → Prop} {a0 : Nat} {x2 : Int32} {x3 : Int32} {x4 : Int32} {S : jM} (h : (x2 ≤ x4 → (x4 = x2 → (x4 = x3 → Q 0 S) ∧ (¬ x4 = x3 → Q (1 + x4) S)) ∧ (¬ x4 = x2 → Q (1 + x4) S)) ∧ (¬ x2 ≤ x4 → (x3 ≤ x4 → (x4 = x2 → (x4 = x3 → Q 0 S) ∧ (¬ x4 = x3 → Q (1 + x4) S)) ∧ (¬ x4 = x2 → Q (1 + x4) S)) ∧ (¬ x3 ≤ x4 → jk S a0 = 11 ∧ ∃ b41, jr S a0 33 = some b41 ∧ (jk S b41 = 12 ∧ vp_in x4 (jl S b41) ∧ (∃ b44, jr S a0 35 = some b44 ∧ (jk S b44 = 12 ∧ vp_in x4 (jl S b44) ∧ (((ji S b41 (Int32.toNatClampNeg x4)) = (ji S b44 (Int32.toNatClampNeg x4)) → L_X11_check_125 E d Q a0 x2 x3 (x4 + 1) S) ∧ (¬ (ji S b41 (Int32.toNatClampNeg x4)) = (ji S b44 (Int32.toNatClampNeg x4)) → (x4 = x2 → (x4 = x3 → Q 0 S) ∧ (¬ x4 = x3 → Q (1 + x4) S)) ∧ (¬ x4 = x2 → Q (1 + x4) S))))))))) : L_X11_check_125 E d Q a0 x2 x3 x4 S := by
  show jX E mX11_check (jRm (d + 1) 0 0) (jZm E (fun r S' => ∃ v : Int32, r = some (.int v) ∧ Q v S') 0 0) 125 [(0, .ref a0), (2, .int x2), (3, .int x3), (4, .int x4)] [] S 0 0
  refine jx_iload 3 dX11_check_125 rfl ?_
  refine jx_iload_n 1 dX11_check_127 rfl rfl ?_
  refine jx_icmp_ge (tgt := 160) dX11_check_128 (by decide) (fun c34 => ?_) (fun c34 => ?_)
  · replace h := h.1 c34
    refine jx_iload 3 dX11_check_160 rfl ?_
    refine jx_iload_n 1 dX11_check_162 rfl rfl ?_
    refine jx_icmp_ne (tgt := 176) dX11_check_163 (by decide) (fun c35 => ?_) (fun c35 => ?_)
    · replace h := h.2 c35
      refine jx_iconst (v := 1) dX11_check_176 (by decide) ?_
      refine jx_iload 3 dX11_check_177 rfl ?_
      refine jx_iadd dX11_check_179 ?_
      exact jx_iret dX11_check_180 rfl rfl (jle rfl) (jle rfl) ⟨_, rfl, h⟩
    replace h := h.1 c35
    refine jx_iload 3 dX11_check_166 rfl ?_
    refine jx_iload_n 2 dX11_check_168 rfl rfl ?_
    refine jx_icmp_ne (tgt := 176) dX11_check_169 (by decide) (fun c36 => ?_) (fun c36 => ?_)
    · replace h := h.2 c36
      refine jx_iconst (v := 1) dX11_check_176 (by decide) ?_
      refine jx_iload 3 dX11_check_177 rfl ?_
      refine jx_iadd dX11_check_179 ?_
      exact jx_iret dX11_check_180 rfl rfl (jle rfl) (jle rfl) ⟨_, rfl, h⟩
    replace h := h.1 c36
    refine jx_iconst (v := 0) dX11_check_172 (by decide) ?_
    refine jx_goto (tgt := 180) dX11_check_173 (by decide) ?_
    exact jx_iret dX11_check_180 rfl rfl (jle rfl) (jle rfl) ⟨_, rfl, h⟩
  replace h := h.2 c34
  refine jx_iload 3 dX11_check_131 rfl ?_
  refine jx_iload_n 2 dX11_check_133 rfl rfl ?_
  refine jx_icmp_ge (tgt := 160) dX11_check_134 (by decide) (fun c37 => ?_) (fun c37 => ?_)
  · replace h := h.1 c37
    refine jx_iload 3 dX11_check_160 rfl ?_
    refine jx_iload_n 1 dX11_check_162 rfl rfl ?_
    refine jx_icmp_ne (tgt := 176) dX11_check_163 (by decide) (fun c38 => ?_) (fun c38 => ?_)
    · replace h := h.2 c38
      refine jx_iconst (v := 1) dX11_check_176 (by decide) ?_
      refine jx_iload 3 dX11_check_177 rfl ?_
      refine jx_iadd dX11_check_179 ?_
      exact jx_iret dX11_check_180 rfl rfl (jle rfl) (jle rfl) ⟨_, rfl, h⟩
    replace h := h.1 c38
    refine jx_iload 3 dX11_check_166 rfl ?_
    refine jx_iload_n 2 dX11_check_168 rfl rfl ?_
    refine jx_icmp_ne (tgt := 176) dX11_check_169 (by decide) (fun c39 => ?_) (fun c39 => ?_)
    · replace h := h.2 c39
      refine jx_iconst (v := 1) dX11_check_176 (by decide) ?_
      refine jx_iload 3 dX11_check_177 rfl ?_
      refine jx_iadd dX11_check_179 ?_
      exact jx_iret dX11_check_180 rfl rfl (jle rfl) (jle rfl) ⟨_, rfl, h⟩
    replace h := h.1 c39
    refine jx_iconst (v := 0) dX11_check_172 (by decide) ?_
    refine jx_goto (tgt := 180) dX11_check_173 (by decide) ?_
    exact jx_iret dX11_check_180 rfl rfl (jle rfl) (jle rfl) ⟨_, rfl, h⟩
  replace h := h.2 c37
  refine jx_aload_n 0 dX11_check_137 rfl rfl ?_
  obtain ⟨hk40, h⟩ := h
  obtain ⟨b41, hb41, h⟩ := h
  refine jx_getr jc_11 (j := 33) (by decide) rfl jwF_X11_64 dX11_check_138 hk40 hb41 ?_
  refine jx_iload 3 dX11_check_141 rfl ?_
  obtain ⟨hk42, h⟩ := h
  obtain ⟨hi43, h⟩ := h
  refine jx_iald dX11_check_143 hk42 hi43 ?_
  refine jx_aload_n 0 dX11_check_144 rfl rfl ?_
  obtain ⟨b44, hb44, h⟩ := h
  refine jx_getr jc_11 (j := 35) (by decide) rfl jwF_X11_67 dX11_check_145 hk40 hb44 ?_
  refine jx_iload 3 dX11_check_148 rfl ?_
  obtain ⟨hk45, h⟩ := h
  obtain ⟨hi46, h⟩ := h
  refine jx_iald dX11_check_150 hk45 hi46 ?_
  refine jx_icmp_ne (tgt := 160) dX11_check_151 (by decide) (fun c47 => ?_) (fun c47 => ?_)
  · replace h := h.2 c47
    refine jx_iload 3 dX11_check_160 rfl ?_
    refine jx_iload_n 1 dX11_check_162 rfl rfl ?_
    refine jx_icmp_ne (tgt := 176) dX11_check_163 (by decide) (fun c48 => ?_) (fun c48 => ?_)
    · replace h := h.2 c48
      refine jx_iconst (v := 1) dX11_check_176 (by decide) ?_
      refine jx_iload 3 dX11_check_177 rfl ?_
      refine jx_iadd dX11_check_179 ?_
      exact jx_iret dX11_check_180 rfl rfl (jle rfl) (jle rfl) ⟨_, rfl, h⟩
    replace h := h.1 c48
    refine jx_iload 3 dX11_check_166 rfl ?_
    refine jx_iload_n 2 dX11_check_168 rfl rfl ?_
    refine jx_icmp_ne (tgt := 176) dX11_check_169 (by decide) (fun c49 => ?_) (fun c49 => ?_)
    · replace h := h.2 c49
      refine jx_iconst (v := 1) dX11_check_176 (by decide) ?_
      refine jx_iload 3 dX11_check_177 rfl ?_
      refine jx_iadd dX11_check_179 ?_
      exact jx_iret dX11_check_180 rfl rfl (jle rfl) (jle rfl) ⟨_, rfl, h⟩
    replace h := h.1 c49
    refine jx_iconst (v := 0) dX11_check_172 (by decide) ?_
    refine jx_goto (tgt := 180) dX11_check_173 (by decide) ?_
    exact jx_iret dX11_check_180 rfl rfl (jle rfl) (jle rfl) ⟨_, rfl, h⟩
  replace h := h.1 c47
  refine jx_iinc 3 (v := (x4 + 1)) (lv1 := [(4, .int (x4 + 1)), (0, .ref a0), (2, .int x2), (3, .int x3)]) dX11_check_154 rfl rfl (by decide) rfl ?_
  refine jx_goto (tgt := 125) dX11_check_157 (by decide) ?_
  exact jx_lv [1, 2, 3, 0] rfl h
set_option maxRecDepth 100000 in
set_option maxHeartbeats 4000000 in
theorem T_X11_keep {E : jEnv} {d : Nat} {Q : Int32 → jM → Prop} {a0 : Nat} {S : jM} (h : jk S a0 = 11 ∧ ∃ b2, jr S a0 0 = some b2 ∧ (∃ b3, jr S a0 1 = some b3 ∧ (jFv E mX11_setAside d 0 0 [.ref a0, .ref b2, .ref b3] (jput S a0 3 1) (fun S4 => jk S4 a0 = 11 ∧ ∃ b6, jr S4 a0 0 = some b6 ∧ (jk S4 b6 = 12 ∧ vp_in 0 (jl S4 b6) ∧ (Q (ji S4 b6 (Int32.toNatClampNeg 0)) S4)))))) : jFi E mX11_keep (d + 1) 0 0 [.ref a0] S Q := by
  refine jF_of (by decide) (jle rfl) ?_
  refine jx_lv (lv1 := [(0, .ref a0)]) [0] rfl ?_
  refine jx_aload_n 0 dX11_keep_0 rfl rfl ?_
  refine jx_iconst (v := 1) dX11_keep_1 (by decide) ?_
  obtain ⟨hk1, h⟩ := h
  refine jx_puti jc_11 (j := 3) (by decide) rfl jwF_X11_337 rfl (by decide) (by decide) dX11_keep_2 hk1 ?_
  refine jx_aload_n 0 dX11_keep_5 rfl rfl ?_
  refine jx_aload_n 0 dX11_keep_6 rfl rfl ?_
  obtain ⟨b2, hb2, h⟩ := h
  refine jx_getr jc_11 (j := 0) (by decide) rfl jwF_X11_7 dX11_keep_7 hk1 hb2 ?_
  refine jx_aload_n 0 dX11_keep_10 rfl rfl ?_
  obtain ⟨b3, hb3, h⟩ := h
  refine jx_getr jc_11 (j := 1) (by decide) rfl jwF_X11_13 dX11_keep_11 hk1 hb3 ?_
  refine jx_callVv (M' := mX11_setAside) (As := [.ref b2, .ref b3]) jo_X11_setAside jc_11 rfl jwM_X11_341 jwN_X11_setAside jwX_X11_setAside dX11_keep_14 (jRok_m _ _ _) rfl (jle rfl) ⟨jle rfl, jle rfl⟩ hk1 h (fun S4 h => ?_)
  refine jx_aload_n 0 dX11_keep_17 rfl rfl ?_
  obtain ⟨hk5, h⟩ := h
  obtain ⟨b6, hb6, h⟩ := h
  refine jx_getr jc_11 (j := 0) (by decide) rfl jwF_X11_7 dX11_keep_18 hk5 hb6 ?_
  refine jx_iconst (v := 0) dX11_keep_21 (by decide) ?_
  obtain ⟨hk7, h⟩ := h
  obtain ⟨hi8, h⟩ := h
  refine jx_iald dX11_keep_22 hk7 hi8 ?_
  exact jx_iret dX11_keep_23 rfl rfl (jle rfl) (jle rfl) ⟨_, rfl, h⟩
set_option maxRecDepth 100000 in
set_option maxHeartbeats 4000000 in
theorem T_X11_back {E : jEnv} {d : Nat} {Q : Int32 → jM → Prop} {a0 : Nat} {S : jM} (h : jk S a0 = 11 ∧ ((ji S a0 3) = 0 → Q (-1000000002) S) ∧ (¬ (ji S a0 3) = 0 → ∃ b3, jr S a0 1 = some b3 ∧ (∃ b4, jr S a0 0 = some b4 ∧ (jFv E mX11_setAside d 0 0 [.ref a0, .ref b3, .ref b4] S (fun S5 => jk S5 a0 = 11 ∧ ∃ b7, jr S5 a0 0 = some b7 ∧ (jk S5 b7 = 12 ∧ vp_in 0 (jl S5 b7) ∧ (Q (ji S5 b7 (Int32.toNatClampNeg 0)) S5))))))) : jFi E mX11_back (d + 1) 0 0 [.ref a0] S Q := by
  refine jF_of (by decide) (jle rfl) ?_
  refine jx_lv (lv1 := [(0, .ref a0)]) [0] rfl ?_
  refine jx_aload_n 0 dX11_back_0 rfl rfl ?_
  obtain ⟨hk1, h⟩ := h
  refine jx_geti jc_11 (j := 3) (by decide) rfl jwF_X11_337 dX11_back_1 hk1 ?_
  refine jx_if_ne (tgt := 10) dX11_back_4 (by decide) (fun c2 => ?_) (fun c2 => ?_)
  · replace h := h.2 c2
    refine jx_aload_n 0 dX11_back_10 rfl rfl ?_
    refine jx_aload_n 0 dX11_back_11 rfl rfl ?_
    obtain ⟨b3, hb3, h⟩ := h
    refine jx_getr jc_11 (j := 1) (by decide) rfl jwF_X11_13 dX11_back_12 hk1 hb3 ?_
    refine jx_aload_n 0 dX11_back_15 rfl rfl ?_
    obtain ⟨b4, hb4, h⟩ := h
    refine jx_getr jc_11 (j := 0) (by decide) rfl jwF_X11_7 dX11_back_16 hk1 hb4 ?_
    refine jx_callVv (M' := mX11_setAside) (As := [.ref b3, .ref b4]) jo_X11_setAside jc_11 rfl jwM_X11_341 jwN_X11_setAside jwX_X11_setAside dX11_back_19 (jRok_m _ _ _) rfl (jle rfl) ⟨jle rfl, jle rfl⟩ hk1 h (fun S5 h => ?_)
    refine jx_aload_n 0 dX11_back_22 rfl rfl ?_
    obtain ⟨hk6, h⟩ := h
    obtain ⟨b7, hb7, h⟩ := h
    refine jx_getr jc_11 (j := 0) (by decide) rfl jwF_X11_7 dX11_back_23 hk6 hb7 ?_
    refine jx_iconst (v := 0) dX11_back_26 (by decide) ?_
    obtain ⟨hk8, h⟩ := h
    obtain ⟨hi9, h⟩ := h
    refine jx_iald dX11_back_27 hk8 hi9 ?_
    exact jx_iret dX11_back_28 rfl rfl (jle rfl) (jle rfl) ⟨_, rfl, h⟩
  replace h := h.1 c2
  refine jx_ldc jwC_X11_153 dX11_back_7 ?_
  exact jx_iret dX11_back_9 rfl rfl (jle rfl) (jle rfl) ⟨_, rfl, h⟩
set_option maxRecDepth 100000 in
set_option maxHeartbeats 4000000 in
theorem T_X11_count {E : jEnv} {d : Nat} {Q : Int32 → jM → Prop} {a0 : Nat} {x1 : Int32} {S : jM} (h : (x1 = 0 → jk S a0 = 11 ∧ ∃ b3, jr S a0 0 = some b3 ∧ (jk S b3 = 12 ∧ vp_in 0 (jl S b3) ∧ (Q (ji S b3 (Int32.toNatClampNeg 0)) S))) ∧ (x1 = 1 → jk S a0 = 11 ∧ jFi E mX11_allOf d 0 0 [.ref a0, .int 6] S (fun r9 S8 => Q r9 S8)) ∧ (x1 = 2 → jk S a0 = 11 ∧ ∃ b12, jr S a0 0 = some b12 ∧ (jk S b12 = 12 ∧ vp_in 2 (jl S b12) ∧ (Q (ji S b12 (Int32.toNatClampNeg 2)) S))) ∧ (x1 = 3 → jk S a0 = 11 ∧ ∃ b17, jr S a0 0 = some b17 ∧ (jk S b17 = 12 ∧ vp_in 4 (jl S b17) ∧ (Q (jmany (ji S b17 (Int32.toNatClampNeg 4))) S))) ∧ (x1 = 4 → jk S a0 = 11 ∧ ∃ b25, jr S a0 0 = some b25 ∧ (jk S b25 = 12 ∧ vp_in 7 (jl S b25) ∧ (Q (ji S b25 (Int32.toNatClampNeg 7)) S))) ∧ (x1 = 5 → jk S a0 = 11 ∧ jFi E mX11_can d 0 0 [.ref a0] S (fun r31 S30 => (r31 = 0 → Q 0 S30) ∧ (¬ r31 = 0 → Q 1 S30))) ∧ (x1 = 6 → jk S a0 = 11 ∧ ∃ b35, jr S a0 0 = some b35 ∧ (jk S b35 = 12 ∧ vp_in 1 (jl S b35) ∧ (Q (ji S b35 (Int32.toNatClampNeg 1)) S))) ∧ (x1 = 7 → jk S a0 = 11 ∧ Q (ji S a0 34) S) ∧ (x1 = 8 → jk S a0 = 11 ∧ Q (ji S a0 19) S) ∧ (x1 = 9 → jk S a0 = 11 ∧ ∃ b44, jr S a0 0 = some b44 ∧ (jk S b44 = 12 ∧ vp_in 8 (jl S b44) ∧ (Q (ji S b44 (Int32.toNatClampNeg 8)) S))) ∧ (¬ x1 = 0 → ¬ x1 = 1 → ¬ x1 = 2 → ¬ x1 = 3 → ¬ x1 = 4 → ¬ x1 = 5 → ¬ x1 = 6 → ¬ x1 = 7 → ¬ x1 = 8 → ¬ x1 = 9 → Q (-1000000001) S)) : jFi E mX11_count (d + 1) 0 0 [.ref a0, .int x1] S Q := by
  refine jF_of (by decide) (jle rfl) ?_
  refine jx_lv (lv1 := [(0, .ref a0), (1, .int x1)]) [0, 1] rfl ?_
  refine jx_iload_n 1 dX11_count_0 rfl rfl ?_
  by_cases c1 : x1 = 0
  · replace h := h.1 c1
    refine jx_tableIn (v := 0) (tgt := 56) (off := 55) dX11_count_1 c1 (by decide) (by decide) (by decide) (by decide) ?_
    refine jx_aload_n 0 dX11_count_56 rfl rfl ?_
    obtain ⟨hk2, h⟩ := h
    obtain ⟨b3, hb3, h⟩ := h
    refine jx_getr jc_11 (j := 0) (by decide) rfl jwF_X11_7 dX11_count_57 hk2 hb3 ?_
    refine jx_iconst (v := 0) dX11_count_60 (by decide) ?_
    obtain ⟨hk4, h⟩ := h
    obtain ⟨hi5, h⟩ := h
    refine jx_iald dX11_count_61 hk4 hi5 ?_
    exact jx_iret dX11_count_62 rfl rfl (jle rfl) (jle rfl) ⟨_, rfl, h⟩
  replace h := h.2
  by_cases c6 : x1 = 1
  · replace h := h.1 c6
    refine jx_tableIn (v := 1) (tgt := 63) (off := 62) dX11_count_1 c6 (by decide) (by decide) (by decide) (by decide) ?_
    refine jx_aload_n 0 dX11_count_63 rfl rfl ?_
    refine jx_bipush (v := 6) dX11_count_64 (by decide) ?_
    obtain ⟨hk7, h⟩ := h
    refine jx_callVi (M' := mX11_allOf) (As := [.int 6]) jo_X11_allOf jc_11 rfl jwM_X11_345 jwN_X11_allOf jwX_X11_allOf dX11_count_66 (jRok_m _ _ _) rfl (jle rfl) ⟨jle rfl, jle rfl⟩ hk7 h (fun r9 S8 h => ?_)
    exact jx_iret dX11_count_69 rfl rfl (jle rfl) (jle rfl) ⟨_, rfl, h⟩
  replace h := h.2
  by_cases c10 : x1 = 2
  · replace h := h.1 c10
    refine jx_tableIn (v := 2) (tgt := 70) (off := 69) dX11_count_1 c10 (by decide) (by decide) (by decide) (by decide) ?_
    refine jx_aload_n 0 dX11_count_70 rfl rfl ?_
    obtain ⟨hk11, h⟩ := h
    obtain ⟨b12, hb12, h⟩ := h
    refine jx_getr jc_11 (j := 0) (by decide) rfl jwF_X11_7 dX11_count_71 hk11 hb12 ?_
    refine jx_iconst (v := 2) dX11_count_74 (by decide) ?_
    obtain ⟨hk13, h⟩ := h
    obtain ⟨hi14, h⟩ := h
    refine jx_iald dX11_count_75 hk13 hi14 ?_
    exact jx_iret dX11_count_76 rfl rfl (jle rfl) (jle rfl) ⟨_, rfl, h⟩
  replace h := h.2
  by_cases c15 : x1 = 3
  · replace h := h.1 c15
    refine jx_tableIn (v := 3) (tgt := 77) (off := 76) dX11_count_1 c15 (by decide) (by decide) (by decide) (by decide) ?_
    refine jx_aload_n 0 dX11_count_77 rfl rfl ?_
    obtain ⟨hk16, h⟩ := h
    obtain ⟨b17, hb17, h⟩ := h
    refine jx_getr jc_11 (j := 0) (by decide) rfl jwF_X11_7 dX11_count_78 hk16 hb17 ?_
    refine jx_iconst (v := 4) dX11_count_81 (by decide) ?_
    obtain ⟨hk18, h⟩ := h
    obtain ⟨hi19, h⟩ := h
    refine jx_iald dX11_count_82 hk18 hi19 ?_
    refine jx_callSi (M' := mX11_manyIn) (As := [.int (ji S b17 (Int32.toNatClampNeg 4))]) jo_X11_manyIn jwM_X11_108 jwS_X11_manyIn dX11_count_83 (jRok_m _ _ _) rfl (jle rfl) ⟨jle rfl, jle rfl⟩ (c_X11_manyIn (Q := fun v S' => v = (jmany (ji S b17 (Int32.toNatClampNeg 4))) ∧ S = S') ⟨rfl, rfl⟩) (fun r20 S21 hq22 => ?_)
    obtain ⟨rfl, rfl⟩ := hq22
    exact jx_iret dX11_count_86 rfl rfl (jle rfl) (jle rfl) ⟨_, rfl, h⟩
  replace h := h.2
  by_cases c23 : x1 = 4
  · replace h := h.1 c23
    refine jx_tableIn (v := 4) (tgt := 87) (off := 86) dX11_count_1 c23 (by decide) (by decide) (by decide) (by decide) ?_
    refine jx_aload_n 0 dX11_count_87 rfl rfl ?_
    obtain ⟨hk24, h⟩ := h
    obtain ⟨b25, hb25, h⟩ := h
    refine jx_getr jc_11 (j := 0) (by decide) rfl jwF_X11_7 dX11_count_88 hk24 hb25 ?_
    refine jx_bipush (v := 7) dX11_count_91 (by decide) ?_
    obtain ⟨hk26, h⟩ := h
    obtain ⟨hi27, h⟩ := h
    refine jx_iald dX11_count_93 hk26 hi27 ?_
    exact jx_iret dX11_count_94 rfl rfl (jle rfl) (jle rfl) ⟨_, rfl, h⟩
  replace h := h.2
  by_cases c28 : x1 = 5
  · replace h := h.1 c28
    refine jx_tableIn (v := 5) (tgt := 95) (off := 94) dX11_count_1 c28 (by decide) (by decide) (by decide) (by decide) ?_
    refine jx_aload_n 0 dX11_count_95 rfl rfl ?_
    obtain ⟨hk29, h⟩ := h
    refine jx_callVi (M' := mX11_can) (As := []) jo_X11_can jc_11 rfl jwM_X11_172 jwN_X11_can jwX_X11_can dX11_count_96 (jRok_m _ _ _) rfl (jle rfl) ⟨jle rfl, jle rfl⟩ hk29 h (fun r31 S30 h => ?_)
    refine jx_if_eq (tgt := 106) dX11_count_99 (by decide) (fun c32 => ?_) (fun c32 => ?_)
    · replace h := h.1 c32
      refine jx_iconst (v := 0) dX11_count_106 (by decide) ?_
      exact jx_iret dX11_count_107 rfl rfl (jle rfl) (jle rfl) ⟨_, rfl, h⟩
    replace h := h.2 c32
    refine jx_iconst (v := 1) dX11_count_102 (by decide) ?_
    refine jx_goto (tgt := 107) dX11_count_103 (by decide) ?_
    exact jx_iret dX11_count_107 rfl rfl (jle rfl) (jle rfl) ⟨_, rfl, h⟩
  replace h := h.2
  by_cases c33 : x1 = 6
  · replace h := h.1 c33
    refine jx_tableIn (v := 6) (tgt := 108) (off := 107) dX11_count_1 c33 (by decide) (by decide) (by decide) (by decide) ?_
    refine jx_aload_n 0 dX11_count_108 rfl rfl ?_
    obtain ⟨hk34, h⟩ := h
    obtain ⟨b35, hb35, h⟩ := h
    refine jx_getr jc_11 (j := 0) (by decide) rfl jwF_X11_7 dX11_count_109 hk34 hb35 ?_
    refine jx_iconst (v := 1) dX11_count_112 (by decide) ?_
    obtain ⟨hk36, h⟩ := h
    obtain ⟨hi37, h⟩ := h
    refine jx_iald dX11_count_113 hk36 hi37 ?_
    exact jx_iret dX11_count_114 rfl rfl (jle rfl) (jle rfl) ⟨_, rfl, h⟩
  replace h := h.2
  by_cases c38 : x1 = 7
  · replace h := h.1 c38
    refine jx_tableIn (v := 7) (tgt := 115) (off := 114) dX11_count_1 c38 (by decide) (by decide) (by decide) (by decide) ?_
    refine jx_aload_n 0 dX11_count_115 rfl rfl ?_
    obtain ⟨hk39, h⟩ := h
    refine jx_geti jc_11 (j := 34) (by decide) rfl jwF_X11_332 dX11_count_116 hk39 ?_
    exact jx_iret dX11_count_119 rfl rfl (jle rfl) (jle rfl) ⟨_, rfl, h⟩
  replace h := h.2
  by_cases c40 : x1 = 8
  · replace h := h.1 c40
    refine jx_tableIn (v := 8) (tgt := 120) (off := 119) dX11_count_1 c40 (by decide) (by decide) (by decide) (by decide) ?_
    refine jx_aload_n 0 dX11_count_120 rfl rfl ?_
    obtain ⟨hk41, h⟩ := h
    refine jx_geti jc_11 (j := 19) (by decide) rfl jwF_X11_214 dX11_count_121 hk41 ?_
    exact jx_iret dX11_count_124 rfl rfl (jle rfl) (jle rfl) ⟨_, rfl, h⟩
  replace h := h.2
  by_cases c42 : x1 = 9
  · replace h := h.1 c42
    refine jx_tableIn (v := 9) (tgt := 125) (off := 124) dX11_count_1 c42 (by decide) (by decide) (by decide) (by decide) ?_
    refine jx_aload_n 0 dX11_count_125 rfl rfl ?_
    obtain ⟨hk43, h⟩ := h
    obtain ⟨b44, hb44, h⟩ := h
    refine jx_getr jc_11 (j := 0) (by decide) rfl jwF_X11_7 dX11_count_126 hk43 hb44 ?_
    refine jx_bipush (v := 8) dX11_count_129 (by decide) ?_
    obtain ⟨hk45, h⟩ := h
    obtain ⟨hi46, h⟩ := h
    refine jx_iald dX11_count_131 hk45 hi46 ?_
    exact jx_iret dX11_count_132 rfl rfl (jle rfl) (jle rfl) ⟨_, rfl, h⟩
  replace h := h.2
  replace h := h c1 c6 c10 c15 c23 c28 c33 c38 c40 c42
  refine jx_tableD (tgt := 133) ([0, 1, 2, 3, 4, 5, 6, 7, 8, 9] : List Int) dX11_count_1 (by simp only [List.mem_cons, List.not_mem_nil, or_false, forall_eq_or_imp, forall_eq]; exact ⟨lv_neT c1 (by decide), lv_neT c6 (by decide), lv_neT c10 (by decide), lv_neT c15 (by decide), lv_neT c23 (by decide), lv_neT c28 (by decide), lv_neT c33 (by decide), lv_neT c38 (by decide), lv_neT c40 (by decide), lv_neT c42 (by decide)⟩) (by decide) (by decide) (by decide) ?_
  refine jx_ldc jwC_X11_87 dX11_count_133 ?_
  exact jx_iret dX11_count_135 rfl rfl (jle rfl) (jle rfl) ⟨_, rfl, h⟩
