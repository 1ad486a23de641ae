/-- X11_findFar at its loop's head 2 -/
abbrev L_X11_findFar_2 (E : jEnv) (d : Nat) (Q : jM → Prop) (a0 : Nat) (x1 : Int32) (S : jM) : Prop := jX E mX11_findFar (jRm d 0 0) (jZm E (fun r S' => r = none ∧ Q S') 0 0) 2 [(0, .ref a0), (1, .int x1)] [] S 0 0
/-- X11_findFar at its loop's head 64 -/
abbrev L_X11_findFar_64 (E : jEnv) (d : Nat) (Q : jM → Prop) (a0 : Nat) (x1 : Int32) (S : jM) : Prop := jX E mX11_findFar (jRm d 0 0) (jZm E (fun r S' => r = none ∧ Q S') 0 0) 64 [(0, .ref a0), (1, .int x1)] [] S 0 0
/-- X11_findFar at its loop's head 72 -/
abbrev L_X11_findFar_72 (E : jEnv) (d : Nat) (Q : jM → Prop) (a0 : Nat) (x1 : Int32) (x2 : Int32) (S : jM) : Prop := jX E mX11_findFar (jRm d 0 0) (jZm E (fun r S' => r = none ∧ Q S') 0 0) 72 [(0, .ref a0), (1, .int x1), (2, .int x2)] [] S 0 0
set_option maxRecDepth 100000 in
set_option maxHeartbeats 4000000 in
theorem T_X11_findFar {E : jEnv} {d : Nat} {Q : jM → Prop} {a0 : Nat} {S : jM} (h : L_X11_findFar_2 E d Q a0 0 S) : jFv E mX11_findFar d 0 0 [.ref a0] S Q := by
  refine jF_of (by decide) (jle rfl) ?_
  refine jx_lv (lv1 := [(0, .ref a0)]) [0] rfl ?_
  refine jx_iconst (v := 0) dX11_findFar_0 (by decide) ?_
  refine jx_istore_n (lv1 := [(1, .int 0), (0, .ref a0)]) dX11_findFar_1 rfl (by decide) rfl ?_
  exact jx_lv [1, 0] rfl h
set_option maxRecDepth 100000 in
set_option maxHeartbeats 4000000 in
theorem T_X11_findFar_2 {E : jEnv} {d : Nat} {Q : jM → Prop} {a0 : Nat} {x1 : Int32} {S : jM} (h : (36 ≤ x1 → L_X11_findFar_64 E d Q a0 0 S) ∧ (¬ 36 ≤ x1 → jk S a0 = 11 ∧ ∃ b3, jr S a0 12 = some b3 ∧ (((x1 / 6) = (jrem x1 6) → jk S b3 = 12 ∧ vp_in x1 (jl S b3) ∧ (L_X11_findFar_2 E d Q a0 (x1 + 1) (jput S b3 (Int32.toNatClampNeg x1) 0))) ∧ (¬ (x1 / 6) = (jrem x1 6) → ∃ b5, jr S a0 0 = some b5 ∧ (jk S b5 = 12 ∧ vp_in (36 + x1) (jl S b5) ∧ (((ji S b5 (Int32.toNatClampNeg (36 + x1))) = 0 → jk S b3 = 12 ∧ vp_in x1 (jl S b3) ∧ (L_X11_findFar_2 E d Q a0 (x1 + 1) (jput S b3 (Int32.toNatClampNeg x1) 9999))) ∧ (¬ (ji S b5 (Int32.toNatClampNeg (36 + x1))) = 0 → (jk S b3 = 12 ∧ vp_in x1 (jl S b3) ∧ (L_X11_findFar_2 E d Q a0 (x1 + 1) (jput S b3 (Int32.toNatClampNeg x1) (ji S b5 (Int32.toNatClampNeg (36 + x1))))))))))))) : L_X11_findFar_2 E d Q a0 x1 S := by
  show jX E mX11_findFar (jRm d 0 0) (jZm E (fun r S' => r = none ∧ Q S') 0 0) 2 [(0, .ref a0), (1, .int x1)] [] S 0 0
  refine jx_iload_n 1 dX11_findFar_2 rfl rfl ?_
  refine jx_bipush (v := 36) dX11_findFar_3 (by decide) ?_
  refine jx_icmp_ge (tgt := 62) dX11_findFar_5 (by decide) (fun c1 => ?_) (fun c1 => ?_)
  · replace h := h.1 c1
    refine jx_iconst (v := 0) dX11_findFar_62 (by decide) ?_
    refine jx_istore_n (lv1 := [(1, .int 0), (0, .ref a0)]) dX11_findFar_63 rfl (by decide) rfl ?_
    exact jx_lv [1, 0] rfl h
  replace h := h.2 c1
  refine jx_aload_n 0 dX11_findFar_8 rfl rfl ?_
  obtain ⟨hk2, h⟩ := h
  obtain ⟨b3, hb3, h⟩ := h
  refine jx_getr jc_11 (j := 12) (by decide) rfl jwF_X11_43 dX11_findFar_9 hk2 hb3 ?_
  refine jx_iload_n 1 dX11_findFar_12 rfl rfl ?_
  refine jx_iload_n 1 dX11_findFar_13 rfl rfl ?_
  refine jx_bipush (v := 6) dX11_findFar_14 (by decide) ?_
  refine jx_idiv dX11_findFar_16 (by decide) ?_
  refine jx_iload_n 1 dX11_findFar_17 rfl rfl ?_
  refine jx_bipush (v := 6) dX11_findFar_18 (by decide) ?_
  refine jx_irem dX11_findFar_20 (by decide) ?_
  refine jx_icmp_ne (tgt := 28) dX11_findFar_21 (by decide) (fun c4 => ?_) (fun c4 => ?_)
  · replace h := h.2 c4
    refine jx_aload_n 0 dX11_findFar_28 rfl rfl ?_
    obtain ⟨b5, hb5, h⟩ := h
    refine jx_getr jc_11 (j := 0) (by decide) rfl jwF_X11_7 dX11_findFar_29 hk2 hb5 ?_
    refine jx_bipush (v := 36) dX11_findFar_32 (by decide) ?_
    refine jx_iload_n 1 dX11_findFar_34 rfl rfl ?_
    refine jx_iadd dX11_findFar_35 ?_
    obtain ⟨hk6, h⟩ := h
    obtain ⟨hi7, h⟩ := h
    refine jx_iald dX11_findFar_36 hk6 hi7 ?_
    refine jx_if_ne (tgt := 46) dX11_findFar_37 (by decide) (fun c8 => ?_) (fun c8 => ?_)
    · replace h := h.2 c8
      refine jx_aload_n 0 dX11_findFar_46 rfl rfl ?_
      refine jx_getr jc_11 (j := 0) (by decide) rfl jwF_X11_7 dX11_findFar_47 hk2 hb5 ?_
      refine jx_bipush (v := 36) dX11_findFar_50 (by decide) ?_
      refine jx_iload_n 1 dX11_findFar_52 rfl rfl ?_
      refine jx_iadd dX11_findFar_53 ?_
      refine jx_iald dX11_findFar_54 hk6 hi7 ?_
      obtain ⟨hk9, h⟩ := h
      obtain ⟨hi10, h⟩ := h
      refine jx_iast dX11_findFar_55 hk9 hi10 ?_
      refine jx_iinc 1 (v := (x1 + 1)) (lv1 := [(1, .int (x1 + 1)), (0, .ref a0)]) dX11_findFar_56 rfl rfl (by decide) rfl ?_
      refine jx_goto (tgt := 2) dX11_findFar_59 (by decide) ?_
      exact jx_lv [1, 0] rfl h
    replace h := h.1 c8
    refine jx_sipush (v := 9999) dX11_findFar_40 (by decide) ?_
    refine jx_goto (tgt := 55) dX11_findFar_43 (by decide) ?_
    obtain ⟨hk11, h⟩ := h
    obtain ⟨hi12, h⟩ := h
    refine jx_iast dX11_findFar_55 hk11 hi12 ?_
    refine jx_iinc 1 (v := (x1 + 1)) (lv1 := [(1, .int (x1 + 1)), (0, .ref a0)]) dX11_findFar_56 rfl rfl (by decide) rfl ?_
    refine jx_goto (tgt := 2) dX11_findFar_59 (by decide) ?_
    exact jx_lv [1, 0] rfl h
  replace h := h.1 c4
  refine jx_iconst (v := 0) dX11_findFar_24 (by decide) ?_
  refine jx_goto (tgt := 55) dX11_findFar_25 (by decide) ?_
  obtain ⟨hk13, h⟩ := h
  obtain ⟨hi14, h⟩ := h
  refine jx_iast dX11_findFar_55 hk13 hi14 ?_
  refine jx_iinc 1 (v := (x1 + 1)) (lv1 := [(1, .int (x1 + 1)), (0, .ref a0)]) dX11_findFar_56 rfl rfl (by decide) rfl ?_
  refine jx_goto (tgt := 2) dX11_findFar_59 (by decide) ?_
  exact jx_lv [1, 0] rfl h
set_option maxRecDepth 100000 in
set_option maxHeartbeats 4000000 in
theorem T_X11_findFar_64 {E : jEnv} {d : Nat} {Q : jM → Prop} {a0 : Nat} {x1 : Int32} {S : jM} (h : (6 ≤ x1 → Q S) ∧ (¬ 6 ≤ x1 → L_X11_findFar_72 E d Q a0 x1 0 S)) : L_X11_findFar_64 E d Q a0 x1 S := by
  show jX E mX11_findFar (jRm d 0 0) (jZm E (fun r S' => r = none ∧ Q S') 0 0) 64 [(0, .ref a0), (1, .int x1)] [] S 0 0
  refine jx_iload_n 1 dX11_findFar_64 rfl rfl ?_
  refine jx_bipush (v := 6) dX11_findFar_65 (by decide) ?_
  refine jx_icmp_ge (tgt := 146) dX11_findFar_67 (by decide) (fun c15 => ?_) (fun c15 => ?_)
  · replace h := h.1 c15
    exact jx_vret dX11_findFar_146 rfl (jle rfl) (jle rfl) ⟨rfl, h⟩
  replace h := h.2 c15
  refine jx_iconst (v := 0) dX11_findFar_70 (by decide) ?_
  refine jx_istore_n (lv1 := [(2, .int 0), (0, .ref a0), (1, .int x1)]) dX11_findFar_71 rfl (by decide) rfl ?_
  exact jx_lv [1, 2, 0] rfl h
set_option maxRecDepth 100000 in
set_option maxHeartbeats 4000000 in
theorem T_X11_findFar_72 {E : jEnv} {d : Nat} {Q : jM → Prop} {a0 : Nat} {x1 : Int32} {x2 : Int32} {S : jM} (h : (36 ≤ x2 → L_X11_findFar_64 E d Q a0 (x1 + 1) S) ∧ (¬ 36 ≤ x2 → jk S a0 = 11 ∧ ∃ b18, jr S a0 12 = some b18 ∧ (jk S b18 = 12 ∧ vp_in (((x2 / 6) * 6) + x1) (jl S b18) ∧ (vp_in ((6 * x1) + (jrem x2 6)) (jl S b18) ∧ (∀ y22 : Int32, y22 = ((ji S b18 (Int32.toNatClampNeg (((x2 / 6) * 6) + x1))) + (ji S b18 (Int32.toNatClampNeg ((6 * x1) + (jrem x2 6))))) → vp_in x2 (jl S b18) ∧ (((ji S b18 (Int32.toNatClampNeg x2)) ≤ y22 → ((L_X11_findFar_72 E d Q a0 x1 (x2 + 1) (jput S b18 (Int32.toNatClampNeg x2) (ji S b18 (Int32.toNatClampNeg x2)))))) ∧ (¬ (ji S b18 (Int32.toNatClampNeg x2)) ≤ y22 → (L_X11_findFar_72 E d Q a0 x1 (x2 + 1) (jput S b18 (Int32.toNatClampNeg x2) y22))))))))) : L_X11_findFar_72 E d Q a0 x1 x2 S := by
  show jX E mX11_findFar (jRm d 0 0) (jZm E (fun r S' => r = none ∧ Q S') 0 0) 72 [(0, .ref a0), (1, .int x1), (2, .int x2)] [] S 0 0
  refine jx_iload_n 2 dX11_findFar_72 rfl rfl ?_
  refine jx_bipush (v := 36) dX11_findFar_73 (by decide) ?_
  refine jx_icmp_ge (tgt := 140) dX11_findFar_75 (by decide) (fun c16 => ?_) (fun c16 => ?_)
  · replace h := h.1 c16
    refine jx_iinc 1 (v := (x1 + 1)) (lv1 := [(1, .int (x1 + 1)), (0, .ref a0), (2, .int x2)]) dX11_findFar_140 rfl rfl (by decide) rfl ?_
    refine jx_goto (tgt := 64) dX11_findFar_143 (by decide) ?_
    exact jx_lv [1, 0] rfl h
  replace h := h.2 c16
  refine jx_aload_n 0 dX11_findFar_78 rfl rfl ?_
  obtain ⟨hk17, h⟩ := h
  obtain ⟨b18, hb18, h⟩ := h
  refine jx_getr jc_11 (j := 12) (by decide) rfl jwF_X11_43 dX11_findFar_79 hk17 hb18 ?_
  refine jx_iload_n 2 dX11_findFar_82 rfl rfl ?_
  refine jx_bipush (v := 6) dX11_findFar_83 (by decide) ?_
  refine jx_idiv dX11_findFar_85 (by decide) ?_
  refine jx_bipush (v := 6) dX11_findFar_86 (by decide) ?_
  refine jx_imul dX11_findFar_88 ?_
  refine jx_iload_n 1 dX11_findFar_89 rfl rfl ?_
  refine jx_iadd dX11_findFar_90 ?_
  obtain ⟨hk19, h⟩ := h
  obtain ⟨hi20, h⟩ := h
  refine jx_iald dX11_findFar_91 hk19 hi20 ?_
  refine jx_aload_n 0 dX11_findFar_92 rfl rfl ?_
  refine jx_getr jc_11 (j := 12) (by decide) rfl jwF_X11_43 dX11_findFar_93 hk17 hb18 ?_
  refine jx_bipush (v := 6) dX11_findFar_96 (by decide) ?_
  refine jx_iload_n 1 dX11_findFar_98 rfl rfl ?_
  refine jx_imul dX11_findFar_99 ?_
  refine jx_iload_n 2 dX11_findFar_100 rfl rfl ?_
  refine jx_bipush (v := 6) dX11_findFar_101 (by decide) ?_
  refine jx_irem dX11_findFar_103 (by decide) ?_
  refine jx_iadd dX11_findFar_104 ?_
  obtain ⟨hi21, h⟩ := h
  refine jx_iald dX11_findFar_105 hk19 hi21 ?_
  refine jx_iadd dX11_findFar_106 ?_
  refine jx_nm (fun y22 ey22 => ?_)
  replace h := h y22 ey22
  refine jx_istore_n (lv1 := [(3, .int y22), (0, .ref a0), (1, .int x1), (2, .int x2)]) dX11_findFar_107 rfl (by decide) rfl ?_
  refine jx_aload_n 1 dX11_findFar_108 rfl rfl ?_
  refine jx_getr jc_11 (j := 12) (by decide) rfl jwF_X11_43 dX11_findFar_109 hk17 hb18 ?_
  refine jx_iload_n 3 dX11_findFar_112 rfl rfl ?_
  refine jx_iload_n 0 dX11_findFar_113 rfl rfl ?_
  refine jx_aload_n 1 dX11_findFar_114 rfl rfl ?_
  refine jx_getr jc_11 (j := 12) (by decide) rfl jwF_X11_43 dX11_findFar_115 hk17 hb18 ?_
  refine jx_iload_n 3 dX11_findFar_118 rfl rfl ?_
  obtain ⟨hi23, h⟩ := h
  refine jx_iald dX11_findFar_119 hk19 hi23 ?_
  refine jx_icmp_ge (tgt := 127) dX11_findFar_120 (by decide) (fun c24 => ?_) (fun c24 => ?_)
  · replace h := h.1 c24
    refine jx_aload_n 1 dX11_findFar_127 rfl rfl ?_
    refine jx_getr jc_11 (j := 12) (by decide) rfl jwF_X11_43 dX11_findFar_128 hk17 hb18 ?_
    refine jx_iload_n 3 dX11_findFar_131 rfl rfl ?_
    refine jx_iald dX11_findFar_132 hk19 hi23 ?_
    refine jx_iast dX11_findFar_133 hk19 hi23 ?_
    refine jx_iinc 3 (v := (x2 + 1)) (lv1 := [(2, .int (x2 + 1)), (3, .int y22), (0, .ref a0), (1, .int x1)]) dX11_findFar_134 rfl rfl (by decide) rfl ?_
    refine jx_goto (tgt := 72) dX11_findFar_137 (by decide) ?_
    exact jx_lv [2, 3, 0] rfl h
  replace h := h.2 c24
  refine jx_iload_n 0 dX11_findFar_123 rfl rfl ?_
  refine jx_goto (tgt := 133) dX11_findFar_124 (by decide) ?_
  refine jx_iast dX11_findFar_133 hk19 hi23 ?_
  refine jx_iinc 3 (v := (x2 + 1)) (lv1 := [(2, .int (x2 + 1)), (3, .int y22), (0, .ref a0), (1, .int x1)]) dX11_findFar_134 rfl rfl (by decide) rfl ?_
  refine jx_goto (tgt := 72) dX11_findFar_137 (by decide) ?_
  exact jx_lv [2, 3, 0] rfl h
set_option maxRecDepth 100000 in
set_option maxHeartbeats 4000000 in
theorem T_X11_far {E : jEnv} {d : Nat} {Q : Int32 → jM → Prop} {a0 : Nat} {x1 : Int32} {x2 : Int32} {S : jM} (h : ((jist x1) = 0 → Q (-1000000001) S) ∧ (¬ (jist x1) = 0 → ((jist x2) = 0 → Q (-1000000001) S) ∧ (¬ (jist x2) = 0 → jk S a0 = 11 ∧ jFv E mX11_findFar d 0 0 [.ref a0] S (fun S10 => jk S10 a0 = 11 ∧ ∃ b12, jr S10 a0 12 = some b12 ∧ (jk S10 b12 = 12 ∧ vp_in ((6 * x1) + x2) (jl S10 b12) ∧ (((ji S10 b12 (Int32.toNatClampNeg ((6 * x1) + x2))) = 9999 → Q (-1000000005) S10) ∧ (¬ (ji S10 b12 (Int32.toNatClampNeg ((6 * x1) + x2))) = 9999 → Q (ji S10 b12 (Int32.toNatClampNeg ((6 * x1) + x2))) S10))))))) : jFi E mX11_far (d + 1) 0 0 [.ref a0, .int x1, .int x2] S Q := by
  refine jF_of (by decide) (jle rfl) ?_
  refine jx_lv (lv1 := [(0, .ref a0), (1, .int x1), (2, .int x2)]) [0, 1, 2] rfl ?_
  refine jx_iload_n 1 dX11_far_0 rfl rfl ?_
  refine jx_callSi (M' := mX11_isTown) (As := [.int x1]) jo_X11_isTown jwM_X11_78 jwS_X11_isTown dX11_far_1 (jRok_m _ _ _) rfl (jle rfl) ⟨jle rfl, jle rfl⟩ (c_X11_isTown (Q := fun v S' => v = (jist x1) ∧ S = S') ⟨rfl, rfl⟩) (fun r1 S2 hq3 => ?_)
  obtain ⟨rfl, rfl⟩ := hq3
  refine jx_if_eq (tgt := 14) dX11_far_4 (by decide) (fun c4 => ?_) (fun c4 => ?_)
  · replace h := h.1 c4
    refine jx_ldc jwC_X11_87 dX11_far_14 ?_
    exact jx_iret dX11_far_16 rfl rfl (jle rfl) (jle rfl) ⟨_, rfl, h⟩
  replace h := h.2 c4
  refine jx_iload_n 2 dX11_far_7 rfl rfl ?_
  refine jx_callSi (M' := mX11_isTown) (As := [.int x2]) jo_X11_isTown jwM_X11_78 jwS_X11_isTown dX11_far_8 (jRok_m _ _ _) rfl (jle rfl) ⟨jle rfl, jle rfl⟩ (c_X11_isTown (Q := fun v S' => v = (jist x2) ∧ S = S') ⟨rfl, rfl⟩) (fun r5 S6 hq7 => ?_)
  obtain ⟨rfl, rfl⟩ := hq7
  refine jx_if_ne (tgt := 17) dX11_far_11 (by decide) (fun c8 => ?_) (fun c8 => ?_)
  · replace h := h.2 c8
    refine jx_aload_n 0 dX11_far_17 rfl rfl ?_
    obtain ⟨hk9, h⟩ := h
    refine jx_callVv (M' := mX11_findFar) (As := []) jo_X11_findFar jc_11 rfl jwM_X11_137 jwN_X11_findFar jwX_X11_findFar dX11_far_18 (jRok_m _ _ _) rfl (jle rfl) ⟨jle rfl, jle rfl⟩ hk9 h (fun S10 h => ?_)
    refine jx_aload_n 0 dX11_far_21 rfl rfl ?_
    obtain ⟨hk11, h⟩ := h
    obtain ⟨b12, hb12, h⟩ := h
    refine jx_getr jc_11 (j := 12) (by decide) rfl jwF_X11_43 dX11_far_22 hk11 hb12 ?_
    refine jx_bipush (v := 6) dX11_far_25 (by decide) ?_
    refine jx_iload_n 1 dX11_far_27 rfl rfl ?_
    refine jx_imul dX11_far_28 ?_
    refine jx_iload_n 2 dX11_far_29 rfl rfl ?_
    refine jx_iadd dX11_far_30 ?_
    obtain ⟨hk13, h⟩ := h
    obtain ⟨hi14, h⟩ := h
    refine jx_iald dX11_far_31 hk13 hi14 ?_
    refine jx_istore_n (lv1 := [(3, .int (ji S10 b12 (Int32.toNatClampNeg ((6 * x1) + x2)))), (0, .ref a0), (1, .int x1), (2, .int x2)]) dX11_far_32 rfl (by decide) rfl ?_
    refine jx_iload_n 0 dX11_far_33 rfl rfl ?_
    refine jx_sipush (v := 9999) dX11_far_34 (by decide) ?_
    refine jx_icmp_ne (tgt := 45) dX11_far_37 (by decide) (fun c15 => ?_) (fun c15 => ?_)
    · replace h := h.2 c15
      refine jx_iload_n 0 dX11_far_45 rfl rfl ?_
      exact jx_iret dX11_far_46 rfl rfl (jle rfl) (jle rfl) ⟨_, rfl, h⟩
    replace h := h.1 c15
    refine jx_ldc jwC_X11_70 dX11_far_40 ?_
    refine jx_goto (tgt := 46) dX11_far_42 (by decide) ?_
    exact jx_iret dX11_far_46 rfl rfl (jle rfl) (jle rfl) ⟨_, rfl, h⟩
  replace h := h.1 c8
  refine jx_ldc jwC_X11_87 dX11_far_14 ?_
  exact jx_iret dX11_far_16 rfl rfl (jle rfl) (jle rfl) ⟨_, rfl, h⟩
/-- X11_deal at its loop's head 17 -/
abbrev L_X11_deal_17 (E : jEnv) (d : Nat) (Q : Int32 → jM → Prop) (a0 : Nat) (x1 : Int32) (x2 : Int32) (S : jM) : Prop := jX E mX11_deal (jRm (d + 1) 0 0) (jZm E (fun r S' => ∃ v : Int32, r = some (.int v) ∧ Q v S') 0 0) 17 [(0, .ref a0), (1, .int x1), (2, .int x2)] [] S 0 0
set_option maxRecDepth 100000 in
set_option maxHeartbeats 4000000 in
theorem T_X11_deal {E : jEnv} {d : Nat} {Q : Int32 → jM → Prop} {a0 : Nat} {x1 : Int32} {S : jM} (h : ((jisin (Int32.toInt64 x1) 1 9) = 0 → Q (-1000000001) S) ∧ (¬ (jisin (Int32.toInt64 x1) 1 9) = 0 → L_X11_deal_17 E d Q a0 x1 0 S)) : jFi E mX11_deal (d + 1) 0 0 [.ref a0, .int x1] S Q := by
  refine jF_of (by decide) (jle rfl) ?_
  refine jx_lv (lv1 := [(0, .ref a0), (1, .int x1)]) [0, 1] rfl ?_
  refine jx_iload_n 1 dX11_deal_0 rfl rfl ?_
  refine jx_i2l dX11_deal_1 ?_
  refine jx_lconst (v := 1) dX11_deal_2 (by decide) ?_
  refine jx_ldc2 jwL_X11_114 dX11_deal_3 ?_
  refine jx_callSi (M' := mX11_isIn) (As := [.long (Int32.toInt64 x1), .long 1, .long 9]) jo_X11_isIn jwM_X11_71 jwS_X11_isIn dX11_deal_6 (jRok_m _ _ _) rfl (jle rfl) ⟨jle rfl, jle rfl⟩ (c_X11_isIn (Q := fun v S' => v = (jisin (Int32.toInt64 x1) 1 9) ∧ S = S') ⟨rfl, rfl⟩) (fun r1 S2 hq3 => ?_)
  obtain ⟨rfl, rfl⟩ := hq3
  refine jx_if_ne (tgt := 15) dX11_deal_9 (by decide) (fun c4 => ?_) (fun c4 => ?_)
  · replace h := h.2 c4
    refine jx_iconst (v := 0) dX11_deal_15 (by decide) ?_
    refine jx_istore_n (lv1 := [(2, .int 0), (0, .ref a0), (1, .int x1)]) dX11_deal_16 rfl (by decide) rfl ?_
    exact jx_lv [1, 2, 0] rfl h
  replace h := h.1 c4
  refine jx_ldc jwC_X11_87 dX11_deal_12 ?_
  exact jx_iret dX11_deal_14 rfl rfl (jle rfl) (jle rfl) ⟨_, rfl, h⟩
set_option maxRecDepth 100000 in
set_option maxHeartbeats 4000000 in
theorem T_X11_deal_17 {E : jEnv} {d : Nat} {Q : Int32 → jM → Prop} {a0 : Nat} {x1 : Int32} {x2 : Int32} {S : jM} (h : (x1 ≤ x2 → Q x2 S) ∧ (¬ x1 ≤ x2 → jk S a0 = 11 ∧ ∃ b7, jr S a0 0 = some b7 ∧ (jk S b7 = 12 ∧ vp_in 0 (jl S b7) ∧ ((9 ≤ (ji S b7 (Int32.toNatClampNeg 0)) → Q x2 S) ∧ (¬ 9 ≤ (ji S b7 (Int32.toNatClampNeg 0)) → jFi E mX11_drawn d 0 0 [.ref a0] S (fun r12 S11 => jk S11 a0 = 11 ∧ jFi E mX11_drawn d 0 0 [.ref a0] S11 (fun r15 S14 => jk S14 a0 = 11 ∧ jFi E mX11_drawn d 0 0 [.ref a0] S14 (fun r18 S17 => jk S17 a0 = 11 ∧ jFi E mX11_drawn d 0 0 [.ref a0] S17 (fun r21 S20 => jk S20 a0 = 11 ∧ jFv E mX11_comes d 0 0 [.ref a0, .int (jrem r12 6), .int (jrem r15 6), .int (jrem r18 10), .int (jrem r21 40)] S20 (fun S23 => L_X11_deal_17 E d Q a0 x1 (x2 + 1) S23)))))))))) : L_X11_deal_17 E d Q a0 x1 x2 S := by
  show jX E mX11_deal (jRm (d + 1) 0 0) (jZm E (fun r S' => ∃ v : Int32, r = some (.int v) ∧ Q v S') 0 0) 17 [(0, .ref a0), (1, .int x1), (2, .int x2)] [] S 0 0
  refine jx_iload_n 2 dX11_deal_17 rfl rfl ?_
  refine jx_iload_n 1 dX11_deal_18 rfl rfl ?_
  refine jx_icmp_ge (tgt := 81) dX11_deal_19 (by decide) (fun c5 => ?_) (fun c5 => ?_)
  · replace h := h.1 c5
    refine jx_iload_n 2 dX11_deal_81 rfl rfl ?_
    exact jx_iret dX11_deal_82 rfl rfl (jle rfl) (jle rfl) ⟨_, rfl, h⟩
  replace h := h.2 c5
  refine jx_aload_n 0 dX11_deal_22 rfl rfl ?_
  obtain ⟨hk6, h⟩ := h
  obtain ⟨b7, hb7, h⟩ := h
  refine jx_getr jc_11 (j := 0) (by decide) rfl jwF_X11_7 dX11_deal_23 hk6 hb7 ?_
  refine jx_iconst (v := 0) dX11_deal_26 (by decide) ?_
  obtain ⟨hk8, h⟩ := h
  obtain ⟨hi9, h⟩ := h
  refine jx_iald dX11_deal_27 hk8 hi9 ?_
  refine jx_bipush (v := 9) dX11_deal_28 (by decide) ?_
  refine jx_icmp_ge (tgt := 81) dX11_deal_30 (by decide) (fun c10 => ?_) (fun c10 => ?_)
  · replace h := h.1 c10
    refine jx_iload_n 2 dX11_deal_81 rfl rfl ?_
    exact jx_iret dX11_deal_82 rfl rfl (jle rfl) (jle rfl) ⟨_, rfl, h⟩
  replace h := h.2 c10
  refine jx_aload_n 0 dX11_deal_33 rfl rfl ?_
  refine jx_callVi (M' := mX11_drawn) (As := []) jo_X11_drawn jc_11 rfl jwM_X11_140 jwN_X11_drawn jwX_X11_drawn dX11_deal_34 (jRok_m _ _ _) rfl (jle rfl) ⟨jle rfl, jle rfl⟩ hk6 h (fun r12 S11 h => ?_)
  refine jx_bipush (v := 6) dX11_deal_37 (by decide) ?_
  refine jx_irem dX11_deal_39 (by decide) ?_
  refine jx_istore_n (lv1 := [(3, .int (jrem r12 6)), (0, .ref a0), (1, .int x1), (2, .int x2)]) dX11_deal_40 rfl (by decide) rfl ?_
  refine jx_aload_n 1 dX11_deal_41 rfl rfl ?_
  obtain ⟨hk13, h⟩ := h
  refine jx_callVi (M' := mX11_drawn) (As := []) jo_X11_drawn jc_11 rfl jwM_X11_140 jwN_X11_drawn jwX_X11_drawn dX11_deal_42 (jRok_m _ _ _) rfl (jle rfl) ⟨jle rfl, jle rfl⟩ hk13 h (fun r15 S14 h => ?_)
  refine jx_bipush (v := 6) dX11_deal_45 (by decide) ?_
  refine jx_irem dX11_deal_47 (by decide) ?_
  refine jx_istore (lv1 := [(4, .int (jrem r15 6)), (3, .int (jrem r12 6)), (0, .ref a0), (1, .int x1), (2, .int x2)]) dX11_deal_48 (by decide) rfl ?_
  refine jx_aload_n 2 dX11_deal_50 rfl rfl ?_
  obtain ⟨hk16, h⟩ := h
  refine jx_callVi (M' := mX11_drawn) (As := []) jo_X11_drawn jc_11 rfl jwM_X11_140 jwN_X11_drawn jwX_X11_drawn dX11_deal_51 (jRok_m _ _ _) rfl (jle rfl) ⟨jle rfl, jle rfl⟩ hk16 h (fun r18 S17 h => ?_)
  refine jx_bipush (v := 10) dX11_deal_54 (by decide) ?_
  refine jx_irem dX11_deal_56 (by decide) ?_
  refine jx_istore (lv1 := [(5, .int (jrem r18 10)), (4, .int (jrem r15 6)), (3, .int (jrem r12 6)), (0, .ref a0), (1, .int x1), (2, .int x2)]) dX11_deal_57 (by decide) rfl ?_
  refine jx_aload_n 3 dX11_deal_59 rfl rfl ?_
  refine jx_iload_n 2 dX11_deal_60 rfl rfl ?_
  refine jx_iload 1 dX11_deal_61 rfl ?_
  refine jx_iload 0 dX11_deal_63 rfl ?_
  refine jx_aload_n 3 dX11_deal_65 rfl rfl ?_
  obtain ⟨hk19, h⟩ := h
  refine jx_callVi (M' := mX11_drawn) (As := []) jo_X11_drawn jc_11 rfl jwM_X11_140 jwN_X11_drawn jwX_X11_drawn dX11_deal_66 (jRok_m _ _ _) rfl (jle rfl) ⟨jle rfl, jle rfl⟩ hk19 h (fun r21 S20 h => ?_)
  refine jx_bipush (v := 40) dX11_deal_69 (by decide) ?_
  refine jx_irem dX11_deal_71 (by decide) ?_
  obtain ⟨hk22, h⟩ := h
  refine jx_callVv (M' := mX11_comes) (As := [.int (jrem r12 6), .int (jrem r15 6), .int (jrem r18 10), .int (jrem r21 40)]) jo_X11_comes jc_11 rfl jwM_X11_89 jwN_X11_comes jwX_X11_comes dX11_deal_72 (jRok_m _ _ _) rfl (jle rfl) ⟨jle rfl, jle rfl⟩ hk22 h (fun S23 h => ?_)
  refine jx_iinc 5 (v := (x2 + 1)) (lv1 := [(2, .int (x2 + 1)), (5, .int (jrem r18 10)), (4, .int (jrem r15 6)), (3, .int (jrem r12 6)), (0, .ref a0), (1, .int x1)]) dX11_deal_75 rfl rfl (by decide) rfl ?_
  refine jx_goto (tgt := 17) dX11_deal_78 (by decide) ?_
  exact jx_lv [4, 5, 0] rfl h
set_option maxRecDepth 100000 in
set_option maxHeartbeats 4000000 in
theorem T_X11_seed {E : jEnv} {d : Nat} {Q : Int32 → jM → Prop} {a0 : Nat} {x1 : Int32} {S : jM} (h : jk S a0 = 11 ∧ jFi E mX11_becomes d 0 0 [.ref a0, .int 8, .int x1] S (fun r3 S2 => Q r3 S2)) : jFi E mX11_seed (d + 1) 0 0 [.ref a0, .int x1] S Q := by
  refine jF_of (by decide) (jle rfl) ?_
  refine jx_lv (lv1 := [(0, .ref a0), (1, .int x1)]) [0, 1] rfl ?_
  refine jx_aload_n 0 dX11_seed_0 rfl rfl ?_
  refine jx_bipush (v := 8) dX11_seed_1 (by decide) ?_
  refine jx_iload_n 1 dX11_seed_3 rfl rfl ?_
  obtain ⟨hk1, h⟩ := h
  refine jx_callVi (M' := mX11_becomes) (As := [.int 8, .int x1]) jo_X11_becomes jc_11 rfl jwM_X11_130 jwN_X11_becomes jwX_X11_becomes dX11_seed_4 (jRok_m _ _ _) rfl (jle rfl) ⟨jle rfl, jle rfl⟩ hk1 h (fun r3 S2 h => ?_)
  exact jx_iret dX11_seed_7 rfl rfl (jle rfl) (jle rfl) ⟨_, rfl, h⟩
set_option maxRecDepth 100000 in
set_option maxHeartbeats 4000000 in
theorem T_X11_apprentice {E : jEnv} {d : Nat} {Q : Int32 → jM → Prop} {a0 : Nat} {x1 : Int32} {S : jM} (h : ((jisin (Int32.toInt64 x1) 0 3) = 0 → Q (-1000000001) S) ∧ (¬ (jisin (Int32.toInt64 x1) 0 3) = 0 → jk S a0 = 11 ∧ ∃ b6, jr S a0 0 = some b6 ∧ (jk S b6 = 12 ∧ vp_in (3 + x1) (jl S b6) ∧ (Q (ji S b6 (Int32.toNatClampNeg (3 + x1))) S)))) : jFi E mX11_apprentice (d + 1) 0 0 [.ref a0, .int x1] S Q := by
  refine jF_of (by decide) (jle rfl) ?_
  refine jx_lv (lv1 := [(0, .ref a0), (1, .int x1)]) [0, 1] rfl ?_
  refine jx_iload_n 1 dX11_apprentice_0 rfl rfl ?_
  refine jx_i2l dX11_apprentice_1 ?_
  refine jx_lconst (v := 0) dX11_apprentice_2 (by decide) ?_
  refine jx_ldc2 jwL_X11_144 dX11_apprentice_3 ?_
  refine jx_callSi (M' := mX11_isIn) (As := [.long (Int32.toInt64 x1), .long 0, .long 3]) jo_X11_isIn jwM_X11_71 jwS_X11_isIn dX11_apprentice_6 (jRok_m _ _ _) rfl (jle rfl) ⟨jle rfl, jle rfl⟩ (c_X11_isIn (Q := fun v S' => v = (jisin (Int32.toInt64 x1) 0 3) ∧ S = S') ⟨rfl, rfl⟩) (fun r1 S2 hq3 => ?_)
  obtain ⟨rfl, rfl⟩ := hq3
  refine jx_if_eq (tgt := 23) dX11_apprentice_9 (by decide) (fun c4 => ?_) (fun c4 => ?_)
  · replace h := h.1 c4
    refine jx_ldc jwC_X11_87 dX11_apprentice_23 ?_
    exact jx_iret dX11_apprentice_25 rfl rfl (jle rfl) (jle rfl) ⟨_, rfl, h⟩
  replace h := h.2 c4
  refine jx_aload_n 0 dX11_apprentice_12 rfl rfl ?_
  obtain ⟨hk5, h⟩ := h
  obtain ⟨b6, hb6, h⟩ := h
  refine jx_getr jc_11 (j := 0) (by decide) rfl jwF_X11_7 dX11_apprentice_13 hk5 hb6 ?_
  refine jx_iconst (v := 3) dX11_apprentice_16 (by decide) ?_
  refine jx_iload_n 1 dX11_apprentice_17 rfl rfl ?_
  refine jx_iadd dX11_apprentice_18 ?_
  obtain ⟨hk7, h⟩ := h
  obtain ⟨hi8, h⟩ := h
  refine jx_iald dX11_apprentice_19 hk7 hi8 ?_
  refine jx_goto (tgt := 25) dX11_apprentice_20 (by decide) ?_
  exact jx_iret dX11_apprentice_25 rfl rfl (jle rfl) (jle rfl) ⟨_, rfl, h⟩
set_option maxRecDepth 100000 in
set_option maxHeartbeats 4000000 in
theorem T_X11_has {E : jEnv} {d : Nat} {Q : Int32 → jM → Prop} {a0 : Nat} {x1 : Int32} {x2 : Int32} {S : jM} (h : ((jisin (Int32.toInt64 x1) 2 3) = 0 → Q (-1000000001) S) ∧ (¬ (jisin (Int32.toInt64 x1) 2 3) = 0 → (x1 = 2 → ((jisin (Int32.toInt64 x2) 0 9999) = 0 → Q (-1000000001) S) ∧ (¬ (jisin (Int32.toInt64 x2) 0 9999) = 0 → jk S a0 = 11 ∧ jFi E mX11_becomes d 0 0 [.ref a0, .int (3 + x1), .int x2] S (fun r19 S18 => Q r19 S18))) ∧ (¬ x1 = 2 → ((jisin (Int32.toInt64 x2) 0 99) = 0 → Q (-1000000001) S) ∧ (¬ (jisin (Int32.toInt64 x2) 0 99) = 0 → jk S a0 = 11 ∧ jFi E mX11_becomes d 0 0 [.ref a0, .int (3 + x1), .int x2] S (fun r12 S11 => Q r12 S11))))) : jFi E mX11_has (d + 1) 0 0 [.ref a0, .int x1, .int x2] S Q := by
  refine jF_of (by decide) (jle rfl) ?_
  refine jx_lv (lv1 := [(0, .ref a0), (1, .int x1), (2, .int x2)]) [0, 1, 2] rfl ?_
  refine jx_iload_n 1 dX11_has_0 rfl rfl ?_
  refine jx_i2l dX11_has_1 ?_
  refine jx_ldc2 jwL_X11_146 dX11_has_2 ?_
  refine jx_ldc2 jwL_X11_144 dX11_has_5 ?_
  refine jx_callSi (M' := mX11_isIn) (As := [.long (Int32.toInt64 x1), .long 2, .long 3]) jo_X11_isIn jwM_X11_71 jwS_X11_isIn dX11_has_8 (jRok_m _ _ _) rfl (jle rfl) ⟨jle rfl, jle rfl⟩ (c_X11_isIn (Q := fun v S' => v = (jisin (Int32.toInt64 x1) 2 3) ∧ S = S') ⟨rfl, rfl⟩) (fun r1 S2 hq3 => ?_)
  obtain ⟨rfl, rfl⟩ := hq3
  refine jx_if_eq (tgt := 48) dX11_has_11 (by decide) (fun c4 => ?_) (fun c4 => ?_)
  · replace h := h.1 c4
    refine jx_ldc jwC_X11_87 dX11_has_48 ?_
    exact jx_iret dX11_has_50 rfl rfl (jle rfl) (jle rfl) ⟨_, rfl, h⟩
  replace h := h.2 c4
  refine jx_iload_n 2 dX11_has_14 rfl rfl ?_
  refine jx_i2l dX11_has_15 ?_
  refine jx_lconst (v := 0) dX11_has_16 (by decide) ?_
  refine jx_iload_n 1 dX11_has_17 rfl rfl ?_
  refine jx_iconst (v := 2) dX11_has_18 (by decide) ?_
  refine jx_icmp_ne (tgt := 28) dX11_has_19 (by decide) (fun c5 => ?_) (fun c5 => ?_)
  · replace h := h.2 c5
    refine jx_ldc2 jwL_X11_85 dX11_has_28 ?_
    refine jx_callSi (M' := mX11_isIn) (As := [.long (Int32.toInt64 x2), .long 0, .long 99]) jo_X11_isIn jwM_X11_71 jwS_X11_isIn dX11_has_31 (jRok_m _ _ _) rfl (jle rfl) ⟨jle rfl, jle rfl⟩ (c_X11_isIn (Q := fun v S' => v = (jisin (Int32.toInt64 x2) 0 99) ∧ S = S') ⟨rfl, rfl⟩) (fun r6 S7 hq8 => ?_)
    obtain ⟨rfl, rfl⟩ := hq8
    refine jx_if_eq (tgt := 48) dX11_has_34 (by decide) (fun c9 => ?_) (fun c9 => ?_)
    · replace h := h.1 c9
      refine jx_ldc jwC_X11_87 dX11_has_48 ?_
      exact jx_iret dX11_has_50 rfl rfl (jle rfl) (jle rfl) ⟨_, rfl, h⟩
    replace h := h.2 c9
    refine jx_aload_n 0 dX11_has_37 rfl rfl ?_
    refine jx_iconst (v := 3) dX11_has_38 (by decide) ?_
    refine jx_iload_n 1 dX11_has_39 rfl rfl ?_
    refine jx_iadd dX11_has_40 ?_
    refine jx_iload_n 2 dX11_has_41 rfl rfl ?_
    obtain ⟨hk10, h⟩ := h
    refine jx_callVi (M' := mX11_becomes) (As := [.int (3 + x1), .int x2]) jo_X11_becomes jc_11 rfl jwM_X11_130 jwN_X11_becomes jwX_X11_becomes dX11_has_42 (jRok_m _ _ _) rfl (jle rfl) ⟨jle rfl, jle rfl⟩ hk10 h (fun r12 S11 h => ?_)
    refine jx_goto (tgt := 50) dX11_has_45 (by decide) ?_
    exact jx_iret dX11_has_50 rfl rfl (jle rfl) (jle rfl) ⟨_, rfl, h⟩
  replace h := h.1 c5
  refine jx_ldc2 jwL_X11_148 dX11_has_22 ?_
  refine jx_goto (tgt := 31) dX11_has_25 (by decide) ?_
  refine jx_callSi (M' := mX11_isIn) (As := [.long (Int32.toInt64 x2), .long 0, .long 9999]) jo_X11_isIn jwM_X11_71 jwS_X11_isIn dX11_has_31 (jRok_m _ _ _) rfl (jle rfl) ⟨jle rfl, jle rfl⟩ (c_X11_isIn (Q := fun v S' => v = (jisin (Int32.toInt64 x2) 0 9999) ∧ S = S') ⟨rfl, rfl⟩) (fun r13 S14 hq15 => ?_)
  obtain ⟨rfl, rfl⟩ := hq15
  refine jx_if_eq (tgt := 48) dX11_has_34 (by decide) (fun c16 => ?_) (fun c16 => ?_)
  · replace h := h.1 c16
    refine jx_ldc jwC_X11_87 dX11_has_48 ?_
    exact jx_iret dX11_has_50 rfl rfl (jle rfl) (jle rfl) ⟨_, rfl, h⟩
  replace h := h.2 c16
  refine jx_aload_n 0 dX11_has_37 rfl rfl ?_
  refine jx_iconst (v := 3) dX11_has_38 (by decide) ?_
  refine jx_iload_n 1 dX11_has_39 rfl rfl ?_
  refine jx_iadd dX11_has_40 ?_
  refine jx_iload_n 2 dX11_has_41 rfl rfl ?_
  obtain ⟨hk17, h⟩ := h
  refine jx_callVi (M' := mX11_becomes) (As := [.int (3 + x1), .int x2]) jo_X11_becomes jc_11 rfl jwM_X11_130 jwN_X11_becomes jwX_X11_becomes dX11_has_42 (jRok_m _ _ _) rfl (jle rfl) ⟨jle rfl, jle rfl⟩ hk17 h (fun r19 S18 h => ?_)
  refine jx_goto (tgt := 50) dX11_has_45 (by decide) ?_
  exact jx_iret dX11_has_50 rfl rfl (jle rfl) (jle rfl) ⟨_, rfl, h⟩
set_option maxRecDepth 100000 in
set_option maxHeartbeats 4000000 in
theorem T_X11_doesKnow {E : jEnv} {d : Nat} {Q : Int32 → jM → Prop} {a0 : Nat} {x1 : Int32} {S : jM} (h : jk S a0 = 11 ∧ ∃ b2, jr S a0 0 = some b2 ∧ (jk S b2 = 12 ∧ vp_in 4 (jl S b2) ∧ ((((jshr (ji S b2 (Int32.toNatClampNeg 4)) x1) &&& 1) = 1 → Q 1 S) ∧ (¬ ((jshr (ji S b2 (Int32.toNatClampNeg 4)) x1) &&& 1) = 1 → Q 0 S)))) : jFi E mX11_doesKnow d 0 0 [.ref a0, .int x1] S Q := by
  refine jF_of (by decide) (jle rfl) ?_
  refine jx_lv (lv1 := [(0, .ref a0), (1, .int x1)]) [0, 1] rfl ?_
  refine jx_aload_n 0 dX11_doesKnow_0 rfl rfl ?_
  obtain ⟨hk1, h⟩ := h
  obtain ⟨b2, hb2, h⟩ := h
  refine jx_getr jc_11 (j := 0) (by decide) rfl jwF_X11_7 dX11_doesKnow_1 hk1 hb2 ?_
  refine jx_iconst (v := 4) dX11_doesKnow_4 (by decide) ?_
  obtain ⟨hk3, h⟩ := h
  obtain ⟨hi4, h⟩ := h
  refine jx_iald dX11_doesKnow_5 hk3 hi4 ?_
  refine jx_iload_n 1 dX11_doesKnow_6 rfl rfl ?_
  refine jx_ishr dX11_doesKnow_7 ?_
  refine jx_iconst (v := 1) dX11_doesKnow_8 (by decide) ?_
  refine jx_iand dX11_doesKnow_9 ?_
  refine jx_iconst (v := 1) dX11_doesKnow_10 (by decide) ?_
  refine jx_icmp_ne (tgt := 18) dX11_doesKnow_11 (by decide) (fun c5 => ?_) (fun c5 => ?_)
  · replace h := h.2 c5
    refine jx_iconst (v := 0) dX11_doesKnow_18 (by decide) ?_
    exact jx_iret dX11_doesKnow_19 rfl (by decide) (jle rfl) (jle rfl) ⟨_, rfl, h⟩
  replace h := h.1 c5
  refine jx_iconst (v := 1) dX11_doesKnow_14 (by decide) ?_
  refine jx_goto (tgt := 19) dX11_doesKnow_15 (by decide) ?_
  exact jx_iret dX11_doesKnow_19 rfl (by decide) (jle rfl) (jle rfl) ⟨_, rfl, h⟩
set_option maxRecDepth 100000 in
set_option maxHeartbeats 4000000 in
theorem T_X11_knows {E : jEnv} {d : Nat} {Q : Int32 → jM → Prop} {a0 : Nat} {x1 : Int32} {x2 : Int32} {S : jM} (h : ((jisg x1) = 0 → Q (-1000000001) S) ∧ (¬ (jisg x1) = 0 → ((jisin (Int32.toInt64 x2) 0 1) = 0 → Q (-1000000001) S) ∧ (¬ (jisin (Int32.toInt64 x2) 0 1) = 0 → jk S a0 = 11 ∧ jFi E mX11_doesKnow d 0 0 [.ref a0, .int x1] S (fun r11 S10 => (r11 = 0 → Q (-1000000002) S10) ∧ (¬ r11 = 0 → jk S10 a0 = 11 ∧ ∃ b14, jr S10 a0 0 = some b14 ∧ ((x2 = 0 → jk S10 b14 = 12 ∧ vp_in (16 + x1) (jl S10 b14) ∧ (Q (ji S10 b14 (Int32.toNatClampNeg (16 + x1))) S10)) ∧ (¬ x2 = 0 → jk S10 b14 = 12 ∧ vp_in (26 + x1) (jl S10 b14) ∧ (Q (ji S10 b14 (Int32.toNatClampNeg (26 + x1))) S10)))))))) : jFi E mX11_knows (d + 1) 0 0 [.ref a0, .int x1, .int x2] S Q := by
  refine jF_of (by decide) (jle rfl) ?_
  refine jx_lv (lv1 := [(0, .ref a0), (1, .int x1), (2, .int x2)]) [0, 1, 2] rfl ?_
  refine jx_iload_n 1 dX11_knows_0 rfl rfl ?_
  refine jx_callSi (M' := mX11_isGesture) (As := [.int x1]) jo_X11_isGesture jwM_X11_82 jwS_X11_isGesture dX11_knows_1 (jRok_m _ _ _) rfl (jle rfl) ⟨jle rfl, jle rfl⟩ (c_X11_isGesture (Q := fun v S' => v = (jisg x1) ∧ S = S') ⟨rfl, rfl⟩) (fun r1 S2 hq3 => ?_)
  obtain ⟨rfl, rfl⟩ := hq3
  refine jx_if_eq (tgt := 17) dX11_knows_4 (by decide) (fun c4 => ?_) (fun c4 => ?_)
  · replace h := h.1 c4
    refine jx_ldc jwC_X11_87 dX11_knows_17 ?_
    exact jx_iret dX11_knows_19 rfl rfl (jle rfl) (jle rfl) ⟨_, rfl, h⟩
  replace h := h.2 c4
  refine jx_iload_n 2 dX11_knows_7 rfl rfl ?_
  refine jx_i2l dX11_knows_8 ?_
  refine jx_lconst (v := 0) dX11_knows_9 (by decide) ?_
  refine jx_lconst (v := 1) dX11_knows_10 (by decide) ?_
  refine jx_callSi (M' := mX11_isIn) (As := [.long (Int32.toInt64 x2), .long 0, .long 1]) jo_X11_isIn jwM_X11_71 jwS_X11_isIn dX11_knows_11 (jRok_m _ _ _) rfl (jle rfl) ⟨jle rfl, jle rfl⟩ (c_X11_isIn (Q := fun v S' => v = (jisin (Int32.toInt64 x2) 0 1) ∧ S = S') ⟨rfl, rfl⟩) (fun r5 S6 hq7 => ?_)
  obtain ⟨rfl, rfl⟩ := hq7
  refine jx_if_ne (tgt := 20) dX11_knows_14 (by decide) (fun c8 => ?_) (fun c8 => ?_)
  · replace h := h.2 c8
    refine jx_aload_n 0 dX11_knows_20 rfl rfl ?_
    refine jx_iload_n 1 dX11_knows_21 rfl rfl ?_
    obtain ⟨hk9, h⟩ := h
    refine jx_callVi (M' := mX11_doesKnow) (As := [.int x1]) jo_X11_doesKnow jc_11 rfl jwM_X11_150 jwN_X11_doesKnow jwX_X11_doesKnow dX11_knows_22 (jRok_m _ _ _) rfl (jle rfl) ⟨jle rfl, jle rfl⟩ hk9 h (fun r11 S10 h => ?_)
    refine jx_if_ne (tgt := 33) dX11_knows_25 (by decide) (fun c12 => ?_) (fun c12 => ?_)
    · replace h := h.2 c12
      refine jx_aload_n 0 dX11_knows_33 rfl rfl ?_
      obtain ⟨hk13, h⟩ := h
      obtain ⟨b14, hb14, h⟩ := h
      refine jx_getr jc_11 (j := 0) (by decide) rfl jwF_X11_7 dX11_knows_34 hk13 hb14 ?_
      refine jx_iload_n 2 dX11_knows_37 rfl rfl ?_
      refine jx_if_ne (tgt := 46) dX11_knows_38 (by decide) (fun c15 => ?_) (fun c15 => ?_)
      · replace h := h.2 c15
        refine jx_bipush (v := 26) dX11_knows_46 (by decide) ?_
        refine jx_iload_n 1 dX11_knows_48 rfl rfl ?_
        refine jx_iadd dX11_knows_49 ?_
        obtain ⟨hk16, h⟩ := h
        obtain ⟨hi17, h⟩ := h
        refine jx_iald dX11_knows_50 hk16 hi17 ?_
        exact jx_iret dX11_knows_51 rfl rfl (jle rfl) (jle rfl) ⟨_, rfl, h⟩
      replace h := h.1 c15
      refine jx_bipush (v := 16) dX11_knows_41 (by decide) ?_
      refine jx_goto (tgt := 48) dX11_knows_43 (by decide) ?_
      refine jx_iload_n 1 dX11_knows_48 rfl rfl ?_
      refine jx_iadd dX11_knows_49 ?_
      obtain ⟨hk18, h⟩ := h
      obtain ⟨hi19, h⟩ := h
      refine jx_iald dX11_knows_50 hk18 hi19 ?_
      exact jx_iret dX11_knows_51 rfl rfl (jle rfl) (jle rfl) ⟨_, rfl, h⟩
    replace h := h.1 c12
    refine jx_ldc jwC_X11_153 dX11_knows_28 ?_
    refine jx_goto (tgt := 51) dX11_knows_30 (by decide) ?_
    exact jx_iret dX11_knows_51 rfl rfl (jle rfl) (jle rfl) ⟨_, rfl, h⟩
  replace h := h.1 c8
  refine jx_ldc jwC_X11_87 dX11_knows_17 ?_
  exact jx_iret dX11_knows_19 rfl rfl (jle rfl) (jle rfl) ⟨_, rfl, h⟩
/-- X11_goesBy at its loop's head 23 -/
abbrev L_X11_goesBy_23 (E : jEnv) (d : Nat) (Q : jM → Prop) (a0 : Nat) (x1 : Int32) (x2 : Int32) (S : jM) : Prop := jX E mX11_goesBy (jRm (d + 1) 0 0) (jZm E (fun r S' => r = none ∧ Q S') 0 0) 23 [(0, .ref a0), (1, .int x1), (2, .int x2)] [] S 0 0
set_option maxRecDepth 100000 in
set_option maxHeartbeats 4000000 in
theorem T_X11_goesBy {E : jEnv} {d : Nat} {Q : jM → Prop} {a0 : Nat} {x1 : Int32} {S : jM} (h : jk S a0 = 11 ∧ ∃ b2, jr S a0 0 = some b2 ∧ (jk S b2 = 12 ∧ vp_in 2 (jl S b2) ∧ ((L_X11_goesBy_23 E d Q a0 x1 0 (jput S b2 (Int32.toNatClampNeg 2) (jclamp ((ji S b2 (Int32.toNatClampNeg 2)) + x1) 0 9999)))))) : jFv E mX11_goesBy (d + 1) 0 0 [.ref a0, .int x1] S Q := by
  refine jF_of (by decide) (jle rfl) ?_
  refine jx_lv (lv1 := [(0, .ref a0), (1, .int x1)]) [0, 1] rfl ?_
  refine jx_aload_n 0 dX11_goesBy_0 rfl rfl ?_
  obtain ⟨hk1, h⟩ := h
  obtain ⟨b2, hb2, h⟩ := h
  refine jx_getr jc_11 (j := 0) (by decide) rfl jwF_X11_7 dX11_goesBy_1 hk1 hb2 ?_
  refine jx_iconst (v := 2) dX11_goesBy_4 (by decide) ?_
  refine jx_aload_n 0 dX11_goesBy_5 rfl rfl ?_
  refine jx_getr jc_11 (j := 0) (by decide) rfl jwF_X11_7 dX11_goesBy_6 hk1 hb2 ?_
  refine jx_iconst (v := 2) dX11_goesBy_9 (by decide) ?_
  obtain ⟨hk3, h⟩ := h
  obtain ⟨hi4, h⟩ := h
  refine jx_iald dX11_goesBy_10 hk3 hi4 ?_
  refine jx_iload_n 1 dX11_goesBy_11 rfl rfl ?_
  refine jx_iadd dX11_goesBy_12 ?_
  refine jx_iconst (v := 0) dX11_goesBy_13 (by decide) ?_
  refine jx_sipush (v := 9999) dX11_goesBy_14 (by decide) ?_
  refine jx_callSi (M' := mX11_within) (As := [.int ((ji S b2 (Int32.toNatClampNeg 2)) + x1), .int 0, .int 9999]) jo_X11_within jwM_X11_104 jwS_X11_within dX11_goesBy_17 (jRok_m _ _ _) rfl (jle rfl) ⟨jle rfl, jle rfl⟩ (c_X11_within (Q := fun v S' => v = (jclamp ((ji S b2 (Int32.toNatClampNeg 2)) + x1) 0 9999) ∧ S = S') ⟨rfl, rfl⟩) (fun r5 S6 hq7 => ?_)
  obtain ⟨rfl, rfl⟩ := hq7
  refine jx_iast dX11_goesBy_20 hk3 hi4 ?_
  refine jx_iconst (v := 0) dX11_goesBy_21 (by decide) ?_
  refine jx_istore_n (lv1 := [(2, .int 0), (0, .ref a0), (1, .int x1)]) dX11_goesBy_22 rfl (by decide) rfl ?_
  exact jx_lv [1, 2, 0] rfl h
set_option maxRecDepth 100000 in
set_option maxHeartbeats 4000000 in
theorem T_X11_goesBy_23 {E : jEnv} {d : Nat} {Q : jM → Prop} {a0 : Nat} {x1 : Int32} {x2 : Int32} {S : jM} (h : (10 ≤ x2 → Q S) ∧ (¬ 10 ≤ x2 → jk S a0 = 11 ∧ jFi E mX11_doesKnow d 0 0 [.ref a0, .int x2] S (fun r11 S10 => (r11 = 0 → L_X11_goesBy_23 E d Q a0 x1 (x2 + 1) S10) ∧ (¬ r11 = 0 → jk S10 a0 = 11 ∧ ∃ b14, jr S10 a0 0 = some b14 ∧ (jk S10 b14 = 12 ∧ vp_in (26 + x2) (jl S10 b14) ∧ ((vp_in 4 (jl S10 b14) ∧ (vp_in 6 (jl S10 b14) ∧ (((ji (jput S10 b14 (Int32.toNatClampNeg (26 + x2)) ((ji S10 b14 (Int32.toNatClampNeg (26 + x2))) + x1)) b14 (Int32.toNatClampNeg 6)) ≤ 0 → (L_X11_goesBy_23 E d Q a0 x1 (x2 + 1) (jput (jput S10 b14 (Int32.toNatClampNeg (26 + x2)) ((ji S10 b14 (Int32.toNatClampNeg (26 + x2))) + x1)) b14 (Int32.toNatClampNeg 4) ((ji (jput S10 b14 (Int32.toNatClampNeg (26 + x2)) ((ji S10 b14 (Int32.toNatClampNeg (26 + x2))) + x1)) b14 (Int32.toNatClampNeg 4)) &&& (-1))))) ∧ (¬ (ji (jput S10 b14 (Int32.toNatClampNeg (26 + x2)) ((ji S10 b14 (Int32.toNatClampNeg (26 + x2))) + x1)) b14 (Int32.toNatClampNeg 6)) ≤ 0 → (((((ji S10 b14 (Int32.toNatClampNeg (26 + x2))) + x1) ≤ (ji (jput S10 b14 (Int32.toNatClampNeg (26 + x2)) ((ji S10 b14 (Int32.toNatClampNeg (26 + x2))) + x1)) b14 (Int32.toNatClampNeg 6)) → (L_X11_goesBy_23 E d Q a0 x1 (x2 + 1) (jput (jput S10 b14 (Int32.toNatClampNeg (26 + x2)) ((ji S10 b14 (Int32.toNatClampNeg (26 + x2))) + x1)) b14 (Int32.toNatClampNeg 4) ((ji (jput S10 b14 (Int32.toNatClampNeg (26 + x2)) ((ji S10 b14 (Int32.toNatClampNeg (26 + x2))) + x1)) b14 (Int32.toNatClampNeg 4)) &&& (-1))))) ∧ (¬ ((ji S10 b14 (Int32.toNatClampNeg (26 + x2))) + x1) ≤ (ji (jput S10 b14 (Int32.toNatClampNeg (26 + x2)) ((ji S10 b14 (Int32.toNatClampNeg (26 + x2))) + x1)) b14 (Int32.toNatClampNeg 6)) → (L_X11_goesBy_23 E d Q a0 x1 (x2 + 1) (jput (jput S10 b14 (Int32.toNatClampNeg (26 + x2)) ((ji S10 b14 (Int32.toNatClampNeg (26 + x2))) + x1)) b14 (Int32.toNatClampNeg 4) ((ji (jput S10 b14 (Int32.toNatClampNeg (26 + x2)) ((ji S10 b14 (Int32.toNatClampNeg (26 + x2))) + x1)) b14 (Int32.toNatClampNeg 4)) &&& ((jshl 1 x2) ^^^ (-1)))))))))))))))))) : L_X11_goesBy_23 E d Q a0 x1 x2 S := by
  show jX E mX11_goesBy (jRm (d + 1) 0 0) (jZm E (fun r S' => r = none ∧ Q S') 0 0) 23 [(0, .ref a0), (1, .int x1), (2, .int x2)] [] S 0 0
  refine jx_iload_n 2 dX11_goesBy_23 rfl rfl ?_
  refine jx_bipush (v := 10) dX11_goesBy_24 (by decide) ?_
  refine jx_icmp_ge (tgt := 103) dX11_goesBy_26 (by decide) (fun c8 => ?_) (fun c8 => ?_)
  · replace h := h.1 c8
    exact jx_vret dX11_goesBy_103 rfl (jle rfl) (jle rfl) ⟨rfl, h⟩
  replace h := h.2 c8
  refine jx_aload_n 0 dX11_goesBy_29 rfl rfl ?_
  refine jx_iload_n 2 dX11_goesBy_30 rfl rfl ?_
  obtain ⟨hk9, h⟩ := h
  refine jx_callVi (M' := mX11_doesKnow) (As := [.int x2]) jo_X11_doesKnow jc_11 rfl jwM_X11_150 jwN_X11_doesKnow jwX_X11_doesKnow dX11_goesBy_31 (jRok_m _ _ _) rfl (jle rfl) ⟨jle rfl, jle rfl⟩ hk9 h (fun r11 S10 h => ?_)
  refine jx_if_eq (tgt := 97) dX11_goesBy_34 (by decide) (fun c12 => ?_) (fun c12 => ?_)
  · replace h := h.1 c12
    refine jx_iinc 2 (v := (x2 + 1)) (lv1 := [(2, .int (x2 + 1)), (0, .ref a0), (1, .int x1)]) dX11_goesBy_97 rfl rfl (by decide) rfl ?_
    refine jx_goto (tgt := 23) dX11_goesBy_100 (by decide) ?_
    exact jx_lv [1, 2, 0] rfl h
  replace h := h.2 c12
  refine jx_aload_n 0 dX11_goesBy_37 rfl rfl ?_
  obtain ⟨hk13, h⟩ := h
  obtain ⟨b14, hb14, h⟩ := h
  refine jx_getr jc_11 (j := 0) (by decide) rfl jwF_X11_7 dX11_goesBy_38 hk13 hb14 ?_
  refine jx_bipush (v := 26) dX11_goesBy_41 (by decide) ?_
  refine jx_iload_n 2 dX11_goesBy_43 rfl rfl ?_
  refine jx_iadd dX11_goesBy_44 ?_
  refine jx_dup2 dX11_goesBy_45 rfl rfl ?_
  obtain ⟨hk15, h⟩ := h
  obtain ⟨hi16, h⟩ := h
  refine jx_iald dX11_goesBy_46 hk15 hi16 ?_
  refine jx_iload_n 1 dX11_goesBy_47 rfl rfl ?_
  refine jx_iadd dX11_goesBy_48 ?_
  refine jx_iast dX11_goesBy_49 hk15 hi16 ?_
  refine jx_aload_n 0 dX11_goesBy_50 rfl rfl ?_
  refine jx_getr jc_11 (j := 0) (by decide) rfl jwF_X11_7 dX11_goesBy_51 hk13 hb14 ?_
  refine jx_iconst (v := 4) dX11_goesBy_54 (by decide) ?_
  refine jx_dup2 dX11_goesBy_55 rfl rfl ?_
  obtain ⟨hi17, h⟩ := h
  refine jx_iald dX11_goesBy_56 hk15 hi17 ?_
  refine jx_aload_n 0 dX11_goesBy_57 rfl rfl ?_
  refine jx_getr jc_11 (j := 0) (by decide) rfl jwF_X11_7 dX11_goesBy_58 hk13 hb14 ?_
  refine jx_bipush (v := 6) dX11_goesBy_61 (by decide) ?_
  obtain ⟨hi18, h⟩ := h
  refine jx_iald dX11_goesBy_63 hk15 hi18 ?_
  refine jx_if_le (tgt := 94) dX11_goesBy_64 (by decide) (fun c19 => ?_) (fun c19 => ?_)
  · replace h := h.1 c19
    refine jx_iconst (v := (-1)) dX11_goesBy_94 (by decide) ?_
    refine jx_iand dX11_goesBy_95 ?_
    refine jx_iast dX11_goesBy_96 hk15 hi17 ?_
    refine jx_iinc 2 (v := (x2 + 1)) (lv1 := [(2, .int (x2 + 1)), (0, .ref a0), (1, .int x1)]) dX11_goesBy_97 rfl rfl (by decide) rfl ?_
    refine jx_goto (tgt := 23) dX11_goesBy_100 (by decide) ?_
    exact jx_lv [1, 2, 0] rfl h
  replace h := h.2 c19
  refine jx_aload_n 0 dX11_goesBy_67 rfl rfl ?_
  refine jx_getr jc_11 (j := 0) (by decide) rfl jwF_X11_7 dX11_goesBy_68 hk13 hb14 ?_
  refine jx_bipush (v := 26) dX11_goesBy_71 (by decide) ?_
  refine jx_iload_n 2 dX11_goesBy_73 rfl rfl ?_
  refine jx_iadd dX11_goesBy_74 ?_
  refine jx_iald dX11_goesBy_75 hk15 hi16 ?_
  refine jx_topi (y := ((ji S10 b14 (Int32.toNatClampNeg (26 + x2))) + x1)) (by simp [ji_put, ji_row, ji_putr]) ?_
  refine jx_aload_n 0 dX11_goesBy_76 rfl rfl ?_
  refine jx_getr jc_11 (j := 0) (by decide) rfl jwF_X11_7 dX11_goesBy_77 hk13 hb14 ?_
  refine jx_bipush (v := 6) dX11_goesBy_80 (by decide) ?_
  refine jx_iald dX11_goesBy_82 hk15 hi18 ?_
  refine jx_icmp_le (tgt := 94) dX11_goesBy_83 (by decide) (fun c20 => ?_) (fun c20 => ?_)
  · replace h := h.1 c20
    refine jx_iconst (v := (-1)) dX11_goesBy_94 (by decide) ?_
    refine jx_iand dX11_goesBy_95 ?_
    refine jx_iast dX11_goesBy_96 hk15 hi17 ?_
    refine jx_iinc 2 (v := (x2 + 1)) (lv1 := [(2, .int (x2 + 1)), (0, .ref a0), (1, .int x1)]) dX11_goesBy_97 rfl rfl (by decide) rfl ?_
    refine jx_goto (tgt := 23) dX11_goesBy_100 (by decide) ?_
    exact jx_lv [1, 2, 0] rfl h
  replace h := h.2 c20
  refine jx_iconst (v := 1) dX11_goesBy_86 (by decide) ?_
  refine jx_iload_n 2 dX11_goesBy_87 rfl rfl ?_
  refine jx_ishl dX11_goesBy_88 ?_
  refine jx_iconst (v := (-1)) dX11_goesBy_89 (by decide) ?_
  refine jx_ixor dX11_goesBy_90 ?_
  refine jx_goto (tgt := 95) dX11_goesBy_91 (by decide) ?_
  refine jx_iand dX11_goesBy_95 ?_
  refine jx_iast dX11_goesBy_96 hk15 hi17 ?_
  refine jx_iinc 2 (v := (x2 + 1)) (lv1 := [(2, .int (x2 + 1)), (0, .ref a0), (1, .int x1)]) dX11_goesBy_97 rfl rfl (by decide) rfl ?_
  refine jx_goto (tgt := 23) dX11_goesBy_100 (by decide) ?_
  exact jx_lv [1, 2, 0] rfl h
set_option maxRecDepth 100000 in
set_option maxHeartbeats 4000000 in
theorem T_X11_go {E : jEnv} {d : Nat} {Q : Int32 → jM → Prop} {a0 : Nat} {x1 : Int32} {S : jM} (h : ((jist x1) = 0 → Q (-1000000001) S) ∧ (¬ (jist x1) = 0 → jk S a0 = 11 ∧ ∃ b6, jr S a0 0 = some b6 ∧ (jk S b6 = 12 ∧ vp_in 3 (jl S b6) ∧ ((x1 = (ji S b6 (Int32.toNatClampNeg 3)) → Q (-1000000001) S) ∧ (¬ x1 = (ji S b6 (Int32.toNatClampNeg 3)) → (vp_in ((36 + (6 * (ji S b6 (Int32.toNatClampNeg 3)))) + x1) (jl S b6) ∧ (((ji S b6 (Int32.toNatClampNeg ((36 + (6 * (ji S b6 (Int32.toNatClampNeg 3)))) + x1))) = 0 → Q (-1000000002) S) ∧ (¬ (ji S b6 (Int32.toNatClampNeg ((36 + (6 * (ji S b6 (Int32.toNatClampNeg 3)))) + x1))) = 0 → jFv E mX11_goesBy d 0 0 [.ref a0, .int (ji S b6 (Int32.toNatClampNeg ((36 + (6 * (ji S b6 (Int32.toNatClampNeg 3)))) + x1)))] S (fun S12 => jk S12 a0 = 11 ∧ ∃ b14, jr S12 a0 0 = some b14 ∧ (jk S12 b14 = 12 ∧ vp_in 3 (jl S12 b14) ∧ (vp_in 2 (jl S12 b14) ∧ (Q (ji (jput S12 b14 (Int32.toNatClampNeg 3) x1) b14 (Int32.toNatClampNeg 2)) (jput S12 b14 (Int32.toNatClampNeg 3) x1))))))))))))) : jFi E mX11_go (d + 1) 0 0 [.ref a0, .int x1] S Q := by
  refine jF_of (by decide) (jle rfl) ?_
  refine jx_lv (lv1 := [(0, .ref a0), (1, .int x1)]) [0, 1] rfl ?_
  refine jx_iload_n 1 dX11_go_0 rfl rfl ?_
  refine jx_callSi (M' := mX11_isTown) (As := [.int x1]) jo_X11_isTown jwM_X11_78 jwS_X11_isTown dX11_go_1 (jRok_m _ _ _) rfl (jle rfl) ⟨jle rfl, jle rfl⟩ (c_X11_isTown (Q := fun v S' => v = (jist x1) ∧ S = S') ⟨rfl, rfl⟩) (fun r1 S2 hq3 => ?_)
  obtain ⟨rfl, rfl⟩ := hq3
  refine jx_if_eq (tgt := 17) dX11_go_4 (by decide) (fun c4 => ?_) (fun c4 => ?_)
  · replace h := h.1 c4
    refine jx_ldc jwC_X11_87 dX11_go_17 ?_
    exact jx_iret dX11_go_19 rfl rfl (jle rfl) (jle rfl) ⟨_, rfl, h⟩
  replace h := h.2 c4
  refine jx_iload_n 1 dX11_go_7 rfl rfl ?_
  refine jx_aload_n 0 dX11_go_8 rfl rfl ?_
  obtain ⟨hk5, h⟩ := h
  obtain ⟨b6, hb6, h⟩ := h
  refine jx_getr jc_11 (j := 0) (by decide) rfl jwF_X11_7 dX11_go_9 hk5 hb6 ?_
  refine jx_iconst (v := 3) dX11_go_12 (by decide) ?_
  obtain ⟨hk7, h⟩ := h
  obtain ⟨hi8, h⟩ := h
  refine jx_iald dX11_go_13 hk7 hi8 ?_
  refine jx_icmp_ne (tgt := 20) dX11_go_14 (by decide) (fun c9 => ?_) (fun c9 => ?_)
  · replace h := h.2 c9
    refine jx_aload_n 0 dX11_go_20 rfl rfl ?_
    refine jx_getr jc_11 (j := 0) (by decide) rfl jwF_X11_7 dX11_go_21 hk5 hb6 ?_
    refine jx_bipush (v := 36) dX11_go_24 (by decide) ?_
    refine jx_bipush (v := 6) dX11_go_26 (by decide) ?_
    refine jx_aload_n 0 dX11_go_28 rfl rfl ?_
    refine jx_getr jc_11 (j := 0) (by decide) rfl jwF_X11_7 dX11_go_29 hk5 hb6 ?_
    refine jx_iconst (v := 3) dX11_go_32 (by decide) ?_
    refine jx_iald dX11_go_33 hk7 hi8 ?_
    refine jx_imul dX11_go_34 ?_
    refine jx_iadd dX11_go_35 ?_
    refine jx_iload_n 1 dX11_go_36 rfl rfl ?_
    refine jx_iadd dX11_go_37 ?_
    obtain ⟨hi10, h⟩ := h
    refine jx_iald dX11_go_38 hk7 hi10 ?_
    refine jx_istore_n (lv1 := [(2, .int (ji S b6 (Int32.toNatClampNeg ((36 + (6 * (ji S b6 (Int32.toNatClampNeg 3)))) + x1)))), (0, .ref a0), (1, .int x1)]) dX11_go_39 rfl (by decide) rfl ?_
    refine jx_iload_n 0 dX11_go_40 rfl rfl ?_
    refine jx_if_ne (tgt := 47) dX11_go_41 (by decide) (fun c11 => ?_) (fun c11 => ?_)
    · replace h := h.2 c11
      refine jx_aload_n 1 dX11_go_47 rfl rfl ?_
      refine jx_iload_n 0 dX11_go_48 rfl rfl ?_
      refine jx_callVv (M' := mX11_goesBy) (As := [.int (ji S b6 (Int32.toNatClampNeg ((36 + (6 * (ji S b6 (Int32.toNatClampNeg 3)))) + x1)))]) jo_X11_goesBy jc_11 rfl jwM_X11_154 jwN_X11_goesBy jwX_X11_goesBy dX11_go_49 (jRok_m _ _ _) rfl (jle rfl) ⟨jle rfl, jle rfl⟩ hk5 h (fun S12 h => ?_)
      refine jx_aload_n 1 dX11_go_52 rfl rfl ?_
      obtain ⟨hk13, h⟩ := h
      obtain ⟨b14, hb14, h⟩ := h
      refine jx_getr jc_11 (j := 0) (by decide) rfl jwF_X11_7 dX11_go_53 hk13 hb14 ?_
      refine jx_iconst (v := 3) dX11_go_56 (by decide) ?_
      refine jx_iload_n 2 dX11_go_57 rfl rfl ?_
      obtain ⟨hk15, h⟩ := h
      obtain ⟨hi16, h⟩ := h
      refine jx_iast dX11_go_58 hk15 hi16 ?_
      refine jx_aload_n 1 dX11_go_59 rfl rfl ?_
      refine jx_getr jc_11 (j := 0) (by decide) rfl jwF_X11_7 dX11_go_60 hk13 hb14 ?_
      refine jx_iconst (v := 2) dX11_go_63 (by decide) ?_
      obtain ⟨hi17, h⟩ := h
      refine jx_iald dX11_go_64 hk15 hi17 ?_
      exact jx_iret dX11_go_65 rfl rfl (jle rfl) (jle rfl) ⟨_, rfl, h⟩
    replace h := h.1 c11
    refine jx_ldc jwC_X11_153 dX11_go_44 ?_
    exact jx_iret dX11_go_46 rfl rfl (jle rfl) (jle rfl) ⟨_, rfl, h⟩
  replace h := h.1 c9
  refine jx_ldc jwC_X11_87 dX11_go_17 ?_
  exact jx_iret dX11_go_19 rfl rfl (jle rfl) (jle rfl) ⟨_, rfl, h⟩
set_option maxRecDepth 100000 in
set_option maxHeartbeats 4000000 in
theorem T_X11_canLearn {E : jEnv} {d : Nat} {Q : Int32 → jM → Prop} {a0 : Nat} {x1 : Int32} {S : jM} (h : jk S a0 = 11 ∧ jFi E mX11_of d 0 0 [.ref a0, .int x1, .int 6] S (fun r3 S2 => (r3 = 0 → jk S2 a0 = 11 ∧ jFi E mX11_of d 0 0 [.ref a0, .int x1, .int 1] S2 (fun r7 S6 => jk S6 a0 = 11 ∧ ∃ b9, jr S6 a0 0 = some b9 ∧ (jk S6 b9 = 12 ∧ vp_in 3 (jl S6 b9) ∧ ((r7 = (ji S6 b9 (Int32.toNatClampNeg 3)) → vp_in 4 (jl S6 b9) ∧ (jFi E mX11_teaches d 0 0 [.ref a0, .int x1, .int (ji S6 b9 (Int32.toNatClampNeg 4))] S6 (fun r15 S14 => (r15 = 0 → Q 0 S14) ∧ (¬ r15 = 0 → jk S14 a0 = 11 ∧ jFi E mX11_of d 0 0 [.ref a0, .int x1, .int 2] S14 (fun r19 S18 => jk S18 a0 = 11 ∧ jFi E mX11_doesKnow d 0 0 [.ref a0, .int r19] S18 (fun r22 S21 => (r22 = 0 → jk S21 a0 = 11 ∧ jFi E mX11_of d 0 0 [.ref a0, .int x1, .int 4] S21 (fun r26 S25 => jk S25 a0 = 11 ∧ ∃ b28, jr S25 a0 0 = some b28 ∧ (jk S25 b28 = 12 ∧ vp_in 5 (jl S25 b28) ∧ (((ji S25 b28 (Int32.toNatClampNeg 5)) < r26 → Q 0 S25) ∧ (¬ (ji S25 b28 (Int32.toNatClampNeg 5)) < r26 → Q 1 S25))))) ∧ (¬ r22 = 0 → Q 0 S21))))))) ∧ (¬ r7 = (ji S6 b9 (Int32.toNatClampNeg 3)) → Q 0 S6))))) ∧ (¬ r3 = 0 → Q 0 S2))) : jFi E mX11_canLearn (d + 1) 0 0 [.ref a0, .int x1] S Q := by
  refine jF_of (by decide) (jle rfl) ?_
  refine jx_lv (lv1 := [(0, .ref a0), (1, .int x1)]) [0, 1] rfl ?_
  refine jx_aload_n 0 dX11_canLearn_0 rfl rfl ?_
  refine jx_iload_n 1 dX11_canLearn_1 rfl rfl ?_
  refine jx_bipush (v := 6) dX11_canLearn_2 (by decide) ?_
  obtain ⟨hk1, h⟩ := h
  refine jx_callVi (M' := mX11_of) (As := [.int x1, .int 6]) jo_X11_of jc_11 rfl jwM_X11_97 jwN_X11_of jwX_X11_of dX11_canLearn_4 (jRok_m _ _ _) rfl (jle rfl) ⟨jle rfl, jle rfl⟩ hk1 h (fun r3 S2 h => ?_)
  refine jx_if_ne (tgt := 71) dX11_canLearn_7 (by decide) (fun c4 => ?_) (fun c4 => ?_)
  · replace h := h.2 c4
    refine jx_iconst (v := 0) dX11_canLearn_71 (by decide) ?_
    exact jx_iret dX11_canLearn_72 rfl (by decide) (jle rfl) (jle rfl) ⟨_, rfl, h⟩
  replace h := h.1 c4
  refine jx_aload_n 0 dX11_canLearn_10 rfl rfl ?_
  refine jx_iload_n 1 dX11_canLearn_11 rfl rfl ?_
  refine jx_iconst (v := 1) dX11_canLearn_12 (by decide) ?_
  obtain ⟨hk5, h⟩ := h
  refine jx_callVi (M' := mX11_of) (As := [.int x1, .int 1]) jo_X11_of jc_11 rfl jwM_X11_97 jwN_X11_of jwX_X11_of dX11_canLearn_13 (jRok_m _ _ _) rfl (jle rfl) ⟨jle rfl, jle rfl⟩ hk5 h (fun r7 S6 h => ?_)
  refine jx_aload_n 0 dX11_canLearn_16 rfl rfl ?_
  obtain ⟨hk8, h⟩ := h
  obtain ⟨b9, hb9, h⟩ := h
  refine jx_getr jc_11 (j := 0) (by decide) rfl jwF_X11_7 dX11_canLearn_17 hk8 hb9 ?_
  refine jx_iconst (v := 3) dX11_canLearn_20 (by decide) ?_
  obtain ⟨hk10, h⟩ := h
  obtain ⟨hi11, h⟩ := h
  refine jx_iald dX11_canLearn_21 hk10 hi11 ?_
  refine jx_icmp_ne (tgt := 71) dX11_canLearn_22 (by decide) (fun c12 => ?_) (fun c12 => ?_)
  · replace h := h.2 c12
    refine jx_iconst (v := 0) dX11_canLearn_71 (by decide) ?_
    exact jx_iret dX11_canLearn_72 rfl (by decide) (jle rfl) (jle rfl) ⟨_, rfl, h⟩
  replace h := h.1 c12
  refine jx_aload_n 0 dX11_canLearn_25 rfl rfl ?_
  refine jx_iload_n 1 dX11_canLearn_26 rfl rfl ?_
  refine jx_aload_n 0 dX11_canLearn_27 rfl rfl ?_
  refine jx_getr jc_11 (j := 0) (by decide) rfl jwF_X11_7 dX11_canLearn_28 hk8 hb9 ?_
  refine jx_iconst (v := 4) dX11_canLearn_31 (by decide) ?_
  obtain ⟨hi13, h⟩ := h
  refine jx_iald dX11_canLearn_32 hk10 hi13 ?_
  refine jx_callVi (M' := mX11_teaches) (As := [.int x1, .int (ji S6 b9 (Int32.toNatClampNeg 4))]) jo_X11_teaches jc_11 rfl jwM_X11_122 jwN_X11_teaches jwX_X11_teaches dX11_canLearn_33 (jRok_m _ _ _) rfl (jle rfl) ⟨jle rfl, jle rfl⟩ hk8 h (fun r15 S14 h => ?_)
  refine jx_if_eq (tgt := 71) dX11_canLearn_36 (by decide) (fun c16 => ?_) (fun c16 => ?_)
  · replace h := h.1 c16
    refine jx_iconst (v := 0) dX11_canLearn_71 (by decide) ?_
    exact jx_iret dX11_canLearn_72 rfl (by decide) (jle rfl) (jle rfl) ⟨_, rfl, h⟩
  replace h := h.2 c16
  refine jx_aload_n 0 dX11_canLearn_39 rfl rfl ?_
  refine jx_aload_n 0 dX11_canLearn_40 rfl rfl ?_
  refine jx_iload_n 1 dX11_canLearn_41 rfl rfl ?_
  refine jx_iconst (v := 2) dX11_canLearn_42 (by decide) ?_
  obtain ⟨hk17, h⟩ := h
  refine jx_callVi (M' := mX11_of) (As := [.int x1, .int 2]) jo_X11_of jc_11 rfl jwM_X11_97 jwN_X11_of jwX_X11_of dX11_canLearn_43 (jRok_m _ _ _) rfl (jle rfl) ⟨jle rfl, jle rfl⟩ hk17 h (fun r19 S18 h => ?_)
  obtain ⟨hk20, h⟩ := h
  refine jx_callVi (M' := mX11_doesKnow) (As := [.int r19]) jo_X11_doesKnow jc_11 rfl jwM_X11_150 jwN_X11_doesKnow jwX_X11_doesKnow dX11_canLearn_46 (jRok_m _ _ _) rfl (jle rfl) ⟨jle rfl, jle rfl⟩ hk20 h (fun r22 S21 h => ?_)
  refine jx_if_ne (tgt := 71) dX11_canLearn_49 (by decide) (fun c23 => ?_) (fun c23 => ?_)
  · replace h := h.2 c23
    refine jx_iconst (v := 0) dX11_canLearn_71 (by decide) ?_
    exact jx_iret dX11_canLearn_72 rfl (by decide) (jle rfl) (jle rfl) ⟨_, rfl, h⟩
  replace h := h.1 c23
  refine jx_aload_n 0 dX11_canLearn_52 rfl rfl ?_
  refine jx_iload_n 1 dX11_canLearn_53 rfl rfl ?_
  refine jx_iconst (v := 4) dX11_canLearn_54 (by decide) ?_
  obtain ⟨hk24, h⟩ := h
  refine jx_callVi (M' := mX11_of) (As := [.int x1, .int 4]) jo_X11_of jc_11 rfl jwM_X11_97 jwN_X11_of jwX_X11_of dX11_canLearn_55 (jRok_m _ _ _) rfl (jle rfl) ⟨jle rfl, jle rfl⟩ hk24 h (fun r26 S25 h => ?_)
  refine jx_aload_n 0 dX11_canLearn_58 rfl rfl ?_
  obtain ⟨hk27, h⟩ := h
  obtain ⟨b28, hb28, h⟩ := h
  refine jx_getr jc_11 (j := 0) (by decide) rfl jwF_X11_7 dX11_canLearn_59 hk27 hb28 ?_
  refine jx_iconst (v := 5) dX11_canLearn_62 (by decide) ?_
  obtain ⟨hk29, h⟩ := h
  obtain ⟨hi30, h⟩ := h
  refine jx_iald dX11_canLearn_63 hk29 hi30 ?_
  refine jx_icmp_gt (tgt := 71) dX11_canLearn_64 (by decide) (fun c31 => ?_) (fun c31 => ?_)
  · replace h := h.1 c31
    refine jx_iconst (v := 0) dX11_canLearn_71 (by decide) ?_
    exact jx_iret dX11_canLearn_72 rfl (by decide) (jle rfl) (jle rfl) ⟨_, rfl, h⟩
  replace h := h.2 c31
  refine jx_iconst (v := 1) dX11_canLearn_67 (by decide) ?_
  refine jx_goto (tgt := 72) dX11_canLearn_68 (by decide) ?_
  exact jx_iret dX11_canLearn_72 rfl (by decide) (jle rfl) (jle rfl) ⟨_, rfl, h⟩
set_option maxRecDepth 100000 in
set_option maxHeartbeats 4000000 in
theorem T_X11_learns {E : jEnv} {d : Nat} {Q : Int32 → jM → Prop} {a0 : Nat} {x1 : Int32} {S : jM} (h : jk S a0 = 11 ∧ ∃ b2, jr S a0 0 = some b2 ∧ (jk S b2 = 12 ∧ vp_in 5 (jl S b2) ∧ (jFi E mX11_of d 0 0 [.ref a0, .int x1, .int 4] S (fun r6 S5 => jk S5 b2 = 12 ∧ vp_in 5 (jl S5 b2) ∧ (jk S5 a0 = 11 ∧ ∃ b10, jr S5 a0 0 = some b10 ∧ (jk S5 b10 = 12 ∧ vp_in 4 (jl S5 b10) ∧ (jFi E mX11_takes d 0 0 [.ref a0, .int x1, .int (jmany (ji (jput S5 b2 (Int32.toNatClampNeg 5) ((ji S b2 (Int32.toNatClampNeg 5)) - r6)) b10 (Int32.toNatClampNeg 4)))] (jput S5 b2 (Int32.toNatClampNeg 5) ((ji S b2 (Int32.toNatClampNeg 5)) - r6)) (fun r17 S16 => jk S16 a0 = 11 ∧ jFv E mX11_goesBy d 0 0 [.ref a0, .int r17] S16 (fun S19 => jk S19 a0 = 11 ∧ jFi E mX11_of d 0 0 [.ref a0, .int x1, .int 2] S19 (fun r22 S21 => jk S21 a0 = 11 ∧ ∃ b24, jr S21 a0 0 = some b24 ∧ (jk S21 b24 = 12 ∧ vp_in 4 (jl S21 b24) ∧ (jFi E mX11_behindLesson d 0 0 [.ref a0, .int x1, .int (ji S21 b24 (Int32.toNatClampNeg 4))] S21 (fun r28 S27 => jk S27 b24 = 12 ∧ vp_in 4 (jl S27 b24) ∧ (jk S27 a0 = 11 ∧ ∃ b32, jr S27 a0 0 = some b32 ∧ (jk S27 b32 = 12 ∧ vp_in (16 + r22) (jl S27 b32) ∧ (vp_in (26 + r22) (jl S27 b32) ∧ (Q r17 (jput (jput (jput S27 b24 (Int32.toNatClampNeg 4) r28) b32 (Int32.toNatClampNeg (16 + r22)) x1) b32 (Int32.toNatClampNeg (26 + r22)) 0)))))))))))))))))) : jFi E mX11_learns (d + 1) 0 0 [.ref a0, .int x1] S Q := by
  refine jF_of (by decide) (jle rfl) ?_
  refine jx_lv (lv1 := [(0, .ref a0), (1, .int x1)]) [0, 1] rfl ?_
  refine jx_aload_n 0 dX11_learns_0 rfl rfl ?_
  obtain ⟨hk1, h⟩ := h
  obtain ⟨b2, hb2, h⟩ := h
  refine jx_getr jc_11 (j := 0) (by decide) rfl jwF_X11_7 dX11_learns_1 hk1 hb2 ?_
  refine jx_iconst (v := 5) dX11_learns_4 (by decide) ?_
  refine jx_dup2 dX11_learns_5 rfl rfl ?_
  obtain ⟨hk3, h⟩ := h
  obtain ⟨hi4, h⟩ := h
  refine jx_iald dX11_learns_6 hk3 hi4 ?_
  refine jx_aload_n 0 dX11_learns_7 rfl rfl ?_
  refine jx_iload_n 1 dX11_learns_8 rfl rfl ?_
  refine jx_iconst (v := 4) dX11_learns_9 (by decide) ?_
  refine jx_callVi (M' := mX11_of) (As := [.int x1, .int 4]) jo_X11_of jc_11 rfl jwM_X11_97 jwN_X11_of jwX_X11_of dX11_learns_10 (jRok_m _ _ _) rfl (jle rfl) ⟨jle rfl, jle rfl⟩ hk1 h (fun r6 S5 h => ?_)
  refine jx_isub dX11_learns_13 ?_
  obtain ⟨hk7, h⟩ := h
  obtain ⟨hi8, h⟩ := h
  refine jx_iast dX11_learns_14 hk7 hi8 ?_
  refine jx_aload_n 0 dX11_learns_15 rfl rfl ?_
  refine jx_iload_n 1 dX11_learns_16 rfl rfl ?_
  refine jx_aload_n 0 dX11_learns_17 rfl rfl ?_
  obtain ⟨hk9, h⟩ := h
  obtain ⟨b10, hb10, h⟩ := h
  refine jx_getr jc_11 (j := 0) (by decide) rfl jwF_X11_7 dX11_learns_18 hk9 hb10 ?_
  refine jx_iconst (v := 4) dX11_learns_21 (by decide) ?_
  obtain ⟨hk11, h⟩ := h
  obtain ⟨hi12, h⟩ := h
  refine jx_iald dX11_learns_22 hk11 hi12 ?_
  refine jx_callSi (M' := mX11_manyIn) (As := [.int (ji (jput S5 b2 (Int32.toNatClampNeg 5) ((ji S b2 (Int32.toNatClampNeg 5)) - r6)) b10 (Int32.toNatClampNeg 4))]) jo_X11_manyIn jwM_X11_108 jwS_X11_manyIn dX11_learns_23 (jRok_m _ _ _) rfl (jle rfl) ⟨jle rfl, jle rfl⟩ (c_X11_manyIn (Q := fun v S' => v = (jmany (ji (jput S5 b2 (Int32.toNatClampNeg 5) ((ji S b2 (Int32.toNatClampNeg 5)) - r6)) b10 (Int32.toNatClampNeg 4))) ∧ (jput S5 b2 (Int32.toNatClampNeg 5) ((ji S b2 (Int32.toNatClampNeg 5)) - r6)) = S') ⟨rfl, rfl⟩) (fun r13 S14 hq15 => ?_)
  obtain ⟨rfl, rfl⟩ := hq15
  refine jx_callVi (M' := mX11_takes) (As := [.int x1, .int (jmany (ji (jput S5 b2 (Int32.toNatClampNeg 5) ((ji S b2 (Int32.toNatClampNeg 5)) - r6)) b10 (Int32.toNatClampNeg 4)))]) jo_X11_takes jc_11 rfl jwM_X11_116 jwN_X11_takes jwX_X11_takes dX11_learns_26 (jRok_m _ _ _) rfl (jle rfl) ⟨jle rfl, jle rfl⟩ hk9 h (fun r17 S16 h => ?_)
  refine jx_istore_n (lv1 := [(2, .int r17), (0, .ref a0), (1, .int x1)]) dX11_learns_29 rfl (by decide) rfl ?_
  refine jx_aload_n 1 dX11_learns_30 rfl rfl ?_
  refine jx_iload_n 0 dX11_learns_31 rfl rfl ?_
  obtain ⟨hk18, h⟩ := h
  refine jx_callVv (M' := mX11_goesBy) (As := [.int r17]) jo_X11_goesBy jc_11 rfl jwM_X11_154 jwN_X11_goesBy jwX_X11_goesBy dX11_learns_32 (jRok_m _ _ _) rfl (jle rfl) ⟨jle rfl, jle rfl⟩ hk18 h (fun S19 h => ?_)
  refine jx_aload_n 1 dX11_learns_35 rfl rfl ?_
  refine jx_iload_n 2 dX11_learns_36 rfl rfl ?_
  refine jx_iconst (v := 2) dX11_learns_37 (by decide) ?_
  obtain ⟨hk20, h⟩ := h
  refine jx_callVi (M' := mX11_of) (As := [.int x1, .int 2]) jo_X11_of jc_11 rfl jwM_X11_97 jwN_X11_of jwX_X11_of dX11_learns_38 (jRok_m _ _ _) rfl (jle rfl) ⟨jle rfl, jle rfl⟩ hk20 h (fun r22 S21 h => ?_)
  refine jx_istore_n (lv1 := [(3, .int r22), (2, .int r17), (0, .ref a0), (1, .int x1)]) dX11_learns_41 rfl (by decide) rfl ?_
  refine jx_aload_n 2 dX11_learns_42 rfl rfl ?_
  obtain ⟨hk23, h⟩ := h
  obtain ⟨b24, hb24, h⟩ := h
  refine jx_getr jc_11 (j := 0) (by decide) rfl jwF_X11_7 dX11_learns_43 hk23 hb24 ?_
  refine jx_iconst (v := 4) dX11_learns_46 (by decide) ?_
  refine jx_aload_n 2 dX11_learns_47 rfl rfl ?_
  refine jx_iload_n 3 dX11_learns_48 rfl rfl ?_
  refine jx_aload_n 2 dX11_learns_49 rfl rfl ?_
  refine jx_getr jc_11 (j := 0) (by decide) rfl jwF_X11_7 dX11_learns_50 hk23 hb24 ?_
  refine jx_iconst (v := 4) dX11_learns_53 (by decide) ?_
  obtain ⟨hk25, h⟩ := h
  obtain ⟨hi26, h⟩ := h
  refine jx_iald dX11_learns_54 hk25 hi26 ?_
  refine jx_callVi (M' := mX11_behindLesson) (As := [.int x1, .int (ji S21 b24 (Int32.toNatClampNeg 4))]) jo_X11_behindLesson jc_11 rfl jwM_X11_158 jwN_X11_behindLesson jwX_X11_behindLesson dX11_learns_55 (jRok_m _ _ _) rfl (jle rfl) ⟨jle rfl, jle rfl⟩ hk23 h (fun r28 S27 h => ?_)
  obtain ⟨hk29, h⟩ := h
  obtain ⟨hi30, h⟩ := h
  refine jx_iast dX11_learns_58 hk29 hi30 ?_
  refine jx_aload_n 2 dX11_learns_59 rfl rfl ?_
  obtain ⟨hk31, h⟩ := h
  obtain ⟨b32, hb32, h⟩ := h
  refine jx_getr jc_11 (j := 0) (by decide) rfl jwF_X11_7 dX11_learns_60 hk31 hb32 ?_
  refine jx_bipush (v := 16) dX11_learns_63 (by decide) ?_
  refine jx_iload_n 0 dX11_learns_65 rfl rfl ?_
  refine jx_iadd dX11_learns_66 ?_
  refine jx_iload_n 3 dX11_learns_67 rfl rfl ?_
  obtain ⟨hk33, h⟩ := h
  obtain ⟨hi34, h⟩ := h
  refine jx_iast dX11_learns_68 hk33 hi34 ?_
  refine jx_aload_n 2 dX11_learns_69 rfl rfl ?_
  refine jx_getr jc_11 (j := 0) (by decide) rfl jwF_X11_7 dX11_learns_70 hk31 hb32 ?_
  refine jx_bipush (v := 26) dX11_learns_73 (by decide) ?_
  refine jx_iload_n 0 dX11_learns_75 rfl rfl ?_
  refine jx_iadd dX11_learns_76 ?_
  refine jx_iconst (v := 0) dX11_learns_77 (by decide) ?_
  obtain ⟨hi35, h⟩ := h
  refine jx_iast dX11_learns_78 hk33 hi35 ?_
  refine jx_iload_n 1 dX11_learns_79 rfl rfl ?_
  exact jx_iret dX11_learns_80 rfl rfl (jle rfl) (jle rfl) ⟨_, rfl, h⟩
set_option maxRecDepth 100000 in
set_option maxHeartbeats 4000000 in
theorem T_X11_learn {E : jEnv} {d : Nat} {Q : Int32 → jM → Prop} {a0 : Nat} {x1 : Int32} {S : jM} (h : jk S a0 = 11 ∧ jFi E mX11_isMaster d 0 0 [.ref a0, .int x1] S (fun r3 S2 => (r3 = 0 → Q (-1000000001) S2) ∧ (¬ r3 = 0 → jk S2 a0 = 11 ∧ jFi E mX11_canLearn d 0 0 [.ref a0, .int x1] S2 (fun r7 S6 => (r7 = 0 → Q (-1000000002) S6) ∧ (¬ r7 = 0 → jk S6 a0 = 11 ∧ jFi E mX11_learns d 0 0 [.ref a0, .int x1] S6 (fun r11 S10 => jk S10 a0 = 11 ∧ ∃ b13, jr S10 a0 0 = some b13 ∧ (jk S10 b13 = 12 ∧ vp_in 4 (jl S10 b13) ∧ (Q (ji S10 b13 (Int32.toNatClampNeg 4)) S10)))))))) : jFi E mX11_learn (d + 1) 0 0 [.ref a0, .int x1] S Q := by
  refine jF_of (by decide) (jle rfl) ?_
  refine jx_lv (lv1 := [(0, .ref a0), (1, .int x1)]) [0, 1] rfl ?_
  refine jx_aload_n 0 dX11_learn_0 rfl rfl ?_
  refine jx_iload_n 1 dX11_learn_1 rfl rfl ?_
  obtain ⟨hk1, h⟩ := h
  refine jx_callVi (M' := mX11_isMaster) (As := [.int x1]) jo_X11_isMaster jc_11 rfl jwM_X11_111 jwN_X11_isMaster jwX_X11_isMaster dX11_learn_2 (jRok_m _ _ _) rfl (jle rfl) ⟨jle rfl, jle rfl⟩ hk1 h (fun r3 S2 h => ?_)
  refine jx_if_ne (tgt := 11) dX11_learn_5 (by decide) (fun c4 => ?_) (fun c4 => ?_)
  · replace h := h.2 c4
    refine jx_aload_n 0 dX11_learn_11 rfl rfl ?_
    refine jx_iload_n 1 dX11_learn_12 rfl rfl ?_
    obtain ⟨hk5, h⟩ := h
    refine jx_callVi (M' := mX11_canLearn) (As := [.int x1]) jo_X11_canLearn jc_11 rfl jwM_X11_161 jwN_X11_canLearn jwX_X11_canLearn dX11_learn_13 (jRok_m _ _ _) rfl (jle rfl) ⟨jle rfl, jle rfl⟩ hk5 h (fun r7 S6 h => ?_)
    refine jx_if_ne (tgt := 22) dX11_learn_16 (by decide) (fun c8 => ?_) (fun c8 => ?_)
    · replace h := h.2 c8
      refine jx_aload_n 0 dX11_learn_22 rfl rfl ?_
      refine jx_iload_n 1 dX11_learn_23 rfl rfl ?_
      obtain ⟨hk9, h⟩ := h
      refine jx_callVi (M' := mX11_learns) (As := [.int x1]) jo_X11_learns jc_11 rfl jwM_X11_164 jwN_X11_learns jwX_X11_learns dX11_learn_24 (jRok_m _ _ _) rfl (jle rfl) ⟨jle rfl, jle rfl⟩ hk9 h (fun r11 S10 h => ?_)
      refine jx_istore_n (lv1 := [(2, .int r11), (0, .ref a0), (1, .int x1)]) dX11_learn_27 rfl (by decide) rfl ?_
      refine jx_aload_n 1 dX11_learn_28 rfl rfl ?_
      obtain ⟨hk12, h⟩ := h
      obtain ⟨b13, hb13, h⟩ := h
      refine jx_getr jc_11 (j := 0) (by decide) rfl jwF_X11_7 dX11_learn_29 hk12 hb13 ?_
      refine jx_iconst (v := 4) dX11_learn_32 (by decide) ?_
      obtain ⟨hk14, h⟩ := h
      obtain ⟨hi15, h⟩ := h
      refine jx_iald dX11_learn_33 hk14 hi15 ?_
      exact jx_iret dX11_learn_34 rfl rfl (jle rfl) (jle rfl) ⟨_, rfl, h⟩
    replace h := h.1 c8
    refine jx_ldc jwC_X11_153 dX11_learn_19 ?_
    exact jx_iret dX11_learn_21 rfl rfl (jle rfl) (jle rfl) ⟨_, rfl, h⟩
  replace h := h.1 c4
  refine jx_ldc jwC_X11_87 dX11_learn_8 ?_
  exact jx_iret dX11_learn_10 rfl rfl (jle rfl) (jle rfl) ⟨_, rfl, h⟩
set_option maxRecDepth 100000 in
set_option maxHeartbeats 4000000 in
theorem T_X11_uses {E : jEnv} {d : Nat} {Q : jM → Prop} {a0 : Nat} {x1 : Int32} {S : jM} (h : jk S a0 = 11 ∧ ∃ b2, jr S a0 0 = some b2 ∧ (jk S b2 = 12 ∧ vp_in (26 + x1) (jl S b2) ∧ (jFv E mX11_goesBy d 0 0 [.ref a0, .int 1] (jput S b2 (Int32.toNatClampNeg (26 + x1)) 0) (fun S5 => Q S5)))) : jFv E mX11_uses (d + 1) 0 0 [.ref a0, .int x1] S Q := by
  refine jF_of (by decide) (jle rfl) ?_
  refine jx_lv (lv1 := [(0, .ref a0), (1, .int x1)]) [0, 1] rfl ?_
  refine jx_aload_n 0 dX11_uses_0 rfl rfl ?_
  obtain ⟨hk1, h⟩ := h
  obtain ⟨b2, hb2, h⟩ := h
  refine jx_getr jc_11 (j := 0) (by decide) rfl jwF_X11_7 dX11_uses_1 hk1 hb2 ?_
  refine jx_bipush (v := 26) dX11_uses_4 (by decide) ?_
  refine jx_iload_n 1 dX11_uses_6 rfl rfl ?_
  refine jx_iadd dX11_uses_7 ?_
  refine jx_iconst (v := 0) dX11_uses_8 (by decide) ?_
  obtain ⟨hk3, h⟩ := h
  obtain ⟨hi4, h⟩ := h
  refine jx_iast dX11_uses_9 hk3 hi4 ?_
  refine jx_aload_n 0 dX11_uses_10 rfl rfl ?_
  refine jx_iconst (v := 1) dX11_uses_11 (by decide) ?_
  refine jx_callVv (M' := mX11_goesBy) (As := [.int 1]) jo_X11_goesBy jc_11 rfl jwM_X11_154 jwN_X11_goesBy jwX_X11_goesBy dX11_uses_12 (jRok_m _ _ _) rfl (jle rfl) ⟨jle rfl, jle rfl⟩ hk1 h (fun S5 h => ?_)
  exact jx_vret dX11_uses_15 rfl (jle rfl) (jle rfl) ⟨rfl, h⟩
set_option maxRecDepth 100000 in
set_option maxHeartbeats 4000000 in
theorem T_X11_use {E : jEnv} {d : Nat} {Q : Int32 → jM → Prop} {a0 : Nat} {x1 : Int32} {S : jM} (h : ((jisg x1) = 0 → Q (-1000000001) S) ∧ (¬ (jisg x1) = 0 → jk S a0 = 11 ∧ jFi E mX11_doesKnow d 0 0 [.ref a0, .int x1] S (fun r7 S6 => (r7 = 0 → Q (-1000000002) S6) ∧ (¬ r7 = 0 → jk S6 a0 = 11 ∧ jFv E mX11_uses d 0 0 [.ref a0, .int x1] S6 (fun S10 => jk S10 a0 = 11 ∧ ∃ b12, jr S10 a0 0 = some b12 ∧ (jk S10 b12 = 12 ∧ vp_in 4 (jl S10 b12) ∧ (Q (ji S10 b12 (Int32.toNatClampNeg 4)) S10))))))) : jFi E mX11_use (d + 1) 0 0 [.ref a0, .int x1] S Q := by
  refine jF_of (by decide) (jle rfl) ?_
  refine jx_lv (lv1 := [(0, .ref a0), (1, .int x1)]) [0, 1] rfl ?_
  refine jx_iload_n 1 dX11_use_0 rfl rfl ?_
  refine jx_callSi (M' := mX11_isGesture) (As := [.int x1]) jo_X11_isGesture jwM_X11_82 jwS_X11_isGesture dX11_use_1 (jRok_m _ _ _) rfl (jle rfl) ⟨jle rfl, jle rfl⟩ (c_X11_isGesture (Q := fun v S' => v = (jisg x1) ∧ S = S') ⟨rfl, rfl⟩) (fun r1 S2 hq3 => ?_)
  obtain ⟨rfl, rfl⟩ := hq3
  refine jx_if_ne (tgt := 10) dX11_use_4 (by decide) (fun c4 => ?_) (fun c4 => ?_)
  · replace h := h.2 c4
    refine jx_aload_n 0 dX11_use_10 rfl rfl ?_
    refine jx_iload_n 1 dX11_use_11 rfl rfl ?_
    obtain ⟨hk5, h⟩ := h
    refine jx_callVi (M' := mX11_doesKnow) (As := [.int x1]) jo_X11_doesKnow jc_11 rfl jwM_X11_150 jwN_X11_doesKnow jwX_X11_doesKnow dX11_use_12 (jRok_m _ _ _) rfl (jle rfl) ⟨jle rfl, jle rfl⟩ hk5 h (fun r7 S6 h => ?_)
    refine jx_if_ne (tgt := 21) dX11_use_15 (by decide) (fun c8 => ?_) (fun c8 => ?_)
    · replace h := h.2 c8
      refine jx_aload_n 0 dX11_use_21 rfl rfl ?_
      refine jx_iload_n 1 dX11_use_22 rfl rfl ?_
      obtain ⟨hk9, h⟩ := h
      refine jx_callVv (M' := mX11_uses) (As := [.int x1]) jo_X11_uses jc_11 rfl jwM_X11_167 jwN_X11_uses jwX_X11_uses dX11_use_23 (jRok_m _ _ _) rfl (jle rfl) ⟨jle rfl, jle rfl⟩ hk9 h (fun S10 h => ?_)
      refine jx_aload_n 0 dX11_use_26 rfl rfl ?_
      obtain ⟨hk11, h⟩ := h
      obtain ⟨b12, hb12, h⟩ := h
      refine jx_getr jc_11 (j := 0) (by decide) rfl jwF_X11_7 dX11_use_27 hk11 hb12 ?_
      refine jx_iconst (v := 4) dX11_use_30 (by decide) ?_
      obtain ⟨hk13, h⟩ := h
      obtain ⟨hi14, h⟩ := h
      refine jx_iald dX11_use_31 hk13 hi14 ?_
      exact jx_iret dX11_use_32 rfl rfl (jle rfl) (jle rfl) ⟨_, rfl, h⟩
    replace h := h.1 c8
    refine jx_ldc jwC_X11_153 dX11_use_18 ?_
    exact jx_iret dX11_use_20 rfl rfl (jle rfl) (jle rfl) ⟨_, rfl, h⟩
  replace h := h.1 c4
  refine jx_ldc jwC_X11_87 dX11_use_7 ?_
  exact jx_iret dX11_use_9 rfl rfl (jle rfl) (jle rfl) ⟨_, rfl, h⟩
set_option maxRecDepth 100000 in
set_option maxHeartbeats 4000000 in
theorem T_X11_rests {E : jEnv} {d : Nat} {Q : Int32 → jM → Prop} {a0 : Nat} {x1 : Int32} {S : jM} (h : ((jisin (Int32.toInt64 x1) 1 100) = 0 → Q (-1000000001) S) ∧ (¬ (jisin (Int32.toInt64 x1) 1 100) = 0 → jk S a0 = 11 ∧ jFv E mX11_goesBy d 0 0 [.ref a0, .int x1] S (fun S6 => jk S6 a0 = 11 ∧ ∃ b8, jr S6 a0 0 = some b8 ∧ (jk S6 b8 = 12 ∧ vp_in 4 (jl S6 b8) ∧ (Q (ji S6 b8 (Int32.toNatClampNeg 4)) S6))))) : jFi E mX11_rests (d + 1) 0 0 [.ref a0, .int x1] S Q := by
  refine jF_of (by decide) (jle rfl) ?_
  refine jx_lv (lv1 := [(0, .ref a0), (1, .int x1)]) [0, 1] rfl ?_
  refine jx_iload_n 1 dX11_rests_0 rfl rfl ?_
  refine jx_i2l dX11_rests_1 ?_
  refine jx_lconst (v := 1) dX11_rests_2 (by decide) ?_
  refine jx_ldc2 jwL_X11_170 dX11_rests_3 ?_
  refine jx_callSi (M' := mX11_isIn) (As := [.long (Int32.toInt64 x1), .long 1, .long 100]) jo_X11_isIn jwM_X11_71 jwS_X11_isIn dX11_rests_6 (jRok_m _ _ _) rfl (jle rfl) ⟨jle rfl, jle rfl⟩ (c_X11_isIn (Q := fun v S' => v = (jisin (Int32.toInt64 x1) 1 100) ∧ S = S') ⟨rfl, rfl⟩) (fun r1 S2 hq3 => ?_)
  obtain ⟨rfl, rfl⟩ := hq3
  refine jx_if_ne (tgt := 15) dX11_rests_9 (by decide) (fun c4 => ?_) (fun c4 => ?_)
  · replace h := h.2 c4
    refine jx_aload_n 0 dX11_rests_15 rfl rfl ?_
    refine jx_iload_n 1 dX11_rests_16 rfl rfl ?_
    obtain ⟨hk5, h⟩ := h
    refine jx_callVv (M' := mX11_goesBy) (As := [.int x1]) jo_X11_goesBy jc_11 rfl jwM_X11_154 jwN_X11_goesBy jwX_X11_goesBy dX11_rests_17 (jRok_m _ _ _) rfl (jle rfl) ⟨jle rfl, jle rfl⟩ hk5 h (fun S6 h => ?_)
    refine jx_aload_n 0 dX11_rests_20 rfl rfl ?_
    obtain ⟨hk7, h⟩ := h
    obtain ⟨b8, hb8, h⟩ := h
    refine jx_getr jc_11 (j := 0) (by decide) rfl jwF_X11_7 dX11_rests_21 hk7 hb8 ?_
    refine jx_iconst (v := 4) dX11_rests_24 (by decide) ?_
    obtain ⟨hk9, h⟩ := h
    obtain ⟨hi10, h⟩ := h
    refine jx_iald dX11_rests_25 hk9 hi10 ?_
    exact jx_iret dX11_rests_26 rfl rfl (jle rfl) (jle rfl) ⟨_, rfl, h⟩
  replace h := h.1 c4
  refine jx_ldc jwC_X11_87 dX11_rests_12 ?_
  exact jx_iret dX11_rests_14 rfl rfl (jle rfl) (jle rfl) ⟨_, rfl, h⟩
set_option maxRecDepth 100000 in
set_option maxHeartbeats 4000000 in
theorem T_X11_wants {E : jEnv} {d : Nat} {Q : Int32 → jM → Prop} {a0 : Nat} {x1 : Int32} {S : jM} (h : ((jisg x1) = 0 → Q (-1000000001) S) ∧ (¬ (jisg x1) = 0 → jk S a0 = 11 ∧ ∃ b6, jr S a0 0 = some b6 ∧ (jk S b6 = 12 ∧ vp_in 7 (jl S b6) ∧ (((ji S b6 (Int32.toNatClampNeg 7)) = 6 → Q (-1000000003) S) ∧ (¬ (ji S b6 (Int32.toNatClampNeg 7)) = 6 → (vp_in (9 + (ji S b6 (Int32.toNatClampNeg 7))) (jl S b6) ∧ ((((Q ((ji (jput S b6 (Int32.toNatClampNeg (9 + (ji S b6 (Int32.toNatClampNeg 7)))) x1) b6 (Int32.toNatClampNeg 7)) + 1) (jput (jput S b6 (Int32.toNatClampNeg (9 + (ji S b6 (Int32.toNatClampNeg 7)))) x1) b6 (Int32.toNatClampNeg 7) ((ji (jput S b6 (Int32.toNatClampNeg (9 + (ji S b6 (Int32.toNatClampNeg 7)))) x1) b6 (Int32.toNatClampNeg 7)) + 1)))))))))))) : jFi E mX11_wants (d + 1) 0 0 [.ref a0, .int x1] S Q := by
  refine jF_of (by decide) (jle rfl) ?_
  refine jx_lv (lv1 := [(0, .ref a0), (1, .int x1)]) [0, 1] rfl ?_
  refine jx_iload_n 1 dX11_wants_0 rfl rfl ?_
  refine jx_callSi (M' := mX11_isGesture) (As := [.int x1]) jo_X11_isGesture jwM_X11_82 jwS_X11_isGesture dX11_wants_1 (jRok_m _ _ _) rfl (jle rfl) ⟨jle rfl, jle rfl⟩ (c_X11_isGesture (Q := fun v S' => v = (jisg x1) ∧ S = S') ⟨rfl, rfl⟩) (fun r1 S2 hq3 => ?_)
  obtain ⟨rfl, rfl⟩ := hq3
  refine jx_if_ne (tgt := 10) dX11_wants_4 (by decide) (fun c4 => ?_) (fun c4 => ?_)
  · replace h := h.2 c4
    refine jx_aload_n 0 dX11_wants_10 rfl rfl ?_
    obtain ⟨hk5, h⟩ := h
    obtain ⟨b6, hb6, h⟩ := h
    refine jx_getr jc_11 (j := 0) (by decide) rfl jwF_X11_7 dX11_wants_11 hk5 hb6 ?_
    refine jx_bipush (v := 7) dX11_wants_14 (by decide) ?_
    obtain ⟨hk7, h⟩ := h
    obtain ⟨hi8, h⟩ := h
    refine jx_iald dX11_wants_16 hk7 hi8 ?_
    refine jx_bipush (v := 6) dX11_wants_17 (by decide) ?_
    refine jx_icmp_ne (tgt := 25) dX11_wants_19 (by decide) (fun c9 => ?_) (fun c9 => ?_)
    · replace h := h.2 c9
      refine jx_aload_n 0 dX11_wants_25 rfl rfl ?_
      refine jx_getr jc_11 (j := 0) (by decide) rfl jwF_X11_7 dX11_wants_26 hk5 hb6 ?_
      refine jx_bipush (v := 9) dX11_wants_29 (by decide) ?_
      refine jx_aload_n 0 dX11_wants_31 rfl rfl ?_
      refine jx_getr jc_11 (j := 0) (by decide) rfl jwF_X11_7 dX11_wants_32 hk5 hb6 ?_
      refine jx_bipush (v := 7) dX11_wants_35 (by decide) ?_
      refine jx_iald dX11_wants_37 hk7 hi8 ?_
      refine jx_iadd dX11_wants_38 ?_
      refine jx_iload_n 1 dX11_wants_39 rfl rfl ?_
      obtain ⟨hi10, h⟩ := h
      refine jx_iast dX11_wants_40 hk7 hi10 ?_
      refine jx_aload_n 0 dX11_wants_41 rfl rfl ?_
      refine jx_getr jc_11 (j := 0) (by decide) rfl jwF_X11_7 dX11_wants_42 hk5 hb6 ?_
      refine jx_bipush (v := 7) dX11_wants_45 (by decide) ?_
      refine jx_dup2 dX11_wants_47 rfl rfl ?_
      refine jx_iald dX11_wants_48 hk7 hi8 ?_
      refine jx_iconst (v := 1) dX11_wants_49 (by decide) ?_
      refine jx_iadd dX11_wants_50 ?_
      refine jx_iast dX11_wants_51 hk7 hi8 ?_
      refine jx_aload_n 0 dX11_wants_52 rfl rfl ?_
      refine jx_getr jc_11 (j := 0) (by decide) rfl jwF_X11_7 dX11_wants_53 hk5 hb6 ?_
      refine jx_bipush (v := 7) dX11_wants_56 (by decide) ?_
      refine jx_iald dX11_wants_58 hk7 hi8 ?_
      refine jx_topi (y := ((ji (jput S b6 (Int32.toNatClampNeg (9 + (ji S b6 (Int32.toNatClampNeg 7)))) x1) b6 (Int32.toNatClampNeg 7)) + 1)) (by simp [ji_put, ji_row, ji_putr]) ?_
      exact jx_iret dX11_wants_59 rfl rfl (jle rfl) (jle rfl) ⟨_, rfl, h⟩
    replace h := h.1 c9
    refine jx_ldc jwC_X11_88 dX11_wants_22 ?_
    exact jx_iret dX11_wants_24 rfl rfl (jle rfl) (jle rfl) ⟨_, rfl, h⟩
  replace h := h.1 c4
  refine jx_ldc jwC_X11_87 dX11_wants_7 ?_
  exact jx_iret dX11_wants_9 rfl rfl (jle rfl) (jle rfl) ⟨_, rfl, h⟩
set_option maxRecDepth 100000 in
set_option maxHeartbeats 4000000 in
theorem T_X11_clear {E : jEnv} {d : Nat} {Q : Int32 → jM → Prop} {a0 : Nat} {S : jM} (h : jk S a0 = 11 ∧ jFi E mX11_becomes d 0 0 [.ref a0, .int 7, .int 0] S (fun r3 S2 => Q r3 S2)) : jFi E mX11_clear (d + 1) 0 0 [.ref a0] S Q := by
  refine jF_of (by decide) (jle rfl) ?_
  refine jx_lv (lv1 := [(0, .ref a0)]) [0] rfl ?_
  refine jx_aload_n 0 dX11_clear_0 rfl rfl ?_
  refine jx_bipush (v := 7) dX11_clear_1 (by decide) ?_
  refine jx_iconst (v := 0) dX11_clear_3 (by decide) ?_
  obtain ⟨hk1, h⟩ := h
  refine jx_callVi (M' := mX11_becomes) (As := [.int 7, .int 0]) jo_X11_becomes jc_11 rfl jwM_X11_130 jwN_X11_becomes jwX_X11_becomes dX11_clear_4 (jRok_m _ _ _) rfl (jle rfl) ⟨jle rfl, jle rfl⟩ hk1 h (fun r3 S2 h => ?_)
  exact jx_iret dX11_clear_7 rfl rfl (jle rfl) (jle rfl) ⟨_, rfl, h⟩
/-- X11_can at its loop's head 2 -/
abbrev L_X11_can_2 (E : jEnv) (d : Nat) (Q : Int32 → jM → Prop) (a0 : Nat) (x1 : Int32) (S : jM) : Prop := jX E mX11_can (jRm (d + 1) 0 0) (jZm E (fun r S' => ∃ v : Int32, r = some (.int v) ∧ Q v S') 0 0) 2 [(0, .ref a0), (1, .int x1)] [] S 0 0
set_option maxRecDepth 100000 in
set_option maxHeartbeats 4000000 in
theorem T_X11_can {E : jEnv} {d : Nat} {Q : Int32 → jM → Prop} {a0 : Nat} {S : jM} (h : L_X11_can_2 E d Q a0 0 S) : jFi E mX11_can (d + 1) 0 0 [.ref a0] S Q := by
  refine jF_of (by decide) (jle rfl) ?_
  refine jx_lv (lv1 := [(0, .ref a0)]) [0] rfl ?_
  refine jx_iconst (v := 0) dX11_can_0 (by decide) ?_
  refine jx_istore_n (lv1 := [(1, .int 0), (0, .ref a0)]) dX11_can_1 rfl (by decide) rfl ?_
  exact jx_lv [1, 0] rfl h
set_option maxRecDepth 100000 in
set_option maxHeartbeats 4000000 in
theorem T_X11_can_2 {E : jEnv} {d : Nat} {Q : Int32 → jM → Prop} {a0 : Nat} {x1 : Int32} {S : jM} (h : jk S a0 = 11 ∧ ∃ b2, jr S a0 0 = some b2 ∧ (jk S b2 = 12 ∧ vp_in 7 (jl S b2) ∧ (((ji S b2 (Int32.toNatClampNeg 7)) ≤ x1 → Q 1 S) ∧ (¬ (ji S b2 (Int32.toNatClampNeg 7)) ≤ x1 → vp_in (9 + x1) (jl S b2) ∧ (jFi E mX11_doesKnow d 0 0 [.ref a0, .int (ji S b2 (Int32.toNatClampNeg (9 + x1)))] S (fun r8 S7 => (r8 = 0 → Q 0 S7) ∧ (¬ r8 = 0 → L_X11_can_2 E d Q a0 (x1 + 1) S7))))))) : L_X11_can_2 E d Q a0 x1 S := by
  show jX E mX11_can (jRm (d + 1) 0 0) (jZm E (fun r S' => ∃ v : Int32, r = some (.int v) ∧ Q v S') 0 0) 2 [(0, .ref a0), (1, .int x1)] [] S 0 0
  refine jx_iload_n 1 dX11_can_2 rfl rfl ?_
  refine jx_aload_n 0 dX11_can_3 rfl rfl ?_
  obtain ⟨hk1, h⟩ := h
  obtain ⟨b2, hb2, h⟩ := h
  refine jx_getr jc_11 (j := 0) (by decide) rfl jwF_X11_7 dX11_can_4 hk1 hb2 ?_
  refine jx_bipush (v := 7) dX11_can_7 (by decide) ?_
  obtain ⟨hk3, h⟩ := h
  obtain ⟨hi4, h⟩ := h
  refine jx_iald dX11_can_9 hk3 hi4 ?_
  refine jx_icmp_ge (tgt := 37) dX11_can_10 (by decide) (fun c5 => ?_) (fun c5 => ?_)
  · replace h := h.1 c5
    refine jx_iconst (v := 1) dX11_can_37 (by decide) ?_
    exact jx_iret dX11_can_38 rfl (by decide) (jle rfl) (jle rfl) ⟨_, rfl, h⟩
  replace h := h.2 c5
  refine jx_aload_n 0 dX11_can_13 rfl rfl ?_
  refine jx_aload_n 0 dX11_can_14 rfl rfl ?_
  refine jx_getr jc_11 (j := 0) (by decide) rfl jwF_X11_7 dX11_can_15 hk1 hb2 ?_
  refine jx_bipush (v := 9) dX11_can_18 (by decide) ?_
  refine jx_iload_n 1 dX11_can_20 rfl rfl ?_
  refine jx_iadd dX11_can_21 ?_
  obtain ⟨hi6, h⟩ := h
  refine jx_iald dX11_can_22 hk3 hi6 ?_
  refine jx_callVi (M' := mX11_doesKnow) (As := [.int (ji S b2 (Int32.toNatClampNeg (9 + x1)))]) jo_X11_doesKnow jc_11 rfl jwM_X11_150 jwN_X11_doesKnow jwX_X11_doesKnow dX11_can_23 (jRok_m _ _ _) rfl (jle rfl) ⟨jle rfl, jle rfl⟩ hk1 h (fun r8 S7 h => ?_)
  refine jx_if_ne (tgt := 31) dX11_can_26 (by decide) (fun c9 => ?_) (fun c9 => ?_)
  · replace h := h.2 c9
    refine jx_iinc 1 (v := (x1 + 1)) (lv1 := [(1, .int (x1 + 1)), (0, .ref a0)]) dX11_can_31 rfl rfl (by decide) rfl ?_
    refine jx_goto (tgt := 2) dX11_can_34 (by decide) ?_
    exact jx_lv [1, 0] rfl h
  replace h := h.1 c9
  refine jx_iconst (v := 0) dX11_can_29 (by decide) ?_
  exact jx_iret dX11_can_30 rfl (by decide) (jle rfl) (jle rfl) ⟨_, rfl, h⟩
/-- X11_made at its loop's head 12 -/
abbrev L_X11_made_12 (E : jEnv) (d : Nat) (Q : Int32 → jM → Prop) (a0 : Nat) (x1 : Int32) (S : jM) : Prop := jX E mX11_made (jRm (d + 1) 0 0) (jZm E (fun r S' => ∃ v : Int32, r = some (.int v) ∧ Q v S') 0 0) 12 [(0, .ref a0), (1, .int x1)] [] S 0 0
set_option maxRecDepth 100000 in
set_option maxHeartbeats 4000000 in
theorem T_X11_made {E : jEnv} {d : Nat} {Q : Int32 → jM → Prop} {a0 : Nat} {S : jM} (h : jk S a0 = 11 ∧ jFi E mX11_can d 0 0 [.ref a0] S (fun r3 S2 => (r3 = 0 → Q (-1000000002) S2) ∧ (¬ r3 = 0 → L_X11_made_12 E d Q a0 0 S2))) : jFi E mX11_made (d + 1) 0 0 [.ref a0] S Q := by
  refine jF_of (by decide) (jle rfl) ?_
  refine jx_lv (lv1 := [(0, .ref a0)]) [0] rfl ?_
  refine jx_aload_n 0 dX11_made_0 rfl rfl ?_
  obtain ⟨hk1, h⟩ := h
  refine jx_callVi (M' := mX11_can) (As := []) jo_X11_can jc_11 rfl jwM_X11_172 jwN_X11_can jwX_X11_can dX11_made_1 (jRok_m _ _ _) rfl (jle rfl) ⟨jle rfl, jle rfl⟩ hk1 h (fun r3 S2 h => ?_)
  refine jx_if_ne (tgt := 10) dX11_made_4 (by decide) (fun c4 => ?_) (fun c4 => ?_)
  · replace h := h.2 c4
    refine jx_iconst (v := 0) dX11_made_10 (by decide) ?_
    refine jx_istore_n (lv1 := [(1, .int 0), (0, .ref a0)]) dX11_made_11 rfl (by decide) rfl ?_
    exact jx_lv [1, 0] rfl h
  replace h := h.1 c4
  refine jx_ldc jwC_X11_153 dX11_made_7 ?_
  exact jx_iret dX11_made_9 rfl rfl (jle rfl) (jle rfl) ⟨_, rfl, h⟩
set_option maxRecDepth 100000 in
set_option maxHeartbeats 4000000 in
theorem T_X11_made_12 {E : jEnv} {d : Nat} {Q : Int32 → jM → Prop} {a0 : Nat} {x1 : Int32} {S : jM} (h : jk S a0 = 11 ∧ ∃ b6, jr S a0 0 = some b6 ∧ (jk S b6 = 12 ∧ vp_in 7 (jl S b6) ∧ (((ji S b6 (Int32.toNatClampNeg 7)) ≤ x1 → vp_in 2 (jl S b6) ∧ (Q (ji S b6 (Int32.toNatClampNeg 2)) S)) ∧ (¬ (ji S b6 (Int32.toNatClampNeg 7)) ≤ x1 → vp_in (9 + x1) (jl S b6) ∧ (jFi E mX11_doesKnow d 0 0 [.ref a0, .int (ji S b6 (Int32.toNatClampNeg (9 + x1)))] S (fun r13 S12 => (r13 = 0 → L_X11_made_12 E d Q a0 (x1 + 1) S12) ∧ (¬ r13 = 0 → jk S12 a0 = 11 ∧ ∃ b16, jr S12 a0 0 = some b16 ∧ (jk S12 b16 = 12 ∧ vp_in (9 + x1) (jl S12 b16) ∧ (jFv E mX11_uses d 0 0 [.ref a0, .int (ji S12 b16 (Int32.toNatClampNeg (9 + x1)))] S12 (fun S19 => L_X11_made_12 E d Q a0 (x1 + 1) S19)))))))))) : L_X11_made_12 E d Q a0 x1 S := by
  show jX E mX11_made (jRm (d + 1) 0 0) (jZm E (fun r S' => ∃ v : Int32, r = some (.int v) ∧ Q v S') 0 0) 12 [(0, .ref a0), (1, .int x1)] [] S 0 0
  refine jx_iload_n 1 dX11_made_12 rfl rfl ?_
  refine jx_aload_n 0 dX11_made_13 rfl rfl ?_
  obtain ⟨hk5, h⟩ := h
  obtain ⟨b6, hb6, h⟩ := h
  refine jx_getr jc_11 (j := 0) (by decide) rfl jwF_X11_7 dX11_made_14 hk5 hb6 ?_
  refine jx_bipush (v := 7) dX11_made_17 (by decide) ?_
  obtain ⟨hk7, h⟩ := h
  obtain ⟨hi8, h⟩ := h
  refine jx_iald dX11_made_19 hk7 hi8 ?_
  refine jx_icmp_ge (tgt := 58) dX11_made_20 (by decide) (fun c9 => ?_) (fun c9 => ?_)
  · replace h := h.1 c9
    refine jx_aload_n 0 dX11_made_58 rfl rfl ?_
    refine jx_getr jc_11 (j := 0) (by decide) rfl jwF_X11_7 dX11_made_59 hk5 hb6 ?_
    refine jx_iconst (v := 2) dX11_made_62 (by decide) ?_
    obtain ⟨hi10, h⟩ := h
    refine jx_iald dX11_made_63 hk7 hi10 ?_
    exact jx_iret dX11_made_64 rfl rfl (jle rfl) (jle rfl) ⟨_, rfl, h⟩
  replace h := h.2 c9
  refine jx_aload_n 0 dX11_made_23 rfl rfl ?_
  refine jx_aload_n 0 dX11_made_24 rfl rfl ?_
  refine jx_getr jc_11 (j := 0) (by decide) rfl jwF_X11_7 dX11_made_25 hk5 hb6 ?_
  refine jx_bipush (v := 9) dX11_made_28 (by decide) ?_
  refine jx_iload_n 1 dX11_made_30 rfl rfl ?_
  refine jx_iadd dX11_made_31 ?_
  obtain ⟨hi11, h⟩ := h
  refine jx_iald dX11_made_32 hk7 hi11 ?_
  refine jx_callVi (M' := mX11_doesKnow) (As := [.int (ji S b6 (Int32.toNatClampNeg (9 + x1)))]) jo_X11_doesKnow jc_11 rfl jwM_X11_150 jwN_X11_doesKnow jwX_X11_doesKnow dX11_made_33 (jRok_m _ _ _) rfl (jle rfl) ⟨jle rfl, jle rfl⟩ hk5 h (fun r13 S12 h => ?_)
  refine jx_if_eq (tgt := 52) dX11_made_36 (by decide) (fun c14 => ?_) (fun c14 => ?_)
  · replace h := h.1 c14
    refine jx_iinc 1 (v := (x1 + 1)) (lv1 := [(1, .int (x1 + 1)), (0, .ref a0)]) dX11_made_52 rfl rfl (by decide) rfl ?_
    refine jx_goto (tgt := 12) dX11_made_55 (by decide) ?_
    exact jx_lv [1, 0] rfl h
  replace h := h.2 c14
  refine jx_aload_n 0 dX11_made_39 rfl rfl ?_
  refine jx_aload_n 0 dX11_made_40 rfl rfl ?_
  obtain ⟨hk15, h⟩ := h
  obtain ⟨b16, hb16, h⟩ := h
  refine jx_getr jc_11 (j := 0) (by decide) rfl jwF_X11_7 dX11_made_41 hk15 hb16 ?_
  refine jx_bipush (v := 9) dX11_made_44 (by decide) ?_
  refine jx_iload_n 1 dX11_made_46 rfl rfl ?_
  refine jx_iadd dX11_made_47 ?_
  obtain ⟨hk17, h⟩ := h
  obtain ⟨hi18, h⟩ := h
  refine jx_iald dX11_made_48 hk17 hi18 ?_
  refine jx_callVv (M' := mX11_uses) (As := [.int (ji S12 b16 (Int32.toNatClampNeg (9 + x1)))]) jo_X11_uses jc_11 rfl jwM_X11_167 jwN_X11_uses jwX_X11_uses dX11_made_49 (jRok_m _ _ _) rfl (jle rfl) ⟨jle rfl, jle rfl⟩ hk15 h (fun S19 h => ?_)
  refine jx_iinc 1 (v := (x1 + 1)) (lv1 := [(1, .int (x1 + 1)), (0, .ref a0)]) dX11_made_52 rfl rfl (by decide) rfl ?_
  refine jx_goto (tgt := 12) dX11_made_55 (by decide) ?_
  exact jx_lv [1, 0] rfl h
/-- X11_laysBy at its loop's head 2 -/
abbrev L_X11_laysBy_2 (E : jEnv) (d : Nat) (Q : jM → Prop) (a0 : Nat) (x1 : Int32) (S : jM) : Prop := jX E mX11_laysBy (jRm d 0 0) (jZm E (fun r S' => r = none ∧ Q S') 0 0) 2 [(0, .ref a0), (1, .int x1)] [] S 0 0
set_option maxRecDepth 100000 in
set_option maxHeartbeats 4000000 in
theorem T_X11_laysBy {E : jEnv} {d : Nat} {Q : jM → Prop} {a0 : Nat} {S : jM} (h : L_X11_laysBy_2 E d Q a0 0 S) : jFv E mX11_laysBy d 0 0 [.ref a0] S Q := by
  refine jF_of (by decide) (jle rfl) ?_
  refine jx_lv (lv1 := [(0, .ref a0)]) [0] rfl ?_
  refine jx_iconst (v := 0) dX11_laysBy_0 (by decide) ?_
  refine jx_istore_n (lv1 := [(1, .int 0), (0, .ref a0)]) dX11_laysBy_1 rfl (by decide) rfl ?_
  exact jx_lv [1, 0] rfl h
set_option maxRecDepth 100000 in
set_option maxHeartbeats 4000000 in
theorem T_X11_laysBy_2 {E : jEnv} {d : Nat} {Q : jM → Prop} {a0 : Nat} {x1 : Int32} {S : jM} (h : (135 ≤ x1 → Q S) ∧ (¬ 135 ≤ x1 → jk S a0 = 11 ∧ ∃ b3, jr S a0 13 = some b3 ∧ (∃ b4, jr S a0 0 = some b4 ∧ (jk S b4 = 12 ∧ vp_in x1 (jl S b4) ∧ (jk S b3 = 12 ∧ vp_in x1 (jl S b3) ∧ (L_X11_laysBy_2 E d Q a0 (x1 + 1) (jput S b3 (Int32.toNatClampNeg x1) (ji S b4 (Int32.toNatClampNeg x1))))))))) : L_X11_laysBy_2 E d Q a0 x1 S := by
  show jX E mX11_laysBy (jRm d 0 0) (jZm E (fun r S' => r = none ∧ Q S') 0 0) 2 [(0, .ref a0), (1, .int x1)] [] S 0 0
  refine jx_iload_n 1 dX11_laysBy_2 rfl rfl ?_
  refine jx_sipush (v := 135) dX11_laysBy_3 (by decide) ?_
  refine jx_icmp_ge (tgt := 27) dX11_laysBy_6 (by decide) (fun c1 => ?_) (fun c1 => ?_)
  · replace h := h.1 c1
    exact jx_vret dX11_laysBy_27 rfl (jle rfl) (jle rfl) ⟨rfl, h⟩
  replace h := h.2 c1
  refine jx_aload_n 0 dX11_laysBy_9 rfl rfl ?_
  obtain ⟨hk2, h⟩ := h
  obtain ⟨b3, hb3, h⟩ := h
  refine jx_getr jc_11 (j := 13) (by decide) rfl jwF_X11_46 dX11_laysBy_10 hk2 hb3 ?_
  refine jx_iload_n 1 dX11_laysBy_13 rfl rfl ?_
  refine jx_aload_n 0 dX11_laysBy_14 rfl rfl ?_
  obtain ⟨b4, hb4, h⟩ := h
  refine jx_getr jc_11 (j := 0) (by decide) rfl jwF_X11_7 dX11_laysBy_15 hk2 hb4 ?_
  refine jx_iload_n 1 dX11_laysBy_18 rfl rfl ?_
  obtain ⟨hk5, h⟩ := h
  obtain ⟨hi6, h⟩ := h
  refine jx_iald dX11_laysBy_19 hk5 hi6 ?_
  obtain ⟨hk7, h⟩ := h
  obtain ⟨hi8, h⟩ := h
  refine jx_iast dX11_laysBy_20 hk7 hi8 ?_
  refine jx_iinc 1 (v := (x1 + 1)) (lv1 := [(1, .int (x1 + 1)), (0, .ref a0)]) dX11_laysBy_21 rfl rfl (by decide) rfl ?_
  refine jx_goto (tgt := 2) dX11_laysBy_24 (by decide) ?_
  exact jx_lv [1, 0] rfl h
/-- X11_laysBack at its loop's head 2 -/
abbrev L_X11_laysBack_2 (E : jEnv) (d : Nat) (Q : jM → Prop) (a0 : Nat) (x1 : Int32) (S : jM) : Prop := jX E mX11_laysBack (jRm d 0 0) (jZm E (fun r S' => r = none ∧ Q S') 0 0) 2 [(0, .ref a0), (1, .int x1)] [] S 0 0
set_option maxRecDepth 100000 in
set_option maxHeartbeats 4000000 in
theorem T_X11_laysBack {E : jEnv} {d : Nat} {Q : jM → Prop} {a0 : Nat} {S : jM} (h : L_X11_laysBack_2 E d Q a0 0 S) : jFv E mX11_laysBack d 0 0 [.ref a0] S Q := by
  refine jF_of (by decide) (jle rfl) ?_
  refine jx_lv (lv1 := [(0, .ref a0)]) [0] rfl ?_
  refine jx_iconst (v := 0) dX11_laysBack_0 (by decide) ?_
  refine jx_istore_n (lv1 := [(1, .int 0), (0, .ref a0)]) dX11_laysBack_1 rfl (by decide) rfl ?_
  exact jx_lv [1, 0] rfl h
set_option maxRecDepth 100000 in
set_option maxHeartbeats 4000000 in
theorem T_X11_laysBack_2 {E : jEnv} {d : Nat} {Q : jM → Prop} {a0 : Nat} {x1 : Int32} {S : jM} (h : (135 ≤ x1 → Q S) ∧ (¬ 135 ≤ x1 → jk S a0 = 11 ∧ ∃ b3, jr S a0 0 = some b3 ∧ (∃ b4, jr S a0 13 = some b4 ∧ (jk S b4 = 12 ∧ vp_in x1 (jl S b4) ∧ (jk S b3 = 12 ∧ vp_in x1 (jl S b3) ∧ (L_X11_laysBack_2 E d Q a0 (x1 + 1) (jput S b3 (Int32.toNatClampNeg x1) (ji S b4 (Int32.toNatClampNeg x1))))))))) : L_X11_laysBack_2 E d Q a0 x1 S := by
  show jX E mX11_laysBack (jRm d 0 0) (jZm E (fun r S' => r = none ∧ Q S') 0 0) 2 [(0, .ref a0), (1, .int x1)] [] S 0 0
  refine jx_iload_n 1 dX11_laysBack_2 rfl rfl ?_
  refine jx_sipush (v := 135) dX11_laysBack_3 (by decide) ?_
  refine jx_icmp_ge (tgt := 27) dX11_laysBack_6 (by decide) (fun c1 => ?_) (fun c1 => ?_)
  · replace h := h.1 c1
    exact jx_vret dX11_laysBack_27 rfl (jle rfl) (jle rfl) ⟨rfl, h⟩
  replace h := h.2 c1
  refine jx_aload_n 0 dX11_laysBack_9 rfl rfl ?_
  obtain ⟨hk2, h⟩ := h
  obtain ⟨b3, hb3, h⟩ := h
  refine jx_getr jc_11 (j := 0) (by decide) rfl jwF_X11_7 dX11_laysBack_10 hk2 hb3 ?_
  refine jx_iload_n 1 dX11_laysBack_13 rfl rfl ?_
  refine jx_aload_n 0 dX11_laysBack_14 rfl rfl ?_
  obtain ⟨b4, hb4, h⟩ := h
  refine jx_getr jc_11 (j := 13) (by decide) rfl jwF_X11_46 dX11_laysBack_15 hk2 hb4 ?_
  refine jx_iload_n 1 dX11_laysBack_18 rfl rfl ?_
  obtain ⟨hk5, h⟩ := h
  obtain ⟨hi6, h⟩ := h
  refine jx_iald dX11_laysBack_19 hk5 hi6 ?_
  obtain ⟨hk7, h⟩ := h
  obtain ⟨hi8, h⟩ := h
  refine jx_iast dX11_laysBack_20 hk7 hi8 ?_
  refine jx_iinc 1 (v := (x1 + 1)) (lv1 := [(1, .int (x1 + 1)), (0, .ref a0)]) dX11_laysBack_21 rfl rfl (by decide) rfl ?_
  refine jx_goto (tgt := 2) dX11_laysBack_24 (by decide) ?_
  exact jx_lv [1, 0] rfl h
/-- X11_goesWay at its loop's head 4 -/
abbrev L_X11_goesWay_4 (E : jEnv) (d : Nat) (Q : Int32 → jM → Prop) (a0 : Nat) (x1 : Int32) (x2 : Int32) (S : jM) : Prop := jX E mX11_goesWay (jRm (d + 1) 0 0) (jZm E (fun r S' => ∃ v : Int32, r = some (.int v) ∧ Q v S') 0 0) 4 [(0, .ref a0), (1, .int x1), (2, .int x2)] [] S 0 0
set_option maxRecDepth 100000 in
set_option maxHeartbeats 4000000 in
theorem T_X11_goesWay {E : jEnv} {d : Nat} {Q : Int32 → jM → Prop} {a0 : Nat} {S : jM} (h : L_X11_goesWay_4 E d Q a0 0 0 S) : jFi E mX11_goesWay (d + 1) 0 0 [.ref a0] S Q := by
  refine jF_of (by decide) (jle rfl) ?_
  refine jx_lv (lv1 := [(0, .ref a0)]) [0] rfl ?_
  refine jx_iconst (v := 0) dX11_goesWay_0 (by decide) ?_
  refine jx_istore_n (lv1 := [(1, .int 0), (0, .ref a0)]) dX11_goesWay_1 rfl (by decide) rfl ?_
  refine jx_iconst (v := 0) dX11_goesWay_2 (by decide) ?_
  refine jx_istore_n (lv1 := [(2, .int 0), (1, .int 0), (0, .ref a0)]) dX11_goesWay_3 rfl (by decide) rfl ?_
  exact jx_lv [2, 1, 0] rfl h
set_option maxRecDepth 100000 in
set_option maxHeartbeats 4000000 in
theorem T_X11_goesWay_4 {E : jEnv} {d : Nat} {Q : Int32 → jM → Prop} {a0 : Nat} {x1 : Int32} {x2 : Int32} {S : jM} (h : (4 ≤ x2 → Q 3 S) ∧ (¬ 4 ≤ x2 → jk S a0 = 11 ∧ ∃ b3, jr S a0 14 = some b3 ∧ (jk S b3 = 12 ∧ vp_in x2 (jl S b3) ∧ (∃ b6, jr S a0 12 = some b6 ∧ (∃ b7, jr S a0 0 = some b7 ∧ (jk S b7 = 12 ∧ vp_in 3 (jl S b7) ∧ (jFi E mX11_of d 0 0 [.ref a0, .int (ji S b3 (Int32.toNatClampNeg x2)), .int 1] S (fun r11 S10 => jk S10 b6 = 12 ∧ vp_in ((6 * (ji S b7 (Int32.toNatClampNeg 3))) + r11) (jl S10 b6) ∧ (((ji S10 b6 (Int32.toNatClampNeg ((6 * (ji S b7 (Int32.toNatClampNeg 3))) + r11))) = 9999 → Q x2 S10) ∧ (¬ (ji S10 b6 (Int32.toNatClampNeg ((6 * (ji S b7 (Int32.toNatClampNeg 3))) + r11))) = 9999 → jk S10 a0 = 11 ∧ jFv E mX11_goesBy d 0 0 [.ref a0, .int (ji S10 b6 (Int32.toNatClampNeg ((6 * (ji S b7 (Int32.toNatClampNeg 3))) + r11)))] S10 (fun S16 => jk S16 a0 = 11 ∧ ∃ b18, jr S16 a0 0 = some b18 ∧ (jFi E mX11_of d 0 0 [.ref a0, .int (ji S b3 (Int32.toNatClampNeg x2)), .int 1] S16 (fun r20 S19 => jk S19 b18 = 12 ∧ vp_in 3 (jl S19 b18) ∧ (jk S19 a0 = 11 ∧ jFi E mX11_canLearn d 0 0 [.ref a0, .int (ji S b3 (Int32.toNatClampNeg x2))] (jput S19 b18 (Int32.toNatClampNeg 3) r20) (fun r25 S24 => (r25 = 0 → Q x2 S24) ∧ (¬ r25 = 0 → jk S24 a0 = 11 ∧ jFi E mX11_learns d 0 0 [.ref a0, .int (ji S b3 (Int32.toNatClampNeg x2))] S24 (fun r29 S28 => ∀ y30 : Int32, y30 = (x1 + ((ji S10 b6 (Int32.toNatClampNeg ((6 * (ji S b7 (Int32.toNatClampNeg 3))) + r11))) + r29)) → jk S28 a0 = 11 ∧ jFi E mX11_can d 0 0 [.ref a0] S28 (fun r33 S32 => (r33 = 0 → L_X11_goesWay_4 E d Q a0 y30 (x2 + 1) S32) ∧ (¬ r33 = 0 → jk S32 a0 = 11 ∧ ∃ b36, jr S32 a0 13 = some b36 ∧ (jk S32 b36 = 12 ∧ vp_in 5 (jl S32 b36) ∧ (∃ b39, jr S32 a0 0 = some b39 ∧ (jk S32 b39 = 12 ∧ vp_in 5 (jl S32 b39) ∧ (((ji S32 a0 15) < 0 → ∃ b43, jr S32 a0 14 = some b43 ∧ (jk S32 b43 = 12 ∧ vp_in 0 (jl S32 b43) ∧ (Q x2 (jput (jput (jput S32 a0 15 y30) a0 16 ((ji S32 b36 (Int32.toNatClampNeg 5)) - (ji S32 b39 (Int32.toNatClampNeg 5)))) a0 17 (ji S32 b43 (Int32.toNatClampNeg 0)))))) ∧ (¬ (ji S32 a0 15) < 0 → (y30 < (ji S32 a0 15) → ∃ b47, jr S32 a0 14 = some b47 ∧ (jk S32 b47 = 12 ∧ vp_in 0 (jl S32 b47) ∧ (Q x2 (jput (jput (jput S32 a0 15 y30) a0 16 ((ji S32 b36 (Int32.toNatClampNeg 5)) - (ji S32 b39 (Int32.toNatClampNeg 5)))) a0 17 (ji S32 b47 (Int32.toNatClampNeg 0)))))) ∧ (¬ y30 < (ji S32 a0 15) → (y30 = (ji S32 a0 15) → (((ji S32 b36 (Int32.toNatClampNeg 5)) - (ji S32 b39 (Int32.toNatClampNeg 5))) < (ji S32 a0 16) → ∃ b52, jr S32 a0 14 = some b52 ∧ (jk S32 b52 = 12 ∧ vp_in 0 (jl S32 b52) ∧ (Q x2 (jput (jput (jput S32 a0 15 y30) a0 16 ((ji S32 b36 (Int32.toNatClampNeg 5)) - (ji S32 b39 (Int32.toNatClampNeg 5)))) a0 17 (ji S32 b52 (Int32.toNatClampNeg 0)))))) ∧ (¬ ((ji S32 b36 (Int32.toNatClampNeg 5)) - (ji S32 b39 (Int32.toNatClampNeg 5))) < (ji S32 a0 16) → (((ji S32 b36 (Int32.toNatClampNeg 5)) - (ji S32 b39 (Int32.toNatClampNeg 5))) = (ji S32 a0 16) → ∃ b56, jr S32 a0 14 = some b56 ∧ (jk S32 b56 = 12 ∧ vp_in 0 (jl S32 b56) ∧ (((ji S32 a0 17) ≤ (ji S32 b56 (Int32.toNatClampNeg 0)) → Q x2 (jput (jput (jput S32 a0 15 (ji S32 a0 15)) a0 16 (ji S32 a0 16)) a0 17 (ji S32 a0 17))) ∧ (¬ (ji S32 a0 17) ≤ (ji S32 b56 (Int32.toNatClampNeg 0)) → (Q x2 (jput (jput (jput S32 a0 15 y30) a0 16 ((ji S32 b36 (Int32.toNatClampNeg 5)) - (ji S32 b39 (Int32.toNatClampNeg 5)))) a0 17 (ji S32 b56 (Int32.toNatClampNeg 0)))))))) ∧ (¬ ((ji S32 b36 (Int32.toNatClampNeg 5)) - (ji S32 b39 (Int32.toNatClampNeg 5))) = (ji S32 a0 16) → Q x2 (jput (jput (jput S32 a0 15 (ji S32 a0 15)) a0 16 (ji S32 a0 16)) a0 17 (ji S32 a0 17))))) ∧ (¬ y30 = (ji S32 a0 15) → Q x2 (jput (jput (jput S32 a0 15 (ji S32 a0 15)) a0 16 (ji S32 a0 16)) a0 17 (ji S32 a0 17)))))))))))))))))))))))))))) : L_X11_goesWay_4 E d Q a0 x1 x2 S := by
  show jX E mX11_goesWay (jRm (d + 1) 0 0) (jZm E (fun r S' => ∃ v : Int32, r = some (.int v) ∧ Q v S') 0 0) 4 [(0, .ref a0), (1, .int x1), (2, .int x2)] [] S 0 0
  refine jx_iload_n 2 dX11_goesWay_4 rfl rfl ?_
  refine jx_iconst (v := 4) dX11_goesWay_5 (by decide) ?_
  refine jx_icmp_ge (tgt := 236) dX11_goesWay_6 (by decide) (fun c1 => ?_) (fun c1 => ?_)
  · replace h := h.1 c1
    refine jx_iconst (v := 3) dX11_goesWay_236 (by decide) ?_
    exact jx_iret dX11_goesWay_237 rfl rfl (jle rfl) (jle rfl) ⟨_, rfl, h⟩
  replace h := h.2 c1
  refine jx_aload_n 0 dX11_goesWay_9 rfl rfl ?_
  obtain ⟨hk2, h⟩ := h
  obtain ⟨b3, hb3, h⟩ := h
  refine jx_getr jc_11 (j := 14) (by decide) rfl jwF_X11_49 dX11_goesWay_10 hk2 hb3 ?_
  refine jx_iload_n 2 dX11_goesWay_13 rfl rfl ?_
  obtain ⟨hk4, h⟩ := h
  obtain ⟨hi5, h⟩ := h
  refine jx_iald dX11_goesWay_14 hk4 hi5 ?_
  refine jx_istore_n (lv1 := [(3, .int (ji S b3 (Int32.toNatClampNeg x2))), (0, .ref a0), (1, .int x1), (2, .int x2)]) dX11_goesWay_15 rfl (by decide) rfl ?_
  refine jx_aload_n 1 dX11_goesWay_16 rfl rfl ?_
  obtain ⟨b6, hb6, h⟩ := h
  refine jx_getr jc_11 (j := 12) (by decide) rfl jwF_X11_43 dX11_goesWay_17 hk2 hb6 ?_
  refine jx_bipush (v := 6) dX11_goesWay_20 (by decide) ?_
  refine jx_aload_n 1 dX11_goesWay_22 rfl rfl ?_
  obtain ⟨b7, hb7, h⟩ := h
  refine jx_getr jc_11 (j := 0) (by decide) rfl jwF_X11_7 dX11_goesWay_23 hk2 hb7 ?_
  refine jx_iconst (v := 3) dX11_goesWay_26 (by decide) ?_
  obtain ⟨hk8, h⟩ := h
  obtain ⟨hi9, h⟩ := h
  refine jx_iald dX11_goesWay_27 hk8 hi9 ?_
  refine jx_imul dX11_goesWay_28 ?_
  refine jx_aload_n 1 dX11_goesWay_29 rfl rfl ?_
  refine jx_iload_n 0 dX11_goesWay_30 rfl rfl ?_
  refine jx_iconst (v := 1) dX11_goesWay_31 (by decide) ?_
  refine jx_callVi (M' := mX11_of) (As := [.int (ji S b3 (Int32.toNatClampNeg x2)), .int 1]) jo_X11_of jc_11 rfl jwM_X11_97 jwN_X11_of jwX_X11_of dX11_goesWay_32 (jRok_m _ _ _) rfl (jle rfl) ⟨jle rfl, jle rfl⟩ hk2 h (fun r11 S10 h => ?_)
  refine jx_iadd dX11_goesWay_35 ?_
  obtain ⟨hk12, h⟩ := h
  obtain ⟨hi13, h⟩ := h
  refine jx_iald dX11_goesWay_36 hk12 hi13 ?_
  refine jx_istore (lv1 := [(4, .int (ji S10 b6 (Int32.toNatClampNeg ((6 * (ji S b7 (Int32.toNatClampNeg 3))) + r11)))), (3, .int (ji S b3 (Int32.toNatClampNeg x2))), (0, .ref a0), (1, .int x1), (2, .int x2)]) dX11_goesWay_37 (by decide) rfl ?_
  refine jx_iload 0 dX11_goesWay_39 rfl ?_
  refine jx_sipush (v := 9999) dX11_goesWay_41 (by decide) ?_
  refine jx_icmp_ne (tgt := 49) dX11_goesWay_44 (by decide) (fun c14 => ?_) (fun c14 => ?_)
  · replace h := h.2 c14
    refine jx_aload_n 2 dX11_goesWay_49 rfl rfl ?_
    refine jx_iload 0 dX11_goesWay_50 rfl ?_
    obtain ⟨hk15, h⟩ := h
    refine jx_callVv (M' := mX11_goesBy) (As := [.int (ji S10 b6 (Int32.toNatClampNeg ((6 * (ji S b7 (Int32.toNatClampNeg 3))) + r11)))]) jo_X11_goesBy jc_11 rfl jwM_X11_154 jwN_X11_goesBy jwX_X11_goesBy dX11_goesWay_52 (jRok_m _ _ _) rfl (jle rfl) ⟨jle rfl, jle rfl⟩ hk15 h (fun S16 h => ?_)
    refine jx_aload_n 2 dX11_goesWay_55 rfl rfl ?_
    obtain ⟨hk17, h⟩ := h
    obtain ⟨b18, hb18, h⟩ := h
    refine jx_getr jc_11 (j := 0) (by decide) rfl jwF_X11_7 dX11_goesWay_56 hk17 hb18 ?_
    refine jx_iconst (v := 3) dX11_goesWay_59 (by decide) ?_
    refine jx_aload_n 2 dX11_goesWay_60 rfl rfl ?_
    refine jx_iload_n 1 dX11_goesWay_61 rfl rfl ?_
    refine jx_iconst (v := 1) dX11_goesWay_62 (by decide) ?_
    refine jx_callVi (M' := mX11_of) (As := [.int (ji S b3 (Int32.toNatClampNeg x2)), .int 1]) jo_X11_of jc_11 rfl jwM_X11_97 jwN_X11_of jwX_X11_of dX11_goesWay_63 (jRok_m _ _ _) rfl (jle rfl) ⟨jle rfl, jle rfl⟩ hk17 h (fun r20 S19 h => ?_)
    obtain ⟨hk21, h⟩ := h
    obtain ⟨hi22, h⟩ := h
    refine jx_iast dX11_goesWay_66 hk21 hi22 ?_
    refine jx_aload_n 2 dX11_goesWay_67 rfl rfl ?_
    refine jx_iload_n 1 dX11_goesWay_68 rfl rfl ?_
    obtain ⟨hk23, h⟩ := h
    refine jx_callVi (M' := mX11_canLearn) (As := [.int (ji S b3 (Int32.toNatClampNeg x2))]) jo_X11_canLearn jc_11 rfl jwM_X11_161 jwN_X11_canLearn jwX_X11_canLearn dX11_goesWay_69 (jRok_m _ _ _) rfl (jle rfl) ⟨jle rfl, jle rfl⟩ hk23 h (fun r25 S24 h => ?_)
    refine jx_if_ne (tgt := 77) dX11_goesWay_72 (by decide) (fun c26 => ?_) (fun c26 => ?_)
    · replace h := h.2 c26
      refine jx_iload_n 3 dX11_goesWay_77 rfl rfl ?_
      refine jx_iload 0 dX11_goesWay_78 rfl ?_
      refine jx_aload_n 2 dX11_goesWay_80 rfl rfl ?_
      refine jx_iload_n 1 dX11_goesWay_81 rfl rfl ?_
      obtain ⟨hk27, h⟩ := h
      refine jx_callVi (M' := mX11_learns) (As := [.int (ji S b3 (Int32.toNatClampNeg x2))]) jo_X11_learns jc_11 rfl jwM_X11_164 jwN_X11_learns jwX_X11_learns dX11_goesWay_82 (jRok_m _ _ _) rfl (jle rfl) ⟨jle rfl, jle rfl⟩ hk27 h (fun r29 S28 h => ?_)
      refine jx_iadd dX11_goesWay_85 ?_
      refine jx_iadd dX11_goesWay_86 ?_
      refine jx_nm (fun y30 ey30 => ?_)
      replace h := h y30 ey30
      refine jx_istore_n (lv1 := [(1, .int y30), (4, .int (ji S10 b6 (Int32.toNatClampNeg ((6 * (ji S b7 (Int32.toNatClampNeg 3))) + r11)))), (3, .int (ji S b3 (Int32.toNatClampNeg x2))), (0, .ref a0), (2, .int x2)]) dX11_goesWay_87 rfl (by decide) rfl ?_
      refine jx_aload_n 3 dX11_goesWay_88 rfl rfl ?_
      obtain ⟨hk31, h⟩ := h
      refine jx_callVi (M' := mX11_can) (As := []) jo_X11_can jc_11 rfl jwM_X11_172 jwN_X11_can jwX_X11_can dX11_goesWay_89 (jRok_m _ _ _) rfl (jle rfl) ⟨jle rfl, jle rfl⟩ hk31 h (fun r33 S32 h => ?_)
      refine jx_if_eq (tgt := 230) dX11_goesWay_92 (by decide) (fun c34 => ?_) (fun c34 => ?_)
      · replace h := h.1 c34
        refine jx_iinc 4 (v := (x2 + 1)) (lv1 := [(2, .int (x2 + 1)), (1, .int y30), (4, .int (ji S10 b6 (Int32.toNatClampNeg ((6 * (ji S b7 (Int32.toNatClampNeg 3))) + r11)))), (3, .int (ji S b3 (Int32.toNatClampNeg x2))), (0, .ref a0)]) dX11_goesWay_230 rfl rfl (by decide) rfl ?_
        refine jx_goto (tgt := 4) dX11_goesWay_233 (by decide) ?_
        exact jx_lv [4, 1, 0] rfl h
      replace h := h.2 c34
      refine jx_aload_n 3 dX11_goesWay_95 rfl rfl ?_
      obtain ⟨hk35, h⟩ := h
      obtain ⟨b36, hb36, h⟩ := h
      refine jx_getr jc_11 (j := 13) (by decide) rfl jwF_X11_46 dX11_goesWay_96 hk35 hb36 ?_
      refine jx_iconst (v := 5) dX11_goesWay_99 (by decide) ?_
      obtain ⟨hk37, h⟩ := h
      obtain ⟨hi38, h⟩ := h
      refine jx_iald dX11_goesWay_100 hk37 hi38 ?_
      refine jx_aload_n 3 dX11_goesWay_101 rfl rfl ?_
      obtain ⟨b39, hb39, h⟩ := h
      refine jx_getr jc_11 (j := 0) (by decide) rfl jwF_X11_7 dX11_goesWay_102 hk35 hb39 ?_
      refine jx_iconst (v := 5) dX11_goesWay_105 (by decide) ?_
      obtain ⟨hk40, h⟩ := h
      obtain ⟨hi41, h⟩ := h
      refine jx_iald dX11_goesWay_106 hk40 hi41 ?_
      refine jx_isub dX11_goesWay_107 ?_
      refine jx_istore (lv1 := [(5, .int ((ji S32 b36 (Int32.toNatClampNeg 5)) - (ji S32 b39 (Int32.toNatClampNeg 5)))), (1, .int y30), (4, .int (ji S10 b6 (Int32.toNatClampNeg ((6 * (ji S b7 (Int32.toNatClampNeg 3))) + r11)))), (3, .int (ji S b3 (Int32.toNatClampNeg x2))), (0, .ref a0), (2, .int x2)]) dX11_goesWay_108 (by decide) rfl ?_
      refine jx_aload_n 4 dX11_goesWay_110 rfl rfl ?_
      refine jx_geti jc_11 (j := 15) (by decide) rfl jwF_X11_176 dX11_goesWay_111 hk35 ?_
      refine jx_if_lt (tgt := 164) dX11_goesWay_114 (by decide) (fun c42 => ?_) (fun c42 => ?_)
      · replace h := h.1 c42
        refine jx_iconst (v := 1) dX11_goesWay_164 (by decide) ?_
        refine jx_goto (tgt := 169) dX11_goesWay_165 (by decide) ?_
        refine jx_istore (lv1 := [(6, .int 1), (5, .int ((ji S32 b36 (Int32.toNatClampNeg 5)) - (ji S32 b39 (Int32.toNatClampNeg 5)))), (1, .int y30), (4, .int (ji S10 b6 (Int32.toNatClampNeg ((6 * (ji S b7 (Int32.toNatClampNeg 3))) + r11)))), (3, .int (ji S b3 (Int32.toNatClampNeg x2))), (0, .ref a0), (2, .int x2)]) dX11_goesWay_169 (by decide) rfl ?_
        refine jx_aload_n 5 dX11_goesWay_171 rfl rfl ?_
        refine jx_iload 0 dX11_goesWay_172 rfl ?_
        refine jx_if_eq (tgt := 181) dX11_goesWay_174 (by decide) (fun z9 => absurd z9 (by decide)) (fun _ => ?_)
        refine jx_iload_n 2 dX11_goesWay_177 rfl rfl ?_
        refine jx_goto (tgt := 185) dX11_goesWay_178 (by decide) ?_
        refine jx_puti jc_11 (j := 15) (by decide) rfl jwF_X11_176 rfl rfl rfl dX11_goesWay_185 hk35 ?_
        refine jx_aload_n 5 dX11_goesWay_188 rfl rfl ?_
        refine jx_iload 0 dX11_goesWay_189 rfl ?_
        refine jx_if_eq (tgt := 199) dX11_goesWay_191 (by decide) (fun z9 => absurd z9 (by decide)) (fun _ => ?_)
        refine jx_iload 1 dX11_goesWay_194 rfl ?_
        refine jx_goto (tgt := 203) dX11_goesWay_196 (by decide) ?_
        refine jx_puti jc_11 (j := 16) (by decide) rfl jwF_X11_180 rfl rfl rfl dX11_goesWay_203 hk35 ?_
        refine jx_aload_n 5 dX11_goesWay_206 rfl rfl ?_
        refine jx_iload 0 dX11_goesWay_207 rfl ?_
        refine jx_if_eq (tgt := 221) dX11_goesWay_209 (by decide) (fun z9 => absurd z9 (by decide)) (fun _ => ?_)
        refine jx_aload_n 5 dX11_goesWay_212 rfl rfl ?_
        obtain ⟨b43, hb43, h⟩ := h
        refine jx_getr jc_11 (j := 14) (by decide) rfl jwF_X11_49 dX11_goesWay_213 hk35 hb43 ?_
        refine jx_iconst (v := 0) dX11_goesWay_216 (by decide) ?_
        obtain ⟨hk44, h⟩ := h
        obtain ⟨hi45, h⟩ := h
        refine jx_iald dX11_goesWay_217 hk44 hi45 ?_
        refine jx_topi (y := (ji S32 b43 (Int32.toNatClampNeg 0))) (by simp [ji_put, ji_row, ji_putr, jne hk44 hk35 (by decide), jne hk44 hk35 (by decide)]) ?_
        refine jx_goto (tgt := 225) dX11_goesWay_218 (by decide) ?_
        refine jx_puti jc_11 (j := 17) (by decide) rfl jwF_X11_183 rfl rfl rfl dX11_goesWay_225 hk35 ?_
        refine jx_iload_n 6 dX11_goesWay_228 rfl rfl ?_
        exact jx_iret dX11_goesWay_229 rfl rfl (jle rfl) (jle rfl) ⟨_, rfl, h⟩
      replace h := h.2 c42
      refine jx_iload_n 1 dX11_goesWay_117 rfl rfl ?_
      refine jx_aload_n 4 dX11_goesWay_118 rfl rfl ?_
      refine jx_geti jc_11 (j := 15) (by decide) rfl jwF_X11_176 dX11_goesWay_119 hk35 ?_
      refine jx_icmp_lt (tgt := 164) dX11_goesWay_122 (by decide) (fun c46 => ?_) (fun c46 => ?_)
      · replace h := h.1 c46
        refine jx_iconst (v := 1) dX11_goesWay_164 (by decide) ?_
        refine jx_goto (tgt := 169) dX11_goesWay_165 (by decide) ?_
        refine jx_istore (lv1 := [(6, .int 1), (5, .int ((ji S32 b36 (Int32.toNatClampNeg 5)) - (ji S32 b39 (Int32.toNatClampNeg 5)))), (1, .int y30), (4, .int (ji S10 b6 (Int32.toNatClampNeg ((6 * (ji S b7 (Int32.toNatClampNeg 3))) + r11)))), (3, .int (ji S b3 (Int32.toNatClampNeg x2))), (0, .ref a0), (2, .int x2)]) dX11_goesWay_169 (by decide) rfl ?_
        refine jx_aload_n 5 dX11_goesWay_171 rfl rfl ?_
        refine jx_iload 0 dX11_goesWay_172 rfl ?_
        refine jx_if_eq (tgt := 181) dX11_goesWay_174 (by decide) (fun z9 => absurd z9 (by decide)) (fun _ => ?_)
        refine jx_iload_n 2 dX11_goesWay_177 rfl rfl ?_
        refine jx_goto (tgt := 185) dX11_goesWay_178 (by decide) ?_
        refine jx_puti jc_11 (j := 15) (by decide) rfl jwF_X11_176 rfl rfl rfl dX11_goesWay_185 hk35 ?_
        refine jx_aload_n 5 dX11_goesWay_188 rfl rfl ?_
        refine jx_iload 0 dX11_goesWay_189 rfl ?_
        refine jx_if_eq (tgt := 199) dX11_goesWay_191 (by decide) (fun z9 => absurd z9 (by decide)) (fun _ => ?_)
        refine jx_iload 1 dX11_goesWay_194 rfl ?_
        refine jx_goto (tgt := 203) dX11_goesWay_196 (by decide) ?_
        refine jx_puti jc_11 (j := 16) (by decide) rfl jwF_X11_180 rfl rfl rfl dX11_goesWay_203 hk35 ?_
        refine jx_aload_n 5 dX11_goesWay_206 rfl rfl ?_
        refine jx_iload 0 dX11_goesWay_207 rfl ?_
        refine jx_if_eq (tgt := 221) dX11_goesWay_209 (by decide) (fun z9 => absurd z9 (by decide)) (fun _ => ?_)
        refine jx_aload_n 5 dX11_goesWay_212 rfl rfl ?_
        obtain ⟨b47, hb47, h⟩ := h
        refine jx_getr jc_11 (j := 14) (by decide) rfl jwF_X11_49 dX11_goesWay_213 hk35 hb47 ?_
        refine jx_iconst (v := 0) dX11_goesWay_216 (by decide) ?_
        obtain ⟨hk48, h⟩ := h
        obtain ⟨hi49, h⟩ := h
        refine jx_iald dX11_goesWay_217 hk48 hi49 ?_
        refine jx_topi (y := (ji S32 b47 (Int32.toNatClampNeg 0))) (by simp [ji_put, ji_row, ji_putr, jne hk48 hk35 (by decide), jne hk48 hk35 (by decide)]) ?_
        refine jx_goto (tgt := 225) dX11_goesWay_218 (by decide) ?_
        refine jx_puti jc_11 (j := 17) (by decide) rfl jwF_X11_183 rfl rfl rfl dX11_goesWay_225 hk35 ?_
        refine jx_iload_n 6 dX11_goesWay_228 rfl rfl ?_
        exact jx_iret dX11_goesWay_229 rfl rfl (jle rfl) (jle rfl) ⟨_, rfl, h⟩
      replace h := h.2 c46
      refine jx_iload_n 1 dX11_goesWay_125 rfl rfl ?_
      refine jx_aload_n 4 dX11_goesWay_126 rfl rfl ?_
      refine jx_geti jc_11 (j := 15) (by decide) rfl jwF_X11_176 dX11_goesWay_127 hk35 ?_
      refine jx_icmp_ne (tgt := 168) dX11_goesWay_130 (by decide) (fun c50 => ?_) (fun c50 => ?_)
      · replace h := h.2 c50
        refine jx_iconst (v := 0) dX11_goesWay_168 (by decide) ?_
        refine jx_istore (lv1 := [(6, .int 0), (5, .int ((ji S32 b36 (Int32.toNatClampNeg 5)) - (ji S32 b39 (Int32.toNatClampNeg 5)))), (1, .int y30), (4, .int (ji S10 b6 (Int32.toNatClampNeg ((6 * (ji S b7 (Int32.toNatClampNeg 3))) + r11)))), (3, .int (ji S b3 (Int32.toNatClampNeg x2))), (0, .ref a0), (2, .int x2)]) dX11_goesWay_169 (by decide) rfl ?_
        refine jx_aload_n 5 dX11_goesWay_171 rfl rfl ?_
        refine jx_iload 0 dX11_goesWay_172 rfl ?_
        refine jx_if_eq (tgt := 181) dX11_goesWay_174 (by decide) (fun _ => ?_) (fun z9 => absurd z9 (by decide))
        refine jx_aload_n 5 dX11_goesWay_181 rfl rfl ?_
        refine jx_geti jc_11 (j := 15) (by decide) rfl jwF_X11_176 dX11_goesWay_182 hk35 ?_
        refine jx_puti jc_11 (j := 15) (by decide) rfl jwF_X11_176 rfl rfl rfl dX11_goesWay_185 hk35 ?_
        refine jx_aload_n 5 dX11_goesWay_188 rfl rfl ?_
        refine jx_iload 0 dX11_goesWay_189 rfl ?_
        refine jx_if_eq (tgt := 199) dX11_goesWay_191 (by decide) (fun _ => ?_) (fun z9 => absurd z9 (by decide))
        refine jx_aload_n 5 dX11_goesWay_199 rfl rfl ?_
        refine jx_geti jc_11 (j := 16) (by decide) rfl jwF_X11_180 dX11_goesWay_200 hk35 ?_
        refine jx_topi (y := (ji S32 a0 16)) (by simp [ji_put, ji_row, ji_putr]) ?_
        refine jx_puti jc_11 (j := 16) (by decide) rfl jwF_X11_180 rfl rfl rfl dX11_goesWay_203 hk35 ?_
        refine jx_aload_n 5 dX11_goesWay_206 rfl rfl ?_
        refine jx_iload 0 dX11_goesWay_207 rfl ?_
        refine jx_if_eq (tgt := 221) dX11_goesWay_209 (by decide) (fun _ => ?_) (fun z9 => absurd z9 (by decide))
        refine jx_aload_n 5 dX11_goesWay_221 rfl rfl ?_
        refine jx_geti jc_11 (j := 17) (by decide) rfl jwF_X11_183 dX11_goesWay_222 hk35 ?_
        refine jx_topi (y := (ji S32 a0 17)) (by simp [ji_put, ji_row, ji_putr]) ?_
        refine jx_puti jc_11 (j := 17) (by decide) rfl jwF_X11_183 rfl rfl rfl dX11_goesWay_225 hk35 ?_
        refine jx_iload_n 6 dX11_goesWay_228 rfl rfl ?_
        exact jx_iret dX11_goesWay_229 rfl rfl (jle rfl) (jle rfl) ⟨_, rfl, h⟩
      replace h := h.1 c50
      refine jx_iload 0 dX11_goesWay_133 rfl ?_
      refine jx_aload_n 4 dX11_goesWay_135 rfl rfl ?_
      refine jx_geti jc_11 (j := 16) (by decide) rfl jwF_X11_180 dX11_goesWay_136 hk35 ?_
      refine jx_icmp_lt (tgt := 164) dX11_goesWay_139 (by decide) (fun c51 => ?_) (fun c51 => ?_)
      · replace h := h.1 c51
        refine jx_iconst (v := 1) dX11_goesWay_164 (by decide) ?_
        refine jx_goto (tgt := 169) dX11_goesWay_165 (by decide) ?_
        refine jx_istore (lv1 := [(6, .int 1), (5, .int ((ji S32 b36 (Int32.toNatClampNeg 5)) - (ji S32 b39 (Int32.toNatClampNeg 5)))), (1, .int y30), (4, .int (ji S10 b6 (Int32.toNatClampNeg ((6 * (ji S b7 (Int32.toNatClampNeg 3))) + r11)))), (3, .int (ji S b3 (Int32.toNatClampNeg x2))), (0, .ref a0), (2, .int x2)]) dX11_goesWay_169 (by decide) rfl ?_
        refine jx_aload_n 5 dX11_goesWay_171 rfl rfl ?_
        refine jx_iload 0 dX11_goesWay_172 rfl ?_
        refine jx_if_eq (tgt := 181) dX11_goesWay_174 (by decide) (fun z9 => absurd z9 (by decide)) (fun _ => ?_)
        refine jx_iload_n 2 dX11_goesWay_177 rfl rfl ?_
        refine jx_goto (tgt := 185) dX11_goesWay_178 (by decide) ?_
        refine jx_puti jc_11 (j := 15) (by decide) rfl jwF_X11_176 rfl rfl rfl dX11_goesWay_185 hk35 ?_
        refine jx_aload_n 5 dX11_goesWay_188 rfl rfl ?_
        refine jx_iload 0 dX11_goesWay_189 rfl ?_
        refine jx_if_eq (tgt := 199) dX11_goesWay_191 (by decide) (fun z9 => absurd z9 (by decide)) (fun _ => ?_)
        refine jx_iload 1 dX11_goesWay_194 rfl ?_
        refine jx_goto (tgt := 203) dX11_goesWay_196 (by decide) ?_
        refine jx_puti jc_11 (j := 16) (by decide) rfl jwF_X11_180 rfl rfl rfl dX11_goesWay_203 hk35 ?_
        refine jx_aload_n 5 dX11_goesWay_206 rfl rfl ?_
        refine jx_iload 0 dX11_goesWay_207 rfl ?_
        refine jx_if_eq (tgt := 221) dX11_goesWay_209 (by decide) (fun z9 => absurd z9 (by decide)) (fun _ => ?_)
        refine jx_aload_n 5 dX11_goesWay_212 rfl rfl ?_
        obtain ⟨b52, hb52, h⟩ := h
        refine jx_getr jc_11 (j := 14) (by decide) rfl jwF_X11_49 dX11_goesWay_213 hk35 hb52 ?_
        refine jx_iconst (v := 0) dX11_goesWay_216 (by decide) ?_
        obtain ⟨hk53, h⟩ := h
        obtain ⟨hi54, h⟩ := h
        refine jx_iald dX11_goesWay_217 hk53 hi54 ?_
        refine jx_topi (y := (ji S32 b52 (Int32.toNatClampNeg 0))) (by simp [ji_put, ji_row, ji_putr, jne hk53 hk35 (by decide), jne hk53 hk35 (by decide)]) ?_
        refine jx_goto (tgt := 225) dX11_goesWay_218 (by decide) ?_
        refine jx_puti jc_11 (j := 17) (by decide) rfl jwF_X11_183 rfl rfl rfl dX11_goesWay_225 hk35 ?_
        refine jx_iload_n 6 dX11_goesWay_228 rfl rfl ?_
        exact jx_iret dX11_goesWay_229 rfl rfl (jle rfl) (jle rfl) ⟨_, rfl, h⟩
      replace h := h.2 c51
      refine jx_iload 0 dX11_goesWay_142 rfl ?_
      refine jx_aload_n 4 dX11_goesWay_144 rfl rfl ?_
      refine jx_geti jc_11 (j := 16) (by decide) rfl jwF_X11_180 dX11_goesWay_145 hk35 ?_
      refine jx_icmp_ne (tgt := 168) dX11_goesWay_148 (by decide) (fun c55 => ?_) (fun c55 => ?_)
      · replace h := h.2 c55
        refine jx_iconst (v := 0) dX11_goesWay_168 (by decide) ?_
        refine jx_istore (lv1 := [(6, .int 0), (5, .int ((ji S32 b36 (Int32.toNatClampNeg 5)) - (ji S32 b39 (Int32.toNatClampNeg 5)))), (1, .int y30), (4, .int (ji S10 b6 (Int32.toNatClampNeg ((6 * (ji S b7 (Int32.toNatClampNeg 3))) + r11)))), (3, .int (ji S b3 (Int32.toNatClampNeg x2))), (0, .ref a0), (2, .int x2)]) dX11_goesWay_169 (by decide) rfl ?_
        refine jx_aload_n 5 dX11_goesWay_171 rfl rfl ?_
        refine jx_iload 0 dX11_goesWay_172 rfl ?_
        refine jx_if_eq (tgt := 181) dX11_goesWay_174 (by decide) (fun _ => ?_) (fun z9 => absurd z9 (by decide))
        refine jx_aload_n 5 dX11_goesWay_181 rfl rfl ?_
        refine jx_geti jc_11 (j := 15) (by decide) rfl jwF_X11_176 dX11_goesWay_182 hk35 ?_
        refine jx_puti jc_11 (j := 15) (by decide) rfl jwF_X11_176 rfl rfl rfl dX11_goesWay_185 hk35 ?_
        refine jx_aload_n 5 dX11_goesWay_188 rfl rfl ?_
        refine jx_iload 0 dX11_goesWay_189 rfl ?_
        refine jx_if_eq (tgt := 199) dX11_goesWay_191 (by decide) (fun _ => ?_) (fun z9 => absurd z9 (by decide))
        refine jx_aload_n 5 dX11_goesWay_199 rfl rfl ?_
        refine jx_geti jc_11 (j := 16) (by decide) rfl jwF_X11_180 dX11_goesWay_200 hk35 ?_
        refine jx_topi (y := (ji S32 a0 16)) (by simp [ji_put, ji_row, ji_putr]) ?_
        refine jx_puti jc_11 (j := 16) (by decide) rfl jwF_X11_180 rfl rfl rfl dX11_goesWay_203 hk35 ?_
        refine jx_aload_n 5 dX11_goesWay_206 rfl rfl ?_
        refine jx_iload 0 dX11_goesWay_207 rfl ?_
        refine jx_if_eq (tgt := 221) dX11_goesWay_209 (by decide) (fun _ => ?_) (fun z9 => absurd z9 (by decide))
        refine jx_aload_n 5 dX11_goesWay_221 rfl rfl ?_
        refine jx_geti jc_11 (j := 17) (by decide) rfl jwF_X11_183 dX11_goesWay_222 hk35 ?_
        refine jx_topi (y := (ji S32 a0 17)) (by simp [ji_put, ji_row, ji_putr]) ?_
        refine jx_puti jc_11 (j := 17) (by decide) rfl jwF_X11_183 rfl rfl rfl dX11_goesWay_225 hk35 ?_
        refine jx_iload_n 6 dX11_goesWay_228 rfl rfl ?_
        exact jx_iret dX11_goesWay_229 rfl rfl (jle rfl) (jle rfl) ⟨_, rfl, h⟩
      replace h := h.1 c55
      refine jx_aload_n 4 dX11_goesWay_151 rfl rfl ?_
      obtain ⟨b56, hb56, h⟩ := h
      refine jx_getr jc_11 (j := 14) (by decide) rfl jwF_X11_49 dX11_goesWay_152 hk35 hb56 ?_
      refine jx_iconst (v := 0) dX11_goesWay_155 (by decide) ?_
      obtain ⟨hk57, h⟩ := h
      obtain ⟨hi58, h⟩ := h
      refine jx_iald dX11_goesWay_156 hk57 hi58 ?_
      refine jx_aload_n 4 dX11_goesWay_157 rfl rfl ?_
      refine jx_geti jc_11 (j := 17) (by decide) rfl jwF_X11_183 dX11_goesWay_158 hk35 ?_
      refine jx_icmp_ge (tgt := 168) dX11_goesWay_161 (by decide) (fun c59 => ?_) (fun c59 => ?_)
      · replace h := h.1 c59
        refine jx_iconst (v := 0) dX11_goesWay_168 (by decide) ?_
        refine jx_istore (lv1 := [(6, .int 0), (5, .int ((ji S32 b36 (Int32.toNatClampNeg 5)) - (ji S32 b39 (Int32.toNatClampNeg 5)))), (1, .int y30), (4, .int (ji S10 b6 (Int32.toNatClampNeg ((6 * (ji S b7 (Int32.toNatClampNeg 3))) + r11)))), (3, .int (ji S b3 (Int32.toNatClampNeg x2))), (0, .ref a0), (2, .int x2)]) dX11_goesWay_169 (by decide) rfl ?_
        refine jx_aload_n 5 dX11_goesWay_171 rfl rfl ?_
        refine jx_iload 0 dX11_goesWay_172 rfl ?_
        refine jx_if_eq (tgt := 181) dX11_goesWay_174 (by decide) (fun _ => ?_) (fun z9 => absurd z9 (by decide))
        refine jx_aload_n 5 dX11_goesWay_181 rfl rfl ?_
        refine jx_geti jc_11 (j := 15) (by decide) rfl jwF_X11_176 dX11_goesWay_182 hk35 ?_
        refine jx_puti jc_11 (j := 15) (by decide) rfl jwF_X11_176 rfl rfl rfl dX11_goesWay_185 hk35 ?_
        refine jx_aload_n 5 dX11_goesWay_188 rfl rfl ?_
        refine jx_iload 0 dX11_goesWay_189 rfl ?_
        refine jx_if_eq (tgt := 199) dX11_goesWay_191 (by decide) (fun _ => ?_) (fun z9 => absurd z9 (by decide))
        refine jx_aload_n 5 dX11_goesWay_199 rfl rfl ?_
        refine jx_geti jc_11 (j := 16) (by decide) rfl jwF_X11_180 dX11_goesWay_200 hk35 ?_
        refine jx_topi (y := (ji S32 a0 16)) (by simp [ji_put, ji_row, ji_putr]) ?_
        refine jx_puti jc_11 (j := 16) (by decide) rfl jwF_X11_180 rfl rfl rfl dX11_goesWay_203 hk35 ?_
        refine jx_aload_n 5 dX11_goesWay_206 rfl rfl ?_
        refine jx_iload 0 dX11_goesWay_207 rfl ?_
        refine jx_if_eq (tgt := 221) dX11_goesWay_209 (by decide) (fun _ => ?_) (fun z9 => absurd z9 (by decide))
        refine jx_aload_n 5 dX11_goesWay_221 rfl rfl ?_
        refine jx_geti jc_11 (j := 17) (by decide) rfl jwF_X11_183 dX11_goesWay_222 hk35 ?_
        refine jx_topi (y := (ji S32 a0 17)) (by simp [ji_put, ji_row, ji_putr]) ?_
        refine jx_puti jc_11 (j := 17) (by decide) rfl jwF_X11_183 rfl rfl rfl dX11_goesWay_225 hk35 ?_
        refine jx_iload_n 6 dX11_goesWay_228 rfl rfl ?_
        exact jx_iret dX11_goesWay_229 rfl rfl (jle rfl) (jle rfl) ⟨_, rfl, h⟩
      replace h := h.2 c59
      refine jx_iconst (v := 1) dX11_goesWay_164 (by decide) ?_
      refine jx_goto (tgt := 169) dX11_goesWay_165 (by decide) ?_
      refine jx_istore (lv1 := [(6, .int 1), (5, .int ((ji S32 b36 (Int32.toNatClampNeg 5)) - (ji S32 b39 (Int32.toNatClampNeg 5)))), (1, .int y30), (4, .int (ji S10 b6 (Int32.toNatClampNeg ((6 * (ji S b7 (Int32.toNatClampNeg 3))) + r11)))), (3, .int (ji S b3 (Int32.toNatClampNeg x2))), (0, .ref a0), (2, .int x2)]) dX11_goesWay_169 (by decide) rfl ?_
      refine jx_aload_n 5 dX11_goesWay_171 rfl rfl ?_
      refine jx_iload 0 dX11_goesWay_172 rfl ?_
      refine jx_if_eq (tgt := 181) dX11_goesWay_174 (by decide) (fun z9 => absurd z9 (by decide)) (fun _ => ?_)
      refine jx_iload_n 2 dX11_goesWay_177 rfl rfl ?_
      refine jx_goto (tgt := 185) dX11_goesWay_178 (by decide) ?_
      refine jx_puti jc_11 (j := 15) (by decide) rfl jwF_X11_176 rfl rfl rfl dX11_goesWay_185 hk35 ?_
      refine jx_aload_n 5 dX11_goesWay_188 rfl rfl ?_
      refine jx_iload 0 dX11_goesWay_189 rfl ?_
      refine jx_if_eq (tgt := 199) dX11_goesWay_191 (by decide) (fun z9 => absurd z9 (by decide)) (fun _ => ?_)
      refine jx_iload 1 dX11_goesWay_194 rfl ?_
      refine jx_goto (tgt := 203) dX11_goesWay_196 (by decide) ?_
      refine jx_puti jc_11 (j := 16) (by decide) rfl jwF_X11_180 rfl rfl rfl dX11_goesWay_203 hk35 ?_
      refine jx_aload_n 5 dX11_goesWay_206 rfl rfl ?_
      refine jx_iload 0 dX11_goesWay_207 rfl ?_
      refine jx_if_eq (tgt := 221) dX11_goesWay_209 (by decide) (fun z9 => absurd z9 (by decide)) (fun _ => ?_)
      refine jx_aload_n 5 dX11_goesWay_212 rfl rfl ?_
      refine jx_getr jc_11 (j := 14) (by decide) rfl jwF_X11_49 dX11_goesWay_213 hk35 hb56 ?_
      refine jx_iconst (v := 0) dX11_goesWay_216 (by decide) ?_
      refine jx_iald dX11_goesWay_217 hk57 hi58 ?_
      refine jx_topi (y := (ji S32 b56 (Int32.toNatClampNeg 0))) (by simp [ji_put, ji_row, ji_putr, jne hk57 hk35 (by decide), jne hk57 hk35 (by decide)]) ?_
      refine jx_goto (tgt := 225) dX11_goesWay_218 (by decide) ?_
      refine jx_puti jc_11 (j := 17) (by decide) rfl jwF_X11_183 rfl rfl rfl dX11_goesWay_225 hk35 ?_
      refine jx_iload_n 6 dX11_goesWay_228 rfl rfl ?_
      exact jx_iret dX11_goesWay_229 rfl rfl (jle rfl) (jle rfl) ⟨_, rfl, h⟩
    replace h := h.1 c26
    refine jx_iload_n 4 dX11_goesWay_75 rfl rfl ?_
    exact jx_iret dX11_goesWay_76 rfl rfl (jle rfl) (jle rfl) ⟨_, rfl, h⟩
  replace h := h.1 c14
  refine jx_iload_n 4 dX11_goesWay_47 rfl rfl ?_
  exact jx_iret dX11_goesWay_48 rfl rfl (jle rfl) (jle rfl) ⟨_, rfl, h⟩
/-- X11_findSoonest at its loop's head 15 -/
abbrev L_X11_findSoonest_15 (E : jEnv) (d : Nat) (Q : jM → Prop) (a0 : Nat) (x1 : Int32) (S : jM) : Prop := jX E mX11_findSoonest (jRm (d + 1) 0 0) (jZm E (fun r S' => r = none ∧ Q S') 0 0) 15 [(0, .ref a0), (1, .int x1)] [] S 0 0
/-- X11_findSoonest at its loop's head 33 -/
abbrev L_X11_findSoonest_33 (E : jEnv) (d : Nat) (Q : jM → Prop) (a0 : Nat) (S : jM) : Prop := jX E mX11_findSoonest (jRm (d + 1) 0 0) (jZm E (fun r S' => r = none ∧ Q S') 0 0) 33 [(0, .ref a0)] [] S 0 0
/-- X11_findSoonest at its loop's head 80 -/
abbrev L_X11_findSoonest_80 (E : jEnv) (d : Nat) (Q : jM → Prop) (a0 : Nat) (x1 : Int32) (x2 : Int32) (S : jM) : Prop := jX E mX11_findSoonest (jRm (d + 1) 0 0) (jZm E (fun r S' => r = none ∧ Q S') 0 0) 80 [(0, .ref a0), (1, .int x1), (2, .int x2)] [] S 0 0
/-- X11_findSoonest at its loop's head 100 -/
abbrev L_X11_findSoonest_100 (E : jEnv) (d : Nat) (Q : jM → Prop) (a0 : Nat) (x2 : Int32) (S : jM) : Prop := jX E mX11_findSoonest (jRm (d + 1) 0 0) (jZm E (fun r S' => r = none ∧ Q S') 0 0) 100 [(0, .ref a0), (2, .int x2)] [] S 0 0
set_option maxRecDepth 100000 in
set_option maxHeartbeats 4000000 in
theorem T_X11_findSoonest {E : jEnv} {d : Nat} {Q : jM → Prop} {a0 : Nat} {S : jM} (h : jk S a0 = 11 ∧ jFv E mX11_findFar d 0 0 [.ref a0] (jput S a0 15 (-1)) (fun S2 => jk S2 a0 = 11 ∧ jFv E mX11_laysBy d 0 0 [.ref a0] S2 (fun S4 => L_X11_findSoonest_15 E d Q a0 0 S4))) : jFv E mX11_findSoonest (d + 1) 0 0 [.ref a0] S Q := by
  refine jF_of (by decide) (jle rfl) ?_
  refine jx_lv (lv1 := [(0, .ref a0)]) [0] rfl ?_
  refine jx_aload_n 0 dX11_findSoonest_0 rfl rfl ?_
  refine jx_iconst (v := (-1)) dX11_findSoonest_1 (by decide) ?_
  obtain ⟨hk1, h⟩ := h
  refine jx_puti jc_11 (j := 15) (by decide) rfl jwF_X11_176 rfl rfl rfl dX11_findSoonest_2 hk1 ?_
  refine jx_aload_n 0 dX11_findSoonest_5 rfl rfl ?_
  refine jx_callVv (M' := mX11_findFar) (As := []) jo_X11_findFar jc_11 rfl jwM_X11_137 jwN_X11_findFar jwX_X11_findFar dX11_findSoonest_6 (jRok_m _ _ _) rfl (jle rfl) ⟨jle rfl, jle rfl⟩ hk1 h (fun S2 h => ?_)
  refine jx_aload_n 0 dX11_findSoonest_9 rfl rfl ?_
  obtain ⟨hk3, h⟩ := h
  refine jx_callVv (M' := mX11_laysBy) (As := []) jo_X11_laysBy jc_11 rfl jwM_X11_186 jwN_X11_laysBy jwX_X11_laysBy dX11_findSoonest_10 (jRok_m _ _ _) rfl (jle rfl) ⟨jle rfl, jle rfl⟩ hk3 h (fun S4 h => ?_)
  refine jx_iconst (v := 0) dX11_findSoonest_13 (by decide) ?_
  refine jx_istore_n (lv1 := [(1, .int 0), (0, .ref a0)]) dX11_findSoonest_14 rfl (by decide) rfl ?_
  exact jx_lv [1, 0] rfl h
set_option maxRecDepth 100000 in
set_option maxHeartbeats 4000000 in
theorem T_X11_findSoonest_15 {E : jEnv} {d : Nat} {Q : jM → Prop} {a0 : Nat} {x1 : Int32} {S : jM} (h : (4 ≤ x1 → L_X11_findSoonest_33 E d Q a0 S) ∧ (¬ 4 ≤ x1 → jk S a0 = 11 ∧ ∃ b7, jr S a0 14 = some b7 ∧ (jk S b7 = 12 ∧ vp_in x1 (jl S b7) ∧ (L_X11_findSoonest_15 E d Q a0 (x1 + 1) (jput S b7 (Int32.toNatClampNeg x1) 0))))) : L_X11_findSoonest_15 E d Q a0 x1 S := by
  show jX E mX11_findSoonest (jRm (d + 1) 0 0) (jZm E (fun r S' => r = none ∧ Q S') 0 0) 15 [(0, .ref a0), (1, .int x1)] [] S 0 0
  refine jx_iload_n 1 dX11_findSoonest_15 rfl rfl ?_
  refine jx_iconst (v := 4) dX11_findSoonest_16 (by decide) ?_
  refine jx_icmp_ge (tgt := 33) dX11_findSoonest_17 (by decide) (fun c5 => ?_) (fun c5 => ?_)
  · replace h := h.1 c5
    exact jx_lv [0] rfl h
  replace h := h.2 c5
  refine jx_aload_n 0 dX11_findSoonest_20 rfl rfl ?_
  obtain ⟨hk6, h⟩ := h
  obtain ⟨b7, hb7, h⟩ := h
  refine jx_getr jc_11 (j := 14) (by decide) rfl jwF_X11_49 dX11_findSoonest_21 hk6 hb7 ?_
  refine jx_iload_n 1 dX11_findSoonest_24 rfl rfl ?_
  refine jx_iconst (v := 0) dX11_findSoonest_25 (by decide) ?_
  obtain ⟨hk8, h⟩ := h
  obtain ⟨hi9, h⟩ := h
  refine jx_iast dX11_findSoonest_26 hk8 hi9 ?_
  refine jx_iinc 1 (v := (x1 + 1)) (lv1 := [(1, .int (x1 + 1)), (0, .ref a0)]) dX11_findSoonest_27 rfl rfl (by decide) rfl ?_
  refine jx_goto (tgt := 15) dX11_findSoonest_30 (by decide) ?_
  exact jx_lv [1, 0] rfl h
set_option maxRecDepth 100000 in
set_option maxHeartbeats 4000000 in
theorem T_X11_findSoonest_33 {E : jEnv} {d : Nat} {Q : jM → Prop} {a0 : Nat} {S : jM} (h : jk S a0 = 11 ∧ ∃ b11, jr S a0 0 = some b11 ∧ (jk S b11 = 12 ∧ vp_in 0 (jl S b11) ∧ (((ji S b11 (Int32.toNatClampNeg 0)) ≤ 0 → Q S) ∧ (¬ (ji S b11 (Int32.toNatClampNeg 0)) ≤ 0 → ∃ b15, jr S a0 14 = some b15 ∧ (jk S b15 = 12 ∧ vp_in 0 (jl S b15) ∧ ((((ji S b11 (Int32.toNatClampNeg 0)) ≤ (ji S b15 (Int32.toNatClampNeg 0)) → Q S) ∧ (¬ (ji S b11 (Int32.toNatClampNeg 0)) ≤ (ji S b15 (Int32.toNatClampNeg 0)) → jFi E mX11_goesWay d 0 0 [.ref a0] S (fun r20 S19 => jk S19 a0 = 11 ∧ jFv E mX11_laysBack d 0 0 [.ref a0] S19 (fun S22 => jk S22 a0 = 11 ∧ ∃ b24, jr S22 a0 14 = some b24 ∧ (jk S22 b24 = 12 ∧ vp_in r20 (jl S22 b24) ∧ ((L_X11_findSoonest_80 E d Q a0 r20 (r20 + 1) (jput S22 b24 (Int32.toNatClampNeg r20) ((ji S22 b24 (Int32.toNatClampNeg r20)) + 1))))))))))))))) : L_X11_findSoonest_33 E d Q a0 S := by
  show jX E mX11_findSoonest (jRm (d + 1) 0 0) (jZm E (fun r S' => r = none ∧ Q S') 0 0) 33 [(0, .ref a0)] [] S 0 0
  refine jx_aload_n 0 dX11_findSoonest_33 rfl rfl ?_
  obtain ⟨hk10, h⟩ := h
  obtain ⟨b11, hb11, h⟩ := h
  refine jx_getr jc_11 (j := 0) (by decide) rfl jwF_X11_7 dX11_findSoonest_34 hk10 hb11 ?_
  refine jx_iconst (v := 0) dX11_findSoonest_37 (by decide) ?_
  obtain ⟨hk12, h⟩ := h
  obtain ⟨hi13, h⟩ := h
  refine jx_iald dX11_findSoonest_38 hk12 hi13 ?_
  refine jx_if_le (tgt := 147) dX11_findSoonest_39 (by decide) (fun c14 => ?_) (fun c14 => ?_)
  · replace h := h.1 c14
    exact jx_vret dX11_findSoonest_147 rfl (jle rfl) (jle rfl) ⟨rfl, h⟩
  replace h := h.2 c14
  refine jx_aload_n 0 dX11_findSoonest_42 rfl rfl ?_
  obtain ⟨b15, hb15, h⟩ := h
  refine jx_getr jc_11 (j := 14) (by decide) rfl jwF_X11_49 dX11_findSoonest_43 hk10 hb15 ?_
  refine jx_iconst (v := 0) dX11_findSoonest_46 (by decide) ?_
  obtain ⟨hk16, h⟩ := h
  obtain ⟨hi17, h⟩ := h
  refine jx_iald dX11_findSoonest_47 hk16 hi17 ?_
  refine jx_aload_n 0 dX11_findSoonest_48 rfl rfl ?_
  refine jx_getr jc_11 (j := 0) (by decide) rfl jwF_X11_7 dX11_findSoonest_49 hk10 hb11 ?_
  refine jx_iconst (v := 0) dX11_findSoonest_52 (by decide) ?_
  refine jx_iald dX11_findSoonest_53 hk12 hi13 ?_
  refine jx_icmp_ge (tgt := 147) dX11_findSoonest_54 (by decide) (fun c18 => ?_) (fun c18 => ?_)
  · replace h := h.1 c18
    exact jx_vret dX11_findSoonest_147 rfl (jle rfl) (jle rfl) ⟨rfl, h⟩
  replace h := h.2 c18
  refine jx_aload_n 0 dX11_findSoonest_57 rfl rfl ?_
  refine jx_callVi (M' := mX11_goesWay) (As := []) jo_X11_goesWay jc_11 rfl jwM_X11_189 jwN_X11_goesWay jwX_X11_goesWay dX11_findSoonest_58 (jRok_m _ _ _) rfl (jle rfl) ⟨jle rfl, jle rfl⟩ hk10 h (fun r20 S19 h => ?_)
  refine jx_istore_n (lv1 := [(1, .int r20), (0, .ref a0)]) dX11_findSoonest_61 rfl (by decide) rfl ?_
  refine jx_aload_n 1 dX11_findSoonest_62 rfl rfl ?_
  obtain ⟨hk21, h⟩ := h
  refine jx_callVv (M' := mX11_laysBack) (As := []) jo_X11_laysBack jc_11 rfl jwM_X11_192 jwN_X11_laysBack jwX_X11_laysBack dX11_findSoonest_63 (jRok_m _ _ _) rfl (jle rfl) ⟨jle rfl, jle rfl⟩ hk21 h (fun S22 h => ?_)
  refine jx_aload_n 1 dX11_findSoonest_66 rfl rfl ?_
  obtain ⟨hk23, h⟩ := h
  obtain ⟨b24, hb24, h⟩ := h
  refine jx_getr jc_11 (j := 14) (by decide) rfl jwF_X11_49 dX11_findSoonest_67 hk23 hb24 ?_
  refine jx_iload_n 0 dX11_findSoonest_70 rfl rfl ?_
  refine jx_dup2 dX11_findSoonest_71 rfl rfl ?_
  obtain ⟨hk25, h⟩ := h
  obtain ⟨hi26, h⟩ := h
  refine jx_iald dX11_findSoonest_72 hk25 hi26 ?_
  refine jx_iconst (v := 1) dX11_findSoonest_73 (by decide) ?_
  refine jx_iadd dX11_findSoonest_74 ?_
  refine jx_iast dX11_findSoonest_75 hk25 hi26 ?_
  refine jx_iload_n 0 dX11_findSoonest_76 rfl rfl ?_
  refine jx_iconst (v := 1) dX11_findSoonest_77 (by decide) ?_
  refine jx_iadd dX11_findSoonest_78 ?_
  refine jx_istore_n (lv1 := [(2, .int (r20 + 1)), (1, .int r20), (0, .ref a0)]) dX11_findSoonest_79 rfl (by decide) rfl ?_
  exact jx_lv [2, 1, 0] rfl h
set_option maxRecDepth 100000 in
set_option maxHeartbeats 4000000 in
theorem T_X11_findSoonest_80 {E : jEnv} {d : Nat} {Q : jM → Prop} {a0 : Nat} {x1 : Int32} {x2 : Int32} {S : jM} (h : (4 ≤ x2 → L_X11_findSoonest_100 E d Q a0 x1 S) ∧ (¬ 4 ≤ x2 → jk S a0 = 11 ∧ ∃ b29, jr S a0 14 = some b29 ∧ (jk S b29 = 12 ∧ vp_in x2 (jl S b29) ∧ (L_X11_findSoonest_80 E d Q a0 x1 (x2 + 1) (jput S b29 (Int32.toNatClampNeg x2) 0))))) : L_X11_findSoonest_80 E d Q a0 x1 x2 S := by
  show jX E mX11_findSoonest (jRm (d + 1) 0 0) (jZm E (fun r S' => r = none ∧ Q S') 0 0) 80 [(0, .ref a0), (1, .int x1), (2, .int x2)] [] S 0 0
  refine jx_iload_n 2 dX11_findSoonest_80 rfl rfl ?_
  refine jx_iconst (v := 4) dX11_findSoonest_81 (by decide) ?_
  refine jx_icmp_ge (tgt := 98) dX11_findSoonest_82 (by decide) (fun c27 => ?_) (fun c27 => ?_)
  · replace h := h.1 c27
    refine jx_iload_n 1 dX11_findSoonest_98 rfl rfl ?_
    refine jx_istore_n (lv1 := [(2, .int x1), (0, .ref a0), (1, .int x1)]) dX11_findSoonest_99 rfl (by decide) rfl ?_
    exact jx_lv [1, 0] rfl h
  replace h := h.2 c27
  refine jx_aload_n 0 dX11_findSoonest_85 rfl rfl ?_
  obtain ⟨hk28, h⟩ := h
  obtain ⟨b29, hb29, h⟩ := h
  refine jx_getr jc_11 (j := 14) (by decide) rfl jwF_X11_49 dX11_findSoonest_86 hk28 hb29 ?_
  refine jx_iload_n 2 dX11_findSoonest_89 rfl rfl ?_
  refine jx_iconst (v := 0) dX11_findSoonest_90 (by decide) ?_
  obtain ⟨hk30, h⟩ := h
  obtain ⟨hi31, h⟩ := h
  refine jx_iast dX11_findSoonest_91 hk30 hi31 ?_
  refine jx_iinc 2 (v := (x2 + 1)) (lv1 := [(2, .int (x2 + 1)), (0, .ref a0), (1, .int x1)]) dX11_findSoonest_92 rfl rfl (by decide) rfl ?_
  refine jx_goto (tgt := 80) dX11_findSoonest_95 (by decide) ?_
  exact jx_lv [1, 2, 0] rfl h
set_option maxRecDepth 100000 in
set_option maxHeartbeats 4000000 in
theorem T_X11_findSoonest_100 {E : jEnv} {d : Nat} {Q : jM → Prop} {a0 : Nat} {x2 : Int32} {S : jM} (h : (x2 ≤ 0 → L_X11_findSoonest_33 E d Q a0 S) ∧ (¬ x2 ≤ 0 → jk S a0 = 11 ∧ ∃ b34, jr S a0 14 = some b34 ∧ (jk S b34 = 12 ∧ vp_in x2 (jl S b34) ∧ (∃ b37, jr S a0 0 = some b37 ∧ (jk S b37 = 12 ∧ vp_in 0 (jl S b37) ∧ (((ji S b34 (Int32.toNatClampNeg x2)) = (ji S b37 (Int32.toNatClampNeg 0)) → (vp_in (x2 - 1) (jl S b34) ∧ ((L_X11_findSoonest_100 E d Q a0 (x2 + (-1)) (jput (jput S b34 (Int32.toNatClampNeg x2) 0) b34 (Int32.toNatClampNeg (x2 - 1)) ((ji (jput S b34 (Int32.toNatClampNeg x2) 0) b34 (Int32.toNatClampNeg (x2 - 1))) + 1)))))) ∧ (¬ (ji S b34 (Int32.toNatClampNeg x2)) = (ji S b37 (Int32.toNatClampNeg 0)) → L_X11_findSoonest_33 E d Q a0 S))))))) : L_X11_findSoonest_100 E d Q a0 x2 S := by
  show jX E mX11_findSoonest (jRm (d + 1) 0 0) (jZm E (fun r S' => r = none ∧ Q S') 0 0) 100 [(0, .ref a0), (2, .int x2)] [] S 0 0
  refine jx_iload_n 1 dX11_findSoonest_100 rfl rfl ?_
  refine jx_if_le (tgt := 144) dX11_findSoonest_101 (by decide) (fun c32 => ?_) (fun c32 => ?_)
  · replace h := h.1 c32
    refine jx_goto (tgt := 33) dX11_findSoonest_144 (by decide) ?_
    exact jx_lv [0] rfl h
  replace h := h.2 c32
  refine jx_aload_n 0 dX11_findSoonest_104 rfl rfl ?_
  obtain ⟨hk33, h⟩ := h
  obtain ⟨b34, hb34, h⟩ := h
  refine jx_getr jc_11 (j := 14) (by decide) rfl jwF_X11_49 dX11_findSoonest_105 hk33 hb34 ?_
  refine jx_iload_n 1 dX11_findSoonest_108 rfl rfl ?_
  obtain ⟨hk35, h⟩ := h
  obtain ⟨hi36, h⟩ := h
  refine jx_iald dX11_findSoonest_109 hk35 hi36 ?_
  refine jx_aload_n 0 dX11_findSoonest_110 rfl rfl ?_
  obtain ⟨b37, hb37, h⟩ := h
  refine jx_getr jc_11 (j := 0) (by decide) rfl jwF_X11_7 dX11_findSoonest_111 hk33 hb37 ?_
  refine jx_iconst (v := 0) dX11_findSoonest_114 (by decide) ?_
  obtain ⟨hk38, h⟩ := h
  obtain ⟨hi39, h⟩ := h
  refine jx_iald dX11_findSoonest_115 hk38 hi39 ?_
  refine jx_icmp_ne (tgt := 144) dX11_findSoonest_116 (by decide) (fun c40 => ?_) (fun c40 => ?_)
  · replace h := h.2 c40
    refine jx_goto (tgt := 33) dX11_findSoonest_144 (by decide) ?_
    exact jx_lv [0] rfl h
  replace h := h.1 c40
  refine jx_aload_n 0 dX11_findSoonest_119 rfl rfl ?_
  refine jx_getr jc_11 (j := 14) (by decide) rfl jwF_X11_49 dX11_findSoonest_120 hk33 hb34 ?_
  refine jx_iload_n 1 dX11_findSoonest_123 rfl rfl ?_
  refine jx_iconst (v := 0) dX11_findSoonest_124 (by decide) ?_
  refine jx_iast dX11_findSoonest_125 hk35 hi36 ?_
  refine jx_aload_n 0 dX11_findSoonest_126 rfl rfl ?_
  refine jx_getr jc_11 (j := 14) (by decide) rfl jwF_X11_49 dX11_findSoonest_127 hk33 hb34 ?_
  refine jx_iload_n 1 dX11_findSoonest_130 rfl rfl ?_
  refine jx_iconst (v := 1) dX11_findSoonest_131 (by decide) ?_
  refine jx_isub dX11_findSoonest_132 ?_
  refine jx_dup2 dX11_findSoonest_133 rfl rfl ?_
  obtain ⟨hi41, h⟩ := h
  refine jx_iald dX11_findSoonest_134 hk35 hi41 ?_
  refine jx_iconst (v := 1) dX11_findSoonest_135 (by decide) ?_
  refine jx_iadd dX11_findSoonest_136 ?_
  refine jx_iast dX11_findSoonest_137 hk35 hi41 ?_
  refine jx_iinc 1 (v := (x2 + (-1))) (lv1 := [(2, .int (x2 + (-1))), (0, .ref a0)]) dX11_findSoonest_138 rfl rfl (by decide) rfl ?_
  refine jx_goto (tgt := 100) dX11_findSoonest_141 (by decide) ?_
  exact jx_lv [1, 0] rfl h
set_option maxRecDepth 100000 in
set_option maxHeartbeats 4000000 in
theorem T_X11_soonest {E : jEnv} {d : Nat} {Q : Int32 → jM → Prop} {a0 : Nat} {x1 : Int32} {S : jM} (h : ((jisin (Int32.toInt64 x1) 0 2) = 0 → Q (-1000000001) S) ∧ (¬ (jisin (Int32.toInt64 x1) 0 2) = 0 → jk S a0 = 11 ∧ jFi E mX11_can d 0 0 [.ref a0] S (fun r7 S6 => (r7 = 0 → jk S6 a0 = 11 ∧ jFv E mX11_findSoonest d 0 0 [.ref a0] S6 (fun S10 => jk S10 a0 = 11 ∧ (0 ≤ (ji S10 a0 15) → (x1 = 0 → Q (ji S10 a0 15) S10) ∧ (¬ x1 = 0 → (x1 = 1 → Q (ji S10 a0 16) S10) ∧ (¬ x1 = 1 → Q (ji S10 a0 17) S10))) ∧ (¬ 0 ≤ (ji S10 a0 15) → Q (-1000000005) S10))) ∧ (¬ r7 = 0 → (x1 = 2 → Q (-1000000005) S6) ∧ (¬ x1 = 2 → Q 0 S6))))) : jFi E mX11_soonest (d + 1) 0 0 [.ref a0, .int x1] S Q := by
  refine jF_of (by decide) (jle rfl) ?_
  refine jx_lv (lv1 := [(0, .ref a0), (1, .int x1)]) [0, 1] rfl ?_
  refine jx_iload_n 1 dX11_soonest_0 rfl rfl ?_
  refine jx_i2l dX11_soonest_1 ?_
  refine jx_lconst (v := 0) dX11_soonest_2 (by decide) ?_
  refine jx_ldc2 jwL_X11_146 dX11_soonest_3 ?_
  refine jx_callSi (M' := mX11_isIn) (As := [.long (Int32.toInt64 x1), .long 0, .long 2]) jo_X11_isIn jwM_X11_71 jwS_X11_isIn dX11_soonest_6 (jRok_m _ _ _) rfl (jle rfl) ⟨jle rfl, jle rfl⟩ (c_X11_isIn (Q := fun v S' => v = (jisin (Int32.toInt64 x1) 0 2) ∧ S = S') ⟨rfl, rfl⟩) (fun r1 S2 hq3 => ?_)
  obtain ⟨rfl, rfl⟩ := hq3
  refine jx_if_ne (tgt := 15) dX11_soonest_9 (by decide) (fun c4 => ?_) (fun c4 => ?_)
  · replace h := h.2 c4
    refine jx_aload_n 0 dX11_soonest_15 rfl rfl ?_
    obtain ⟨hk5, h⟩ := h
    refine jx_callVi (M' := mX11_can) (As := []) jo_X11_can jc_11 rfl jwM_X11_172 jwN_X11_can jwX_X11_can dX11_soonest_16 (jRok_m _ _ _) rfl (jle rfl) ⟨jle rfl, jle rfl⟩ hk5 h (fun r7 S6 h => ?_)
    refine jx_if_eq (tgt := 34) dX11_soonest_19 (by decide) (fun c8 => ?_) (fun c8 => ?_)
    · replace h := h.1 c8
      refine jx_aload_n 0 dX11_soonest_34 rfl rfl ?_
      obtain ⟨hk9, h⟩ := h
      refine jx_callVv (M' := mX11_findSoonest) (As := []) jo_X11_findSoonest jc_11 rfl jwM_X11_195 jwN_X11_findSoonest jwX_X11_findSoonest dX11_soonest_35 (jRok_m _ _ _) rfl (jle rfl) ⟨jle rfl, jle rfl⟩ hk9 h (fun S10 h => ?_)
      refine jx_aload_n 0 dX11_soonest_38 rfl rfl ?_
      obtain ⟨hk11, h⟩ := h
      refine jx_geti jc_11 (j := 15) (by decide) rfl jwF_X11_176 dX11_soonest_39 hk11 ?_
      refine jx_if_ge (tgt := 50) dX11_soonest_42 (by decide) (fun c12 => ?_) (fun c12 => ?_)
      · replace h := h.1 c12
        refine jx_iload_n 1 dX11_soonest_50 rfl rfl ?_
        refine jx_if_ne (tgt := 61) dX11_soonest_51 (by decide) (fun c13 => ?_) (fun c13 => ?_)
        · replace h := h.2 c13
          refine jx_iload_n 1 dX11_soonest_61 rfl rfl ?_
          refine jx_iconst (v := 1) dX11_soonest_62 (by decide) ?_
          refine jx_icmp_ne (tgt := 73) dX11_soonest_63 (by decide) (fun c14 => ?_) (fun c14 => ?_)
          · replace h := h.2 c14
            refine jx_aload_n 0 dX11_soonest_73 rfl rfl ?_
            refine jx_geti jc_11 (j := 17) (by decide) rfl jwF_X11_183 dX11_soonest_74 hk11 ?_
            exact jx_iret dX11_soonest_77 rfl rfl (jle rfl) (jle rfl) ⟨_, rfl, h⟩
          replace h := h.1 c14
          refine jx_aload_n 0 dX11_soonest_66 rfl rfl ?_
          refine jx_geti jc_11 (j := 16) (by decide) rfl jwF_X11_180 dX11_soonest_67 hk11 ?_
          refine jx_goto (tgt := 77) dX11_soonest_70 (by decide) ?_
          exact jx_iret dX11_soonest_77 rfl rfl (jle rfl) (jle rfl) ⟨_, rfl, h⟩
        replace h := h.1 c13
        refine jx_aload_n 0 dX11_soonest_54 rfl rfl ?_
        refine jx_geti jc_11 (j := 15) (by decide) rfl jwF_X11_176 dX11_soonest_55 hk11 ?_
        refine jx_goto (tgt := 77) dX11_soonest_58 (by decide) ?_
        exact jx_iret dX11_soonest_77 rfl rfl (jle rfl) (jle rfl) ⟨_, rfl, h⟩
      replace h := h.2 c12
      refine jx_ldc jwC_X11_70 dX11_soonest_45 ?_
      refine jx_goto (tgt := 77) dX11_soonest_47 (by decide) ?_
      exact jx_iret dX11_soonest_77 rfl rfl (jle rfl) (jle rfl) ⟨_, rfl, h⟩
    replace h := h.2 c8
    refine jx_iload_n 1 dX11_soonest_22 rfl rfl ?_
    refine jx_iconst (v := 2) dX11_soonest_23 (by decide) ?_
    refine jx_icmp_ne (tgt := 32) dX11_soonest_24 (by decide) (fun c15 => ?_) (fun c15 => ?_)
    · replace h := h.2 c15
      refine jx_iconst (v := 0) dX11_soonest_32 (by decide) ?_
      exact jx_iret dX11_soonest_33 rfl rfl (jle rfl) (jle rfl) ⟨_, rfl, h⟩
    replace h := h.1 c15
    refine jx_ldc jwC_X11_70 dX11_soonest_27 ?_
    refine jx_goto (tgt := 33) dX11_soonest_29 (by decide) ?_
    exact jx_iret dX11_soonest_33 rfl rfl (jle rfl) (jle rfl) ⟨_, rfl, h⟩
  replace h := h.1 c4
  refine jx_ldc jwC_X11_87 dX11_soonest_12 ?_
  exact jx_iret dX11_soonest_14 rfl rfl (jle rfl) (jle rfl) ⟨_, rfl, h⟩
/-- X11_areTogether at its loop's head 10 -/
abbrev L_X11_areTogether_10 (E : jEnv) (d : Nat) (Q : Int32 → jM → Prop) (a0 : Nat) (x1 : Int32) (x2 : Int32) (x3 : Int32) (x4 : Int32) (S : jM) : Prop := jX E mX11_areTogether (jRm (d + 1) 0 0) (jZm E (fun r S' => ∃ v : Int32, r = some (.int v) ∧ Q v S') 0 0) 10 [(0, .ref a0), (1, .int x1), (2, .int x2), (3, .int x3), (4, .int x4)] [] S 0 0
/-- X11_areTogether at its loop's head 34 -/
abbrev L_X11_areTogether_34 (E : jEnv) (d : Nat) (Q : Int32 → jM → Prop) (a0 : Nat) (x1 : Int32) (x2 : Int32) (x3 : Int32) (x4 : Int32) (S : jM) : Prop := jX E mX11_areTogether (jRm (d + 1) 0 0) (jZm E (fun r S' => ∃ v : Int32, r = some (.int v) ∧ Q v S') 0 0) 34 [(0, .ref a0), (1, .int x1), (2, .int x2), (3, .int x3), (4, .int x4)] [] S 0 0
/-- X11_areTogether at its loop's head 53 -/
abbrev L_X11_areTogether_53 (E : jEnv) (d : Nat) (Q : Int32 → jM → Prop) (a0 : Nat) (x1 : Int32) (x2 : Int32) (x3 : Int32) (x4 : Int32) (x5 : Int32) (x6 : Int32) (x7 : Int32) (x8 : Int32) (S : jM) : Prop := jX E mX11_areTogether (jRm (d + 1) 0 0) (jZm E (fun r S' => ∃ v : Int32, r = some (.int v) ∧ Q v S') 0 0) 53 [(0, .ref a0), (1, .int x1), (2, .int x2), (3, .int x3), (4, .int x4), (5, .int x5), (6, .int x6), (7, .int x7), (8, .int x8)] [] S 0 0
set_option maxRecDepth 100000 in
set_option maxHeartbeats 4000000 in
theorem T_X11_areTogether {E : jEnv} {d : Nat} {Q : Int32 → jM → Prop} {a0 : Nat} {x1 : Int32} {S : jM} (h : L_X11_areTogether_10 E d Q a0 x1 (jmany x1) 1 0 S) : jFi E mX11_areTogether (d + 1) 0 0 [.ref a0, .int x1] S Q := by
  refine jF_of (by decide) (jle rfl) ?_
  refine jx_lv (lv1 := [(0, .ref a0), (1, .int x1)]) [0, 1] rfl ?_
  refine jx_iload_n 1 dX11_areTogether_0 rfl rfl ?_
  refine jx_callSi (M' := mX11_manyIn) (As := [.int x1]) jo_X11_manyIn jwM_X11_108 jwS_X11_manyIn dX11_areTogether_1 (jRok_m _ _ _) rfl (jle rfl) ⟨jle rfl, jle rfl⟩ (c_X11_manyIn (Q := fun v S' => v = (jmany x1) ∧ S = S') ⟨rfl, rfl⟩) (fun r1 S2 hq3 => ?_)
  obtain ⟨rfl, rfl⟩ := hq3
  refine jx_istore_n (lv1 := [(2, .int (jmany x1)), (0, .ref a0), (1, .int x1)]) dX11_areTogether_4 rfl (by decide) rfl ?_
  refine jx_iconst (v := 1) dX11_areTogether_5 (by decide) ?_
  refine jx_istore_n (lv1 := [(3, .int 1), (2, .int (jmany x1)), (0, .ref a0), (1, .int x1)]) dX11_areTogether_6 rfl (by decide) rfl ?_
  refine jx_iconst (v := 0) dX11_areTogether_7 (by decide) ?_
  refine jx_istore (lv1 := [(4, .int 0), (3, .int 1), (2, .int (jmany x1)), (0, .ref a0), (1, .int x1)]) dX11_areTogether_8 (by decide) rfl ?_
  exact jx_lv [3, 4, 2, 1, 0] rfl h
set_option maxRecDepth 100000 in
set_option maxHeartbeats 4000000 in
theorem T_X11_areTogether_10 {E : jEnv} {d : Nat} {Q : Int32 → jM → Prop} {a0 : Nat} {x1 : Int32} {x2 : Int32} {x3 : Int32} {x4 : Int32} {S : jM} (h : (x2 ≤ x4 → L_X11_areTogether_34 E d Q a0 x1 x2 x3 0 S) ∧ (¬ x2 ≤ x4 → jk S a0 = 11 ∧ ∃ b6, jr S a0 0 = some b6 ∧ (jk S b6 = 12 ∧ vp_in 0 (jl S b6) ∧ (L_X11_areTogether_10 E d Q a0 x1 x2 (x3 * (ji S b6 (Int32.toNatClampNeg 0))) (x4 + 1) S)))) : L_X11_areTogether_10 E d Q a0 x1 x2 x3 x4 S := by
  show jX E mX11_areTogether (jRm (d + 1) 0 0) (jZm E (fun r S' => ∃ v : Int32, r = some (.int v) ∧ Q v S') 0 0) 10 [(0, .ref a0), (1, .int x1), (2, .int x2), (3, .int x3), (4, .int x4)] [] S 0 0
  refine jx_iload 4 dX11_areTogether_10 rfl ?_
  refine jx_iload_n 2 dX11_areTogether_12 rfl rfl ?_
  refine jx_icmp_ge (tgt := 31) dX11_areTogether_13 (by decide) (fun c4 => ?_) (fun c4 => ?_)
  · replace h := h.1 c4
    refine jx_iconst (v := 0) dX11_areTogether_31 (by decide) ?_
    refine jx_istore (lv1 := [(4, .int 0), (0, .ref a0), (1, .int x1), (2, .int x2), (3, .int x3)]) dX11_areTogether_32 (by decide) rfl ?_
    exact jx_lv [1, 2, 3, 4, 0] rfl h
  replace h := h.2 c4
  refine jx_iload_n 3 dX11_areTogether_16 rfl rfl ?_
  refine jx_aload_n 0 dX11_areTogether_17 rfl rfl ?_
  obtain ⟨hk5, h⟩ := h
  obtain ⟨b6, hb6, h⟩ := h
  refine jx_getr jc_11 (j := 0) (by decide) rfl jwF_X11_7 dX11_areTogether_18 hk5 hb6 ?_
  refine jx_iconst (v := 0) dX11_areTogether_21 (by decide) ?_
  obtain ⟨hk7, h⟩ := h
  obtain ⟨hi8, h⟩ := h
  refine jx_iald dX11_areTogether_22 hk7 hi8 ?_
  refine jx_imul dX11_areTogether_23 ?_
  refine jx_istore_n (lv1 := [(3, .int (x3 * (ji S b6 (Int32.toNatClampNeg 0)))), (0, .ref a0), (1, .int x1), (2, .int x2), (4, .int x4)]) dX11_areTogether_24 rfl (by decide) rfl ?_
  refine jx_iinc 4 (v := (x4 + 1)) (lv1 := [(4, .int (x4 + 1)), (3, .int (x3 * (ji S b6 (Int32.toNatClampNeg 0)))), (0, .ref a0), (1, .int x1), (2, .int x2)]) dX11_areTogether_25 rfl rfl (by decide) rfl ?_
  refine jx_goto (tgt := 10) dX11_areTogether_28 (by decide) ?_
  exact jx_lv [2, 3, 4, 1, 0] rfl h
set_option maxRecDepth 100000 in
set_option maxHeartbeats 4000000 in
theorem T_X11_areTogether_34 {E : jEnv} {d : Nat} {Q : Int32 → jM → Prop} {a0 : Nat} {x1 : Int32} {x2 : Int32} {x3 : Int32} {x4 : Int32} {S : jM} (h : (x3 ≤ x4 → Q 0 S) ∧ (¬ x3 ≤ x4 → L_X11_areTogether_53 E d Q a0 x1 x2 x3 x4 x4 0 0 0 S)) : L_X11_areTogether_34 E d Q a0 x1 x2 x3 x4 S := by
  show jX E mX11_areTogether (jRm (d + 1) 0 0) (jZm E (fun r S' => ∃ v : Int32, r = some (.int v) ∧ Q v S') 0 0) 34 [(0, .ref a0), (1, .int x1), (2, .int x2), (3, .int x3), (4, .int x4)] [] S 0 0
  refine jx_iload 4 dX11_areTogether_34 rfl ?_
  refine jx_iload_n 3 dX11_areTogether_36 rfl rfl ?_
  refine jx_icmp_ge (tgt := 202) dX11_areTogether_37 (by decide) (fun c9 => ?_) (fun c9 => ?_)
  · replace h := h.1 c9
    refine jx_iconst (v := 0) dX11_areTogether_202 (by decide) ?_
    exact jx_iret dX11_areTogether_203 rfl (by decide) (jle rfl) (jle rfl) ⟨_, rfl, h⟩
  replace h := h.2 c9
  refine jx_iload 4 dX11_areTogether_40 rfl ?_
  refine jx_istore (lv1 := [(5, .int x4), (0, .ref a0), (1, .int x1), (2, .int x2), (3, .int x3), (4, .int x4)]) dX11_areTogether_42 (by decide) rfl ?_
  refine jx_iconst (v := 0) dX11_areTogether_44 (by decide) ?_
  refine jx_istore (lv1 := [(6, .int 0), (5, .int x4), (0, .ref a0), (1, .int x1), (2, .int x2), (3, .int x3), (4, .int x4)]) dX11_areTogether_45 (by decide) rfl ?_
  refine jx_iconst (v := 0) dX11_areTogether_47 (by decide) ?_
  refine jx_istore (lv1 := [(7, .int 0), (6, .int 0), (5, .int x4), (0, .ref a0), (1, .int x1), (2, .int x2), (3, .int x3), (4, .int x4)]) dX11_areTogether_48 (by decide) rfl ?_
  refine jx_iconst (v := 0) dX11_areTogether_50 (by decide) ?_
  refine jx_istore (lv1 := [(8, .int 0), (7, .int 0), (6, .int 0), (5, .int x4), (0, .ref a0), (1, .int x1), (2, .int x2), (3, .int x3), (4, .int x4)]) dX11_areTogether_51 (by decide) rfl ?_
  exact jx_lv [4, 5, 6, 7, 8, 3, 2, 1, 0] rfl h
set_option maxRecDepth 100000 in
set_option maxHeartbeats 4000000 in
theorem T_X11_areTogether_53 {E : jEnv} {d : Nat} {Q : Int32 → jM → Prop} {a0 : Nat} {x1 : Int32} {x2 : Int32} {x3 : Int32} {x4 : Int32} {x5 : Int32} {x6 : Int32} {x7 : Int32} {x8 : Int32} {S : jM} (h : (x2 ≤ x8 → (x7 = x1 → (x6 = x1 → Q 1 S) ∧ (¬ x6 = x1 → L_X11_areTogether_34 E d Q a0 x1 x2 x3 (x4 + 1) S)) ∧ (¬ x7 = x1 → L_X11_areTogether_34 E d Q a0 x1 x2 x3 (x4 + 1) S)) ∧ (¬ x2 ≤ x8 → jk S a0 = 11 ∧ ∃ b14, jr S a0 0 = some b14 ∧ (jk S b14 = 12 ∧ vp_in 0 (jl S b14) ∧ ((¬ (ji S b14 (Int32.toNatClampNeg 0)) = 0) ∧ (((¬ (ji S b14 (Int32.toNatClampNeg 0)) = 0) ∧ (jFi E mX11_of d 0 0 [.ref a0, .int (jrem x5 (ji S b14 (Int32.toNatClampNeg 0))), .int 2] S (fun r20 S19 => (x7 < 0 → L_X11_areTogether_53 E d Q a0 x1 x2 x3 x4 (x5 / (ji S b14 (Int32.toNatClampNeg 0))) 0 (-1) (x8 + 1) S19) ∧ (¬ x7 < 0 → jk S19 a0 = 11 ∧ jFi E mX11_of d 0 0 [.ref a0, .int (jrem x5 (ji S b14 (Int32.toNatClampNeg 0))), .int 6] S19 (fun r24 S23 => (r24 = 0 → ((x1 &&& (jshl 1 r20)) = 0 → L_X11_areTogether_53 E d Q a0 x1 x2 x3 x4 (x5 / (ji S b14 (Int32.toNatClampNeg 0))) 0 (-1) (x8 + 1) S23) ∧ (¬ (x1 &&& (jshl 1 r20)) = 0 → ((x7 &&& (jshl 1 r20)) = 0 → jk S23 a0 = 11 ∧ jFi E mX11_teaches d 0 0 [.ref a0, .int (jrem x5 (ji S b14 (Int32.toNatClampNeg 0))), .int x6] S23 (fun r30 S29 => (r30 = 0 → L_X11_areTogether_53 E d Q a0 x1 x2 x3 x4 (x5 / (ji S b14 (Int32.toNatClampNeg 0))) 0 (-1) (x8 + 1) S29) ∧ (¬ r30 = 0 → jk S29 a0 = 11 ∧ jFi E mX11_behindLesson d 0 0 [.ref a0, .int (jrem x5 (ji S b14 (Int32.toNatClampNeg 0))), .int x6] S29 (fun r34 S33 => L_X11_areTogether_53 E d Q a0 x1 x2 x3 x4 (x5 / (ji S b14 (Int32.toNatClampNeg 0))) r34 (x7 ||| (jshl 1 r20)) (x8 + 1) S33)))) ∧ (¬ (x7 &&& (jshl 1 r20)) = 0 → L_X11_areTogether_53 E d Q a0 x1 x2 x3 x4 (x5 / (ji S b14 (Int32.toNatClampNeg 0))) 0 (-1) (x8 + 1) S23))) ∧ (¬ r24 = 0 → L_X11_areTogether_53 E d Q a0 x1 x2 x3 x4 (x5 / (ji S b14 (Int32.toNatClampNeg 0))) 0 (-1) (x8 + 1) S23))))))))))) : L_X11_areTogether_53 E d Q a0 x1 x2 x3 x4 x5 x6 x7 x8 S := by
  show jX E mX11_areTogether (jRm (d + 1) 0 0) (jZm E (fun r S' => ∃ v : Int32, r = some (.int v) ∧ Q v S') 0 0) 53 [(0, .ref a0), (1, .int x1), (2, .int x2), (3, .int x3), (4, .int x4), (5, .int x5), (6, .int x6), (7, .int x7), (8, .int x8)] [] S 0 0
  refine jx_iload 8 dX11_areTogether_53 rfl ?_
  refine jx_iload_n 2 dX11_areTogether_55 rfl rfl ?_
  refine jx_icmp_ge (tgt := 182) dX11_areTogether_56 (by decide) (fun c10 => ?_) (fun c10 => ?_)
  · replace h := h.1 c10
    refine jx_iload 7 dX11_areTogether_182 rfl ?_
    refine jx_iload_n 1 dX11_areTogether_184 rfl rfl ?_
    refine jx_icmp_ne (tgt := 196) dX11_areTogether_185 (by decide) (fun c11 => ?_) (fun c11 => ?_)
    · replace h := h.2 c11
      refine jx_iinc 4 (v := (x4 + 1)) (lv1 := [(4, .int (x4 + 1)), (0, .ref a0), (1, .int x1), (2, .int x2), (3, .int x3), (5, .int x5), (6, .int x6), (7, .int x7), (8, .int x8)]) dX11_areTogether_196 rfl rfl (by decide) rfl ?_
      refine jx_goto (tgt := 34) dX11_areTogether_199 (by decide) ?_
      exact jx_lv [1, 2, 3, 4, 0] rfl h
    replace h := h.1 c11
    refine jx_iload 6 dX11_areTogether_188 rfl ?_
    refine jx_iload_n 1 dX11_areTogether_190 rfl rfl ?_
    refine jx_icmp_ne (tgt := 196) dX11_areTogether_191 (by decide) (fun c12 => ?_) (fun c12 => ?_)
    · replace h := h.2 c12
      refine jx_iinc 4 (v := (x4 + 1)) (lv1 := [(4, .int (x4 + 1)), (0, .ref a0), (1, .int x1), (2, .int x2), (3, .int x3), (5, .int x5), (6, .int x6), (7, .int x7), (8, .int x8)]) dX11_areTogether_196 rfl rfl (by decide) rfl ?_
      refine jx_goto (tgt := 34) dX11_areTogether_199 (by decide) ?_
      exact jx_lv [1, 2, 3, 4, 0] rfl h
    replace h := h.1 c12
    refine jx_iconst (v := 1) dX11_areTogether_194 (by decide) ?_
    exact jx_iret dX11_areTogether_195 rfl (by decide) (jle rfl) (jle rfl) ⟨_, rfl, h⟩
  replace h := h.2 c10
  refine jx_iload 5 dX11_areTogether_59 rfl ?_
  refine jx_aload_n 0 dX11_areTogether_61 rfl rfl ?_
  obtain ⟨hk13, h⟩ := h
  obtain ⟨b14, hb14, h⟩ := h
  refine jx_getr jc_11 (j := 0) (by decide) rfl jwF_X11_7 dX11_areTogether_62 hk13 hb14 ?_
  refine jx_iconst (v := 0) dX11_areTogether_65 (by decide) ?_
  obtain ⟨hk15, h⟩ := h
  obtain ⟨hi16, h⟩ := h
  refine jx_iald dX11_areTogether_66 hk15 hi16 ?_
  obtain ⟨hz17, h⟩ := h
  refine jx_irem dX11_areTogether_67 hz17 ?_
  refine jx_istore (lv1 := [(9, .int (jrem x5 (ji S b14 (Int32.toNatClampNeg 0)))), (0, .ref a0), (1, .int x1), (2, .int x2), (3, .int x3), (4, .int x4), (5, .int x5), (6, .int x6), (7, .int x7), (8, .int x8)]) dX11_areTogether_68 (by decide) rfl ?_
  refine jx_iload 6 dX11_areTogether_70 rfl ?_
  refine jx_aload_n 1 dX11_areTogether_72 rfl rfl ?_
  refine jx_getr jc_11 (j := 0) (by decide) rfl jwF_X11_7 dX11_areTogether_73 hk13 hb14 ?_
  refine jx_iconst (v := 0) dX11_areTogether_76 (by decide) ?_
  refine jx_iald dX11_areTogether_77 hk15 hi16 ?_
  obtain ⟨hz18, h⟩ := h
  refine jx_idiv dX11_areTogether_78 hz18 ?_
  refine jx_istore (lv1 := [(5, .int (x5 / (ji S b14 (Int32.toNatClampNeg 0)))), (9, .int (jrem x5 (ji S b14 (Int32.toNatClampNeg 0)))), (0, .ref a0), (1, .int x1), (2, .int x2), (3, .int x3), (4, .int x4), (6, .int x6), (7, .int x7), (8, .int x8)]) dX11_areTogether_79 (by decide) rfl ?_
  refine jx_iconst (v := 1) dX11_areTogether_81 (by decide) ?_
  refine jx_aload_n 2 dX11_areTogether_82 rfl rfl ?_
  refine jx_iload 1 dX11_areTogether_83 rfl ?_
  refine jx_iconst (v := 2) dX11_areTogether_85 (by decide) ?_
  refine jx_callVi (M' := mX11_of) (As := [.int (jrem x5 (ji S b14 (Int32.toNatClampNeg 0))), .int 2]) jo_X11_of jc_11 rfl jwM_X11_97 jwN_X11_of jwX_X11_of dX11_areTogether_86 (jRok_m _ _ _) rfl (jle rfl) ⟨jle rfl, jle rfl⟩ hk13 h (fun r20 S19 h => ?_)
  refine jx_ishl dX11_areTogether_89 ?_
  refine jx_istore (lv1 := [(10, .int (jshl 1 r20)), (5, .int (x5 / (ji S b14 (Int32.toNatClampNeg 0)))), (9, .int (jrem x5 (ji S b14 (Int32.toNatClampNeg 0)))), (0, .ref a0), (1, .int x1), (2, .int x2), (3, .int x3), (4, .int x4), (6, .int x6), (7, .int x7), (8, .int x8)]) dX11_areTogether_90 (by decide) rfl ?_
  refine jx_iload 9 dX11_areTogether_92 rfl ?_
  refine jx_if_lt (tgt := 138) dX11_areTogether_94 (by decide) (fun c21 => ?_) (fun c21 => ?_)
  · replace h := h.1 c21
    refine jx_iconst (v := 0) dX11_areTogether_138 (by decide) ?_
    refine jx_istore (lv1 := [(11, .int 0), (10, .int (jshl 1 r20)), (5, .int (x5 / (ji S b14 (Int32.toNatClampNeg 0)))), (9, .int (jrem x5 (ji S b14 (Int32.toNatClampNeg 0)))), (0, .ref a0), (1, .int x1), (2, .int x2), (3, .int x3), (4, .int x4), (6, .int x6), (7, .int x7), (8, .int x8)]) dX11_areTogether_139 (by decide) rfl ?_
    refine jx_iload 0 dX11_areTogether_141 rfl ?_
    refine jx_if_eq (tgt := 157) dX11_areTogether_143 (by decide) (fun _ => ?_) (fun z9 => absurd z9 (by decide))
    refine jx_iconst (v := 0) dX11_areTogether_157 (by decide) ?_
    refine jx_istore (lv1 := [(6, .int 0), (11, .int 0), (10, .int (jshl 1 r20)), (5, .int (x5 / (ji S b14 (Int32.toNatClampNeg 0)))), (9, .int (jrem x5 (ji S b14 (Int32.toNatClampNeg 0)))), (0, .ref a0), (1, .int x1), (2, .int x2), (3, .int x3), (4, .int x4), (7, .int x7), (8, .int x8)]) dX11_areTogether_158 (by decide) rfl ?_
    refine jx_iload 1 dX11_areTogether_160 rfl ?_
    refine jx_if_eq (tgt := 173) dX11_areTogether_162 (by decide) (fun _ => ?_) (fun z9 => absurd z9 (by decide))
    refine jx_iconst (v := (-1)) dX11_areTogether_173 (by decide) ?_
    refine jx_istore (lv1 := [(7, .int (-1)), (6, .int 0), (11, .int 0), (10, .int (jshl 1 r20)), (5, .int (x5 / (ji S b14 (Int32.toNatClampNeg 0)))), (9, .int (jrem x5 (ji S b14 (Int32.toNatClampNeg 0)))), (0, .ref a0), (1, .int x1), (2, .int x2), (3, .int x3), (4, .int x4), (8, .int x8)]) dX11_areTogether_174 (by decide) rfl ?_
    refine jx_iinc 11 (v := (x8 + 1)) (lv1 := [(8, .int (x8 + 1)), (7, .int (-1)), (6, .int 0), (11, .int 0), (10, .int (jshl 1 r20)), (5, .int (x5 / (ji S b14 (Int32.toNatClampNeg 0)))), (9, .int (jrem x5 (ji S b14 (Int32.toNatClampNeg 0)))), (0, .ref a0), (1, .int x1), (2, .int x2), (3, .int x3), (4, .int x4)]) dX11_areTogether_176 rfl rfl (by decide) rfl ?_
    refine jx_goto (tgt := 53) dX11_areTogether_179 (by decide) ?_
    exact jx_lv [7, 8, 9, 10, 11, 5, 2, 1, 0] rfl h
  replace h := h.2 c21
  refine jx_aload_n 3 dX11_areTogether_97 rfl rfl ?_
  refine jx_iload 2 dX11_areTogether_98 rfl ?_
  refine jx_bipush (v := 6) dX11_areTogether_100 (by decide) ?_
  obtain ⟨hk22, h⟩ := h
  refine jx_callVi (M' := mX11_of) (As := [.int (jrem x5 (ji S b14 (Int32.toNatClampNeg 0))), .int 6]) jo_X11_of jc_11 rfl jwM_X11_97 jwN_X11_of jwX_X11_of dX11_areTogether_102 (jRok_m _ _ _) rfl (jle rfl) ⟨jle rfl, jle rfl⟩ hk22 h (fun r24 S23 h => ?_)
  refine jx_if_ne (tgt := 138) dX11_areTogether_105 (by decide) (fun c25 => ?_) (fun c25 => ?_)
  · replace h := h.2 c25
    refine jx_iconst (v := 0) dX11_areTogether_138 (by decide) ?_
    refine jx_istore (lv1 := [(11, .int 0), (10, .int (jshl 1 r20)), (5, .int (x5 / (ji S b14 (Int32.toNatClampNeg 0)))), (9, .int (jrem x5 (ji S b14 (Int32.toNatClampNeg 0)))), (0, .ref a0), (1, .int x1), (2, .int x2), (3, .int x3), (4, .int x4), (6, .int x6), (7, .int x7), (8, .int x8)]) dX11_areTogether_139 (by decide) rfl ?_
    refine jx_iload 0 dX11_areTogether_141 rfl ?_
    refine jx_if_eq (tgt := 157) dX11_areTogether_143 (by decide) (fun _ => ?_) (fun z9 => absurd z9 (by decide))
    refine jx_iconst (v := 0) dX11_areTogether_157 (by decide) ?_
    refine jx_istore (lv1 := [(6, .int 0), (11, .int 0), (10, .int (jshl 1 r20)), (5, .int (x5 / (ji S b14 (Int32.toNatClampNeg 0)))), (9, .int (jrem x5 (ji S b14 (Int32.toNatClampNeg 0)))), (0, .ref a0), (1, .int x1), (2, .int x2), (3, .int x3), (4, .int x4), (7, .int x7), (8, .int x8)]) dX11_areTogether_158 (by decide) rfl ?_
    refine jx_iload 1 dX11_areTogether_160 rfl ?_
    refine jx_if_eq (tgt := 173) dX11_areTogether_162 (by decide) (fun _ => ?_) (fun z9 => absurd z9 (by decide))
    refine jx_iconst (v := (-1)) dX11_areTogether_173 (by decide) ?_
    refine jx_istore (lv1 := [(7, .int (-1)), (6, .int 0), (11, .int 0), (10, .int (jshl 1 r20)), (5, .int (x5 / (ji S b14 (Int32.toNatClampNeg 0)))), (9, .int (jrem x5 (ji S b14 (Int32.toNatClampNeg 0)))), (0, .ref a0), (1, .int x1), (2, .int x2), (3, .int x3), (4, .int x4), (8, .int x8)]) dX11_areTogether_174 (by decide) rfl ?_
    refine jx_iinc 11 (v := (x8 + 1)) (lv1 := [(8, .int (x8 + 1)), (7, .int (-1)), (6, .int 0), (11, .int 0), (10, .int (jshl 1 r20)), (5, .int (x5 / (ji S b14 (Int32.toNatClampNeg 0)))), (9, .int (jrem x5 (ji S b14 (Int32.toNatClampNeg 0)))), (0, .ref a0), (1, .int x1), (2, .int x2), (3, .int x3), (4, .int x4)]) dX11_areTogether_176 rfl rfl (by decide) rfl ?_
    refine jx_goto (tgt := 53) dX11_areTogether_179 (by decide) ?_
    exact jx_lv [7, 8, 9, 10, 11, 5, 2, 1, 0] rfl h
  replace h := h.1 c25
  refine jx_iload_n 4 dX11_areTogether_108 rfl rfl ?_
  refine jx_iload 0 dX11_areTogether_109 rfl ?_
  refine jx_iand dX11_areTogether_111 ?_
  refine jx_if_eq (tgt := 138) dX11_areTogether_112 (by decide) (fun c26 => ?_) (fun c26 => ?_)
  · replace h := h.1 c26
    refine jx_iconst (v := 0) dX11_areTogether_138 (by decide) ?_
    refine jx_istore (lv1 := [(11, .int 0), (10, .int (jshl 1 r20)), (5, .int (x5 / (ji S b14 (Int32.toNatClampNeg 0)))), (9, .int (jrem x5 (ji S b14 (Int32.toNatClampNeg 0)))), (0, .ref a0), (1, .int x1), (2, .int x2), (3, .int x3), (4, .int x4), (6, .int x6), (7, .int x7), (8, .int x8)]) dX11_areTogether_139 (by decide) rfl ?_
    refine jx_iload 0 dX11_areTogether_141 rfl ?_
    refine jx_if_eq (tgt := 157) dX11_areTogether_143 (by decide) (fun _ => ?_) (fun z9 => absurd z9 (by decide))
    refine jx_iconst (v := 0) dX11_areTogether_157 (by decide) ?_
    refine jx_istore (lv1 := [(6, .int 0), (11, .int 0), (10, .int (jshl 1 r20)), (5, .int (x5 / (ji S b14 (Int32.toNatClampNeg 0)))), (9, .int (jrem x5 (ji S b14 (Int32.toNatClampNeg 0)))), (0, .ref a0), (1, .int x1), (2, .int x2), (3, .int x3), (4, .int x4), (7, .int x7), (8, .int x8)]) dX11_areTogether_158 (by decide) rfl ?_
    refine jx_iload 1 dX11_areTogether_160 rfl ?_
    refine jx_if_eq (tgt := 173) dX11_areTogether_162 (by decide) (fun _ => ?_) (fun z9 => absurd z9 (by decide))
    refine jx_iconst (v := (-1)) dX11_areTogether_173 (by decide) ?_
    refine jx_istore (lv1 := [(7, .int (-1)), (6, .int 0), (11, .int 0), (10, .int (jshl 1 r20)), (5, .int (x5 / (ji S b14 (Int32.toNatClampNeg 0)))), (9, .int (jrem x5 (ji S b14 (Int32.toNatClampNeg 0)))), (0, .ref a0), (1, .int x1), (2, .int x2), (3, .int x3), (4, .int x4), (8, .int x8)]) dX11_areTogether_174 (by decide) rfl ?_
    refine jx_iinc 11 (v := (x8 + 1)) (lv1 := [(8, .int (x8 + 1)), (7, .int (-1)), (6, .int 0), (11, .int 0), (10, .int (jshl 1 r20)), (5, .int (x5 / (ji S b14 (Int32.toNatClampNeg 0)))), (9, .int (jrem x5 (ji S b14 (Int32.toNatClampNeg 0)))), (0, .ref a0), (1, .int x1), (2, .int x2), (3, .int x3), (4, .int x4)]) dX11_areTogether_176 rfl rfl (by decide) rfl ?_
    refine jx_goto (tgt := 53) dX11_areTogether_179 (by decide) ?_
    exact jx_lv [7, 8, 9, 10, 11, 5, 2, 1, 0] rfl h
  replace h := h.2 c26
  refine jx_iload 9 dX11_areTogether_115 rfl ?_
  refine jx_iload 0 dX11_areTogether_117 rfl ?_
  refine jx_iand dX11_areTogether_119 ?_
  refine jx_if_ne (tgt := 138) dX11_areTogether_120 (by decide) (fun c27 => ?_) (fun c27 => ?_)
  · replace h := h.2 c27
    refine jx_iconst (v := 0) dX11_areTogether_138 (by decide) ?_
    refine jx_istore (lv1 := [(11, .int 0), (10, .int (jshl 1 r20)), (5, .int (x5 / (ji S b14 (Int32.toNatClampNeg 0)))), (9, .int (jrem x5 (ji S b14 (Int32.toNatClampNeg 0)))), (0, .ref a0), (1, .int x1), (2, .int x2), (3, .int x3), (4, .int x4), (6, .int x6), (7, .int x7), (8, .int x8)]) dX11_areTogether_139 (by decide) rfl ?_
    refine jx_iload 0 dX11_areTogether_141 rfl ?_
    refine jx_if_eq (tgt := 157) dX11_areTogether_143 (by decide) (fun _ => ?_) (fun z9 => absurd z9 (by decide))
    refine jx_iconst (v := 0) dX11_areTogether_157 (by decide) ?_
    refine jx_istore (lv1 := [(6, .int 0), (11, .int 0), (10, .int (jshl 1 r20)), (5, .int (x5 / (ji S b14 (Int32.toNatClampNeg 0)))), (9, .int (jrem x5 (ji S b14 (Int32.toNatClampNeg 0)))), (0, .ref a0), (1, .int x1), (2, .int x2), (3, .int x3), (4, .int x4), (7, .int x7), (8, .int x8)]) dX11_areTogether_158 (by decide) rfl ?_
    refine jx_iload 1 dX11_areTogether_160 rfl ?_
    refine jx_if_eq (tgt := 173) dX11_areTogether_162 (by decide) (fun _ => ?_) (fun z9 => absurd z9 (by decide))
    refine jx_iconst (v := (-1)) dX11_areTogether_173 (by decide) ?_
    refine jx_istore (lv1 := [(7, .int (-1)), (6, .int 0), (11, .int 0), (10, .int (jshl 1 r20)), (5, .int (x5 / (ji S b14 (Int32.toNatClampNeg 0)))), (9, .int (jrem x5 (ji S b14 (Int32.toNatClampNeg 0)))), (0, .ref a0), (1, .int x1), (2, .int x2), (3, .int x3), (4, .int x4), (8, .int x8)]) dX11_areTogether_174 (by decide) rfl ?_
    refine jx_iinc 11 (v := (x8 + 1)) (lv1 := [(8, .int (x8 + 1)), (7, .int (-1)), (6, .int 0), (11, .int 0), (10, .int (jshl 1 r20)), (5, .int (x5 / (ji S b14 (Int32.toNatClampNeg 0)))), (9, .int (jrem x5 (ji S b14 (Int32.toNatClampNeg 0)))), (0, .ref a0), (1, .int x1), (2, .int x2), (3, .int x3), (4, .int x4)]) dX11_areTogether_176 rfl rfl (by decide) rfl ?_
    refine jx_goto (tgt := 53) dX11_areTogether_179 (by decide) ?_
    exact jx_lv [7, 8, 9, 10, 11, 5, 2, 1, 0] rfl h
  replace h := h.1 c27
  refine jx_aload_n 3 dX11_areTogether_123 rfl rfl ?_
  refine jx_iload 2 dX11_areTogether_124 rfl ?_
  refine jx_iload 8 dX11_areTogether_126 rfl ?_
  obtain ⟨hk28, h⟩ := h
  refine jx_callVi (M' := mX11_teaches) (As := [.int (jrem x5 (ji S b14 (Int32.toNatClampNeg 0))), .int x6]) jo_X11_teaches jc_11 rfl jwM_X11_122 jwN_X11_teaches jwX_X11_teaches dX11_areTogether_128 (jRok_m _ _ _) rfl (jle rfl) ⟨jle rfl, jle rfl⟩ hk28 h (fun r30 S29 h => ?_)
  refine jx_if_eq (tgt := 138) dX11_areTogether_131 (by decide) (fun c31 => ?_) (fun c31 => ?_)
  · replace h := h.1 c31
    refine jx_iconst (v := 0) dX11_areTogether_138 (by decide) ?_
    refine jx_istore (lv1 := [(11, .int 0), (10, .int (jshl 1 r20)), (5, .int (x5 / (ji S b14 (Int32.toNatClampNeg 0)))), (9, .int (jrem x5 (ji S b14 (Int32.toNatClampNeg 0)))), (0, .ref a0), (1, .int x1), (2, .int x2), (3, .int x3), (4, .int x4), (6, .int x6), (7, .int x7), (8, .int x8)]) dX11_areTogether_139 (by decide) rfl ?_
    refine jx_iload 0 dX11_areTogether_141 rfl ?_
    refine jx_if_eq (tgt := 157) dX11_areTogether_143 (by decide) (fun _ => ?_) (fun z9 => absurd z9 (by decide))
    refine jx_iconst (v := 0) dX11_areTogether_157 (by decide) ?_
    refine jx_istore (lv1 := [(6, .int 0), (11, .int 0), (10, .int (jshl 1 r20)), (5, .int (x5 / (ji S b14 (Int32.toNatClampNeg 0)))), (9, .int (jrem x5 (ji S b14 (Int32.toNatClampNeg 0)))), (0, .ref a0), (1, .int x1), (2, .int x2), (3, .int x3), (4, .int x4), (7, .int x7), (8, .int x8)]) dX11_areTogether_158 (by decide) rfl ?_
    refine jx_iload 1 dX11_areTogether_160 rfl ?_
    refine jx_if_eq (tgt := 173) dX11_areTogether_162 (by decide) (fun _ => ?_) (fun z9 => absurd z9 (by decide))
    refine jx_iconst (v := (-1)) dX11_areTogether_173 (by decide) ?_
    refine jx_istore (lv1 := [(7, .int (-1)), (6, .int 0), (11, .int 0), (10, .int (jshl 1 r20)), (5, .int (x5 / (ji S b14 (Int32.toNatClampNeg 0)))), (9, .int (jrem x5 (ji S b14 (Int32.toNatClampNeg 0)))), (0, .ref a0), (1, .int x1), (2, .int x2), (3, .int x3), (4, .int x4), (8, .int x8)]) dX11_areTogether_174 (by decide) rfl ?_
    refine jx_iinc 11 (v := (x8 + 1)) (lv1 := [(8, .int (x8 + 1)), (7, .int (-1)), (6, .int 0), (11, .int 0), (10, .int (jshl 1 r20)), (5, .int (x5 / (ji S b14 (Int32.toNatClampNeg 0)))), (9, .int (jrem x5 (ji S b14 (Int32.toNatClampNeg 0)))), (0, .ref a0), (1, .int x1), (2, .int x2), (3, .int x3), (4, .int x4)]) dX11_areTogether_176 rfl rfl (by decide) rfl ?_
    refine jx_goto (tgt := 53) dX11_areTogether_179 (by decide) ?_
    exact jx_lv [7, 8, 9, 10, 11, 5, 2, 1, 0] rfl h
  replace h := h.2 c31
  refine jx_iconst (v := 1) dX11_areTogether_134 (by decide) ?_
  refine jx_goto (tgt := 139) dX11_areTogether_135 (by decide) ?_
  refine jx_istore (lv1 := [(11, .int 1), (10, .int (jshl 1 r20)), (5, .int (x5 / (ji S b14 (Int32.toNatClampNeg 0)))), (9, .int (jrem x5 (ji S b14 (Int32.toNatClampNeg 0)))), (0, .ref a0), (1, .int x1), (2, .int x2), (3, .int x3), (4, .int x4), (6, .int x6), (7, .int x7), (8, .int x8)]) dX11_areTogether_139 (by decide) rfl ?_
  refine jx_iload 0 dX11_areTogether_141 rfl ?_
  refine jx_if_eq (tgt := 157) dX11_areTogether_143 (by decide) (fun z9 => absurd z9 (by decide)) (fun _ => ?_)
  refine jx_aload_n 4 dX11_areTogether_146 rfl rfl ?_
  refine jx_iload 3 dX11_areTogether_147 rfl ?_
  refine jx_iload 9 dX11_areTogether_149 rfl ?_
  obtain ⟨hk32, h⟩ := h
  refine jx_callVi (M' := mX11_behindLesson) (As := [.int (jrem x5 (ji S b14 (Int32.toNatClampNeg 0))), .int x6]) jo_X11_behindLesson jc_11 rfl jwM_X11_158 jwN_X11_behindLesson jwX_X11_behindLesson dX11_areTogether_151 (jRok_m _ _ _) rfl (jle rfl) ⟨jle rfl, jle rfl⟩ hk32 h (fun r34 S33 h => ?_)
  refine jx_goto (tgt := 158) dX11_areTogether_154 (by decide) ?_
  refine jx_istore (lv1 := [(6, .int r34), (11, .int 1), (10, .int (jshl 1 r20)), (5, .int (x5 / (ji S b14 (Int32.toNatClampNeg 0)))), (9, .int (jrem x5 (ji S b14 (Int32.toNatClampNeg 0)))), (0, .ref a0), (1, .int x1), (2, .int x2), (3, .int x3), (4, .int x4), (7, .int x7), (8, .int x8)]) dX11_areTogether_158 (by decide) rfl ?_
  refine jx_iload 1 dX11_areTogether_160 rfl ?_
  refine jx_if_eq (tgt := 173) dX11_areTogether_162 (by decide) (fun z9 => absurd z9 (by decide)) (fun _ => ?_)
  refine jx_iload 10 dX11_areTogether_165 rfl ?_
  refine jx_iload 2 dX11_areTogether_167 rfl ?_
  refine jx_ior dX11_areTogether_169 ?_
  refine jx_goto (tgt := 174) dX11_areTogether_170 (by decide) ?_
  refine jx_istore (lv1 := [(7, .int (x7 ||| (jshl 1 r20))), (6, .int r34), (11, .int 1), (10, .int (jshl 1 r20)), (5, .int (x5 / (ji S b14 (Int32.toNatClampNeg 0)))), (9, .int (jrem x5 (ji S b14 (Int32.toNatClampNeg 0)))), (0, .ref a0), (1, .int x1), (2, .int x2), (3, .int x3), (4, .int x4), (8, .int x8)]) dX11_areTogether_174 (by decide) rfl ?_
  refine jx_iinc 11 (v := (x8 + 1)) (lv1 := [(8, .int (x8 + 1)), (7, .int (x7 ||| (jshl 1 r20))), (6, .int r34), (11, .int 1), (10, .int (jshl 1 r20)), (5, .int (x5 / (ji S b14 (Int32.toNatClampNeg 0)))), (9, .int (jrem x5 (ji S b14 (Int32.toNatClampNeg 0)))), (0, .ref a0), (1, .int x1), (2, .int x2), (3, .int x3), (4, .int x4)]) dX11_areTogether_176 rfl rfl (by decide) rfl ?_
  refine jx_goto (tgt := 53) dX11_areTogether_179 (by decide) ?_
  exact jx_lv [7, 8, 9, 10, 11, 5, 2, 1, 0] rfl h
set_option maxRecDepth 100000 in
set_option maxHeartbeats 4000000 in
theorem T_X11_together {E : jEnv} {d : Nat} {Q : Int32 → jM → Prop} {a0 : Nat} {x1 : Int32} {S : jM} (h : ((jisin (Int32.toInt64 x1) 0 1023) = 0 → Q (-1000000001) S) ∧ (¬ (jisin (Int32.toInt64 x1) 0 1023) = 0 → ((jmany x1) ≤ 3 → jk S a0 = 11 ∧ jFi E mX11_areTogether d 0 0 [.ref a0, .int x1] S (fun r11 S10 => (r11 = 0 → Q 0 S10) ∧ (¬ r11 = 0 → Q 1 S10))) ∧ (¬ (jmany x1) ≤ 3 → Q (-1000000001) S))) : jFi E mX11_together (d + 1) 0 0 [.ref a0, .int x1] S Q := by
  refine jF_of (by decide) (jle rfl) ?_
  refine jx_lv (lv1 := [(0, .ref a0), (1, .int x1)]) [0, 1] rfl ?_
  refine jx_iload_n 1 dX11_together_0 rfl rfl ?_
  refine jx_i2l dX11_together_1 ?_
  refine jx_lconst (v := 0) dX11_together_2 (by decide) ?_
  refine jx_ldc2 jwL_X11_198 dX11_together_3 ?_
  refine jx_callSi (M' := mX11_isIn) (As := [.long (Int32.toInt64 x1), .long 0, .long 1023]) jo_X11_isIn jwM_X11_71 jwS_X11_isIn dX11_together_6 (jRok_m _ _ _) rfl (jle rfl) ⟨jle rfl, jle rfl⟩ (c_X11_isIn (Q := fun v S' => v = (jisin (Int32.toInt64 x1) 0 1023) ∧ S = S') ⟨rfl, rfl⟩) (fun r1 S2 hq3 => ?_)
  obtain ⟨rfl, rfl⟩ := hq3
  refine jx_if_eq (tgt := 20) dX11_together_9 (by decide) (fun c4 => ?_) (fun c4 => ?_)
  · replace h := h.1 c4
    refine jx_ldc jwC_X11_87 dX11_together_20 ?_
    exact jx_iret dX11_together_22 rfl rfl (jle rfl) (jle rfl) ⟨_, rfl, h⟩
  replace h := h.2 c4
  refine jx_iload_n 1 dX11_together_12 rfl rfl ?_
  refine jx_callSi (M' := mX11_manyIn) (As := [.int x1]) jo_X11_manyIn jwM_X11_108 jwS_X11_manyIn dX11_together_13 (jRok_m _ _ _) rfl (jle rfl) ⟨jle rfl, jle rfl⟩ (c_X11_manyIn (Q := fun v S' => v = (jmany x1) ∧ S = S') ⟨rfl, rfl⟩) (fun r5 S6 hq7 => ?_)
  obtain ⟨rfl, rfl⟩ := hq7
  refine jx_iconst (v := 3) dX11_together_16 (by decide) ?_
  refine jx_icmp_le (tgt := 23) dX11_together_17 (by decide) (fun c8 => ?_) (fun c8 => ?_)
  · replace h := h.1 c8
    refine jx_aload_n 0 dX11_together_23 rfl rfl ?_
    refine jx_iload_n 1 dX11_together_24 rfl rfl ?_
    obtain ⟨hk9, h⟩ := h
    refine jx_callVi (M' := mX11_areTogether) (As := [.int x1]) jo_X11_areTogether jc_11 rfl jwM_X11_200 jwN_X11_areTogether jwX_X11_areTogether dX11_together_25 (jRok_m _ _ _) rfl (jle rfl) ⟨jle rfl, jle rfl⟩ hk9 h (fun r11 S10 h => ?_)
    refine jx_if_eq (tgt := 35) dX11_together_28 (by decide) (fun c12 => ?_) (fun c12 => ?_)
    · replace h := h.1 c12
      refine jx_iconst (v := 0) dX11_together_35 (by decide) ?_
      exact jx_iret dX11_together_36 rfl rfl (jle rfl) (jle rfl) ⟨_, rfl, h⟩
    replace h := h.2 c12
    refine jx_iconst (v := 1) dX11_together_31 (by decide) ?_
    refine jx_goto (tgt := 36) dX11_together_32 (by decide) ?_
    exact jx_iret dX11_together_36 rfl rfl (jle rfl) (jle rfl) ⟨_, rfl, h⟩
  replace h := h.2 c8
  refine jx_ldc jwC_X11_87 dX11_together_20 ?_
  exact jx_iret dX11_together_22 rfl rfl (jle rfl) (jle rfl) ⟨_, rfl, h⟩
