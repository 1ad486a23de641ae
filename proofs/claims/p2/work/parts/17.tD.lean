/-- X10_fresh at its loop's head 4 -/
abbrev L_X10_fresh_4 (E : jEnv) (d : Nat) (Q : Int32 → jM → Prop) (a0 : Nat) (x1 : Int32) (x2 : Int32) (S : jM) : Prop := jX E mX10_fresh (jRm (d + 1) 0 0) (jZm E (fun r S' => ∃ v : Int32, r = some (.int v) ∧ Q v S') 0 0) 4 [(0, .ref a0), (1, .int x1), (2, .int x2)] [] S 0 0
set_option maxRecDepth 100000 in
set_option maxHeartbeats 4000000 in
theorem T_X10_fresh {E : jEnv} {d : Nat} {Q : Int32 → jM → Prop} {a0 : Nat} {S : jM} (h : L_X10_fresh_4 E d Q a0 0 1 S) : jFi E mX10_fresh (d + 1) 0 0 [.ref a0] S Q := by
  refine jF_of (by decide) (jle rfl) ?_
  refine jx_lv (lv1 := [(0, .ref a0)]) [0] rfl ?_
  refine jx_iconst (v := 0) dX10_fresh_0 (by decide) ?_
  refine jx_istore_n (lv1 := [(1, .int 0), (0, .ref a0)]) dX10_fresh_1 rfl (by decide) rfl ?_
  refine jx_iconst (v := 1) dX10_fresh_2 (by decide) ?_
  refine jx_istore_n (lv1 := [(2, .int 1), (1, .int 0), (0, .ref a0)]) dX10_fresh_3 rfl (by decide) rfl ?_
  exact jx_lv [2, 1, 0] rfl h
set_option maxRecDepth 100000 in
set_option maxHeartbeats 4000000 in
theorem T_X10_fresh_4 {E : jEnv} {d : Nat} {Q : Int32 → jM → Prop} {a0 : Nat} {x1 : Int32} {x2 : Int32} {S : jM} (h : (6 ≤ x2 → Q x1 S) ∧ (¬ 6 ≤ x2 → jk S a0 = 10 ∧ ∃ b3, jr S a0 0 = some b3 ∧ (jk S b3 = 3 ∧ jFi E mX3_waysToMasters d 0 0 [.ref b3, .int x2] S (fun r6 S5 => jk S5 a0 = 10 ∧ ∃ b8, jr S5 a0 0 = some b8 ∧ (jk S5 b8 = 3 ∧ jFi E mX3_waysToMasters d 0 0 [.ref b8, .int x1] S5 (fun r11 S10 => (r11 ≤ r6 → L_X10_fresh_4 E d Q a0 x1 (x2 + 1) S10) ∧ (¬ r11 ≤ r6 → L_X10_fresh_4 E d Q a0 x2 (x2 + 1) S10))))))) : L_X10_fresh_4 E d Q a0 x1 x2 S := by
  show jX E mX10_fresh (jRm (d + 1) 0 0) (jZm E (fun r S' => ∃ v : Int32, r = some (.int v) ∧ Q v S') 0 0) 4 [(0, .ref a0), (1, .int x1), (2, .int x2)] [] S 0 0
  refine jx_iload_n 2 dX10_fresh_4 rfl rfl ?_
  refine jx_bipush (v := 6) dX10_fresh_5 (by decide) ?_
  refine jx_icmp_ge (tgt := 37) dX10_fresh_7 (by decide) (fun c1 => ?_) (fun c1 => ?_)
  · replace h := h.1 c1
    refine jx_iload_n 1 dX10_fresh_37 rfl rfl ?_
    exact jx_iret dX10_fresh_38 rfl rfl (jle rfl) (jle rfl) ⟨_, rfl, h⟩
  replace h := h.2 c1
  refine jx_aload_n 0 dX10_fresh_10 rfl rfl ?_
  obtain ⟨hk2, h⟩ := h
  obtain ⟨b3, hb3, h⟩ := h
  refine jx_getr jc_10 (j := 0) (by decide) rfl jwF_X10_12 dX10_fresh_11 hk2 hb3 ?_
  refine jx_iload_n 2 dX10_fresh_14 rfl rfl ?_
  obtain ⟨hk4, h⟩ := h
  refine jx_callVi (M' := mX3_waysToMasters) (As := [.int x2]) jo_X3_waysToMasters jc_3 rfl jwM_X10_254 jwN_X3_waysToMasters jwX_X3_waysToMasters dX10_fresh_15 (jRok_m _ _ _) rfl (jle rfl) ⟨jle rfl, jle rfl⟩ hk4 h (fun r6 S5 h => ?_)
  refine jx_aload_n 0 dX10_fresh_18 rfl rfl ?_
  obtain ⟨hk7, h⟩ := h
  obtain ⟨b8, hb8, h⟩ := h
  refine jx_getr jc_10 (j := 0) (by decide) rfl jwF_X10_12 dX10_fresh_19 hk7 hb8 ?_
  refine jx_iload_n 1 dX10_fresh_22 rfl rfl ?_
  obtain ⟨hk9, h⟩ := h
  refine jx_callVi (M' := mX3_waysToMasters) (As := [.int x1]) jo_X3_waysToMasters jc_3 rfl jwM_X10_254 jwN_X3_waysToMasters jwX_X3_waysToMasters dX10_fresh_23 (jRok_m _ _ _) rfl (jle rfl) ⟨jle rfl, jle rfl⟩ hk9 h (fun r11 S10 h => ?_)
  refine jx_icmp_ge (tgt := 31) dX10_fresh_26 (by decide) (fun c12 => ?_) (fun c12 => ?_)
  · replace h := h.1 c12
    refine jx_iinc 2 (v := (x2 + 1)) (lv1 := [(2, .int (x2 + 1)), (0, .ref a0), (1, .int x1)]) dX10_fresh_31 rfl rfl (by decide) rfl ?_
    refine jx_goto (tgt := 4) dX10_fresh_34 (by decide) ?_
    exact jx_lv [1, 2, 0] rfl h
  replace h := h.2 c12
  refine jx_iload_n 2 dX10_fresh_29 rfl rfl ?_
  refine jx_istore_n (lv1 := [(1, .int x2), (0, .ref a0), (2, .int x2)]) dX10_fresh_30 rfl (by decide) rfl ?_
  refine jx_iinc 2 (v := (x2 + 1)) (lv1 := [(2, .int (x2 + 1)), (1, .int x2), (0, .ref a0)]) dX10_fresh_31 rfl rfl (by decide) rfl ?_
  refine jx_goto (tgt := 4) dX10_fresh_34 (by decide) ?_
  exact jx_lv [2, 1, 0] rfl h
/-- X10_cut at its loop's head 45 -/
abbrev L_X10_cut_45 (E : jEnv) (d : Nat) (Q : Int32 → jM → Prop) (a0 : Nat) (x2 : Int32) (a3 : Nat) (x4 : Int32) (x5 : Int32) (x6 : Int32) (S : jM) : Prop := jX E mX10_cut (jRm (d + 1) 0 0) (jZm E (fun r S' => ∃ v : Int32, r = some (.int v) ∧ Q v S') 0 0) 45 [(0, .ref a0), (2, .int x2), (3, .ref a3), (4, .int x4), (5, .int x5), (6, .int x6)] [] S 0 0
set_option maxRecDepth 100000 in
set_option maxHeartbeats 4000000 in
theorem T_X10_cut {E : jEnv} {d : Nat} {Q : Int32 → jM → Prop} {a0 : Nat} {x1 : Int32} {x2 : Int32} {S : jM} (h : jk S a0 = 10 ∧ jFr E mX10_findSheet d 0 0 [.ref a0, .int x1] S (fun o3 S2 => (o3 = none → Q (-1000000001) S2) ∧ (∀ b4, o3 = some b4 → ((jwi x2 2) = 0 → Q (-1000000001) S2) ∧ (¬ (jwi x2 2) = 0 → jk S2 b4 = 6 ∧ ((ji S2 b4 0) = (-1) → Q (-1000000011) S2) ∧ (¬ (ji S2 b4 0) = (-1) → L_X10_cut_45 E d Q a0 x2 b4 (-1000000005) 1000000000 0 S2))))) : jFi E mX10_cut (d + 1) 0 0 [.ref a0, .int x1, .int x2] S Q := by
  refine jF_of (by decide) (jle rfl) ?_
  refine jx_lv (lv1 := [(0, .ref a0), (1, .int x1), (2, .int x2)]) [0, 1, 2] rfl ?_
  refine jx_aload_n 0 dX10_cut_0 rfl rfl ?_
  refine jx_iload_n 1 dX10_cut_1 rfl rfl ?_
  obtain ⟨hk1, h⟩ := h
  refine jx_callVr (M' := mX10_findSheet) (As := [.int x1]) jo_X10_findSheet jc_10 rfl jwM_X10_257 jwN_X10_findSheet jwX_X10_findSheet dX10_cut_2 (jRok_m _ _ _) rfl (jle rfl) ⟨jle rfl, jle rfl⟩ hk1 h (fun o3 S2 h => ?_)
  rcases o3 with _ | b4
  · replace h := h.1 rfl
    refine jx_astore_nN (lv1 := [(3, .null), (0, .ref a0), (1, .int x1), (2, .int x2)]) dX10_cut_5 rfl (by decide) rfl ?_
    refine jx_aload_nN 0 dX10_cut_6 rfl rfl ?_
    refine jx_ifnullN (tgt := 18) dX10_cut_7 (by decide) ?_
    refine jx_ldc jwC_X10_62 dX10_cut_18 ?_
    exact jx_iret dX10_cut_20 rfl rfl (jle rfl) (jle rfl) ⟨_, rfl, h⟩
  replace h := h.2 b4 rfl
  refine jx_astore_n (lv1 := [(3, .ref b4), (0, .ref a0), (1, .int x1), (2, .int x2)]) dX10_cut_5 rfl (by decide) rfl ?_
  refine jx_aload_n 0 dX10_cut_6 rfl rfl ?_
  refine jx_ifnull dX10_cut_7 ?_
  refine jx_iload_n 3 dX10_cut_10 rfl rfl ?_
  refine jx_iconst (v := 2) dX10_cut_11 (by decide) ?_
  refine jx_callSi (M' := mX10_within) (As := [.int x2, .int 2]) jo_X10_within jwM_X10_58 jwS_X10_within dX10_cut_12 (jRok_m _ _ _) rfl (jle rfl) ⟨jle rfl, jle rfl⟩ (c_X10_within (Q := fun v S' => v = (jwi x2 2) ∧ S2 = S') ⟨rfl, rfl⟩) (fun r5 S6 hq7 => ?_)
  obtain ⟨rfl, rfl⟩ := hq7
  refine jx_if_ne (tgt := 21) dX10_cut_15 (by decide) (fun c8 => ?_) (fun c8 => ?_)
  · replace h := h.2 c8
    refine jx_aload_n 0 dX10_cut_21 rfl rfl ?_
    obtain ⟨hk9, h⟩ := h
    refine jx_geti jc_6 (j := 0) (by decide) rfl jwF_X10_261 dX10_cut_22 hk9 ?_
    refine jx_iconst (v := (-1)) dX10_cut_25 (by decide) ?_
    refine jx_icmp_ne (tgt := 33) dX10_cut_26 (by decide) (fun c10 => ?_) (fun c10 => ?_)
    · replace h := h.2 c10
      refine jx_ldc jwC_X10_160 dX10_cut_33 ?_
      refine jx_istore (lv1 := [(4, .int (-1000000005)), (3, .ref b4), (0, .ref a0), (1, .int x1), (2, .int x2)]) dX10_cut_35 (by decide) rfl ?_
      refine jx_ldcw jwC_X10_265 dX10_cut_37 ?_
      refine jx_istore (lv1 := [(5, .int 1000000000), (4, .int (-1000000005)), (3, .ref b4), (0, .ref a0), (1, .int x1), (2, .int x2)]) dX10_cut_40 (by decide) rfl ?_
      refine jx_iconst (v := 0) dX10_cut_42 (by decide) ?_
      refine jx_istore (lv1 := [(6, .int 0), (5, .int 1000000000), (4, .int (-1000000005)), (3, .ref b4), (0, .ref a0), (1, .int x1), (2, .int x2)]) dX10_cut_43 (by decide) rfl ?_
      exact jx_lv [4, 6, 3, 2, 1, 0] rfl h
    replace h := h.1 c10
    refine jx_ldcw jwC_X10_264 dX10_cut_29 ?_
    exact jx_iret dX10_cut_32 rfl rfl (jle rfl) (jle rfl) ⟨_, rfl, h⟩
  replace h := h.1 c8
  refine jx_ldc jwC_X10_62 dX10_cut_18 ?_
  exact jx_iret dX10_cut_20 rfl rfl (jle rfl) (jle rfl) ⟨_, rfl, h⟩
set_option maxRecDepth 100000 in
set_option maxHeartbeats 4000000 in
theorem T_X10_cut_45 {E : jEnv} {d : Nat} {Q : Int32 → jM → Prop} {a0 : Nat} {x2 : Int32} {a3 : Nat} {x4 : Int32} {x5 : Int32} {x6 : Int32} {S : jM} (h : (9 ≤ x6 → (x2 = 0 → Q x4 S) ∧ (¬ x2 = 0 → (x4 = (-1000000005) → Q x4 S) ∧ (¬ x4 = (-1000000005) → Q x5 S))) ∧ (¬ 9 ≤ x6 → jk S a0 = 10 ∧ ∃ b15, jr S a0 0 = some b15 ∧ (jk S b15 = 3 ∧ ∃ b17, jr S b15 0 = some b17 ∧ (jk S b17 = 0 ∧ jFr E mX0_find d 0 0 [.ref b17, .int x6] S (fun o20 S19 => (o20 = none → (x5 ≤ x5 → L_X10_cut_45 E d Q a0 x2 a3 x4 x5 (x6 + 1) S19) ∧ (¬ x5 ≤ x5 → L_X10_cut_45 E d Q a0 x2 a3 x6 x5 (x6 + 1) S19)) ∧ (∀ b21, o20 = some b21 → jk S19 a0 = 10 ∧ ∃ b24, jr S19 a0 0 = some b24 ∧ (jk S19 b24 = 3 ∧ jFi E mX3_apart d 0 0 [.ref b24, .ref b21, .ref a3] S19 (fun r27 S26 => (x5 ≤ r27 → L_X10_cut_45 E d Q a0 x2 a3 x4 x5 (x6 + 1) S26) ∧ (¬ x5 ≤ r27 → L_X10_cut_45 E d Q a0 x2 a3 x6 r27 (x6 + 1) S26))))))))) : L_X10_cut_45 E d Q a0 x2 a3 x4 x5 x6 S := by
  show jX E mX10_cut (jRm (d + 1) 0 0) (jZm E (fun r S' => ∃ v : Int32, r = some (.int v) ∧ Q v S') 0 0) 45 [(0, .ref a0), (2, .int x2), (3, .ref a3), (4, .int x4), (5, .int x5), (6, .int x6)] [] S 0 0
  refine jx_iload 5 dX10_cut_45 rfl ?_
  refine jx_bipush (v := 9) dX10_cut_47 (by decide) ?_
  refine jx_icmp_ge (tgt := 109) dX10_cut_49 (by decide) (fun c11 => ?_) (fun c11 => ?_)
  · replace h := h.1 c11
    refine jx_iload_n 1 dX10_cut_109 rfl rfl ?_
    refine jx_if_eq (tgt := 120) dX10_cut_110 (by decide) (fun c12 => ?_) (fun c12 => ?_)
    · replace h := h.1 c12
      refine jx_iload 3 dX10_cut_120 rfl ?_
      refine jx_goto (tgt := 127) dX10_cut_122 (by decide) ?_
      exact jx_iret dX10_cut_127 rfl rfl (jle rfl) (jle rfl) ⟨_, rfl, h⟩
    replace h := h.2 c12
    refine jx_iload 3 dX10_cut_113 rfl ?_
    refine jx_ldc jwC_X10_160 dX10_cut_115 ?_
    refine jx_icmp_ne (tgt := 125) dX10_cut_117 (by decide) (fun c13 => ?_) (fun c13 => ?_)
    · replace h := h.2 c13
      refine jx_iload 4 dX10_cut_125 rfl ?_
      exact jx_iret dX10_cut_127 rfl rfl (jle rfl) (jle rfl) ⟨_, rfl, h⟩
    replace h := h.1 c13
    refine jx_iload 3 dX10_cut_120 rfl ?_
    refine jx_goto (tgt := 127) dX10_cut_122 (by decide) ?_
    exact jx_iret dX10_cut_127 rfl rfl (jle rfl) (jle rfl) ⟨_, rfl, h⟩
  replace h := h.2 c11
  refine jx_aload_n 0 dX10_cut_52 rfl rfl ?_
  obtain ⟨hk14, h⟩ := h
  obtain ⟨b15, hb15, h⟩ := h
  refine jx_getr jc_10 (j := 0) (by decide) rfl jwF_X10_12 dX10_cut_53 hk14 hb15 ?_
  obtain ⟨hk16, h⟩ := h
  obtain ⟨b17, hb17, h⟩ := h
  refine jx_getr jc_3 (j := 0) (by decide) rfl jwF_X10_63 dX10_cut_56 hk16 hb17 ?_
  refine jx_iload 5 dX10_cut_59 rfl ?_
  obtain ⟨hk18, h⟩ := h
  refine jx_callVr (M' := mX0_find) (As := [.int x6]) jo_X0_find jc_0 rfl jwM_X10_75 jwN_X0_find jwX_X0_find dX10_cut_61 (jRok_m _ _ _) rfl (jle rfl) ⟨jle rfl, jle rfl⟩ hk18 h (fun o20 S19 h => ?_)
  rcases o20 with _ | b21
  · replace h := h.1 rfl
    refine jx_astoreN (lv1 := [(7, .null), (0, .ref a0), (2, .int x2), (3, .ref a3), (4, .int x4), (5, .int x5), (6, .int x6)]) dX10_cut_64 (by decide) rfl ?_
    refine jx_aloadN 0 dX10_cut_66 rfl ?_
    refine jx_ifnonnullN dX10_cut_68 ?_
    refine jx_iload 5 dX10_cut_71 rfl ?_
    refine jx_goto (tgt := 86) dX10_cut_73 (by decide) ?_
    refine jx_istore (lv1 := [(8, .int x5), (7, .null), (0, .ref a0), (2, .int x2), (3, .ref a3), (4, .int x4), (5, .int x5), (6, .int x6)]) dX10_cut_86 (by decide) rfl ?_
    refine jx_iload 0 dX10_cut_88 rfl ?_
    refine jx_iload 6 dX10_cut_90 rfl ?_
    refine jx_icmp_ge (tgt := 103) dX10_cut_92 (by decide) (fun c22 => ?_) (fun c22 => ?_)
    · replace h := h.1 c22
      refine jx_iinc 7 (v := (x6 + 1)) (lv1 := [(6, .int (x6 + 1)), (8, .int x5), (7, .null), (0, .ref a0), (2, .int x2), (3, .ref a3), (4, .int x4), (5, .int x5)]) dX10_cut_103 rfl rfl (by decide) rfl ?_
      refine jx_goto (tgt := 45) dX10_cut_106 (by decide) ?_
      exact jx_lv [3, 4, 5, 6, 7, 0] rfl h
    replace h := h.2 c22
    refine jx_iload 7 dX10_cut_95 rfl ?_
    refine jx_istore (lv1 := [(4, .int x6), (8, .int x5), (7, .null), (0, .ref a0), (2, .int x2), (3, .ref a3), (5, .int x5), (6, .int x6)]) dX10_cut_97 (by decide) rfl ?_
    refine jx_iload 1 dX10_cut_99 rfl ?_
    refine jx_istore (lv1 := [(5, .int x5), (4, .int x6), (8, .int x5), (7, .null), (0, .ref a0), (2, .int x2), (3, .ref a3), (6, .int x6)]) dX10_cut_101 (by decide) rfl ?_
    refine jx_iinc 7 (v := (x6 + 1)) (lv1 := [(6, .int (x6 + 1)), (5, .int x5), (4, .int x6), (8, .int x5), (7, .null), (0, .ref a0), (2, .int x2), (3, .ref a3)]) dX10_cut_103 rfl rfl (by decide) rfl ?_
    refine jx_goto (tgt := 45) dX10_cut_106 (by decide) ?_
    exact jx_lv [5, 6, 7, 2, 1, 0] rfl h
  replace h := h.2 b21 rfl
  refine jx_astore (lv1 := [(7, .ref b21), (0, .ref a0), (2, .int x2), (3, .ref a3), (4, .int x4), (5, .int x5), (6, .int x6)]) dX10_cut_64 (by decide) rfl ?_
  refine jx_aload 0 dX10_cut_66 rfl ?_
  refine jx_ifnonnull (tgt := 76) dX10_cut_68 (by decide) ?_
  refine jx_aload_n 1 dX10_cut_76 rfl rfl ?_
  obtain ⟨hk23, h⟩ := h
  obtain ⟨b24, hb24, h⟩ := h
  refine jx_getr jc_10 (j := 0) (by decide) rfl jwF_X10_12 dX10_cut_77 hk23 hb24 ?_
  refine jx_aload 0 dX10_cut_80 rfl ?_
  refine jx_aload_n 3 dX10_cut_82 rfl rfl ?_
  obtain ⟨hk25, h⟩ := h
  refine jx_callVi (M' := mX3_apart) (As := [.ref b21, .ref a3]) jo_X3_apart jc_3 rfl jwM_X10_266 jwN_X3_apart jwX_X3_apart dX10_cut_83 (jRok_m _ _ _) rfl (jle rfl) ⟨jle rfl, jle rfl⟩ hk25 h (fun r27 S26 h => ?_)
  refine jx_istore (lv1 := [(8, .int r27), (7, .ref b21), (0, .ref a0), (2, .int x2), (3, .ref a3), (4, .int x4), (5, .int x5), (6, .int x6)]) dX10_cut_86 (by decide) rfl ?_
  refine jx_iload 0 dX10_cut_88 rfl ?_
  refine jx_iload 6 dX10_cut_90 rfl ?_
  refine jx_icmp_ge (tgt := 103) dX10_cut_92 (by decide) (fun c28 => ?_) (fun c28 => ?_)
  · replace h := h.1 c28
    refine jx_iinc 7 (v := (x6 + 1)) (lv1 := [(6, .int (x6 + 1)), (8, .int r27), (7, .ref b21), (0, .ref a0), (2, .int x2), (3, .ref a3), (4, .int x4), (5, .int x5)]) dX10_cut_103 rfl rfl (by decide) rfl ?_
    refine jx_goto (tgt := 45) dX10_cut_106 (by decide) ?_
    exact jx_lv [3, 4, 5, 6, 7, 0] rfl h
  replace h := h.2 c28
  refine jx_iload 7 dX10_cut_95 rfl ?_
  refine jx_istore (lv1 := [(4, .int x6), (8, .int r27), (7, .ref b21), (0, .ref a0), (2, .int x2), (3, .ref a3), (5, .int x5), (6, .int x6)]) dX10_cut_97 (by decide) rfl ?_
  refine jx_iload 1 dX10_cut_99 rfl ?_
  refine jx_istore (lv1 := [(5, .int r27), (4, .int x6), (8, .int r27), (7, .ref b21), (0, .ref a0), (2, .int x2), (3, .ref a3), (6, .int x6)]) dX10_cut_101 (by decide) rfl ?_
  refine jx_iinc 7 (v := (x6 + 1)) (lv1 := [(6, .int (x6 + 1)), (5, .int r27), (4, .int x6), (8, .int r27), (7, .ref b21), (0, .ref a0), (2, .int x2), (3, .ref a3)]) dX10_cut_103 rfl rfl (by decide) rfl ?_
  refine jx_goto (tgt := 45) dX10_cut_106 (by decide) ?_
  exact jx_lv [5, 6, 7, 2, 1, 0] rfl h
set_option maxRecDepth 100000 in
set_option maxHeartbeats 4000000 in
theorem T_X10_fame {E : jEnv} {d : Nat} {Q : Int32 → jM → Prop} {a0 : Nat} {x1 : Int32} {S : jM} (h : jk S a0 = 10 ∧ ∃ b2, jr S a0 0 = some b2 ∧ (jk S b2 = 3 ∧ ∃ b4, jr S b2 0 = some b4 ∧ (jk S b4 = 0 ∧ jFr E mX0_find d 0 0 [.ref b4, .int x1] S (fun o7 S6 => (o7 = none → Q (-1000000001) S6) ∧ (∀ b8, o7 = some b8 → jk S6 a0 = 10 ∧ ∃ b10, jr S6 a0 0 = some b10 ∧ (jk S6 b10 = 3 ∧ jFi E mX3_fameOf d 0 0 [.ref b10, .ref b8] S6 (fun r13 S12 => Q r13 S12))))))) : jFi E mX10_fame (d + 1) 0 0 [.ref a0, .int x1] S Q := by
  refine jF_of (by decide) (jle rfl) ?_
  refine jx_lv (lv1 := [(0, .ref a0), (1, .int x1)]) [0, 1] rfl ?_
  refine jx_aload_n 0 dX10_fame_0 rfl rfl ?_
  obtain ⟨hk1, h⟩ := h
  obtain ⟨b2, hb2, h⟩ := h
  refine jx_getr jc_10 (j := 0) (by decide) rfl jwF_X10_12 dX10_fame_1 hk1 hb2 ?_
  obtain ⟨hk3, h⟩ := h
  obtain ⟨b4, hb4, h⟩ := h
  refine jx_getr jc_3 (j := 0) (by decide) rfl jwF_X10_63 dX10_fame_4 hk3 hb4 ?_
  refine jx_iload_n 1 dX10_fame_7 rfl rfl ?_
  obtain ⟨hk5, h⟩ := h
  refine jx_callVr (M' := mX0_find) (As := [.int x1]) jo_X0_find jc_0 rfl jwM_X10_75 jwN_X0_find jwX_X0_find dX10_fame_8 (jRok_m _ _ _) rfl (jle rfl) ⟨jle rfl, jle rfl⟩ hk5 h (fun o7 S6 h => ?_)
  rcases o7 with _ | b8
  · replace h := h.1 rfl
    refine jx_astore_nN (lv1 := [(2, .null), (0, .ref a0), (1, .int x1)]) dX10_fame_11 rfl (by decide) rfl ?_
    refine jx_aload_nN 0 dX10_fame_12 rfl rfl ?_
    refine jx_ifnonnullN dX10_fame_13 ?_
    refine jx_ldc jwC_X10_62 dX10_fame_16 ?_
    refine jx_goto (tgt := 29) dX10_fame_18 (by decide) ?_
    exact jx_iret dX10_fame_29 rfl rfl (jle rfl) (jle rfl) ⟨_, rfl, h⟩
  replace h := h.2 b8 rfl
  refine jx_astore_n (lv1 := [(2, .ref b8), (0, .ref a0), (1, .int x1)]) dX10_fame_11 rfl (by decide) rfl ?_
  refine jx_aload_n 0 dX10_fame_12 rfl rfl ?_
  refine jx_ifnonnull (tgt := 21) dX10_fame_13 (by decide) ?_
  refine jx_aload_n 1 dX10_fame_21 rfl rfl ?_
  obtain ⟨hk9, h⟩ := h
  obtain ⟨b10, hb10, h⟩ := h
  refine jx_getr jc_10 (j := 0) (by decide) rfl jwF_X10_12 dX10_fame_22 hk9 hb10 ?_
  refine jx_aload_n 0 dX10_fame_25 rfl rfl ?_
  obtain ⟨hk11, h⟩ := h
  refine jx_callVi (M' := mX3_fameOf) (As := [.ref b8]) jo_X3_fameOf jc_3 rfl jwM_X10_270 jwN_X3_fameOf jwX_X3_fameOf dX10_fame_26 (jRok_m _ _ _) rfl (jle rfl) ⟨jle rfl, jle rfl⟩ hk11 h (fun r13 S12 h => ?_)
  exact jx_iret dX10_fame_29 rfl rfl (jle rfl) (jle rfl) ⟨_, rfl, h⟩
set_option maxRecDepth 100000 in
set_option maxHeartbeats 4000000 in
theorem T_X10_fine {E : jEnv} {d : Nat} {Q : Int32 → jM → Prop} {a0 : Nat} {S : jM} (h : jk S a0 = 10 ∧ ∃ b2, jr S a0 0 = some b2 ∧ (jk S b2 = 3 ∧ jFi E mX3_fineNow d 0 0 [.ref b2] S (fun r5 S4 => Q r5 S4))) : jFi E mX10_fine (d + 1) 0 0 [.ref a0] S Q := by
  refine jF_of (by decide) (jle rfl) ?_
  refine jx_lv (lv1 := [(0, .ref a0)]) [0] rfl ?_
  refine jx_aload_n 0 dX10_fine_0 rfl rfl ?_
  obtain ⟨hk1, h⟩ := h
  obtain ⟨b2, hb2, h⟩ := h
  refine jx_getr jc_10 (j := 0) (by decide) rfl jwF_X10_12 dX10_fine_1 hk1 hb2 ?_
  obtain ⟨hk3, h⟩ := h
  refine jx_callVi (M' := mX3_fineNow) (As := []) jo_X3_fineNow jc_3 rfl jwM_X10_274 jwN_X3_fineNow jwX_X3_fineNow dX10_fine_4 (jRok_m _ _ _) rfl (jle rfl) ⟨jle rfl, jle rfl⟩ hk3 h (fun r5 S4 h => ?_)
  exact jx_iret dX10_fine_7 rfl rfl (jle rfl) (jle rfl) ⟨_, rfl, h⟩
set_option maxRecDepth 100000 in
set_option maxHeartbeats 4000000 in
theorem T_X10_feed {E : jEnv} {d : Nat} {Q : Int32 → jM → Prop} {a0 : Nat} {x1 : Int32} {x2 : Int32} {x3 : Int32} {S : jM} (h : jk S a0 = 10 ∧ ∃ b2, jr S a0 5 = some b2 ∧ (jk S b2 = 8 ∧ ((ji S b2 1) ≤ 84 → jFv E mX8_addNumber d 0 0 [.ref b2, .int x1] S (fun S5 => jk S5 a0 = 10 ∧ ∃ b7, jr S5 a0 5 = some b7 ∧ (jk S5 b7 = 8 ∧ jFv E mX8_addNumber d 0 0 [.ref b7, .int x2] S5 (fun S9 => jk S9 a0 = 10 ∧ ∃ b11, jr S9 a0 5 = some b11 ∧ (jk S9 b11 = 8 ∧ jFv E mX8_addNumber d 0 0 [.ref b11, .int x3] S9 (fun S13 => jk S13 a0 = 10 ∧ ∃ b15, jr S13 a0 5 = some b15 ∧ (jk S13 b15 = 8 ∧ Q (ji S13 b15 1) S13))))))) ∧ (¬ (ji S b2 1) ≤ 84 → Q (-1000000003) S))) : jFi E mX10_feed (d + 1) 0 0 [.ref a0, .int x1, .int x2, .int x3] S Q := by
  refine jF_of (by decide) (jle rfl) ?_
  refine jx_lv (lv1 := [(0, .ref a0), (1, .int x1), (2, .int x2), (3, .int x3)]) [0, 1, 2, 3] rfl ?_
  refine jx_aload_n 0 dX10_feed_0 rfl rfl ?_
  obtain ⟨hk1, h⟩ := h
  obtain ⟨b2, hb2, h⟩ := h
  refine jx_getr jc_10 (j := 5) (by decide) rfl jwF_X10_36 dX10_feed_1 hk1 hb2 ?_
  obtain ⟨hk3, h⟩ := h
  refine jx_geti jc_8 (j := 1) (by decide) rfl jwF_X10_277 dX10_feed_4 hk3 ?_
  refine jx_bipush (v := 84) dX10_feed_7 (by decide) ?_
  refine jx_icmp_le (tgt := 15) dX10_feed_9 (by decide) (fun c4 => ?_) (fun c4 => ?_)
  · replace h := h.1 c4
    refine jx_aload_n 0 dX10_feed_15 rfl rfl ?_
    refine jx_getr jc_10 (j := 5) (by decide) rfl jwF_X10_36 dX10_feed_16 hk1 hb2 ?_
    refine jx_iload_n 1 dX10_feed_19 rfl rfl ?_
    refine jx_callVv (M' := mX8_addNumber) (As := [.int x1]) jo_X8_addNumber jc_8 rfl jwM_X10_278 jwN_X8_addNumber jwX_X8_addNumber dX10_feed_20 (jRok_m _ _ _) rfl (jle rfl) ⟨jle rfl, jle rfl⟩ hk3 h (fun S5 h => ?_)
    refine jx_aload_n 0 dX10_feed_23 rfl rfl ?_
    obtain ⟨hk6, h⟩ := h
    obtain ⟨b7, hb7, h⟩ := h
    refine jx_getr jc_10 (j := 5) (by decide) rfl jwF_X10_36 dX10_feed_24 hk6 hb7 ?_
    refine jx_iload_n 2 dX10_feed_27 rfl rfl ?_
    obtain ⟨hk8, h⟩ := h
    refine jx_callVv (M' := mX8_addNumber) (As := [.int x2]) jo_X8_addNumber jc_8 rfl jwM_X10_278 jwN_X8_addNumber jwX_X8_addNumber dX10_feed_28 (jRok_m _ _ _) rfl (jle rfl) ⟨jle rfl, jle rfl⟩ hk8 h (fun S9 h => ?_)
    refine jx_aload_n 0 dX10_feed_31 rfl rfl ?_
    obtain ⟨hk10, h⟩ := h
    obtain ⟨b11, hb11, h⟩ := h
    refine jx_getr jc_10 (j := 5) (by decide) rfl jwF_X10_36 dX10_feed_32 hk10 hb11 ?_
    refine jx_iload_n 3 dX10_feed_35 rfl rfl ?_
    obtain ⟨hk12, h⟩ := h
    refine jx_callVv (M' := mX8_addNumber) (As := [.int x3]) jo_X8_addNumber jc_8 rfl jwM_X10_278 jwN_X8_addNumber jwX_X8_addNumber dX10_feed_36 (jRok_m _ _ _) rfl (jle rfl) ⟨jle rfl, jle rfl⟩ hk12 h (fun S13 h => ?_)
    refine jx_aload_n 0 dX10_feed_39 rfl rfl ?_
    obtain ⟨hk14, h⟩ := h
    obtain ⟨b15, hb15, h⟩ := h
    refine jx_getr jc_10 (j := 5) (by decide) rfl jwF_X10_36 dX10_feed_40 hk14 hb15 ?_
    obtain ⟨hk16, h⟩ := h
    refine jx_geti jc_8 (j := 1) (by decide) rfl jwF_X10_277 dX10_feed_43 hk16 ?_
    exact jx_iret dX10_feed_46 rfl rfl (jle rfl) (jle rfl) ⟨_, rfl, h⟩
  replace h := h.2 c4
  refine jx_ldc jwC_X10_74 dX10_feed_12 ?_
  exact jx_iret dX10_feed_14 rfl rfl (jle rfl) (jle rfl) ⟨_, rfl, h⟩
set_option maxRecDepth 100000 in
set_option maxHeartbeats 4000000 in
theorem T_X10_trim {E : jEnv} {d : Nat} {Q : Int32 → jM → Prop} {a0 : Nat} {x1 : Int32} {S : jM} (h : (x1 < 0 → Q (-1000000001) S) ∧ (¬ x1 < 0 → jk S a0 = 10 ∧ ∃ b3, jr S a0 5 = some b3 ∧ (jk S b3 = 8 ∧ (x1 ≤ (ji S b3 1) → Q x1 (jput S b3 1 x1)) ∧ (¬ x1 ≤ (ji S b3 1) → Q (-1000000001) S)))) : jFi E mX10_trim d 0 0 [.ref a0, .int x1] S Q := by
  refine jF_of (by decide) (jle rfl) ?_
  refine jx_lv (lv1 := [(0, .ref a0), (1, .int x1)]) [0, 1] rfl ?_
  refine jx_iload_n 1 dX10_trim_0 rfl rfl ?_
  refine jx_if_lt (tgt := 15) dX10_trim_1 (by decide) (fun c1 => ?_) (fun c1 => ?_)
  · replace h := h.1 c1
    refine jx_ldc jwC_X10_62 dX10_trim_15 ?_
    exact jx_iret dX10_trim_17 rfl rfl (jle rfl) (jle rfl) ⟨_, rfl, h⟩
  replace h := h.2 c1
  refine jx_iload_n 1 dX10_trim_4 rfl rfl ?_
  refine jx_aload_n 0 dX10_trim_5 rfl rfl ?_
  obtain ⟨hk2, h⟩ := h
  obtain ⟨b3, hb3, h⟩ := h
  refine jx_getr jc_10 (j := 5) (by decide) rfl jwF_X10_36 dX10_trim_6 hk2 hb3 ?_
  obtain ⟨hk4, h⟩ := h
  refine jx_geti jc_8 (j := 1) (by decide) rfl jwF_X10_277 dX10_trim_9 hk4 ?_
  refine jx_icmp_le (tgt := 18) dX10_trim_12 (by decide) (fun c5 => ?_) (fun c5 => ?_)
  · replace h := h.1 c5
    refine jx_aload_n 0 dX10_trim_18 rfl rfl ?_
    refine jx_getr jc_10 (j := 5) (by decide) rfl jwF_X10_36 dX10_trim_19 hk2 hb3 ?_
    refine jx_iload_n 1 dX10_trim_22 rfl rfl ?_
    refine jx_puti jc_8 (j := 1) (by decide) rfl jwF_X10_277 rfl rfl rfl dX10_trim_23 hk4 ?_
    refine jx_iload_n 1 dX10_trim_26 rfl rfl ?_
    exact jx_iret dX10_trim_27 rfl rfl (jle rfl) (jle rfl) ⟨_, rfl, h⟩
  replace h := h.2 c5
  refine jx_ldc jwC_X10_62 dX10_trim_15 ?_
  exact jx_iret dX10_trim_17 rfl rfl (jle rfl) (jle rfl) ⟨_, rfl, h⟩
set_option maxRecDepth 100000 in
set_option maxHeartbeats 4000000 in
theorem T_X10_text {E : jEnv} {d : Nat} {Q : Int32 → jM → Prop} {a0 : Nat} {S : jM} (h : jk S a0 = 10 ∧ ∃ b2, jr S a0 5 = some b2 ∧ (jk S b2 = 8 ∧ jFi E mX8_isText d 0 0 [.ref b2] S (fun r5 S4 => jk S4 a0 = 10 ∧ ∃ b7, jr S4 a0 5 = some b7 ∧ (jk S4 b7 = 8 ∧ (r5 = 0 → Q ((-100) - (ji S4 b7 2)) (jput S4 b7 1 0)) ∧ (¬ r5 = 0 → ∃ b10, jr S4 a0 0 = some b10 ∧ (jk S4 b10 = 3 ∧ jFr E mX8_textRead d 3 196 [.ref b7] (jput S4 b7 1 0) (fun o13 S12 => (o13 = none → jk S12 b10 = 3 ∧ jFi E mX3_addText d 0 0 [.ref b10, .null] S12 (fun r17 S16 => (r17 = 0 → Q (-1000000003) S16) ∧ (¬ r17 = 0 → Q (ji S4 b10 6) S16))) ∧ (∀ b14, o13 = some b14 → jk S12 b10 = 3 ∧ jFi E mX3_addText d 0 0 [.ref b10, .ref b14] S12 (fun r21 S20 => (r21 = 0 → Q (-1000000003) S20) ∧ (¬ r21 = 0 → Q (ji S4 b10 6) S20)))))))))) : jFi E mX10_text (d + 1) 3 196 [.ref a0] S Q := by
  refine jF_of (by decide) (jle rfl) ?_
  refine jx_lv (lv1 := [(0, .ref a0)]) [0] rfl ?_
  refine jx_aload_n 0 dX10_text_0 rfl rfl ?_
  obtain ⟨hk1, h⟩ := h
  obtain ⟨b2, hb2, h⟩ := h
  refine jx_getr jc_10 (j := 5) (by decide) rfl jwF_X10_36 dX10_text_1 hk1 hb2 ?_
  obtain ⟨hk3, h⟩ := h
  refine jx_callVi (M' := mX8_isText) (As := []) jo_X8_isText jc_8 rfl jwM_X10_281 jwN_X8_isText jwX_X8_isText dX10_text_4 (jRok_m _ _ _) rfl (jle rfl) ⟨jle rfl, jle rfl⟩ hk3 h (fun r5 S4 h => ?_)
  refine jx_istore_n (lv1 := [(1, .int r5), (0, .ref a0)]) dX10_text_7 rfl (by decide) rfl ?_
  refine jx_aload_n 1 dX10_text_8 rfl rfl ?_
  obtain ⟨hk6, h⟩ := h
  obtain ⟨b7, hb7, h⟩ := h
  refine jx_getr jc_10 (j := 5) (by decide) rfl jwF_X10_36 dX10_text_9 hk6 hb7 ?_
  refine jx_iconst (v := 0) dX10_text_12 (by decide) ?_
  obtain ⟨hk8, h⟩ := h
  refine jx_puti jc_8 (j := 1) (by decide) rfl jwF_X10_277 rfl rfl rfl dX10_text_13 hk8 ?_
  refine jx_iload_n 0 dX10_text_16 rfl rfl ?_
  refine jx_if_ne (tgt := 31) dX10_text_17 (by decide) (fun c9 => ?_) (fun c9 => ?_)
  · replace h := h.2 c9
    refine jx_aload_n 1 dX10_text_31 rfl rfl ?_
    obtain ⟨b10, hb10, h⟩ := h
    refine jx_getr jc_10 (j := 0) (by decide) rfl jwF_X10_12 dX10_text_32 hk6 hb10 ?_
    obtain ⟨hk11, h⟩ := h
    refine jx_geti jc_3 (j := 6) (by decide) rfl jwF_X10_287 dX10_text_35 hk11 ?_
    refine jx_topi (y := (ji S4 b10 6)) (by simp [ji_put, ji_row, ji_putr]) ?_
    refine jx_istore_n (lv1 := [(2, .int (ji S4 b10 6)), (1, .int r5), (0, .ref a0)]) dX10_text_38 rfl (by decide) rfl ?_
    refine jx_aload_n 2 dX10_text_39 rfl rfl ?_
    refine jx_getr jc_10 (j := 0) (by decide) rfl jwF_X10_12 dX10_text_40 hk6 hb10 ?_
    refine jx_aload_n 2 dX10_text_43 rfl rfl ?_
    refine jx_getr jc_10 (j := 5) (by decide) rfl jwF_X10_36 dX10_text_44 hk6 hb7 ?_
    refine jx_callVr (M' := mX8_textRead) (As := []) jo_X8_textRead jc_8 rfl jwM_X10_290 jwN_X8_textRead jwX_X8_textRead dX10_text_47 (jRok_m _ _ _) rfl (jle rfl) ⟨jle rfl, jle rfl⟩ hk8 h (fun o13 S12 h => ?_)
    rcases o13 with _ | b14
    · replace h := h.1 rfl
      obtain ⟨hk15, h⟩ := h
      refine jx_callVi (M' := mX3_addText) (As := [.null]) jo_X3_addText jc_3 rfl jwM_X10_294 jwN_X3_addText jwX_X3_addText dX10_text_50 (jRok_m _ _ _) rfl (jle rfl) ⟨jle rfl, jle rfl⟩ hk15 h (fun r17 S16 h => ?_)
      refine jx_if_eq (tgt := 60) dX10_text_53 (by decide) (fun c18 => ?_) (fun c18 => ?_)
      · replace h := h.1 c18
        refine jx_ldc jwC_X10_74 dX10_text_60 ?_
        exact jx_iret dX10_text_62 rfl rfl (jle rfl) (jle rfl) ⟨_, rfl, h⟩
      replace h := h.2 c18
      refine jx_iload_n 0 dX10_text_56 rfl rfl ?_
      refine jx_goto (tgt := 62) dX10_text_57 (by decide) ?_
      exact jx_iret dX10_text_62 rfl rfl (jle rfl) (jle rfl) ⟨_, rfl, h⟩
    replace h := h.2 b14 rfl
    obtain ⟨hk19, h⟩ := h
    refine jx_callVi (M' := mX3_addText) (As := [.ref b14]) jo_X3_addText jc_3 rfl jwM_X10_294 jwN_X3_addText jwX_X3_addText dX10_text_50 (jRok_m _ _ _) rfl (jle rfl) ⟨jle rfl, jle rfl⟩ hk19 h (fun r21 S20 h => ?_)
    refine jx_if_eq (tgt := 60) dX10_text_53 (by decide) (fun c22 => ?_) (fun c22 => ?_)
    · replace h := h.1 c22
      refine jx_ldc jwC_X10_74 dX10_text_60 ?_
      exact jx_iret dX10_text_62 rfl rfl (jle rfl) (jle rfl) ⟨_, rfl, h⟩
    replace h := h.2 c22
    refine jx_iload_n 0 dX10_text_56 rfl rfl ?_
    refine jx_goto (tgt := 62) dX10_text_57 (by decide) ?_
    exact jx_iret dX10_text_62 rfl rfl (jle rfl) (jle rfl) ⟨_, rfl, h⟩
  replace h := h.1 c9
  refine jx_bipush (v := (-100)) dX10_text_20 (by decide) ?_
  refine jx_aload_n 1 dX10_text_22 rfl rfl ?_
  refine jx_getr jc_10 (j := 5) (by decide) rfl jwF_X10_36 dX10_text_23 hk6 hb7 ?_
  refine jx_geti jc_8 (j := 2) (by decide) rfl jwF_X10_284 dX10_text_26 hk8 ?_
  refine jx_topi (y := (ji S4 b7 2)) (by simp [ji_put, ji_row, ji_putr]) ?_
  refine jx_isub dX10_text_29 ?_
  exact jx_iret dX10_text_30 rfl rfl (jle rfl) (jle rfl) ⟨_, rfl, h⟩
set_option maxRecDepth 100000 in
set_option maxHeartbeats 4000000 in
theorem T_X10_textTold {E : jEnv} {d : Nat} {Q : Int32 → jM → Prop} {a0 : Nat} {x1 : Int32} {x2 : Int32} {S : jM} (h : jk S a0 = 10 ∧ ∃ b2, jr S a0 0 = some b2 ∧ (jk S b2 = 3 ∧ jFr E mX3_findText d 0 0 [.ref b2, .int x1] S (fun o5 S4 => (o5 = none → Q (-1000000001) S4) ∧ (∀ b6, o5 = some b6 → ((jwi x2 2) = 0 → Q (-1000000001) S4) ∧ (¬ (jwi x2 2) = 0 → (x2 = 0 → jk S4 b6 = 9 ∧ Q (ji S4 b6 0) S4) ∧ (¬ x2 = 0 → jk S4 b6 = 9 ∧ Q (ji S4 b6 1) S4)))))) : jFi E mX10_textTold (d + 1) 0 0 [.ref a0, .int x1, .int x2] S Q := by
  refine jF_of (by decide) (jle rfl) ?_
  refine jx_lv (lv1 := [(0, .ref a0), (1, .int x1), (2, .int x2)]) [0, 1, 2] rfl ?_
  refine jx_aload_n 0 dX10_textTold_0 rfl rfl ?_
  obtain ⟨hk1, h⟩ := h
  obtain ⟨b2, hb2, h⟩ := h
  refine jx_getr jc_10 (j := 0) (by decide) rfl jwF_X10_12 dX10_textTold_1 hk1 hb2 ?_
  refine jx_iload_n 1 dX10_textTold_4 rfl rfl ?_
  obtain ⟨hk3, h⟩ := h
  refine jx_callVr (M' := mX3_findText) (As := [.int x1]) jo_X3_findText jc_3 rfl jwM_X10_298 jwN_X3_findText jwX_X3_findText dX10_textTold_5 (jRok_m _ _ _) rfl (jle rfl) ⟨jle rfl, jle rfl⟩ hk3 h (fun o5 S4 h => ?_)
  rcases o5 with _ | b6
  · replace h := h.1 rfl
    refine jx_astore_nN (lv1 := [(3, .null), (0, .ref a0), (1, .int x1), (2, .int x2)]) dX10_textTold_8 rfl (by decide) rfl ?_
    refine jx_aload_nN 0 dX10_textTold_9 rfl rfl ?_
    refine jx_ifnullN (tgt := 21) dX10_textTold_10 (by decide) ?_
    refine jx_ldc jwC_X10_62 dX10_textTold_21 ?_
    exact jx_iret dX10_textTold_23 rfl rfl (jle rfl) (jle rfl) ⟨_, rfl, h⟩
  replace h := h.2 b6 rfl
  refine jx_astore_n (lv1 := [(3, .ref b6), (0, .ref a0), (1, .int x1), (2, .int x2)]) dX10_textTold_8 rfl (by decide) rfl ?_
  refine jx_aload_n 0 dX10_textTold_9 rfl rfl ?_
  refine jx_ifnull dX10_textTold_10 ?_
  refine jx_iload_n 3 dX10_textTold_13 rfl rfl ?_
  refine jx_iconst (v := 2) dX10_textTold_14 (by decide) ?_
  refine jx_callSi (M' := mX10_within) (As := [.int x2, .int 2]) jo_X10_within jwM_X10_58 jwS_X10_within dX10_textTold_15 (jRok_m _ _ _) rfl (jle rfl) ⟨jle rfl, jle rfl⟩ (c_X10_within (Q := fun v S' => v = (jwi x2 2) ∧ S4 = S') ⟨rfl, rfl⟩) (fun r7 S8 hq9 => ?_)
  obtain ⟨rfl, rfl⟩ := hq9
  refine jx_if_ne (tgt := 24) dX10_textTold_18 (by decide) (fun c10 => ?_) (fun c10 => ?_)
  · replace h := h.2 c10
    refine jx_iload_n 3 dX10_textTold_24 rfl rfl ?_
    refine jx_if_ne (tgt := 35) dX10_textTold_25 (by decide) (fun c11 => ?_) (fun c11 => ?_)
    · replace h := h.2 c11
      refine jx_aload_n 0 dX10_textTold_35 rfl rfl ?_
      obtain ⟨hk12, h⟩ := h
      refine jx_geti jc_9 (j := 1) (by decide) rfl jwF_X10_307 dX10_textTold_36 hk12 ?_
      exact jx_iret dX10_textTold_39 rfl rfl (jle rfl) (jle rfl) ⟨_, rfl, h⟩
    replace h := h.1 c11
    refine jx_aload_n 0 dX10_textTold_28 rfl rfl ?_
    obtain ⟨hk13, h⟩ := h
    refine jx_geti jc_9 (j := 0) (by decide) rfl jwF_X10_302 dX10_textTold_29 hk13 ?_
    refine jx_goto (tgt := 39) dX10_textTold_32 (by decide) ?_
    exact jx_iret dX10_textTold_39 rfl rfl (jle rfl) (jle rfl) ⟨_, rfl, h⟩
  replace h := h.1 c10
  refine jx_ldc jwC_X10_62 dX10_textTold_21 ?_
  exact jx_iret dX10_textTold_23 rfl rfl (jle rfl) (jle rfl) ⟨_, rfl, h⟩
set_option maxRecDepth 100000 in
set_option maxHeartbeats 4000000 in
theorem T_X10_why {E : jEnv} {d : Nat} {Q : Int32 → jM → Prop} {a0 : Nat} {x1 : Int32} {S : jM} (h : ((jwi x1 3) = 0 → Q (-1000000001) S) ∧ (¬ (jwi x1 3) = 0 → jk S a0 = 10 ∧ ∃ b6, jr S a0 0 = some b6 ∧ (jk S b6 = 3 ∧ jFi E mX3_numberOfLaw d 0 0 [.ref b6, .int x1] S (fun r9 S8 => (0 ≤ r9 → Q r9 S8) ∧ (¬ 0 ≤ r9 → Q (-1000000005) S8))))) : jFi E mX10_why (d + 1) 0 0 [.ref a0, .int x1] S Q := by
  refine jF_of (by decide) (jle rfl) ?_
  refine jx_lv (lv1 := [(0, .ref a0), (1, .int x1)]) [0, 1] rfl ?_
  refine jx_iload_n 1 dX10_why_0 rfl rfl ?_
  refine jx_iconst (v := 3) dX10_why_1 (by decide) ?_
  refine jx_callSi (M' := mX10_within) (As := [.int x1, .int 3]) jo_X10_within jwM_X10_58 jwS_X10_within dX10_why_2 (jRok_m _ _ _) rfl (jle rfl) ⟨jle rfl, jle rfl⟩ (c_X10_within (Q := fun v S' => v = (jwi x1 3) ∧ S = S') ⟨rfl, rfl⟩) (fun r1 S2 hq3 => ?_)
  obtain ⟨rfl, rfl⟩ := hq3
  refine jx_if_ne (tgt := 11) dX10_why_5 (by decide) (fun c4 => ?_) (fun c4 => ?_)
  · replace h := h.2 c4
    refine jx_aload_n 0 dX10_why_11 rfl rfl ?_
    obtain ⟨hk5, h⟩ := h
    obtain ⟨b6, hb6, h⟩ := h
    refine jx_getr jc_10 (j := 0) (by decide) rfl jwF_X10_12 dX10_why_12 hk5 hb6 ?_
    refine jx_iload_n 1 dX10_why_15 rfl rfl ?_
    obtain ⟨hk7, h⟩ := h
    refine jx_callVi (M' := mX3_numberOfLaw) (As := [.int x1]) jo_X3_numberOfLaw jc_3 rfl jwM_X10_310 jwN_X3_numberOfLaw jwX_X3_numberOfLaw dX10_why_16 (jRok_m _ _ _) rfl (jle rfl) ⟨jle rfl, jle rfl⟩ hk7 h (fun r9 S8 h => ?_)
    refine jx_istore_n (lv1 := [(2, .int r9), (0, .ref a0), (1, .int x1)]) dX10_why_19 rfl (by decide) rfl ?_
    refine jx_iload_n 0 dX10_why_20 rfl rfl ?_
    refine jx_if_ge (tgt := 29) dX10_why_21 (by decide) (fun c10 => ?_) (fun c10 => ?_)
    · replace h := h.1 c10
      refine jx_iload_n 0 dX10_why_29 rfl rfl ?_
      exact jx_iret dX10_why_30 rfl rfl (jle rfl) (jle rfl) ⟨_, rfl, h⟩
    replace h := h.2 c10
    refine jx_ldc jwC_X10_160 dX10_why_24 ?_
    refine jx_goto (tgt := 30) dX10_why_26 (by decide) ?_
    exact jx_iret dX10_why_30 rfl rfl (jle rfl) (jle rfl) ⟨_, rfl, h⟩
  replace h := h.1 c4
  refine jx_ldc jwC_X10_62 dX10_why_8 ?_
  exact jx_iret dX10_why_10 rfl rfl (jle rfl) (jle rfl) ⟨_, rfl, h⟩
set_option maxRecDepth 100000 in
set_option maxHeartbeats 4000000 in
theorem T_X10_sheet {E : jEnv} {d : Nat} {Q : Int32 → jM → Prop} {a0 : Nat} {x1 : Int32} {x2 : Int32} {x3 : Int32} {S : jM} (h : jk S a0 = 10 ∧ jFr E mX10_findSheet d 0 0 [.ref a0, .int x1] S (fun o3 S2 => (o3 = none → Q (-1000000001) S2) ∧ (∀ b4, o3 = some b4 → (x2 < (-1) → Q (-1000000001) S2) ∧ (¬ x2 < (-1) → (x2 ≤ 1 → (x2 = (-1) → jk S2 b4 = 6 ∧ jFv E mX6_begin d 0 0 [.ref b4, .int (-1), .int 0] S2 (fun S13 => Q 0 S13)) ∧ (¬ x2 = (-1) → (x3 ≤ 24 → (0 ≤ x3 → jk S2 b4 = 6 ∧ jFv E mX6_begin d 0 0 [.ref b4, .int x2, .int x3] S2 (fun S11 => Q x3 S11)) ∧ (¬ 0 ≤ x3 → Q (-1000000014) S2)) ∧ (¬ x3 ≤ 24 → Q (-1000000001) S2))) ∧ (¬ x2 ≤ 1 → Q (-1000000001) S2))))) : jFi E mX10_sheet (d + 1) 0 0 [.ref a0, .int x1, .int x2, .int x3] S Q := by
  refine jF_of (by decide) (jle rfl) ?_
  refine jx_lv (lv1 := [(0, .ref a0), (1, .int x1), (2, .int x2), (3, .int x3)]) [0, 1, 2, 3] rfl ?_
  refine jx_aload_n 0 dX10_sheet_0 rfl rfl ?_
  refine jx_iload_n 1 dX10_sheet_1 rfl rfl ?_
  obtain ⟨hk1, h⟩ := h
  refine jx_callVr (M' := mX10_findSheet) (As := [.int x1]) jo_X10_findSheet jc_10 rfl jwM_X10_257 jwN_X10_findSheet jwX_X10_findSheet dX10_sheet_2 (jRok_m _ _ _) rfl (jle rfl) ⟨jle rfl, jle rfl⟩ hk1 h (fun o3 S2 h => ?_)
  rcases o3 with _ | b4
  · replace h := h.1 rfl
    refine jx_astoreN (lv1 := [(4, .null), (0, .ref a0), (1, .int x1), (2, .int x2), (3, .int x3)]) dX10_sheet_5 (by decide) rfl ?_
    refine jx_aloadN 0 dX10_sheet_7 rfl ?_
    refine jx_ifnullN (tgt := 22) dX10_sheet_9 (by decide) ?_
    refine jx_ldc jwC_X10_62 dX10_sheet_22 ?_
    exact jx_iret dX10_sheet_24 rfl rfl (jle rfl) (jle rfl) ⟨_, rfl, h⟩
  replace h := h.2 b4 rfl
  refine jx_astore (lv1 := [(4, .ref b4), (0, .ref a0), (1, .int x1), (2, .int x2), (3, .int x3)]) dX10_sheet_5 (by decide) rfl ?_
  refine jx_aload 0 dX10_sheet_7 rfl ?_
  refine jx_ifnull dX10_sheet_9 ?_
  refine jx_iload_n 3 dX10_sheet_12 rfl rfl ?_
  refine jx_iconst (v := (-1)) dX10_sheet_13 (by decide) ?_
  refine jx_icmp_lt (tgt := 22) dX10_sheet_14 (by decide) (fun c5 => ?_) (fun c5 => ?_)
  · replace h := h.1 c5
    refine jx_ldc jwC_X10_62 dX10_sheet_22 ?_
    exact jx_iret dX10_sheet_24 rfl rfl (jle rfl) (jle rfl) ⟨_, rfl, h⟩
  replace h := h.2 c5
  refine jx_iload_n 3 dX10_sheet_17 rfl rfl ?_
  refine jx_iconst (v := 1) dX10_sheet_18 (by decide) ?_
  refine jx_icmp_le (tgt := 25) dX10_sheet_19 (by decide) (fun c6 => ?_) (fun c6 => ?_)
  · replace h := h.1 c6
    refine jx_iload_n 3 dX10_sheet_25 rfl rfl ?_
    refine jx_iconst (v := (-1)) dX10_sheet_26 (by decide) ?_
    refine jx_icmp_ne (tgt := 39) dX10_sheet_27 (by decide) (fun c7 => ?_) (fun c7 => ?_)
    · replace h := h.2 c7
      refine jx_iload_n 4 dX10_sheet_39 rfl rfl ?_
      refine jx_bipush (v := 24) dX10_sheet_40 (by decide) ?_
      refine jx_icmp_le (tgt := 48) dX10_sheet_42 (by decide) (fun c8 => ?_) (fun c8 => ?_)
      · replace h := h.1 c8
        refine jx_iload_n 4 dX10_sheet_48 rfl rfl ?_
        refine jx_if_ge (tgt := 56) dX10_sheet_49 (by decide) (fun c9 => ?_) (fun c9 => ?_)
        · replace h := h.1 c9
          refine jx_aload 0 dX10_sheet_56 rfl ?_
          refine jx_iload_n 3 dX10_sheet_58 rfl rfl ?_
          refine jx_iload_n 4 dX10_sheet_59 rfl rfl ?_
          obtain ⟨hk10, h⟩ := h
          refine jx_callVv (M' := mX6_begin) (As := [.int x2, .int x3]) jo_X6_begin jc_6 rfl jwM_X10_313 jwN_X6_begin jwX_X6_begin dX10_sheet_60 (jRok_m _ _ _) rfl (jle rfl) ⟨jle rfl, jle rfl⟩ hk10 h (fun S11 h => ?_)
          refine jx_iload_n 4 dX10_sheet_63 rfl rfl ?_
          exact jx_iret dX10_sheet_64 rfl rfl (jle rfl) (jle rfl) ⟨_, rfl, h⟩
        replace h := h.2 c9
        refine jx_ldcw jwC_X10_317 dX10_sheet_52 ?_
        exact jx_iret dX10_sheet_55 rfl rfl (jle rfl) (jle rfl) ⟨_, rfl, h⟩
      replace h := h.2 c8
      refine jx_ldc jwC_X10_62 dX10_sheet_45 ?_
      exact jx_iret dX10_sheet_47 rfl rfl (jle rfl) (jle rfl) ⟨_, rfl, h⟩
    replace h := h.1 c7
    refine jx_aload 0 dX10_sheet_30 rfl ?_
    refine jx_iconst (v := (-1)) dX10_sheet_32 (by decide) ?_
    refine jx_iconst (v := 0) dX10_sheet_33 (by decide) ?_
    obtain ⟨hk12, h⟩ := h
    refine jx_callVv (M' := mX6_begin) (As := [.int (-1), .int 0]) jo_X6_begin jc_6 rfl jwM_X10_313 jwN_X6_begin jwX_X6_begin dX10_sheet_34 (jRok_m _ _ _) rfl (jle rfl) ⟨jle rfl, jle rfl⟩ hk12 h (fun S13 h => ?_)
    refine jx_iconst (v := 0) dX10_sheet_37 (by decide) ?_
    exact jx_iret dX10_sheet_38 rfl rfl (jle rfl) (jle rfl) ⟨_, rfl, h⟩
  replace h := h.2 c6
  refine jx_ldc jwC_X10_62 dX10_sheet_22 ?_
  exact jx_iret dX10_sheet_24 rfl rfl (jle rfl) (jle rfl) ⟨_, rfl, h⟩
set_option maxRecDepth 100000 in
set_option maxHeartbeats 4000000 in
theorem T_X10_mark {E : jEnv} {d : Nat} {Q : Int32 → jM → Prop} {a0 : Nat} {x1 : Int32} {x2 : Int32} {x3 : Int32} {S : jM} (h : jk S a0 = 10 ∧ jFr E mX10_findSheet d 0 0 [.ref a0, .int x1] S (fun o3 S2 => (o3 = none → Q (-1000000001) S2) ∧ (∀ b4, o3 = some b4 → jk S2 b4 = 6 ∧ ((ji S2 b4 0) = (-1) → Q (-1000000011) S2) ∧ (¬ (ji S2 b4 0) = (-1) → jFi E mX6_hasPlace d 0 0 [.ref b4, .int x2] S2 (fun r8 S7 => (r8 = 0 → Q (-1000000013) S7) ∧ (¬ r8 = 0 → jk S7 b4 = 6 ∧ ((ji S7 b4 0) = 0 → (x3 = (-1000000005) → Q (-1000000012) S7) ∧ (¬ x3 = (-1000000005) → ∃ b22, jr S7 b4 2 = some b22 ∧ (jk S7 b22 = 12 ∧ vp_in x2 (jl S7 b22) ∧ (Q 1 (jput S7 b22 (Int32.toNatClampNeg x2) (Int16.toInt32 (Int32.toInt16 x3))))))) ∧ (¬ (ji S7 b4 0) = 0 → (x3 = (-1000000005) → ∃ b13, jr S7 b4 2 = some b13 ∧ (jk S7 b13 = 12 ∧ vp_in x2 (jl S7 b13) ∧ (Q 1 (jput S7 b13 (Int32.toNatClampNeg x2) x3)))) ∧ (¬ x3 = (-1000000005) → (x3 < (-99999) → Q (-1000000001) S7) ∧ (¬ x3 < (-99999) → (x3 ≤ 99999 → ∃ b18, jr S7 b4 2 = some b18 ∧ (jk S7 b18 = 12 ∧ vp_in x2 (jl S7 b18) ∧ (Q 1 (jput S7 b18 (Int32.toNatClampNeg x2) x3)))) ∧ (¬ x3 ≤ 99999 → Q (-1000000001) S7)))))))))) : jFi E mX10_mark (d + 1) 0 0 [.ref a0, .int x1, .int x2, .int x3] S Q := by
  refine jF_of (by decide) (jle rfl) ?_
  refine jx_lv (lv1 := [(0, .ref a0), (1, .int x1), (2, .int x2), (3, .int x3)]) [0, 1, 2, 3] rfl ?_
  refine jx_aload_n 0 dX10_mark_0 rfl rfl ?_
  refine jx_iload_n 1 dX10_mark_1 rfl rfl ?_
  obtain ⟨hk1, h⟩ := h
  refine jx_callVr (M' := mX10_findSheet) (As := [.int x1]) jo_X10_findSheet jc_10 rfl jwM_X10_257 jwN_X10_findSheet jwX_X10_findSheet dX10_mark_2 (jRok_m _ _ _) rfl (jle rfl) ⟨jle rfl, jle rfl⟩ hk1 h (fun o3 S2 h => ?_)
  rcases o3 with _ | b4
  · replace h := h.1 rfl
    refine jx_astoreN (lv1 := [(4, .null), (0, .ref a0), (1, .int x1), (2, .int x2), (3, .int x3)]) dX10_mark_5 (by decide) rfl ?_
    refine jx_aloadN 0 dX10_mark_7 rfl ?_
    refine jx_ifnonnullN dX10_mark_9 ?_
    refine jx_ldc jwC_X10_62 dX10_mark_12 ?_
    exact jx_iret dX10_mark_14 rfl rfl (jle rfl) (jle rfl) ⟨_, rfl, h⟩
  replace h := h.2 b4 rfl
  refine jx_astore (lv1 := [(4, .ref b4), (0, .ref a0), (1, .int x1), (2, .int x2), (3, .int x3)]) dX10_mark_5 (by decide) rfl ?_
  refine jx_aload 0 dX10_mark_7 rfl ?_
  refine jx_ifnonnull (tgt := 15) dX10_mark_9 (by decide) ?_
  refine jx_aload 0 dX10_mark_15 rfl ?_
  obtain ⟨hk5, h⟩ := h
  refine jx_geti jc_6 (j := 0) (by decide) rfl jwF_X10_261 dX10_mark_17 hk5 ?_
  refine jx_iconst (v := (-1)) dX10_mark_20 (by decide) ?_
  refine jx_icmp_ne (tgt := 28) dX10_mark_21 (by decide) (fun c6 => ?_) (fun c6 => ?_)
  · replace h := h.2 c6
    refine jx_aload 0 dX10_mark_28 rfl ?_
    refine jx_iload_n 3 dX10_mark_30 rfl rfl ?_
    refine jx_callVi (M' := mX6_hasPlace) (As := [.int x2]) jo_X6_hasPlace jc_6 rfl jwM_X10_318 jwN_X6_hasPlace jwX_X6_hasPlace dX10_mark_31 (jRok_m _ _ _) rfl (jle rfl) ⟨jle rfl, jle rfl⟩ hk5 h (fun r8 S7 h => ?_)
    refine jx_if_ne (tgt := 41) dX10_mark_34 (by decide) (fun c9 => ?_) (fun c9 => ?_)
    · replace h := h.2 c9
      refine jx_aload 0 dX10_mark_41 rfl ?_
      obtain ⟨hk10, h⟩ := h
      refine jx_geti jc_6 (j := 0) (by decide) rfl jwF_X10_261 dX10_mark_43 hk10 ?_
      refine jx_if_ne (tgt := 69) dX10_mark_46 (by decide) (fun c11 => ?_) (fun c11 => ?_)
      · replace h := h.2 c11
        refine jx_iload_n 4 dX10_mark_69 rfl rfl ?_
        refine jx_ldc jwC_X10_160 dX10_mark_70 ?_
        refine jx_icmp_eq (tgt := 92) dX10_mark_72 (by decide) (fun c12 => ?_) (fun c12 => ?_)
        · replace h := h.1 c12
          refine jx_aload 0 dX10_mark_92 rfl ?_
          obtain ⟨b13, hb13, h⟩ := h
          refine jx_getr jc_6 (j := 2) (by decide) rfl jwF_X10_322 dX10_mark_94 hk10 hb13 ?_
          refine jx_iload_n 3 dX10_mark_97 rfl rfl ?_
          refine jx_iload_n 4 dX10_mark_98 rfl rfl ?_
          obtain ⟨hk14, h⟩ := h
          obtain ⟨hi15, h⟩ := h
          refine jx_iast dX10_mark_99 hk14 hi15 ?_
          refine jx_iconst (v := 1) dX10_mark_100 (by decide) ?_
          exact jx_iret dX10_mark_101 rfl rfl (jle rfl) (jle rfl) ⟨_, rfl, h⟩
        replace h := h.2 c12
        refine jx_iload_n 4 dX10_mark_75 rfl rfl ?_
        refine jx_ldcw jwC_X10_325 dX10_mark_76 ?_
        refine jx_icmp_lt (tgt := 89) dX10_mark_79 (by decide) (fun c16 => ?_) (fun c16 => ?_)
        · replace h := h.1 c16
          refine jx_ldc jwC_X10_62 dX10_mark_89 ?_
          exact jx_iret dX10_mark_91 rfl rfl (jle rfl) (jle rfl) ⟨_, rfl, h⟩
        replace h := h.2 c16
        refine jx_iload_n 4 dX10_mark_82 rfl rfl ?_
        refine jx_ldcw jwC_X10_326 dX10_mark_83 ?_
        refine jx_icmp_le (tgt := 92) dX10_mark_86 (by decide) (fun c17 => ?_) (fun c17 => ?_)
        · replace h := h.1 c17
          refine jx_aload 0 dX10_mark_92 rfl ?_
          obtain ⟨b18, hb18, h⟩ := h
          refine jx_getr jc_6 (j := 2) (by decide) rfl jwF_X10_322 dX10_mark_94 hk10 hb18 ?_
          refine jx_iload_n 3 dX10_mark_97 rfl rfl ?_
          refine jx_iload_n 4 dX10_mark_98 rfl rfl ?_
          obtain ⟨hk19, h⟩ := h
          obtain ⟨hi20, h⟩ := h
          refine jx_iast dX10_mark_99 hk19 hi20 ?_
          refine jx_iconst (v := 1) dX10_mark_100 (by decide) ?_
          exact jx_iret dX10_mark_101 rfl rfl (jle rfl) (jle rfl) ⟨_, rfl, h⟩
        replace h := h.2 c17
        refine jx_ldc jwC_X10_62 dX10_mark_89 ?_
        exact jx_iret dX10_mark_91 rfl rfl (jle rfl) (jle rfl) ⟨_, rfl, h⟩
      replace h := h.1 c11
      refine jx_iload_n 4 dX10_mark_49 rfl rfl ?_
      refine jx_ldc jwC_X10_160 dX10_mark_50 ?_
      refine jx_icmp_ne (tgt := 58) dX10_mark_52 (by decide) (fun c21 => ?_) (fun c21 => ?_)
      · replace h := h.2 c21
        refine jx_aload 0 dX10_mark_58 rfl ?_
        obtain ⟨b22, hb22, h⟩ := h
        refine jx_getr jc_6 (j := 2) (by decide) rfl jwF_X10_322 dX10_mark_60 hk10 hb22 ?_
        refine jx_iload_n 3 dX10_mark_63 rfl rfl ?_
        refine jx_iload_n 4 dX10_mark_64 rfl rfl ?_
        refine jx_i2s dX10_mark_65 ?_
        obtain ⟨hk23, h⟩ := h
        obtain ⟨hi24, h⟩ := h
        refine jx_iast dX10_mark_66 hk23 hi24 ?_
        refine jx_iconst (v := 1) dX10_mark_67 (by decide) ?_
        exact jx_iret dX10_mark_68 rfl rfl (jle rfl) (jle rfl) ⟨_, rfl, h⟩
      replace h := h.1 c21
      refine jx_ldc jwC_X10_133 dX10_mark_55 ?_
      exact jx_iret dX10_mark_57 rfl rfl (jle rfl) (jle rfl) ⟨_, rfl, h⟩
    replace h := h.1 c9
    refine jx_ldcw jwC_X10_321 dX10_mark_37 ?_
    exact jx_iret dX10_mark_40 rfl rfl (jle rfl) (jle rfl) ⟨_, rfl, h⟩
  replace h := h.1 c6
  refine jx_ldcw jwC_X10_264 dX10_mark_24 ?_
  exact jx_iret dX10_mark_27 rfl rfl (jle rfl) (jle rfl) ⟨_, rfl, h⟩
/-- X10_pour at its loop's head 30 -/
abbrev L_X10_pour_30 (E : jEnv) (d : Nat) (Q : Int32 → jM → Prop) (a0 : Nat) (a2 : Nat) (x3 : Int32) (x4 : Int32) (S : jM) : Prop := jX E mX10_pour (jRm (d + 1) 0 0) (jZm E (fun r S' => ∃ v : Int32, r = some (.int v) ∧ Q v S') 0 0) 30 [(0, .ref a0), (2, .ref a2), (3, .int x3), (4, .int x4)] [] S 0 0
set_option maxRecDepth 100000 in
set_option maxHeartbeats 4000000 in
theorem T_X10_pour {E : jEnv} {d : Nat} {Q : Int32 → jM → Prop} {a0 : Nat} {x1 : Int32} {S : jM} (h : jk S a0 = 10 ∧ jFr E mX10_findSheet d 0 0 [.ref a0, .int x1] S (fun o3 S2 => (o3 = none → Q (-1000000001) S2) ∧ (∀ b4, o3 = some b4 → jk S2 b4 = 6 ∧ ((ji S2 b4 0) = (-1) → Q (-1000000011) S2) ∧ (¬ (ji S2 b4 0) = (-1) → L_X10_pour_30 E d Q a0 b4 0 0 S2)))) : jFi E mX10_pour (d + 1) 0 0 [.ref a0, .int x1] S Q := by
  refine jF_of (by decide) (jle rfl) ?_
  refine jx_lv (lv1 := [(0, .ref a0), (1, .int x1)]) [0, 1] rfl ?_
  refine jx_aload_n 0 dX10_pour_0 rfl rfl ?_
  refine jx_iload_n 1 dX10_pour_1 rfl rfl ?_
  obtain ⟨hk1, h⟩ := h
  refine jx_callVr (M' := mX10_findSheet) (As := [.int x1]) jo_X10_findSheet jc_10 rfl jwM_X10_257 jwN_X10_findSheet jwX_X10_findSheet dX10_pour_2 (jRok_m _ _ _) rfl (jle rfl) ⟨jle rfl, jle rfl⟩ hk1 h (fun o3 S2 h => ?_)
  rcases o3 with _ | b4
  · replace h := h.1 rfl
    refine jx_astore_nN (lv1 := [(2, .null), (0, .ref a0), (1, .int x1)]) dX10_pour_5 rfl (by decide) rfl ?_
    refine jx_aload_nN 0 dX10_pour_6 rfl rfl ?_
    refine jx_ifnonnullN dX10_pour_7 ?_
    refine jx_ldc jwC_X10_62 dX10_pour_10 ?_
    exact jx_iret dX10_pour_12 rfl rfl (jle rfl) (jle rfl) ⟨_, rfl, h⟩
  replace h := h.2 b4 rfl
  refine jx_astore_n (lv1 := [(2, .ref b4), (0, .ref a0), (1, .int x1)]) dX10_pour_5 rfl (by decide) rfl ?_
  refine jx_aload_n 0 dX10_pour_6 rfl rfl ?_
  refine jx_ifnonnull (tgt := 13) dX10_pour_7 (by decide) ?_
  refine jx_aload_n 0 dX10_pour_13 rfl rfl ?_
  obtain ⟨hk5, h⟩ := h
  refine jx_geti jc_6 (j := 0) (by decide) rfl jwF_X10_261 dX10_pour_14 hk5 ?_
  refine jx_iconst (v := (-1)) dX10_pour_17 (by decide) ?_
  refine jx_icmp_ne (tgt := 25) dX10_pour_18 (by decide) (fun c6 => ?_) (fun c6 => ?_)
  · replace h := h.2 c6
    refine jx_iconst (v := 0) dX10_pour_25 (by decide) ?_
    refine jx_istore_n (lv1 := [(3, .int 0), (2, .ref b4), (0, .ref a0), (1, .int x1)]) dX10_pour_26 rfl (by decide) rfl ?_
    refine jx_iconst (v := 0) dX10_pour_27 (by decide) ?_
    refine jx_istore (lv1 := [(4, .int 0), (3, .int 0), (2, .ref b4), (0, .ref a0), (1, .int x1)]) dX10_pour_28 (by decide) rfl ?_
    exact jx_lv [3, 2, 1, 0] rfl h
  replace h := h.1 c6
  refine jx_ldcw jwC_X10_264 dX10_pour_21 ?_
  exact jx_iret dX10_pour_24 rfl rfl (jle rfl) (jle rfl) ⟨_, rfl, h⟩
set_option maxRecDepth 100000 in
set_option maxHeartbeats 4000000 in
theorem T_X10_pour_30 {E : jEnv} {d : Nat} {Q : Int32 → jM → Prop} {a0 : Nat} {a2 : Nat} {x3 : Int32} {x4 : Int32} {S : jM} (h : jk S a2 = 6 ∧ ((ji S a2 1) ≤ x4 → Q x3 S) ∧ (¬ (ji S a2 1) ≤ x4 → jk S a0 = 10 ∧ ∃ b10, jr S a0 0 = some b10 ∧ (jk S b10 = 3 ∧ ∃ b12, jr S b10 0 = some b12 ∧ (jk S b12 = 0 ∧ jFr E mX0_find d 0 0 [.ref b12, .int x4] S (fun o15 S14 => (o15 = none → L_X10_pour_30 E d Q a0 a2 x3 (x4 + 1) S14) ∧ (∀ b16, o15 = some b16 → jk S14 a2 = 6 ∧ jFi E mX6_isNumber d 0 0 [.ref a2, .int x4] S14 (fun r19 S18 => (r19 = 0 → L_X10_pour_30 E d Q a0 a2 x3 (x4 + 1) S18) ∧ (¬ r19 = 0 → jk S18 a2 = 6 ∧ ∃ b22, jr S18 a2 2 = some b22 ∧ (jk S18 b22 = 12 ∧ vp_in x4 (jl S18 b22) ∧ (jk S18 b16 = 2 ∧ ((jmax 0 (jmin 99 (ji S18 b22 (Int32.toNatClampNeg x4)))) = (ji S18 b16 4) → L_X10_pour_30 E d Q a0 a2 (x3 + 0) (x4 + 1) (jput S18 b16 4 (jmax 0 (jmin 99 (ji S18 b22 (Int32.toNatClampNeg x4)))))) ∧ (¬ (jmax 0 (jmin 99 (ji S18 b22 (Int32.toNatClampNeg x4)))) = (ji S18 b16 4) → L_X10_pour_30 E d Q a0 a2 (x3 + 1) (x4 + 1) (jput S18 b16 4 (jmax 0 (jmin 99 (ji S18 b22 (Int32.toNatClampNeg x4)))))))))))))))) : L_X10_pour_30 E d Q a0 a2 x3 x4 S := by
  show jX E mX10_pour (jRm (d + 1) 0 0) (jZm E (fun r S' => ∃ v : Int32, r = some (.int v) ∧ Q v S') 0 0) 30 [(0, .ref a0), (2, .ref a2), (3, .int x3), (4, .int x4)] [] S 0 0
  refine jx_iload 3 dX10_pour_30 rfl ?_
  refine jx_aload_n 1 dX10_pour_32 rfl rfl ?_
  obtain ⟨hk7, h⟩ := h
  refine jx_geti jc_6 (j := 1) (by decide) rfl jwF_X10_327 dX10_pour_33 hk7 ?_
  refine jx_icmp_ge (tgt := 116) dX10_pour_36 (by decide) (fun c8 => ?_) (fun c8 => ?_)
  · replace h := h.1 c8
    refine jx_iload_n 2 dX10_pour_116 rfl rfl ?_
    exact jx_iret dX10_pour_117 rfl rfl (jle rfl) (jle rfl) ⟨_, rfl, h⟩
  replace h := h.2 c8
  refine jx_aload_n 0 dX10_pour_39 rfl rfl ?_
  obtain ⟨hk9, h⟩ := h
  obtain ⟨b10, hb10, h⟩ := h
  refine jx_getr jc_10 (j := 0) (by decide) rfl jwF_X10_12 dX10_pour_40 hk9 hb10 ?_
  obtain ⟨hk11, h⟩ := h
  obtain ⟨b12, hb12, h⟩ := h
  refine jx_getr jc_3 (j := 0) (by decide) rfl jwF_X10_63 dX10_pour_43 hk11 hb12 ?_
  refine jx_iload 3 dX10_pour_46 rfl ?_
  obtain ⟨hk13, h⟩ := h
  refine jx_callVr (M' := mX0_find) (As := [.int x4]) jo_X0_find jc_0 rfl jwM_X10_75 jwN_X0_find jwX_X0_find dX10_pour_48 (jRok_m _ _ _) rfl (jle rfl) ⟨jle rfl, jle rfl⟩ hk13 h (fun o15 S14 h => ?_)
  rcases o15 with _ | b16
  · replace h := h.1 rfl
    refine jx_astoreN (lv1 := [(5, .null), (0, .ref a0), (2, .ref a2), (3, .int x3), (4, .int x4)]) dX10_pour_51 (by decide) rfl ?_
    refine jx_aloadN 0 dX10_pour_53 rfl ?_
    refine jx_ifnullN (tgt := 110) dX10_pour_55 (by decide) ?_
    refine jx_iinc 4 (v := (x4 + 1)) (lv1 := [(4, .int (x4 + 1)), (5, .null), (0, .ref a0), (2, .ref a2), (3, .int x3)]) dX10_pour_110 rfl rfl (by decide) rfl ?_
    refine jx_goto (tgt := 30) dX10_pour_113 (by decide) ?_
    exact jx_lv [2, 3, 4, 0] rfl h
  replace h := h.2 b16 rfl
  refine jx_astore (lv1 := [(5, .ref b16), (0, .ref a0), (2, .ref a2), (3, .int x3), (4, .int x4)]) dX10_pour_51 (by decide) rfl ?_
  refine jx_aload 0 dX10_pour_53 rfl ?_
  refine jx_ifnull dX10_pour_55 ?_
  refine jx_aload_n 2 dX10_pour_58 rfl rfl ?_
  refine jx_iload 4 dX10_pour_59 rfl ?_
  obtain ⟨hk17, h⟩ := h
  refine jx_callVi (M' := mX6_isNumber) (As := [.int x4]) jo_X6_isNumber jc_6 rfl jwM_X10_328 jwN_X6_isNumber jwX_X6_isNumber dX10_pour_61 (jRok_m _ _ _) rfl (jle rfl) ⟨jle rfl, jle rfl⟩ hk17 h (fun r19 S18 h => ?_)
  refine jx_if_eq (tgt := 110) dX10_pour_64 (by decide) (fun c20 => ?_) (fun c20 => ?_)
  · replace h := h.1 c20
    refine jx_iinc 4 (v := (x4 + 1)) (lv1 := [(4, .int (x4 + 1)), (5, .ref b16), (0, .ref a0), (2, .ref a2), (3, .int x3)]) dX10_pour_110 rfl rfl (by decide) rfl ?_
    refine jx_goto (tgt := 30) dX10_pour_113 (by decide) ?_
    exact jx_lv [2, 3, 4, 0] rfl h
  replace h := h.2 c20
  refine jx_iconst (v := 0) dX10_pour_67 (by decide) ?_
  refine jx_bipush (v := 99) dX10_pour_68 (by decide) ?_
  refine jx_aload_n 2 dX10_pour_70 rfl rfl ?_
  obtain ⟨hk21, h⟩ := h
  obtain ⟨b22, hb22, h⟩ := h
  refine jx_getr jc_6 (j := 2) (by decide) rfl jwF_X10_322 dX10_pour_71 hk21 hb22 ?_
  refine jx_iload 4 dX10_pour_74 rfl ?_
  obtain ⟨hk23, h⟩ := h
  obtain ⟨hi24, h⟩ := h
  refine jx_iald dX10_pour_76 hk23 hi24 ?_
  refine jx_min jwM_X10_161 jwS_min jwZ_J9 jwO_min dX10_pour_77 (jRok_m _ _ _) (jle rfl) ⟨Nat.zero_le _, Nat.zero_le _⟩ ?_
  refine jx_max jwM_X10_331 jwS_max jwZ_J9 jwO_max dX10_pour_80 (jRok_m _ _ _) (jle rfl) ⟨Nat.zero_le _, Nat.zero_le _⟩ ?_
  refine jx_istore (lv1 := [(6, .int (jmax 0 (jmin 99 (ji S18 b22 (Int32.toNatClampNeg x4))))), (5, .ref b16), (0, .ref a0), (2, .ref a2), (3, .int x3), (4, .int x4)]) dX10_pour_83 (by decide) rfl ?_
  refine jx_iload_n 4 dX10_pour_85 rfl rfl ?_
  refine jx_iload 0 dX10_pour_86 rfl ?_
  refine jx_aload 1 dX10_pour_88 rfl ?_
  obtain ⟨hk25, h⟩ := h
  refine jx_geti jc_2 (j := 4) (by decide) rfl jwF_X10_97 dX10_pour_90 hk25 ?_
  refine jx_icmp_ne (tgt := 100) dX10_pour_93 (by decide) (fun c26 => ?_) (fun c26 => ?_)
  · replace h := h.2 c26
    refine jx_iconst (v := 1) dX10_pour_100 (by decide) ?_
    refine jx_iadd dX10_pour_101 ?_
    refine jx_istore_n (lv1 := [(3, .int (x3 + 1)), (6, .int (jmax 0 (jmin 99 (ji S18 b22 (Int32.toNatClampNeg x4))))), (5, .ref b16), (0, .ref a0), (2, .ref a2), (4, .int x4)]) dX10_pour_102 rfl (by decide) rfl ?_
    refine jx_aload 2 dX10_pour_103 rfl ?_
    refine jx_iload 1 dX10_pour_105 rfl ?_
    refine jx_puti jc_2 (j := 4) (by decide) rfl jwF_X10_97 rfl rfl rfl dX10_pour_107 hk25 ?_
    refine jx_iinc 5 (v := (x4 + 1)) (lv1 := [(4, .int (x4 + 1)), (3, .int (x3 + 1)), (6, .int (jmax 0 (jmin 99 (ji S18 b22 (Int32.toNatClampNeg x4))))), (5, .ref b16), (0, .ref a0), (2, .ref a2)]) dX10_pour_110 rfl rfl (by decide) rfl ?_
    refine jx_goto (tgt := 30) dX10_pour_113 (by decide) ?_
    exact jx_lv [4, 5, 1, 0] rfl h
  replace h := h.1 c26
  refine jx_iconst (v := 0) dX10_pour_96 (by decide) ?_
  refine jx_goto (tgt := 101) dX10_pour_97 (by decide) ?_
  refine jx_iadd dX10_pour_101 ?_
  refine jx_istore_n (lv1 := [(3, .int (x3 + 0)), (6, .int (jmax 0 (jmin 99 (ji S18 b22 (Int32.toNatClampNeg x4))))), (5, .ref b16), (0, .ref a0), (2, .ref a2), (4, .int x4)]) dX10_pour_102 rfl (by decide) rfl ?_
  refine jx_aload 2 dX10_pour_103 rfl ?_
  refine jx_iload 1 dX10_pour_105 rfl ?_
  refine jx_puti jc_2 (j := 4) (by decide) rfl jwF_X10_97 rfl rfl rfl dX10_pour_107 hk25 ?_
  refine jx_iinc 5 (v := (x4 + 1)) (lv1 := [(4, .int (x4 + 1)), (3, .int (x3 + 0)), (6, .int (jmax 0 (jmin 99 (ji S18 b22 (Int32.toNatClampNeg x4))))), (5, .ref b16), (0, .ref a0), (2, .ref a2)]) dX10_pour_110 rfl rfl (by decide) rfl ?_
  refine jx_goto (tgt := 30) dX10_pour_113 (by decide) ?_
  exact jx_lv [4, 5, 1, 0] rfl h
/-- X10_reads at its loop's head 27 -/
abbrev L_X10_reads_27 (E : jEnv) (d : Nat) (Q : Int32 → jM → Prop) (a0 : Nat) (a2 : Nat) (x3 : Int32) (S : jM) : Prop := jX E mX10_reads (jRm (d + 1) 0 0) (jZm E (fun r S' => ∃ v : Int32, r = some (.int v) ∧ Q v S') 0 0) 27 [(0, .ref a0), (2, .ref a2), (3, .int x3)] [] S 0 0
set_option maxRecDepth 100000 in
set_option maxHeartbeats 4000000 in
theorem T_X10_reads {E : jEnv} {d : Nat} {Q : Int32 → jM → Prop} {a0 : Nat} {x1 : Int32} {S : jM} (h : jk S a0 = 10 ∧ jFr E mX10_findSheet d 0 0 [.ref a0, .int x1] S (fun o3 S2 => (o3 = none → Q (-1000000001) S2) ∧ (∀ b4, o3 = some b4 → jk S2 b4 = 6 ∧ ((ji S2 b4 0) = (-1) → Q (-1000000011) S2) ∧ (¬ (ji S2 b4 0) = (-1) → L_X10_reads_27 E d Q a0 b4 0 S2)))) : jFi E mX10_reads (d + 1) 0 0 [.ref a0, .int x1] S Q := by
  refine jF_of (by decide) (jle rfl) ?_
  refine jx_lv (lv1 := [(0, .ref a0), (1, .int x1)]) [0, 1] rfl ?_
  refine jx_aload_n 0 dX10_reads_0 rfl rfl ?_
  refine jx_iload_n 1 dX10_reads_1 rfl rfl ?_
  obtain ⟨hk1, h⟩ := h
  refine jx_callVr (M' := mX10_findSheet) (As := [.int x1]) jo_X10_findSheet jc_10 rfl jwM_X10_257 jwN_X10_findSheet jwX_X10_findSheet dX10_reads_2 (jRok_m _ _ _) rfl (jle rfl) ⟨jle rfl, jle rfl⟩ hk1 h (fun o3 S2 h => ?_)
  rcases o3 with _ | b4
  · replace h := h.1 rfl
    refine jx_astore_nN (lv1 := [(2, .null), (0, .ref a0), (1, .int x1)]) dX10_reads_5 rfl (by decide) rfl ?_
    refine jx_aload_nN 0 dX10_reads_6 rfl rfl ?_
    refine jx_ifnonnullN dX10_reads_7 ?_
    refine jx_ldc jwC_X10_62 dX10_reads_10 ?_
    exact jx_iret dX10_reads_12 rfl rfl (jle rfl) (jle rfl) ⟨_, rfl, h⟩
  replace h := h.2 b4 rfl
  refine jx_astore_n (lv1 := [(2, .ref b4), (0, .ref a0), (1, .int x1)]) dX10_reads_5 rfl (by decide) rfl ?_
  refine jx_aload_n 0 dX10_reads_6 rfl rfl ?_
  refine jx_ifnonnull (tgt := 13) dX10_reads_7 (by decide) ?_
  refine jx_aload_n 0 dX10_reads_13 rfl rfl ?_
  obtain ⟨hk5, h⟩ := h
  refine jx_geti jc_6 (j := 0) (by decide) rfl jwF_X10_261 dX10_reads_14 hk5 ?_
  refine jx_iconst (v := (-1)) dX10_reads_17 (by decide) ?_
  refine jx_icmp_ne (tgt := 25) dX10_reads_18 (by decide) (fun c6 => ?_) (fun c6 => ?_)
  · replace h := h.2 c6
    refine jx_iconst (v := 0) dX10_reads_25 (by decide) ?_
    refine jx_istore_n (lv1 := [(3, .int 0), (2, .ref b4), (0, .ref a0), (1, .int x1)]) dX10_reads_26 rfl (by decide) rfl ?_
    exact jx_lv [2, 1, 0] rfl h
  replace h := h.1 c6
  refine jx_ldcw jwC_X10_264 dX10_reads_21 ?_
  exact jx_iret dX10_reads_24 rfl rfl (jle rfl) (jle rfl) ⟨_, rfl, h⟩
set_option maxRecDepth 100000 in
set_option maxHeartbeats 4000000 in
theorem T_X10_reads_27 {E : jEnv} {d : Nat} {Q : Int32 → jM → Prop} {a0 : Nat} {a2 : Nat} {x3 : Int32} {S : jM} (h : jk S a2 = 6 ∧ ((ji S a2 1) ≤ x3 → Q (-1000000005) S) ∧ (¬ (ji S a2 1) ≤ x3 → jk S a0 = 10 ∧ ∃ b10, jr S a0 0 = some b10 ∧ (jk S b10 = 3 ∧ ∃ b12, jr S b10 0 = some b12 ∧ (jk S b12 = 0 ∧ jFr E mX0_find d 0 0 [.ref b12, .int x3] S (fun o15 S14 => (o15 = none → jk S14 a2 = 6 ∧ jFi E mX6_isNumber d 0 0 [.ref a2, .int x3] S14 (fun r19 S18 => (r19 = 0 → L_X10_reads_27 E d Q a0 a2 (x3 + 1) S18) ∧ (¬ r19 = 0 → Q x3 S18))) ∧ (∀ b16, o15 = some b16 → jk S14 a2 = 6 ∧ jFi E mX6_isNumber d 0 0 [.ref a2, .int x3] S14 (fun r23 S22 => (r23 = 0 → L_X10_reads_27 E d Q a0 a2 (x3 + 1) S22) ∧ (¬ r23 = 0 → jk S22 a2 = 6 ∧ ∃ b26, jr S22 a2 2 = some b26 ∧ (jk S22 b26 = 12 ∧ vp_in x3 (jl S22 b26) ∧ (jk S22 b16 = 2 ∧ ((ji S22 b26 (Int32.toNatClampNeg x3)) = (ji S22 b16 5) → L_X10_reads_27 E d Q a0 a2 (x3 + 1) S22) ∧ (¬ (ji S22 b26 (Int32.toNatClampNeg x3)) = (ji S22 b16 5) → Q x3 S22))))))))))) : L_X10_reads_27 E d Q a0 a2 x3 S := by
  show jX E mX10_reads (jRm (d + 1) 0 0) (jZm E (fun r S' => ∃ v : Int32, r = some (.int v) ∧ Q v S') 0 0) 27 [(0, .ref a0), (2, .ref a2), (3, .int x3)] [] S 0 0
  refine jx_iload_n 2 dX10_reads_27 rfl rfl ?_
  refine jx_aload_n 1 dX10_reads_28 rfl rfl ?_
  obtain ⟨hk7, h⟩ := h
  refine jx_geti jc_6 (j := 1) (by decide) rfl jwF_X10_327 dX10_reads_29 hk7 ?_
  refine jx_icmp_ge (tgt := 83) dX10_reads_32 (by decide) (fun c8 => ?_) (fun c8 => ?_)
  · replace h := h.1 c8
    refine jx_ldc jwC_X10_160 dX10_reads_83 ?_
    exact jx_iret dX10_reads_85 rfl rfl (jle rfl) (jle rfl) ⟨_, rfl, h⟩
  replace h := h.2 c8
  refine jx_aload_n 0 dX10_reads_35 rfl rfl ?_
  obtain ⟨hk9, h⟩ := h
  obtain ⟨b10, hb10, h⟩ := h
  refine jx_getr jc_10 (j := 0) (by decide) rfl jwF_X10_12 dX10_reads_36 hk9 hb10 ?_
  obtain ⟨hk11, h⟩ := h
  obtain ⟨b12, hb12, h⟩ := h
  refine jx_getr jc_3 (j := 0) (by decide) rfl jwF_X10_63 dX10_reads_39 hk11 hb12 ?_
  refine jx_iload_n 2 dX10_reads_42 rfl rfl ?_
  obtain ⟨hk13, h⟩ := h
  refine jx_callVr (M' := mX0_find) (As := [.int x3]) jo_X0_find jc_0 rfl jwM_X10_75 jwN_X0_find jwX_X0_find dX10_reads_43 (jRok_m _ _ _) rfl (jle rfl) ⟨jle rfl, jle rfl⟩ hk13 h (fun o15 S14 h => ?_)
  rcases o15 with _ | b16
  · replace h := h.1 rfl
    refine jx_astoreN (lv1 := [(4, .null), (0, .ref a0), (2, .ref a2), (3, .int x3)]) dX10_reads_46 (by decide) rfl ?_
    refine jx_aload_n 2 dX10_reads_48 rfl rfl ?_
    refine jx_iload_n 3 dX10_reads_49 rfl rfl ?_
    obtain ⟨hk17, h⟩ := h
    refine jx_callVi (M' := mX6_isNumber) (As := [.int x3]) jo_X6_isNumber jc_6 rfl jwM_X10_328 jwN_X6_isNumber jwX_X6_isNumber dX10_reads_50 (jRok_m _ _ _) rfl (jle rfl) ⟨jle rfl, jle rfl⟩ hk17 h (fun r19 S18 h => ?_)
    refine jx_if_eq (tgt := 77) dX10_reads_53 (by decide) (fun c20 => ?_) (fun c20 => ?_)
    · replace h := h.1 c20
      refine jx_iinc 3 (v := (x3 + 1)) (lv1 := [(3, .int (x3 + 1)), (4, .null), (0, .ref a0), (2, .ref a2)]) dX10_reads_77 rfl rfl (by decide) rfl ?_
      refine jx_goto (tgt := 27) dX10_reads_80 (by decide) ?_
      exact jx_lv [2, 3, 0] rfl h
    replace h := h.2 c20
    refine jx_aloadN 0 dX10_reads_56 rfl ?_
    refine jx_ifnullN (tgt := 75) dX10_reads_58 (by decide) ?_
    refine jx_iload_n 3 dX10_reads_75 rfl rfl ?_
    exact jx_iret dX10_reads_76 rfl rfl (jle rfl) (jle rfl) ⟨_, rfl, h⟩
  replace h := h.2 b16 rfl
  refine jx_astore (lv1 := [(4, .ref b16), (0, .ref a0), (2, .ref a2), (3, .int x3)]) dX10_reads_46 (by decide) rfl ?_
  refine jx_aload_n 2 dX10_reads_48 rfl rfl ?_
  refine jx_iload_n 3 dX10_reads_49 rfl rfl ?_
  obtain ⟨hk21, h⟩ := h
  refine jx_callVi (M' := mX6_isNumber) (As := [.int x3]) jo_X6_isNumber jc_6 rfl jwM_X10_328 jwN_X6_isNumber jwX_X6_isNumber dX10_reads_50 (jRok_m _ _ _) rfl (jle rfl) ⟨jle rfl, jle rfl⟩ hk21 h (fun r23 S22 h => ?_)
  refine jx_if_eq (tgt := 77) dX10_reads_53 (by decide) (fun c24 => ?_) (fun c24 => ?_)
  · replace h := h.1 c24
    refine jx_iinc 3 (v := (x3 + 1)) (lv1 := [(3, .int (x3 + 1)), (4, .ref b16), (0, .ref a0), (2, .ref a2)]) dX10_reads_77 rfl rfl (by decide) rfl ?_
    refine jx_goto (tgt := 27) dX10_reads_80 (by decide) ?_
    exact jx_lv [2, 3, 0] rfl h
  replace h := h.2 c24
  refine jx_aload 0 dX10_reads_56 rfl ?_
  refine jx_ifnull dX10_reads_58 ?_
  refine jx_aload_n 2 dX10_reads_61 rfl rfl ?_
  obtain ⟨hk25, h⟩ := h
  obtain ⟨b26, hb26, h⟩ := h
  refine jx_getr jc_6 (j := 2) (by decide) rfl jwF_X10_322 dX10_reads_62 hk25 hb26 ?_
  refine jx_iload_n 3 dX10_reads_65 rfl rfl ?_
  obtain ⟨hk27, h⟩ := h
  obtain ⟨hi28, h⟩ := h
  refine jx_iald dX10_reads_66 hk27 hi28 ?_
  refine jx_aload 0 dX10_reads_67 rfl ?_
  obtain ⟨hk29, h⟩ := h
  refine jx_geti jc_2 (j := 5) (by decide) rfl jwF_X10_100 dX10_reads_69 hk29 ?_
  refine jx_icmp_eq (tgt := 77) dX10_reads_72 (by decide) (fun c30 => ?_) (fun c30 => ?_)
  · replace h := h.1 c30
    refine jx_iinc 3 (v := (x3 + 1)) (lv1 := [(3, .int (x3 + 1)), (4, .ref b16), (0, .ref a0), (2, .ref a2)]) dX10_reads_77 rfl rfl (by decide) rfl ?_
    refine jx_goto (tgt := 27) dX10_reads_80 (by decide) ?_
    exact jx_lv [2, 3, 0] rfl h
  replace h := h.2 c30
  refine jx_iload_n 3 dX10_reads_75 rfl rfl ?_
  exact jx_iret dX10_reads_76 rfl rfl (jle rfl) (jle rfl) ⟨_, rfl, h⟩
set_option maxRecDepth 100000 in
set_option maxHeartbeats 4000000 in
theorem T_X10_copy {E : jEnv} {d : Nat} {Q : Int32 → jM → Prop} {a0 : Nat} {x1 : Int32} {x2 : Int32} {x3 : Int32} {x4 : Int32} {x5 : Int32} {S : jM} (h : jk S a0 = 10 ∧ jFr E mX10_findSheet d 0 0 [.ref a0, .int x1] S (fun o3 S2 => (o3 = none → jk S2 a0 = 10 ∧ jFr E mX10_findSheet d 0 0 [.ref a0, .int x3] S2 (fun o7 S6 => (o7 = none → Q (-1000000001) S6) ∧ (∀ b8, o7 = some b8 → Q (-1000000001) S6))) ∧ (∀ b4, o3 = some b4 → jk S2 a0 = 10 ∧ jFr E mX10_findSheet d 0 0 [.ref a0, .int x3] S2 (fun o11 S10 => (o11 = none → Q (-1000000001) S10) ∧ (∀ b12, o11 = some b12 → jk S10 b4 = 6 ∧ ((ji S10 b4 0) = (-1) → Q (-1000000011) S10) ∧ (¬ (ji S10 b4 0) = (-1) → jk S10 b12 = 6 ∧ ((ji S10 b12 0) = (-1) → Q (-1000000011) S10) ∧ (¬ (ji S10 b12 0) = (-1) → ((ji S10 b4 0) = (ji S10 b12 0) → jFi E mX6_hasPlaces d 0 0 [.ref b4, .int x2, .int x5] S10 (fun r19 S18 => (r19 = 0 → Q (-1000000013) S18) ∧ (¬ r19 = 0 → jk S18 b12 = 6 ∧ jFi E mX6_hasPlaces d 0 0 [.ref b12, .int x4, .int x5] S18 (fun r23 S22 => (r23 = 0 → Q (-1000000013) S22) ∧ (¬ r23 = 0 → jk S22 b4 = 6 ∧ ∃ b26, jr S22 b4 2 = some b26 ∧ (jk S22 b12 = 6 ∧ ∃ b28, jr S22 b12 2 = some b28 ∧ (jk S22 b26 = 12 ∧ jk S22 b28 = 12 ∧ (¬ x2 < 0 ∧ ¬ x4 < 0 ∧ ¬ x5 < 0 ∧ (Int32.toNatClampNeg x2) + (Int32.toNatClampNeg x5) ≤ jl S22 b26 ∧ (Int32.toNatClampNeg x4) + (Int32.toNatClampNeg x5) ≤ jl S22 b28) ∧ (Q x5 (jrow S22 b28 (va_cpy (ji S22 b26) (ji S22 b28) (Int32.toNatClampNeg x2) (Int32.toNatClampNeg x4) (Int32.toNatClampNeg x5))))))))))) ∧ (¬ (ji S10 b4 0) = (ji S10 b12 0) → Q (-1000000012) S10)))))))) : jFi E mX10_copy (d + 1) 0 0 [.ref a0, .int x1, .int x2, .int x3, .int x4, .int x5] S Q := by
  refine jF_of (by decide) (jle rfl) ?_
  refine jx_lv (lv1 := [(0, .ref a0), (1, .int x1), (2, .int x2), (3, .int x3), (4, .int x4), (5, .int x5)]) [0, 1, 2, 3, 4, 5] rfl ?_
  refine jx_aload_n 0 dX10_copy_0 rfl rfl ?_
  refine jx_iload_n 1 dX10_copy_1 rfl rfl ?_
  obtain ⟨hk1, h⟩ := h
  refine jx_callVr (M' := mX10_findSheet) (As := [.int x1]) jo_X10_findSheet jc_10 rfl jwM_X10_257 jwN_X10_findSheet jwX_X10_findSheet dX10_copy_2 (jRok_m _ _ _) rfl (jle rfl) ⟨jle rfl, jle rfl⟩ hk1 h (fun o3 S2 h => ?_)
  rcases o3 with _ | b4
  · replace h := h.1 rfl
    refine jx_astoreN (lv1 := [(6, .null), (0, .ref a0), (1, .int x1), (2, .int x2), (3, .int x3), (4, .int x4), (5, .int x5)]) dX10_copy_5 (by decide) rfl ?_
    refine jx_aload_n 1 dX10_copy_7 rfl rfl ?_
    refine jx_iload_n 4 dX10_copy_8 rfl rfl ?_
    obtain ⟨hk5, h⟩ := h
    refine jx_callVr (M' := mX10_findSheet) (As := [.int x3]) jo_X10_findSheet jc_10 rfl jwM_X10_257 jwN_X10_findSheet jwX_X10_findSheet dX10_copy_9 (jRok_m _ _ _) rfl (jle rfl) ⟨jle rfl, jle rfl⟩ hk5 h (fun o7 S6 h => ?_)
    rcases o7 with _ | b8
    · replace h := h.1 rfl
      refine jx_astoreN (lv1 := [(7, .null), (6, .null), (0, .ref a0), (1, .int x1), (2, .int x2), (3, .int x3), (4, .int x4), (5, .int x5)]) dX10_copy_12 (by decide) rfl ?_
      refine jx_aloadN 1 dX10_copy_14 rfl ?_
      refine jx_ifnullN (tgt := 24) dX10_copy_16 (by decide) ?_
      refine jx_ldc jwC_X10_62 dX10_copy_24 ?_
      exact jx_iret dX10_copy_26 rfl rfl (jle rfl) (jle rfl) ⟨_, rfl, h⟩
    replace h := h.2 b8 rfl
    refine jx_astore (lv1 := [(7, .ref b8), (6, .null), (0, .ref a0), (1, .int x1), (2, .int x2), (3, .int x3), (4, .int x4), (5, .int x5)]) dX10_copy_12 (by decide) rfl ?_
    refine jx_aloadN 1 dX10_copy_14 rfl ?_
    refine jx_ifnullN (tgt := 24) dX10_copy_16 (by decide) ?_
    refine jx_ldc jwC_X10_62 dX10_copy_24 ?_
    exact jx_iret dX10_copy_26 rfl rfl (jle rfl) (jle rfl) ⟨_, rfl, h⟩
  replace h := h.2 b4 rfl
  refine jx_astore (lv1 := [(6, .ref b4), (0, .ref a0), (1, .int x1), (2, .int x2), (3, .int x3), (4, .int x4), (5, .int x5)]) dX10_copy_5 (by decide) rfl ?_
  refine jx_aload_n 1 dX10_copy_7 rfl rfl ?_
  refine jx_iload_n 4 dX10_copy_8 rfl rfl ?_
  obtain ⟨hk9, h⟩ := h
  refine jx_callVr (M' := mX10_findSheet) (As := [.int x3]) jo_X10_findSheet jc_10 rfl jwM_X10_257 jwN_X10_findSheet jwX_X10_findSheet dX10_copy_9 (jRok_m _ _ _) rfl (jle rfl) ⟨jle rfl, jle rfl⟩ hk9 h (fun o11 S10 h => ?_)
  rcases o11 with _ | b12
  · replace h := h.1 rfl
    refine jx_astoreN (lv1 := [(7, .null), (6, .ref b4), (0, .ref a0), (1, .int x1), (2, .int x2), (3, .int x3), (4, .int x4), (5, .int x5)]) dX10_copy_12 (by decide) rfl ?_
    refine jx_aload 1 dX10_copy_14 rfl ?_
    refine jx_ifnull dX10_copy_16 ?_
    refine jx_aloadN 0 dX10_copy_19 rfl ?_
    refine jx_ifnonnullN dX10_copy_21 ?_
    refine jx_ldc jwC_X10_62 dX10_copy_24 ?_
    exact jx_iret dX10_copy_26 rfl rfl (jle rfl) (jle rfl) ⟨_, rfl, h⟩
  replace h := h.2 b12 rfl
  refine jx_astore (lv1 := [(7, .ref b12), (6, .ref b4), (0, .ref a0), (1, .int x1), (2, .int x2), (3, .int x3), (4, .int x4), (5, .int x5)]) dX10_copy_12 (by decide) rfl ?_
  refine jx_aload 1 dX10_copy_14 rfl ?_
  refine jx_ifnull dX10_copy_16 ?_
  refine jx_aload 0 dX10_copy_19 rfl ?_
  refine jx_ifnonnull (tgt := 27) dX10_copy_21 (by decide) ?_
  refine jx_aload 1 dX10_copy_27 rfl ?_
  obtain ⟨hk13, h⟩ := h
  refine jx_geti jc_6 (j := 0) (by decide) rfl jwF_X10_261 dX10_copy_29 hk13 ?_
  refine jx_iconst (v := (-1)) dX10_copy_32 (by decide) ?_
  refine jx_icmp_eq (tgt := 45) dX10_copy_33 (by decide) (fun c14 => ?_) (fun c14 => ?_)
  · replace h := h.1 c14
    refine jx_ldcw jwC_X10_264 dX10_copy_45 ?_
    exact jx_iret dX10_copy_48 rfl rfl (jle rfl) (jle rfl) ⟨_, rfl, h⟩
  replace h := h.2 c14
  refine jx_aload 0 dX10_copy_36 rfl ?_
  obtain ⟨hk15, h⟩ := h
  refine jx_geti jc_6 (j := 0) (by decide) rfl jwF_X10_261 dX10_copy_38 hk15 ?_
  refine jx_iconst (v := (-1)) dX10_copy_41 (by decide) ?_
  refine jx_icmp_ne (tgt := 49) dX10_copy_42 (by decide) (fun c16 => ?_) (fun c16 => ?_)
  · replace h := h.2 c16
    refine jx_aload 1 dX10_copy_49 rfl ?_
    refine jx_geti jc_6 (j := 0) (by decide) rfl jwF_X10_261 dX10_copy_51 hk13 ?_
    refine jx_aload 0 dX10_copy_54 rfl ?_
    refine jx_geti jc_6 (j := 0) (by decide) rfl jwF_X10_261 dX10_copy_56 hk15 ?_
    refine jx_icmp_eq (tgt := 65) dX10_copy_59 (by decide) (fun c17 => ?_) (fun c17 => ?_)
    · replace h := h.1 c17
      refine jx_aload 1 dX10_copy_65 rfl ?_
      refine jx_iload_n 4 dX10_copy_67 rfl rfl ?_
      refine jx_iload 7 dX10_copy_68 rfl ?_
      refine jx_callVi (M' := mX6_hasPlaces) (As := [.int x2, .int x5]) jo_X6_hasPlaces jc_6 rfl jwM_X10_334 jwN_X6_hasPlaces jwX_X6_hasPlaces dX10_copy_70 (jRok_m _ _ _) rfl (jle rfl) ⟨jle rfl, jle rfl⟩ hk13 h (fun r19 S18 h => ?_)
      refine jx_if_eq (tgt := 88) dX10_copy_73 (by decide) (fun c20 => ?_) (fun c20 => ?_)
      · replace h := h.1 c20
        refine jx_ldcw jwC_X10_321 dX10_copy_88 ?_
        exact jx_iret dX10_copy_91 rfl rfl (jle rfl) (jle rfl) ⟨_, rfl, h⟩
      replace h := h.2 c20
      refine jx_aload 0 dX10_copy_76 rfl ?_
      refine jx_iload 6 dX10_copy_78 rfl ?_
      refine jx_iload 7 dX10_copy_80 rfl ?_
      obtain ⟨hk21, h⟩ := h
      refine jx_callVi (M' := mX6_hasPlaces) (As := [.int x4, .int x5]) jo_X6_hasPlaces jc_6 rfl jwM_X10_334 jwN_X6_hasPlaces jwX_X6_hasPlaces dX10_copy_82 (jRok_m _ _ _) rfl (jle rfl) ⟨jle rfl, jle rfl⟩ hk21 h (fun r23 S22 h => ?_)
      refine jx_if_ne (tgt := 92) dX10_copy_85 (by decide) (fun c24 => ?_) (fun c24 => ?_)
      · replace h := h.2 c24
        refine jx_aload 1 dX10_copy_92 rfl ?_
        obtain ⟨hk25, h⟩ := h
        obtain ⟨b26, hb26, h⟩ := h
        refine jx_getr jc_6 (j := 2) (by decide) rfl jwF_X10_322 dX10_copy_94 hk25 hb26 ?_
        refine jx_iload_n 4 dX10_copy_97 rfl rfl ?_
        refine jx_aload 0 dX10_copy_98 rfl ?_
        obtain ⟨hk27, h⟩ := h
        obtain ⟨b28, hb28, h⟩ := h
        refine jx_getr jc_6 (j := 2) (by decide) rfl jwF_X10_322 dX10_copy_100 hk27 hb28 ?_
        refine jx_iload 6 dX10_copy_103 rfl ?_
        refine jx_iload 7 dX10_copy_105 rfl ?_
        obtain ⟨hk29, h⟩ := h
        obtain ⟨hk30, h⟩ := h
        obtain ⟨⟨hc31, hc32, hc33, hc34, hc35⟩, h⟩ := h
        refine jx_copy jwM_X10_337 jwV_copy jwS_copy jwZ_J10 dX10_copy_107 (jRok_m _ _ _) (jle rfl) hk29 hk30 hc31 hc32 hc33 hc34 hc35 ?_
        refine jx_iload 7 dX10_copy_110 rfl ?_
        exact jx_iret dX10_copy_112 rfl rfl (jle rfl) (jle rfl) ⟨_, rfl, h⟩
      replace h := h.1 c24
      refine jx_ldcw jwC_X10_321 dX10_copy_88 ?_
      exact jx_iret dX10_copy_91 rfl rfl (jle rfl) (jle rfl) ⟨_, rfl, h⟩
    replace h := h.2 c17
    refine jx_ldc jwC_X10_133 dX10_copy_62 ?_
    exact jx_iret dX10_copy_64 rfl rfl (jle rfl) (jle rfl) ⟨_, rfl, h⟩
  replace h := h.1 c16
  refine jx_ldcw jwC_X10_264 dX10_copy_45 ?_
  exact jx_iret dX10_copy_48 rfl rfl (jle rfl) (jle rfl) ⟨_, rfl, h⟩
set_option maxRecDepth 100000 in
set_option maxHeartbeats 4000000 in
theorem T_X10_lay {E : jEnv} {d : Nat} {Q : Int32 → jM → Prop} {a0 : Nat} {x1 : Int32} {x2 : Int32} {x3 : Int32} {S : jM} (h : jk S a0 = 10 ∧ jFr E mX10_findSlot d 0 0 [.ref a0, .int x1] S (fun o3 S2 => (o3 = none → Q (-1000000001) S2) ∧ (∀ b4, o3 = some b4 → jk S2 b4 = 7 ∧ (x2 = 0 → Q (ji S2 b4 0) (jput S2 b4 0 0)) ∧ (x2 = 1 → jk S2 a0 = 10 ∧ jFi E mX10_layMaster d 0 0 [.ref a0, .ref b4, .int x3] S2 (fun r10 S9 => Q r10 S9)) ∧ (x2 = 2 → jk S2 a0 = 10 ∧ jFi E mX10_laySheet d 0 0 [.ref a0, .ref b4, .int x3] S2 (fun r14 S13 => Q r14 S13)) ∧ (x2 = 3 → Q (ji S2 b4 0) (jput (jput S2 b4 0 3) b4 3 x3)) ∧ (¬ x2 = 0 → ¬ x2 = 1 → ¬ x2 = 2 → ¬ x2 = 3 → Q (-1000000001) S2)))) : jFi E mX10_lay (d + 1) 0 0 [.ref a0, .int x1, .int x2, .int x3] S Q := by
  refine jF_of (by decide) (jle rfl) ?_
  refine jx_lv (lv1 := [(0, .ref a0), (1, .int x1), (2, .int x2), (3, .int x3)]) [0, 1, 2, 3] rfl ?_
  refine jx_aload_n 0 dX10_lay_0 rfl rfl ?_
  refine jx_iload_n 1 dX10_lay_1 rfl rfl ?_
  obtain ⟨hk1, h⟩ := h
  refine jx_callVr (M' := mX10_findSlot) (As := [.int x1]) jo_X10_findSlot jc_10 rfl jwM_X10_343 jwN_X10_findSlot jwX_X10_findSlot dX10_lay_2 (jRok_m _ _ _) rfl (jle rfl) ⟨jle rfl, jle rfl⟩ hk1 h (fun o3 S2 h => ?_)
  rcases o3 with _ | b4
  · replace h := h.1 rfl
    refine jx_astoreN (lv1 := [(4, .null), (0, .ref a0), (1, .int x1), (2, .int x2), (3, .int x3)]) dX10_lay_5 (by decide) rfl ?_
    refine jx_aloadN 0 dX10_lay_7 rfl ?_
    refine jx_ifnonnullN dX10_lay_9 ?_
    refine jx_ldc jwC_X10_62 dX10_lay_12 ?_
    exact jx_iret dX10_lay_14 rfl rfl (jle rfl) (jle rfl) ⟨_, rfl, h⟩
  replace h := h.2 b4 rfl
  refine jx_astore (lv1 := [(4, .ref b4), (0, .ref a0), (1, .int x1), (2, .int x2), (3, .int x3)]) dX10_lay_5 (by decide) rfl ?_
  refine jx_aload 0 dX10_lay_7 rfl ?_
  refine jx_ifnonnull (tgt := 15) dX10_lay_9 (by decide) ?_
  refine jx_aload 0 dX10_lay_15 rfl ?_
  obtain ⟨hk5, h⟩ := h
  refine jx_geti jc_7 (j := 0) (by decide) rfl jwF_X10_347 dX10_lay_17 hk5 ?_
  refine jx_istore (lv1 := [(5, .int (ji S2 b4 0)), (4, .ref b4), (0, .ref a0), (1, .int x1), (2, .int x2), (3, .int x3)]) dX10_lay_20 (by decide) rfl ?_
  refine jx_iload_n 4 dX10_lay_22 rfl rfl ?_
  by_cases c6 : x2 = 0
  · replace h := h.1 c6
    refine jx_tableIn (v := 0) (tgt := 52) (off := 29) dX10_lay_23 c6 (by decide) (by decide) (by decide) (by decide) ?_
    refine jx_aload 1 dX10_lay_52 rfl ?_
    refine jx_iconst (v := 0) dX10_lay_54 (by decide) ?_
    refine jx_puti jc_7 (j := 0) (by decide) rfl jwF_X10_347 rfl rfl rfl dX10_lay_55 hk5 ?_
    refine jx_iload 0 dX10_lay_58 rfl ?_
    exact jx_iret dX10_lay_60 rfl rfl (jle rfl) (jle rfl) ⟨_, rfl, h⟩
  replace h := h.2
  by_cases c7 : x2 = 1
  · replace h := h.1 c7
    refine jx_tableIn (v := 1) (tgt := 61) (off := 38) dX10_lay_23 c7 (by decide) (by decide) (by decide) (by decide) ?_
    refine jx_aload_n 2 dX10_lay_61 rfl rfl ?_
    refine jx_aload 1 dX10_lay_62 rfl ?_
    refine jx_iload_n 5 dX10_lay_64 rfl rfl ?_
    obtain ⟨hk8, h⟩ := h
    refine jx_callVi (M' := mX10_layMaster) (As := [.ref b4, .int x3]) jo_X10_layMaster jc_10 rfl jwM_X10_350 jwN_X10_layMaster jwX_X10_layMaster dX10_lay_65 (jRok_m _ _ _) rfl (jle rfl) ⟨jle rfl, jle rfl⟩ hk8 h (fun r10 S9 h => ?_)
    exact jx_iret dX10_lay_68 rfl rfl (jle rfl) (jle rfl) ⟨_, rfl, h⟩
  replace h := h.2
  by_cases c11 : x2 = 2
  · replace h := h.1 c11
    refine jx_tableIn (v := 2) (tgt := 69) (off := 46) dX10_lay_23 c11 (by decide) (by decide) (by decide) (by decide) ?_
    refine jx_aload_n 2 dX10_lay_69 rfl rfl ?_
    refine jx_aload 1 dX10_lay_70 rfl ?_
    refine jx_iload_n 5 dX10_lay_72 rfl rfl ?_
    obtain ⟨hk12, h⟩ := h
    refine jx_callVi (M' := mX10_laySheet) (As := [.ref b4, .int x3]) jo_X10_laySheet jc_10 rfl jwM_X10_354 jwN_X10_laySheet jwX_X10_laySheet dX10_lay_73 (jRok_m _ _ _) rfl (jle rfl) ⟨jle rfl, jle rfl⟩ hk12 h (fun r14 S13 h => ?_)
    exact jx_iret dX10_lay_76 rfl rfl (jle rfl) (jle rfl) ⟨_, rfl, h⟩
  replace h := h.2
  by_cases c15 : x2 = 3
  · replace h := h.1 c15
    refine jx_tableIn (v := 3) (tgt := 77) (off := 54) dX10_lay_23 c15 (by decide) (by decide) (by decide) (by decide) ?_
    refine jx_aload 1 dX10_lay_77 rfl ?_
    refine jx_iconst (v := 3) dX10_lay_79 (by decide) ?_
    refine jx_puti jc_7 (j := 0) (by decide) rfl jwF_X10_347 rfl rfl rfl dX10_lay_80 hk5 ?_
    refine jx_aload 1 dX10_lay_83 rfl ?_
    refine jx_iload_n 5 dX10_lay_85 rfl rfl ?_
    refine jx_puti jc_7 (j := 3) (by decide) rfl jwF_X10_357 rfl rfl rfl dX10_lay_86 hk5 ?_
    refine jx_iload 0 dX10_lay_89 rfl ?_
    exact jx_iret dX10_lay_91 rfl rfl (jle rfl) (jle rfl) ⟨_, rfl, h⟩
  replace h := h.2
  replace h := h c6 c7 c11 c15
  refine jx_tableD (tgt := 92) ([0, 1, 2, 3] : List Int) dX10_lay_23 (by simp only [List.mem_cons, List.not_mem_nil, or_false, forall_eq_or_imp, forall_eq]; exact ⟨lv_neT c6 (by decide), lv_neT c7 (by decide), lv_neT c11 (by decide), lv_neT c15 (by decide)⟩) (by decide) (by decide) (by decide) ?_
  refine jx_ldc jwC_X10_62 dX10_lay_92 ?_
  exact jx_iret dX10_lay_94 rfl rfl (jle rfl) (jle rfl) ⟨_, rfl, h⟩
set_option maxRecDepth 100000 in
set_option maxHeartbeats 4000000 in
theorem T_X10_layMaster {E : jEnv} {d : Nat} {Q : Int32 → jM → Prop} {a0 : Nat} {a1 : Nat} {x2 : Int32} {S : jM} (h : jk S a0 = 10 ∧ ∃ b2, jr S a0 0 = some b2 ∧ (jk S b2 = 3 ∧ ∃ b4, jr S b2 0 = some b4 ∧ (jk S b4 = 0 ∧ jFr E mX0_find d 0 0 [.ref b4, .int x2] S (fun o7 S6 => (o7 = none → Q (-1000000001) S6) ∧ (∀ b8, o7 = some b8 → jk S6 a1 = 7 ∧ ∃ b10, jr S6 a1 1 = some b10 ∧ (jk S6 b10 = 2 ∧ jFv E mX2_become d 0 0 [.ref b10, .ref b8] (jput S6 a1 0 1) (fun S12 => Q (ji S6 a1 0) S12))))))) : jFi E mX10_layMaster (d + 1) 0 0 [.ref a0, .ref a1, .int x2] S Q := by
  refine jF_of (by decide) (jle rfl) ?_
  refine jx_lv (lv1 := [(0, .ref a0), (1, .ref a1), (2, .int x2)]) [0, 1, 2] rfl ?_
  refine jx_aload_n 0 dX10_layMaster_0 rfl rfl ?_
  obtain ⟨hk1, h⟩ := h
  obtain ⟨b2, hb2, h⟩ := h
  refine jx_getr jc_10 (j := 0) (by decide) rfl jwF_X10_12 dX10_layMaster_1 hk1 hb2 ?_
  obtain ⟨hk3, h⟩ := h
  obtain ⟨b4, hb4, h⟩ := h
  refine jx_getr jc_3 (j := 0) (by decide) rfl jwF_X10_63 dX10_layMaster_4 hk3 hb4 ?_
  refine jx_iload_n 2 dX10_layMaster_7 rfl rfl ?_
  obtain ⟨hk5, h⟩ := h
  refine jx_callVr (M' := mX0_find) (As := [.int x2]) jo_X0_find jc_0 rfl jwM_X10_75 jwN_X0_find jwX_X0_find dX10_layMaster_8 (jRok_m _ _ _) rfl (jle rfl) ⟨jle rfl, jle rfl⟩ hk5 h (fun o7 S6 h => ?_)
  rcases o7 with _ | b8
  · replace h := h.1 rfl
    refine jx_astore_nN (lv1 := [(3, .null), (0, .ref a0), (1, .ref a1), (2, .int x2)]) dX10_layMaster_11 rfl (by decide) rfl ?_
    refine jx_aload_nN 0 dX10_layMaster_12 rfl rfl ?_
    refine jx_ifnonnullN dX10_layMaster_13 ?_
    refine jx_ldc jwC_X10_62 dX10_layMaster_16 ?_
    exact jx_iret dX10_layMaster_18 rfl rfl (jle rfl) (jle rfl) ⟨_, rfl, h⟩
  replace h := h.2 b8 rfl
  refine jx_astore_n (lv1 := [(3, .ref b8), (0, .ref a0), (1, .ref a1), (2, .int x2)]) dX10_layMaster_11 rfl (by decide) rfl ?_
  refine jx_aload_n 0 dX10_layMaster_12 rfl rfl ?_
  refine jx_ifnonnull (tgt := 19) dX10_layMaster_13 (by decide) ?_
  refine jx_aload_n 2 dX10_layMaster_19 rfl rfl ?_
  obtain ⟨hk9, h⟩ := h
  refine jx_geti jc_7 (j := 0) (by decide) rfl jwF_X10_347 dX10_layMaster_20 hk9 ?_
  refine jx_istore (lv1 := [(4, .int (ji S6 a1 0)), (3, .ref b8), (0, .ref a0), (1, .ref a1), (2, .int x2)]) dX10_layMaster_23 (by decide) rfl ?_
  refine jx_aload_n 3 dX10_layMaster_25 rfl rfl ?_
  refine jx_iconst (v := 1) dX10_layMaster_26 (by decide) ?_
  refine jx_puti jc_7 (j := 0) (by decide) rfl jwF_X10_347 rfl rfl rfl dX10_layMaster_27 hk9 ?_
  refine jx_aload_n 3 dX10_layMaster_30 rfl rfl ?_
  obtain ⟨b10, hb10, h⟩ := h
  refine jx_getr jc_7 (j := 1) (by decide) rfl jwF_X10_360 dX10_layMaster_31 hk9 hb10 ?_
  refine jx_aload_n 1 dX10_layMaster_34 rfl rfl ?_
  obtain ⟨hk11, h⟩ := h
  refine jx_callVv (M' := mX2_become) (As := [.ref b8]) jo_X2_become jc_2 rfl jwM_X10_364 jwN_X2_become jwX_X2_become dX10_layMaster_35 (jRok_m _ _ _) rfl (jle rfl) ⟨jle rfl, jle rfl⟩ hk11 h (fun S12 h => ?_)
  refine jx_iload 0 dX10_layMaster_38 rfl ?_
  exact jx_iret dX10_layMaster_40 rfl rfl (jle rfl) (jle rfl) ⟨_, rfl, h⟩
set_option maxRecDepth 100000 in
set_option maxHeartbeats 4000000 in
theorem T_X10_laySheet {E : jEnv} {d : Nat} {Q : Int32 → jM → Prop} {a0 : Nat} {a1 : Nat} {x2 : Int32} {S : jM} (h : jk S a0 = 10 ∧ jFr E mX10_findSheet d 0 0 [.ref a0, .int x2] S (fun o3 S2 => (o3 = none → Q (-1000000001) S2) ∧ (∀ b4, o3 = some b4 → jk S2 b4 = 6 ∧ ((ji S2 b4 0) = (-1) → Q (-1000000011) S2) ∧ (¬ (ji S2 b4 0) = (-1) → jk S2 a1 = 7 ∧ ∃ b8, jr S2 a1 2 = some b8 ∧ (jk S2 b8 = 6 ∧ jFv E mX6_become d 0 0 [.ref b8, .ref b4] (jput S2 a1 0 2) (fun S10 => Q (ji S2 a1 0) S10)))))) : jFi E mX10_laySheet (d + 1) 0 0 [.ref a0, .ref a1, .int x2] S Q := by
  refine jF_of (by decide) (jle rfl) ?_
  refine jx_lv (lv1 := [(0, .ref a0), (1, .ref a1), (2, .int x2)]) [0, 1, 2] rfl ?_
  refine jx_aload_n 0 dX10_laySheet_0 rfl rfl ?_
  refine jx_iload_n 2 dX10_laySheet_1 rfl rfl ?_
  obtain ⟨hk1, h⟩ := h
  refine jx_callVr (M' := mX10_findSheet) (As := [.int x2]) jo_X10_findSheet jc_10 rfl jwM_X10_257 jwN_X10_findSheet jwX_X10_findSheet dX10_laySheet_2 (jRok_m _ _ _) rfl (jle rfl) ⟨jle rfl, jle rfl⟩ hk1 h (fun o3 S2 h => ?_)
  rcases o3 with _ | b4
  · replace h := h.1 rfl
    refine jx_astore_nN (lv1 := [(3, .null), (0, .ref a0), (1, .ref a1), (2, .int x2)]) dX10_laySheet_5 rfl (by decide) rfl ?_
    refine jx_aload_nN 0 dX10_laySheet_6 rfl rfl ?_
    refine jx_ifnonnullN dX10_laySheet_7 ?_
    refine jx_ldc jwC_X10_62 dX10_laySheet_10 ?_
    exact jx_iret dX10_laySheet_12 rfl rfl (jle rfl) (jle rfl) ⟨_, rfl, h⟩
  replace h := h.2 b4 rfl
  refine jx_astore_n (lv1 := [(3, .ref b4), (0, .ref a0), (1, .ref a1), (2, .int x2)]) dX10_laySheet_5 rfl (by decide) rfl ?_
  refine jx_aload_n 0 dX10_laySheet_6 rfl rfl ?_
  refine jx_ifnonnull (tgt := 13) dX10_laySheet_7 (by decide) ?_
  refine jx_aload_n 0 dX10_laySheet_13 rfl rfl ?_
  obtain ⟨hk5, h⟩ := h
  refine jx_geti jc_6 (j := 0) (by decide) rfl jwF_X10_261 dX10_laySheet_14 hk5 ?_
  refine jx_iconst (v := (-1)) dX10_laySheet_17 (by decide) ?_
  refine jx_icmp_ne (tgt := 25) dX10_laySheet_18 (by decide) (fun c6 => ?_) (fun c6 => ?_)
  · replace h := h.2 c6
    refine jx_aload_n 2 dX10_laySheet_25 rfl rfl ?_
    obtain ⟨hk7, h⟩ := h
    refine jx_geti jc_7 (j := 0) (by decide) rfl jwF_X10_347 dX10_laySheet_26 hk7 ?_
    refine jx_istore (lv1 := [(4, .int (ji S2 a1 0)), (3, .ref b4), (0, .ref a0), (1, .ref a1), (2, .int x2)]) dX10_laySheet_29 (by decide) rfl ?_
    refine jx_aload_n 3 dX10_laySheet_31 rfl rfl ?_
    refine jx_iconst (v := 2) dX10_laySheet_32 (by decide) ?_
    refine jx_puti jc_7 (j := 0) (by decide) rfl jwF_X10_347 rfl rfl rfl dX10_laySheet_33 hk7 ?_
    refine jx_aload_n 3 dX10_laySheet_36 rfl rfl ?_
    obtain ⟨b8, hb8, h⟩ := h
    refine jx_getr jc_7 (j := 2) (by decide) rfl jwF_X10_367 dX10_laySheet_37 hk7 hb8 ?_
    refine jx_aload_n 1 dX10_laySheet_40 rfl rfl ?_
    obtain ⟨hk9, h⟩ := h
    refine jx_callVv (M' := mX6_become) (As := [.ref b4]) jo_X6_become jc_6 rfl jwM_X10_371 jwN_X6_become jwX_X6_become dX10_laySheet_41 (jRok_m _ _ _) rfl (jle rfl) ⟨jle rfl, jle rfl⟩ hk9 h (fun S10 h => ?_)
    refine jx_iload 0 dX10_laySheet_44 rfl ?_
    exact jx_iret dX10_laySheet_46 rfl rfl (jle rfl) (jle rfl) ⟨_, rfl, h⟩
  replace h := h.1 c6
  refine jx_ldcw jwC_X10_264 dX10_laySheet_21 ?_
  exact jx_iret dX10_laySheet_24 rfl rfl (jle rfl) (jle rfl) ⟨_, rfl, h⟩
set_option maxRecDepth 100000 in
set_option maxHeartbeats 4000000 in
theorem T_X10_ask {E : jEnv} {d : Nat} {Q : Int32 → jM → Prop} {a0 : Nat} {x1 : Int32} {x2 : Int32} {S : jM} (h : jk S a0 = 10 ∧ jFr E mX10_findSlot d 0 0 [.ref a0, .int x1] S (fun o3 S2 => (o3 = none → Q (-1000000001) S2) ∧ (∀ b4, o3 = some b4 → ((jwi x2 6) = 0 → Q (-1000000001) S2) ∧ (¬ (jwi x2 6) = 0 → jk S2 b4 = 7 ∧ ((ji S2 b4 0) = 0 → Q (-1000000011) S2) ∧ (¬ (ji S2 b4 0) = 0 → ((ji S2 b4 0) = 1 → ∃ b12, jr S2 b4 1 = some b12 ∧ (jk S2 b12 = 2 ∧ jFi E mX2_isOf d 0 0 [.ref b12, .int x2] S2 (fun r15 S14 => (r15 = 0 → Q (-1000000012) S14) ∧ (¬ r15 = 0 → jk S14 b4 = 7 ∧ ∃ b18, jr S14 b4 1 = some b18 ∧ (jk S14 b18 = 2 ∧ jFi E mX2_worth d 0 0 [.ref b18] S14 (fun r21 S20 => Q r21 S20)))))) ∧ (¬ (ji S2 b4 0) = 1 → Q (-1000000012) S2)))))) : jFi E mX10_ask (d + 1) 0 0 [.ref a0, .int x1, .int x2] S Q := by
  refine jF_of (by decide) (jle rfl) ?_
  refine jx_lv (lv1 := [(0, .ref a0), (1, .int x1), (2, .int x2)]) [0, 1, 2] rfl ?_
  refine jx_aload_n 0 dX10_ask_0 rfl rfl ?_
  refine jx_iload_n 1 dX10_ask_1 rfl rfl ?_
  obtain ⟨hk1, h⟩ := h
  refine jx_callVr (M' := mX10_findSlot) (As := [.int x1]) jo_X10_findSlot jc_10 rfl jwM_X10_343 jwN_X10_findSlot jwX_X10_findSlot dX10_ask_2 (jRok_m _ _ _) rfl (jle rfl) ⟨jle rfl, jle rfl⟩ hk1 h (fun o3 S2 h => ?_)
  rcases o3 with _ | b4
  · replace h := h.1 rfl
    refine jx_astore_nN (lv1 := [(3, .null), (0, .ref a0), (1, .int x1), (2, .int x2)]) dX10_ask_5 rfl (by decide) rfl ?_
    refine jx_aload_nN 0 dX10_ask_6 rfl rfl ?_
    refine jx_ifnullN (tgt := 19) dX10_ask_7 (by decide) ?_
    refine jx_ldc jwC_X10_62 dX10_ask_19 ?_
    exact jx_iret dX10_ask_21 rfl rfl (jle rfl) (jle rfl) ⟨_, rfl, h⟩
  replace h := h.2 b4 rfl
  refine jx_astore_n (lv1 := [(3, .ref b4), (0, .ref a0), (1, .int x1), (2, .int x2)]) dX10_ask_5 rfl (by decide) rfl ?_
  refine jx_aload_n 0 dX10_ask_6 rfl rfl ?_
  refine jx_ifnull dX10_ask_7 ?_
  refine jx_iload_n 3 dX10_ask_10 rfl rfl ?_
  refine jx_bipush (v := 6) dX10_ask_11 (by decide) ?_
  refine jx_callSi (M' := mX10_within) (As := [.int x2, .int 6]) jo_X10_within jwM_X10_58 jwS_X10_within dX10_ask_13 (jRok_m _ _ _) rfl (jle rfl) ⟨jle rfl, jle rfl⟩ (c_X10_within (Q := fun v S' => v = (jwi x2 6) ∧ S2 = S') ⟨rfl, rfl⟩) (fun r5 S6 hq7 => ?_)
  obtain ⟨rfl, rfl⟩ := hq7
  refine jx_if_ne (tgt := 22) dX10_ask_16 (by decide) (fun c8 => ?_) (fun c8 => ?_)
  · replace h := h.2 c8
    refine jx_aload_n 0 dX10_ask_22 rfl rfl ?_
    obtain ⟨hk9, h⟩ := h
    refine jx_geti jc_7 (j := 0) (by decide) rfl jwF_X10_347 dX10_ask_23 hk9 ?_
    refine jx_if_ne (tgt := 33) dX10_ask_26 (by decide) (fun c10 => ?_) (fun c10 => ?_)
    · replace h := h.2 c10
      refine jx_aload_n 0 dX10_ask_33 rfl rfl ?_
      refine jx_geti jc_7 (j := 0) (by decide) rfl jwF_X10_347 dX10_ask_34 hk9 ?_
      refine jx_iconst (v := 1) dX10_ask_37 (by decide) ?_
      refine jx_icmp_ne (tgt := 52) dX10_ask_38 (by decide) (fun c11 => ?_) (fun c11 => ?_)
      · replace h := h.2 c11
        refine jx_ldc jwC_X10_133 dX10_ask_52 ?_
        exact jx_iret dX10_ask_54 rfl rfl (jle rfl) (jle rfl) ⟨_, rfl, h⟩
      replace h := h.1 c11
      refine jx_aload_n 0 dX10_ask_41 rfl rfl ?_
      obtain ⟨b12, hb12, h⟩ := h
      refine jx_getr jc_7 (j := 1) (by decide) rfl jwF_X10_360 dX10_ask_42 hk9 hb12 ?_
      refine jx_iload_n 3 dX10_ask_45 rfl rfl ?_
      obtain ⟨hk13, h⟩ := h
      refine jx_callVi (M' := mX2_isOf) (As := [.int x2]) jo_X2_isOf jc_2 rfl jwM_X10_130 jwN_X2_isOf jwX_X2_isOf dX10_ask_46 (jRok_m _ _ _) rfl (jle rfl) ⟨jle rfl, jle rfl⟩ hk13 h (fun r15 S14 h => ?_)
      refine jx_if_ne (tgt := 55) dX10_ask_49 (by decide) (fun c16 => ?_) (fun c16 => ?_)
      · replace h := h.2 c16
        refine jx_aload_n 0 dX10_ask_55 rfl rfl ?_
        obtain ⟨hk17, h⟩ := h
        obtain ⟨b18, hb18, h⟩ := h
        refine jx_getr jc_7 (j := 1) (by decide) rfl jwF_X10_360 dX10_ask_56 hk17 hb18 ?_
        obtain ⟨hk19, h⟩ := h
        refine jx_callVi (M' := mX2_worth) (As := []) jo_X2_worth jc_2 rfl jwM_X10_126 jwN_X2_worth jwX_X2_worth dX10_ask_59 (jRok_m _ _ _) rfl (jle rfl) ⟨jle rfl, jle rfl⟩ hk19 h (fun r21 S20 h => ?_)
        exact jx_iret dX10_ask_62 rfl rfl (jle rfl) (jle rfl) ⟨_, rfl, h⟩
      replace h := h.1 c16
      refine jx_ldc jwC_X10_133 dX10_ask_52 ?_
      exact jx_iret dX10_ask_54 rfl rfl (jle rfl) (jle rfl) ⟨_, rfl, h⟩
    replace h := h.1 c10
    refine jx_ldcw jwC_X10_264 dX10_ask_29 ?_
    exact jx_iret dX10_ask_32 rfl rfl (jle rfl) (jle rfl) ⟨_, rfl, h⟩
  replace h := h.1 c8
  refine jx_ldc jwC_X10_62 dX10_ask_19 ?_
  exact jx_iret dX10_ask_21 rfl rfl (jle rfl) (jle rfl) ⟨_, rfl, h⟩
set_option maxRecDepth 100000 in
set_option maxHeartbeats 4000000 in
theorem T_X10_item {E : jEnv} {d : Nat} {Q : Int32 → jM → Prop} {a0 : Nat} {x1 : Int32} {x2 : Int32} {S : jM} (h : jk S a0 = 10 ∧ jFr E mX10_findSlot d 0 0 [.ref a0, .int x1] S (fun o3 S2 => (o3 = none → Q (-1000000001) S2) ∧ (∀ b4, o3 = some b4 → jk S2 b4 = 7 ∧ ((ji S2 b4 0) = 0 → Q (-1000000011) S2) ∧ (¬ (ji S2 b4 0) = 0 → ((ji S2 b4 0) = 2 → ∃ b8, jr S2 b4 2 = some b8 ∧ (jk S2 b8 = 6 ∧ jFi E mX6_hasPlace d 0 0 [.ref b8, .int x2] S2 (fun r11 S10 => (r11 = 0 → Q (-1000000013) S10) ∧ (¬ r11 = 0 → jk S10 b4 = 7 ∧ ∃ b14, jr S10 b4 2 = some b14 ∧ (jk S10 b14 = 6 ∧ jFi E mX6_isNumber d 0 0 [.ref b14, .int x2] S10 (fun r17 S16 => (r17 = 0 → Q (-1000000012) S16) ∧ (¬ r17 = 0 → jk S16 b4 = 7 ∧ ∃ b20, jr S16 b4 2 = some b20 ∧ (jk S16 b20 = 6 ∧ ∃ b22, jr S16 b20 2 = some b22 ∧ (jk S16 b22 = 12 ∧ vp_in x2 (jl S16 b22) ∧ (Q (ji S16 b22 (Int32.toNatClampNeg x2)) S16)))))))))) ∧ (¬ (ji S2 b4 0) = 2 → Q (-1000000012) S2))))) : jFi E mX10_item (d + 1) 0 0 [.ref a0, .int x1, .int x2] S Q := by
  refine jF_of (by decide) (jle rfl) ?_
  refine jx_lv (lv1 := [(0, .ref a0), (1, .int x1), (2, .int x2)]) [0, 1, 2] rfl ?_
  refine jx_aload_n 0 dX10_item_0 rfl rfl ?_
  refine jx_iload_n 1 dX10_item_1 rfl rfl ?_
  obtain ⟨hk1, h⟩ := h
  refine jx_callVr (M' := mX10_findSlot) (As := [.int x1]) jo_X10_findSlot jc_10 rfl jwM_X10_343 jwN_X10_findSlot jwX_X10_findSlot dX10_item_2 (jRok_m _ _ _) rfl (jle rfl) ⟨jle rfl, jle rfl⟩ hk1 h (fun o3 S2 h => ?_)
  rcases o3 with _ | b4
  · replace h := h.1 rfl
    refine jx_astore_nN (lv1 := [(3, .null), (0, .ref a0), (1, .int x1), (2, .int x2)]) dX10_item_5 rfl (by decide) rfl ?_
    refine jx_aload_nN 0 dX10_item_6 rfl rfl ?_
    refine jx_ifnonnullN dX10_item_7 ?_
    refine jx_ldc jwC_X10_62 dX10_item_10 ?_
    exact jx_iret dX10_item_12 rfl rfl (jle rfl) (jle rfl) ⟨_, rfl, h⟩
  replace h := h.2 b4 rfl
  refine jx_astore_n (lv1 := [(3, .ref b4), (0, .ref a0), (1, .int x1), (2, .int x2)]) dX10_item_5 rfl (by decide) rfl ?_
  refine jx_aload_n 0 dX10_item_6 rfl rfl ?_
  refine jx_ifnonnull (tgt := 13) dX10_item_7 (by decide) ?_
  refine jx_aload_n 0 dX10_item_13 rfl rfl ?_
  obtain ⟨hk5, h⟩ := h
  refine jx_geti jc_7 (j := 0) (by decide) rfl jwF_X10_347 dX10_item_14 hk5 ?_
  refine jx_if_ne (tgt := 24) dX10_item_17 (by decide) (fun c6 => ?_) (fun c6 => ?_)
  · replace h := h.2 c6
    refine jx_aload_n 0 dX10_item_24 rfl rfl ?_
    refine jx_geti jc_7 (j := 0) (by decide) rfl jwF_X10_347 dX10_item_25 hk5 ?_
    refine jx_iconst (v := 2) dX10_item_28 (by decide) ?_
    refine jx_icmp_eq (tgt := 35) dX10_item_29 (by decide) (fun c7 => ?_) (fun c7 => ?_)
    · replace h := h.1 c7
      refine jx_aload_n 0 dX10_item_35 rfl rfl ?_
      obtain ⟨b8, hb8, h⟩ := h
      refine jx_getr jc_7 (j := 2) (by decide) rfl jwF_X10_367 dX10_item_36 hk5 hb8 ?_
      refine jx_iload_n 3 dX10_item_39 rfl rfl ?_
      obtain ⟨hk9, h⟩ := h
      refine jx_callVi (M' := mX6_hasPlace) (As := [.int x2]) jo_X6_hasPlace jc_6 rfl jwM_X10_318 jwN_X6_hasPlace jwX_X6_hasPlace dX10_item_40 (jRok_m _ _ _) rfl (jle rfl) ⟨jle rfl, jle rfl⟩ hk9 h (fun r11 S10 h => ?_)
      refine jx_if_ne (tgt := 50) dX10_item_43 (by decide) (fun c12 => ?_) (fun c12 => ?_)
      · replace h := h.2 c12
        refine jx_aload_n 0 dX10_item_50 rfl rfl ?_
        obtain ⟨hk13, h⟩ := h
        obtain ⟨b14, hb14, h⟩ := h
        refine jx_getr jc_7 (j := 2) (by decide) rfl jwF_X10_367 dX10_item_51 hk13 hb14 ?_
        refine jx_iload_n 3 dX10_item_54 rfl rfl ?_
        obtain ⟨hk15, h⟩ := h
        refine jx_callVi (M' := mX6_isNumber) (As := [.int x2]) jo_X6_isNumber jc_6 rfl jwM_X10_328 jwN_X6_isNumber jwX_X6_isNumber dX10_item_55 (jRok_m _ _ _) rfl (jle rfl) ⟨jle rfl, jle rfl⟩ hk15 h (fun r17 S16 h => ?_)
        refine jx_if_eq (tgt := 73) dX10_item_58 (by decide) (fun c18 => ?_) (fun c18 => ?_)
        · replace h := h.1 c18
          refine jx_ldc jwC_X10_133 dX10_item_73 ?_
          exact jx_iret dX10_item_75 rfl rfl (jle rfl) (jle rfl) ⟨_, rfl, h⟩
        replace h := h.2 c18
        refine jx_aload_n 0 dX10_item_61 rfl rfl ?_
        obtain ⟨hk19, h⟩ := h
        obtain ⟨b20, hb20, h⟩ := h
        refine jx_getr jc_7 (j := 2) (by decide) rfl jwF_X10_367 dX10_item_62 hk19 hb20 ?_
        obtain ⟨hk21, h⟩ := h
        obtain ⟨b22, hb22, h⟩ := h
        refine jx_getr jc_6 (j := 2) (by decide) rfl jwF_X10_322 dX10_item_65 hk21 hb22 ?_
        refine jx_iload_n 3 dX10_item_68 rfl rfl ?_
        obtain ⟨hk23, h⟩ := h
        obtain ⟨hi24, h⟩ := h
        refine jx_iald dX10_item_69 hk23 hi24 ?_
        refine jx_goto (tgt := 75) dX10_item_70 (by decide) ?_
        exact jx_iret dX10_item_75 rfl rfl (jle rfl) (jle rfl) ⟨_, rfl, h⟩
      replace h := h.1 c12
      refine jx_ldcw jwC_X10_321 dX10_item_46 ?_
      exact jx_iret dX10_item_49 rfl rfl (jle rfl) (jle rfl) ⟨_, rfl, h⟩
    replace h := h.2 c7
    refine jx_ldc jwC_X10_133 dX10_item_32 ?_
    exact jx_iret dX10_item_34 rfl rfl (jle rfl) (jle rfl) ⟨_, rfl, h⟩
  replace h := h.1 c6
  refine jx_ldcw jwC_X10_264 dX10_item_20 ?_
  exact jx_iret dX10_item_23 rfl rfl (jle rfl) (jle rfl) ⟨_, rfl, h⟩
set_option maxRecDepth 100000 in
set_option maxHeartbeats 4000000 in
theorem T_X10_rest {E : jEnv} {d : Nat} {Q : Int32 → jM → Prop} {a0 : Nat} {x1 : Int32} {x2 : Int32} {S : jM} (h : jk S a0 = 10 ∧ jFr E mX10_findSlot d 0 0 [.ref a0, .int x1] S (fun o3 S2 => (o3 = none → Q (-1000000001) S2) ∧ (∀ b4, o3 = some b4 → jk S2 b4 = 7 ∧ ((ji S2 b4 0) = 0 → Q (-1000000011) S2) ∧ (¬ (ji S2 b4 0) = 0 → ((ji S2 b4 0) = 3 → (x2 = 0 → Q (-1000000002) S2) ∧ (¬ x2 = 0 → (¬ x2 = 0) ∧ (Q (jrem (ji S2 b4 3) x2) S2))) ∧ (¬ (ji S2 b4 0) = 3 → Q (-1000000012) S2))))) : jFi E mX10_rest (d + 1) 0 0 [.ref a0, .int x1, .int x2] S Q := by
  refine jF_of (by decide) (jle rfl) ?_
  refine jx_lv (lv1 := [(0, .ref a0), (1, .int x1), (2, .int x2)]) [0, 1, 2] rfl ?_
  refine jx_aload_n 0 dX10_rest_0 rfl rfl ?_
  refine jx_iload_n 1 dX10_rest_1 rfl rfl ?_
  obtain ⟨hk1, h⟩ := h
  refine jx_callVr (M' := mX10_findSlot) (As := [.int x1]) jo_X10_findSlot jc_10 rfl jwM_X10_343 jwN_X10_findSlot jwX_X10_findSlot dX10_rest_2 (jRok_m _ _ _) rfl (jle rfl) ⟨jle rfl, jle rfl⟩ hk1 h (fun o3 S2 h => ?_)
  rcases o3 with _ | b4
  · replace h := h.1 rfl
    refine jx_astore_nN (lv1 := [(3, .null), (0, .ref a0), (1, .int x1), (2, .int x2)]) dX10_rest_5 rfl (by decide) rfl ?_
    refine jx_aload_nN 0 dX10_rest_6 rfl rfl ?_
    refine jx_ifnonnullN dX10_rest_7 ?_
    refine jx_ldc jwC_X10_62 dX10_rest_10 ?_
    exact jx_iret dX10_rest_12 rfl rfl (jle rfl) (jle rfl) ⟨_, rfl, h⟩
  replace h := h.2 b4 rfl
  refine jx_astore_n (lv1 := [(3, .ref b4), (0, .ref a0), (1, .int x1), (2, .int x2)]) dX10_rest_5 rfl (by decide) rfl ?_
  refine jx_aload_n 0 dX10_rest_6 rfl rfl ?_
  refine jx_ifnonnull (tgt := 13) dX10_rest_7 (by decide) ?_
  refine jx_aload_n 0 dX10_rest_13 rfl rfl ?_
  obtain ⟨hk5, h⟩ := h
  refine jx_geti jc_7 (j := 0) (by decide) rfl jwF_X10_347 dX10_rest_14 hk5 ?_
  refine jx_if_ne (tgt := 24) dX10_rest_17 (by decide) (fun c6 => ?_) (fun c6 => ?_)
  · replace h := h.2 c6
    refine jx_aload_n 0 dX10_rest_24 rfl rfl ?_
    refine jx_geti jc_7 (j := 0) (by decide) rfl jwF_X10_347 dX10_rest_25 hk5 ?_
    refine jx_iconst (v := 3) dX10_rest_28 (by decide) ?_
    refine jx_icmp_eq (tgt := 35) dX10_rest_29 (by decide) (fun c7 => ?_) (fun c7 => ?_)
    · replace h := h.1 c7
      refine jx_iload_n 3 dX10_rest_35 rfl rfl ?_
      refine jx_if_ne (tgt := 44) dX10_rest_36 (by decide) (fun c8 => ?_) (fun c8 => ?_)
      · replace h := h.2 c8
        refine jx_aload_n 0 dX10_rest_44 rfl rfl ?_
        refine jx_geti jc_7 (j := 3) (by decide) rfl jwF_X10_357 dX10_rest_45 hk5 ?_
        refine jx_iload_n 3 dX10_rest_48 rfl rfl ?_
        obtain ⟨hz9, h⟩ := h
        refine jx_irem dX10_rest_49 hz9 ?_
        exact jx_iret dX10_rest_50 rfl rfl (jle rfl) (jle rfl) ⟨_, rfl, h⟩
      replace h := h.1 c8
      refine jx_ldc jwC_X10_184 dX10_rest_39 ?_
      refine jx_goto (tgt := 50) dX10_rest_41 (by decide) ?_
      exact jx_iret dX10_rest_50 rfl rfl (jle rfl) (jle rfl) ⟨_, rfl, h⟩
    replace h := h.2 c7
    refine jx_ldc jwC_X10_133 dX10_rest_32 ?_
    exact jx_iret dX10_rest_34 rfl rfl (jle rfl) (jle rfl) ⟨_, rfl, h⟩
  replace h := h.1 c6
  refine jx_ldcw jwC_X10_264 dX10_rest_20 ?_
  exact jx_iret dX10_rest_23 rfl rfl (jle rfl) (jle rfl) ⟨_, rfl, h⟩
set_option maxRecDepth 100000 in
set_option maxHeartbeats 4000000 in
theorem T_X10_tell {E : jEnv} {d : Nat} {Q : Int32 → jM → Prop} {a0 : Nat} {x1 : Int32} {S : jM} (h : jk S a0 = 10 ∧ ((jwi (ji S a0 9) 60) = 0 → Q (-1000000003) S) ∧ (¬ (jwi (ji S a0 9) 60) = 0 → ∃ b6, jr S a0 8 = some b6 ∧ (jk S b6 = 12 ∧ vp_in (ji S a0 9) (jl S b6) ∧ (Q ((ji S a0 9) + 1) (jput (jput S b6 (Int32.toNatClampNeg (ji S a0 9)) x1) a0 9 ((ji S a0 9) + 1)))))) : jFi E mX10_tell (d + 1) 0 0 [.ref a0, .int x1] S Q := by
  refine jF_of (by decide) (jle rfl) ?_
  refine jx_lv (lv1 := [(0, .ref a0), (1, .int x1)]) [0, 1] rfl ?_
  refine jx_aload_n 0 dX10_tell_0 rfl rfl ?_
  obtain ⟨hk1, h⟩ := h
  refine jx_geti jc_10 (j := 9) (by decide) rfl jwF_X10_374 dX10_tell_1 hk1 ?_
  refine jx_bipush (v := 60) dX10_tell_4 (by decide) ?_
  refine jx_callSi (M' := mX10_within) (As := [.int (ji S a0 9), .int 60]) jo_X10_within jwM_X10_58 jwS_X10_within dX10_tell_6 (jRok_m _ _ _) rfl (jle rfl) ⟨jle rfl, jle rfl⟩ (c_X10_within (Q := fun v S' => v = (jwi (ji S a0 9) 60) ∧ S = S') ⟨rfl, rfl⟩) (fun r2 S3 hq4 => ?_)
  obtain ⟨rfl, rfl⟩ := hq4
  refine jx_if_ne (tgt := 15) dX10_tell_9 (by decide) (fun c5 => ?_) (fun c5 => ?_)
  · replace h := h.2 c5
    refine jx_aload_n 0 dX10_tell_15 rfl rfl ?_
    obtain ⟨b6, hb6, h⟩ := h
    refine jx_getr jc_10 (j := 8) (by decide) rfl jwF_X10_52 dX10_tell_16 hk1 hb6 ?_
    refine jx_aload_n 0 dX10_tell_19 rfl rfl ?_
    refine jx_geti jc_10 (j := 9) (by decide) rfl jwF_X10_374 dX10_tell_20 hk1 ?_
    refine jx_iload_n 1 dX10_tell_23 rfl rfl ?_
    obtain ⟨hk7, h⟩ := h
    obtain ⟨hi8, h⟩ := h
    refine jx_iast dX10_tell_24 hk7 hi8 ?_
    refine jx_aload_n 0 dX10_tell_25 rfl rfl ?_
    refine jx_dup dX10_tell_26 rfl ?_
    refine jx_geti jc_10 (j := 9) (by decide) rfl jwF_X10_374 dX10_tell_27 hk1 ?_
    refine jx_topi (y := (ji S a0 9)) (by simp [ji_put, ji_row, ji_putr, jne hk1 hk7 (by decide)]) ?_
    refine jx_iconst (v := 1) dX10_tell_30 (by decide) ?_
    refine jx_iadd dX10_tell_31 ?_
    refine jx_puti jc_10 (j := 9) (by decide) rfl jwF_X10_374 rfl rfl rfl dX10_tell_32 hk1 ?_
    refine jx_aload_n 0 dX10_tell_35 rfl rfl ?_
    refine jx_geti jc_10 (j := 9) (by decide) rfl jwF_X10_374 dX10_tell_36 hk1 ?_
    refine jx_topi (y := ((ji S a0 9) + 1)) (by simp [ji_put, ji_row, ji_putr]) ?_
    exact jx_iret dX10_tell_39 rfl rfl (jle rfl) (jle rfl) ⟨_, rfl, h⟩
  replace h := h.1 c5
  refine jx_ldc jwC_X10_74 dX10_tell_12 ?_
  exact jx_iret dX10_tell_14 rfl rfl (jle rfl) (jle rfl) ⟨_, rfl, h⟩
/-- X10_check at its loop's head 50 -/
abbrev L_X10_check_50 (E : jEnv) (d : Nat) (Q : Int32 → jM → Prop) (a0 : Nat) (x1 : Int32) (x2 : Int32) (x3 : Int32) (S : jM) : Prop := jX E mX10_check (jRm (d + 1) 0 0) (jZm E (fun r S' => ∃ v : Int32, r = some (.int v) ∧ Q v S') 0 0) 50 [(0, .ref a0), (1, .int x1), (2, .int x2), (3, .int x3)] [] S 0 0
set_option maxRecDepth 100000 in
set_option maxHeartbeats 4000000 in
theorem T_X10_check {E : jEnv} {d : Nat} {Q : Int32 → jM → Prop} {a0 : Nat} {x1 : Int32} {S : jM} (h : jk S a0 = 10 ∧ (x1 < 1 → Q (-1000000001) (jput S a0 9 0)) ∧ (¬ x1 < 1 → (x1 ≤ 30 → ((ji S a0 2) = 0 → Q (-1000000002) (jput S a0 9 0)) ∧ (¬ (ji S a0 2) = 0 → ∃ b5, jr S a0 3 = some b5 ∧ (∃ b6, jr S a0 1 = some b6 ∧ (jk S b6 = 3 ∧ ∃ b8, jr S b6 0 = some b8 ∧ (jk S b5 = 0 ∧ jFv E mX0_become d 0 0 [.ref b5, .ref b8] (jput S a0 9 0) (fun S10 => L_X10_check_50 E d Q a0 x1 (ji S a0 9) 0 S10)))))) ∧ (¬ x1 ≤ 30 → Q (-1000000001) (jput S a0 9 0)))) : jFi E mX10_check (d + 1) 0 0 [.ref a0, .int x1] S Q := by
  refine jF_of (by decide) (jle rfl) ?_
  refine jx_lv (lv1 := [(0, .ref a0), (1, .int x1)]) [0, 1] rfl ?_
  refine jx_aload_n 0 dX10_check_0 rfl rfl ?_
  obtain ⟨hk1, h⟩ := h
  refine jx_geti jc_10 (j := 9) (by decide) rfl jwF_X10_374 dX10_check_1 hk1 ?_
  refine jx_istore_n (lv1 := [(2, .int (ji S a0 9)), (0, .ref a0), (1, .int x1)]) dX10_check_4 rfl (by decide) rfl ?_
  refine jx_aload_n 1 dX10_check_5 rfl rfl ?_
  refine jx_iconst (v := 0) dX10_check_6 (by decide) ?_
  refine jx_puti jc_10 (j := 9) (by decide) rfl jwF_X10_374 rfl rfl rfl dX10_check_7 hk1 ?_
  refine jx_iload_n 2 dX10_check_10 rfl rfl ?_
  refine jx_iconst (v := 1) dX10_check_11 (by decide) ?_
  refine jx_icmp_lt (tgt := 21) dX10_check_12 (by decide) (fun c2 => ?_) (fun c2 => ?_)
  · replace h := h.1 c2
    refine jx_ldc jwC_X10_62 dX10_check_21 ?_
    exact jx_iret dX10_check_23 rfl rfl (jle rfl) (jle rfl) ⟨_, rfl, h⟩
  replace h := h.2 c2
  refine jx_iload_n 2 dX10_check_15 rfl rfl ?_
  refine jx_bipush (v := 30) dX10_check_16 (by decide) ?_
  refine jx_icmp_le (tgt := 24) dX10_check_18 (by decide) (fun c3 => ?_) (fun c3 => ?_)
  · replace h := h.1 c3
    refine jx_aload_n 1 dX10_check_24 rfl rfl ?_
    refine jx_geti jc_10 (j := 2) (by decide) rfl jwF_X10_377 dX10_check_25 hk1 ?_
    refine jx_topi (y := (ji S a0 2)) (by simp [ji_put, ji_row, ji_putr]) ?_
    refine jx_if_ne (tgt := 34) dX10_check_28 (by decide) (fun c4 => ?_) (fun c4 => ?_)
    · replace h := h.2 c4
      refine jx_aload_n 1 dX10_check_34 rfl rfl ?_
      obtain ⟨b5, hb5, h⟩ := h
      refine jx_getr jc_10 (j := 3) (by decide) rfl jwF_X10_22 dX10_check_35 hk1 hb5 ?_
      refine jx_aload_n 1 dX10_check_38 rfl rfl ?_
      obtain ⟨b6, hb6, h⟩ := h
      refine jx_getr jc_10 (j := 1) (by decide) rfl jwF_X10_16 dX10_check_39 hk1 hb6 ?_
      obtain ⟨hk7, h⟩ := h
      obtain ⟨b8, hb8, h⟩ := h
      refine jx_getr jc_3 (j := 0) (by decide) rfl jwF_X10_63 dX10_check_42 hk7 hb8 ?_
      obtain ⟨hk9, h⟩ := h
      refine jx_callVv (M' := mX0_become) (As := [.ref b8]) jo_X0_become jc_0 rfl jwM_X10_250 jwN_X0_become jwX_X0_become dX10_check_45 (jRok_m _ _ _) rfl (jle rfl) ⟨jle rfl, jle rfl⟩ hk9 h (fun S10 h => ?_)
      refine jx_iconst (v := 0) dX10_check_48 (by decide) ?_
      refine jx_istore_n (lv1 := [(3, .int 0), (2, .int (ji S a0 9)), (0, .ref a0), (1, .int x1)]) dX10_check_49 rfl (by decide) rfl ?_
      exact jx_lv [2, 3, 1, 0] rfl h
    replace h := h.1 c4
    refine jx_ldc jwC_X10_184 dX10_check_31 ?_
    exact jx_iret dX10_check_33 rfl rfl (jle rfl) (jle rfl) ⟨_, rfl, h⟩
  replace h := h.2 c3
  refine jx_ldc jwC_X10_62 dX10_check_21 ?_
  exact jx_iret dX10_check_23 rfl rfl (jle rfl) (jle rfl) ⟨_, rfl, h⟩
set_option maxRecDepth 100000 in
set_option maxHeartbeats 4000000 in
theorem T_X10_check_50 {E : jEnv} {d : Nat} {Q : Int32 → jM → Prop} {a0 : Nat} {x1 : Int32} {x2 : Int32} {x3 : Int32} {S : jM} (h : (x1 ≤ x3 → (x2 = (2 * x1) → Q 0 S) ∧ (¬ x2 = (2 * x1) → Q (1 + (2 * x1)) S)) ∧ (¬ x1 ≤ x3 → jk S a0 = 10 ∧ ∃ b14, jr S a0 3 = some b14 ∧ (jk S b14 = 0 ∧ jFv E mX0_liveYear d 0 0 [.ref b14] S (fun S16 => jk S16 a0 = 10 ∧ ∃ b18, jr S16 a0 3 = some b18 ∧ (jk S16 b18 = 0 ∧ jFi E mX0_countDead d 0 0 [.ref b18] S16 (fun r21 S20 => jk S20 a0 = 10 ∧ jFi E mX10_isWaiting d 0 0 [.ref a0, .int (2 * x3), .int x2, .int r21] S20 (fun r24 S23 => (r24 = 0 → Q (1 + (2 * x3)) S23) ∧ (¬ r24 = 0 → jk S23 a0 = 10 ∧ ∃ b27, jr S23 a0 3 = some b27 ∧ (jk S23 b27 = 0 ∧ jFi E mX0_agesTogether d 0 0 [.ref b27] S23 (fun r30 S29 => jk S29 a0 = 10 ∧ jFi E mX10_isWaiting d 0 0 [.ref a0, .int ((2 * x3) + 1), .int x2, .int r30] S29 (fun r33 S32 => (r33 = 0 → Q (2 + (2 * x3)) S32) ∧ (¬ r33 = 0 → L_X10_check_50 E d Q a0 x1 x2 (x3 + 1) S32)))))))))))) : L_X10_check_50 E d Q a0 x1 x2 x3 S := by
  show jX E mX10_check (jRm (d + 1) 0 0) (jZm E (fun r S' => ∃ v : Int32, r = some (.int v) ∧ Q v S') 0 0) 50 [(0, .ref a0), (1, .int x1), (2, .int x2), (3, .int x3)] [] S 0 0
  refine jx_iload_n 3 dX10_check_50 rfl rfl ?_
  refine jx_iload_n 1 dX10_check_51 rfl rfl ?_
  refine jx_icmp_ge (tgt := 119) dX10_check_52 (by decide) (fun c11 => ?_) (fun c11 => ?_)
  · replace h := h.1 c11
    refine jx_iload_n 2 dX10_check_119 rfl rfl ?_
    refine jx_iconst (v := 2) dX10_check_120 (by decide) ?_
    refine jx_iload_n 1 dX10_check_121 rfl rfl ?_
    refine jx_imul dX10_check_122 ?_
    refine jx_icmp_ne (tgt := 130) dX10_check_123 (by decide) (fun c12 => ?_) (fun c12 => ?_)
    · replace h := h.2 c12
      refine jx_iconst (v := 1) dX10_check_130 (by decide) ?_
      refine jx_iconst (v := 2) dX10_check_131 (by decide) ?_
      refine jx_iload_n 1 dX10_check_132 rfl rfl ?_
      refine jx_imul dX10_check_133 ?_
      refine jx_iadd dX10_check_134 ?_
      exact jx_iret dX10_check_135 rfl rfl (jle rfl) (jle rfl) ⟨_, rfl, h⟩
    replace h := h.1 c12
    refine jx_iconst (v := 0) dX10_check_126 (by decide) ?_
    refine jx_goto (tgt := 135) dX10_check_127 (by decide) ?_
    exact jx_iret dX10_check_135 rfl rfl (jle rfl) (jle rfl) ⟨_, rfl, h⟩
  replace h := h.2 c11
  refine jx_aload_n 0 dX10_check_55 rfl rfl ?_
  obtain ⟨hk13, h⟩ := h
  obtain ⟨b14, hb14, h⟩ := h
  refine jx_getr jc_10 (j := 3) (by decide) rfl jwF_X10_22 dX10_check_56 hk13 hb14 ?_
  obtain ⟨hk15, h⟩ := h
  refine jx_callVv (M' := mX0_liveYear) (As := []) jo_X0_liveYear jc_0 rfl jwM_X10_380 jwN_X0_liveYear jwX_X0_liveYear dX10_check_59 (jRok_m _ _ _) rfl (jle rfl) ⟨jle rfl, jle rfl⟩ hk15 h (fun S16 h => ?_)
  refine jx_iconst (v := 2) dX10_check_62 (by decide) ?_
  refine jx_iload_n 3 dX10_check_63 rfl rfl ?_
  refine jx_imul dX10_check_64 ?_
  refine jx_istore (lv1 := [(4, .int (2 * x3)), (0, .ref a0), (1, .int x1), (2, .int x2), (3, .int x3)]) dX10_check_65 (by decide) rfl ?_
  refine jx_aload_n 1 dX10_check_67 rfl rfl ?_
  refine jx_iload 0 dX10_check_68 rfl ?_
  refine jx_iload_n 3 dX10_check_70 rfl rfl ?_
  refine jx_aload_n 1 dX10_check_71 rfl rfl ?_
  obtain ⟨hk17, h⟩ := h
  obtain ⟨b18, hb18, h⟩ := h
  refine jx_getr jc_10 (j := 3) (by decide) rfl jwF_X10_22 dX10_check_72 hk17 hb18 ?_
  obtain ⟨hk19, h⟩ := h
  refine jx_callVi (M' := mX0_countDead) (As := []) jo_X0_countDead jc_0 rfl jwM_X10_244 jwN_X0_countDead jwX_X0_countDead dX10_check_75 (jRok_m _ _ _) rfl (jle rfl) ⟨jle rfl, jle rfl⟩ hk19 h (fun r21 S20 h => ?_)
  obtain ⟨hk22, h⟩ := h
  refine jx_callVi (M' := mX10_isWaiting) (As := [.int (2 * x3), .int x2, .int r21]) jo_X10_isWaiting jc_10 rfl jwM_X10_383 jwN_X10_isWaiting jwX_X10_isWaiting dX10_check_78 (jRok_m _ _ _) rfl (jle rfl) ⟨jle rfl, jle rfl⟩ hk22 h (fun r24 S23 h => ?_)
  refine jx_if_ne (tgt := 89) dX10_check_81 (by decide) (fun c25 => ?_) (fun c25 => ?_)
  · replace h := h.2 c25
    refine jx_aload_n 1 dX10_check_89 rfl rfl ?_
    refine jx_iload 0 dX10_check_90 rfl ?_
    refine jx_iconst (v := 1) dX10_check_92 (by decide) ?_
    refine jx_iadd dX10_check_93 ?_
    refine jx_iload_n 3 dX10_check_94 rfl rfl ?_
    refine jx_aload_n 1 dX10_check_95 rfl rfl ?_
    obtain ⟨hk26, h⟩ := h
    obtain ⟨b27, hb27, h⟩ := h
    refine jx_getr jc_10 (j := 3) (by decide) rfl jwF_X10_22 dX10_check_96 hk26 hb27 ?_
    obtain ⟨hk28, h⟩ := h
    refine jx_callVi (M' := mX0_agesTogether) (As := []) jo_X0_agesTogether jc_0 rfl jwM_X10_387 jwN_X0_agesTogether jwX_X0_agesTogether dX10_check_99 (jRok_m _ _ _) rfl (jle rfl) ⟨jle rfl, jle rfl⟩ hk28 h (fun r30 S29 h => ?_)
    obtain ⟨hk31, h⟩ := h
    refine jx_callVi (M' := mX10_isWaiting) (As := [.int ((2 * x3) + 1), .int x2, .int r30]) jo_X10_isWaiting jc_10 rfl jwM_X10_383 jwN_X10_isWaiting jwX_X10_isWaiting dX10_check_102 (jRok_m _ _ _) rfl (jle rfl) ⟨jle rfl, jle rfl⟩ hk31 h (fun r33 S32 h => ?_)
    refine jx_if_ne (tgt := 113) dX10_check_105 (by decide) (fun c34 => ?_) (fun c34 => ?_)
    · replace h := h.2 c34
      refine jx_iinc 4 (v := (x3 + 1)) (lv1 := [(3, .int (x3 + 1)), (4, .int (2 * x3)), (0, .ref a0), (1, .int x1), (2, .int x2)]) dX10_check_113 rfl rfl (by decide) rfl ?_
      refine jx_goto (tgt := 50) dX10_check_116 (by decide) ?_
      exact jx_lv [2, 3, 4, 0] rfl h
    replace h := h.1 c34
    refine jx_iconst (v := 2) dX10_check_108 (by decide) ?_
    refine jx_iload 0 dX10_check_109 rfl ?_
    refine jx_iadd dX10_check_111 ?_
    exact jx_iret dX10_check_112 rfl rfl (jle rfl) (jle rfl) ⟨_, rfl, h⟩
  replace h := h.1 c25
  refine jx_iconst (v := 1) dX10_check_84 (by decide) ?_
  refine jx_iload 0 dX10_check_85 rfl ?_
  refine jx_iadd dX10_check_87 ?_
  exact jx_iret dX10_check_88 rfl rfl (jle rfl) (jle rfl) ⟨_, rfl, h⟩
set_option maxRecDepth 100000 in
set_option maxHeartbeats 4000000 in
theorem T_X10_isWaiting {E : jEnv} {d : Nat} {Q : Int32 → jM → Prop} {a0 : Nat} {x1 : Int32} {x2 : Int32} {x3 : Int32} {S : jM} (h : (x2 ≤ x1 → Q 0 S) ∧ (¬ x2 ≤ x1 → ((jwi x1 60) = 0 → Q 0 S) ∧ (¬ (jwi x1 60) = 0 → jk S a0 = 10 ∧ ∃ b7, jr S a0 8 = some b7 ∧ (jk S b7 = 12 ∧ vp_in x1 (jl S b7) ∧ (((ji S b7 (Int32.toNatClampNeg x1)) = x3 → Q 1 S) ∧ (¬ (ji S b7 (Int32.toNatClampNeg x1)) = x3 → Q 0 S)))))) : jFi E mX10_isWaiting (d + 1) 0 0 [.ref a0, .int x1, .int x2, .int x3] S Q := by
  refine jF_of (by decide) (jle rfl) ?_
  refine jx_lv (lv1 := [(0, .ref a0), (1, .int x1), (2, .int x2), (3, .int x3)]) [0, 1, 2, 3] rfl ?_
  refine jx_iload_n 1 dX10_isWaiting_0 rfl rfl ?_
  refine jx_iload_n 2 dX10_isWaiting_1 rfl rfl ?_
  refine jx_icmp_ge (tgt := 28) dX10_isWaiting_2 (by decide) (fun c1 => ?_) (fun c1 => ?_)
  · replace h := h.1 c1
    refine jx_iconst (v := 0) dX10_isWaiting_28 (by decide) ?_
    exact jx_iret dX10_isWaiting_29 rfl (by decide) (jle rfl) (jle rfl) ⟨_, rfl, h⟩
  replace h := h.2 c1
  refine jx_iload_n 1 dX10_isWaiting_5 rfl rfl ?_
  refine jx_bipush (v := 60) dX10_isWaiting_6 (by decide) ?_
  refine jx_callSi (M' := mX10_within) (As := [.int x1, .int 60]) jo_X10_within jwM_X10_58 jwS_X10_within dX10_isWaiting_8 (jRok_m _ _ _) rfl (jle rfl) ⟨jle rfl, jle rfl⟩ (c_X10_within (Q := fun v S' => v = (jwi x1 60) ∧ S = S') ⟨rfl, rfl⟩) (fun r2 S3 hq4 => ?_)
  obtain ⟨rfl, rfl⟩ := hq4
  refine jx_if_eq (tgt := 28) dX10_isWaiting_11 (by decide) (fun c5 => ?_) (fun c5 => ?_)
  · replace h := h.1 c5
    refine jx_iconst (v := 0) dX10_isWaiting_28 (by decide) ?_
    exact jx_iret dX10_isWaiting_29 rfl (by decide) (jle rfl) (jle rfl) ⟨_, rfl, h⟩
  replace h := h.2 c5
  refine jx_aload_n 0 dX10_isWaiting_14 rfl rfl ?_
  obtain ⟨hk6, h⟩ := h
  obtain ⟨b7, hb7, h⟩ := h
  refine jx_getr jc_10 (j := 8) (by decide) rfl jwF_X10_52 dX10_isWaiting_15 hk6 hb7 ?_
  refine jx_iload_n 1 dX10_isWaiting_18 rfl rfl ?_
  obtain ⟨hk8, h⟩ := h
  obtain ⟨hi9, h⟩ := h
  refine jx_iald dX10_isWaiting_19 hk8 hi9 ?_
  refine jx_iload_n 3 dX10_isWaiting_20 rfl rfl ?_
  refine jx_icmp_ne (tgt := 28) dX10_isWaiting_21 (by decide) (fun c10 => ?_) (fun c10 => ?_)
  · replace h := h.2 c10
    refine jx_iconst (v := 0) dX10_isWaiting_28 (by decide) ?_
    exact jx_iret dX10_isWaiting_29 rfl (by decide) (jle rfl) (jle rfl) ⟨_, rfl, h⟩
  replace h := h.1 c10
  refine jx_iconst (v := 1) dX10_isWaiting_24 (by decide) ?_
  refine jx_goto (tgt := 29) dX10_isWaiting_25 (by decide) ?_
  exact jx_iret dX10_isWaiting_29 rfl (by decide) (jle rfl) (jle rfl) ⟨_, rfl, h⟩
set_option maxRecDepth 100000 in
set_option maxHeartbeats 4000000 in
theorem T_X10_keep {E : jEnv} {d : Nat} {Q : Int32 → jM → Prop} {a0 : Nat} {S : jM} (h : jk S a0 = 10 ∧ ∃ b2, jr S a0 1 = some b2 ∧ (∃ b3, jr S a0 0 = some b3 ∧ (jk S b2 = 3 ∧ jFv E mX3_become d 0 0 [.ref b2, .ref b3] S (fun S5 => jk S5 a0 = 10 ∧ ∃ b7, jr S5 a0 1 = some b7 ∧ (jk S5 b7 = 3 ∧ ∃ b9, jr S5 b7 0 = some b9 ∧ (jk S5 b9 = 0 ∧ Q (ji S5 b9 1) (jput S5 a0 2 1))))))) : jFi E mX10_keep (d + 1) 0 0 [.ref a0] S Q := by
  refine jF_of (by decide) (jle rfl) ?_
  refine jx_lv (lv1 := [(0, .ref a0)]) [0] rfl ?_
  refine jx_aload_n 0 dX10_keep_0 rfl rfl ?_
  obtain ⟨hk1, h⟩ := h
  obtain ⟨b2, hb2, h⟩ := h
  refine jx_getr jc_10 (j := 1) (by decide) rfl jwF_X10_16 dX10_keep_1 hk1 hb2 ?_
  refine jx_aload_n 0 dX10_keep_4 rfl rfl ?_
  obtain ⟨b3, hb3, h⟩ := h
  refine jx_getr jc_10 (j := 0) (by decide) rfl jwF_X10_12 dX10_keep_5 hk1 hb3 ?_
  obtain ⟨hk4, h⟩ := h
  refine jx_callVv (M' := mX3_become) (As := [.ref b3]) jo_X3_become jc_3 rfl jwM_X10_390 jwN_X3_become jwX_X3_become dX10_keep_8 (jRok_m _ _ _) rfl (jle rfl) ⟨jle rfl, jle rfl⟩ hk4 h (fun S5 h => ?_)
  refine jx_aload_n 0 dX10_keep_11 rfl rfl ?_
  refine jx_iconst (v := 1) dX10_keep_12 (by decide) ?_
  obtain ⟨hk6, h⟩ := h
  refine jx_puti jc_10 (j := 2) (by decide) rfl jwF_X10_377 rfl (by decide) (by decide) dX10_keep_13 hk6 ?_
  refine jx_aload_n 0 dX10_keep_16 rfl rfl ?_
  obtain ⟨b7, hb7, h⟩ := h
  refine jx_getr jc_10 (j := 1) (by decide) rfl jwF_X10_16 dX10_keep_17 hk6 hb7 ?_
  obtain ⟨hk8, h⟩ := h
  obtain ⟨b9, hb9, h⟩ := h
  refine jx_getr jc_3 (j := 0) (by decide) rfl jwF_X10_63 dX10_keep_20 hk8 hb9 ?_
  obtain ⟨hk10, h⟩ := h
  refine jx_geti jc_0 (j := 1) (by decide) rfl jwF_X10_66 dX10_keep_23 hk10 ?_
  refine jx_topi (y := (ji S5 b9 1)) (by simp [ji_put, ji_row, ji_putr]) ?_
  exact jx_iret dX10_keep_26 rfl rfl (jle rfl) (jle rfl) ⟨_, rfl, h⟩
set_option maxRecDepth 100000 in
set_option maxHeartbeats 4000000 in
theorem T_X10_back {E : jEnv} {d : Nat} {Q : Int32 → jM → Prop} {a0 : Nat} {S : jM} (h : jk S a0 = 10 ∧ ((ji S a0 2) = 0 → Q (-1000000002) S) ∧ (¬ (ji S a0 2) = 0 → ∃ b3, jr S a0 0 = some b3 ∧ (∃ b4, jr S a0 1 = some b4 ∧ (jk S b3 = 3 ∧ jFv E mX3_become d 0 0 [.ref b3, .ref b4] S (fun S6 => jk S6 a0 = 10 ∧ ∃ b8, jr S6 a0 0 = some b8 ∧ (jk S6 b8 = 3 ∧ ∃ b10, jr S6 b8 0 = some b10 ∧ (jk S6 b10 = 0 ∧ Q (ji S6 b10 1) S6))))))) : jFi E mX10_back (d + 1) 0 0 [.ref a0] S Q := by
  refine jF_of (by decide) (jle rfl) ?_
  refine jx_lv (lv1 := [(0, .ref a0)]) [0] rfl ?_
  refine jx_aload_n 0 dX10_back_0 rfl rfl ?_
  obtain ⟨hk1, h⟩ := h
  refine jx_geti jc_10 (j := 2) (by decide) rfl jwF_X10_377 dX10_back_1 hk1 ?_
  refine jx_if_ne (tgt := 10) dX10_back_4 (by decide) (fun c2 => ?_) (fun c2 => ?_)
  · replace h := h.2 c2
    refine jx_aload_n 0 dX10_back_10 rfl rfl ?_
    obtain ⟨b3, hb3, h⟩ := h
    refine jx_getr jc_10 (j := 0) (by decide) rfl jwF_X10_12 dX10_back_11 hk1 hb3 ?_
    refine jx_aload_n 0 dX10_back_14 rfl rfl ?_
    obtain ⟨b4, hb4, h⟩ := h
    refine jx_getr jc_10 (j := 1) (by decide) rfl jwF_X10_16 dX10_back_15 hk1 hb4 ?_
    obtain ⟨hk5, h⟩ := h
    refine jx_callVv (M' := mX3_become) (As := [.ref b4]) jo_X3_become jc_3 rfl jwM_X10_390 jwN_X3_become jwX_X3_become dX10_back_18 (jRok_m _ _ _) rfl (jle rfl) ⟨jle rfl, jle rfl⟩ hk5 h (fun S6 h => ?_)
    refine jx_aload_n 0 dX10_back_21 rfl rfl ?_
    obtain ⟨hk7, h⟩ := h
    obtain ⟨b8, hb8, h⟩ := h
    refine jx_getr jc_10 (j := 0) (by decide) rfl jwF_X10_12 dX10_back_22 hk7 hb8 ?_
    obtain ⟨hk9, h⟩ := h
    obtain ⟨b10, hb10, h⟩ := h
    refine jx_getr jc_3 (j := 0) (by decide) rfl jwF_X10_63 dX10_back_25 hk9 hb10 ?_
    obtain ⟨hk11, h⟩ := h
    refine jx_geti jc_0 (j := 1) (by decide) rfl jwF_X10_66 dX10_back_28 hk11 ?_
    exact jx_iret dX10_back_31 rfl rfl (jle rfl) (jle rfl) ⟨_, rfl, h⟩
  replace h := h.1 c2
  refine jx_ldc jwC_X10_184 dX10_back_7 ?_
  exact jx_iret dX10_back_9 rfl rfl (jle rfl) (jle rfl) ⟨_, rfl, h⟩
set_option maxRecDepth 100000 in
set_option maxHeartbeats 4000000 in
theorem T_X10_count {E : jEnv} {d : Nat} {Q : Int32 → jM → Prop} {a0 : Nat} {x1 : Int32} {S : jM} (h : (x1 = 0 → jk S a0 = 10 ∧ ∃ b3, jr S a0 0 = some b3 ∧ (jk S b3 = 3 ∧ ∃ b5, jr S b3 0 = some b5 ∧ (jk S b5 = 0 ∧ Q (ji S b5 1) S))) ∧ (x1 = 1 → jk S a0 = 10 ∧ ∃ b9, jr S a0 0 = some b9 ∧ (jk S b9 = 3 ∧ ∃ b11, jr S b9 0 = some b11 ∧ (jk S b11 = 0 ∧ jFi E mX0_countDead d 0 0 [.ref b11] S (fun r14 S13 => Q r14 S13)))) ∧ (x1 = 2 → jk S a0 = 10 ∧ ∃ b17, jr S a0 0 = some b17 ∧ (jk S b17 = 3 ∧ ∃ b19, jr S b17 2 = some b19 ∧ (jk S b19 = 1 ∧ Q (ji S b19 4) S))) ∧ (x1 = 3 → jk S a0 = 10 ∧ ∃ b23, jr S a0 0 = some b23 ∧ (jk S b23 = 3 ∧ ∃ b25, jr S b23 2 = some b25 ∧ (jk S b25 = 1 ∧ Q (jbc (ji S b25 1)) S))) ∧ (x1 = 4 → jk S a0 = 10 ∧ ∃ b32, jr S a0 0 = some b32 ∧ (jk S b32 = 3 ∧ Q (ji S b32 4) S)) ∧ (x1 = 5 → jk S a0 = 10 ∧ ∃ b36, jr S a0 0 = some b36 ∧ (jk S b36 = 3 ∧ jFi E mX3_canMakeChair d 0 0 [.ref b36] S (fun r39 S38 => (r39 = 0 → Q 0 S38) ∧ (¬ r39 = 0 → Q 1 S38)))) ∧ (x1 = 6 → jk S a0 = 10 ∧ ∃ b43, jr S a0 0 = some b43 ∧ (jk S b43 = 3 ∧ Q (ji S b43 6) S)) ∧ (x1 = 7 → jk S a0 = 10 ∧ Q (ji S a0 9) S) ∧ (x1 = 8 → jk S a0 = 10 ∧ ∃ b49, jr S a0 5 = some b49 ∧ (jk S b49 = 8 ∧ Q (ji S b49 1) S)) ∧ (x1 = 9 → jk S a0 = 10 ∧ ∃ b53, jr S a0 0 = some b53 ∧ (jk S b53 = 3 ∧ ∃ b55, jr S b53 0 = some b55 ∧ (jk S b55 = 0 ∧ Q (ji S b55 2) S))) ∧ (¬ x1 = 0 → ¬ x1 = 1 → ¬ x1 = 2 → ¬ x1 = 3 → ¬ x1 = 4 → ¬ x1 = 5 → ¬ x1 = 6 → ¬ x1 = 7 → ¬ x1 = 8 → ¬ x1 = 9 → Q (-1000000001) S)) : jFi E mX10_count (d + 1) 0 0 [.ref a0, .int x1] S Q := by
  refine jF_of (by decide) (jle rfl) ?_
  refine jx_lv (lv1 := [(0, .ref a0), (1, .int x1)]) [0, 1] rfl ?_
  refine jx_iload_n 1 dX10_count_0 rfl rfl ?_
  by_cases c1 : x1 = 0
  · replace h := h.1 c1
    refine jx_tableIn (v := 0) (tgt := 56) (off := 55) dX10_count_1 c1 (by decide) (by decide) (by decide) (by decide) ?_
    refine jx_aload_n 0 dX10_count_56 rfl rfl ?_
    obtain ⟨hk2, h⟩ := h
    obtain ⟨b3, hb3, h⟩ := h
    refine jx_getr jc_10 (j := 0) (by decide) rfl jwF_X10_12 dX10_count_57 hk2 hb3 ?_
    obtain ⟨hk4, h⟩ := h
    obtain ⟨b5, hb5, h⟩ := h
    refine jx_getr jc_3 (j := 0) (by decide) rfl jwF_X10_63 dX10_count_60 hk4 hb5 ?_
    obtain ⟨hk6, h⟩ := h
    refine jx_geti jc_0 (j := 1) (by decide) rfl jwF_X10_66 dX10_count_63 hk6 ?_
    exact jx_iret dX10_count_66 rfl rfl (jle rfl) (jle rfl) ⟨_, rfl, h⟩
  replace h := h.2
  by_cases c7 : x1 = 1
  · replace h := h.1 c7
    refine jx_tableIn (v := 1) (tgt := 67) (off := 66) dX10_count_1 c7 (by decide) (by decide) (by decide) (by decide) ?_
    refine jx_aload_n 0 dX10_count_67 rfl rfl ?_
    obtain ⟨hk8, h⟩ := h
    obtain ⟨b9, hb9, h⟩ := h
    refine jx_getr jc_10 (j := 0) (by decide) rfl jwF_X10_12 dX10_count_68 hk8 hb9 ?_
    obtain ⟨hk10, h⟩ := h
    obtain ⟨b11, hb11, h⟩ := h
    refine jx_getr jc_3 (j := 0) (by decide) rfl jwF_X10_63 dX10_count_71 hk10 hb11 ?_
    obtain ⟨hk12, h⟩ := h
    refine jx_callVi (M' := mX0_countDead) (As := []) jo_X0_countDead jc_0 rfl jwM_X10_244 jwN_X0_countDead jwX_X0_countDead dX10_count_74 (jRok_m _ _ _) rfl (jle rfl) ⟨jle rfl, jle rfl⟩ hk12 h (fun r14 S13 h => ?_)
    exact jx_iret dX10_count_77 rfl rfl (jle rfl) (jle rfl) ⟨_, rfl, h⟩
  replace h := h.2
  by_cases c15 : x1 = 2
  · replace h := h.1 c15
    refine jx_tableIn (v := 2) (tgt := 78) (off := 77) dX10_count_1 c15 (by decide) (by decide) (by decide) (by decide) ?_
    refine jx_aload_n 0 dX10_count_78 rfl rfl ?_
    obtain ⟨hk16, h⟩ := h
    obtain ⟨b17, hb17, h⟩ := h
    refine jx_getr jc_10 (j := 0) (by decide) rfl jwF_X10_12 dX10_count_79 hk16 hb17 ?_
    obtain ⟨hk18, h⟩ := h
    obtain ⟨b19, hb19, h⟩ := h
    refine jx_getr jc_3 (j := 2) (by decide) rfl jwF_X10_79 dX10_count_82 hk18 hb19 ?_
    obtain ⟨hk20, h⟩ := h
    refine jx_geti jc_1 (j := 4) (by decide) rfl jwF_X10_195 dX10_count_85 hk20 ?_
    exact jx_iret dX10_count_88 rfl rfl (jle rfl) (jle rfl) ⟨_, rfl, h⟩
  replace h := h.2
  by_cases c21 : x1 = 3
  · replace h := h.1 c21
    refine jx_tableIn (v := 3) (tgt := 89) (off := 88) dX10_count_1 c21 (by decide) (by decide) (by decide) (by decide) ?_
    refine jx_aload_n 0 dX10_count_89 rfl rfl ?_
    obtain ⟨hk22, h⟩ := h
    obtain ⟨b23, hb23, h⟩ := h
    refine jx_getr jc_10 (j := 0) (by decide) rfl jwF_X10_12 dX10_count_90 hk22 hb23 ?_
    obtain ⟨hk24, h⟩ := h
    obtain ⟨b25, hb25, h⟩ := h
    refine jx_getr jc_3 (j := 2) (by decide) rfl jwF_X10_79 dX10_count_93 hk24 hb25 ?_
    obtain ⟨hk26, h⟩ := h
    refine jx_geti jc_1 (j := 1) (by decide) rfl jwF_X10_107 dX10_count_96 hk26 ?_
    refine jx_callSi (M' := mJ6_bitCount_0f7a4) (As := [.int (ji S b25 1)]) jo_J6_bitCount_0f7a4 jwM_X10_112 jwS_J6_bitCount_0f7a4 dX10_count_99 (jRok_m _ _ _) rfl (jle rfl) ⟨jle rfl, jle rfl⟩ (c_J6_bitCount_0f7a4 (Q := fun v S' => v = (jbc (ji S b25 1)) ∧ S = S') ⟨rfl, rfl⟩) (fun r27 S28 hq29 => ?_)
    obtain ⟨rfl, rfl⟩ := hq29
    exact jx_iret dX10_count_102 rfl rfl (jle rfl) (jle rfl) ⟨_, rfl, h⟩
  replace h := h.2
  by_cases c30 : x1 = 4
  · replace h := h.1 c30
    refine jx_tableIn (v := 4) (tgt := 103) (off := 102) dX10_count_1 c30 (by decide) (by decide) (by decide) (by decide) ?_
    refine jx_aload_n 0 dX10_count_103 rfl rfl ?_
    obtain ⟨hk31, h⟩ := h
    obtain ⟨b32, hb32, h⟩ := h
    refine jx_getr jc_10 (j := 0) (by decide) rfl jwF_X10_12 dX10_count_104 hk31 hb32 ?_
    obtain ⟨hk33, h⟩ := h
    refine jx_geti jc_3 (j := 4) (by decide) rfl jwF_X10_212 dX10_count_107 hk33 ?_
    exact jx_iret dX10_count_110 rfl rfl (jle rfl) (jle rfl) ⟨_, rfl, h⟩
  replace h := h.2
  by_cases c34 : x1 = 5
  · replace h := h.1 c34
    refine jx_tableIn (v := 5) (tgt := 111) (off := 110) dX10_count_1 c34 (by decide) (by decide) (by decide) (by decide) ?_
    refine jx_aload_n 0 dX10_count_111 rfl rfl ?_
    obtain ⟨hk35, h⟩ := h
    obtain ⟨b36, hb36, h⟩ := h
    refine jx_getr jc_10 (j := 0) (by decide) rfl jwF_X10_12 dX10_count_112 hk35 hb36 ?_
    obtain ⟨hk37, h⟩ := h
    refine jx_callVi (M' := mX3_canMakeChair) (As := []) jo_X3_canMakeChair jc_3 rfl jwM_X10_215 jwN_X3_canMakeChair jwX_X3_canMakeChair dX10_count_115 (jRok_m _ _ _) rfl (jle rfl) ⟨jle rfl, jle rfl⟩ hk37 h (fun r39 S38 h => ?_)
    refine jx_if_eq (tgt := 125) dX10_count_118 (by decide) (fun c40 => ?_) (fun c40 => ?_)
    · replace h := h.1 c40
      refine jx_iconst (v := 0) dX10_count_125 (by decide) ?_
      exact jx_iret dX10_count_126 rfl rfl (jle rfl) (jle rfl) ⟨_, rfl, h⟩
    replace h := h.2 c40
    refine jx_iconst (v := 1) dX10_count_121 (by decide) ?_
    refine jx_goto (tgt := 126) dX10_count_122 (by decide) ?_
    exact jx_iret dX10_count_126 rfl rfl (jle rfl) (jle rfl) ⟨_, rfl, h⟩
  replace h := h.2
  by_cases c41 : x1 = 6
  · replace h := h.1 c41
    refine jx_tableIn (v := 6) (tgt := 127) (off := 126) dX10_count_1 c41 (by decide) (by decide) (by decide) (by decide) ?_
    refine jx_aload_n 0 dX10_count_127 rfl rfl ?_
    obtain ⟨hk42, h⟩ := h
    obtain ⟨b43, hb43, h⟩ := h
    refine jx_getr jc_10 (j := 0) (by decide) rfl jwF_X10_12 dX10_count_128 hk42 hb43 ?_
    obtain ⟨hk44, h⟩ := h
    refine jx_geti jc_3 (j := 6) (by decide) rfl jwF_X10_287 dX10_count_131 hk44 ?_
    exact jx_iret dX10_count_134 rfl rfl (jle rfl) (jle rfl) ⟨_, rfl, h⟩
  replace h := h.2
  by_cases c45 : x1 = 7
  · replace h := h.1 c45
    refine jx_tableIn (v := 7) (tgt := 135) (off := 134) dX10_count_1 c45 (by decide) (by decide) (by decide) (by decide) ?_
    refine jx_aload_n 0 dX10_count_135 rfl rfl ?_
    obtain ⟨hk46, h⟩ := h
    refine jx_geti jc_10 (j := 9) (by decide) rfl jwF_X10_374 dX10_count_136 hk46 ?_
    exact jx_iret dX10_count_139 rfl rfl (jle rfl) (jle rfl) ⟨_, rfl, h⟩
  replace h := h.2
  by_cases c47 : x1 = 8
  · replace h := h.1 c47
    refine jx_tableIn (v := 8) (tgt := 140) (off := 139) dX10_count_1 c47 (by decide) (by decide) (by decide) (by decide) ?_
    refine jx_aload_n 0 dX10_count_140 rfl rfl ?_
    obtain ⟨hk48, h⟩ := h
    obtain ⟨b49, hb49, h⟩ := h
    refine jx_getr jc_10 (j := 5) (by decide) rfl jwF_X10_36 dX10_count_141 hk48 hb49 ?_
    obtain ⟨hk50, h⟩ := h
    refine jx_geti jc_8 (j := 1) (by decide) rfl jwF_X10_277 dX10_count_144 hk50 ?_
    exact jx_iret dX10_count_147 rfl rfl (jle rfl) (jle rfl) ⟨_, rfl, h⟩
  replace h := h.2
  by_cases c51 : x1 = 9
  · replace h := h.1 c51
    refine jx_tableIn (v := 9) (tgt := 148) (off := 147) dX10_count_1 c51 (by decide) (by decide) (by decide) (by decide) ?_
    refine jx_aload_n 0 dX10_count_148 rfl rfl ?_
    obtain ⟨hk52, h⟩ := h
    obtain ⟨b53, hb53, h⟩ := h
    refine jx_getr jc_10 (j := 0) (by decide) rfl jwF_X10_12 dX10_count_149 hk52 hb53 ?_
    obtain ⟨hk54, h⟩ := h
    obtain ⟨b55, hb55, h⟩ := h
    refine jx_getr jc_3 (j := 0) (by decide) rfl jwF_X10_63 dX10_count_152 hk54 hb55 ?_
    obtain ⟨hk56, h⟩ := h
    refine jx_geti jc_0 (j := 2) (by decide) rfl jwF_X10_169 dX10_count_155 hk56 ?_
    exact jx_iret dX10_count_158 rfl rfl (jle rfl) (jle rfl) ⟨_, rfl, h⟩
  replace h := h.2
  replace h := h c1 c7 c15 c21 c30 c34 c41 c45 c47 c51
  refine jx_tableD (tgt := 159) ([0, 1, 2, 3, 4, 5, 6, 7, 8, 9] : List Int) dX10_count_1 (by simp only [List.mem_cons, List.not_mem_nil, or_false, forall_eq_or_imp, forall_eq]; exact ⟨lv_neT c1 (by decide), lv_neT c7 (by decide), lv_neT c15 (by decide), lv_neT c21 (by decide), lv_neT c30 (by decide), lv_neT c34 (by decide), lv_neT c41 (by decide), lv_neT c45 (by decide), lv_neT c47 (by decide), lv_neT c51 (by decide)⟩) (by decide) (by decide) (by decide) ?_
  refine jx_ldc jwC_X10_62 dX10_count_159 ?_
  exact jx_iret dX10_count_161 rfl rfl (jle rfl) (jle rfl) ⟨_, rfl, h⟩
set_option maxRecDepth 100000 in
set_option maxHeartbeats 4000000 in
theorem T_X10_findSheet {E : jEnv} {d : Nat} {Q : Option Nat → jM → Prop} {a0 : Nat} {x1 : Int32} {S : jM} (h : ((jwi x1 4) = 0 → Q none S) ∧ (¬ (jwi x1 4) = 0 → jk S a0 = 10 ∧ ∃ b6, jr S a0 6 = some b6 ∧ (jk S b6 = 14 ∧ vp_in x1 (jl S b6) ∧ ∃ b9, jr S b6 (Int32.toNatClampNeg x1) = some b9 ∧ (Q (some b9) S)))) : jFr E mX10_findSheet (d + 1) 0 0 [.ref a0, .int x1] S Q := by
  refine jF_of (by decide) (jle rfl) ?_
  refine jx_lv (lv1 := [(0, .ref a0), (1, .int x1)]) [0, 1] rfl ?_
  refine jx_iload_n 1 dX10_findSheet_0 rfl rfl ?_
  refine jx_iconst (v := 4) dX10_findSheet_1 (by decide) ?_
  refine jx_callSi (M' := mX10_within) (As := [.int x1, .int 4]) jo_X10_within jwM_X10_58 jwS_X10_within dX10_findSheet_2 (jRok_m _ _ _) rfl (jle rfl) ⟨jle rfl, jle rfl⟩ (c_X10_within (Q := fun v S' => v = (jwi x1 4) ∧ S = S') ⟨rfl, rfl⟩) (fun r1 S2 hq3 => ?_)
  obtain ⟨rfl, rfl⟩ := hq3
  refine jx_if_eq (tgt := 17) dX10_findSheet_5 (by decide) (fun c4 => ?_) (fun c4 => ?_)
  · replace h := h.1 c4
    refine jx_null dX10_findSheet_17 ?_
    exact jx_aret (o := none) dX10_findSheet_18 rfl (jle rfl) (jle rfl) ⟨_, rfl, h⟩
  replace h := h.2 c4
  refine jx_aload_n 0 dX10_findSheet_8 rfl rfl ?_
  obtain ⟨hk5, h⟩ := h
  obtain ⟨b6, hb6, h⟩ := h
  refine jx_getr jc_10 (j := 6) (by decide) rfl jwF_X10_42 dX10_findSheet_9 hk5 hb6 ?_
  refine jx_iload_n 1 dX10_findSheet_12 rfl rfl ?_
  obtain ⟨hk7, h⟩ := h
  obtain ⟨hi8, h⟩ := h
  obtain ⟨b9, hb9, h⟩ := h
  refine jx_aaldS dX10_findSheet_13 hk7 (by decide) (by decide) hi8 hb9 ?_
  refine jx_goto (tgt := 18) dX10_findSheet_14 (by decide) ?_
  exact jx_aret (o := (some b9)) dX10_findSheet_18 rfl (jle rfl) (jle rfl) ⟨_, rfl, h⟩
set_option maxRecDepth 100000 in
set_option maxHeartbeats 4000000 in
theorem T_X10_findSlot {E : jEnv} {d : Nat} {Q : Option Nat → jM → Prop} {a0 : Nat} {x1 : Int32} {S : jM} (h : ((jwi x1 5) = 0 → Q none S) ∧ (¬ (jwi x1 5) = 0 → jk S a0 = 10 ∧ ∃ b6, jr S a0 7 = some b6 ∧ (jk S b6 = 15 ∧ vp_in x1 (jl S b6) ∧ ∃ b9, jr S b6 (Int32.toNatClampNeg x1) = some b9 ∧ (Q (some b9) S)))) : jFr E mX10_findSlot (d + 1) 0 0 [.ref a0, .int x1] S Q := by
  refine jF_of (by decide) (jle rfl) ?_
  refine jx_lv (lv1 := [(0, .ref a0), (1, .int x1)]) [0, 1] rfl ?_
  refine jx_iload_n 1 dX10_findSlot_0 rfl rfl ?_
  refine jx_iconst (v := 5) dX10_findSlot_1 (by decide) ?_
  refine jx_callSi (M' := mX10_within) (As := [.int x1, .int 5]) jo_X10_within jwM_X10_58 jwS_X10_within dX10_findSlot_2 (jRok_m _ _ _) rfl (jle rfl) ⟨jle rfl, jle rfl⟩ (c_X10_within (Q := fun v S' => v = (jwi x1 5) ∧ S = S') ⟨rfl, rfl⟩) (fun r1 S2 hq3 => ?_)
  obtain ⟨rfl, rfl⟩ := hq3
  refine jx_if_eq (tgt := 17) dX10_findSlot_5 (by decide) (fun c4 => ?_) (fun c4 => ?_)
  · replace h := h.1 c4
    refine jx_null dX10_findSlot_17 ?_
    exact jx_aret (o := none) dX10_findSlot_18 rfl (jle rfl) (jle rfl) ⟨_, rfl, h⟩
  replace h := h.2 c4
  refine jx_aload_n 0 dX10_findSlot_8 rfl rfl ?_
  obtain ⟨hk5, h⟩ := h
  obtain ⟨b6, hb6, h⟩ := h
  refine jx_getr jc_10 (j := 7) (by decide) rfl jwF_X10_48 dX10_findSlot_9 hk5 hb6 ?_
  refine jx_iload_n 1 dX10_findSlot_12 rfl rfl ?_
  obtain ⟨hk7, h⟩ := h
  obtain ⟨hi8, h⟩ := h
  obtain ⟨b9, hb9, h⟩ := h
  refine jx_aaldS dX10_findSlot_13 hk7 (by decide) (by decide) hi8 hb9 ?_
  refine jx_goto (tgt := 18) dX10_findSlot_14 (by decide) ?_
  exact jx_aret (o := (some b9)) dX10_findSlot_18 rfl (jle rfl) (jle rfl) ⟨_, rfl, h⟩
