/-- X10_init at its loop's head 85 -/
abbrev L_X10_init_85 (E : jEnv) (d : Nat) (Q : jM → Prop) (a0 : Nat) (x1 : Int32) (S : jM) (c9 k9 : Nat) : Prop := jX E mX10_init (jRm (d + 1) 93 1196) (jZm E (fun r S' => r = none ∧ Q S') 93 1196) 85 [(0, .ref a0), (1, .int x1)] [] S c9 k9
/-- X10_init at its loop's head 111 -/
abbrev L_X10_init_111 (E : jEnv) (d : Nat) (Q : jM → Prop) (a0 : Nat) (x1 : Int32) (S : jM) (c9 k9 : Nat) : Prop := jX E mX10_init (jRm (d + 1) 93 1196) (jZm E (fun r S' => r = none ∧ Q S') 93 1196) 111 [(0, .ref a0), (1, .int x1)] [] S c9 k9
set_option maxRecDepth 100000 in
set_option maxHeartbeats 4000000 in
theorem T_X10_init {E : jEnv} {d : Nat} {Q : jM → Prop} {a0 : Nat} {S : jM} (h : ∀ q1, q1 = jn S → jFv E mX3_init d 19 196 [.ref q1] (jnew S 3 0) (fun S2 => jk S2 a0 = 10 ∧ ∀ q5, q5 = jn (jputr S2 a0 0 (some q1)) → jFv E mX3_init d 19 196 [.ref q5] (jnew (jputr S2 a0 0 (some q1)) 3 0) (fun S6 => jk S6 a0 = 10 ∧ ∀ q9, q9 = jn (jputr S6 a0 1 (some q5)) → jFv E mX0_init d 10 72 [.ref q9] (jnew (jputr S6 a0 1 (some q5)) 0 0) (fun S10 => jk S10 a0 = 10 ∧ ∀ q13, q13 = jn (jputr S10 a0 3 (some q9)) → jFv E mX5_init d 7 134 [.ref q13] (jnew (jputr S10 a0 3 (some q9)) 5 0) (fun S14 => jk S14 a0 = 10 ∧ ∀ q17, q17 = jn (jputr S14 a0 4 (some q13)) → jFv E mX8_init d 2 192 [.ref q17] (jnew (jputr S14 a0 4 (some q13)) 8 0) (fun S18 => jk S18 a0 = 10 ∧ ∀ q21, q21 = jn (jputr S18 a0 5 (some q17)) → jk (jnew (jputr S18 a0 5 (some q17)) 14 4) a0 = 10 ∧ ∀ q24, q24 = jn (jputr (jnew (jputr S18 a0 5 (some q17)) 14 4) a0 6 (some q21)) → jk (jnew (jputr (jnew (jputr S18 a0 5 (some q17)) 14 4) a0 6 (some q21)) 15 5) a0 = 10 ∧ ∀ q27, q27 = jn (jputr (jnew (jputr (jnew (jputr S18 a0 5 (some q17)) 14 4) a0 6 (some q21)) 15 5) a0 7 (some q24)) → jk (jnew (jputr (jnew (jputr (jnew (jputr S18 a0 5 (some q17)) 14 4) a0 6 (some q21)) 15 5) a0 7 (some q24)) 12 60) a0 = 10 ∧ L_X10_init_85 E d Q a0 0 (jputr (jnew (jputr (jnew (jputr (jnew (jputr S18 a0 5 (some q17)) 14 4) a0 6 (some q21)) 15 5) a0 7 (some q24)) 12 60) a0 8 (some q27)) 65 898)))))) : jFv E mX10_init (d + 1) 93 1196 [.ref a0] S Q := by
  refine jF_of (by decide) (jle rfl) ?_
  refine jx_lv (lv1 := [(0, .ref a0)]) [0] rfl ?_
  refine jx_aload_n 0 dX10_init_0 rfl rfl ?_
  refine jx_objInit jwM_X10_3 jwN_obj jwO_obj dX10_init_1 (jRok_m _ _ _) (jle rfl) ?_
  refine jx_aload_n 0 dX10_init_4 rfl rfl ?_
  refine jx_new jc_3 jwK_X10_9 jwI_X3 jwZ_X3 jdv_3 dX10_init_5 ⟨jle rfl, jle rfl⟩ ?_
  obtain ⟨q1, hq1⟩ : ∃ q, q = jn S := ⟨_, rfl⟩
  rw [← hq1]
  replace h := h q1 hq1
  refine jx_dup dX10_init_8 rfl ?_
  refine jx_callINv (M' := mX3_init) (As := []) (b := q1) (host := "NineMasters") jo_X3_init rfl (by decide) jwN_X3_init rfl dX10_init_9 (jRok_m _ _ _) rfl (jle rfl) ⟨jle rfl, jle rfl⟩ h (fun S2 h => ?_)
  obtain ⟨hk3, h⟩ := h
  refine jx_putrF jc_10 (j := 0) (by decide) rfl jwF_X10_12 rfl rfl rfl rfl rfl dX10_init_12 hk3 ?_
  refine jx_aload_n 0 dX10_init_15 rfl rfl ?_
  refine jx_new jc_3 jwK_X10_9 jwI_X3 jwZ_X3 jdv_3 dX10_init_16 ⟨jle rfl, jle rfl⟩ ?_
  obtain ⟨q5, hq5⟩ : ∃ q, q = jn (jputr S2 a0 0 (some q1)) := ⟨_, rfl⟩
  rw [← hq5]
  replace h := h q5 hq5
  refine jx_dup dX10_init_19 rfl ?_
  refine jx_callINv (M' := mX3_init) (As := []) (b := q5) (host := "NineMasters") jo_X3_init rfl (by decide) jwN_X3_init rfl dX10_init_20 (jRok_m _ _ _) rfl (jle rfl) ⟨jle rfl, jle rfl⟩ h (fun S6 h => ?_)
  obtain ⟨hk7, h⟩ := h
  refine jx_putrF jc_10 (j := 1) (by decide) rfl jwF_X10_16 rfl rfl rfl rfl rfl dX10_init_23 hk7 ?_
  refine jx_aload_n 0 dX10_init_26 rfl rfl ?_
  refine jx_new jc_0 jwK_X10_19 jwI_X0 jwZ_X0 jdv_0 dX10_init_27 ⟨jle rfl, jle rfl⟩ ?_
  obtain ⟨q9, hq9⟩ : ∃ q, q = jn (jputr S6 a0 1 (some q5)) := ⟨_, rfl⟩
  rw [← hq9]
  replace h := h q9 hq9
  refine jx_dup dX10_init_30 rfl ?_
  refine jx_callIv (M' := mX0_init) (As := []) (b := q9) jo_X0_init rfl jwM_X10_21 jwN_X0_init rfl dX10_init_31 (jRok_m _ _ _) rfl (jle rfl) ⟨jle rfl, jle rfl⟩ h (fun S10 h => ?_)
  obtain ⟨hk11, h⟩ := h
  refine jx_putrF jc_10 (j := 3) (by decide) rfl jwF_X10_22 rfl rfl rfl rfl rfl dX10_init_34 hk11 ?_
  refine jx_aload_n 0 dX10_init_37 rfl rfl ?_
  refine jx_new jc_5 jwK_X10_26 jwI_X5 jwZ_X5 jdv_5 dX10_init_38 ⟨jle rfl, jle rfl⟩ ?_
  obtain ⟨q13, hq13⟩ : ∃ q, q = jn (jputr S10 a0 3 (some q9)) := ⟨_, rfl⟩
  rw [← hq13]
  replace h := h q13 hq13
  refine jx_dup dX10_init_41 rfl ?_
  refine jx_callINv (M' := mX5_init) (As := []) (b := q13) (host := "NineMasters") jo_X5_init rfl (by decide) jwN_X5_init rfl dX10_init_42 (jRok_m _ _ _) rfl (jle rfl) ⟨jle rfl, jle rfl⟩ h (fun S14 h => ?_)
  obtain ⟨hk15, h⟩ := h
  refine jx_putrF jc_10 (j := 4) (by decide) rfl jwF_X10_29 rfl rfl rfl rfl rfl dX10_init_45 hk15 ?_
  refine jx_aload_n 0 dX10_init_48 rfl rfl ?_
  refine jx_new jc_8 jwK_X10_33 jwI_X8 jwZ_X8 jdv_8 dX10_init_49 ⟨jle rfl, jle rfl⟩ ?_
  obtain ⟨q17, hq17⟩ : ∃ q, q = jn (jputr S14 a0 4 (some q13)) := ⟨_, rfl⟩
  rw [← hq17]
  replace h := h q17 hq17
  refine jx_dup dX10_init_52 rfl ?_
  refine jx_callINv (M' := mX8_init) (As := []) (b := q17) (host := "NineMasters") jo_X8_init rfl (by decide) jwN_X8_init rfl dX10_init_53 (jRok_m _ _ _) rfl (jle rfl) ⟨jle rfl, jle rfl⟩ h (fun S18 h => ?_)
  obtain ⟨hk19, h⟩ := h
  refine jx_putrF jc_10 (j := 5) (by decide) rfl jwF_X10_36 rfl rfl rfl rfl rfl dX10_init_56 hk19 ?_
  refine jx_aload_n 0 dX10_init_59 rfl rfl ?_
  refine jx_iconst (v := 4) dX10_init_60 (by decide) ?_
  refine jx_anew (kk := 14) (N := 4) jc_6 (by decide) (by decide) rfl jwK_X10_40 dX10_init_61 (by decide) (by decide) (by decide) ⟨jle rfl, jle rfl⟩ ?_
  obtain ⟨q21, hq21⟩ : ∃ q, q = jn (jputr S18 a0 5 (some q17)) := ⟨_, rfl⟩
  rw [← hq21]
  replace h := h q21 hq21
  obtain ⟨hk22, h⟩ := h
  refine jx_putrF jc_10 (j := 6) (by decide) rfl jwF_X10_42 rfl rfl rfl rfl rfl dX10_init_64 hk22 ?_
  refine jx_aload_n 0 dX10_init_67 rfl rfl ?_
  refine jx_iconst (v := 5) dX10_init_68 (by decide) ?_
  refine jx_anew (kk := 15) (N := 5) jc_7 (by decide) (by decide) rfl jwK_X10_46 dX10_init_69 (by decide) (by decide) (by decide) ⟨jle rfl, jle rfl⟩ ?_
  obtain ⟨q24, hq24⟩ : ∃ q, q = jn (jputr (jnew (jputr S18 a0 5 (some q17)) 14 4) a0 6 (some q21)) := ⟨_, rfl⟩
  rw [← hq24]
  replace h := h q24 hq24
  obtain ⟨hk25, h⟩ := h
  refine jx_putrF jc_10 (j := 7) (by decide) rfl jwF_X10_48 rfl rfl rfl rfl rfl dX10_init_72 hk25 ?_
  refine jx_aload_n 0 dX10_init_75 rfl rfl ?_
  refine jx_bipush (v := 60) dX10_init_76 (by decide) ?_
  refine jx_newa (N := 60) jwA dX10_init_78 (by decide) (by decide) (by decide) ⟨jle rfl, jle rfl⟩ ?_
  obtain ⟨q27, hq27⟩ : ∃ q, q = jn (jputr (jnew (jputr (jnew (jputr S18 a0 5 (some q17)) 14 4) a0 6 (some q21)) 15 5) a0 7 (some q24)) := ⟨_, rfl⟩
  rw [← hq27]
  replace h := h q27 hq27
  obtain ⟨hk28, h⟩ := h
  refine jx_putrF jc_10 (j := 8) (by decide) rfl jwF_X10_52 rfl rfl rfl rfl rfl dX10_init_80 hk28 ?_
  refine jx_iconst (v := 0) dX10_init_83 (by decide) ?_
  refine jx_istore_n (lv1 := [(1, .int 0), (0, .ref a0)]) dX10_init_84 rfl (by decide) rfl ?_
  exact jx_lv [1, 0] rfl h
set_option maxRecDepth 100000 in
set_option maxHeartbeats 4000000 in
theorem T_X10_init_85 {E : jEnv} {d : Nat} {Q : jM → Prop} {a0 : Nat} {x1 : Int32} {S : jM} {c9 k9 : Nat} (h : (4 ≤ x1 → L_X10_init_111 E d Q a0 0 S c9 k9) ∧ (¬ 4 ≤ x1 → jk S a0 = 10 ∧ ∃ b32, jr S a0 6 = some b32 ∧ ((c9 + 1 ≤ 93 ∧ k9 + 3 ≤ 1196) ∧ ∀ q34, q34 = jn S → ((c9 + 1) + 1 ≤ 93 ∧ (k9 + 3) + 24 ≤ 1196) ∧ jFv E mX6_init d 1 24 [.ref q34] (jnew S 6 0) (fun S36 => jk S36 b32 = 14 ∧ jk S36 q34 = 6 ∧ vp_in x1 (jl S36 b32) ∧ (L_X10_init_85 E d Q a0 (x1 + 1) (jputr S36 b32 (Int32.toNatClampNeg x1) (some q34)) ((c9 + 1) + 1) ((k9 + 3) + 24)))))) : L_X10_init_85 E d Q a0 x1 S c9 k9 := by
  show jX E mX10_init (jRm (d + 1) 93 1196) (jZm E (fun r S' => r = none ∧ Q S') 93 1196) 85 [(0, .ref a0), (1, .int x1)] [] S c9 k9
  refine jx_iload_n 1 dX10_init_85 rfl rfl ?_
  refine jx_iconst (v := 4) dX10_init_86 (by decide) ?_
  refine jx_icmp_ge (tgt := 109) dX10_init_87 (by decide) (fun c30 => ?_) (fun c30 => ?_)
  · replace h := h.1 c30
    refine jx_iconst (v := 0) dX10_init_109 (by decide) ?_
    refine jx_istore_n (lv1 := [(1, .int 0), (0, .ref a0)]) dX10_init_110 rfl (by decide) rfl ?_
    exact jx_lv [1, 0] rfl h
  replace h := h.2 c30
  refine jx_aload_n 0 dX10_init_90 rfl rfl ?_
  obtain ⟨hk31, h⟩ := h
  obtain ⟨b32, hb32, h⟩ := h
  refine jx_getr jc_10 (j := 6) (by decide) rfl jwF_X10_42 dX10_init_91 hk31 hb32 ?_
  refine jx_iload_n 1 dX10_init_94 rfl rfl ?_
  obtain ⟨hm33, h⟩ := h
  refine jx_new jc_6 jwK_X10_40 jwI_X6 jwZ_X6 jdv_6 dX10_init_95 hm33 ?_
  obtain ⟨q34, hq34⟩ : ∃ q, q = jn S := ⟨_, rfl⟩
  rw [← hq34]
  replace h := h q34 hq34
  refine jx_dup dX10_init_98 rfl ?_
  obtain ⟨hm35, h⟩ := h
  refine jx_callINv (M' := mX6_init) (As := []) (b := q34) (host := "NineMasters") jo_X6_init rfl (by decide) jwN_X6_init rfl dX10_init_99 (jRok_m _ _ _) rfl (jle rfl) hm35 h (fun S36 h => ?_)
  obtain ⟨hk37, h⟩ := h
  obtain ⟨hk39, h⟩ := h
  obtain ⟨hi38, h⟩ := h
  refine jx_aast dX10_init_102 hk37 (by decide) (by decide) jc_6 rfl hk39 hi38 ?_
  refine jx_iinc 1 (v := (x1 + 1)) (lv1 := [(1, .int (x1 + 1)), (0, .ref a0)]) dX10_init_103 rfl rfl (by decide) rfl ?_
  refine jx_goto (tgt := 85) dX10_init_106 (by decide) ?_
  exact jx_lv [1, 0] rfl h
set_option maxRecDepth 100000 in
set_option maxHeartbeats 4000000 in
theorem T_X10_init_111 {E : jEnv} {d : Nat} {Q : jM → Prop} {a0 : Nat} {x1 : Int32} {S : jM} {c9 k9 : Nat} (h : (5 ≤ x1 → (c9 ≤ 93 ∧ k9 ≤ 1196) ∧ Q S) ∧ (¬ 5 ≤ x1 → jk S a0 = 10 ∧ ∃ b43, jr S a0 7 = some b43 ∧ ((c9 + 1 ≤ 93 ∧ k9 + 4 ≤ 1196) ∧ ∀ q45, q45 = jn S → ((c9 + 1) + 3 ≤ 93 ∧ (k9 + 4) + 34 ≤ 1196) ∧ jFv E mX7_init d 3 34 [.ref q45] (jnew S 7 0) (fun S47 => jk S47 b43 = 15 ∧ jk S47 q45 = 7 ∧ vp_in x1 (jl S47 b43) ∧ (L_X10_init_111 E d Q a0 (x1 + 1) (jputr S47 b43 (Int32.toNatClampNeg x1) (some q45)) ((c9 + 1) + 3) ((k9 + 4) + 34)))))) : L_X10_init_111 E d Q a0 x1 S c9 k9 := by
  show jX E mX10_init (jRm (d + 1) 93 1196) (jZm E (fun r S' => r = none ∧ Q S') 93 1196) 111 [(0, .ref a0), (1, .int x1)] [] S c9 k9
  refine jx_iload_n 1 dX10_init_111 rfl rfl ?_
  refine jx_iconst (v := 5) dX10_init_112 (by decide) ?_
  refine jx_icmp_ge (tgt := 135) dX10_init_113 (by decide) (fun c40 => ?_) (fun c40 => ?_)
  · replace h := h.1 c40
    obtain ⟨hm41, h⟩ := h
    exact jx_vret dX10_init_135 rfl hm41.1 hm41.2 ⟨rfl, h⟩
  replace h := h.2 c40
  refine jx_aload_n 0 dX10_init_116 rfl rfl ?_
  obtain ⟨hk42, h⟩ := h
  obtain ⟨b43, hb43, h⟩ := h
  refine jx_getr jc_10 (j := 7) (by decide) rfl jwF_X10_48 dX10_init_117 hk42 hb43 ?_
  refine jx_iload_n 1 dX10_init_120 rfl rfl ?_
  obtain ⟨hm44, h⟩ := h
  refine jx_new jc_7 jwK_X10_46 jwI_X7 jwZ_X7 jdv_7 dX10_init_121 hm44 ?_
  obtain ⟨q45, hq45⟩ : ∃ q, q = jn S := ⟨_, rfl⟩
  rw [← hq45]
  replace h := h q45 hq45
  refine jx_dup dX10_init_124 rfl ?_
  obtain ⟨hm46, h⟩ := h
  refine jx_callINv (M' := mX7_init) (As := []) (b := q45) (host := "NineMasters") jo_X7_init rfl (by decide) jwN_X7_init rfl dX10_init_125 (jRok_m _ _ _) rfl (jle rfl) hm46 h (fun S47 h => ?_)
  obtain ⟨hk48, h⟩ := h
  obtain ⟨hk50, h⟩ := h
  obtain ⟨hi49, h⟩ := h
  refine jx_aast dX10_init_128 hk48 (by decide) (by decide) jc_7 rfl hk50 hi49 ?_
  refine jx_iinc 1 (v := (x1 + 1)) (lv1 := [(1, .int (x1 + 1)), (0, .ref a0)]) dX10_init_129 rfl rfl (by decide) rfl ?_
  refine jx_goto (tgt := 111) dX10_init_132 (by decide) ?_
  exact jx_lv [1, 0] rfl h
set_option maxRecDepth 100000 in
set_option maxHeartbeats 4000000 in
theorem T_X10_master {E : jEnv} {d : Nat} {Q : Int32 → jM → Prop} {a0 : Nat} {x1 : Int32} {x2 : Int32} {x3 : Int32} {x4 : Int32} {S : jM} (h : ((jwi x1 6) = 0 → Q (-1000000001) S) ∧ (¬ (jwi x1 6) = 0 → ((jwi x2 6) = 0 → Q (-1000000001) S) ∧ (¬ (jwi x2 6) = 0 → ((jwi x3 10) = 0 → Q (-1000000001) S) ∧ (¬ (jwi x3 10) = 0 → ((jwi x4 100) = 0 → Q (-1000000001) S) ∧ (¬ (jwi x4 100) = 0 → jk S a0 = 10 ∧ ∃ b18, jr S a0 0 = some b18 ∧ (jk S b18 = 3 ∧ ∃ b20, jr S b18 0 = some b20 ∧ (jk S b20 = 0 ∧ jFi E mX0_join d 0 0 [.ref b20, .int x1, .int x2, .int x3, .int x4] S (fun r23 S22 => (r23 = 0 → Q (-1000000003) S22) ∧ (¬ r23 = 0 → Q (ji S b20 1) S22))))))))) : jFi E mX10_master (d + 1) 0 0 [.ref a0, .int x1, .int x2, .int x3, .int x4] S Q := by
  refine jF_of (by decide) (jle rfl) ?_
  refine jx_lv (lv1 := [(0, .ref a0), (1, .int x1), (2, .int x2), (3, .int x3), (4, .int x4)]) [0, 1, 2, 3, 4] rfl ?_
  refine jx_iload_n 1 dX10_master_0 rfl rfl ?_
  refine jx_bipush (v := 6) dX10_master_1 (by decide) ?_
  refine jx_callSi (M' := mX10_within) (As := [.int x1, .int 6]) jo_X10_within jwM_X10_58 jwS_X10_within dX10_master_3 (jRok_m _ _ _) rfl (jle rfl) ⟨jle rfl, jle rfl⟩ (c_X10_within (Q := fun v S' => v = (jwi x1 6) ∧ S = S') ⟨rfl, rfl⟩) (fun r1 S2 hq3 => ?_)
  obtain ⟨rfl, rfl⟩ := hq3
  refine jx_if_eq (tgt := 37) dX10_master_6 (by decide) (fun c4 => ?_) (fun c4 => ?_)
  · replace h := h.1 c4
    refine jx_ldc jwC_X10_62 dX10_master_37 ?_
    exact jx_iret dX10_master_39 rfl rfl (jle rfl) (jle rfl) ⟨_, rfl, h⟩
  replace h := h.2 c4
  refine jx_iload_n 2 dX10_master_9 rfl rfl ?_
  refine jx_bipush (v := 6) dX10_master_10 (by decide) ?_
  refine jx_callSi (M' := mX10_within) (As := [.int x2, .int 6]) jo_X10_within jwM_X10_58 jwS_X10_within dX10_master_12 (jRok_m _ _ _) rfl (jle rfl) ⟨jle rfl, jle rfl⟩ (c_X10_within (Q := fun v S' => v = (jwi x2 6) ∧ S = S') ⟨rfl, rfl⟩) (fun r5 S6 hq7 => ?_)
  obtain ⟨rfl, rfl⟩ := hq7
  refine jx_if_eq (tgt := 37) dX10_master_15 (by decide) (fun c8 => ?_) (fun c8 => ?_)
  · replace h := h.1 c8
    refine jx_ldc jwC_X10_62 dX10_master_37 ?_
    exact jx_iret dX10_master_39 rfl rfl (jle rfl) (jle rfl) ⟨_, rfl, h⟩
  replace h := h.2 c8
  refine jx_iload_n 3 dX10_master_18 rfl rfl ?_
  refine jx_bipush (v := 10) dX10_master_19 (by decide) ?_
  refine jx_callSi (M' := mX10_within) (As := [.int x3, .int 10]) jo_X10_within jwM_X10_58 jwS_X10_within dX10_master_21 (jRok_m _ _ _) rfl (jle rfl) ⟨jle rfl, jle rfl⟩ (c_X10_within (Q := fun v S' => v = (jwi x3 10) ∧ S = S') ⟨rfl, rfl⟩) (fun r9 S10 hq11 => ?_)
  obtain ⟨rfl, rfl⟩ := hq11
  refine jx_if_eq (tgt := 37) dX10_master_24 (by decide) (fun c12 => ?_) (fun c12 => ?_)
  · replace h := h.1 c12
    refine jx_ldc jwC_X10_62 dX10_master_37 ?_
    exact jx_iret dX10_master_39 rfl rfl (jle rfl) (jle rfl) ⟨_, rfl, h⟩
  replace h := h.2 c12
  refine jx_iload 4 dX10_master_27 rfl ?_
  refine jx_bipush (v := 100) dX10_master_29 (by decide) ?_
  refine jx_callSi (M' := mX10_within) (As := [.int x4, .int 100]) jo_X10_within jwM_X10_58 jwS_X10_within dX10_master_31 (jRok_m _ _ _) rfl (jle rfl) ⟨jle rfl, jle rfl⟩ (c_X10_within (Q := fun v S' => v = (jwi x4 100) ∧ S = S') ⟨rfl, rfl⟩) (fun r13 S14 hq15 => ?_)
  obtain ⟨rfl, rfl⟩ := hq15
  refine jx_if_ne (tgt := 40) dX10_master_34 (by decide) (fun c16 => ?_) (fun c16 => ?_)
  · replace h := h.2 c16
    refine jx_aload_n 0 dX10_master_40 rfl rfl ?_
    obtain ⟨hk17, h⟩ := h
    obtain ⟨b18, hb18, h⟩ := h
    refine jx_getr jc_10 (j := 0) (by decide) rfl jwF_X10_12 dX10_master_41 hk17 hb18 ?_
    obtain ⟨hk19, h⟩ := h
    obtain ⟨b20, hb20, h⟩ := h
    refine jx_getr jc_3 (j := 0) (by decide) rfl jwF_X10_63 dX10_master_44 hk19 hb20 ?_
    obtain ⟨hk21, h⟩ := h
    refine jx_geti jc_0 (j := 1) (by decide) rfl jwF_X10_66 dX10_master_47 hk21 ?_
    refine jx_istore (lv1 := [(5, .int (ji S b20 1)), (0, .ref a0), (1, .int x1), (2, .int x2), (3, .int x3), (4, .int x4)]) dX10_master_50 (by decide) rfl ?_
    refine jx_aload_n 1 dX10_master_52 rfl rfl ?_
    refine jx_getr jc_10 (j := 0) (by decide) rfl jwF_X10_12 dX10_master_53 hk17 hb18 ?_
    refine jx_getr jc_3 (j := 0) (by decide) rfl jwF_X10_63 dX10_master_56 hk19 hb20 ?_
    refine jx_iload_n 2 dX10_master_59 rfl rfl ?_
    refine jx_iload_n 3 dX10_master_60 rfl rfl ?_
    refine jx_iload_n 4 dX10_master_61 rfl rfl ?_
    refine jx_iload 5 dX10_master_62 rfl ?_
    refine jx_callVi (M' := mX0_join) (As := [.int x1, .int x2, .int x3, .int x4]) jo_X0_join jc_0 rfl jwM_X10_70 jwN_X0_join jwX_X0_join dX10_master_64 (jRok_m _ _ _) rfl (jle rfl) ⟨jle rfl, jle rfl⟩ hk21 h (fun r23 S22 h => ?_)
    refine jx_if_eq (tgt := 75) dX10_master_67 (by decide) (fun c24 => ?_) (fun c24 => ?_)
    · replace h := h.1 c24
      refine jx_ldc jwC_X10_74 dX10_master_75 ?_
      exact jx_iret dX10_master_77 rfl rfl (jle rfl) (jle rfl) ⟨_, rfl, h⟩
    replace h := h.2 c24
    refine jx_iload 0 dX10_master_70 rfl ?_
    refine jx_goto (tgt := 77) dX10_master_72 (by decide) ?_
    exact jx_iret dX10_master_77 rfl rfl (jle rfl) (jle rfl) ⟨_, rfl, h⟩
  replace h := h.1 c16
  refine jx_ldc jwC_X10_62 dX10_master_37 ?_
  exact jx_iret dX10_master_39 rfl rfl (jle rfl) (jle rfl) ⟨_, rfl, h⟩
set_option maxRecDepth 100000 in
set_option maxHeartbeats 4000000 in
theorem T_X10_told {E : jEnv} {d : Nat} {Q : Int32 → jM → Prop} {a0 : Nat} {x1 : Int32} {x2 : Int32} {S : jM} (h : jk S a0 = 10 ∧ ∃ b2, jr S a0 0 = some b2 ∧ (jk S b2 = 3 ∧ ∃ b4, jr S b2 0 = some b4 ∧ (jk S b4 = 0 ∧ jFr E mX0_find d 0 0 [.ref b4, .int x1] S (fun o7 S6 => (o7 = none → Q (-1000000001) S6) ∧ (∀ b8, o7 = some b8 → jk S6 a0 = 10 ∧ ∃ b10, jr S6 a0 0 = some b10 ∧ (jk S6 b10 = 3 ∧ ∃ b12, jr S6 b10 2 = some b12 ∧ ((x2 = 0 → jk S6 b8 = 2 ∧ Q (ji S6 b8 0) S6) ∧ (x2 = 1 → jk S6 b8 = 2 ∧ Q (ji S6 b8 1) S6) ∧ (x2 = 2 → jk S6 b8 = 2 ∧ Q (ji S6 b8 2) S6) ∧ (x2 = 3 → jk S6 b8 = 2 ∧ Q (ji S6 b8 3) S6) ∧ (x2 = 4 → jk S6 b8 = 2 ∧ Q (ji S6 b8 4) S6) ∧ (x2 = 5 → jk S6 b8 = 2 ∧ Q (ji S6 b8 5) S6) ∧ (x2 = 6 → jk S6 b8 = 2 ∧ ((ji S6 b8 6) = 0 → Q 0 S6) ∧ (¬ (ji S6 b8 6) = 0 → Q 1 S6)) ∧ (x2 = 7 → jk S6 b12 = 1 ∧ jFi E mX3_daysTaken d 0 0 [.ref b10, .ref b8, .int (jbc (ji S6 b12 1))] S6 (fun r34 S33 => Q r34 S33)) ∧ (x2 = 8 → jk S6 b12 = 1 ∧ jk S6 b8 = 2 ∧ jFi E mX2_teaches d 0 0 [.ref b8, .int (ji S6 b12 1)] S6 (fun r39 S38 => (r39 = 0 → Q 0 S38) ∧ (¬ r39 = 0 → Q 1 S38))) ∧ (x2 = 9 → jk S6 b8 = 2 ∧ jFi E mX2_worth d 0 0 [.ref b8] S6 (fun r44 S43 => Q r44 S43)) ∧ (¬ x2 = 0 → ¬ x2 = 1 → ¬ x2 = 2 → ¬ x2 = 3 → ¬ x2 = 4 → ¬ x2 = 5 → ¬ x2 = 6 → ¬ x2 = 7 → ¬ x2 = 8 → ¬ x2 = 9 → Q (-1000000001) S6)))))))) : jFi E mX10_told (d + 1) 0 0 [.ref a0, .int x1, .int x2] S Q := by
  refine jF_of (by decide) (jle rfl) ?_
  refine jx_lv (lv1 := [(0, .ref a0), (1, .int x1), (2, .int x2)]) [0, 1, 2] rfl ?_
  refine jx_aload_n 0 dX10_told_0 rfl rfl ?_
  obtain ⟨hk1, h⟩ := h
  obtain ⟨b2, hb2, h⟩ := h
  refine jx_getr jc_10 (j := 0) (by decide) rfl jwF_X10_12 dX10_told_1 hk1 hb2 ?_
  obtain ⟨hk3, h⟩ := h
  obtain ⟨b4, hb4, h⟩ := h
  refine jx_getr jc_3 (j := 0) (by decide) rfl jwF_X10_63 dX10_told_4 hk3 hb4 ?_
  refine jx_iload_n 1 dX10_told_7 rfl rfl ?_
  obtain ⟨hk5, h⟩ := h
  refine jx_callVr (M' := mX0_find) (As := [.int x1]) jo_X0_find jc_0 rfl jwM_X10_75 jwN_X0_find jwX_X0_find dX10_told_8 (jRok_m _ _ _) rfl (jle rfl) ⟨jle rfl, jle rfl⟩ hk5 h (fun o7 S6 h => ?_)
  rcases o7 with _ | b8
  · replace h := h.1 rfl
    refine jx_astore_nN (lv1 := [(3, .null), (0, .ref a0), (1, .int x1), (2, .int x2)]) dX10_told_11 rfl (by decide) rfl ?_
    refine jx_aload_nN 0 dX10_told_12 rfl rfl ?_
    refine jx_ifnonnullN dX10_told_13 ?_
    refine jx_ldc jwC_X10_62 dX10_told_16 ?_
    exact jx_iret dX10_told_18 rfl rfl (jle rfl) (jle rfl) ⟨_, rfl, h⟩
  replace h := h.2 b8 rfl
  refine jx_astore_n (lv1 := [(3, .ref b8), (0, .ref a0), (1, .int x1), (2, .int x2)]) dX10_told_11 rfl (by decide) rfl ?_
  refine jx_aload_n 0 dX10_told_12 rfl rfl ?_
  refine jx_ifnonnull (tgt := 19) dX10_told_13 (by decide) ?_
  refine jx_aload_n 1 dX10_told_19 rfl rfl ?_
  obtain ⟨hk9, h⟩ := h
  obtain ⟨b10, hb10, h⟩ := h
  refine jx_getr jc_10 (j := 0) (by decide) rfl jwF_X10_12 dX10_told_20 hk9 hb10 ?_
  obtain ⟨hk11, h⟩ := h
  obtain ⟨b12, hb12, h⟩ := h
  refine jx_getr jc_3 (j := 2) (by decide) rfl jwF_X10_79 dX10_told_23 hk11 hb12 ?_
  refine jx_astore (lv1 := [(4, .ref b12), (3, .ref b8), (0, .ref a0), (1, .int x1), (2, .int x2)]) dX10_told_26 (by decide) rfl ?_
  refine jx_iload_n 4 dX10_told_28 rfl rfl ?_
  by_cases c13 : x2 = 0
  · replace h := h.1 c13
    refine jx_tableIn (v := 0) (tgt := 84) (off := 55) dX10_told_29 c13 (by decide) (by decide) (by decide) (by decide) ?_
    refine jx_aload_n 1 dX10_told_84 rfl rfl ?_
    obtain ⟨hk14, h⟩ := h
    refine jx_geti jc_2 (j := 0) (by decide) rfl jwF_X10_83 dX10_told_85 hk14 ?_
    exact jx_iret dX10_told_88 rfl rfl (jle rfl) (jle rfl) ⟨_, rfl, h⟩
  replace h := h.2
  by_cases c15 : x2 = 1
  · replace h := h.1 c15
    refine jx_tableIn (v := 1) (tgt := 89) (off := 60) dX10_told_29 c15 (by decide) (by decide) (by decide) (by decide) ?_
    refine jx_aload_n 1 dX10_told_89 rfl rfl ?_
    obtain ⟨hk16, h⟩ := h
    refine jx_geti jc_2 (j := 1) (by decide) rfl jwF_X10_88 dX10_told_90 hk16 ?_
    exact jx_iret dX10_told_93 rfl rfl (jle rfl) (jle rfl) ⟨_, rfl, h⟩
  replace h := h.2
  by_cases c17 : x2 = 2
  · replace h := h.1 c17
    refine jx_tableIn (v := 2) (tgt := 94) (off := 65) dX10_told_29 c17 (by decide) (by decide) (by decide) (by decide) ?_
    refine jx_aload_n 1 dX10_told_94 rfl rfl ?_
    obtain ⟨hk18, h⟩ := h
    refine jx_geti jc_2 (j := 2) (by decide) rfl jwF_X10_91 dX10_told_95 hk18 ?_
    exact jx_iret dX10_told_98 rfl rfl (jle rfl) (jle rfl) ⟨_, rfl, h⟩
  replace h := h.2
  by_cases c19 : x2 = 3
  · replace h := h.1 c19
    refine jx_tableIn (v := 3) (tgt := 99) (off := 70) dX10_told_29 c19 (by decide) (by decide) (by decide) (by decide) ?_
    refine jx_aload_n 1 dX10_told_99 rfl rfl ?_
    obtain ⟨hk20, h⟩ := h
    refine jx_geti jc_2 (j := 3) (by decide) rfl jwF_X10_94 dX10_told_100 hk20 ?_
    exact jx_iret dX10_told_103 rfl rfl (jle rfl) (jle rfl) ⟨_, rfl, h⟩
  replace h := h.2
  by_cases c21 : x2 = 4
  · replace h := h.1 c21
    refine jx_tableIn (v := 4) (tgt := 104) (off := 75) dX10_told_29 c21 (by decide) (by decide) (by decide) (by decide) ?_
    refine jx_aload_n 1 dX10_told_104 rfl rfl ?_
    obtain ⟨hk22, h⟩ := h
    refine jx_geti jc_2 (j := 4) (by decide) rfl jwF_X10_97 dX10_told_105 hk22 ?_
    exact jx_iret dX10_told_108 rfl rfl (jle rfl) (jle rfl) ⟨_, rfl, h⟩
  replace h := h.2
  by_cases c23 : x2 = 5
  · replace h := h.1 c23
    refine jx_tableIn (v := 5) (tgt := 109) (off := 80) dX10_told_29 c23 (by decide) (by decide) (by decide) (by decide) ?_
    refine jx_aload_n 1 dX10_told_109 rfl rfl ?_
    obtain ⟨hk24, h⟩ := h
    refine jx_geti jc_2 (j := 5) (by decide) rfl jwF_X10_100 dX10_told_110 hk24 ?_
    exact jx_iret dX10_told_113 rfl rfl (jle rfl) (jle rfl) ⟨_, rfl, h⟩
  replace h := h.2
  by_cases c25 : x2 = 6
  · replace h := h.1 c25
    refine jx_tableIn (v := 6) (tgt := 114) (off := 85) dX10_told_29 c25 (by decide) (by decide) (by decide) (by decide) ?_
    refine jx_aload_n 1 dX10_told_114 rfl rfl ?_
    obtain ⟨hk26, h⟩ := h
    refine jx_geti jc_2 (j := 6) (by decide) rfl jwF_X10_103 dX10_told_115 hk26 ?_
    refine jx_if_eq (tgt := 125) dX10_told_118 (by decide) (fun c27 => ?_) (fun c27 => ?_)
    · replace h := h.1 c27
      refine jx_iconst (v := 0) dX10_told_125 (by decide) ?_
      exact jx_iret dX10_told_126 rfl rfl (jle rfl) (jle rfl) ⟨_, rfl, h⟩
    replace h := h.2 c27
    refine jx_iconst (v := 1) dX10_told_121 (by decide) ?_
    refine jx_goto (tgt := 126) dX10_told_122 (by decide) ?_
    exact jx_iret dX10_told_126 rfl rfl (jle rfl) (jle rfl) ⟨_, rfl, h⟩
  replace h := h.2
  by_cases c28 : x2 = 7
  · replace h := h.1 c28
    refine jx_tableIn (v := 7) (tgt := 127) (off := 98) dX10_told_29 c28 (by decide) (by decide) (by decide) (by decide) ?_
    refine jx_aload_n 2 dX10_told_127 rfl rfl ?_
    refine jx_getr jc_10 (j := 0) (by decide) rfl jwF_X10_12 dX10_told_128 hk9 hb10 ?_
    refine jx_aload_n 1 dX10_told_131 rfl rfl ?_
    refine jx_aload 0 dX10_told_132 rfl ?_
    obtain ⟨hk29, h⟩ := h
    refine jx_geti jc_1 (j := 1) (by decide) rfl jwF_X10_107 dX10_told_134 hk29 ?_
    refine jx_callSi (M' := mJ6_bitCount_0f7a4) (As := [.int (ji S6 b12 1)]) jo_J6_bitCount_0f7a4 jwM_X10_112 jwS_J6_bitCount_0f7a4 dX10_told_137 (jRok_m _ _ _) rfl (jle rfl) ⟨jle rfl, jle rfl⟩ (c_J6_bitCount_0f7a4 (Q := fun v S' => v = (jbc (ji S6 b12 1)) ∧ S6 = S') ⟨rfl, rfl⟩) (fun r30 S31 hq32 => ?_)
    obtain ⟨rfl, rfl⟩ := hq32
    refine jx_callVi (M' := mX3_daysTaken) (As := [.ref b8, .int (jbc (ji S6 b12 1))]) jo_X3_daysTaken jc_3 rfl jwM_X10_118 jwN_X3_daysTaken jwX_X3_daysTaken dX10_told_140 (jRok_m _ _ _) rfl (jle rfl) ⟨jle rfl, jle rfl⟩ hk11 h (fun r34 S33 h => ?_)
    exact jx_iret dX10_told_143 rfl rfl (jle rfl) (jle rfl) ⟨_, rfl, h⟩
  replace h := h.2
  by_cases c35 : x2 = 8
  · replace h := h.1 c35
    refine jx_tableIn (v := 8) (tgt := 144) (off := 115) dX10_told_29 c35 (by decide) (by decide) (by decide) (by decide) ?_
    refine jx_aload_n 1 dX10_told_144 rfl rfl ?_
    refine jx_aload 0 dX10_told_145 rfl ?_
    obtain ⟨hk36, h⟩ := h
    refine jx_geti jc_1 (j := 1) (by decide) rfl jwF_X10_107 dX10_told_147 hk36 ?_
    obtain ⟨hk37, h⟩ := h
    refine jx_callVi (M' := mX2_teaches) (As := [.int (ji S6 b12 1)]) jo_X2_teaches jc_2 rfl jwM_X10_122 jwN_X2_teaches jwX_X2_teaches dX10_told_150 (jRok_m _ _ _) rfl (jle rfl) ⟨jle rfl, jle rfl⟩ hk37 h (fun r39 S38 h => ?_)
    refine jx_if_eq (tgt := 160) dX10_told_153 (by decide) (fun c40 => ?_) (fun c40 => ?_)
    · replace h := h.1 c40
      refine jx_iconst (v := 0) dX10_told_160 (by decide) ?_
      exact jx_iret dX10_told_161 rfl rfl (jle rfl) (jle rfl) ⟨_, rfl, h⟩
    replace h := h.2 c40
    refine jx_iconst (v := 1) dX10_told_156 (by decide) ?_
    refine jx_goto (tgt := 161) dX10_told_157 (by decide) ?_
    exact jx_iret dX10_told_161 rfl rfl (jle rfl) (jle rfl) ⟨_, rfl, h⟩
  replace h := h.2
  by_cases c41 : x2 = 9
  · replace h := h.1 c41
    refine jx_tableIn (v := 9) (tgt := 162) (off := 133) dX10_told_29 c41 (by decide) (by decide) (by decide) (by decide) ?_
    refine jx_aload_n 1 dX10_told_162 rfl rfl ?_
    obtain ⟨hk42, h⟩ := h
    refine jx_callVi (M' := mX2_worth) (As := []) jo_X2_worth jc_2 rfl jwM_X10_126 jwN_X2_worth jwX_X2_worth dX10_told_163 (jRok_m _ _ _) rfl (jle rfl) ⟨jle rfl, jle rfl⟩ hk42 h (fun r44 S43 h => ?_)
    exact jx_iret dX10_told_166 rfl rfl (jle rfl) (jle rfl) ⟨_, rfl, h⟩
  replace h := h.2
  replace h := h c13 c15 c17 c19 c21 c23 c25 c28 c35 c41
  refine jx_tableD (tgt := 167) ([0, 1, 2, 3, 4, 5, 6, 7, 8, 9] : List Int) dX10_told_29 (by simp only [List.mem_cons, List.not_mem_nil, or_false, forall_eq_or_imp, forall_eq]; exact ⟨lv_neT c13 (by decide), lv_neT c15 (by decide), lv_neT c17 (by decide), lv_neT c19 (by decide), lv_neT c21 (by decide), lv_neT c23 (by decide), lv_neT c25 (by decide), lv_neT c28 (by decide), lv_neT c35 (by decide), lv_neT c41 (by decide)⟩) (by decide) (by decide) (by decide) ?_
  refine jx_ldc jwC_X10_62 dX10_told_167 ?_
  exact jx_iret dX10_told_169 rfl rfl (jle rfl) (jle rfl) ⟨_, rfl, h⟩
set_option maxRecDepth 100000 in
set_option maxHeartbeats 4000000 in
theorem T_X10_as {E : jEnv} {d : Nat} {Q : Int32 → jM → Prop} {a0 : Nat} {x1 : Int32} {x2 : Int32} {S : jM} (h : jk S a0 = 10 ∧ ∃ b2, jr S a0 0 = some b2 ∧ (jk S b2 = 3 ∧ ∃ b4, jr S b2 0 = some b4 ∧ (jk S b4 = 0 ∧ jFr E mX0_find d 0 0 [.ref b4, .int x1] S (fun o7 S6 => (o7 = none → Q (-1000000001) S6) ∧ (∀ b8, o7 = some b8 → ((jwi x2 6) = 0 → Q (-1000000001) S6) ∧ (¬ (jwi x2 6) = 0 → jk S6 b8 = 2 ∧ jFi E mX2_isOf d 0 0 [.ref b8, .int x2] S6 (fun r15 S14 => (r15 = 0 → Q (-1000000012) S14) ∧ (¬ r15 = 0 → jk S14 b8 = 2 ∧ Q (ji S14 b8 4) S14)))))))) : jFi E mX10_as (d + 1) 0 0 [.ref a0, .int x1, .int x2] S Q := by
  refine jF_of (by decide) (jle rfl) ?_
  refine jx_lv (lv1 := [(0, .ref a0), (1, .int x1), (2, .int x2)]) [0, 1, 2] rfl ?_
  refine jx_aload_n 0 dX10_as_0 rfl rfl ?_
  obtain ⟨hk1, h⟩ := h
  obtain ⟨b2, hb2, h⟩ := h
  refine jx_getr jc_10 (j := 0) (by decide) rfl jwF_X10_12 dX10_as_1 hk1 hb2 ?_
  obtain ⟨hk3, h⟩ := h
  obtain ⟨b4, hb4, h⟩ := h
  refine jx_getr jc_3 (j := 0) (by decide) rfl jwF_X10_63 dX10_as_4 hk3 hb4 ?_
  refine jx_iload_n 1 dX10_as_7 rfl rfl ?_
  obtain ⟨hk5, h⟩ := h
  refine jx_callVr (M' := mX0_find) (As := [.int x1]) jo_X0_find jc_0 rfl jwM_X10_75 jwN_X0_find jwX_X0_find dX10_as_8 (jRok_m _ _ _) rfl (jle rfl) ⟨jle rfl, jle rfl⟩ hk5 h (fun o7 S6 h => ?_)
  rcases o7 with _ | b8
  · replace h := h.1 rfl
    refine jx_astore_nN (lv1 := [(3, .null), (0, .ref a0), (1, .int x1), (2, .int x2)]) dX10_as_11 rfl (by decide) rfl ?_
    refine jx_aload_nN 0 dX10_as_12 rfl rfl ?_
    refine jx_ifnullN (tgt := 25) dX10_as_13 (by decide) ?_
    refine jx_ldc jwC_X10_62 dX10_as_25 ?_
    exact jx_iret dX10_as_27 rfl rfl (jle rfl) (jle rfl) ⟨_, rfl, h⟩
  replace h := h.2 b8 rfl
  refine jx_astore_n (lv1 := [(3, .ref b8), (0, .ref a0), (1, .int x1), (2, .int x2)]) dX10_as_11 rfl (by decide) rfl ?_
  refine jx_aload_n 0 dX10_as_12 rfl rfl ?_
  refine jx_ifnull dX10_as_13 ?_
  refine jx_iload_n 3 dX10_as_16 rfl rfl ?_
  refine jx_bipush (v := 6) dX10_as_17 (by decide) ?_
  refine jx_callSi (M' := mX10_within) (As := [.int x2, .int 6]) jo_X10_within jwM_X10_58 jwS_X10_within dX10_as_19 (jRok_m _ _ _) rfl (jle rfl) ⟨jle rfl, jle rfl⟩ (c_X10_within (Q := fun v S' => v = (jwi x2 6) ∧ S6 = S') ⟨rfl, rfl⟩) (fun r9 S10 hq11 => ?_)
  obtain ⟨rfl, rfl⟩ := hq11
  refine jx_if_ne (tgt := 28) dX10_as_22 (by decide) (fun c12 => ?_) (fun c12 => ?_)
  · replace h := h.2 c12
    refine jx_aload_n 0 dX10_as_28 rfl rfl ?_
    refine jx_iload_n 3 dX10_as_29 rfl rfl ?_
    obtain ⟨hk13, h⟩ := h
    refine jx_callVi (M' := mX2_isOf) (As := [.int x2]) jo_X2_isOf jc_2 rfl jwM_X10_130 jwN_X2_isOf jwX_X2_isOf dX10_as_30 (jRok_m _ _ _) rfl (jle rfl) ⟨jle rfl, jle rfl⟩ hk13 h (fun r15 S14 h => ?_)
    refine jx_if_eq (tgt := 43) dX10_as_33 (by decide) (fun c16 => ?_) (fun c16 => ?_)
    · replace h := h.1 c16
      refine jx_ldc jwC_X10_133 dX10_as_43 ?_
      exact jx_iret dX10_as_45 rfl rfl (jle rfl) (jle rfl) ⟨_, rfl, h⟩
    replace h := h.2 c16
    refine jx_aload_n 0 dX10_as_36 rfl rfl ?_
    obtain ⟨hk17, h⟩ := h
    refine jx_geti jc_2 (j := 4) (by decide) rfl jwF_X10_97 dX10_as_37 hk17 ?_
    refine jx_goto (tgt := 45) dX10_as_40 (by decide) ?_
    exact jx_iret dX10_as_45 rfl rfl (jle rfl) (jle rfl) ⟨_, rfl, h⟩
  replace h := h.1 c12
  refine jx_ldc jwC_X10_62 dX10_as_25 ?_
  exact jx_iret dX10_as_27 rfl rfl (jle rfl) (jle rfl) ⟨_, rfl, h⟩
set_option maxRecDepth 100000 in
set_option maxHeartbeats 4000000 in
theorem T_X10_turns {E : jEnv} {d : Nat} {Q : Int32 → jM → Prop} {a0 : Nat} {x1 : Int32} {x2 : Int32} {S : jM} (h : jk S a0 = 10 ∧ ∃ b2, jr S a0 0 = some b2 ∧ (jk S b2 = 3 ∧ ∃ b4, jr S b2 0 = some b4 ∧ (jk S b4 = 0 ∧ jFr E mX0_find d 0 0 [.ref b4, .int x1] S (fun o7 S6 => (o7 = none → Q (-1000000001) S6) ∧ (∀ b8, o7 = some b8 → ((jwi x2 6) = 0 → Q (-1000000001) S6) ∧ (¬ (jwi x2 6) = 0 → jk S6 b8 = 2 ∧ Q (ji S6 b8 0) (jput S6 b8 0 x2))))))) : jFi E mX10_turns (d + 1) 0 0 [.ref a0, .int x1, .int x2] S Q := by
  refine jF_of (by decide) (jle rfl) ?_
  refine jx_lv (lv1 := [(0, .ref a0), (1, .int x1), (2, .int x2)]) [0, 1, 2] rfl ?_
  refine jx_aload_n 0 dX10_turns_0 rfl rfl ?_
  obtain ⟨hk1, h⟩ := h
  obtain ⟨b2, hb2, h⟩ := h
  refine jx_getr jc_10 (j := 0) (by decide) rfl jwF_X10_12 dX10_turns_1 hk1 hb2 ?_
  obtain ⟨hk3, h⟩ := h
  obtain ⟨b4, hb4, h⟩ := h
  refine jx_getr jc_3 (j := 0) (by decide) rfl jwF_X10_63 dX10_turns_4 hk3 hb4 ?_
  refine jx_iload_n 1 dX10_turns_7 rfl rfl ?_
  obtain ⟨hk5, h⟩ := h
  refine jx_callVr (M' := mX0_find) (As := [.int x1]) jo_X0_find jc_0 rfl jwM_X10_75 jwN_X0_find jwX_X0_find dX10_turns_8 (jRok_m _ _ _) rfl (jle rfl) ⟨jle rfl, jle rfl⟩ hk5 h (fun o7 S6 h => ?_)
  rcases o7 with _ | b8
  · replace h := h.1 rfl
    refine jx_astore_nN (lv1 := [(3, .null), (0, .ref a0), (1, .int x1), (2, .int x2)]) dX10_turns_11 rfl (by decide) rfl ?_
    refine jx_aload_nN 0 dX10_turns_12 rfl rfl ?_
    refine jx_ifnullN (tgt := 25) dX10_turns_13 (by decide) ?_
    refine jx_ldc jwC_X10_62 dX10_turns_25 ?_
    exact jx_iret dX10_turns_27 rfl rfl (jle rfl) (jle rfl) ⟨_, rfl, h⟩
  replace h := h.2 b8 rfl
  refine jx_astore_n (lv1 := [(3, .ref b8), (0, .ref a0), (1, .int x1), (2, .int x2)]) dX10_turns_11 rfl (by decide) rfl ?_
  refine jx_aload_n 0 dX10_turns_12 rfl rfl ?_
  refine jx_ifnull dX10_turns_13 ?_
  refine jx_iload_n 3 dX10_turns_16 rfl rfl ?_
  refine jx_bipush (v := 6) dX10_turns_17 (by decide) ?_
  refine jx_callSi (M' := mX10_within) (As := [.int x2, .int 6]) jo_X10_within jwM_X10_58 jwS_X10_within dX10_turns_19 (jRok_m _ _ _) rfl (jle rfl) ⟨jle rfl, jle rfl⟩ (c_X10_within (Q := fun v S' => v = (jwi x2 6) ∧ S6 = S') ⟨rfl, rfl⟩) (fun r9 S10 hq11 => ?_)
  obtain ⟨rfl, rfl⟩ := hq11
  refine jx_if_ne (tgt := 28) dX10_turns_22 (by decide) (fun c12 => ?_) (fun c12 => ?_)
  · replace h := h.2 c12
    refine jx_aload_n 0 dX10_turns_28 rfl rfl ?_
    obtain ⟨hk13, h⟩ := h
    refine jx_geti jc_2 (j := 0) (by decide) rfl jwF_X10_83 dX10_turns_29 hk13 ?_
    refine jx_istore (lv1 := [(4, .int (ji S6 b8 0)), (3, .ref b8), (0, .ref a0), (1, .int x1), (2, .int x2)]) dX10_turns_32 (by decide) rfl ?_
    refine jx_aload_n 1 dX10_turns_34 rfl rfl ?_
    refine jx_iload_n 4 dX10_turns_35 rfl rfl ?_
    refine jx_puti jc_2 (j := 0) (by decide) rfl jwF_X10_83 rfl rfl rfl dX10_turns_36 hk13 ?_
    refine jx_iload 0 dX10_turns_39 rfl ?_
    exact jx_iret dX10_turns_41 rfl rfl (jle rfl) (jle rfl) ⟨_, rfl, h⟩
  replace h := h.1 c12
  refine jx_ldc jwC_X10_62 dX10_turns_25 ?_
  exact jx_iret dX10_turns_27 rfl rfl (jle rfl) (jle rfl) ⟨_, rfl, h⟩
set_option maxRecDepth 100000 in
set_option maxHeartbeats 4000000 in
theorem T_X10_set {E : jEnv} {d : Nat} {Q : Int32 → jM → Prop} {a0 : Nat} {x1 : Int32} {x2 : Int32} {x3 : Int32} {S : jM} (h : jk S a0 = 10 ∧ ∃ b2, jr S a0 0 = some b2 ∧ (jk S b2 = 3 ∧ ∃ b4, jr S b2 0 = some b4 ∧ (jk S b4 = 0 ∧ jFr E mX0_find d 0 0 [.ref b4, .int x1] S (fun o7 S6 => (o7 = none → Q (-1000000001) S6) ∧ (∀ b8, o7 = some b8 → (x2 = 4 → jFi E mX10_setFee d 0 0 [.ref b8, .int x3] S6 (fun r11 S10 => Q r11 S10)) ∧ (x2 = 5 → jFi E mX10_setAge d 0 0 [.ref b8, .int x3] S6 (fun r14 S13 => Q r14 S13)) ∧ (x2 = 6 → jFi E mX10_setDead d 0 0 [.ref b8, .int x3] S6 (fun r17 S16 => Q r17 S16)) ∧ (¬ x2 = 4 → ¬ x2 = 5 → ¬ x2 = 6 → Q (-1000000001) S6)))))) : jFi E mX10_set (d + 1) 0 0 [.ref a0, .int x1, .int x2, .int x3] S Q := by
  refine jF_of (by decide) (jle rfl) ?_
  refine jx_lv (lv1 := [(0, .ref a0), (1, .int x1), (2, .int x2), (3, .int x3)]) [0, 1, 2, 3] rfl ?_
  refine jx_aload_n 0 dX10_set_0 rfl rfl ?_
  obtain ⟨hk1, h⟩ := h
  obtain ⟨b2, hb2, h⟩ := h
  refine jx_getr jc_10 (j := 0) (by decide) rfl jwF_X10_12 dX10_set_1 hk1 hb2 ?_
  obtain ⟨hk3, h⟩ := h
  obtain ⟨b4, hb4, h⟩ := h
  refine jx_getr jc_3 (j := 0) (by decide) rfl jwF_X10_63 dX10_set_4 hk3 hb4 ?_
  refine jx_iload_n 1 dX10_set_7 rfl rfl ?_
  obtain ⟨hk5, h⟩ := h
  refine jx_callVr (M' := mX0_find) (As := [.int x1]) jo_X0_find jc_0 rfl jwM_X10_75 jwN_X0_find jwX_X0_find dX10_set_8 (jRok_m _ _ _) rfl (jle rfl) ⟨jle rfl, jle rfl⟩ hk5 h (fun o7 S6 h => ?_)
  rcases o7 with _ | b8
  · replace h := h.1 rfl
    refine jx_astoreN (lv1 := [(4, .null), (0, .ref a0), (1, .int x1), (2, .int x2), (3, .int x3)]) dX10_set_11 (by decide) rfl ?_
    refine jx_aloadN 0 dX10_set_13 rfl ?_
    refine jx_ifnonnullN dX10_set_15 ?_
    refine jx_ldc jwC_X10_62 dX10_set_18 ?_
    exact jx_iret dX10_set_20 rfl rfl (jle rfl) (jle rfl) ⟨_, rfl, h⟩
  replace h := h.2 b8 rfl
  refine jx_astore (lv1 := [(4, .ref b8), (0, .ref a0), (1, .int x1), (2, .int x2), (3, .int x3)]) dX10_set_11 (by decide) rfl ?_
  refine jx_aload 0 dX10_set_13 rfl ?_
  refine jx_ifnonnull (tgt := 21) dX10_set_15 (by decide) ?_
  refine jx_iload_n 3 dX10_set_21 rfl rfl ?_
  by_cases c9 : x2 = 4
  · replace h := h.1 c9
    refine jx_tableIn (v := 4) (tgt := 48) (off := 26) dX10_set_22 c9 (by decide) (by decide) (by decide) (by decide) ?_
    refine jx_aload 0 dX10_set_48 rfl ?_
    refine jx_iload_n 4 dX10_set_50 rfl rfl ?_
    refine jx_callSi (M' := mX10_setFee) (As := [.ref b8, .int x3]) jo_X10_setFee jwM_X10_134 jwS_X10_setFee dX10_set_51 (jRok_m _ _ _) rfl (jle rfl) ⟨jle rfl, jle rfl⟩ h (fun r11 S10 h => ?_)
    exact jx_iret dX10_set_54 rfl rfl (jle rfl) (jle rfl) ⟨_, rfl, h⟩
  replace h := h.2
  by_cases c12 : x2 = 5
  · replace h := h.1 c12
    refine jx_tableIn (v := 5) (tgt := 55) (off := 33) dX10_set_22 c12 (by decide) (by decide) (by decide) (by decide) ?_
    refine jx_aload 0 dX10_set_55 rfl ?_
    refine jx_iload_n 4 dX10_set_57 rfl rfl ?_
    refine jx_callSi (M' := mX10_setAge) (As := [.ref b8, .int x3]) jo_X10_setAge jwM_X10_137 jwS_X10_setAge dX10_set_58 (jRok_m _ _ _) rfl (jle rfl) ⟨jle rfl, jle rfl⟩ h (fun r14 S13 h => ?_)
    exact jx_iret dX10_set_61 rfl rfl (jle rfl) (jle rfl) ⟨_, rfl, h⟩
  replace h := h.2
  by_cases c15 : x2 = 6
  · replace h := h.1 c15
    refine jx_tableIn (v := 6) (tgt := 62) (off := 40) dX10_set_22 c15 (by decide) (by decide) (by decide) (by decide) ?_
    refine jx_aload 0 dX10_set_62 rfl ?_
    refine jx_iload_n 4 dX10_set_64 rfl rfl ?_
    refine jx_callSi (M' := mX10_setDead) (As := [.ref b8, .int x3]) jo_X10_setDead jwM_X10_140 jwS_X10_setDead dX10_set_65 (jRok_m _ _ _) rfl (jle rfl) ⟨jle rfl, jle rfl⟩ h (fun r17 S16 h => ?_)
    exact jx_iret dX10_set_68 rfl rfl (jle rfl) (jle rfl) ⟨_, rfl, h⟩
  replace h := h.2
  replace h := h c9 c12 c15
  refine jx_tableD (tgt := 69) ([4, 5, 6] : List Int) dX10_set_22 (by simp only [List.mem_cons, List.not_mem_nil, or_false, forall_eq_or_imp, forall_eq]; exact ⟨lv_neT c9 (by decide), lv_neT c12 (by decide), lv_neT c15 (by decide)⟩) (by decide) (by decide) (by decide) ?_
  refine jx_ldc jwC_X10_62 dX10_set_69 ?_
  exact jx_iret dX10_set_71 rfl rfl (jle rfl) (jle rfl) ⟨_, rfl, h⟩
set_option maxRecDepth 100000 in
set_option maxHeartbeats 4000000 in
theorem T_X10_setFee {E : jEnv} {d : Nat} {Q : Int32 → jM → Prop} {a0 : Nat} {x1 : Int32} {S : jM} (h : ((jwi x1 100) = 0 → Q (-1000000001) S) ∧ (¬ (jwi x1 100) = 0 → jk S a0 = 2 ∧ Q (ji S a0 4) (jput S a0 4 x1))) : jFi E mX10_setFee (d + 1) 0 0 [.ref a0, .int x1] S Q := by
  refine jF_of (by decide) (jle rfl) ?_
  refine jx_lv (lv1 := [(0, .ref a0), (1, .int x1)]) [0, 1] rfl ?_
  refine jx_iload_n 1 dX10_setFee_0 rfl rfl ?_
  refine jx_bipush (v := 100) dX10_setFee_1 (by decide) ?_
  refine jx_callSi (M' := mX10_within) (As := [.int x1, .int 100]) jo_X10_within jwM_X10_58 jwS_X10_within dX10_setFee_3 (jRok_m _ _ _) rfl (jle rfl) ⟨jle rfl, jle rfl⟩ (c_X10_within (Q := fun v S' => v = (jwi x1 100) ∧ S = S') ⟨rfl, rfl⟩) (fun r1 S2 hq3 => ?_)
  obtain ⟨rfl, rfl⟩ := hq3
  refine jx_if_ne (tgt := 12) dX10_setFee_6 (by decide) (fun c4 => ?_) (fun c4 => ?_)
  · replace h := h.2 c4
    refine jx_aload_n 0 dX10_setFee_12 rfl rfl ?_
    obtain ⟨hk5, h⟩ := h
    refine jx_geti jc_2 (j := 4) (by decide) rfl jwF_X10_97 dX10_setFee_13 hk5 ?_
    refine jx_istore_n (lv1 := [(2, .int (ji S a0 4)), (0, .ref a0), (1, .int x1)]) dX10_setFee_16 rfl (by decide) rfl ?_
    refine jx_aload_n 1 dX10_setFee_17 rfl rfl ?_
    refine jx_iload_n 2 dX10_setFee_18 rfl rfl ?_
    refine jx_puti jc_2 (j := 4) (by decide) rfl jwF_X10_97 rfl rfl rfl dX10_setFee_19 hk5 ?_
    refine jx_iload_n 0 dX10_setFee_22 rfl rfl ?_
    exact jx_iret dX10_setFee_23 rfl rfl (jle rfl) (jle rfl) ⟨_, rfl, h⟩
  replace h := h.1 c4
  refine jx_ldc jwC_X10_62 dX10_setFee_9 ?_
  exact jx_iret dX10_setFee_11 rfl rfl (jle rfl) (jle rfl) ⟨_, rfl, h⟩
set_option maxRecDepth 100000 in
set_option maxHeartbeats 4000000 in
theorem T_X10_setAge {E : jEnv} {d : Nat} {Q : Int32 → jM → Prop} {a0 : Nat} {x1 : Int32} {S : jM} (h : ((jwi x1 100) = 0 → Q (-1000000001) S) ∧ (¬ (jwi x1 100) = 0 → jk S a0 = 2 ∧ Q (ji S a0 5) (jput S a0 5 x1))) : jFi E mX10_setAge (d + 1) 0 0 [.ref a0, .int x1] S Q := by
  refine jF_of (by decide) (jle rfl) ?_
  refine jx_lv (lv1 := [(0, .ref a0), (1, .int x1)]) [0, 1] rfl ?_
  refine jx_iload_n 1 dX10_setAge_0 rfl rfl ?_
  refine jx_bipush (v := 100) dX10_setAge_1 (by decide) ?_
  refine jx_callSi (M' := mX10_within) (As := [.int x1, .int 100]) jo_X10_within jwM_X10_58 jwS_X10_within dX10_setAge_3 (jRok_m _ _ _) rfl (jle rfl) ⟨jle rfl, jle rfl⟩ (c_X10_within (Q := fun v S' => v = (jwi x1 100) ∧ S = S') ⟨rfl, rfl⟩) (fun r1 S2 hq3 => ?_)
  obtain ⟨rfl, rfl⟩ := hq3
  refine jx_if_ne (tgt := 12) dX10_setAge_6 (by decide) (fun c4 => ?_) (fun c4 => ?_)
  · replace h := h.2 c4
    refine jx_aload_n 0 dX10_setAge_12 rfl rfl ?_
    obtain ⟨hk5, h⟩ := h
    refine jx_geti jc_2 (j := 5) (by decide) rfl jwF_X10_100 dX10_setAge_13 hk5 ?_
    refine jx_istore_n (lv1 := [(2, .int (ji S a0 5)), (0, .ref a0), (1, .int x1)]) dX10_setAge_16 rfl (by decide) rfl ?_
    refine jx_aload_n 1 dX10_setAge_17 rfl rfl ?_
    refine jx_iload_n 2 dX10_setAge_18 rfl rfl ?_
    refine jx_puti jc_2 (j := 5) (by decide) rfl jwF_X10_100 rfl rfl rfl dX10_setAge_19 hk5 ?_
    refine jx_iload_n 0 dX10_setAge_22 rfl rfl ?_
    exact jx_iret dX10_setAge_23 rfl rfl (jle rfl) (jle rfl) ⟨_, rfl, h⟩
  replace h := h.1 c4
  refine jx_ldc jwC_X10_62 dX10_setAge_9 ?_
  exact jx_iret dX10_setAge_11 rfl rfl (jle rfl) (jle rfl) ⟨_, rfl, h⟩
set_option maxRecDepth 100000 in
set_option maxHeartbeats 4000000 in
theorem T_X10_setDead {E : jEnv} {d : Nat} {Q : Int32 → jM → Prop} {a0 : Nat} {x1 : Int32} {S : jM} (h : ((jwi x1 2) = 0 → Q (-1000000001) S) ∧ (¬ (jwi x1 2) = 0 → jk S a0 = 2 ∧ ((ji S a0 6) = 0 → (x1 = 1 → Q 0 (jput S a0 6 1)) ∧ (¬ x1 = 1 → Q 0 (jput S a0 6 0))) ∧ (¬ (ji S a0 6) = 0 → (x1 = 1 → Q 1 (jput S a0 6 1)) ∧ (¬ x1 = 1 → Q 1 (jput S a0 6 0))))) : jFi E mX10_setDead (d + 1) 0 0 [.ref a0, .int x1] S Q := by
  refine jF_of (by decide) (jle rfl) ?_
  refine jx_lv (lv1 := [(0, .ref a0), (1, .int x1)]) [0, 1] rfl ?_
  refine jx_iload_n 1 dX10_setDead_0 rfl rfl ?_
  refine jx_iconst (v := 2) dX10_setDead_1 (by decide) ?_
  refine jx_callSi (M' := mX10_within) (As := [.int x1, .int 2]) jo_X10_within jwM_X10_58 jwS_X10_within dX10_setDead_2 (jRok_m _ _ _) rfl (jle rfl) ⟨jle rfl, jle rfl⟩ (c_X10_within (Q := fun v S' => v = (jwi x1 2) ∧ S = S') ⟨rfl, rfl⟩) (fun r1 S2 hq3 => ?_)
  obtain ⟨rfl, rfl⟩ := hq3
  refine jx_if_ne (tgt := 11) dX10_setDead_5 (by decide) (fun c4 => ?_) (fun c4 => ?_)
  · replace h := h.2 c4
    refine jx_aload_n 0 dX10_setDead_11 rfl rfl ?_
    obtain ⟨hk5, h⟩ := h
    refine jx_geti jc_2 (j := 6) (by decide) rfl jwF_X10_103 dX10_setDead_12 hk5 ?_
    refine jx_if_eq (tgt := 22) dX10_setDead_15 (by decide) (fun c6 => ?_) (fun c6 => ?_)
    · replace h := h.1 c6
      refine jx_iconst (v := 0) dX10_setDead_22 (by decide) ?_
      refine jx_istore_n (lv1 := [(2, .int 0), (0, .ref a0), (1, .int x1)]) dX10_setDead_23 rfl (by decide) rfl ?_
      refine jx_aload_n 1 dX10_setDead_24 rfl rfl ?_
      refine jx_iload_n 2 dX10_setDead_25 rfl rfl ?_
      refine jx_iconst (v := 1) dX10_setDead_26 (by decide) ?_
      refine jx_icmp_ne (tgt := 34) dX10_setDead_27 (by decide) (fun c7 => ?_) (fun c7 => ?_)
      · replace h := h.2 c7
        refine jx_iconst (v := 0) dX10_setDead_34 (by decide) ?_
        refine jx_puti jc_2 (j := 6) (by decide) rfl jwF_X10_103 rfl (by decide) (by decide) dX10_setDead_35 hk5 ?_
        refine jx_iload_n 0 dX10_setDead_38 rfl rfl ?_
        exact jx_iret dX10_setDead_39 rfl rfl (jle rfl) (jle rfl) ⟨_, rfl, h⟩
      replace h := h.1 c7
      refine jx_iconst (v := 1) dX10_setDead_30 (by decide) ?_
      refine jx_goto (tgt := 35) dX10_setDead_31 (by decide) ?_
      refine jx_puti jc_2 (j := 6) (by decide) rfl jwF_X10_103 rfl (by decide) (by decide) dX10_setDead_35 hk5 ?_
      refine jx_iload_n 0 dX10_setDead_38 rfl rfl ?_
      exact jx_iret dX10_setDead_39 rfl rfl (jle rfl) (jle rfl) ⟨_, rfl, h⟩
    replace h := h.2 c6
    refine jx_iconst (v := 1) dX10_setDead_18 (by decide) ?_
    refine jx_goto (tgt := 23) dX10_setDead_19 (by decide) ?_
    refine jx_istore_n (lv1 := [(2, .int 1), (0, .ref a0), (1, .int x1)]) dX10_setDead_23 rfl (by decide) rfl ?_
    refine jx_aload_n 1 dX10_setDead_24 rfl rfl ?_
    refine jx_iload_n 2 dX10_setDead_25 rfl rfl ?_
    refine jx_iconst (v := 1) dX10_setDead_26 (by decide) ?_
    refine jx_icmp_ne (tgt := 34) dX10_setDead_27 (by decide) (fun c8 => ?_) (fun c8 => ?_)
    · replace h := h.2 c8
      refine jx_iconst (v := 0) dX10_setDead_34 (by decide) ?_
      refine jx_puti jc_2 (j := 6) (by decide) rfl jwF_X10_103 rfl (by decide) (by decide) dX10_setDead_35 hk5 ?_
      refine jx_iload_n 0 dX10_setDead_38 rfl rfl ?_
      exact jx_iret dX10_setDead_39 rfl rfl (jle rfl) (jle rfl) ⟨_, rfl, h⟩
    replace h := h.1 c8
    refine jx_iconst (v := 1) dX10_setDead_30 (by decide) ?_
    refine jx_goto (tgt := 35) dX10_setDead_31 (by decide) ?_
    refine jx_puti jc_2 (j := 6) (by decide) rfl jwF_X10_103 rfl (by decide) (by decide) dX10_setDead_35 hk5 ?_
    refine jx_iload_n 0 dX10_setDead_38 rfl rfl ?_
    exact jx_iret dX10_setDead_39 rfl rfl (jle rfl) (jle rfl) ⟨_, rfl, h⟩
  replace h := h.1 c4
  refine jx_ldc jwC_X10_62 dX10_setDead_8 ?_
  exact jx_iret dX10_setDead_10 rfl rfl (jle rfl) (jle rfl) ⟨_, rfl, h⟩
set_option maxRecDepth 100000 in
set_option maxHeartbeats 4000000 in
theorem T_X10_bars {E : jEnv} {d : Nat} {Q : Int32 → jM → Prop} {a0 : Nat} {x1 : Int32} {x2 : Int32} {x3 : Int32} {S : jM} (h : jk S a0 = 10 ∧ ∃ b2, jr S a0 0 = some b2 ∧ (jk S b2 = 3 ∧ ∃ b4, jr S b2 0 = some b4 ∧ (jk S b4 = 0 ∧ jFr E mX0_find d 0 0 [.ref b4, .int x1] S (fun o7 S6 => (o7 = none → Q (-1000000001) S6) ∧ (∀ b8, o7 = some b8 → ((jwi x2 10) = 0 → Q (-1000000001) S6) ∧ (¬ (jwi x2 10) = 0 → ((jwi x3 10) = 0 → Q (-1000000001) S6) ∧ (¬ (jwi x3 10) = 0 → jk S6 b8 = 2 ∧ (x2 = (ji S6 b8 2) → Q (-1000000001) S6) ∧ (¬ x2 = (ji S6 b8 2) → (x3 = (ji S6 b8 2) → Q (-1000000001) S6) ∧ (¬ x3 = (ji S6 b8 2) → Q (ji S6 b8 3) (jput S6 b8 3 ((jshl 1 x2) ||| (jshl 1 x3)))))))))))) : jFi E mX10_bars (d + 1) 0 0 [.ref a0, .int x1, .int x2, .int x3] S Q := by
  refine jF_of (by decide) (jle rfl) ?_
  refine jx_lv (lv1 := [(0, .ref a0), (1, .int x1), (2, .int x2), (3, .int x3)]) [0, 1, 2, 3] rfl ?_
  refine jx_aload_n 0 dX10_bars_0 rfl rfl ?_
  obtain ⟨hk1, h⟩ := h
  obtain ⟨b2, hb2, h⟩ := h
  refine jx_getr jc_10 (j := 0) (by decide) rfl jwF_X10_12 dX10_bars_1 hk1 hb2 ?_
  obtain ⟨hk3, h⟩ := h
  obtain ⟨b4, hb4, h⟩ := h
  refine jx_getr jc_3 (j := 0) (by decide) rfl jwF_X10_63 dX10_bars_4 hk3 hb4 ?_
  refine jx_iload_n 1 dX10_bars_7 rfl rfl ?_
  obtain ⟨hk5, h⟩ := h
  refine jx_callVr (M' := mX0_find) (As := [.int x1]) jo_X0_find jc_0 rfl jwM_X10_75 jwN_X0_find jwX_X0_find dX10_bars_8 (jRok_m _ _ _) rfl (jle rfl) ⟨jle rfl, jle rfl⟩ hk5 h (fun o7 S6 h => ?_)
  rcases o7 with _ | b8
  · replace h := h.1 rfl
    refine jx_astoreN (lv1 := [(4, .null), (0, .ref a0), (1, .int x1), (2, .int x2), (3, .int x3)]) dX10_bars_11 (by decide) rfl ?_
    refine jx_aloadN 0 dX10_bars_13 rfl ?_
    refine jx_ifnullN (tgt := 36) dX10_bars_15 (by decide) ?_
    refine jx_ldc jwC_X10_62 dX10_bars_36 ?_
    exact jx_iret dX10_bars_38 rfl rfl (jle rfl) (jle rfl) ⟨_, rfl, h⟩
  replace h := h.2 b8 rfl
  refine jx_astore (lv1 := [(4, .ref b8), (0, .ref a0), (1, .int x1), (2, .int x2), (3, .int x3)]) dX10_bars_11 (by decide) rfl ?_
  refine jx_aload 0 dX10_bars_13 rfl ?_
  refine jx_ifnull dX10_bars_15 ?_
  refine jx_iload_n 3 dX10_bars_18 rfl rfl ?_
  refine jx_bipush (v := 10) dX10_bars_19 (by decide) ?_
  refine jx_callSi (M' := mX10_within) (As := [.int x2, .int 10]) jo_X10_within jwM_X10_58 jwS_X10_within dX10_bars_21 (jRok_m _ _ _) rfl (jle rfl) ⟨jle rfl, jle rfl⟩ (c_X10_within (Q := fun v S' => v = (jwi x2 10) ∧ S6 = S') ⟨rfl, rfl⟩) (fun r9 S10 hq11 => ?_)
  obtain ⟨rfl, rfl⟩ := hq11
  refine jx_if_eq (tgt := 36) dX10_bars_24 (by decide) (fun c12 => ?_) (fun c12 => ?_)
  · replace h := h.1 c12
    refine jx_ldc jwC_X10_62 dX10_bars_36 ?_
    exact jx_iret dX10_bars_38 rfl rfl (jle rfl) (jle rfl) ⟨_, rfl, h⟩
  replace h := h.2 c12
  refine jx_iload_n 4 dX10_bars_27 rfl rfl ?_
  refine jx_bipush (v := 10) dX10_bars_28 (by decide) ?_
  refine jx_callSi (M' := mX10_within) (As := [.int x3, .int 10]) jo_X10_within jwM_X10_58 jwS_X10_within dX10_bars_30 (jRok_m _ _ _) rfl (jle rfl) ⟨jle rfl, jle rfl⟩ (c_X10_within (Q := fun v S' => v = (jwi x3 10) ∧ S6 = S') ⟨rfl, rfl⟩) (fun r13 S14 hq15 => ?_)
  obtain ⟨rfl, rfl⟩ := hq15
  refine jx_if_ne (tgt := 39) dX10_bars_33 (by decide) (fun c16 => ?_) (fun c16 => ?_)
  · replace h := h.2 c16
    refine jx_iload_n 3 dX10_bars_39 rfl rfl ?_
    refine jx_aload 0 dX10_bars_40 rfl ?_
    obtain ⟨hk17, h⟩ := h
    refine jx_geti jc_2 (j := 2) (by decide) rfl jwF_X10_91 dX10_bars_42 hk17 ?_
    refine jx_icmp_eq (tgt := 57) dX10_bars_45 (by decide) (fun c18 => ?_) (fun c18 => ?_)
    · replace h := h.1 c18
      refine jx_ldc jwC_X10_62 dX10_bars_57 ?_
      exact jx_iret dX10_bars_59 rfl rfl (jle rfl) (jle rfl) ⟨_, rfl, h⟩
    replace h := h.2 c18
    refine jx_iload_n 4 dX10_bars_48 rfl rfl ?_
    refine jx_aload 0 dX10_bars_49 rfl ?_
    refine jx_geti jc_2 (j := 2) (by decide) rfl jwF_X10_91 dX10_bars_51 hk17 ?_
    refine jx_icmp_ne (tgt := 60) dX10_bars_54 (by decide) (fun c19 => ?_) (fun c19 => ?_)
    · replace h := h.2 c19
      refine jx_aload 0 dX10_bars_60 rfl ?_
      refine jx_geti jc_2 (j := 3) (by decide) rfl jwF_X10_94 dX10_bars_62 hk17 ?_
      refine jx_istore (lv1 := [(5, .int (ji S6 b8 3)), (4, .ref b8), (0, .ref a0), (1, .int x1), (2, .int x2), (3, .int x3)]) dX10_bars_65 (by decide) rfl ?_
      refine jx_aload 1 dX10_bars_67 rfl ?_
      refine jx_iconst (v := 1) dX10_bars_69 (by decide) ?_
      refine jx_iload_n 4 dX10_bars_70 rfl rfl ?_
      refine jx_ishl dX10_bars_71 ?_
      refine jx_iconst (v := 1) dX10_bars_72 (by decide) ?_
      refine jx_iload_n 5 dX10_bars_73 rfl rfl ?_
      refine jx_ishl dX10_bars_74 ?_
      refine jx_ior dX10_bars_75 ?_
      refine jx_puti jc_2 (j := 3) (by decide) rfl jwF_X10_94 rfl rfl rfl dX10_bars_76 hk17 ?_
      refine jx_iload 0 dX10_bars_79 rfl ?_
      exact jx_iret dX10_bars_81 rfl rfl (jle rfl) (jle rfl) ⟨_, rfl, h⟩
    replace h := h.1 c19
    refine jx_ldc jwC_X10_62 dX10_bars_57 ?_
    exact jx_iret dX10_bars_59 rfl rfl (jle rfl) (jle rfl) ⟨_, rfl, h⟩
  replace h := h.1 c16
  refine jx_ldc jwC_X10_62 dX10_bars_36 ?_
  exact jx_iret dX10_bars_38 rfl rfl (jle rfl) (jle rfl) ⟨_, rfl, h⟩
set_option maxRecDepth 100000 in
set_option maxHeartbeats 4000000 in
theorem T_X10_road {E : jEnv} {d : Nat} {Q : Int32 → jM → Prop} {a0 : Nat} {x1 : Int32} {x2 : Int32} {x3 : Int32} {S : jM} (h : ((jwi x1 6) = 0 → Q (-1000000001) S) ∧ (¬ (jwi x1 6) = 0 → ((jwi x2 6) = 0 → Q (-1000000001) S) ∧ (¬ (jwi x2 6) = 0 → (x1 = x2 → Q (-1000000001) S) ∧ (¬ x1 = x2 → ((jwi x3 10) = 0 → Q (-1000000001) S) ∧ (¬ (jwi x3 10) = 0 → jk S a0 = 10 ∧ ∃ b15, jr S a0 0 = some b15 ∧ (jk S b15 = 3 ∧ ∃ b17, jr S b15 1 = some b17 ∧ (jk S b17 = 4 ∧ jFi E mX4_direct d 0 0 [.ref b17, .int x1, .int x2] S (fun r20 S19 => jk S19 a0 = 10 ∧ ∃ b22, jr S19 a0 0 = some b22 ∧ (jk S19 b22 = 3 ∧ ∃ b24, jr S19 b22 1 = some b24 ∧ (jk S19 b24 = 4 ∧ jFv E mX4_build d 0 0 [.ref b24, .int x1, .int x2, .int x3] S19 (fun S26 => Q r20 S26))))))))))) : jFi E mX10_road (d + 1) 0 0 [.ref a0, .int x1, .int x2, .int x3] S Q := by
  refine jF_of (by decide) (jle rfl) ?_
  refine jx_lv (lv1 := [(0, .ref a0), (1, .int x1), (2, .int x2), (3, .int x3)]) [0, 1, 2, 3] rfl ?_
  refine jx_iload_n 1 dX10_road_0 rfl rfl ?_
  refine jx_bipush (v := 6) dX10_road_1 (by decide) ?_
  refine jx_callSi (M' := mX10_within) (As := [.int x1, .int 6]) jo_X10_within jwM_X10_58 jwS_X10_within dX10_road_3 (jRok_m _ _ _) rfl (jle rfl) ⟨jle rfl, jle rfl⟩ (c_X10_within (Q := fun v S' => v = (jwi x1 6) ∧ S = S') ⟨rfl, rfl⟩) (fun r1 S2 hq3 => ?_)
  obtain ⟨rfl, rfl⟩ := hq3
  refine jx_if_eq (tgt := 32) dX10_road_6 (by decide) (fun c4 => ?_) (fun c4 => ?_)
  · replace h := h.1 c4
    refine jx_ldc jwC_X10_62 dX10_road_32 ?_
    exact jx_iret dX10_road_34 rfl rfl (jle rfl) (jle rfl) ⟨_, rfl, h⟩
  replace h := h.2 c4
  refine jx_iload_n 2 dX10_road_9 rfl rfl ?_
  refine jx_bipush (v := 6) dX10_road_10 (by decide) ?_
  refine jx_callSi (M' := mX10_within) (As := [.int x2, .int 6]) jo_X10_within jwM_X10_58 jwS_X10_within dX10_road_12 (jRok_m _ _ _) rfl (jle rfl) ⟨jle rfl, jle rfl⟩ (c_X10_within (Q := fun v S' => v = (jwi x2 6) ∧ S = S') ⟨rfl, rfl⟩) (fun r5 S6 hq7 => ?_)
  obtain ⟨rfl, rfl⟩ := hq7
  refine jx_if_eq (tgt := 32) dX10_road_15 (by decide) (fun c8 => ?_) (fun c8 => ?_)
  · replace h := h.1 c8
    refine jx_ldc jwC_X10_62 dX10_road_32 ?_
    exact jx_iret dX10_road_34 rfl rfl (jle rfl) (jle rfl) ⟨_, rfl, h⟩
  replace h := h.2 c8
  refine jx_iload_n 1 dX10_road_18 rfl rfl ?_
  refine jx_iload_n 2 dX10_road_19 rfl rfl ?_
  refine jx_icmp_eq (tgt := 32) dX10_road_20 (by decide) (fun c9 => ?_) (fun c9 => ?_)
  · replace h := h.1 c9
    refine jx_ldc jwC_X10_62 dX10_road_32 ?_
    exact jx_iret dX10_road_34 rfl rfl (jle rfl) (jle rfl) ⟨_, rfl, h⟩
  replace h := h.2 c9
  refine jx_iload_n 3 dX10_road_23 rfl rfl ?_
  refine jx_bipush (v := 10) dX10_road_24 (by decide) ?_
  refine jx_callSi (M' := mX10_within) (As := [.int x3, .int 10]) jo_X10_within jwM_X10_58 jwS_X10_within dX10_road_26 (jRok_m _ _ _) rfl (jle rfl) ⟨jle rfl, jle rfl⟩ (c_X10_within (Q := fun v S' => v = (jwi x3 10) ∧ S = S') ⟨rfl, rfl⟩) (fun r10 S11 hq12 => ?_)
  obtain ⟨rfl, rfl⟩ := hq12
  refine jx_if_ne (tgt := 35) dX10_road_29 (by decide) (fun c13 => ?_) (fun c13 => ?_)
  · replace h := h.2 c13
    refine jx_aload_n 0 dX10_road_35 rfl rfl ?_
    obtain ⟨hk14, h⟩ := h
    obtain ⟨b15, hb15, h⟩ := h
    refine jx_getr jc_10 (j := 0) (by decide) rfl jwF_X10_12 dX10_road_36 hk14 hb15 ?_
    obtain ⟨hk16, h⟩ := h
    obtain ⟨b17, hb17, h⟩ := h
    refine jx_getr jc_3 (j := 1) (by decide) rfl jwF_X10_143 dX10_road_39 hk16 hb17 ?_
    refine jx_iload_n 1 dX10_road_42 rfl rfl ?_
    refine jx_iload_n 2 dX10_road_43 rfl rfl ?_
    obtain ⟨hk18, h⟩ := h
    refine jx_callVi (M' := mX4_direct) (As := [.int x1, .int x2]) jo_X4_direct jc_4 rfl jwM_X10_147 jwN_X4_direct jwX_X4_direct dX10_road_44 (jRok_m _ _ _) rfl (jle rfl) ⟨jle rfl, jle rfl⟩ hk18 h (fun r20 S19 h => ?_)
    refine jx_istore (lv1 := [(4, .int r20), (0, .ref a0), (1, .int x1), (2, .int x2), (3, .int x3)]) dX10_road_47 (by decide) rfl ?_
    refine jx_aload_n 1 dX10_road_49 rfl rfl ?_
    obtain ⟨hk21, h⟩ := h
    obtain ⟨b22, hb22, h⟩ := h
    refine jx_getr jc_10 (j := 0) (by decide) rfl jwF_X10_12 dX10_road_50 hk21 hb22 ?_
    obtain ⟨hk23, h⟩ := h
    obtain ⟨b24, hb24, h⟩ := h
    refine jx_getr jc_3 (j := 1) (by decide) rfl jwF_X10_143 dX10_road_53 hk23 hb24 ?_
    refine jx_iload_n 2 dX10_road_56 rfl rfl ?_
    refine jx_iload_n 3 dX10_road_57 rfl rfl ?_
    refine jx_iload_n 4 dX10_road_58 rfl rfl ?_
    obtain ⟨hk25, h⟩ := h
    refine jx_callVv (M' := mX4_build) (As := [.int x1, .int x2, .int x3]) jo_X4_build jc_4 rfl jwM_X10_153 jwN_X4_build jwX_X4_build dX10_road_59 (jRok_m _ _ _) rfl (jle rfl) ⟨jle rfl, jle rfl⟩ hk25 h (fun S26 h => ?_)
    refine jx_iload 0 dX10_road_62 rfl ?_
    exact jx_iret dX10_road_64 rfl rfl (jle rfl) (jle rfl) ⟨_, rfl, h⟩
  replace h := h.1 c13
  refine jx_ldc jwC_X10_62 dX10_road_32 ?_
  exact jx_iret dX10_road_34 rfl rfl (jle rfl) (jle rfl) ⟨_, rfl, h⟩
set_option maxRecDepth 100000 in
set_option maxHeartbeats 4000000 in
theorem T_X10_far {E : jEnv} {d : Nat} {Q : Int32 → jM → Prop} {a0 : Nat} {x1 : Int32} {x2 : Int32} {S : jM} (h : ((jwi x1 6) = 0 → Q (-1000000001) S) ∧ (¬ (jwi x1 6) = 0 → ((jwi x2 6) = 0 → Q (-1000000001) S) ∧ (¬ (jwi x2 6) = 0 → jk S a0 = 10 ∧ ∃ b10, jr S a0 0 = some b10 ∧ (jk S b10 = 3 ∧ ∃ b12, jr S b10 1 = some b12 ∧ (jk S b12 = 4 ∧ jFi E mX4_fewest d 0 0 [.ref b12, .int x1, .int x2] S (fun r15 S14 => (r15 = 9999 → Q (-1000000005) S14) ∧ (¬ r15 = 9999 → Q r15 S14))))))) : jFi E mX10_far (d + 1) 0 0 [.ref a0, .int x1, .int x2] S Q := by
  refine jF_of (by decide) (jle rfl) ?_
  refine jx_lv (lv1 := [(0, .ref a0), (1, .int x1), (2, .int x2)]) [0, 1, 2] rfl ?_
  refine jx_iload_n 1 dX10_far_0 rfl rfl ?_
  refine jx_bipush (v := 6) dX10_far_1 (by decide) ?_
  refine jx_callSi (M' := mX10_within) (As := [.int x1, .int 6]) jo_X10_within jwM_X10_58 jwS_X10_within dX10_far_3 (jRok_m _ _ _) rfl (jle rfl) ⟨jle rfl, jle rfl⟩ (c_X10_within (Q := fun v S' => v = (jwi x1 6) ∧ S = S') ⟨rfl, rfl⟩) (fun r1 S2 hq3 => ?_)
  obtain ⟨rfl, rfl⟩ := hq3
  refine jx_if_eq (tgt := 18) dX10_far_6 (by decide) (fun c4 => ?_) (fun c4 => ?_)
  · replace h := h.1 c4
    refine jx_ldc jwC_X10_62 dX10_far_18 ?_
    exact jx_iret dX10_far_20 rfl rfl (jle rfl) (jle rfl) ⟨_, rfl, h⟩
  replace h := h.2 c4
  refine jx_iload_n 2 dX10_far_9 rfl rfl ?_
  refine jx_bipush (v := 6) dX10_far_10 (by decide) ?_
  refine jx_callSi (M' := mX10_within) (As := [.int x2, .int 6]) jo_X10_within jwM_X10_58 jwS_X10_within dX10_far_12 (jRok_m _ _ _) rfl (jle rfl) ⟨jle rfl, jle rfl⟩ (c_X10_within (Q := fun v S' => v = (jwi x2 6) ∧ S = S') ⟨rfl, rfl⟩) (fun r5 S6 hq7 => ?_)
  obtain ⟨rfl, rfl⟩ := hq7
  refine jx_if_ne (tgt := 21) dX10_far_15 (by decide) (fun c8 => ?_) (fun c8 => ?_)
  · replace h := h.2 c8
    refine jx_aload_n 0 dX10_far_21 rfl rfl ?_
    obtain ⟨hk9, h⟩ := h
    obtain ⟨b10, hb10, h⟩ := h
    refine jx_getr jc_10 (j := 0) (by decide) rfl jwF_X10_12 dX10_far_22 hk9 hb10 ?_
    obtain ⟨hk11, h⟩ := h
    obtain ⟨b12, hb12, h⟩ := h
    refine jx_getr jc_3 (j := 1) (by decide) rfl jwF_X10_143 dX10_far_25 hk11 hb12 ?_
    refine jx_iload_n 1 dX10_far_28 rfl rfl ?_
    refine jx_iload_n 2 dX10_far_29 rfl rfl ?_
    obtain ⟨hk13, h⟩ := h
    refine jx_callVi (M' := mX4_fewest) (As := [.int x1, .int x2]) jo_X4_fewest jc_4 rfl jwM_X10_157 jwN_X4_fewest jwX_X4_fewest dX10_far_30 (jRok_m _ _ _) rfl (jle rfl) ⟨jle rfl, jle rfl⟩ hk13 h (fun r15 S14 h => ?_)
    refine jx_istore_n (lv1 := [(3, .int r15), (0, .ref a0), (1, .int x1), (2, .int x2)]) dX10_far_33 rfl (by decide) rfl ?_
    refine jx_iload_n 0 dX10_far_34 rfl rfl ?_
    refine jx_sipush (v := 9999) dX10_far_35 (by decide) ?_
    refine jx_icmp_ne (tgt := 46) dX10_far_38 (by decide) (fun c16 => ?_) (fun c16 => ?_)
    · replace h := h.2 c16
      refine jx_iload_n 0 dX10_far_46 rfl rfl ?_
      exact jx_iret dX10_far_47 rfl rfl (jle rfl) (jle rfl) ⟨_, rfl, h⟩
    replace h := h.1 c16
    refine jx_ldc jwC_X10_160 dX10_far_41 ?_
    refine jx_goto (tgt := 47) dX10_far_43 (by decide) ?_
    exact jx_iret dX10_far_47 rfl rfl (jle rfl) (jle rfl) ⟨_, rfl, h⟩
  replace h := h.1 c8
  refine jx_ldc jwC_X10_62 dX10_far_18 ?_
  exact jx_iret dX10_far_20 rfl rfl (jle rfl) (jle rfl) ⟨_, rfl, h⟩
/-- X10_deal at its loop's head 34 -/
abbrev L_X10_deal_34 (E : jEnv) (d : Nat) (Q : Int32 → jM → Prop) (a0 : Nat) (x2 : Int32) (x3 : Int32) (S : jM) : Prop := jX E mX10_deal (jRm (d + 1) 0 0) (jZm E (fun r S' => ∃ v : Int32, r = some (.int v) ∧ Q v S') 0 0) 34 [(0, .ref a0), (2, .int x2), (3, .int x3)] [] S 0 0
set_option maxRecDepth 100000 in
set_option maxHeartbeats 4000000 in
theorem T_X10_deal {E : jEnv} {d : Nat} {Q : Int32 → jM → Prop} {a0 : Nat} {x1 : Int32} {S : jM} (h : (x1 < 1 → Q (-1000000001) S) ∧ (¬ x1 < 1 → (x1 ≤ 9 → jk S a0 = 10 ∧ ∃ b4, jr S a0 0 = some b4 ∧ (jk S b4 = 3 ∧ ∃ b6, jr S b4 0 = some b6 ∧ (jk S b6 = 0 ∧ L_X10_deal_34 E d Q a0 (jmin x1 (9 - (ji S b6 1))) 0 S))) ∧ (¬ x1 ≤ 9 → Q (-1000000001) S))) : jFi E mX10_deal (d + 1) 0 0 [.ref a0, .int x1] S Q := by
  refine jF_of (by decide) (jle rfl) ?_
  refine jx_lv (lv1 := [(0, .ref a0), (1, .int x1)]) [0, 1] rfl ?_
  refine jx_iload_n 1 dX10_deal_0 rfl rfl ?_
  refine jx_iconst (v := 1) dX10_deal_1 (by decide) ?_
  refine jx_icmp_lt (tgt := 11) dX10_deal_2 (by decide) (fun c1 => ?_) (fun c1 => ?_)
  · replace h := h.1 c1
    refine jx_ldc jwC_X10_62 dX10_deal_11 ?_
    exact jx_iret dX10_deal_13 rfl rfl (jle rfl) (jle rfl) ⟨_, rfl, h⟩
  replace h := h.2 c1
  refine jx_iload_n 1 dX10_deal_5 rfl rfl ?_
  refine jx_bipush (v := 9) dX10_deal_6 (by decide) ?_
  refine jx_icmp_le (tgt := 14) dX10_deal_8 (by decide) (fun c2 => ?_) (fun c2 => ?_)
  · replace h := h.1 c2
    refine jx_iload_n 1 dX10_deal_14 rfl rfl ?_
    refine jx_bipush (v := 9) dX10_deal_15 (by decide) ?_
    refine jx_aload_n 0 dX10_deal_17 rfl rfl ?_
    obtain ⟨hk3, h⟩ := h
    obtain ⟨b4, hb4, h⟩ := h
    refine jx_getr jc_10 (j := 0) (by decide) rfl jwF_X10_12 dX10_deal_18 hk3 hb4 ?_
    obtain ⟨hk5, h⟩ := h
    obtain ⟨b6, hb6, h⟩ := h
    refine jx_getr jc_3 (j := 0) (by decide) rfl jwF_X10_63 dX10_deal_21 hk5 hb6 ?_
    obtain ⟨hk7, h⟩ := h
    refine jx_geti jc_0 (j := 1) (by decide) rfl jwF_X10_66 dX10_deal_24 hk7 ?_
    refine jx_isub dX10_deal_27 ?_
    refine jx_min jwM_X10_161 jwS_min jwZ_J9 jwO_min dX10_deal_28 (jRok_m _ _ _) (jle rfl) ⟨Nat.zero_le _, Nat.zero_le _⟩ ?_
    refine jx_istore_n (lv1 := [(2, .int (jmin x1 (9 - (ji S b6 1)))), (0, .ref a0), (1, .int x1)]) dX10_deal_31 rfl (by decide) rfl ?_
    refine jx_iconst (v := 0) dX10_deal_32 (by decide) ?_
    refine jx_istore_n (lv1 := [(3, .int 0), (2, .int (jmin x1 (9 - (ji S b6 1)))), (0, .ref a0), (1, .int x1)]) dX10_deal_33 rfl (by decide) rfl ?_
    exact jx_lv [2, 1, 0] rfl h
  replace h := h.2 c2
  refine jx_ldc jwC_X10_62 dX10_deal_11 ?_
  exact jx_iret dX10_deal_13 rfl rfl (jle rfl) (jle rfl) ⟨_, rfl, h⟩
set_option maxRecDepth 100000 in
set_option maxHeartbeats 4000000 in
theorem T_X10_deal_34 {E : jEnv} {d : Nat} {Q : Int32 → jM → Prop} {a0 : Nat} {x2 : Int32} {x3 : Int32} {S : jM} (h : (x2 ≤ x3 → Q x2 S) ∧ (¬ x2 ≤ x3 → jk S a0 = 10 ∧ ∃ b10, jr S a0 0 = some b10 ∧ (jk S b10 = 3 ∧ ∃ b12, jr S b10 0 = some b12 ∧ (jk S b12 = 0 ∧ jFv E mX0_joinByLot d 0 0 [.ref b12] S (fun S14 => L_X10_deal_34 E d Q a0 x2 (x3 + 1) S14))))) : L_X10_deal_34 E d Q a0 x2 x3 S := by
  show jX E mX10_deal (jRm (d + 1) 0 0) (jZm E (fun r S' => ∃ v : Int32, r = some (.int v) ∧ Q v S') 0 0) 34 [(0, .ref a0), (2, .int x2), (3, .int x3)] [] S 0 0
  refine jx_iload_n 2 dX10_deal_34 rfl rfl ?_
  refine jx_iload_n 1 dX10_deal_35 rfl rfl ?_
  refine jx_icmp_ge (tgt := 55) dX10_deal_36 (by decide) (fun c8 => ?_) (fun c8 => ?_)
  · replace h := h.1 c8
    refine jx_iload_n 1 dX10_deal_55 rfl rfl ?_
    exact jx_iret dX10_deal_56 rfl rfl (jle rfl) (jle rfl) ⟨_, rfl, h⟩
  replace h := h.2 c8
  refine jx_aload_n 0 dX10_deal_39 rfl rfl ?_
  obtain ⟨hk9, h⟩ := h
  obtain ⟨b10, hb10, h⟩ := h
  refine jx_getr jc_10 (j := 0) (by decide) rfl jwF_X10_12 dX10_deal_40 hk9 hb10 ?_
  obtain ⟨hk11, h⟩ := h
  obtain ⟨b12, hb12, h⟩ := h
  refine jx_getr jc_3 (j := 0) (by decide) rfl jwF_X10_63 dX10_deal_43 hk11 hb12 ?_
  obtain ⟨hk13, h⟩ := h
  refine jx_callVv (M' := mX0_joinByLot) (As := []) jo_X0_joinByLot jc_0 rfl jwM_X10_166 jwN_X0_joinByLot jwX_X0_joinByLot dX10_deal_46 (jRok_m _ _ _) rfl (jle rfl) ⟨jle rfl, jle rfl⟩ hk13 h (fun S14 h => ?_)
  refine jx_iinc 2 (v := (x3 + 1)) (lv1 := [(3, .int (x3 + 1)), (0, .ref a0), (2, .int x2)]) dX10_deal_49 rfl rfl (by decide) rfl ?_
  refine jx_goto (tgt := 34) dX10_deal_52 (by decide) ?_
  exact jx_lv [1, 2, 0] rfl h
set_option maxRecDepth 100000 in
set_option maxHeartbeats 4000000 in
theorem T_X10_seed {E : jEnv} {d : Nat} {Q : Int32 → jM → Prop} {a0 : Nat} {x1 : Int32} {S : jM} (h : jk S a0 = 10 ∧ ∃ b2, jr S a0 0 = some b2 ∧ (jk S b2 = 3 ∧ ∃ b4, jr S b2 0 = some b4 ∧ (jk S b4 = 0 ∧ Q (ji S b4 2) (jput S b4 2 x1)))) : jFi E mX10_seed d 0 0 [.ref a0, .int x1] S Q := by
  refine jF_of (by decide) (jle rfl) ?_
  refine jx_lv (lv1 := [(0, .ref a0), (1, .int x1)]) [0, 1] rfl ?_
  refine jx_aload_n 0 dX10_seed_0 rfl rfl ?_
  obtain ⟨hk1, h⟩ := h
  obtain ⟨b2, hb2, h⟩ := h
  refine jx_getr jc_10 (j := 0) (by decide) rfl jwF_X10_12 dX10_seed_1 hk1 hb2 ?_
  obtain ⟨hk3, h⟩ := h
  obtain ⟨b4, hb4, h⟩ := h
  refine jx_getr jc_3 (j := 0) (by decide) rfl jwF_X10_63 dX10_seed_4 hk3 hb4 ?_
  obtain ⟨hk5, h⟩ := h
  refine jx_geti jc_0 (j := 2) (by decide) rfl jwF_X10_169 dX10_seed_7 hk5 ?_
  refine jx_istore_n (lv1 := [(2, .int (ji S b4 2)), (0, .ref a0), (1, .int x1)]) dX10_seed_10 rfl (by decide) rfl ?_
  refine jx_aload_n 1 dX10_seed_11 rfl rfl ?_
  refine jx_getr jc_10 (j := 0) (by decide) rfl jwF_X10_12 dX10_seed_12 hk1 hb2 ?_
  refine jx_getr jc_3 (j := 0) (by decide) rfl jwF_X10_63 dX10_seed_15 hk3 hb4 ?_
  refine jx_iload_n 2 dX10_seed_18 rfl rfl ?_
  refine jx_puti jc_0 (j := 2) (by decide) rfl jwF_X10_169 rfl rfl rfl dX10_seed_19 hk5 ?_
  refine jx_iload_n 0 dX10_seed_22 rfl rfl ?_
  exact jx_iret dX10_seed_23 rfl rfl (jle rfl) (jle rfl) ⟨_, rfl, h⟩
set_option maxRecDepth 100000 in
set_option maxHeartbeats 4000000 in
theorem T_X10_apprentice {E : jEnv} {d : Nat} {Q : Int32 → jM → Prop} {a0 : Nat} {x1 : Int32} {S : jM} (h : (x1 = 0 → jk S a0 = 10 ∧ ∃ b3, jr S a0 0 = some b3 ∧ (jk S b3 = 3 ∧ ∃ b5, jr S b3 2 = some b5 ∧ (jk S b5 = 1 ∧ Q (ji S b5 0) S))) ∧ (x1 = 1 → jk S a0 = 10 ∧ ∃ b9, jr S a0 0 = some b9 ∧ (jk S b9 = 3 ∧ ∃ b11, jr S b9 2 = some b11 ∧ (jk S b11 = 1 ∧ Q (ji S b11 1) S))) ∧ (x1 = 2 → jk S a0 = 10 ∧ ∃ b15, jr S a0 0 = some b15 ∧ (jk S b15 = 3 ∧ ∃ b17, jr S b15 2 = some b17 ∧ (jk S b17 = 1 ∧ Q (ji S b17 2) S))) ∧ (x1 = 3 → jk S a0 = 10 ∧ ∃ b21, jr S a0 0 = some b21 ∧ (jk S b21 = 3 ∧ ∃ b23, jr S b21 2 = some b23 ∧ (jk S b23 = 1 ∧ Q (ji S b23 3) S))) ∧ (¬ x1 = 0 → ¬ x1 = 1 → ¬ x1 = 2 → ¬ x1 = 3 → Q (-1000000001) S)) : jFi E mX10_apprentice d 0 0 [.ref a0, .int x1] S Q := by
  refine jF_of (by decide) (jle rfl) ?_
  refine jx_lv (lv1 := [(0, .ref a0), (1, .int x1)]) [0, 1] rfl ?_
  refine jx_iload_n 1 dX10_apprentice_0 rfl rfl ?_
  by_cases c1 : x1 = 0
  · replace h := h.1 c1
    refine jx_tableIn (v := 0) (tgt := 32) (off := 31) dX10_apprentice_1 c1 (by decide) (by decide) (by decide) (by decide) ?_
    refine jx_aload_n 0 dX10_apprentice_32 rfl rfl ?_
    obtain ⟨hk2, h⟩ := h
    obtain ⟨b3, hb3, h⟩ := h
    refine jx_getr jc_10 (j := 0) (by decide) rfl jwF_X10_12 dX10_apprentice_33 hk2 hb3 ?_
    obtain ⟨hk4, h⟩ := h
    obtain ⟨b5, hb5, h⟩ := h
    refine jx_getr jc_3 (j := 2) (by decide) rfl jwF_X10_79 dX10_apprentice_36 hk4 hb5 ?_
    obtain ⟨hk6, h⟩ := h
    refine jx_geti jc_1 (j := 0) (by decide) rfl jwF_X10_172 dX10_apprentice_39 hk6 ?_
    exact jx_iret dX10_apprentice_42 rfl rfl (jle rfl) (jle rfl) ⟨_, rfl, h⟩
  replace h := h.2
  by_cases c7 : x1 = 1
  · replace h := h.1 c7
    refine jx_tableIn (v := 1) (tgt := 43) (off := 42) dX10_apprentice_1 c7 (by decide) (by decide) (by decide) (by decide) ?_
    refine jx_aload_n 0 dX10_apprentice_43 rfl rfl ?_
    obtain ⟨hk8, h⟩ := h
    obtain ⟨b9, hb9, h⟩ := h
    refine jx_getr jc_10 (j := 0) (by decide) rfl jwF_X10_12 dX10_apprentice_44 hk8 hb9 ?_
    obtain ⟨hk10, h⟩ := h
    obtain ⟨b11, hb11, h⟩ := h
    refine jx_getr jc_3 (j := 2) (by decide) rfl jwF_X10_79 dX10_apprentice_47 hk10 hb11 ?_
    obtain ⟨hk12, h⟩ := h
    refine jx_geti jc_1 (j := 1) (by decide) rfl jwF_X10_107 dX10_apprentice_50 hk12 ?_
    exact jx_iret dX10_apprentice_53 rfl rfl (jle rfl) (jle rfl) ⟨_, rfl, h⟩
  replace h := h.2
  by_cases c13 : x1 = 2
  · replace h := h.1 c13
    refine jx_tableIn (v := 2) (tgt := 54) (off := 53) dX10_apprentice_1 c13 (by decide) (by decide) (by decide) (by decide) ?_
    refine jx_aload_n 0 dX10_apprentice_54 rfl rfl ?_
    obtain ⟨hk14, h⟩ := h
    obtain ⟨b15, hb15, h⟩ := h
    refine jx_getr jc_10 (j := 0) (by decide) rfl jwF_X10_12 dX10_apprentice_55 hk14 hb15 ?_
    obtain ⟨hk16, h⟩ := h
    obtain ⟨b17, hb17, h⟩ := h
    refine jx_getr jc_3 (j := 2) (by decide) rfl jwF_X10_79 dX10_apprentice_58 hk16 hb17 ?_
    obtain ⟨hk18, h⟩ := h
    refine jx_geti jc_1 (j := 2) (by decide) rfl jwF_X10_175 dX10_apprentice_61 hk18 ?_
    exact jx_iret dX10_apprentice_64 rfl rfl (jle rfl) (jle rfl) ⟨_, rfl, h⟩
  replace h := h.2
  by_cases c19 : x1 = 3
  · replace h := h.1 c19
    refine jx_tableIn (v := 3) (tgt := 65) (off := 64) dX10_apprentice_1 c19 (by decide) (by decide) (by decide) (by decide) ?_
    refine jx_aload_n 0 dX10_apprentice_65 rfl rfl ?_
    obtain ⟨hk20, h⟩ := h
    obtain ⟨b21, hb21, h⟩ := h
    refine jx_getr jc_10 (j := 0) (by decide) rfl jwF_X10_12 dX10_apprentice_66 hk20 hb21 ?_
    obtain ⟨hk22, h⟩ := h
    obtain ⟨b23, hb23, h⟩ := h
    refine jx_getr jc_3 (j := 2) (by decide) rfl jwF_X10_79 dX10_apprentice_69 hk22 hb23 ?_
    obtain ⟨hk24, h⟩ := h
    refine jx_geti jc_1 (j := 3) (by decide) rfl jwF_X10_178 dX10_apprentice_72 hk24 ?_
    exact jx_iret dX10_apprentice_75 rfl rfl (jle rfl) (jle rfl) ⟨_, rfl, h⟩
  replace h := h.2
  replace h := h c1 c7 c13 c19
  refine jx_tableD (tgt := 76) ([0, 1, 2, 3] : List Int) dX10_apprentice_1 (by simp only [List.mem_cons, List.not_mem_nil, or_false, forall_eq_or_imp, forall_eq]; exact ⟨lv_neT c1 (by decide), lv_neT c7 (by decide), lv_neT c13 (by decide), lv_neT c19 (by decide)⟩) (by decide) (by decide) (by decide) ?_
  refine jx_ldc jwC_X10_62 dX10_apprentice_76 ?_
  exact jx_iret dX10_apprentice_78 rfl rfl (jle rfl) (jle rfl) ⟨_, rfl, h⟩
set_option maxRecDepth 100000 in
set_option maxHeartbeats 4000000 in
theorem T_X10_has {E : jEnv} {d : Nat} {Q : Int32 → jM → Prop} {a0 : Nat} {x1 : Int32} {x2 : Int32} {S : jM} (h : jk S a0 = 10 ∧ ∃ b2, jr S a0 0 = some b2 ∧ (jk S b2 = 3 ∧ ∃ b4, jr S b2 2 = some b4 ∧ ((x1 = 2 → ((jwi x2 10000) = 0 → (x1 = 3 → ((jwi x2 100) = 0 → Q (-1000000001) S) ∧ (¬ (jwi x2 100) = 0 → jk S b4 = 1 ∧ Q (ji S b4 3) (jput S b4 3 x2))) ∧ (¬ x1 = 3 → Q (-1000000001) S)) ∧ (¬ (jwi x2 10000) = 0 → jk S b4 = 1 ∧ Q (ji S b4 2) (jput S b4 2 x2))) ∧ (¬ x1 = 2 → (x1 = 3 → ((jwi x2 100) = 0 → Q (-1000000001) S) ∧ (¬ (jwi x2 100) = 0 → jk S b4 = 1 ∧ Q (ji S b4 3) (jput S b4 3 x2))) ∧ (¬ x1 = 3 → Q (-1000000001) S))))) : jFi E mX10_has (d + 1) 0 0 [.ref a0, .int x1, .int x2] S Q := by
  refine jF_of (by decide) (jle rfl) ?_
  refine jx_lv (lv1 := [(0, .ref a0), (1, .int x1), (2, .int x2)]) [0, 1, 2] rfl ?_
  refine jx_aload_n 0 dX10_has_0 rfl rfl ?_
  obtain ⟨hk1, h⟩ := h
  obtain ⟨b2, hb2, h⟩ := h
  refine jx_getr jc_10 (j := 0) (by decide) rfl jwF_X10_12 dX10_has_1 hk1 hb2 ?_
  obtain ⟨hk3, h⟩ := h
  obtain ⟨b4, hb4, h⟩ := h
  refine jx_getr jc_3 (j := 2) (by decide) rfl jwF_X10_79 dX10_has_4 hk3 hb4 ?_
  refine jx_astore_n (lv1 := [(3, .ref b4), (0, .ref a0), (1, .int x1), (2, .int x2)]) dX10_has_7 rfl (by decide) rfl ?_
  refine jx_iload_n 2 dX10_has_8 rfl rfl ?_
  refine jx_iconst (v := 2) dX10_has_9 (by decide) ?_
  refine jx_icmp_ne (tgt := 37) dX10_has_10 (by decide) (fun c5 => ?_) (fun c5 => ?_)
  · replace h := h.2 c5
    refine jx_iload_n 2 dX10_has_37 rfl rfl ?_
    refine jx_iconst (v := 3) dX10_has_38 (by decide) ?_
    refine jx_icmp_ne (tgt := 65) dX10_has_39 (by decide) (fun c6 => ?_) (fun c6 => ?_)
    · replace h := h.2 c6
      refine jx_ldc jwC_X10_62 dX10_has_65 ?_
      exact jx_iret dX10_has_67 rfl rfl (jle rfl) (jle rfl) ⟨_, rfl, h⟩
    replace h := h.1 c6
    refine jx_iload_n 3 dX10_has_42 rfl rfl ?_
    refine jx_bipush (v := 100) dX10_has_43 (by decide) ?_
    refine jx_callSi (M' := mX10_within) (As := [.int x2, .int 100]) jo_X10_within jwM_X10_58 jwS_X10_within dX10_has_45 (jRok_m _ _ _) rfl (jle rfl) ⟨jle rfl, jle rfl⟩ (c_X10_within (Q := fun v S' => v = (jwi x2 100) ∧ S = S') ⟨rfl, rfl⟩) (fun r7 S8 hq9 => ?_)
    obtain ⟨rfl, rfl⟩ := hq9
    refine jx_if_eq (tgt := 65) dX10_has_48 (by decide) (fun c10 => ?_) (fun c10 => ?_)
    · replace h := h.1 c10
      refine jx_ldc jwC_X10_62 dX10_has_65 ?_
      exact jx_iret dX10_has_67 rfl rfl (jle rfl) (jle rfl) ⟨_, rfl, h⟩
    replace h := h.2 c10
    refine jx_aload_n 0 dX10_has_51 rfl rfl ?_
    obtain ⟨hk11, h⟩ := h
    refine jx_geti jc_1 (j := 3) (by decide) rfl jwF_X10_178 dX10_has_52 hk11 ?_
    refine jx_istore (lv1 := [(4, .int (ji S b4 3)), (3, .ref b4), (0, .ref a0), (1, .int x1), (2, .int x2)]) dX10_has_55 (by decide) rfl ?_
    refine jx_aload_n 1 dX10_has_57 rfl rfl ?_
    refine jx_iload_n 4 dX10_has_58 rfl rfl ?_
    refine jx_puti jc_1 (j := 3) (by decide) rfl jwF_X10_178 rfl rfl rfl dX10_has_59 hk11 ?_
    refine jx_iload 0 dX10_has_62 rfl ?_
    exact jx_iret dX10_has_64 rfl rfl (jle rfl) (jle rfl) ⟨_, rfl, h⟩
  replace h := h.1 c5
  refine jx_iload_n 3 dX10_has_13 rfl rfl ?_
  refine jx_sipush (v := 10000) dX10_has_14 (by decide) ?_
  refine jx_callSi (M' := mX10_within) (As := [.int x2, .int 10000]) jo_X10_within jwM_X10_58 jwS_X10_within dX10_has_17 (jRok_m _ _ _) rfl (jle rfl) ⟨jle rfl, jle rfl⟩ (c_X10_within (Q := fun v S' => v = (jwi x2 10000) ∧ S = S') ⟨rfl, rfl⟩) (fun r12 S13 hq14 => ?_)
  obtain ⟨rfl, rfl⟩ := hq14
  refine jx_if_eq (tgt := 37) dX10_has_20 (by decide) (fun c15 => ?_) (fun c15 => ?_)
  · replace h := h.1 c15
    refine jx_iload_n 2 dX10_has_37 rfl rfl ?_
    refine jx_iconst (v := 3) dX10_has_38 (by decide) ?_
    refine jx_icmp_ne (tgt := 65) dX10_has_39 (by decide) (fun c16 => ?_) (fun c16 => ?_)
    · replace h := h.2 c16
      refine jx_ldc jwC_X10_62 dX10_has_65 ?_
      exact jx_iret dX10_has_67 rfl rfl (jle rfl) (jle rfl) ⟨_, rfl, h⟩
    replace h := h.1 c16
    refine jx_iload_n 3 dX10_has_42 rfl rfl ?_
    refine jx_bipush (v := 100) dX10_has_43 (by decide) ?_
    refine jx_callSi (M' := mX10_within) (As := [.int x2, .int 100]) jo_X10_within jwM_X10_58 jwS_X10_within dX10_has_45 (jRok_m _ _ _) rfl (jle rfl) ⟨jle rfl, jle rfl⟩ (c_X10_within (Q := fun v S' => v = (jwi x2 100) ∧ S = S') ⟨rfl, rfl⟩) (fun r17 S18 hq19 => ?_)
    obtain ⟨rfl, rfl⟩ := hq19
    refine jx_if_eq (tgt := 65) dX10_has_48 (by decide) (fun c20 => ?_) (fun c20 => ?_)
    · replace h := h.1 c20
      refine jx_ldc jwC_X10_62 dX10_has_65 ?_
      exact jx_iret dX10_has_67 rfl rfl (jle rfl) (jle rfl) ⟨_, rfl, h⟩
    replace h := h.2 c20
    refine jx_aload_n 0 dX10_has_51 rfl rfl ?_
    obtain ⟨hk21, h⟩ := h
    refine jx_geti jc_1 (j := 3) (by decide) rfl jwF_X10_178 dX10_has_52 hk21 ?_
    refine jx_istore (lv1 := [(4, .int (ji S b4 3)), (3, .ref b4), (0, .ref a0), (1, .int x1), (2, .int x2)]) dX10_has_55 (by decide) rfl ?_
    refine jx_aload_n 1 dX10_has_57 rfl rfl ?_
    refine jx_iload_n 4 dX10_has_58 rfl rfl ?_
    refine jx_puti jc_1 (j := 3) (by decide) rfl jwF_X10_178 rfl rfl rfl dX10_has_59 hk21 ?_
    refine jx_iload 0 dX10_has_62 rfl ?_
    exact jx_iret dX10_has_64 rfl rfl (jle rfl) (jle rfl) ⟨_, rfl, h⟩
  replace h := h.2 c15
  refine jx_aload_n 0 dX10_has_23 rfl rfl ?_
  obtain ⟨hk22, h⟩ := h
  refine jx_geti jc_1 (j := 2) (by decide) rfl jwF_X10_175 dX10_has_24 hk22 ?_
  refine jx_istore (lv1 := [(4, .int (ji S b4 2)), (3, .ref b4), (0, .ref a0), (1, .int x1), (2, .int x2)]) dX10_has_27 (by decide) rfl ?_
  refine jx_aload_n 1 dX10_has_29 rfl rfl ?_
  refine jx_iload_n 4 dX10_has_30 rfl rfl ?_
  refine jx_puti jc_1 (j := 2) (by decide) rfl jwF_X10_175 rfl rfl rfl dX10_has_31 hk22 ?_
  refine jx_iload 0 dX10_has_34 rfl ?_
  exact jx_iret dX10_has_36 rfl rfl (jle rfl) (jle rfl) ⟨_, rfl, h⟩
set_option maxRecDepth 100000 in
set_option maxHeartbeats 4000000 in
theorem T_X10_knows {E : jEnv} {d : Nat} {Q : Int32 → jM → Prop} {a0 : Nat} {x1 : Int32} {x2 : Int32} {S : jM} (h : ((jwi x1 10) = 0 → Q (-1000000001) S) ∧ (¬ (jwi x1 10) = 0 → ((jwi x2 2) = 0 → Q (-1000000001) S) ∧ (¬ (jwi x2 2) = 0 → jk S a0 = 10 ∧ ∃ b10, jr S a0 0 = some b10 ∧ (jk S b10 = 3 ∧ ∃ b12, jr S b10 2 = some b12 ∧ (jk S b12 = 1 ∧ jFi E mX1_isAble d 0 0 [.ref b12, .int x1] S (fun r15 S14 => (r15 = 0 → Q (-1000000002) S14) ∧ (¬ r15 = 0 → (x2 = 0 → jk S14 b12 = 1 ∧ ∃ b23, jr S14 b12 5 = some b23 ∧ (jk S14 b23 = 12 ∧ vp_in x1 (jl S14 b23) ∧ (Q (ji S14 b23 (Int32.toNatClampNeg x1)) S14))) ∧ (¬ x2 = 0 → jk S14 b12 = 1 ∧ ∃ b19, jr S14 b12 6 = some b19 ∧ (jk S14 b19 = 12 ∧ vp_in x1 (jl S14 b19) ∧ (Q (ji S14 b19 (Int32.toNatClampNeg x1)) S14)))))))))) : jFi E mX10_knows (d + 1) 0 0 [.ref a0, .int x1, .int x2] S Q := by
  refine jF_of (by decide) (jle rfl) ?_
  refine jx_lv (lv1 := [(0, .ref a0), (1, .int x1), (2, .int x2)]) [0, 1, 2] rfl ?_
  refine jx_iload_n 1 dX10_knows_0 rfl rfl ?_
  refine jx_bipush (v := 10) dX10_knows_1 (by decide) ?_
  refine jx_callSi (M' := mX10_within) (As := [.int x1, .int 10]) jo_X10_within jwM_X10_58 jwS_X10_within dX10_knows_3 (jRok_m _ _ _) rfl (jle rfl) ⟨jle rfl, jle rfl⟩ (c_X10_within (Q := fun v S' => v = (jwi x1 10) ∧ S = S') ⟨rfl, rfl⟩) (fun r1 S2 hq3 => ?_)
  obtain ⟨rfl, rfl⟩ := hq3
  refine jx_if_eq (tgt := 17) dX10_knows_6 (by decide) (fun c4 => ?_) (fun c4 => ?_)
  · replace h := h.1 c4
    refine jx_ldc jwC_X10_62 dX10_knows_17 ?_
    exact jx_iret dX10_knows_19 rfl rfl (jle rfl) (jle rfl) ⟨_, rfl, h⟩
  replace h := h.2 c4
  refine jx_iload_n 2 dX10_knows_9 rfl rfl ?_
  refine jx_iconst (v := 2) dX10_knows_10 (by decide) ?_
  refine jx_callSi (M' := mX10_within) (As := [.int x2, .int 2]) jo_X10_within jwM_X10_58 jwS_X10_within dX10_knows_11 (jRok_m _ _ _) rfl (jle rfl) ⟨jle rfl, jle rfl⟩ (c_X10_within (Q := fun v S' => v = (jwi x2 2) ∧ S = S') ⟨rfl, rfl⟩) (fun r5 S6 hq7 => ?_)
  obtain ⟨rfl, rfl⟩ := hq7
  refine jx_if_ne (tgt := 20) dX10_knows_14 (by decide) (fun c8 => ?_) (fun c8 => ?_)
  · replace h := h.2 c8
    refine jx_aload_n 0 dX10_knows_20 rfl rfl ?_
    obtain ⟨hk9, h⟩ := h
    obtain ⟨b10, hb10, h⟩ := h
    refine jx_getr jc_10 (j := 0) (by decide) rfl jwF_X10_12 dX10_knows_21 hk9 hb10 ?_
    obtain ⟨hk11, h⟩ := h
    obtain ⟨b12, hb12, h⟩ := h
    refine jx_getr jc_3 (j := 2) (by decide) rfl jwF_X10_79 dX10_knows_24 hk11 hb12 ?_
    refine jx_astore_n (lv1 := [(3, .ref b12), (0, .ref a0), (1, .int x1), (2, .int x2)]) dX10_knows_27 rfl (by decide) rfl ?_
    refine jx_aload_n 0 dX10_knows_28 rfl rfl ?_
    refine jx_iload_n 2 dX10_knows_29 rfl rfl ?_
    obtain ⟨hk13, h⟩ := h
    refine jx_callVi (M' := mX1_isAble) (As := [.int x1]) jo_X1_isAble jc_1 rfl jwM_X10_181 jwN_X1_isAble jwX_X1_isAble dX10_knows_30 (jRok_m _ _ _) rfl (jle rfl) ⟨jle rfl, jle rfl⟩ hk13 h (fun r15 S14 h => ?_)
    refine jx_if_ne (tgt := 39) dX10_knows_33 (by decide) (fun c16 => ?_) (fun c16 => ?_)
    · replace h := h.2 c16
      refine jx_iload_n 3 dX10_knows_39 rfl rfl ?_
      refine jx_if_ne (tgt := 52) dX10_knows_40 (by decide) (fun c17 => ?_) (fun c17 => ?_)
      · replace h := h.2 c17
        refine jx_aload_n 0 dX10_knows_52 rfl rfl ?_
        obtain ⟨hk18, h⟩ := h
        obtain ⟨b19, hb19, h⟩ := h
        refine jx_getr jc_1 (j := 6) (by decide) rfl jwF_X10_188 dX10_knows_53 hk18 hb19 ?_
        refine jx_iload_n 2 dX10_knows_56 rfl rfl ?_
        obtain ⟨hk20, h⟩ := h
        obtain ⟨hi21, h⟩ := h
        refine jx_iald dX10_knows_57 hk20 hi21 ?_
        exact jx_iret dX10_knows_58 rfl rfl (jle rfl) (jle rfl) ⟨_, rfl, h⟩
      replace h := h.1 c17
      refine jx_aload_n 0 dX10_knows_43 rfl rfl ?_
      obtain ⟨hk22, h⟩ := h
      obtain ⟨b23, hb23, h⟩ := h
      refine jx_getr jc_1 (j := 5) (by decide) rfl jwF_X10_185 dX10_knows_44 hk22 hb23 ?_
      refine jx_iload_n 2 dX10_knows_47 rfl rfl ?_
      obtain ⟨hk24, h⟩ := h
      obtain ⟨hi25, h⟩ := h
      refine jx_iald dX10_knows_48 hk24 hi25 ?_
      refine jx_goto (tgt := 58) dX10_knows_49 (by decide) ?_
      exact jx_iret dX10_knows_58 rfl rfl (jle rfl) (jle rfl) ⟨_, rfl, h⟩
    replace h := h.1 c16
    refine jx_ldc jwC_X10_184 dX10_knows_36 ?_
    exact jx_iret dX10_knows_38 rfl rfl (jle rfl) (jle rfl) ⟨_, rfl, h⟩
  replace h := h.1 c8
  refine jx_ldc jwC_X10_62 dX10_knows_17 ?_
  exact jx_iret dX10_knows_19 rfl rfl (jle rfl) (jle rfl) ⟨_, rfl, h⟩
set_option maxRecDepth 100000 in
set_option maxHeartbeats 4000000 in
theorem T_X10_go {E : jEnv} {d : Nat} {Q : Int32 → jM → Prop} {a0 : Nat} {x1 : Int32} {S : jM} (h : jk S a0 = 10 ∧ ∃ b2, jr S a0 0 = some b2 ∧ (jk S b2 = 3 ∧ ∃ b4, jr S b2 2 = some b4 ∧ (((jwi x1 6) = 0 → Q (-1000000001) S) ∧ (¬ (jwi x1 6) = 0 → jk S b4 = 1 ∧ (x1 = (ji S b4 0) → Q (-1000000001) S) ∧ (¬ x1 = (ji S b4 0) → ∃ b11, jr S b2 1 = some b11 ∧ (jk S b11 = 4 ∧ jFi E mX4_direct d 0 0 [.ref b11, .int (ji S b4 0), .int x1] S (fun r14 S13 => (r14 = 0 → Q (-1000000002) S13) ∧ (¬ r14 = 0 → jk S13 b4 = 1 ∧ jFv E mX1_passDays d 0 0 [.ref b4, .int r14] S13 (fun S17 => jk S17 b4 = 1 ∧ Q (ji S17 b4 4) (jput S17 b4 0 x1)))))))))) : jFi E mX10_go (d + 1) 0 0 [.ref a0, .int x1] S Q := by
  refine jF_of (by decide) (jle rfl) ?_
  refine jx_lv (lv1 := [(0, .ref a0), (1, .int x1)]) [0, 1] rfl ?_
  refine jx_aload_n 0 dX10_go_0 rfl rfl ?_
  obtain ⟨hk1, h⟩ := h
  obtain ⟨b2, hb2, h⟩ := h
  refine jx_getr jc_10 (j := 0) (by decide) rfl jwF_X10_12 dX10_go_1 hk1 hb2 ?_
  obtain ⟨hk3, h⟩ := h
  obtain ⟨b4, hb4, h⟩ := h
  refine jx_getr jc_3 (j := 2) (by decide) rfl jwF_X10_79 dX10_go_4 hk3 hb4 ?_
  refine jx_astore_n (lv1 := [(2, .ref b4), (0, .ref a0), (1, .int x1)]) dX10_go_7 rfl (by decide) rfl ?_
  refine jx_iload_n 2 dX10_go_8 rfl rfl ?_
  refine jx_bipush (v := 6) dX10_go_9 (by decide) ?_
  refine jx_callSi (M' := mX10_within) (As := [.int x1, .int 6]) jo_X10_within jwM_X10_58 jwS_X10_within dX10_go_11 (jRok_m _ _ _) rfl (jle rfl) ⟨jle rfl, jle rfl⟩ (c_X10_within (Q := fun v S' => v = (jwi x1 6) ∧ S = S') ⟨rfl, rfl⟩) (fun r5 S6 hq7 => ?_)
  obtain ⟨rfl, rfl⟩ := hq7
  refine jx_if_eq (tgt := 25) dX10_go_14 (by decide) (fun c8 => ?_) (fun c8 => ?_)
  · replace h := h.1 c8
    refine jx_ldc jwC_X10_62 dX10_go_25 ?_
    exact jx_iret dX10_go_27 rfl rfl (jle rfl) (jle rfl) ⟨_, rfl, h⟩
  replace h := h.2 c8
  refine jx_iload_n 2 dX10_go_17 rfl rfl ?_
  refine jx_aload_n 0 dX10_go_18 rfl rfl ?_
  obtain ⟨hk9, h⟩ := h
  refine jx_geti jc_1 (j := 0) (by decide) rfl jwF_X10_172 dX10_go_19 hk9 ?_
  refine jx_icmp_ne (tgt := 28) dX10_go_22 (by decide) (fun c10 => ?_) (fun c10 => ?_)
  · replace h := h.2 c10
    refine jx_aload_n 1 dX10_go_28 rfl rfl ?_
    refine jx_getr jc_10 (j := 0) (by decide) rfl jwF_X10_12 dX10_go_29 hk1 hb2 ?_
    obtain ⟨b11, hb11, h⟩ := h
    refine jx_getr jc_3 (j := 1) (by decide) rfl jwF_X10_143 dX10_go_32 hk3 hb11 ?_
    refine jx_aload_n 0 dX10_go_35 rfl rfl ?_
    refine jx_geti jc_1 (j := 0) (by decide) rfl jwF_X10_172 dX10_go_36 hk9 ?_
    refine jx_iload_n 2 dX10_go_39 rfl rfl ?_
    obtain ⟨hk12, h⟩ := h
    refine jx_callVi (M' := mX4_direct) (As := [.int (ji S b4 0), .int x1]) jo_X4_direct jc_4 rfl jwM_X10_147 jwN_X4_direct jwX_X4_direct dX10_go_40 (jRok_m _ _ _) rfl (jle rfl) ⟨jle rfl, jle rfl⟩ hk12 h (fun r14 S13 h => ?_)
    refine jx_istore_n (lv1 := [(3, .int r14), (2, .ref b4), (0, .ref a0), (1, .int x1)]) dX10_go_43 rfl (by decide) rfl ?_
    refine jx_iload_n 0 dX10_go_44 rfl rfl ?_
    refine jx_if_ne (tgt := 51) dX10_go_45 (by decide) (fun c15 => ?_) (fun c15 => ?_)
    · replace h := h.2 c15
      refine jx_aload_n 1 dX10_go_51 rfl rfl ?_
      refine jx_iload_n 0 dX10_go_52 rfl rfl ?_
      obtain ⟨hk16, h⟩ := h
      refine jx_callVv (M' := mX1_passDays) (As := [.int r14]) jo_X1_passDays jc_1 rfl jwM_X10_191 jwN_X1_passDays jwX_X1_passDays dX10_go_53 (jRok_m _ _ _) rfl (jle rfl) ⟨jle rfl, jle rfl⟩ hk16 h (fun S17 h => ?_)
      refine jx_aload_n 1 dX10_go_56 rfl rfl ?_
      refine jx_iload_n 3 dX10_go_57 rfl rfl ?_
      obtain ⟨hk18, h⟩ := h
      refine jx_puti jc_1 (j := 0) (by decide) rfl jwF_X10_172 rfl rfl rfl dX10_go_58 hk18 ?_
      refine jx_aload_n 1 dX10_go_61 rfl rfl ?_
      refine jx_geti jc_1 (j := 4) (by decide) rfl jwF_X10_195 dX10_go_62 hk18 ?_
      refine jx_topi (y := (ji S17 b4 4)) (by simp [ji_put, ji_row, ji_putr]) ?_
      exact jx_iret dX10_go_65 rfl rfl (jle rfl) (jle rfl) ⟨_, rfl, h⟩
    replace h := h.1 c15
    refine jx_ldc jwC_X10_184 dX10_go_48 ?_
    exact jx_iret dX10_go_50 rfl rfl (jle rfl) (jle rfl) ⟨_, rfl, h⟩
  replace h := h.1 c10
  refine jx_ldc jwC_X10_62 dX10_go_25 ?_
  exact jx_iret dX10_go_27 rfl rfl (jle rfl) (jle rfl) ⟨_, rfl, h⟩
set_option maxRecDepth 100000 in
set_option maxHeartbeats 4000000 in
theorem T_X10_learn {E : jEnv} {d : Nat} {Q : Int32 → jM → Prop} {a0 : Nat} {x1 : Int32} {S : jM} (h : jk S a0 = 10 ∧ ∃ b2, jr S a0 0 = some b2 ∧ (jk S b2 = 3 ∧ ∃ b4, jr S b2 0 = some b4 ∧ (jk S b4 = 0 ∧ jFr E mX0_find d 0 0 [.ref b4, .int x1] S (fun o7 S6 => (o7 = none → Q (-1000000001) S6) ∧ (∀ b8, o7 = some b8 → jk S6 a0 = 10 ∧ ∃ b10, jr S6 a0 0 = some b10 ∧ (jk S6 b10 = 3 ∧ ∃ b12, jr S6 b10 2 = some b12 ∧ (jk S6 b12 = 1 ∧ jFi E mX1_canLearnOf d 0 0 [.ref b12, .ref b8] S6 (fun r15 S14 => (r15 = 0 → Q (-1000000002) S14) ∧ (¬ r15 = 0 → jk S14 a0 = 10 ∧ ∃ b18, jr S14 a0 0 = some b18 ∧ (jk S14 b12 = 1 ∧ jk S14 b18 = 3 ∧ jFi E mX3_daysTaken d 0 0 [.ref b18, .ref b8, .int (jbc (ji S14 b12 1))] S14 (fun r25 S24 => jk S24 b12 = 1 ∧ jFv E mX1_learnOf d 0 0 [.ref b12, .int x1, .ref b8, .int r25] S24 (fun S27 => jk S27 b12 = 1 ∧ Q (ji S27 b12 1) S27)))))))))))) : jFi E mX10_learn (d + 1) 0 0 [.ref a0, .int x1] S Q := by
  refine jF_of (by decide) (jle rfl) ?_
  refine jx_lv (lv1 := [(0, .ref a0), (1, .int x1)]) [0, 1] rfl ?_
  refine jx_aload_n 0 dX10_learn_0 rfl rfl ?_
  obtain ⟨hk1, h⟩ := h
  obtain ⟨b2, hb2, h⟩ := h
  refine jx_getr jc_10 (j := 0) (by decide) rfl jwF_X10_12 dX10_learn_1 hk1 hb2 ?_
  obtain ⟨hk3, h⟩ := h
  obtain ⟨b4, hb4, h⟩ := h
  refine jx_getr jc_3 (j := 0) (by decide) rfl jwF_X10_63 dX10_learn_4 hk3 hb4 ?_
  refine jx_iload_n 1 dX10_learn_7 rfl rfl ?_
  obtain ⟨hk5, h⟩ := h
  refine jx_callVr (M' := mX0_find) (As := [.int x1]) jo_X0_find jc_0 rfl jwM_X10_75 jwN_X0_find jwX_X0_find dX10_learn_8 (jRok_m _ _ _) rfl (jle rfl) ⟨jle rfl, jle rfl⟩ hk5 h (fun o7 S6 h => ?_)
  rcases o7 with _ | b8
  · replace h := h.1 rfl
    refine jx_astore_nN (lv1 := [(2, .null), (0, .ref a0), (1, .int x1)]) dX10_learn_11 rfl (by decide) rfl ?_
    refine jx_aload_nN 0 dX10_learn_12 rfl rfl ?_
    refine jx_ifnonnullN dX10_learn_13 ?_
    refine jx_ldc jwC_X10_62 dX10_learn_16 ?_
    exact jx_iret dX10_learn_18 rfl rfl (jle rfl) (jle rfl) ⟨_, rfl, h⟩
  replace h := h.2 b8 rfl
  refine jx_astore_n (lv1 := [(2, .ref b8), (0, .ref a0), (1, .int x1)]) dX10_learn_11 rfl (by decide) rfl ?_
  refine jx_aload_n 0 dX10_learn_12 rfl rfl ?_
  refine jx_ifnonnull (tgt := 19) dX10_learn_13 (by decide) ?_
  refine jx_aload_n 1 dX10_learn_19 rfl rfl ?_
  obtain ⟨hk9, h⟩ := h
  obtain ⟨b10, hb10, h⟩ := h
  refine jx_getr jc_10 (j := 0) (by decide) rfl jwF_X10_12 dX10_learn_20 hk9 hb10 ?_
  obtain ⟨hk11, h⟩ := h
  obtain ⟨b12, hb12, h⟩ := h
  refine jx_getr jc_3 (j := 2) (by decide) rfl jwF_X10_79 dX10_learn_23 hk11 hb12 ?_
  refine jx_astore_n (lv1 := [(3, .ref b12), (2, .ref b8), (0, .ref a0), (1, .int x1)]) dX10_learn_26 rfl (by decide) rfl ?_
  refine jx_aload_n 0 dX10_learn_27 rfl rfl ?_
  refine jx_aload_n 1 dX10_learn_28 rfl rfl ?_
  obtain ⟨hk13, h⟩ := h
  refine jx_callVi (M' := mX1_canLearnOf) (As := [.ref b8]) jo_X1_canLearnOf jc_1 rfl jwM_X10_198 jwN_X1_canLearnOf jwX_X1_canLearnOf dX10_learn_29 (jRok_m _ _ _) rfl (jle rfl) ⟨jle rfl, jle rfl⟩ hk13 h (fun r15 S14 h => ?_)
  refine jx_if_ne (tgt := 38) dX10_learn_32 (by decide) (fun c16 => ?_) (fun c16 => ?_)
  · replace h := h.2 c16
    refine jx_aload_n 0 dX10_learn_38 rfl rfl ?_
    refine jx_iload_n 3 dX10_learn_39 rfl rfl ?_
    refine jx_aload_n 1 dX10_learn_40 rfl rfl ?_
    refine jx_aload_n 2 dX10_learn_41 rfl rfl ?_
    obtain ⟨hk17, h⟩ := h
    obtain ⟨b18, hb18, h⟩ := h
    refine jx_getr jc_10 (j := 0) (by decide) rfl jwF_X10_12 dX10_learn_42 hk17 hb18 ?_
    refine jx_aload_n 1 dX10_learn_45 rfl rfl ?_
    refine jx_aload_n 0 dX10_learn_46 rfl rfl ?_
    obtain ⟨hk19, h⟩ := h
    refine jx_geti jc_1 (j := 1) (by decide) rfl jwF_X10_107 dX10_learn_47 hk19 ?_
    refine jx_callSi (M' := mJ6_bitCount_0f7a4) (As := [.int (ji S14 b12 1)]) jo_J6_bitCount_0f7a4 jwM_X10_112 jwS_J6_bitCount_0f7a4 dX10_learn_50 (jRok_m _ _ _) rfl (jle rfl) ⟨jle rfl, jle rfl⟩ (c_J6_bitCount_0f7a4 (Q := fun v S' => v = (jbc (ji S14 b12 1)) ∧ S14 = S') ⟨rfl, rfl⟩) (fun r20 S21 hq22 => ?_)
    obtain ⟨rfl, rfl⟩ := hq22
    obtain ⟨hk23, h⟩ := h
    refine jx_callVi (M' := mX3_daysTaken) (As := [.ref b8, .int (jbc (ji S14 b12 1))]) jo_X3_daysTaken jc_3 rfl jwM_X10_118 jwN_X3_daysTaken jwX_X3_daysTaken dX10_learn_53 (jRok_m _ _ _) rfl (jle rfl) ⟨jle rfl, jle rfl⟩ hk23 h (fun r25 S24 h => ?_)
    obtain ⟨hk26, h⟩ := h
    refine jx_callVv (M' := mX1_learnOf) (As := [.int x1, .ref b8, .int r25]) jo_X1_learnOf jc_1 rfl jwM_X10_202 jwN_X1_learnOf jwX_X1_learnOf dX10_learn_56 (jRok_m _ _ _) rfl (jle rfl) ⟨jle rfl, jle rfl⟩ hk26 h (fun S27 h => ?_)
    refine jx_aload_n 0 dX10_learn_59 rfl rfl ?_
    obtain ⟨hk28, h⟩ := h
    refine jx_geti jc_1 (j := 1) (by decide) rfl jwF_X10_107 dX10_learn_60 hk28 ?_
    exact jx_iret dX10_learn_63 rfl rfl (jle rfl) (jle rfl) ⟨_, rfl, h⟩
  replace h := h.1 c16
  refine jx_ldc jwC_X10_184 dX10_learn_35 ?_
  exact jx_iret dX10_learn_37 rfl rfl (jle rfl) (jle rfl) ⟨_, rfl, h⟩
set_option maxRecDepth 100000 in
set_option maxHeartbeats 4000000 in
theorem T_X10_use {E : jEnv} {d : Nat} {Q : Int32 → jM → Prop} {a0 : Nat} {x1 : Int32} {S : jM} (h : ((jwi x1 10) = 0 → Q (-1000000001) S) ∧ (¬ (jwi x1 10) = 0 → jk S a0 = 10 ∧ ∃ b6, jr S a0 0 = some b6 ∧ (jk S b6 = 3 ∧ ∃ b8, jr S b6 2 = some b8 ∧ (jk S b8 = 1 ∧ jFi E mX1_practise d 0 0 [.ref b8, .int x1] S (fun r11 S10 => (r11 = 0 → Q (-1000000002) S10) ∧ (¬ r11 = 0 → jk S10 a0 = 10 ∧ ∃ b14, jr S10 a0 0 = some b14 ∧ (jk S10 b14 = 3 ∧ ∃ b16, jr S10 b14 2 = some b16 ∧ (jk S10 b16 = 1 ∧ Q (ji S10 b16 1) S10)))))))) : jFi E mX10_use (d + 1) 0 0 [.ref a0, .int x1] S Q := by
  refine jF_of (by decide) (jle rfl) ?_
  refine jx_lv (lv1 := [(0, .ref a0), (1, .int x1)]) [0, 1] rfl ?_
  refine jx_iload_n 1 dX10_use_0 rfl rfl ?_
  refine jx_bipush (v := 10) dX10_use_1 (by decide) ?_
  refine jx_callSi (M' := mX10_within) (As := [.int x1, .int 10]) jo_X10_within jwM_X10_58 jwS_X10_within dX10_use_3 (jRok_m _ _ _) rfl (jle rfl) ⟨jle rfl, jle rfl⟩ (c_X10_within (Q := fun v S' => v = (jwi x1 10) ∧ S = S') ⟨rfl, rfl⟩) (fun r1 S2 hq3 => ?_)
  obtain ⟨rfl, rfl⟩ := hq3
  refine jx_if_ne (tgt := 12) dX10_use_6 (by decide) (fun c4 => ?_) (fun c4 => ?_)
  · replace h := h.2 c4
    refine jx_aload_n 0 dX10_use_12 rfl rfl ?_
    obtain ⟨hk5, h⟩ := h
    obtain ⟨b6, hb6, h⟩ := h
    refine jx_getr jc_10 (j := 0) (by decide) rfl jwF_X10_12 dX10_use_13 hk5 hb6 ?_
    obtain ⟨hk7, h⟩ := h
    obtain ⟨b8, hb8, h⟩ := h
    refine jx_getr jc_3 (j := 2) (by decide) rfl jwF_X10_79 dX10_use_16 hk7 hb8 ?_
    refine jx_iload_n 1 dX10_use_19 rfl rfl ?_
    obtain ⟨hk9, h⟩ := h
    refine jx_callVi (M' := mX1_practise) (As := [.int x1]) jo_X1_practise jc_1 rfl jwM_X10_206 jwN_X1_practise jwX_X1_practise dX10_use_20 (jRok_m _ _ _) rfl (jle rfl) ⟨jle rfl, jle rfl⟩ hk9 h (fun r11 S10 h => ?_)
    refine jx_if_eq (tgt := 39) dX10_use_23 (by decide) (fun c12 => ?_) (fun c12 => ?_)
    · replace h := h.1 c12
      refine jx_ldc jwC_X10_184 dX10_use_39 ?_
      exact jx_iret dX10_use_41 rfl rfl (jle rfl) (jle rfl) ⟨_, rfl, h⟩
    replace h := h.2 c12
    refine jx_aload_n 0 dX10_use_26 rfl rfl ?_
    obtain ⟨hk13, h⟩ := h
    obtain ⟨b14, hb14, h⟩ := h
    refine jx_getr jc_10 (j := 0) (by decide) rfl jwF_X10_12 dX10_use_27 hk13 hb14 ?_
    obtain ⟨hk15, h⟩ := h
    obtain ⟨b16, hb16, h⟩ := h
    refine jx_getr jc_3 (j := 2) (by decide) rfl jwF_X10_79 dX10_use_30 hk15 hb16 ?_
    obtain ⟨hk17, h⟩ := h
    refine jx_geti jc_1 (j := 1) (by decide) rfl jwF_X10_107 dX10_use_33 hk17 ?_
    refine jx_goto (tgt := 41) dX10_use_36 (by decide) ?_
    exact jx_iret dX10_use_41 rfl rfl (jle rfl) (jle rfl) ⟨_, rfl, h⟩
  replace h := h.1 c4
  refine jx_ldc jwC_X10_62 dX10_use_9 ?_
  exact jx_iret dX10_use_11 rfl rfl (jle rfl) (jle rfl) ⟨_, rfl, h⟩
set_option maxRecDepth 100000 in
set_option maxHeartbeats 4000000 in
theorem T_X10_rests {E : jEnv} {d : Nat} {Q : Int32 → jM → Prop} {a0 : Nat} {x1 : Int32} {S : jM} (h : (x1 < 1 → Q (-1000000001) S) ∧ (¬ x1 < 1 → (x1 ≤ 100 → jk S a0 = 10 ∧ ∃ b4, jr S a0 0 = some b4 ∧ (jk S b4 = 3 ∧ ∃ b6, jr S b4 2 = some b6 ∧ (jk S b6 = 1 ∧ jFv E mX1_passDays d 0 0 [.ref b6, .int x1] S (fun S8 => jk S8 a0 = 10 ∧ ∃ b10, jr S8 a0 0 = some b10 ∧ (jk S8 b10 = 3 ∧ ∃ b12, jr S8 b10 2 = some b12 ∧ (jk S8 b12 = 1 ∧ Q (ji S8 b12 1) S8)))))) ∧ (¬ x1 ≤ 100 → Q (-1000000001) S))) : jFi E mX10_rests (d + 1) 0 0 [.ref a0, .int x1] S Q := by
  refine jF_of (by decide) (jle rfl) ?_
  refine jx_lv (lv1 := [(0, .ref a0), (1, .int x1)]) [0, 1] rfl ?_
  refine jx_iload_n 1 dX10_rests_0 rfl rfl ?_
  refine jx_iconst (v := 1) dX10_rests_1 (by decide) ?_
  refine jx_icmp_lt (tgt := 11) dX10_rests_2 (by decide) (fun c1 => ?_) (fun c1 => ?_)
  · replace h := h.1 c1
    refine jx_ldc jwC_X10_62 dX10_rests_11 ?_
    exact jx_iret dX10_rests_13 rfl rfl (jle rfl) (jle rfl) ⟨_, rfl, h⟩
  replace h := h.2 c1
  refine jx_iload_n 1 dX10_rests_5 rfl rfl ?_
  refine jx_bipush (v := 100) dX10_rests_6 (by decide) ?_
  refine jx_icmp_le (tgt := 14) dX10_rests_8 (by decide) (fun c2 => ?_) (fun c2 => ?_)
  · replace h := h.1 c2
    refine jx_aload_n 0 dX10_rests_14 rfl rfl ?_
    obtain ⟨hk3, h⟩ := h
    obtain ⟨b4, hb4, h⟩ := h
    refine jx_getr jc_10 (j := 0) (by decide) rfl jwF_X10_12 dX10_rests_15 hk3 hb4 ?_
    obtain ⟨hk5, h⟩ := h
    obtain ⟨b6, hb6, h⟩ := h
    refine jx_getr jc_3 (j := 2) (by decide) rfl jwF_X10_79 dX10_rests_18 hk5 hb6 ?_
    refine jx_iload_n 1 dX10_rests_21 rfl rfl ?_
    obtain ⟨hk7, h⟩ := h
    refine jx_callVv (M' := mX1_passDays) (As := [.int x1]) jo_X1_passDays jc_1 rfl jwM_X10_191 jwN_X1_passDays jwX_X1_passDays dX10_rests_22 (jRok_m _ _ _) rfl (jle rfl) ⟨jle rfl, jle rfl⟩ hk7 h (fun S8 h => ?_)
    refine jx_aload_n 0 dX10_rests_25 rfl rfl ?_
    obtain ⟨hk9, h⟩ := h
    obtain ⟨b10, hb10, h⟩ := h
    refine jx_getr jc_10 (j := 0) (by decide) rfl jwF_X10_12 dX10_rests_26 hk9 hb10 ?_
    obtain ⟨hk11, h⟩ := h
    obtain ⟨b12, hb12, h⟩ := h
    refine jx_getr jc_3 (j := 2) (by decide) rfl jwF_X10_79 dX10_rests_29 hk11 hb12 ?_
    obtain ⟨hk13, h⟩ := h
    refine jx_geti jc_1 (j := 1) (by decide) rfl jwF_X10_107 dX10_rests_32 hk13 ?_
    exact jx_iret dX10_rests_35 rfl rfl (jle rfl) (jle rfl) ⟨_, rfl, h⟩
  replace h := h.2 c2
  refine jx_ldc jwC_X10_62 dX10_rests_11 ?_
  exact jx_iret dX10_rests_13 rfl rfl (jle rfl) (jle rfl) ⟨_, rfl, h⟩
set_option maxRecDepth 100000 in
set_option maxHeartbeats 4000000 in
theorem T_X10_wants {E : jEnv} {d : Nat} {Q : Int32 → jM → Prop} {a0 : Nat} {x1 : Int32} {S : jM} (h : ((jwi x1 10) = 0 → Q (-1000000001) S) ∧ (¬ (jwi x1 10) = 0 → jk S a0 = 10 ∧ ∃ b6, jr S a0 0 = some b6 ∧ (jk S b6 = 3 ∧ jFi E mX3_addWish d 0 0 [.ref b6, .int x1] S (fun r9 S8 => (r9 = 0 → Q (-1000000003) S8) ∧ (¬ r9 = 0 → jk S8 a0 = 10 ∧ ∃ b12, jr S8 a0 0 = some b12 ∧ (jk S8 b12 = 3 ∧ Q (ji S8 b12 4) S8)))))) : jFi E mX10_wants (d + 1) 0 0 [.ref a0, .int x1] S Q := by
  refine jF_of (by decide) (jle rfl) ?_
  refine jx_lv (lv1 := [(0, .ref a0), (1, .int x1)]) [0, 1] rfl ?_
  refine jx_iload_n 1 dX10_wants_0 rfl rfl ?_
  refine jx_bipush (v := 10) dX10_wants_1 (by decide) ?_
  refine jx_callSi (M' := mX10_within) (As := [.int x1, .int 10]) jo_X10_within jwM_X10_58 jwS_X10_within dX10_wants_3 (jRok_m _ _ _) rfl (jle rfl) ⟨jle rfl, jle rfl⟩ (c_X10_within (Q := fun v S' => v = (jwi x1 10) ∧ S = S') ⟨rfl, rfl⟩) (fun r1 S2 hq3 => ?_)
  obtain ⟨rfl, rfl⟩ := hq3
  refine jx_if_ne (tgt := 12) dX10_wants_6 (by decide) (fun c4 => ?_) (fun c4 => ?_)
  · replace h := h.2 c4
    refine jx_aload_n 0 dX10_wants_12 rfl rfl ?_
    obtain ⟨hk5, h⟩ := h
    obtain ⟨b6, hb6, h⟩ := h
    refine jx_getr jc_10 (j := 0) (by decide) rfl jwF_X10_12 dX10_wants_13 hk5 hb6 ?_
    refine jx_iload_n 1 dX10_wants_16 rfl rfl ?_
    obtain ⟨hk7, h⟩ := h
    refine jx_callVi (M' := mX3_addWish) (As := [.int x1]) jo_X3_addWish jc_3 rfl jwM_X10_209 jwN_X3_addWish jwX_X3_addWish dX10_wants_17 (jRok_m _ _ _) rfl (jle rfl) ⟨jle rfl, jle rfl⟩ hk7 h (fun r9 S8 h => ?_)
    refine jx_if_eq (tgt := 33) dX10_wants_20 (by decide) (fun c10 => ?_) (fun c10 => ?_)
    · replace h := h.1 c10
      refine jx_ldc jwC_X10_74 dX10_wants_33 ?_
      exact jx_iret dX10_wants_35 rfl rfl (jle rfl) (jle rfl) ⟨_, rfl, h⟩
    replace h := h.2 c10
    refine jx_aload_n 0 dX10_wants_23 rfl rfl ?_
    obtain ⟨hk11, h⟩ := h
    obtain ⟨b12, hb12, h⟩ := h
    refine jx_getr jc_10 (j := 0) (by decide) rfl jwF_X10_12 dX10_wants_24 hk11 hb12 ?_
    obtain ⟨hk13, h⟩ := h
    refine jx_geti jc_3 (j := 4) (by decide) rfl jwF_X10_212 dX10_wants_27 hk13 ?_
    refine jx_goto (tgt := 35) dX10_wants_30 (by decide) ?_
    exact jx_iret dX10_wants_35 rfl rfl (jle rfl) (jle rfl) ⟨_, rfl, h⟩
  replace h := h.1 c4
  refine jx_ldc jwC_X10_62 dX10_wants_9 ?_
  exact jx_iret dX10_wants_11 rfl rfl (jle rfl) (jle rfl) ⟨_, rfl, h⟩
set_option maxRecDepth 100000 in
set_option maxHeartbeats 4000000 in
theorem T_X10_clear {E : jEnv} {d : Nat} {Q : Int32 → jM → Prop} {a0 : Nat} {S : jM} (h : jk S a0 = 10 ∧ ∃ b2, jr S a0 0 = some b2 ∧ (jk S b2 = 3 ∧ Q (ji S b2 4) (jput S b2 4 0))) : jFi E mX10_clear d 0 0 [.ref a0] S Q := by
  refine jF_of (by decide) (jle rfl) ?_
  refine jx_lv (lv1 := [(0, .ref a0)]) [0] rfl ?_
  refine jx_aload_n 0 dX10_clear_0 rfl rfl ?_
  obtain ⟨hk1, h⟩ := h
  obtain ⟨b2, hb2, h⟩ := h
  refine jx_getr jc_10 (j := 0) (by decide) rfl jwF_X10_12 dX10_clear_1 hk1 hb2 ?_
  obtain ⟨hk3, h⟩ := h
  refine jx_geti jc_3 (j := 4) (by decide) rfl jwF_X10_212 dX10_clear_4 hk3 ?_
  refine jx_istore_n (lv1 := [(1, .int (ji S b2 4)), (0, .ref a0)]) dX10_clear_7 rfl (by decide) rfl ?_
  refine jx_aload_n 1 dX10_clear_8 rfl rfl ?_
  refine jx_getr jc_10 (j := 0) (by decide) rfl jwF_X10_12 dX10_clear_9 hk1 hb2 ?_
  refine jx_iconst (v := 0) dX10_clear_12 (by decide) ?_
  refine jx_puti jc_3 (j := 4) (by decide) rfl jwF_X10_212 rfl rfl rfl dX10_clear_13 hk3 ?_
  refine jx_iload_n 0 dX10_clear_16 rfl rfl ?_
  exact jx_iret dX10_clear_17 rfl rfl (jle rfl) (jle rfl) ⟨_, rfl, h⟩
set_option maxRecDepth 100000 in
set_option maxHeartbeats 4000000 in
theorem T_X10_made {E : jEnv} {d : Nat} {Q : Int32 → jM → Prop} {a0 : Nat} {S : jM} (h : jk S a0 = 10 ∧ ∃ b2, jr S a0 0 = some b2 ∧ (jk S b2 = 3 ∧ jFi E mX3_canMakeChair d 0 0 [.ref b2] S (fun r5 S4 => (r5 = 0 → Q (-1000000002) S4) ∧ (¬ r5 = 0 → jk S4 a0 = 10 ∧ ∃ b8, jr S4 a0 0 = some b8 ∧ (jk S4 b8 = 3 ∧ jFv E mX3_makeChair d 0 0 [.ref b8] S4 (fun S10 => jk S10 a0 = 10 ∧ ∃ b12, jr S10 a0 0 = some b12 ∧ (jk S10 b12 = 3 ∧ ∃ b14, jr S10 b12 2 = some b14 ∧ (jk S10 b14 = 1 ∧ Q (ji S10 b14 4) S10)))))))) : jFi E mX10_made (d + 1) 0 0 [.ref a0] S Q := by
  refine jF_of (by decide) (jle rfl) ?_
  refine jx_lv (lv1 := [(0, .ref a0)]) [0] rfl ?_
  refine jx_aload_n 0 dX10_made_0 rfl rfl ?_
  obtain ⟨hk1, h⟩ := h
  obtain ⟨b2, hb2, h⟩ := h
  refine jx_getr jc_10 (j := 0) (by decide) rfl jwF_X10_12 dX10_made_1 hk1 hb2 ?_
  obtain ⟨hk3, h⟩ := h
  refine jx_callVi (M' := mX3_canMakeChair) (As := []) jo_X3_canMakeChair jc_3 rfl jwM_X10_215 jwN_X3_canMakeChair jwX_X3_canMakeChair dX10_made_4 (jRok_m _ _ _) rfl (jle rfl) ⟨jle rfl, jle rfl⟩ hk3 h (fun r5 S4 h => ?_)
  refine jx_if_ne (tgt := 13) dX10_made_7 (by decide) (fun c6 => ?_) (fun c6 => ?_)
  · replace h := h.2 c6
    refine jx_aload_n 0 dX10_made_13 rfl rfl ?_
    obtain ⟨hk7, h⟩ := h
    obtain ⟨b8, hb8, h⟩ := h
    refine jx_getr jc_10 (j := 0) (by decide) rfl jwF_X10_12 dX10_made_14 hk7 hb8 ?_
    obtain ⟨hk9, h⟩ := h
    refine jx_callVv (M' := mX3_makeChair) (As := []) jo_X3_makeChair jc_3 rfl jwM_X10_219 jwN_X3_makeChair jwX_X3_makeChair dX10_made_17 (jRok_m _ _ _) rfl (jle rfl) ⟨jle rfl, jle rfl⟩ hk9 h (fun S10 h => ?_)
    refine jx_aload_n 0 dX10_made_20 rfl rfl ?_
    obtain ⟨hk11, h⟩ := h
    obtain ⟨b12, hb12, h⟩ := h
    refine jx_getr jc_10 (j := 0) (by decide) rfl jwF_X10_12 dX10_made_21 hk11 hb12 ?_
    obtain ⟨hk13, h⟩ := h
    obtain ⟨b14, hb14, h⟩ := h
    refine jx_getr jc_3 (j := 2) (by decide) rfl jwF_X10_79 dX10_made_24 hk13 hb14 ?_
    obtain ⟨hk15, h⟩ := h
    refine jx_geti jc_1 (j := 4) (by decide) rfl jwF_X10_195 dX10_made_27 hk15 ?_
    exact jx_iret dX10_made_30 rfl rfl (jle rfl) (jle rfl) ⟨_, rfl, h⟩
  replace h := h.1 c6
  refine jx_ldc jwC_X10_184 dX10_made_10 ?_
  exact jx_iret dX10_made_12 rfl rfl (jle rfl) (jle rfl) ⟨_, rfl, h⟩
set_option maxRecDepth 100000 in
set_option maxHeartbeats 4000000 in
theorem T_X10_soonest {E : jEnv} {d : Nat} {Q : Int32 → jM → Prop} {a0 : Nat} {x1 : Int32} {S : jM} (h : ((jwi x1 3) = 0 → Q (-1000000001) S) ∧ (¬ (jwi x1 3) = 0 → jk S a0 = 10 ∧ ∃ b6, jr S a0 4 = some b6 ∧ (∃ b7, jr S a0 0 = some b7 ∧ (jk S b6 = 5 ∧ jFi E mX5_finds d 0 0 [.ref b6, .ref b7] S (fun r10 S9 => (r10 = 0 → Q (-1000000005) S9) ∧ (¬ r10 = 0 → (x1 = 0 → jk S9 a0 = 10 ∧ ∃ b14, jr S9 a0 4 = some b14 ∧ (jk S9 b14 = 5 ∧ Q (ji S9 b14 9) S9)) ∧ (x1 = 1 → jk S9 a0 = 10 ∧ ∃ b18, jr S9 a0 4 = some b18 ∧ (jk S9 b18 = 5 ∧ Q (ji S9 b18 10) S9)) ∧ (¬ x1 = 0 → ¬ x1 = 1 → jk S9 a0 = 10 ∧ ∃ b21, jr S9 a0 4 = some b21 ∧ (jk S9 b21 = 5 ∧ Q (ji S9 b21 11) S9)))))))) : jFi E mX10_soonest (d + 1) 0 0 [.ref a0, .int x1] S Q := by
  refine jF_of (by decide) (jle rfl) ?_
  refine jx_lv (lv1 := [(0, .ref a0), (1, .int x1)]) [0, 1] rfl ?_
  refine jx_iload_n 1 dX10_soonest_0 rfl rfl ?_
  refine jx_iconst (v := 3) dX10_soonest_1 (by decide) ?_
  refine jx_callSi (M' := mX10_within) (As := [.int x1, .int 3]) jo_X10_within jwM_X10_58 jwS_X10_within dX10_soonest_2 (jRok_m _ _ _) rfl (jle rfl) ⟨jle rfl, jle rfl⟩ (c_X10_within (Q := fun v S' => v = (jwi x1 3) ∧ S = S') ⟨rfl, rfl⟩) (fun r1 S2 hq3 => ?_)
  obtain ⟨rfl, rfl⟩ := hq3
  refine jx_if_ne (tgt := 11) dX10_soonest_5 (by decide) (fun c4 => ?_) (fun c4 => ?_)
  · replace h := h.2 c4
    refine jx_aload_n 0 dX10_soonest_11 rfl rfl ?_
    obtain ⟨hk5, h⟩ := h
    obtain ⟨b6, hb6, h⟩ := h
    refine jx_getr jc_10 (j := 4) (by decide) rfl jwF_X10_29 dX10_soonest_12 hk5 hb6 ?_
    refine jx_aload_n 0 dX10_soonest_15 rfl rfl ?_
    obtain ⟨b7, hb7, h⟩ := h
    refine jx_getr jc_10 (j := 0) (by decide) rfl jwF_X10_12 dX10_soonest_16 hk5 hb7 ?_
    obtain ⟨hk8, h⟩ := h
    refine jx_callVi (M' := mX5_finds) (As := [.ref b7]) jo_X5_finds jc_5 rfl jwM_X10_222 jwN_X5_finds jwX_X5_finds dX10_soonest_19 (jRok_m _ _ _) rfl (jle rfl) ⟨jle rfl, jle rfl⟩ hk8 h (fun r10 S9 h => ?_)
    refine jx_if_ne (tgt := 28) dX10_soonest_22 (by decide) (fun c11 => ?_) (fun c11 => ?_)
    · replace h := h.2 c11
      refine jx_iload_n 1 dX10_soonest_28 rfl rfl ?_
      by_cases c12 : x1 = 0
      · replace h := h.1 c12
        refine jx_lookIn (v := 0) (tgt := 56) (off := 27) dX10_soonest_29 (by decide) c12 (by decide) (by decide) ?_
        refine jx_aload_n 0 dX10_soonest_56 rfl rfl ?_
        obtain ⟨hk13, h⟩ := h
        obtain ⟨b14, hb14, h⟩ := h
        refine jx_getr jc_10 (j := 4) (by decide) rfl jwF_X10_29 dX10_soonest_57 hk13 hb14 ?_
        obtain ⟨hk15, h⟩ := h
        refine jx_geti jc_5 (j := 9) (by decide) rfl jwF_X10_226 dX10_soonest_60 hk15 ?_
        exact jx_iret dX10_soonest_63 rfl rfl (jle rfl) (jle rfl) ⟨_, rfl, h⟩
      replace h := h.2
      by_cases c16 : x1 = 1
      · replace h := h.1 c16
        refine jx_lookIn (v := 1) (tgt := 64) (off := 35) dX10_soonest_29 (by decide) c16 (by decide) (by decide) ?_
        refine jx_aload_n 0 dX10_soonest_64 rfl rfl ?_
        obtain ⟨hk17, h⟩ := h
        obtain ⟨b18, hb18, h⟩ := h
        refine jx_getr jc_10 (j := 4) (by decide) rfl jwF_X10_29 dX10_soonest_65 hk17 hb18 ?_
        obtain ⟨hk19, h⟩ := h
        refine jx_geti jc_5 (j := 10) (by decide) rfl jwF_X10_229 dX10_soonest_68 hk19 ?_
        exact jx_iret dX10_soonest_71 rfl rfl (jle rfl) (jle rfl) ⟨_, rfl, h⟩
      replace h := h.2
      replace h := h c12 c16
      refine jx_lookD (tgt := 72) dX10_soonest_29 (by decide) (by simp only [List.mem_cons, List.not_mem_nil, or_false, forall_eq_or_imp, forall_eq]; exact ⟨lv_neT c12 (by decide), lv_neT c16 (by decide)⟩) (by decide) ?_
      refine jx_aload_n 0 dX10_soonest_72 rfl rfl ?_
      obtain ⟨hk20, h⟩ := h
      obtain ⟨b21, hb21, h⟩ := h
      refine jx_getr jc_10 (j := 4) (by decide) rfl jwF_X10_29 dX10_soonest_73 hk20 hb21 ?_
      obtain ⟨hk22, h⟩ := h
      refine jx_geti jc_5 (j := 11) (by decide) rfl jwF_X10_232 dX10_soonest_76 hk22 ?_
      exact jx_iret dX10_soonest_79 rfl rfl (jle rfl) (jle rfl) ⟨_, rfl, h⟩
    replace h := h.1 c11
    refine jx_ldc jwC_X10_160 dX10_soonest_25 ?_
    exact jx_iret dX10_soonest_27 rfl rfl (jle rfl) (jle rfl) ⟨_, rfl, h⟩
  replace h := h.1 c4
  refine jx_ldc jwC_X10_62 dX10_soonest_8 ?_
  exact jx_iret dX10_soonest_10 rfl rfl (jle rfl) (jle rfl) ⟨_, rfl, h⟩
set_option maxRecDepth 100000 in
set_option maxHeartbeats 4000000 in
theorem T_X10_together {E : jEnv} {d : Nat} {Q : Int32 → jM → Prop} {a0 : Nat} {x1 : Int32} {S : jM} (h : ((jwi x1 1024) = 0 → Q (-1000000001) S) ∧ (¬ (jwi x1 1024) = 0 → ((jbc x1) ≤ 3 → jk S a0 = 10 ∧ ∃ b10, jr S a0 0 = some b10 ∧ (jk S b10 = 3 ∧ ∃ b12, jr S b10 0 = some b12 ∧ (jk S b12 = 0 ∧ jFi E mX0_canBringTogether d 0 0 [.ref b12, .int x1] S (fun r15 S14 => (r15 = 0 → Q 0 S14) ∧ (¬ r15 = 0 → Q 1 S14))))) ∧ (¬ (jbc x1) ≤ 3 → Q (-1000000001) S))) : jFi E mX10_together (d + 1) 0 0 [.ref a0, .int x1] S Q := by
  refine jF_of (by decide) (jle rfl) ?_
  refine jx_lv (lv1 := [(0, .ref a0), (1, .int x1)]) [0, 1] rfl ?_
  refine jx_iload_n 1 dX10_together_0 rfl rfl ?_
  refine jx_sipush (v := 1024) dX10_together_1 (by decide) ?_
  refine jx_callSi (M' := mX10_within) (As := [.int x1, .int 1024]) jo_X10_within jwM_X10_58 jwS_X10_within dX10_together_4 (jRok_m _ _ _) rfl (jle rfl) ⟨jle rfl, jle rfl⟩ (c_X10_within (Q := fun v S' => v = (jwi x1 1024) ∧ S = S') ⟨rfl, rfl⟩) (fun r1 S2 hq3 => ?_)
  obtain ⟨rfl, rfl⟩ := hq3
  refine jx_if_eq (tgt := 18) dX10_together_7 (by decide) (fun c4 => ?_) (fun c4 => ?_)
  · replace h := h.1 c4
    refine jx_ldc jwC_X10_62 dX10_together_18 ?_
    exact jx_iret dX10_together_20 rfl rfl (jle rfl) (jle rfl) ⟨_, rfl, h⟩
  replace h := h.2 c4
  refine jx_iload_n 1 dX10_together_10 rfl rfl ?_
  refine jx_callSi (M' := mJ6_bitCount_0f7a4) (As := [.int x1]) jo_J6_bitCount_0f7a4 jwM_X10_112 jwS_J6_bitCount_0f7a4 dX10_together_11 (jRok_m _ _ _) rfl (jle rfl) ⟨jle rfl, jle rfl⟩ (c_J6_bitCount_0f7a4 (Q := fun v S' => v = (jbc x1) ∧ S = S') ⟨rfl, rfl⟩) (fun r5 S6 hq7 => ?_)
  obtain ⟨rfl, rfl⟩ := hq7
  refine jx_iconst (v := 3) dX10_together_14 (by decide) ?_
  refine jx_icmp_le (tgt := 21) dX10_together_15 (by decide) (fun c8 => ?_) (fun c8 => ?_)
  · replace h := h.1 c8
    refine jx_aload_n 0 dX10_together_21 rfl rfl ?_
    obtain ⟨hk9, h⟩ := h
    obtain ⟨b10, hb10, h⟩ := h
    refine jx_getr jc_10 (j := 0) (by decide) rfl jwF_X10_12 dX10_together_22 hk9 hb10 ?_
    obtain ⟨hk11, h⟩ := h
    obtain ⟨b12, hb12, h⟩ := h
    refine jx_getr jc_3 (j := 0) (by decide) rfl jwF_X10_63 dX10_together_25 hk11 hb12 ?_
    refine jx_iload_n 1 dX10_together_28 rfl rfl ?_
    obtain ⟨hk13, h⟩ := h
    refine jx_callVi (M' := mX0_canBringTogether) (As := [.int x1]) jo_X0_canBringTogether jc_0 rfl jwM_X10_235 jwN_X0_canBringTogether jwX_X0_canBringTogether dX10_together_29 (jRok_m _ _ _) rfl (jle rfl) ⟨jle rfl, jle rfl⟩ hk13 h (fun r15 S14 h => ?_)
    refine jx_if_eq (tgt := 39) dX10_together_32 (by decide) (fun c16 => ?_) (fun c16 => ?_)
    · replace h := h.1 c16
      refine jx_iconst (v := 0) dX10_together_39 (by decide) ?_
      exact jx_iret dX10_together_40 rfl rfl (jle rfl) (jle rfl) ⟨_, rfl, h⟩
    replace h := h.2 c16
    refine jx_iconst (v := 1) dX10_together_35 (by decide) ?_
    refine jx_goto (tgt := 40) dX10_together_36 (by decide) ?_
    exact jx_iret dX10_together_40 rfl rfl (jle rfl) (jle rfl) ⟨_, rfl, h⟩
  replace h := h.2 c8
  refine jx_ldc jwC_X10_62 dX10_together_18 ?_
  exact jx_iret dX10_together_20 rfl rfl (jle rfl) (jle rfl) ⟨_, rfl, h⟩
/-- X10_never at its loop's head 13 -/
abbrev L_X10_never_13 (E : jEnv) (d : Nat) (Q : Int32 → jM → Prop) (a0 : Nat) (x1 : Int32) (x2 : Int32) (S : jM) : Prop := jX E mX10_never (jRm (d + 1) 0 0) (jZm E (fun r S' => ∃ v : Int32, r = some (.int v) ∧ Q v S') 0 0) 13 [(0, .ref a0), (1, .int x1), (2, .int x2)] [] S 0 0
/-- X10_never at its loop's head 23 -/
abbrev L_X10_never_23 (E : jEnv) (d : Nat) (Q : Int32 → jM → Prop) (a0 : Nat) (x1 : Int32) (x2 : Int32) (x3 : Int32) (S : jM) : Prop := jX E mX10_never (jRm (d + 1) 0 0) (jZm E (fun r S' => ∃ v : Int32, r = some (.int v) ∧ Q v S') 0 0) 23 [(0, .ref a0), (1, .int x1), (2, .int x2), (3, .int x3)] [] S 0 0
set_option maxRecDepth 100000 in
set_option maxHeartbeats 4000000 in
theorem T_X10_never {E : jEnv} {d : Nat} {Q : Int32 → jM → Prop} {a0 : Nat} {S : jM} (h : jk S a0 = 10 ∧ ∃ b2, jr S a0 0 = some b2 ∧ (jk S b2 = 3 ∧ ∃ b4, jr S b2 0 = some b4 ∧ (jk S b4 = 0 ∧ jFi E mX0_taught d 0 0 [.ref b4] S (fun r7 S6 => L_X10_never_13 E d Q a0 r7 0 S6)))) : jFi E mX10_never (d + 1) 0 0 [.ref a0] S Q := by
  refine jF_of (by decide) (jle rfl) ?_
  refine jx_lv (lv1 := [(0, .ref a0)]) [0] rfl ?_
  refine jx_aload_n 0 dX10_never_0 rfl rfl ?_
  obtain ⟨hk1, h⟩ := h
  obtain ⟨b2, hb2, h⟩ := h
  refine jx_getr jc_10 (j := 0) (by decide) rfl jwF_X10_12 dX10_never_1 hk1 hb2 ?_
  obtain ⟨hk3, h⟩ := h
  obtain ⟨b4, hb4, h⟩ := h
  refine jx_getr jc_3 (j := 0) (by decide) rfl jwF_X10_63 dX10_never_4 hk3 hb4 ?_
  obtain ⟨hk5, h⟩ := h
  refine jx_callVi (M' := mX0_taught) (As := []) jo_X0_taught jc_0 rfl jwM_X10_238 jwN_X0_taught jwX_X0_taught dX10_never_7 (jRok_m _ _ _) rfl (jle rfl) ⟨jle rfl, jle rfl⟩ hk5 h (fun r7 S6 h => ?_)
  refine jx_istore_n (lv1 := [(1, .int r7), (0, .ref a0)]) dX10_never_10 rfl (by decide) rfl ?_
  refine jx_iconst (v := 0) dX10_never_11 (by decide) ?_
  refine jx_istore_n (lv1 := [(2, .int 0), (1, .int r7), (0, .ref a0)]) dX10_never_12 rfl (by decide) rfl ?_
  exact jx_lv [2, 1, 0] rfl h
set_option maxRecDepth 100000 in
set_option maxHeartbeats 4000000 in
theorem T_X10_never_13 {E : jEnv} {d : Nat} {Q : Int32 → jM → Prop} {a0 : Nat} {x1 : Int32} {x2 : Int32} {S : jM} (h : (10 ≤ x2 → Q (-1000000005) S) ∧ (¬ 10 ≤ x2 → L_X10_never_23 E d Q a0 x1 x2 (x2 + 1) S)) : L_X10_never_13 E d Q a0 x1 x2 S := by
  show jX E mX10_never (jRm (d + 1) 0 0) (jZm E (fun r S' => ∃ v : Int32, r = some (.int v) ∧ Q v S') 0 0) 13 [(0, .ref a0), (1, .int x1), (2, .int x2)] [] S 0 0
  refine jx_iload_n 2 dX10_never_13 rfl rfl ?_
  refine jx_bipush (v := 10) dX10_never_14 (by decide) ?_
  refine jx_icmp_ge (tgt := 81) dX10_never_16 (by decide) (fun c8 => ?_) (fun c8 => ?_)
  · replace h := h.1 c8
    refine jx_ldc jwC_X10_160 dX10_never_81 ?_
    exact jx_iret dX10_never_83 rfl rfl (jle rfl) (jle rfl) ⟨_, rfl, h⟩
  replace h := h.2 c8
  refine jx_iload_n 2 dX10_never_19 rfl rfl ?_
  refine jx_iconst (v := 1) dX10_never_20 (by decide) ?_
  refine jx_iadd dX10_never_21 ?_
  refine jx_istore_n (lv1 := [(3, .int (x2 + 1)), (0, .ref a0), (1, .int x1), (2, .int x2)]) dX10_never_22 rfl (by decide) rfl ?_
  exact jx_lv [1, 2, 3, 0] rfl h
set_option maxRecDepth 100000 in
set_option maxHeartbeats 4000000 in
theorem T_X10_never_23 {E : jEnv} {d : Nat} {Q : Int32 → jM → Prop} {a0 : Nat} {x1 : Int32} {x2 : Int32} {x3 : Int32} {S : jM} (h : (10 ≤ x3 → L_X10_never_13 E d Q a0 x1 (x2 + 1) S) ∧ (¬ 10 ≤ x3 → ((x1 &&& ((jshl 1 x2) ||| (jshl 1 x3))) = ((jshl 1 x2) ||| (jshl 1 x3)) → jk S a0 = 10 ∧ ∃ b12, jr S a0 0 = some b12 ∧ (jk S b12 = 3 ∧ ∃ b14, jr S b12 0 = some b14 ∧ (jk S b14 = 0 ∧ jFi E mX0_canBringTogether d 0 0 [.ref b14, .int ((jshl 1 x2) ||| (jshl 1 x3))] S (fun r17 S16 => (r17 = 0 → Q ((10 * x2) + x3) S16) ∧ (¬ r17 = 0 → L_X10_never_23 E d Q a0 x1 x2 (x3 + 1) S16))))) ∧ (¬ (x1 &&& ((jshl 1 x2) ||| (jshl 1 x3))) = ((jshl 1 x2) ||| (jshl 1 x3)) → L_X10_never_23 E d Q a0 x1 x2 (x3 + 1) S))) : L_X10_never_23 E d Q a0 x1 x2 x3 S := by
  show jX E mX10_never (jRm (d + 1) 0 0) (jZm E (fun r S' => ∃ v : Int32, r = some (.int v) ∧ Q v S') 0 0) 23 [(0, .ref a0), (1, .int x1), (2, .int x2), (3, .int x3)] [] S 0 0
  refine jx_iload_n 3 dX10_never_23 rfl rfl ?_
  refine jx_bipush (v := 10) dX10_never_24 (by decide) ?_
  refine jx_icmp_ge (tgt := 75) dX10_never_26 (by decide) (fun c9 => ?_) (fun c9 => ?_)
  · replace h := h.1 c9
    refine jx_iinc 2 (v := (x2 + 1)) (lv1 := [(2, .int (x2 + 1)), (0, .ref a0), (1, .int x1), (3, .int x3)]) dX10_never_75 rfl rfl (by decide) rfl ?_
    refine jx_goto (tgt := 13) dX10_never_78 (by decide) ?_
    exact jx_lv [1, 2, 0] rfl h
  replace h := h.2 c9
  refine jx_iconst (v := 1) dX10_never_29 (by decide) ?_
  refine jx_iload_n 2 dX10_never_30 rfl rfl ?_
  refine jx_ishl dX10_never_31 ?_
  refine jx_iconst (v := 1) dX10_never_32 (by decide) ?_
  refine jx_iload_n 3 dX10_never_33 rfl rfl ?_
  refine jx_ishl dX10_never_34 ?_
  refine jx_ior dX10_never_35 ?_
  refine jx_istore (lv1 := [(4, .int ((jshl 1 x2) ||| (jshl 1 x3))), (0, .ref a0), (1, .int x1), (2, .int x2), (3, .int x3)]) dX10_never_36 (by decide) rfl ?_
  refine jx_iload_n 2 dX10_never_38 rfl rfl ?_
  refine jx_iload 0 dX10_never_39 rfl ?_
  refine jx_iand dX10_never_41 ?_
  refine jx_iload 0 dX10_never_42 rfl ?_
  refine jx_icmp_ne (tgt := 69) dX10_never_44 (by decide) (fun c10 => ?_) (fun c10 => ?_)
  · replace h := h.2 c10
    refine jx_iinc 4 (v := (x3 + 1)) (lv1 := [(3, .int (x3 + 1)), (4, .int ((jshl 1 x2) ||| (jshl 1 x3))), (0, .ref a0), (1, .int x1), (2, .int x2)]) dX10_never_69 rfl rfl (by decide) rfl ?_
    refine jx_goto (tgt := 23) dX10_never_72 (by decide) ?_
    exact jx_lv [2, 3, 4, 0] rfl h
  replace h := h.1 c10
  refine jx_aload_n 1 dX10_never_47 rfl rfl ?_
  obtain ⟨hk11, h⟩ := h
  obtain ⟨b12, hb12, h⟩ := h
  refine jx_getr jc_10 (j := 0) (by decide) rfl jwF_X10_12 dX10_never_48 hk11 hb12 ?_
  obtain ⟨hk13, h⟩ := h
  obtain ⟨b14, hb14, h⟩ := h
  refine jx_getr jc_3 (j := 0) (by decide) rfl jwF_X10_63 dX10_never_51 hk13 hb14 ?_
  refine jx_iload 0 dX10_never_54 rfl ?_
  obtain ⟨hk15, h⟩ := h
  refine jx_callVi (M' := mX0_canBringTogether) (As := [.int ((jshl 1 x2) ||| (jshl 1 x3))]) jo_X0_canBringTogether jc_0 rfl jwM_X10_235 jwN_X0_canBringTogether jwX_X0_canBringTogether dX10_never_56 (jRok_m _ _ _) rfl (jle rfl) ⟨jle rfl, jle rfl⟩ hk15 h (fun r17 S16 h => ?_)
  refine jx_if_ne (tgt := 69) dX10_never_59 (by decide) (fun c18 => ?_) (fun c18 => ?_)
  · replace h := h.2 c18
    refine jx_iinc 4 (v := (x3 + 1)) (lv1 := [(3, .int (x3 + 1)), (4, .int ((jshl 1 x2) ||| (jshl 1 x3))), (0, .ref a0), (1, .int x1), (2, .int x2)]) dX10_never_69 rfl rfl (by decide) rfl ?_
    refine jx_goto (tgt := 23) dX10_never_72 (by decide) ?_
    exact jx_lv [2, 3, 4, 0] rfl h
  replace h := h.1 c18
  refine jx_bipush (v := 10) dX10_never_62 (by decide) ?_
  refine jx_iload_n 3 dX10_never_64 rfl rfl ?_
  refine jx_imul dX10_never_65 ?_
  refine jx_iload_n 4 dX10_never_66 rfl rfl ?_
  refine jx_iadd dX10_never_67 ?_
  exact jx_iret dX10_never_68 rfl rfl (jle rfl) (jle rfl) ⟨_, rfl, h⟩
set_option maxRecDepth 100000 in
set_option maxHeartbeats 4000000 in
theorem T_X10_last {E : jEnv} {d : Nat} {Q : Int32 → jM → Prop} {a0 : Nat} {x1 : Int32} {S : jM} (h : ((jwi x1 10) = 0 → Q (-1000000001) S) ∧ (¬ (jwi x1 10) = 0 → jk S a0 = 10 ∧ ∃ b6, jr S a0 0 = some b6 ∧ (jk S b6 = 3 ∧ ∃ b8, jr S b6 0 = some b8 ∧ (jk S b8 = 0 ∧ jFi E mX0_onlyTeacher d 0 0 [.ref b8, .int x1] S (fun r11 S10 => Q r11 S10))))) : jFi E mX10_last (d + 1) 0 0 [.ref a0, .int x1] S Q := by
  refine jF_of (by decide) (jle rfl) ?_
  refine jx_lv (lv1 := [(0, .ref a0), (1, .int x1)]) [0, 1] rfl ?_
  refine jx_iload_n 1 dX10_last_0 rfl rfl ?_
  refine jx_bipush (v := 10) dX10_last_1 (by decide) ?_
  refine jx_callSi (M' := mX10_within) (As := [.int x1, .int 10]) jo_X10_within jwM_X10_58 jwS_X10_within dX10_last_3 (jRok_m _ _ _) rfl (jle rfl) ⟨jle rfl, jle rfl⟩ (c_X10_within (Q := fun v S' => v = (jwi x1 10) ∧ S = S') ⟨rfl, rfl⟩) (fun r1 S2 hq3 => ?_)
  obtain ⟨rfl, rfl⟩ := hq3
  refine jx_if_ne (tgt := 12) dX10_last_6 (by decide) (fun c4 => ?_) (fun c4 => ?_)
  · replace h := h.2 c4
    refine jx_aload_n 0 dX10_last_12 rfl rfl ?_
    obtain ⟨hk5, h⟩ := h
    obtain ⟨b6, hb6, h⟩ := h
    refine jx_getr jc_10 (j := 0) (by decide) rfl jwF_X10_12 dX10_last_13 hk5 hb6 ?_
    obtain ⟨hk7, h⟩ := h
    obtain ⟨b8, hb8, h⟩ := h
    refine jx_getr jc_3 (j := 0) (by decide) rfl jwF_X10_63 dX10_last_16 hk7 hb8 ?_
    refine jx_iload_n 1 dX10_last_19 rfl rfl ?_
    obtain ⟨hk9, h⟩ := h
    refine jx_callVi (M' := mX0_onlyTeacher) (As := [.int x1]) jo_X0_onlyTeacher jc_0 rfl jwM_X10_241 jwN_X0_onlyTeacher jwX_X0_onlyTeacher dX10_last_20 (jRok_m _ _ _) rfl (jle rfl) ⟨jle rfl, jle rfl⟩ hk9 h (fun r11 S10 h => ?_)
    exact jx_iret dX10_last_23 rfl rfl (jle rfl) (jle rfl) ⟨_, rfl, h⟩
  replace h := h.1 c4
  refine jx_ldc jwC_X10_62 dX10_last_9 ?_
  exact jx_iret dX10_last_11 rfl rfl (jle rfl) (jle rfl) ⟨_, rfl, h⟩
set_option maxRecDepth 100000 in
set_option maxHeartbeats 4000000 in
theorem T_X10_years {E : jEnv} {d : Nat} {Q : Int32 → jM → Prop} {a0 : Nat} {x1 : Int32} {S : jM} (h : (x1 < 1 → Q (-1000000001) S) ∧ (¬ x1 < 1 → (x1 ≤ 60 → jk S a0 = 10 ∧ ∃ b4, jr S a0 0 = some b4 ∧ (jk S b4 = 3 ∧ ∃ b6, jr S b4 0 = some b6 ∧ (jk S b6 = 0 ∧ jFi E mX0_countDead d 0 0 [.ref b6] S (fun r9 S8 => jk S8 a0 = 10 ∧ ∃ b11, jr S8 a0 0 = some b11 ∧ (jk S8 b11 = 3 ∧ ∃ b13, jr S8 b11 0 = some b13 ∧ (jk S8 b13 = 0 ∧ jFv E mX0_liveYears d 0 0 [.ref b13, .int x1] S8 (fun S15 => jk S15 a0 = 10 ∧ ∃ b17, jr S15 a0 0 = some b17 ∧ (jk S15 b17 = 3 ∧ ∃ b19, jr S15 b17 0 = some b19 ∧ (jk S15 b19 = 0 ∧ jFi E mX0_countDead d 0 0 [.ref b19] S15 (fun r22 S21 => Q (r22 - r9) S21)))))))))) ∧ (¬ x1 ≤ 60 → Q (-1000000001) S))) : jFi E mX10_years (d + 1) 0 0 [.ref a0, .int x1] S Q := by
  refine jF_of (by decide) (jle rfl) ?_
  refine jx_lv (lv1 := [(0, .ref a0), (1, .int x1)]) [0, 1] rfl ?_
  refine jx_iload_n 1 dX10_years_0 rfl rfl ?_
  refine jx_iconst (v := 1) dX10_years_1 (by decide) ?_
  refine jx_icmp_lt (tgt := 11) dX10_years_2 (by decide) (fun c1 => ?_) (fun c1 => ?_)
  · replace h := h.1 c1
    refine jx_ldc jwC_X10_62 dX10_years_11 ?_
    exact jx_iret dX10_years_13 rfl rfl (jle rfl) (jle rfl) ⟨_, rfl, h⟩
  replace h := h.2 c1
  refine jx_iload_n 1 dX10_years_5 rfl rfl ?_
  refine jx_bipush (v := 60) dX10_years_6 (by decide) ?_
  refine jx_icmp_le (tgt := 14) dX10_years_8 (by decide) (fun c2 => ?_) (fun c2 => ?_)
  · replace h := h.1 c2
    refine jx_aload_n 0 dX10_years_14 rfl rfl ?_
    obtain ⟨hk3, h⟩ := h
    obtain ⟨b4, hb4, h⟩ := h
    refine jx_getr jc_10 (j := 0) (by decide) rfl jwF_X10_12 dX10_years_15 hk3 hb4 ?_
    obtain ⟨hk5, h⟩ := h
    obtain ⟨b6, hb6, h⟩ := h
    refine jx_getr jc_3 (j := 0) (by decide) rfl jwF_X10_63 dX10_years_18 hk5 hb6 ?_
    obtain ⟨hk7, h⟩ := h
    refine jx_callVi (M' := mX0_countDead) (As := []) jo_X0_countDead jc_0 rfl jwM_X10_244 jwN_X0_countDead jwX_X0_countDead dX10_years_21 (jRok_m _ _ _) rfl (jle rfl) ⟨jle rfl, jle rfl⟩ hk7 h (fun r9 S8 h => ?_)
    refine jx_istore_n (lv1 := [(2, .int r9), (0, .ref a0), (1, .int x1)]) dX10_years_24 rfl (by decide) rfl ?_
    refine jx_aload_n 1 dX10_years_25 rfl rfl ?_
    obtain ⟨hk10, h⟩ := h
    obtain ⟨b11, hb11, h⟩ := h
    refine jx_getr jc_10 (j := 0) (by decide) rfl jwF_X10_12 dX10_years_26 hk10 hb11 ?_
    obtain ⟨hk12, h⟩ := h
    obtain ⟨b13, hb13, h⟩ := h
    refine jx_getr jc_3 (j := 0) (by decide) rfl jwF_X10_63 dX10_years_29 hk12 hb13 ?_
    refine jx_iload_n 2 dX10_years_32 rfl rfl ?_
    obtain ⟨hk14, h⟩ := h
    refine jx_callVv (M' := mX0_liveYears) (As := [.int x1]) jo_X0_liveYears jc_0 rfl jwM_X10_247 jwN_X0_liveYears jwX_X0_liveYears dX10_years_33 (jRok_m _ _ _) rfl (jle rfl) ⟨jle rfl, jle rfl⟩ hk14 h (fun S15 h => ?_)
    refine jx_aload_n 1 dX10_years_36 rfl rfl ?_
    obtain ⟨hk16, h⟩ := h
    obtain ⟨b17, hb17, h⟩ := h
    refine jx_getr jc_10 (j := 0) (by decide) rfl jwF_X10_12 dX10_years_37 hk16 hb17 ?_
    obtain ⟨hk18, h⟩ := h
    obtain ⟨b19, hb19, h⟩ := h
    refine jx_getr jc_3 (j := 0) (by decide) rfl jwF_X10_63 dX10_years_40 hk18 hb19 ?_
    obtain ⟨hk20, h⟩ := h
    refine jx_callVi (M' := mX0_countDead) (As := []) jo_X0_countDead jc_0 rfl jwM_X10_244 jwN_X0_countDead jwX_X0_countDead dX10_years_43 (jRok_m _ _ _) rfl (jle rfl) ⟨jle rfl, jle rfl⟩ hk20 h (fun r22 S21 h => ?_)
    refine jx_iload_n 0 dX10_years_46 rfl rfl ?_
    refine jx_isub dX10_years_47 ?_
    exact jx_iret dX10_years_48 rfl rfl (jle rfl) (jle rfl) ⟨_, rfl, h⟩
  replace h := h.2 c2
  refine jx_ldc jwC_X10_62 dX10_years_11 ?_
  exact jx_iret dX10_years_13 rfl rfl (jle rfl) (jle rfl) ⟨_, rfl, h⟩
set_option maxRecDepth 100000 in
set_option maxHeartbeats 4000000 in
theorem T_X10_gone {E : jEnv} {d : Nat} {Q : Int32 → jM → Prop} {a0 : Nat} {x1 : Int32} {S : jM} (h : (x1 < 0 → Q (-1000000001) S) ∧ (¬ x1 < 0 → (x1 ≤ 60 → jk S a0 = 10 ∧ ∃ b4, jr S a0 3 = some b4 ∧ (∃ b5, jr S a0 0 = some b5 ∧ (jk S b5 = 3 ∧ ∃ b7, jr S b5 0 = some b7 ∧ (jk S b4 = 0 ∧ jFv E mX0_become d 0 0 [.ref b4, .ref b7] S (fun S9 => jk S9 a0 = 10 ∧ ∃ b11, jr S9 a0 3 = some b11 ∧ (jk S9 b11 = 0 ∧ jFv E mX0_liveYears d 0 0 [.ref b11, .int x1] S9 (fun S13 => jk S13 a0 = 10 ∧ ∃ b15, jr S13 a0 0 = some b15 ∧ (jk S13 b15 = 3 ∧ ∃ b17, jr S13 b15 0 = some b17 ∧ (jk S13 b17 = 0 ∧ jFi E mX0_taught d 0 0 [.ref b17] S13 (fun r20 S19 => jk S19 a0 = 10 ∧ ∃ b22, jr S19 a0 3 = some b22 ∧ (jk S19 b22 = 0 ∧ jFi E mX0_taught d 0 0 [.ref b22] S19 (fun r25 S24 => Q (jbc (r20 &&& (r25 ^^^ (-1)))) S24)))))))))))) ∧ (¬ x1 ≤ 60 → Q (-1000000001) S))) : jFi E mX10_gone (d + 1) 0 0 [.ref a0, .int x1] S Q := by
  refine jF_of (by decide) (jle rfl) ?_
  refine jx_lv (lv1 := [(0, .ref a0), (1, .int x1)]) [0, 1] rfl ?_
  refine jx_iload_n 1 dX10_gone_0 rfl rfl ?_
  refine jx_if_lt (tgt := 10) dX10_gone_1 (by decide) (fun c1 => ?_) (fun c1 => ?_)
  · replace h := h.1 c1
    refine jx_ldc jwC_X10_62 dX10_gone_10 ?_
    exact jx_iret dX10_gone_12 rfl rfl (jle rfl) (jle rfl) ⟨_, rfl, h⟩
  replace h := h.2 c1
  refine jx_iload_n 1 dX10_gone_4 rfl rfl ?_
  refine jx_bipush (v := 60) dX10_gone_5 (by decide) ?_
  refine jx_icmp_le (tgt := 13) dX10_gone_7 (by decide) (fun c2 => ?_) (fun c2 => ?_)
  · replace h := h.1 c2
    refine jx_aload_n 0 dX10_gone_13 rfl rfl ?_
    obtain ⟨hk3, h⟩ := h
    obtain ⟨b4, hb4, h⟩ := h
    refine jx_getr jc_10 (j := 3) (by decide) rfl jwF_X10_22 dX10_gone_14 hk3 hb4 ?_
    refine jx_aload_n 0 dX10_gone_17 rfl rfl ?_
    obtain ⟨b5, hb5, h⟩ := h
    refine jx_getr jc_10 (j := 0) (by decide) rfl jwF_X10_12 dX10_gone_18 hk3 hb5 ?_
    obtain ⟨hk6, h⟩ := h
    obtain ⟨b7, hb7, h⟩ := h
    refine jx_getr jc_3 (j := 0) (by decide) rfl jwF_X10_63 dX10_gone_21 hk6 hb7 ?_
    obtain ⟨hk8, h⟩ := h
    refine jx_callVv (M' := mX0_become) (As := [.ref b7]) jo_X0_become jc_0 rfl jwM_X10_250 jwN_X0_become jwX_X0_become dX10_gone_24 (jRok_m _ _ _) rfl (jle rfl) ⟨jle rfl, jle rfl⟩ hk8 h (fun S9 h => ?_)
    refine jx_aload_n 0 dX10_gone_27 rfl rfl ?_
    obtain ⟨hk10, h⟩ := h
    obtain ⟨b11, hb11, h⟩ := h
    refine jx_getr jc_10 (j := 3) (by decide) rfl jwF_X10_22 dX10_gone_28 hk10 hb11 ?_
    refine jx_iload_n 1 dX10_gone_31 rfl rfl ?_
    obtain ⟨hk12, h⟩ := h
    refine jx_callVv (M' := mX0_liveYears) (As := [.int x1]) jo_X0_liveYears jc_0 rfl jwM_X10_247 jwN_X0_liveYears jwX_X0_liveYears dX10_gone_32 (jRok_m _ _ _) rfl (jle rfl) ⟨jle rfl, jle rfl⟩ hk12 h (fun S13 h => ?_)
    refine jx_aload_n 0 dX10_gone_35 rfl rfl ?_
    obtain ⟨hk14, h⟩ := h
    obtain ⟨b15, hb15, h⟩ := h
    refine jx_getr jc_10 (j := 0) (by decide) rfl jwF_X10_12 dX10_gone_36 hk14 hb15 ?_
    obtain ⟨hk16, h⟩ := h
    obtain ⟨b17, hb17, h⟩ := h
    refine jx_getr jc_3 (j := 0) (by decide) rfl jwF_X10_63 dX10_gone_39 hk16 hb17 ?_
    obtain ⟨hk18, h⟩ := h
    refine jx_callVi (M' := mX0_taught) (As := []) jo_X0_taught jc_0 rfl jwM_X10_238 jwN_X0_taught jwX_X0_taught dX10_gone_42 (jRok_m _ _ _) rfl (jle rfl) ⟨jle rfl, jle rfl⟩ hk18 h (fun r20 S19 h => ?_)
    refine jx_aload_n 0 dX10_gone_45 rfl rfl ?_
    obtain ⟨hk21, h⟩ := h
    obtain ⟨b22, hb22, h⟩ := h
    refine jx_getr jc_10 (j := 3) (by decide) rfl jwF_X10_22 dX10_gone_46 hk21 hb22 ?_
    obtain ⟨hk23, h⟩ := h
    refine jx_callVi (M' := mX0_taught) (As := []) jo_X0_taught jc_0 rfl jwM_X10_238 jwN_X0_taught jwX_X0_taught dX10_gone_49 (jRok_m _ _ _) rfl (jle rfl) ⟨jle rfl, jle rfl⟩ hk23 h (fun r25 S24 h => ?_)
    refine jx_iconst (v := (-1)) dX10_gone_52 (by decide) ?_
    refine jx_ixor dX10_gone_53 ?_
    refine jx_iand dX10_gone_54 ?_
    refine jx_callSi (M' := mJ6_bitCount_0f7a4) (As := [.int (r20 &&& (r25 ^^^ (-1)))]) jo_J6_bitCount_0f7a4 jwM_X10_112 jwS_J6_bitCount_0f7a4 dX10_gone_55 (jRok_m _ _ _) rfl (jle rfl) ⟨jle rfl, jle rfl⟩ (c_J6_bitCount_0f7a4 (Q := fun v S' => v = (jbc (r20 &&& (r25 ^^^ (-1)))) ∧ S24 = S') ⟨rfl, rfl⟩) (fun r26 S27 hq28 => ?_)
    obtain ⟨rfl, rfl⟩ := hq28
    exact jx_iret dX10_gone_58 rfl rfl (jle rfl) (jle rfl) ⟨_, rfl, h⟩
  replace h := h.2 c2
  refine jx_ldc jwC_X10_62 dX10_gone_10 ?_
  exact jx_iret dX10_gone_12 rfl rfl (jle rfl) (jle rfl) ⟨_, rfl, h⟩
