/-- X11_taughtNow at its loop's head 4 -/
abbrev L_X11_taughtNow_4 (E : jEnv) (d : Nat) (Q : Int32 → jM → Prop) (a0 : Nat) (x1 : Int32) (x2 : Int32) (S : jM) : Prop := jX E mX11_taughtNow (jRm (d + 1) 0 0) (jZm E (fun r S' => ∃ v : Int32, r = some (.int v) ∧ Q v S') 0 0) 4 [(0, .ref a0), (1, .int x1), (2, .int x2)] [] S 0 0
set_option maxRecDepth 100000 in
set_option maxHeartbeats 4000000 in
theorem T_X11_taughtNow {E : jEnv} {d : Nat} {Q : Int32 → jM → Prop} {a0 : Nat} {S : jM} (h : L_X11_taughtNow_4 E d Q a0 0 0 S) : jFi E mX11_taughtNow (d + 1) 0 0 [.ref a0] S Q := by
  refine jF_of (by decide) (jle rfl) ?_
  refine jx_lv (lv1 := [(0, .ref a0)]) [0] rfl ?_
  refine jx_iconst (v := 0) dX11_taughtNow_0 (by decide) ?_
  refine jx_istore_n (lv1 := [(1, .int 0), (0, .ref a0)]) dX11_taughtNow_1 rfl (by decide) rfl ?_
  refine jx_iconst (v := 0) dX11_taughtNow_2 (by decide) ?_
  refine jx_istore_n (lv1 := [(2, .int 0), (1, .int 0), (0, .ref a0)]) dX11_taughtNow_3 rfl (by decide) rfl ?_
  exact jx_lv [2, 1, 0] rfl h
set_option maxRecDepth 100000 in
set_option maxHeartbeats 4000000 in
theorem T_X11_taughtNow_4 {E : jEnv} {d : Nat} {Q : Int32 → jM → Prop} {a0 : Nat} {x1 : Int32} {x2 : Int32} {S : jM} (h : jk S a0 = 11 ∧ ∃ b2, jr S a0 0 = some b2 ∧ (jk S b2 = 12 ∧ vp_in 0 (jl S b2) ∧ (((ji S b2 (Int32.toNatClampNeg 0)) ≤ x2 → Q x1 S) ∧ (¬ (ji S b2 (Int32.toNatClampNeg 0)) ≤ x2 → jFi E mX11_of d 0 0 [.ref a0, .int x2, .int 6] S (fun r7 S6 => (r7 = 0 → jk S6 a0 = 11 ∧ jFi E mX11_of d 0 0 [.ref a0, .int x2, .int 2] S6 (fun r11 S10 => L_X11_taughtNow_4 E d Q a0 (x1 ||| (jshl 1 r11)) (x2 + 1) S10)) ∧ (¬ r7 = 0 → L_X11_taughtNow_4 E d Q a0 (x1 ||| 0) (x2 + 1) S6)))))) : L_X11_taughtNow_4 E d Q a0 x1 x2 S := by
  show jX E mX11_taughtNow (jRm (d + 1) 0 0) (jZm E (fun r S' => ∃ v : Int32, r = some (.int v) ∧ Q v S') 0 0) 4 [(0, .ref a0), (1, .int x1), (2, .int x2)] [] S 0 0
  refine jx_iload_n 2 dX11_taughtNow_4 rfl rfl ?_
  refine jx_aload_n 0 dX11_taughtNow_5 rfl rfl ?_
  obtain ⟨hk1, h⟩ := h
  obtain ⟨b2, hb2, h⟩ := h
  refine jx_getr jc_11 (j := 0) (by decide) rfl jwF_X11_7 dX11_taughtNow_6 hk1 hb2 ?_
  refine jx_iconst (v := 0) dX11_taughtNow_9 (by decide) ?_
  obtain ⟨hk3, h⟩ := h
  obtain ⟨hi4, h⟩ := h
  refine jx_iald dX11_taughtNow_10 hk3 hi4 ?_
  refine jx_icmp_ge (tgt := 45) dX11_taughtNow_11 (by decide) (fun c5 => ?_) (fun c5 => ?_)
  · replace h := h.1 c5
    refine jx_iload_n 1 dX11_taughtNow_45 rfl rfl ?_
    exact jx_iret dX11_taughtNow_46 rfl rfl (jle rfl) (jle rfl) ⟨_, rfl, h⟩
  replace h := h.2 c5
  refine jx_iload_n 1 dX11_taughtNow_14 rfl rfl ?_
  refine jx_aload_n 0 dX11_taughtNow_15 rfl rfl ?_
  refine jx_iload_n 2 dX11_taughtNow_16 rfl rfl ?_
  refine jx_bipush (v := 6) dX11_taughtNow_17 (by decide) ?_
  refine jx_callVi (M' := mX11_of) (As := [.int x2, .int 6]) jo_X11_of jc_11 rfl jwM_X11_97 jwN_X11_of jwX_X11_of dX11_taughtNow_19 (jRok_m _ _ _) rfl (jle rfl) ⟨jle rfl, jle rfl⟩ hk1 h (fun r7 S6 h => ?_)
  refine jx_if_ne (tgt := 36) dX11_taughtNow_22 (by decide) (fun c8 => ?_) (fun c8 => ?_)
  · replace h := h.2 c8
    refine jx_iconst (v := 0) dX11_taughtNow_36 (by decide) ?_
    refine jx_ior dX11_taughtNow_37 ?_
    refine jx_istore_n (lv1 := [(1, .int (x1 ||| 0)), (0, .ref a0), (2, .int x2)]) dX11_taughtNow_38 rfl (by decide) rfl ?_
    refine jx_iinc 2 (v := (x2 + 1)) (lv1 := [(2, .int (x2 + 1)), (1, .int (x1 ||| 0)), (0, .ref a0)]) dX11_taughtNow_39 rfl rfl (by decide) rfl ?_
    refine jx_goto (tgt := 4) dX11_taughtNow_42 (by decide) ?_
    exact jx_lv [2, 1, 0] rfl h
  replace h := h.1 c8
  refine jx_iconst (v := 1) dX11_taughtNow_25 (by decide) ?_
  refine jx_aload_n 0 dX11_taughtNow_26 rfl rfl ?_
  refine jx_iload_n 2 dX11_taughtNow_27 rfl rfl ?_
  refine jx_iconst (v := 2) dX11_taughtNow_28 (by decide) ?_
  obtain ⟨hk9, h⟩ := h
  refine jx_callVi (M' := mX11_of) (As := [.int x2, .int 2]) jo_X11_of jc_11 rfl jwM_X11_97 jwN_X11_of jwX_X11_of dX11_taughtNow_29 (jRok_m _ _ _) rfl (jle rfl) ⟨jle rfl, jle rfl⟩ hk9 h (fun r11 S10 h => ?_)
  refine jx_ishl dX11_taughtNow_32 ?_
  refine jx_goto (tgt := 37) dX11_taughtNow_33 (by decide) ?_
  refine jx_ior dX11_taughtNow_37 ?_
  refine jx_istore_n (lv1 := [(1, .int (x1 ||| (jshl 1 r11))), (0, .ref a0), (2, .int x2)]) dX11_taughtNow_38 rfl (by decide) rfl ?_
  refine jx_iinc 2 (v := (x2 + 1)) (lv1 := [(2, .int (x2 + 1)), (1, .int (x1 ||| (jshl 1 r11))), (0, .ref a0)]) dX11_taughtNow_39 rfl rfl (by decide) rfl ?_
  refine jx_goto (tgt := 4) dX11_taughtNow_42 (by decide) ?_
  exact jx_lv [2, 1, 0] rfl h
/-- X11_never at its loop's head 7 -/
abbrev L_X11_never_7 (E : jEnv) (d : Nat) (Q : Int32 → jM → Prop) (a0 : Nat) (x1 : Int32) (x2 : Int32) (S : jM) : Prop := jX E mX11_never (jRm (d + 1) 0 0) (jZm E (fun r S' => ∃ v : Int32, r = some (.int v) ∧ Q v S') 0 0) 7 [(0, .ref a0), (1, .int x1), (2, .int x2)] [] S 0 0
/-- X11_never at its loop's head 17 -/
abbrev L_X11_never_17 (E : jEnv) (d : Nat) (Q : Int32 → jM → Prop) (a0 : Nat) (x1 : Int32) (x2 : Int32) (x3 : Int32) (S : jM) : Prop := jX E mX11_never (jRm (d + 1) 0 0) (jZm E (fun r S' => ∃ v : Int32, r = some (.int v) ∧ Q v S') 0 0) 17 [(0, .ref a0), (1, .int x1), (2, .int x2), (3, .int x3)] [] S 0 0
set_option maxRecDepth 100000 in
set_option maxHeartbeats 4000000 in
theorem T_X11_never {E : jEnv} {d : Nat} {Q : Int32 → jM → Prop} {a0 : Nat} {S : jM} (h : jk S a0 = 11 ∧ jFi E mX11_taughtNow d 0 0 [.ref a0] S (fun r3 S2 => L_X11_never_7 E d Q a0 r3 0 S2)) : jFi E mX11_never (d + 1) 0 0 [.ref a0] S Q := by
  refine jF_of (by decide) (jle rfl) ?_
  refine jx_lv (lv1 := [(0, .ref a0)]) [0] rfl ?_
  refine jx_aload_n 0 dX11_never_0 rfl rfl ?_
  obtain ⟨hk1, h⟩ := h
  refine jx_callVi (M' := mX11_taughtNow) (As := []) jo_X11_taughtNow jc_11 rfl jwM_X11_203 jwN_X11_taughtNow jwX_X11_taughtNow dX11_never_1 (jRok_m _ _ _) rfl (jle rfl) ⟨jle rfl, jle rfl⟩ hk1 h (fun r3 S2 h => ?_)
  refine jx_istore_n (lv1 := [(1, .int r3), (0, .ref a0)]) dX11_never_4 rfl (by decide) rfl ?_
  refine jx_iconst (v := 0) dX11_never_5 (by decide) ?_
  refine jx_istore_n (lv1 := [(2, .int 0), (1, .int r3), (0, .ref a0)]) dX11_never_6 rfl (by decide) rfl ?_
  exact jx_lv [2, 1, 0] rfl h
set_option maxRecDepth 100000 in
set_option maxHeartbeats 4000000 in
theorem T_X11_never_7 {E : jEnv} {d : Nat} {Q : Int32 → jM → Prop} {a0 : Nat} {x1 : Int32} {x2 : Int32} {S : jM} (h : (10 ≤ x2 → Q (-1000000005) S) ∧ (¬ 10 ≤ x2 → L_X11_never_17 E d Q a0 x1 x2 (x2 + 1) S)) : L_X11_never_7 E d Q a0 x1 x2 S := by
  show jX E mX11_never (jRm (d + 1) 0 0) (jZm E (fun r S' => ∃ v : Int32, r = some (.int v) ∧ Q v S') 0 0) 7 [(0, .ref a0), (1, .int x1), (2, .int x2)] [] S 0 0
  refine jx_iload_n 2 dX11_never_7 rfl rfl ?_
  refine jx_bipush (v := 10) dX11_never_8 (by decide) ?_
  refine jx_icmp_ge (tgt := 69) dX11_never_10 (by decide) (fun c4 => ?_) (fun c4 => ?_)
  · replace h := h.1 c4
    refine jx_ldc jwC_X11_70 dX11_never_69 ?_
    exact jx_iret dX11_never_71 rfl rfl (jle rfl) (jle rfl) ⟨_, rfl, h⟩
  replace h := h.2 c4
  refine jx_iload_n 2 dX11_never_13 rfl rfl ?_
  refine jx_iconst (v := 1) dX11_never_14 (by decide) ?_
  refine jx_iadd dX11_never_15 ?_
  refine jx_istore_n (lv1 := [(3, .int (x2 + 1)), (0, .ref a0), (1, .int x1), (2, .int x2)]) dX11_never_16 rfl (by decide) rfl ?_
  exact jx_lv [1, 2, 3, 0] rfl h
set_option maxRecDepth 100000 in
set_option maxHeartbeats 4000000 in
theorem T_X11_never_17 {E : jEnv} {d : Nat} {Q : Int32 → jM → Prop} {a0 : Nat} {x1 : Int32} {x2 : Int32} {x3 : Int32} {S : jM} (h : (10 ≤ x3 → L_X11_never_7 E d Q a0 x1 (x2 + 1) S) ∧ (¬ 10 ≤ x3 → ((x1 &&& ((jshl 1 x2) ||| (jshl 1 x3))) = ((jshl 1 x2) ||| (jshl 1 x3)) → jk S a0 = 11 ∧ jFi E mX11_areTogether d 0 0 [.ref a0, .int ((jshl 1 x2) ||| (jshl 1 x3))] S (fun r9 S8 => (r9 = 0 → Q ((10 * x2) + x3) S8) ∧ (¬ r9 = 0 → L_X11_never_17 E d Q a0 x1 x2 (x3 + 1) S8))) ∧ (¬ (x1 &&& ((jshl 1 x2) ||| (jshl 1 x3))) = ((jshl 1 x2) ||| (jshl 1 x3)) → L_X11_never_17 E d Q a0 x1 x2 (x3 + 1) S))) : L_X11_never_17 E d Q a0 x1 x2 x3 S := by
  show jX E mX11_never (jRm (d + 1) 0 0) (jZm E (fun r S' => ∃ v : Int32, r = some (.int v) ∧ Q v S') 0 0) 17 [(0, .ref a0), (1, .int x1), (2, .int x2), (3, .int x3)] [] S 0 0
  refine jx_iload_n 3 dX11_never_17 rfl rfl ?_
  refine jx_bipush (v := 10) dX11_never_18 (by decide) ?_
  refine jx_icmp_ge (tgt := 63) dX11_never_20 (by decide) (fun c5 => ?_) (fun c5 => ?_)
  · replace h := h.1 c5
    refine jx_iinc 2 (v := (x2 + 1)) (lv1 := [(2, .int (x2 + 1)), (0, .ref a0), (1, .int x1), (3, .int x3)]) dX11_never_63 rfl rfl (by decide) rfl ?_
    refine jx_goto (tgt := 7) dX11_never_66 (by decide) ?_
    exact jx_lv [1, 2, 0] rfl h
  replace h := h.2 c5
  refine jx_iconst (v := 1) dX11_never_23 (by decide) ?_
  refine jx_iload_n 2 dX11_never_24 rfl rfl ?_
  refine jx_ishl dX11_never_25 ?_
  refine jx_iconst (v := 1) dX11_never_26 (by decide) ?_
  refine jx_iload_n 3 dX11_never_27 rfl rfl ?_
  refine jx_ishl dX11_never_28 ?_
  refine jx_ior dX11_never_29 ?_
  refine jx_istore (lv1 := [(4, .int ((jshl 1 x2) ||| (jshl 1 x3))), (0, .ref a0), (1, .int x1), (2, .int x2), (3, .int x3)]) dX11_never_30 (by decide) rfl ?_
  refine jx_iload_n 2 dX11_never_32 rfl rfl ?_
  refine jx_iload 0 dX11_never_33 rfl ?_
  refine jx_iand dX11_never_35 ?_
  refine jx_iload 0 dX11_never_36 rfl ?_
  refine jx_icmp_ne (tgt := 57) dX11_never_38 (by decide) (fun c6 => ?_) (fun c6 => ?_)
  · replace h := h.2 c6
    refine jx_iinc 4 (v := (x3 + 1)) (lv1 := [(3, .int (x3 + 1)), (4, .int ((jshl 1 x2) ||| (jshl 1 x3))), (0, .ref a0), (1, .int x1), (2, .int x2)]) dX11_never_57 rfl rfl (by decide) rfl ?_
    refine jx_goto (tgt := 17) dX11_never_60 (by decide) ?_
    exact jx_lv [2, 3, 4, 0] rfl h
  replace h := h.1 c6
  refine jx_aload_n 1 dX11_never_41 rfl rfl ?_
  refine jx_iload 0 dX11_never_42 rfl ?_
  obtain ⟨hk7, h⟩ := h
  refine jx_callVi (M' := mX11_areTogether) (As := [.int ((jshl 1 x2) ||| (jshl 1 x3))]) jo_X11_areTogether jc_11 rfl jwM_X11_200 jwN_X11_areTogether jwX_X11_areTogether dX11_never_44 (jRok_m _ _ _) rfl (jle rfl) ⟨jle rfl, jle rfl⟩ hk7 h (fun r9 S8 h => ?_)
  refine jx_if_ne (tgt := 57) dX11_never_47 (by decide) (fun c10 => ?_) (fun c10 => ?_)
  · replace h := h.2 c10
    refine jx_iinc 4 (v := (x3 + 1)) (lv1 := [(3, .int (x3 + 1)), (4, .int ((jshl 1 x2) ||| (jshl 1 x3))), (0, .ref a0), (1, .int x1), (2, .int x2)]) dX11_never_57 rfl rfl (by decide) rfl ?_
    refine jx_goto (tgt := 17) dX11_never_60 (by decide) ?_
    exact jx_lv [2, 3, 4, 0] rfl h
  replace h := h.1 c10
  refine jx_bipush (v := 10) dX11_never_50 (by decide) ?_
  refine jx_iload_n 3 dX11_never_52 rfl rfl ?_
  refine jx_imul dX11_never_53 ?_
  refine jx_iload_n 4 dX11_never_54 rfl rfl ?_
  refine jx_iadd dX11_never_55 ?_
  exact jx_iret dX11_never_56 rfl rfl (jle rfl) (jle rfl) ⟨_, rfl, h⟩
/-- X11_last at its loop's head 17 -/
abbrev L_X11_last_17 (E : jEnv) (d : Nat) (Q : Int32 → jM → Prop) (a0 : Nat) (x1 : Int32) (x2 : Int32) (x3 : Int32) (x4 : Int32) (S : jM) : Prop := jX E mX11_last (jRm (d + 1) 0 0) (jZm E (fun r S' => ∃ v : Int32, r = some (.int v) ∧ Q v S') 0 0) 17 [(0, .ref a0), (1, .int x1), (2, .int x2), (3, .int x3), (4, .int x4)] [] S 0 0
set_option maxRecDepth 100000 in
set_option maxHeartbeats 4000000 in
theorem T_X11_last {E : jEnv} {d : Nat} {Q : Int32 → jM → Prop} {a0 : Nat} {x1 : Int32} {S : jM} (h : ((jisg x1) = 0 → Q (-1000000001) S) ∧ (¬ (jisg x1) = 0 → L_X11_last_17 E d Q a0 x1 (-1) 0 0 S)) : jFi E mX11_last (d + 1) 0 0 [.ref a0, .int x1] S Q := by
  refine jF_of (by decide) (jle rfl) ?_
  refine jx_lv (lv1 := [(0, .ref a0), (1, .int x1)]) [0, 1] rfl ?_
  refine jx_iload_n 1 dX11_last_0 rfl rfl ?_
  refine jx_callSi (M' := mX11_isGesture) (As := [.int x1]) jo_X11_isGesture jwM_X11_82 jwS_X11_isGesture dX11_last_1 (jRok_m _ _ _) rfl (jle rfl) ⟨jle rfl, jle rfl⟩ (c_X11_isGesture (Q := fun v S' => v = (jisg x1) ∧ S = S') ⟨rfl, rfl⟩) (fun r1 S2 hq3 => ?_)
  obtain ⟨rfl, rfl⟩ := hq3
  refine jx_if_ne (tgt := 10) dX11_last_4 (by decide) (fun c4 => ?_) (fun c4 => ?_)
  · replace h := h.2 c4
    refine jx_iconst (v := (-1)) dX11_last_10 (by decide) ?_
    refine jx_istore_n (lv1 := [(2, .int (-1)), (0, .ref a0), (1, .int x1)]) dX11_last_11 rfl (by decide) rfl ?_
    refine jx_iconst (v := 0) dX11_last_12 (by decide) ?_
    refine jx_istore_n (lv1 := [(3, .int 0), (2, .int (-1)), (0, .ref a0), (1, .int x1)]) dX11_last_13 rfl (by decide) rfl ?_
    refine jx_iconst (v := 0) dX11_last_14 (by decide) ?_
    refine jx_istore (lv1 := [(4, .int 0), (3, .int 0), (2, .int (-1)), (0, .ref a0), (1, .int x1)]) dX11_last_15 (by decide) rfl ?_
    exact jx_lv [3, 4, 2, 1, 0] rfl h
  replace h := h.1 c4
  refine jx_ldc jwC_X11_87 dX11_last_7 ?_
  exact jx_iret dX11_last_9 rfl rfl (jle rfl) (jle rfl) ⟨_, rfl, h⟩
set_option maxRecDepth 100000 in
set_option maxHeartbeats 4000000 in
theorem T_X11_last_17 {E : jEnv} {d : Nat} {Q : Int32 → jM → Prop} {a0 : Nat} {x1 : Int32} {x2 : Int32} {x3 : Int32} {x4 : Int32} {S : jM} (h : jk S a0 = 11 ∧ ∃ b6, jr S a0 0 = some b6 ∧ (jk S b6 = 12 ∧ vp_in 0 (jl S b6) ∧ (((ji S b6 (Int32.toNatClampNeg 0)) ≤ x4 → (x3 = 1 → Q x2 S) ∧ (¬ x3 = 1 → Q (-1000000005) S)) ∧ (¬ (ji S b6 (Int32.toNatClampNeg 0)) ≤ x4 → jFi E mX11_of d 0 0 [.ref a0, .int x4, .int 6] S (fun r12 S11 => (r12 = 0 → jk S11 a0 = 11 ∧ jFi E mX11_of d 0 0 [.ref a0, .int x4, .int 2] S11 (fun r16 S15 => (r16 = x1 → L_X11_last_17 E d Q a0 x1 x4 (x3 + 1) (x4 + 1) S15) ∧ (¬ r16 = x1 → L_X11_last_17 E d Q a0 x1 x2 x3 (x4 + 1) S15))) ∧ (¬ r12 = 0 → L_X11_last_17 E d Q a0 x1 x2 x3 (x4 + 1) S11)))))) : L_X11_last_17 E d Q a0 x1 x2 x3 x4 S := by
  show jX E mX11_last (jRm (d + 1) 0 0) (jZm E (fun r S' => ∃ v : Int32, r = some (.int v) ∧ Q v S') 0 0) 17 [(0, .ref a0), (1, .int x1), (2, .int x2), (3, .int x3), (4, .int x4)] [] S 0 0
  refine jx_iload 4 dX11_last_17 rfl ?_
  refine jx_aload_n 0 dX11_last_19 rfl rfl ?_
  obtain ⟨hk5, h⟩ := h
  obtain ⟨b6, hb6, h⟩ := h
  refine jx_getr jc_11 (j := 0) (by decide) rfl jwF_X11_7 dX11_last_20 hk5 hb6 ?_
  refine jx_iconst (v := 0) dX11_last_23 (by decide) ?_
  obtain ⟨hk7, h⟩ := h
  obtain ⟨hi8, h⟩ := h
  refine jx_iald dX11_last_24 hk7 hi8 ?_
  refine jx_icmp_ge (tgt := 62) dX11_last_25 (by decide) (fun c9 => ?_) (fun c9 => ?_)
  · replace h := h.1 c9
    refine jx_iload_n 3 dX11_last_62 rfl rfl ?_
    refine jx_iconst (v := 1) dX11_last_63 (by decide) ?_
    refine jx_icmp_ne (tgt := 71) dX11_last_64 (by decide) (fun c10 => ?_) (fun c10 => ?_)
    · replace h := h.2 c10
      refine jx_ldc jwC_X11_70 dX11_last_71 ?_
      exact jx_iret dX11_last_73 rfl rfl (jle rfl) (jle rfl) ⟨_, rfl, h⟩
    replace h := h.1 c10
    refine jx_iload_n 2 dX11_last_67 rfl rfl ?_
    refine jx_goto (tgt := 73) dX11_last_68 (by decide) ?_
    exact jx_iret dX11_last_73 rfl rfl (jle rfl) (jle rfl) ⟨_, rfl, h⟩
  replace h := h.2 c9
  refine jx_aload_n 0 dX11_last_28 rfl rfl ?_
  refine jx_iload 4 dX11_last_29 rfl ?_
  refine jx_bipush (v := 6) dX11_last_31 (by decide) ?_
  refine jx_callVi (M' := mX11_of) (As := [.int x4, .int 6]) jo_X11_of jc_11 rfl jwM_X11_97 jwN_X11_of jwX_X11_of dX11_last_33 (jRok_m _ _ _) rfl (jle rfl) ⟨jle rfl, jle rfl⟩ hk5 h (fun r12 S11 h => ?_)
  refine jx_if_ne (tgt := 56) dX11_last_36 (by decide) (fun c13 => ?_) (fun c13 => ?_)
  · replace h := h.2 c13
    refine jx_iinc 4 (v := (x4 + 1)) (lv1 := [(4, .int (x4 + 1)), (0, .ref a0), (1, .int x1), (2, .int x2), (3, .int x3)]) dX11_last_56 rfl rfl (by decide) rfl ?_
    refine jx_goto (tgt := 17) dX11_last_59 (by decide) ?_
    exact jx_lv [1, 2, 3, 4, 0] rfl h
  replace h := h.1 c13
  refine jx_aload_n 0 dX11_last_39 rfl rfl ?_
  refine jx_iload 4 dX11_last_40 rfl ?_
  refine jx_iconst (v := 2) dX11_last_42 (by decide) ?_
  obtain ⟨hk14, h⟩ := h
  refine jx_callVi (M' := mX11_of) (As := [.int x4, .int 2]) jo_X11_of jc_11 rfl jwM_X11_97 jwN_X11_of jwX_X11_of dX11_last_43 (jRok_m _ _ _) rfl (jle rfl) ⟨jle rfl, jle rfl⟩ hk14 h (fun r16 S15 h => ?_)
  refine jx_iload_n 1 dX11_last_46 rfl rfl ?_
  refine jx_icmp_ne (tgt := 56) dX11_last_47 (by decide) (fun c17 => ?_) (fun c17 => ?_)
  · replace h := h.2 c17
    refine jx_iinc 4 (v := (x4 + 1)) (lv1 := [(4, .int (x4 + 1)), (0, .ref a0), (1, .int x1), (2, .int x2), (3, .int x3)]) dX11_last_56 rfl rfl (by decide) rfl ?_
    refine jx_goto (tgt := 17) dX11_last_59 (by decide) ?_
    exact jx_lv [1, 2, 3, 4, 0] rfl h
  replace h := h.1 c17
  refine jx_iload 4 dX11_last_50 rfl ?_
  refine jx_istore_n (lv1 := [(2, .int x4), (0, .ref a0), (1, .int x1), (3, .int x3), (4, .int x4)]) dX11_last_52 rfl (by decide) rfl ?_
  refine jx_iinc 3 (v := (x3 + 1)) (lv1 := [(3, .int (x3 + 1)), (2, .int x4), (0, .ref a0), (1, .int x1), (4, .int x4)]) dX11_last_53 rfl rfl (by decide) rfl ?_
  refine jx_iinc 4 (v := (x4 + 1)) (lv1 := [(4, .int (x4 + 1)), (3, .int (x3 + 1)), (2, .int x4), (0, .ref a0), (1, .int x1)]) dX11_last_56 rfl rfl (by decide) rfl ?_
  refine jx_goto (tgt := 17) dX11_last_59 (by decide) ?_
  exact jx_lv [3, 4, 2, 1, 0] rfl h
/-- X11_year at its loop's head 4 -/
abbrev L_X11_year_4 (E : jEnv) (d : Nat) (Q : Int32 → jM → Prop) (a0 : Nat) (x1 : Int32) (x2 : Int32) (S : jM) : Prop := jX E mX11_year (jRm (d + 1) 0 0) (jZm E (fun r S' => ∃ v : Int32, r = some (.int v) ∧ Q v S') 0 0) 4 [(0, .ref a0), (1, .int x1), (2, .int x2)] [] S 0 0
set_option maxRecDepth 100000 in
set_option maxHeartbeats 4000000 in
theorem T_X11_year {E : jEnv} {d : Nat} {Q : Int32 → jM → Prop} {a0 : Nat} {S : jM} (h : L_X11_year_4 E d Q a0 0 0 S) : jFi E mX11_year (d + 1) 0 0 [.ref a0] S Q := by
  refine jF_of (by decide) (jle rfl) ?_
  refine jx_lv (lv1 := [(0, .ref a0)]) [0] rfl ?_
  refine jx_iconst (v := 0) dX11_year_0 (by decide) ?_
  refine jx_istore_n (lv1 := [(1, .int 0), (0, .ref a0)]) dX11_year_1 rfl (by decide) rfl ?_
  refine jx_iconst (v := 0) dX11_year_2 (by decide) ?_
  refine jx_istore_n (lv1 := [(2, .int 0), (1, .int 0), (0, .ref a0)]) dX11_year_3 rfl (by decide) rfl ?_
  exact jx_lv [2, 1, 0] rfl h
set_option maxRecDepth 100000 in
set_option maxHeartbeats 4000000 in
theorem T_X11_year_4 {E : jEnv} {d : Nat} {Q : Int32 → jM → Prop} {a0 : Nat} {x1 : Int32} {x2 : Int32} {S : jM} (h : jk S a0 = 11 ∧ ∃ b2, jr S a0 0 = some b2 ∧ (jk S b2 = 12 ∧ vp_in 0 (jl S b2) ∧ (((ji S b2 (Int32.toNatClampNeg 0)) ≤ x2 → Q x1 S) ∧ (¬ (ji S b2 (Int32.toNatClampNeg 0)) ≤ x2 → vp_in ((72 + (7 * x2)) + 6) (jl S b2) ∧ (((ji S b2 (Int32.toNatClampNeg ((72 + (7 * x2)) + 6))) = 0 → jFi E mX11_drawn d 0 0 [.ref a0] S (fun r9 S8 => jk S8 a0 = 11 ∧ ∃ b11, jr S8 a0 0 = some b11 ∧ (jk S8 b11 = 12 ∧ vp_in ((72 + (7 * x2)) + 5) (jl S8 b11) ∧ ((((ji S8 b11 (Int32.toNatClampNeg ((72 + (7 * x2)) + 5))) - 50) ≤ (jrem r9 100) → ((L_X11_year_4 E d Q a0 x1 (x2 + 1) (jput S8 b11 (Int32.toNatClampNeg ((72 + (7 * x2)) + 5)) (jclamp ((ji S8 b11 (Int32.toNatClampNeg ((72 + (7 * x2)) + 5))) + 1) 0 99))))) ∧ (¬ ((ji S8 b11 (Int32.toNatClampNeg ((72 + (7 * x2)) + 5))) - 50) ≤ (jrem r9 100) → vp_in ((72 + (7 * x2)) + 6) (jl S8 b11) ∧ (L_X11_year_4 E d Q a0 (x1 + 1) (x2 + 1) (jput S8 b11 (Int32.toNatClampNeg ((72 + (7 * x2)) + 6)) 1))))))) ∧ (¬ (ji S b2 (Int32.toNatClampNeg ((72 + (7 * x2)) + 6))) = 0 → L_X11_year_4 E d Q a0 x1 (x2 + 1) S)))))) : L_X11_year_4 E d Q a0 x1 x2 S := by
  show jX E mX11_year (jRm (d + 1) 0 0) (jZm E (fun r S' => ∃ v : Int32, r = some (.int v) ∧ Q v S') 0 0) 4 [(0, .ref a0), (1, .int x1), (2, .int x2)] [] S 0 0
  refine jx_iload_n 2 dX11_year_4 rfl rfl ?_
  refine jx_aload_n 0 dX11_year_5 rfl rfl ?_
  obtain ⟨hk1, h⟩ := h
  obtain ⟨b2, hb2, h⟩ := h
  refine jx_getr jc_11 (j := 0) (by decide) rfl jwF_X11_7 dX11_year_6 hk1 hb2 ?_
  refine jx_iconst (v := 0) dX11_year_9 (by decide) ?_
  obtain ⟨hk3, h⟩ := h
  obtain ⟨hi4, h⟩ := h
  refine jx_iald dX11_year_10 hk3 hi4 ?_
  refine jx_icmp_ge (tgt := 101) dX11_year_11 (by decide) (fun c5 => ?_) (fun c5 => ?_)
  · replace h := h.1 c5
    refine jx_iload_n 1 dX11_year_101 rfl rfl ?_
    exact jx_iret dX11_year_102 rfl rfl (jle rfl) (jle rfl) ⟨_, rfl, h⟩
  replace h := h.2 c5
  refine jx_bipush (v := 72) dX11_year_14 (by decide) ?_
  refine jx_bipush (v := 7) dX11_year_16 (by decide) ?_
  refine jx_iload_n 2 dX11_year_18 rfl rfl ?_
  refine jx_imul dX11_year_19 ?_
  refine jx_iadd dX11_year_20 ?_
  refine jx_istore_n (lv1 := [(3, .int (72 + (7 * x2))), (0, .ref a0), (1, .int x1), (2, .int x2)]) dX11_year_21 rfl (by decide) rfl ?_
  refine jx_aload_n 1 dX11_year_22 rfl rfl ?_
  refine jx_getr jc_11 (j := 0) (by decide) rfl jwF_X11_7 dX11_year_23 hk1 hb2 ?_
  refine jx_iload_n 0 dX11_year_26 rfl rfl ?_
  refine jx_bipush (v := 6) dX11_year_27 (by decide) ?_
  refine jx_iadd dX11_year_29 ?_
  obtain ⟨hi6, h⟩ := h
  refine jx_iald dX11_year_30 hk3 hi6 ?_
  refine jx_if_ne (tgt := 95) dX11_year_31 (by decide) (fun c7 => ?_) (fun c7 => ?_)
  · replace h := h.2 c7
    refine jx_iinc 3 (v := (x2 + 1)) (lv1 := [(2, .int (x2 + 1)), (3, .int (72 + (7 * x2))), (0, .ref a0), (1, .int x1)]) dX11_year_95 rfl rfl (by decide) rfl ?_
    refine jx_goto (tgt := 4) dX11_year_98 (by decide) ?_
    exact jx_lv [2, 3, 0] rfl h
  replace h := h.1 c7
  refine jx_aload_n 1 dX11_year_34 rfl rfl ?_
  refine jx_callVi (M' := mX11_drawn) (As := []) jo_X11_drawn jc_11 rfl jwM_X11_140 jwN_X11_drawn jwX_X11_drawn dX11_year_35 (jRok_m _ _ _) rfl (jle rfl) ⟨jle rfl, jle rfl⟩ hk1 h (fun r9 S8 h => ?_)
  refine jx_bipush (v := 100) dX11_year_38 (by decide) ?_
  refine jx_irem dX11_year_40 (by decide) ?_
  refine jx_aload_n 1 dX11_year_41 rfl rfl ?_
  obtain ⟨hk10, h⟩ := h
  obtain ⟨b11, hb11, h⟩ := h
  refine jx_getr jc_11 (j := 0) (by decide) rfl jwF_X11_7 dX11_year_42 hk10 hb11 ?_
  refine jx_iload_n 0 dX11_year_45 rfl rfl ?_
  refine jx_iconst (v := 5) dX11_year_46 (by decide) ?_
  refine jx_iadd dX11_year_47 ?_
  obtain ⟨hk12, h⟩ := h
  obtain ⟨hi13, h⟩ := h
  refine jx_iald dX11_year_48 hk12 hi13 ?_
  refine jx_bipush (v := 50) dX11_year_49 (by decide) ?_
  refine jx_isub dX11_year_51 ?_
  refine jx_icmp_ge (tgt := 71) dX11_year_52 (by decide) (fun c14 => ?_) (fun c14 => ?_)
  · replace h := h.1 c14
    refine jx_aload_n 1 dX11_year_71 rfl rfl ?_
    refine jx_getr jc_11 (j := 0) (by decide) rfl jwF_X11_7 dX11_year_72 hk10 hb11 ?_
    refine jx_iload_n 0 dX11_year_75 rfl rfl ?_
    refine jx_iconst (v := 5) dX11_year_76 (by decide) ?_
    refine jx_iadd dX11_year_77 ?_
    refine jx_aload_n 1 dX11_year_78 rfl rfl ?_
    refine jx_getr jc_11 (j := 0) (by decide) rfl jwF_X11_7 dX11_year_79 hk10 hb11 ?_
    refine jx_iload_n 0 dX11_year_82 rfl rfl ?_
    refine jx_iconst (v := 5) dX11_year_83 (by decide) ?_
    refine jx_iadd dX11_year_84 ?_
    refine jx_iald dX11_year_85 hk12 hi13 ?_
    refine jx_iconst (v := 1) dX11_year_86 (by decide) ?_
    refine jx_iadd dX11_year_87 ?_
    refine jx_iconst (v := 0) dX11_year_88 (by decide) ?_
    refine jx_bipush (v := 99) dX11_year_89 (by decide) ?_
    refine jx_callSi (M' := mX11_within) (As := [.int ((ji S8 b11 (Int32.toNatClampNeg ((72 + (7 * x2)) + 5))) + 1), .int 0, .int 99]) jo_X11_within jwM_X11_104 jwS_X11_within dX11_year_91 (jRok_m _ _ _) rfl (jle rfl) ⟨jle rfl, jle rfl⟩ (c_X11_within (Q := fun v S' => v = (jclamp ((ji S8 b11 (Int32.toNatClampNeg ((72 + (7 * x2)) + 5))) + 1) 0 99) ∧ S8 = S') ⟨rfl, rfl⟩) (fun r15 S16 hq17 => ?_)
    obtain ⟨rfl, rfl⟩ := hq17
    refine jx_iast dX11_year_94 hk12 hi13 ?_
    refine jx_iinc 3 (v := (x2 + 1)) (lv1 := [(2, .int (x2 + 1)), (3, .int (72 + (7 * x2))), (0, .ref a0), (1, .int x1)]) dX11_year_95 rfl rfl (by decide) rfl ?_
    refine jx_goto (tgt := 4) dX11_year_98 (by decide) ?_
    exact jx_lv [2, 3, 0] rfl h
  replace h := h.2 c14
  refine jx_aload_n 1 dX11_year_55 rfl rfl ?_
  refine jx_getr jc_11 (j := 0) (by decide) rfl jwF_X11_7 dX11_year_56 hk10 hb11 ?_
  refine jx_iload_n 0 dX11_year_59 rfl rfl ?_
  refine jx_bipush (v := 6) dX11_year_60 (by decide) ?_
  refine jx_iadd dX11_year_62 ?_
  refine jx_iconst (v := 1) dX11_year_63 (by decide) ?_
  obtain ⟨hi18, h⟩ := h
  refine jx_iast dX11_year_64 hk12 hi18 ?_
  refine jx_iinc 2 (v := (x1 + 1)) (lv1 := [(1, .int (x1 + 1)), (3, .int (72 + (7 * x2))), (0, .ref a0), (2, .int x2)]) dX11_year_65 rfl rfl (by decide) rfl ?_
  refine jx_goto (tgt := 95) dX11_year_68 (by decide) ?_
  refine jx_iinc 3 (v := (x2 + 1)) (lv1 := [(2, .int (x2 + 1)), (1, .int (x1 + 1)), (3, .int (72 + (7 * x2))), (0, .ref a0)]) dX11_year_95 rfl rfl (by decide) rfl ?_
  refine jx_goto (tgt := 4) dX11_year_98 (by decide) ?_
  exact jx_lv [3, 1, 0] rfl h
/-- X11_years at its loop's head 19 -/
abbrev L_X11_years_19 (E : jEnv) (d : Nat) (Q : Int32 → jM → Prop) (a0 : Nat) (x1 : Int32) (x2 : Int32) (x3 : Int32) (S : jM) : Prop := jX E mX11_years (jRm (d + 1) 0 0) (jZm E (fun r S' => ∃ v : Int32, r = some (.int v) ∧ Q v S') 0 0) 19 [(0, .ref a0), (1, .int x1), (2, .int x2), (3, .int x3)] [] S 0 0
set_option maxRecDepth 100000 in
set_option maxHeartbeats 4000000 in
theorem T_X11_years {E : jEnv} {d : Nat} {Q : Int32 → jM → Prop} {a0 : Nat} {x1 : Int32} {S : jM} (h : ((jisin (Int32.toInt64 x1) 1 60) = 0 → Q (-1000000001) S) ∧ (¬ (jisin (Int32.toInt64 x1) 1 60) = 0 → L_X11_years_19 E d Q a0 x1 0 0 S)) : jFi E mX11_years (d + 1) 0 0 [.ref a0, .int x1] S Q := by
  refine jF_of (by decide) (jle rfl) ?_
  refine jx_lv (lv1 := [(0, .ref a0), (1, .int x1)]) [0, 1] rfl ?_
  refine jx_iload_n 1 dX11_years_0 rfl rfl ?_
  refine jx_i2l dX11_years_1 ?_
  refine jx_lconst (v := 1) dX11_years_2 (by decide) ?_
  refine jx_ldc2 jwL_X11_206 dX11_years_3 ?_
  refine jx_callSi (M' := mX11_isIn) (As := [.long (Int32.toInt64 x1), .long 1, .long 60]) jo_X11_isIn jwM_X11_71 jwS_X11_isIn dX11_years_6 (jRok_m _ _ _) rfl (jle rfl) ⟨jle rfl, jle rfl⟩ (c_X11_isIn (Q := fun v S' => v = (jisin (Int32.toInt64 x1) 1 60) ∧ S = S') ⟨rfl, rfl⟩) (fun r1 S2 hq3 => ?_)
  obtain ⟨rfl, rfl⟩ := hq3
  refine jx_if_ne (tgt := 15) dX11_years_9 (by decide) (fun c4 => ?_) (fun c4 => ?_)
  · replace h := h.2 c4
    refine jx_iconst (v := 0) dX11_years_15 (by decide) ?_
    refine jx_istore_n (lv1 := [(2, .int 0), (0, .ref a0), (1, .int x1)]) dX11_years_16 rfl (by decide) rfl ?_
    refine jx_iconst (v := 0) dX11_years_17 (by decide) ?_
    refine jx_istore_n (lv1 := [(3, .int 0), (2, .int 0), (0, .ref a0), (1, .int x1)]) dX11_years_18 rfl (by decide) rfl ?_
    exact jx_lv [2, 3, 1, 0] rfl h
  replace h := h.1 c4
  refine jx_ldc jwC_X11_87 dX11_years_12 ?_
  exact jx_iret dX11_years_14 rfl rfl (jle rfl) (jle rfl) ⟨_, rfl, h⟩
set_option maxRecDepth 100000 in
set_option maxHeartbeats 4000000 in
theorem T_X11_years_19 {E : jEnv} {d : Nat} {Q : Int32 → jM → Prop} {a0 : Nat} {x1 : Int32} {x2 : Int32} {x3 : Int32} {S : jM} (h : (x1 ≤ x3 → Q x2 S) ∧ (¬ x1 ≤ x3 → jk S a0 = 11 ∧ jFi E mX11_year d 0 0 [.ref a0] S (fun r8 S7 => L_X11_years_19 E d Q a0 x1 (x2 + r8) (x3 + 1) S7))) : L_X11_years_19 E d Q a0 x1 x2 x3 S := by
  show jX E mX11_years (jRm (d + 1) 0 0) (jZm E (fun r S' => ∃ v : Int32, r = some (.int v) ∧ Q v S') 0 0) 19 [(0, .ref a0), (1, .int x1), (2, .int x2), (3, .int x3)] [] S 0 0
  refine jx_iload_n 3 dX11_years_19 rfl rfl ?_
  refine jx_iload_n 1 dX11_years_20 rfl rfl ?_
  refine jx_icmp_ge (tgt := 37) dX11_years_21 (by decide) (fun c5 => ?_) (fun c5 => ?_)
  · replace h := h.1 c5
    refine jx_iload_n 2 dX11_years_37 rfl rfl ?_
    exact jx_iret dX11_years_38 rfl rfl (jle rfl) (jle rfl) ⟨_, rfl, h⟩
  replace h := h.2 c5
  refine jx_iload_n 2 dX11_years_24 rfl rfl ?_
  refine jx_aload_n 0 dX11_years_25 rfl rfl ?_
  obtain ⟨hk6, h⟩ := h
  refine jx_callVi (M' := mX11_year) (As := []) jo_X11_year jc_11 rfl jwM_X11_208 jwN_X11_year jwX_X11_year dX11_years_26 (jRok_m _ _ _) rfl (jle rfl) ⟨jle rfl, jle rfl⟩ hk6 h (fun r8 S7 h => ?_)
  refine jx_iadd dX11_years_29 ?_
  refine jx_istore_n (lv1 := [(2, .int (x2 + r8)), (0, .ref a0), (1, .int x1), (3, .int x3)]) dX11_years_30 rfl (by decide) rfl ?_
  refine jx_iinc 3 (v := (x3 + 1)) (lv1 := [(3, .int (x3 + 1)), (2, .int (x2 + r8)), (0, .ref a0), (1, .int x1)]) dX11_years_31 rfl rfl (by decide) rfl ?_
  refine jx_goto (tgt := 19) dX11_years_34 (by decide) ?_
  exact jx_lv [2, 3, 1, 0] rfl h
/-- X11_gone at its loop's head 29 -/
abbrev L_X11_gone_29 (E : jEnv) (d : Nat) (Q : Int32 → jM → Prop) (a0 : Nat) (x1 : Int32) (x2 : Int32) (x3 : Int32) (x4 : Int32) (S : jM) : Prop := jX E mX11_gone (jRm (d + 1) 0 0) (jZm E (fun r S' => ∃ v : Int32, r = some (.int v) ∧ Q v S') 0 0) 29 [(0, .ref a0), (1, .int x1), (2, .int x2), (3, .int x3), (4, .int x4)] [] S 0 0
set_option maxRecDepth 100000 in
set_option maxHeartbeats 4000000 in
theorem T_X11_gone {E : jEnv} {d : Nat} {Q : Int32 → jM → Prop} {a0 : Nat} {x1 : Int32} {S : jM} (h : ((jisin (Int32.toInt64 x1) 0 60) = 0 → Q (-1000000001) S) ∧ (¬ (jisin (Int32.toInt64 x1) 0 60) = 0 → jk S a0 = 11 ∧ jFv E mX11_laysBy d 0 0 [.ref a0] S (fun S6 => jk S6 a0 = 11 ∧ jFi E mX11_taughtNow d 0 0 [.ref a0] S6 (fun r9 S8 => L_X11_gone_29 E d Q a0 x1 r9 0 0 S8)))) : jFi E mX11_gone (d + 1) 0 0 [.ref a0, .int x1] S Q := by
  refine jF_of (by decide) (jle rfl) ?_
  refine jx_lv (lv1 := [(0, .ref a0), (1, .int x1)]) [0, 1] rfl ?_
  refine jx_iload_n 1 dX11_gone_0 rfl rfl ?_
  refine jx_i2l dX11_gone_1 ?_
  refine jx_lconst (v := 0) dX11_gone_2 (by decide) ?_
  refine jx_ldc2 jwL_X11_206 dX11_gone_3 ?_
  refine jx_callSi (M' := mX11_isIn) (As := [.long (Int32.toInt64 x1), .long 0, .long 60]) jo_X11_isIn jwM_X11_71 jwS_X11_isIn dX11_gone_6 (jRok_m _ _ _) rfl (jle rfl) ⟨jle rfl, jle rfl⟩ (c_X11_isIn (Q := fun v S' => v = (jisin (Int32.toInt64 x1) 0 60) ∧ S = S') ⟨rfl, rfl⟩) (fun r1 S2 hq3 => ?_)
  obtain ⟨rfl, rfl⟩ := hq3
  refine jx_if_ne (tgt := 15) dX11_gone_9 (by decide) (fun c4 => ?_) (fun c4 => ?_)
  · replace h := h.2 c4
    refine jx_aload_n 0 dX11_gone_15 rfl rfl ?_
    obtain ⟨hk5, h⟩ := h
    refine jx_callVv (M' := mX11_laysBy) (As := []) jo_X11_laysBy jc_11 rfl jwM_X11_186 jwN_X11_laysBy jwX_X11_laysBy dX11_gone_16 (jRok_m _ _ _) rfl (jle rfl) ⟨jle rfl, jle rfl⟩ hk5 h (fun S6 h => ?_)
    refine jx_aload_n 0 dX11_gone_19 rfl rfl ?_
    obtain ⟨hk7, h⟩ := h
    refine jx_callVi (M' := mX11_taughtNow) (As := []) jo_X11_taughtNow jc_11 rfl jwM_X11_203 jwN_X11_taughtNow jwX_X11_taughtNow dX11_gone_20 (jRok_m _ _ _) rfl (jle rfl) ⟨jle rfl, jle rfl⟩ hk7 h (fun r9 S8 h => ?_)
    refine jx_istore_n (lv1 := [(2, .int r9), (0, .ref a0), (1, .int x1)]) dX11_gone_23 rfl (by decide) rfl ?_
    refine jx_iconst (v := 0) dX11_gone_24 (by decide) ?_
    refine jx_istore_n (lv1 := [(3, .int 0), (2, .int r9), (0, .ref a0), (1, .int x1)]) dX11_gone_25 rfl (by decide) rfl ?_
    refine jx_iconst (v := 0) dX11_gone_26 (by decide) ?_
    refine jx_istore (lv1 := [(4, .int 0), (3, .int 0), (2, .int r9), (0, .ref a0), (1, .int x1)]) dX11_gone_27 (by decide) rfl ?_
    exact jx_lv [3, 4, 2, 1, 0] rfl h
  replace h := h.1 c4
  refine jx_ldc jwC_X11_87 dX11_gone_12 ?_
  exact jx_iret dX11_gone_14 rfl rfl (jle rfl) (jle rfl) ⟨_, rfl, h⟩
set_option maxRecDepth 100000 in
set_option maxHeartbeats 4000000 in
theorem T_X11_gone_29 {E : jEnv} {d : Nat} {Q : Int32 → jM → Prop} {a0 : Nat} {x1 : Int32} {x2 : Int32} {x3 : Int32} {x4 : Int32} {S : jM} (h : (x1 ≤ x4 → jk S a0 = 11 ∧ jFi E mX11_taughtNow d 0 0 [.ref a0] S (fun r13 S12 => jk S12 a0 = 11 ∧ jFv E mX11_laysBack d 0 0 [.ref a0] S12 (fun S18 => Q (jmany (x2 &&& (r13 ^^^ (-1)))) S18))) ∧ (¬ x1 ≤ x4 → jk S a0 = 11 ∧ jFi E mX11_year d 0 0 [.ref a0] S (fun r21 S20 => L_X11_gone_29 E d Q a0 x1 x2 (x3 + r21) (x4 + 1) S20))) : L_X11_gone_29 E d Q a0 x1 x2 x3 x4 S := by
  show jX E mX11_gone (jRm (d + 1) 0 0) (jZm E (fun r S' => ∃ v : Int32, r = some (.int v) ∧ Q v S') 0 0) 29 [(0, .ref a0), (1, .int x1), (2, .int x2), (3, .int x3), (4, .int x4)] [] S 0 0
  refine jx_iload 4 dX11_gone_29 rfl ?_
  refine jx_iload_n 1 dX11_gone_31 rfl rfl ?_
  refine jx_icmp_ge (tgt := 48) dX11_gone_32 (by decide) (fun c10 => ?_) (fun c10 => ?_)
  · replace h := h.1 c10
    refine jx_iload_n 2 dX11_gone_48 rfl rfl ?_
    refine jx_aload_n 0 dX11_gone_49 rfl rfl ?_
    obtain ⟨hk11, h⟩ := h
    refine jx_callVi (M' := mX11_taughtNow) (As := []) jo_X11_taughtNow jc_11 rfl jwM_X11_203 jwN_X11_taughtNow jwX_X11_taughtNow dX11_gone_50 (jRok_m _ _ _) rfl (jle rfl) ⟨jle rfl, jle rfl⟩ hk11 h (fun r13 S12 h => ?_)
    refine jx_iconst (v := (-1)) dX11_gone_53 (by decide) ?_
    refine jx_ixor dX11_gone_54 ?_
    refine jx_iand dX11_gone_55 ?_
    refine jx_callSi (M' := mX11_manyIn) (As := [.int (x2 &&& (r13 ^^^ (-1)))]) jo_X11_manyIn jwM_X11_108 jwS_X11_manyIn dX11_gone_56 (jRok_m _ _ _) rfl (jle rfl) ⟨jle rfl, jle rfl⟩ (c_X11_manyIn (Q := fun v S' => v = (jmany (x2 &&& (r13 ^^^ (-1)))) ∧ S12 = S') ⟨rfl, rfl⟩) (fun r14 S15 hq16 => ?_)
    obtain ⟨rfl, rfl⟩ := hq16
    refine jx_istore (lv1 := [(4, .int (jmany (x2 &&& (r13 ^^^ (-1))))), (0, .ref a0), (1, .int x1), (2, .int x2), (3, .int x3)]) dX11_gone_59 (by decide) rfl ?_
    refine jx_aload_n 1 dX11_gone_61 rfl rfl ?_
    obtain ⟨hk17, h⟩ := h
    refine jx_callVv (M' := mX11_laysBack) (As := []) jo_X11_laysBack jc_11 rfl jwM_X11_192 jwN_X11_laysBack jwX_X11_laysBack dX11_gone_62 (jRok_m _ _ _) rfl (jle rfl) ⟨jle rfl, jle rfl⟩ hk17 h (fun S18 h => ?_)
    refine jx_iload 0 dX11_gone_65 rfl ?_
    exact jx_iret dX11_gone_67 rfl rfl (jle rfl) (jle rfl) ⟨_, rfl, h⟩
  replace h := h.2 c10
  refine jx_iload_n 3 dX11_gone_35 rfl rfl ?_
  refine jx_aload_n 0 dX11_gone_36 rfl rfl ?_
  obtain ⟨hk19, h⟩ := h
  refine jx_callVi (M' := mX11_year) (As := []) jo_X11_year jc_11 rfl jwM_X11_208 jwN_X11_year jwX_X11_year dX11_gone_37 (jRok_m _ _ _) rfl (jle rfl) ⟨jle rfl, jle rfl⟩ hk19 h (fun r21 S20 h => ?_)
  refine jx_iadd dX11_gone_40 ?_
  refine jx_istore_n (lv1 := [(3, .int (x3 + r21)), (0, .ref a0), (1, .int x1), (2, .int x2), (4, .int x4)]) dX11_gone_41 rfl (by decide) rfl ?_
  refine jx_iinc 4 (v := (x4 + 1)) (lv1 := [(4, .int (x4 + 1)), (3, .int (x3 + r21)), (0, .ref a0), (1, .int x1), (2, .int x2)]) dX11_gone_42 rfl rfl (by decide) rfl ?_
  refine jx_goto (tgt := 29) dX11_gone_45 (by decide) ?_
  exact jx_lv [2, 3, 4, 1, 0] rfl h
/-- X11_farFrom at its loop's head 4 -/
abbrev L_X11_farFrom_4 (E : jEnv) (d : Nat) (Q : Int32 → jM → Prop) (a0 : Nat) (x1 : Int32) (x2 : Int32) (x3 : Int32) (S : jM) : Prop := jX E mX11_farFrom (jRm (d + 1) 0 0) (jZm E (fun r S' => ∃ v : Int32, r = some (.int v) ∧ Q v S') 0 0) 4 [(0, .ref a0), (1, .int x1), (2, .int x2), (3, .int x3)] [] S 0 0
set_option maxRecDepth 100000 in
set_option maxHeartbeats 4000000 in
theorem T_X11_farFrom {E : jEnv} {d : Nat} {Q : Int32 → jM → Prop} {a0 : Nat} {x1 : Int32} {S : jM} (h : L_X11_farFrom_4 E d Q a0 x1 0 0 S) : jFi E mX11_farFrom (d + 1) 0 0 [.ref a0, .int x1] S Q := by
  refine jF_of (by decide) (jle rfl) ?_
  refine jx_lv (lv1 := [(0, .ref a0), (1, .int x1)]) [0, 1] rfl ?_
  refine jx_iconst (v := 0) dX11_farFrom_0 (by decide) ?_
  refine jx_istore_n (lv1 := [(2, .int 0), (0, .ref a0), (1, .int x1)]) dX11_farFrom_1 rfl (by decide) rfl ?_
  refine jx_iconst (v := 0) dX11_farFrom_2 (by decide) ?_
  refine jx_istore_n (lv1 := [(3, .int 0), (2, .int 0), (0, .ref a0), (1, .int x1)]) dX11_farFrom_3 rfl (by decide) rfl ?_
  exact jx_lv [2, 3, 1, 0] rfl h
set_option maxRecDepth 100000 in
set_option maxHeartbeats 4000000 in
theorem T_X11_farFrom_4 {E : jEnv} {d : Nat} {Q : Int32 → jM → Prop} {a0 : Nat} {x1 : Int32} {x2 : Int32} {x3 : Int32} {S : jM} (h : jk S a0 = 11 ∧ ∃ b2, jr S a0 0 = some b2 ∧ (jk S b2 = 12 ∧ vp_in 0 (jl S b2) ∧ (((ji S b2 (Int32.toNatClampNeg 0)) ≤ x3 → Q x2 S) ∧ (¬ (ji S b2 (Int32.toNatClampNeg 0)) ≤ x3 → jFi E mX11_of d 0 0 [.ref a0, .int x3, .int 6] S (fun r7 S6 => (r7 = 0 → jk S6 a0 = 11 ∧ ∃ b10, jr S6 a0 12 = some b10 ∧ (jFi E mX11_of d 0 0 [.ref a0, .int x3, .int 1] S6 (fun r12 S11 => jk S11 b10 = 12 ∧ vp_in ((6 * x1) + r12) (jl S11 b10) ∧ (L_X11_farFrom_4 E d Q a0 x1 (x2 + (ji S11 b10 (Int32.toNatClampNeg ((6 * x1) + r12)))) (x3 + 1) S11)))) ∧ (¬ r7 = 0 → L_X11_farFrom_4 E d Q a0 x1 (x2 + 0) (x3 + 1) S6)))))) : L_X11_farFrom_4 E d Q a0 x1 x2 x3 S := by
  show jX E mX11_farFrom (jRm (d + 1) 0 0) (jZm E (fun r S' => ∃ v : Int32, r = some (.int v) ∧ Q v S') 0 0) 4 [(0, .ref a0), (1, .int x1), (2, .int x2), (3, .int x3)] [] S 0 0
  refine jx_iload_n 3 dX11_farFrom_4 rfl rfl ?_
  refine jx_aload_n 0 dX11_farFrom_5 rfl rfl ?_
  obtain ⟨hk1, h⟩ := h
  obtain ⟨b2, hb2, h⟩ := h
  refine jx_getr jc_11 (j := 0) (by decide) rfl jwF_X11_7 dX11_farFrom_6 hk1 hb2 ?_
  refine jx_iconst (v := 0) dX11_farFrom_9 (by decide) ?_
  obtain ⟨hk3, h⟩ := h
  obtain ⟨hi4, h⟩ := h
  refine jx_iald dX11_farFrom_10 hk3 hi4 ?_
  refine jx_icmp_ge (tgt := 53) dX11_farFrom_11 (by decide) (fun c5 => ?_) (fun c5 => ?_)
  · replace h := h.1 c5
    refine jx_iload_n 2 dX11_farFrom_53 rfl rfl ?_
    exact jx_iret dX11_farFrom_54 rfl rfl (jle rfl) (jle rfl) ⟨_, rfl, h⟩
  replace h := h.2 c5
  refine jx_iload_n 2 dX11_farFrom_14 rfl rfl ?_
  refine jx_aload_n 0 dX11_farFrom_15 rfl rfl ?_
  refine jx_iload_n 3 dX11_farFrom_16 rfl rfl ?_
  refine jx_bipush (v := 6) dX11_farFrom_17 (by decide) ?_
  refine jx_callVi (M' := mX11_of) (As := [.int x3, .int 6]) jo_X11_of jc_11 rfl jwM_X11_97 jwN_X11_of jwX_X11_of dX11_farFrom_19 (jRok_m _ _ _) rfl (jle rfl) ⟨jle rfl, jle rfl⟩ hk1 h (fun r7 S6 h => ?_)
  refine jx_if_ne (tgt := 44) dX11_farFrom_22 (by decide) (fun c8 => ?_) (fun c8 => ?_)
  · replace h := h.2 c8
    refine jx_iconst (v := 0) dX11_farFrom_44 (by decide) ?_
    refine jx_iadd dX11_farFrom_45 ?_
    refine jx_istore_n (lv1 := [(2, .int (x2 + 0)), (0, .ref a0), (1, .int x1), (3, .int x3)]) dX11_farFrom_46 rfl (by decide) rfl ?_
    refine jx_iinc 3 (v := (x3 + 1)) (lv1 := [(3, .int (x3 + 1)), (2, .int (x2 + 0)), (0, .ref a0), (1, .int x1)]) dX11_farFrom_47 rfl rfl (by decide) rfl ?_
    refine jx_goto (tgt := 4) dX11_farFrom_50 (by decide) ?_
    exact jx_lv [2, 3, 1, 0] rfl h
  replace h := h.1 c8
  refine jx_aload_n 0 dX11_farFrom_25 rfl rfl ?_
  obtain ⟨hk9, h⟩ := h
  obtain ⟨b10, hb10, h⟩ := h
  refine jx_getr jc_11 (j := 12) (by decide) rfl jwF_X11_43 dX11_farFrom_26 hk9 hb10 ?_
  refine jx_bipush (v := 6) dX11_farFrom_29 (by decide) ?_
  refine jx_iload_n 1 dX11_farFrom_31 rfl rfl ?_
  refine jx_imul dX11_farFrom_32 ?_
  refine jx_aload_n 0 dX11_farFrom_33 rfl rfl ?_
  refine jx_iload_n 3 dX11_farFrom_34 rfl rfl ?_
  refine jx_iconst (v := 1) dX11_farFrom_35 (by decide) ?_
  refine jx_callVi (M' := mX11_of) (As := [.int x3, .int 1]) jo_X11_of jc_11 rfl jwM_X11_97 jwN_X11_of jwX_X11_of dX11_farFrom_36 (jRok_m _ _ _) rfl (jle rfl) ⟨jle rfl, jle rfl⟩ hk9 h (fun r12 S11 h => ?_)
  refine jx_iadd dX11_farFrom_39 ?_
  obtain ⟨hk13, h⟩ := h
  obtain ⟨hi14, h⟩ := h
  refine jx_iald dX11_farFrom_40 hk13 hi14 ?_
  refine jx_goto (tgt := 45) dX11_farFrom_41 (by decide) ?_
  refine jx_iadd dX11_farFrom_45 ?_
  refine jx_istore_n (lv1 := [(2, .int (x2 + (ji S11 b10 (Int32.toNatClampNeg ((6 * x1) + r12))))), (0, .ref a0), (1, .int x1), (3, .int x3)]) dX11_farFrom_46 rfl (by decide) rfl ?_
  refine jx_iinc 3 (v := (x3 + 1)) (lv1 := [(3, .int (x3 + 1)), (2, .int (x2 + (ji S11 b10 (Int32.toNatClampNeg ((6 * x1) + r12))))), (0, .ref a0), (1, .int x1)]) dX11_farFrom_47 rfl rfl (by decide) rfl ?_
  refine jx_goto (tgt := 4) dX11_farFrom_50 (by decide) ?_
  exact jx_lv [2, 3, 1, 0] rfl h
/-- X11_fresh at its loop's head 8 -/
abbrev L_X11_fresh_8 (E : jEnv) (d : Nat) (Q : Int32 → jM → Prop) (a0 : Nat) (x1 : Int32) (x2 : Int32) (S : jM) : Prop := jX E mX11_fresh (jRm (d + 1) 0 0) (jZm E (fun r S' => ∃ v : Int32, r = some (.int v) ∧ Q v S') 0 0) 8 [(0, .ref a0), (1, .int x1), (2, .int x2)] [] S 0 0
set_option maxRecDepth 100000 in
set_option maxHeartbeats 4000000 in
theorem T_X11_fresh {E : jEnv} {d : Nat} {Q : Int32 → jM → Prop} {a0 : Nat} {S : jM} (h : jk S a0 = 11 ∧ jFv E mX11_findFar d 0 0 [.ref a0] S (fun S2 => L_X11_fresh_8 E d Q a0 0 1 S2)) : jFi E mX11_fresh (d + 1) 0 0 [.ref a0] S Q := by
  refine jF_of (by decide) (jle rfl) ?_
  refine jx_lv (lv1 := [(0, .ref a0)]) [0] rfl ?_
  refine jx_aload_n 0 dX11_fresh_0 rfl rfl ?_
  obtain ⟨hk1, h⟩ := h
  refine jx_callVv (M' := mX11_findFar) (As := []) jo_X11_findFar jc_11 rfl jwM_X11_137 jwN_X11_findFar jwX_X11_findFar dX11_fresh_1 (jRok_m _ _ _) rfl (jle rfl) ⟨jle rfl, jle rfl⟩ hk1 h (fun S2 h => ?_)
  refine jx_iconst (v := 0) dX11_fresh_4 (by decide) ?_
  refine jx_istore_n (lv1 := [(1, .int 0), (0, .ref a0)]) dX11_fresh_5 rfl (by decide) rfl ?_
  refine jx_iconst (v := 1) dX11_fresh_6 (by decide) ?_
  refine jx_istore_n (lv1 := [(2, .int 1), (1, .int 0), (0, .ref a0)]) dX11_fresh_7 rfl (by decide) rfl ?_
  exact jx_lv [2, 1, 0] rfl h
set_option maxRecDepth 100000 in
set_option maxHeartbeats 4000000 in
theorem T_X11_fresh_8 {E : jEnv} {d : Nat} {Q : Int32 → jM → Prop} {a0 : Nat} {x1 : Int32} {x2 : Int32} {S : jM} (h : (6 ≤ x2 → Q x1 S) ∧ (¬ 6 ≤ x2 → jk S a0 = 11 ∧ jFi E mX11_farFrom d 0 0 [.ref a0, .int x2] S (fun r6 S5 => jk S5 a0 = 11 ∧ jFi E mX11_farFrom d 0 0 [.ref a0, .int x1] S5 (fun r9 S8 => (r9 ≤ r6 → L_X11_fresh_8 E d Q a0 x1 (x2 + 1) S8) ∧ (¬ r9 ≤ r6 → L_X11_fresh_8 E d Q a0 x2 (x2 + 1) S8))))) : L_X11_fresh_8 E d Q a0 x1 x2 S := by
  show jX E mX11_fresh (jRm (d + 1) 0 0) (jZm E (fun r S' => ∃ v : Int32, r = some (.int v) ∧ Q v S') 0 0) 8 [(0, .ref a0), (1, .int x1), (2, .int x2)] [] S 0 0
  refine jx_iload_n 2 dX11_fresh_8 rfl rfl ?_
  refine jx_bipush (v := 6) dX11_fresh_9 (by decide) ?_
  refine jx_icmp_ge (tgt := 39) dX11_fresh_11 (by decide) (fun c3 => ?_) (fun c3 => ?_)
  · replace h := h.1 c3
    refine jx_iload_n 1 dX11_fresh_39 rfl rfl ?_
    exact jx_iret dX11_fresh_40 rfl rfl (jle rfl) (jle rfl) ⟨_, rfl, h⟩
  replace h := h.2 c3
  refine jx_aload_n 0 dX11_fresh_14 rfl rfl ?_
  refine jx_iload_n 2 dX11_fresh_15 rfl rfl ?_
  obtain ⟨hk4, h⟩ := h
  refine jx_callVi (M' := mX11_farFrom) (As := [.int x2]) jo_X11_farFrom jc_11 rfl jwM_X11_211 jwN_X11_farFrom jwX_X11_farFrom dX11_fresh_16 (jRok_m _ _ _) rfl (jle rfl) ⟨jle rfl, jle rfl⟩ hk4 h (fun r6 S5 h => ?_)
  refine jx_aload_n 0 dX11_fresh_19 rfl rfl ?_
  refine jx_iload_n 1 dX11_fresh_20 rfl rfl ?_
  obtain ⟨hk7, h⟩ := h
  refine jx_callVi (M' := mX11_farFrom) (As := [.int x1]) jo_X11_farFrom jc_11 rfl jwM_X11_211 jwN_X11_farFrom jwX_X11_farFrom dX11_fresh_21 (jRok_m _ _ _) rfl (jle rfl) ⟨jle rfl, jle rfl⟩ hk7 h (fun r9 S8 h => ?_)
  refine jx_icmp_ge (tgt := 31) dX11_fresh_24 (by decide) (fun c10 => ?_) (fun c10 => ?_)
  · replace h := h.1 c10
    refine jx_iload_n 1 dX11_fresh_31 rfl rfl ?_
    refine jx_istore_n (lv1 := [(1, .int x1), (0, .ref a0), (2, .int x2)]) dX11_fresh_32 rfl (by decide) rfl ?_
    refine jx_iinc 2 (v := (x2 + 1)) (lv1 := [(2, .int (x2 + 1)), (1, .int x1), (0, .ref a0)]) dX11_fresh_33 rfl rfl (by decide) rfl ?_
    refine jx_goto (tgt := 8) dX11_fresh_36 (by decide) ?_
    exact jx_lv [2, 1, 0] rfl h
  replace h := h.2 c10
  refine jx_iload_n 2 dX11_fresh_27 rfl rfl ?_
  refine jx_goto (tgt := 32) dX11_fresh_28 (by decide) ?_
  refine jx_istore_n (lv1 := [(1, .int x2), (0, .ref a0), (2, .int x2)]) dX11_fresh_32 rfl (by decide) rfl ?_
  refine jx_iinc 2 (v := (x2 + 1)) (lv1 := [(2, .int (x2 + 1)), (1, .int x2), (0, .ref a0)]) dX11_fresh_33 rfl rfl (by decide) rfl ?_
  refine jx_goto (tgt := 8) dX11_fresh_36 (by decide) ?_
  exact jx_lv [2, 1, 0] rfl h
set_option maxRecDepth 100000 in
set_option maxHeartbeats 4000000 in
theorem T_X11_fame {E : jEnv} {d : Nat} {Q : Int32 → jM → Prop} {a0 : Nat} {x1 : Int32} {S : jM} (h : jk S a0 = 11 ∧ jFi E mX11_isMaster d 0 0 [.ref a0, .int x1] S (fun r3 S2 => (r3 = 0 → Q (-1000000001) S2) ∧ (¬ r3 = 0 → jk S2 a0 = 11 ∧ jFi E mX11_counts d 0 0 [.ref a0, .int 1] S2 (fun r7 S6 => (0 ≤ r7 → jk S6 a0 = 11 ∧ ∃ b10, jr S6 a0 30 = some b10 ∧ (jFi E mX11_of d 0 0 [.ref a0, .int x1, .int 4] S6 (fun r12 S11 => jk S11 b10 = 12 ∧ vp_in 102 (jl S11 b10) ∧ (jk S11 a0 = 11 ∧ ∃ b16, jr S11 a0 30 = some b16 ∧ (jFi E mX11_of d 0 0 [.ref a0, .int x1, .int 5] (jput S11 b10 (Int32.toNatClampNeg 102) r12) (fun r18 S17 => jk S17 b16 = 12 ∧ vp_in 97 (jl S17 b16) ∧ (jk S17 a0 = 11 ∧ jFi E mX11_worked d 0 0 [.ref a0, .int r7] (jput S17 b16 (Int32.toNatClampNeg 97) r18) (fun r23 S22 => Q r23 S22)))))))) ∧ (¬ 0 ≤ r7 → jk S6 a0 = 11 ∧ jFi E mX11_of d 0 0 [.ref a0, .int x1, .int 4] S6 (fun r26 S25 => Q r26 S25)))))) : jFi E mX11_fame (d + 1) 0 0 [.ref a0, .int x1] S Q := by
  refine jF_of (by decide) (jle rfl) ?_
  refine jx_lv (lv1 := [(0, .ref a0), (1, .int x1)]) [0, 1] rfl ?_
  refine jx_aload_n 0 dX11_fame_0 rfl rfl ?_
  refine jx_iload_n 1 dX11_fame_1 rfl rfl ?_
  obtain ⟨hk1, h⟩ := h
  refine jx_callVi (M' := mX11_isMaster) (As := [.int x1]) jo_X11_isMaster jc_11 rfl jwM_X11_111 jwN_X11_isMaster jwX_X11_isMaster dX11_fame_2 (jRok_m _ _ _) rfl (jle rfl) ⟨jle rfl, jle rfl⟩ hk1 h (fun r3 S2 h => ?_)
  refine jx_if_ne (tgt := 11) dX11_fame_5 (by decide) (fun c4 => ?_) (fun c4 => ?_)
  · replace h := h.2 c4
    refine jx_aload_n 0 dX11_fame_11 rfl rfl ?_
    refine jx_iconst (v := 1) dX11_fame_12 (by decide) ?_
    obtain ⟨hk5, h⟩ := h
    refine jx_callVi (M' := mX11_counts) (As := [.int 1]) jo_X11_counts jc_11 rfl jwM_X11_93 jwN_X11_counts jwX_X11_counts dX11_fame_13 (jRok_m _ _ _) rfl (jle rfl) ⟨jle rfl, jle rfl⟩ hk5 h (fun r7 S6 h => ?_)
    refine jx_istore_n (lv1 := [(2, .int r7), (0, .ref a0), (1, .int x1)]) dX11_fame_16 rfl (by decide) rfl ?_
    refine jx_iload_n 0 dX11_fame_17 rfl rfl ?_
    refine jx_if_ge (tgt := 28) dX11_fame_18 (by decide) (fun c8 => ?_) (fun c8 => ?_)
    · replace h := h.1 c8
      refine jx_aload_n 1 dX11_fame_28 rfl rfl ?_
      obtain ⟨hk9, h⟩ := h
      obtain ⟨b10, hb10, h⟩ := h
      refine jx_getr jc_11 (j := 30) (by decide) rfl jwF_X11_55 dX11_fame_29 hk9 hb10 ?_
      refine jx_bipush (v := 102) dX11_fame_32 (by decide) ?_
      refine jx_aload_n 1 dX11_fame_34 rfl rfl ?_
      refine jx_iload_n 2 dX11_fame_35 rfl rfl ?_
      refine jx_iconst (v := 4) dX11_fame_36 (by decide) ?_
      refine jx_callVi (M' := mX11_of) (As := [.int x1, .int 4]) jo_X11_of jc_11 rfl jwM_X11_97 jwN_X11_of jwX_X11_of dX11_fame_37 (jRok_m _ _ _) rfl (jle rfl) ⟨jle rfl, jle rfl⟩ hk9 h (fun r12 S11 h => ?_)
      obtain ⟨hk13, h⟩ := h
      obtain ⟨hi14, h⟩ := h
      refine jx_iast dX11_fame_40 hk13 hi14 ?_
      refine jx_aload_n 1 dX11_fame_41 rfl rfl ?_
      obtain ⟨hk15, h⟩ := h
      obtain ⟨b16, hb16, h⟩ := h
      refine jx_getr jc_11 (j := 30) (by decide) rfl jwF_X11_55 dX11_fame_42 hk15 hb16 ?_
      refine jx_bipush (v := 97) dX11_fame_45 (by decide) ?_
      refine jx_aload_n 1 dX11_fame_47 rfl rfl ?_
      refine jx_iload_n 2 dX11_fame_48 rfl rfl ?_
      refine jx_iconst (v := 5) dX11_fame_49 (by decide) ?_
      refine jx_callVi (M' := mX11_of) (As := [.int x1, .int 5]) jo_X11_of jc_11 rfl jwM_X11_97 jwN_X11_of jwX_X11_of dX11_fame_50 (jRok_m _ _ _) rfl (jle rfl) ⟨jle rfl, jle rfl⟩ hk15 h (fun r18 S17 h => ?_)
      obtain ⟨hk19, h⟩ := h
      obtain ⟨hi20, h⟩ := h
      refine jx_iast dX11_fame_53 hk19 hi20 ?_
      refine jx_aload_n 1 dX11_fame_54 rfl rfl ?_
      refine jx_iload_n 0 dX11_fame_55 rfl rfl ?_
      obtain ⟨hk21, h⟩ := h
      refine jx_callVi (M' := mX11_worked) (As := [.int r7]) jo_X11_worked jc_11 rfl jwM_X11_101 jwN_X11_worked jwX_X11_worked dX11_fame_56 (jRok_m _ _ _) rfl (jle rfl) ⟨jle rfl, jle rfl⟩ hk21 h (fun r23 S22 h => ?_)
      exact jx_iret dX11_fame_59 rfl rfl (jle rfl) (jle rfl) ⟨_, rfl, h⟩
    replace h := h.2 c8
    refine jx_aload_n 1 dX11_fame_21 rfl rfl ?_
    refine jx_iload_n 2 dX11_fame_22 rfl rfl ?_
    refine jx_iconst (v := 4) dX11_fame_23 (by decide) ?_
    obtain ⟨hk24, h⟩ := h
    refine jx_callVi (M' := mX11_of) (As := [.int x1, .int 4]) jo_X11_of jc_11 rfl jwM_X11_97 jwN_X11_of jwX_X11_of dX11_fame_24 (jRok_m _ _ _) rfl (jle rfl) ⟨jle rfl, jle rfl⟩ hk24 h (fun r26 S25 h => ?_)
    exact jx_iret dX11_fame_27 rfl rfl (jle rfl) (jle rfl) ⟨_, rfl, h⟩
  replace h := h.1 c4
  refine jx_ldc jwC_X11_87 dX11_fame_8 ?_
  exact jx_iret dX11_fame_10 rfl rfl (jle rfl) (jle rfl) ⟨_, rfl, h⟩
set_option maxRecDepth 100000 in
set_option maxHeartbeats 4000000 in
theorem T_X11_fine {E : jEnv} {d : Nat} {Q : Int32 → jM → Prop} {a0 : Nat} {S : jM} (h : jk S a0 = 11 ∧ jFi E mX11_counts d 0 0 [.ref a0, .int 2] S (fun r3 S2 => (0 ≤ r3 → jk S2 a0 = 11 ∧ ∃ b6, jr S2 a0 30 = some b6 ∧ (∃ b7, jr S2 a0 0 = some b7 ∧ (jk S2 b7 = 12 ∧ vp_in 5 (jl S2 b7) ∧ (jk S2 b6 = 12 ∧ vp_in 99 (jl S2 b6) ∧ (vp_in 2 (jl S2 b7) ∧ (vp_in 100 (jl S2 b6) ∧ (jFi E mX11_worked d 0 0 [.ref a0, .int r3] (jput (jput S2 b6 (Int32.toNatClampNeg 99) (ji S2 b7 (Int32.toNatClampNeg 5))) b6 (Int32.toNatClampNeg 100) (ji (jput S2 b6 (Int32.toNatClampNeg 99) (ji S2 b7 (Int32.toNatClampNeg 5))) b7 (Int32.toNatClampNeg 2))) (fun r15 S14 => Q r15 S14)))))))) ∧ (¬ 0 ≤ r3 → jk S2 a0 = 11 ∧ ∃ b17, jr S2 a0 0 = some b17 ∧ (jk S2 b17 = 12 ∧ vp_in 5 (jl S2 b17) ∧ (Q (ji S2 b17 (Int32.toNatClampNeg 5)) S2))))) : jFi E mX11_fine (d + 1) 0 0 [.ref a0] S Q := by
  refine jF_of (by decide) (jle rfl) ?_
  refine jx_lv (lv1 := [(0, .ref a0)]) [0] rfl ?_
  refine jx_aload_n 0 dX11_fine_0 rfl rfl ?_
  refine jx_iconst (v := 2) dX11_fine_1 (by decide) ?_
  obtain ⟨hk1, h⟩ := h
  refine jx_callVi (M' := mX11_counts) (As := [.int 2]) jo_X11_counts jc_11 rfl jwM_X11_93 jwN_X11_counts jwX_X11_counts dX11_fine_2 (jRok_m _ _ _) rfl (jle rfl) ⟨jle rfl, jle rfl⟩ hk1 h (fun r3 S2 h => ?_)
  refine jx_istore_n (lv1 := [(1, .int r3), (0, .ref a0)]) dX11_fine_5 rfl (by decide) rfl ?_
  refine jx_iload_n 0 dX11_fine_6 rfl rfl ?_
  refine jx_if_ge (tgt := 17) dX11_fine_7 (by decide) (fun c4 => ?_) (fun c4 => ?_)
  · replace h := h.1 c4
    refine jx_aload_n 1 dX11_fine_17 rfl rfl ?_
    obtain ⟨hk5, h⟩ := h
    obtain ⟨b6, hb6, h⟩ := h
    refine jx_getr jc_11 (j := 30) (by decide) rfl jwF_X11_55 dX11_fine_18 hk5 hb6 ?_
    refine jx_bipush (v := 99) dX11_fine_21 (by decide) ?_
    refine jx_aload_n 1 dX11_fine_23 rfl rfl ?_
    obtain ⟨b7, hb7, h⟩ := h
    refine jx_getr jc_11 (j := 0) (by decide) rfl jwF_X11_7 dX11_fine_24 hk5 hb7 ?_
    refine jx_iconst (v := 5) dX11_fine_27 (by decide) ?_
    obtain ⟨hk8, h⟩ := h
    obtain ⟨hi9, h⟩ := h
    refine jx_iald dX11_fine_28 hk8 hi9 ?_
    obtain ⟨hk10, h⟩ := h
    obtain ⟨hi11, h⟩ := h
    refine jx_iast dX11_fine_29 hk10 hi11 ?_
    refine jx_aload_n 1 dX11_fine_30 rfl rfl ?_
    refine jx_getr jc_11 (j := 30) (by decide) rfl jwF_X11_55 dX11_fine_31 hk5 hb6 ?_
    refine jx_bipush (v := 100) dX11_fine_34 (by decide) ?_
    refine jx_aload_n 1 dX11_fine_36 rfl rfl ?_
    refine jx_getr jc_11 (j := 0) (by decide) rfl jwF_X11_7 dX11_fine_37 hk5 hb7 ?_
    refine jx_iconst (v := 2) dX11_fine_40 (by decide) ?_
    obtain ⟨hi12, h⟩ := h
    refine jx_iald dX11_fine_41 hk8 hi12 ?_
    obtain ⟨hi13, h⟩ := h
    refine jx_iast dX11_fine_42 hk10 hi13 ?_
    refine jx_aload_n 1 dX11_fine_43 rfl rfl ?_
    refine jx_iload_n 0 dX11_fine_44 rfl rfl ?_
    refine jx_callVi (M' := mX11_worked) (As := [.int r3]) jo_X11_worked jc_11 rfl jwM_X11_101 jwN_X11_worked jwX_X11_worked dX11_fine_45 (jRok_m _ _ _) rfl (jle rfl) ⟨jle rfl, jle rfl⟩ hk5 h (fun r15 S14 h => ?_)
    exact jx_iret dX11_fine_48 rfl rfl (jle rfl) (jle rfl) ⟨_, rfl, h⟩
  replace h := h.2 c4
  refine jx_aload_n 1 dX11_fine_10 rfl rfl ?_
  obtain ⟨hk16, h⟩ := h
  obtain ⟨b17, hb17, h⟩ := h
  refine jx_getr jc_11 (j := 0) (by decide) rfl jwF_X11_7 dX11_fine_11 hk16 hb17 ?_
  refine jx_iconst (v := 5) dX11_fine_14 (by decide) ?_
  obtain ⟨hk18, h⟩ := h
  obtain ⟨hi19, h⟩ := h
  refine jx_iald dX11_fine_15 hk18 hi19 ?_
  exact jx_iret dX11_fine_16 rfl rfl (jle rfl) (jle rfl) ⟨_, rfl, h⟩
/-- X11_feed at its loop's head 18 -/
abbrev L_X11_feed_18 (E : jEnv) (d : Nat) (Q : Int32 → jM → Prop) (a0 : Nat) (x1 : Int32) (x2 : Int32) (x3 : Int32) (x4 : Int32) (S : jM) : Prop := jX E mX11_feed (jRm d 0 0) (jZm E (fun r S' => ∃ v : Int32, r = some (.int v) ∧ Q v S') 0 0) 18 [(0, .ref a0), (1, .int x1), (2, .int x2), (3, .int x3), (4, .int x4)] [] S 0 0
set_option maxRecDepth 100000 in
set_option maxHeartbeats 4000000 in
theorem T_X11_feed {E : jEnv} {d : Nat} {Q : Int32 → jM → Prop} {a0 : Nat} {x1 : Int32} {x2 : Int32} {x3 : Int32} {S : jM} (h : jk S a0 = 11 ∧ (((ji S a0 19) + 12) ≤ 96 → L_X11_feed_18 E d Q a0 x1 x2 x3 0 S) ∧ (¬ ((ji S a0 19) + 12) ≤ 96 → Q (-1000000003) S)) : jFi E mX11_feed d 0 0 [.ref a0, .int x1, .int x2, .int x3] S Q := by
  refine jF_of (by decide) (jle rfl) ?_
  refine jx_lv (lv1 := [(0, .ref a0), (1, .int x1), (2, .int x2), (3, .int x3)]) [0, 1, 2, 3] rfl ?_
  refine jx_aload_n 0 dX11_feed_0 rfl rfl ?_
  obtain ⟨hk1, h⟩ := h
  refine jx_geti jc_11 (j := 19) (by decide) rfl jwF_X11_214 dX11_feed_1 hk1 ?_
  refine jx_bipush (v := 12) dX11_feed_4 (by decide) ?_
  refine jx_iadd dX11_feed_6 ?_
  refine jx_bipush (v := 96) dX11_feed_7 (by decide) ?_
  refine jx_icmp_le (tgt := 15) dX11_feed_9 (by decide) (fun c2 => ?_) (fun c2 => ?_)
  · replace h := h.1 c2
    refine jx_iconst (v := 0) dX11_feed_15 (by decide) ?_
    refine jx_istore (lv1 := [(4, .int 0), (0, .ref a0), (1, .int x1), (2, .int x2), (3, .int x3)]) dX11_feed_16 (by decide) rfl ?_
    exact jx_lv [1, 2, 3, 4, 0] rfl h
  replace h := h.2 c2
  refine jx_ldc jwC_X11_88 dX11_feed_12 ?_
  exact jx_iret dX11_feed_14 rfl rfl (jle rfl) (jle rfl) ⟨_, rfl, h⟩
set_option maxRecDepth 100000 in
set_option maxHeartbeats 4000000 in
theorem T_X11_feed_18 {E : jEnv} {d : Nat} {Q : Int32 → jM → Prop} {a0 : Nat} {x1 : Int32} {x2 : Int32} {x3 : Int32} {x4 : Int32} {S : jM} (h : (12 ≤ x4 → jk S a0 = 11 ∧ Q (ji S a0 19) S) ∧ (¬ 12 ≤ x4 → (4 ≤ x4 → (8 ≤ x4 → jk S a0 = 11 ∧ ∃ b8, jr S a0 18 = some b8 ∧ (jk S b8 = 12 ∧ vp_in (ji S a0 19) (jl S b8) ∧ (L_X11_feed_18 E d Q a0 x1 x2 x3 (x4 + 1) (jput (jput S b8 (Int32.toNatClampNeg (ji S a0 19)) ((jshr x3 (24 - (8 * (jrem x4 4)))) &&& 255)) a0 19 ((ji S a0 19) + 1))))) ∧ (¬ 8 ≤ x4 → jk S a0 = 11 ∧ ∃ b12, jr S a0 18 = some b12 ∧ (jk S b12 = 12 ∧ vp_in (ji S a0 19) (jl S b12) ∧ (L_X11_feed_18 E d Q a0 x1 x2 x3 (x4 + 1) (jput (jput S b12 (Int32.toNatClampNeg (ji S a0 19)) ((jshr x2 (24 - (8 * (jrem x4 4)))) &&& 255)) a0 19 ((ji S a0 19) + 1)))))) ∧ (¬ 4 ≤ x4 → jk S a0 = 11 ∧ ∃ b16, jr S a0 18 = some b16 ∧ (jk S b16 = 12 ∧ vp_in (ji S a0 19) (jl S b16) ∧ (L_X11_feed_18 E d Q a0 x1 x2 x3 (x4 + 1) (jput (jput S b16 (Int32.toNatClampNeg (ji S a0 19)) ((jshr x1 (24 - (8 * (jrem x4 4)))) &&& 255)) a0 19 ((ji S a0 19) + 1))))))) : L_X11_feed_18 E d Q a0 x1 x2 x3 x4 S := by
  show jX E mX11_feed (jRm d 0 0) (jZm E (fun r S' => ∃ v : Int32, r = some (.int v) ∧ Q v S') 0 0) 18 [(0, .ref a0), (1, .int x1), (2, .int x2), (3, .int x3), (4, .int x4)] [] S 0 0
  refine jx_iload 4 dX11_feed_18 rfl ?_
  refine jx_bipush (v := 12) dX11_feed_20 (by decide) ?_
  refine jx_icmp_ge (tgt := 91) dX11_feed_22 (by decide) (fun c3 => ?_) (fun c3 => ?_)
  · replace h := h.1 c3
    refine jx_aload_n 0 dX11_feed_91 rfl rfl ?_
    obtain ⟨hk4, h⟩ := h
    refine jx_geti jc_11 (j := 19) (by decide) rfl jwF_X11_214 dX11_feed_92 hk4 ?_
    exact jx_iret dX11_feed_95 rfl rfl (jle rfl) (jle rfl) ⟨_, rfl, h⟩
  replace h := h.2 c3
  refine jx_iload 4 dX11_feed_25 rfl ?_
  refine jx_iconst (v := 4) dX11_feed_27 (by decide) ?_
  refine jx_icmp_ge (tgt := 35) dX11_feed_28 (by decide) (fun c5 => ?_) (fun c5 => ?_)
  · replace h := h.1 c5
    refine jx_iload 4 dX11_feed_35 rfl ?_
    refine jx_bipush (v := 8) dX11_feed_37 (by decide) ?_
    refine jx_icmp_ge (tgt := 46) dX11_feed_39 (by decide) (fun c6 => ?_) (fun c6 => ?_)
    · replace h := h.1 c6
      refine jx_iload_n 3 dX11_feed_46 rfl rfl ?_
      refine jx_istore (lv1 := [(5, .int x3), (0, .ref a0), (1, .int x1), (2, .int x2), (3, .int x3), (4, .int x4)]) dX11_feed_47 (by decide) rfl ?_
      refine jx_aload_n 1 dX11_feed_49 rfl rfl ?_
      obtain ⟨hk7, h⟩ := h
      obtain ⟨b8, hb8, h⟩ := h
      refine jx_getr jc_11 (j := 18) (by decide) rfl jwF_X11_52 dX11_feed_50 hk7 hb8 ?_
      refine jx_aload_n 1 dX11_feed_53 rfl rfl ?_
      refine jx_geti jc_11 (j := 19) (by decide) rfl jwF_X11_214 dX11_feed_54 hk7 ?_
      refine jx_iload 0 dX11_feed_57 rfl ?_
      refine jx_bipush (v := 24) dX11_feed_59 (by decide) ?_
      refine jx_bipush (v := 8) dX11_feed_61 (by decide) ?_
      refine jx_iload 5 dX11_feed_63 rfl ?_
      refine jx_iconst (v := 4) dX11_feed_65 (by decide) ?_
      refine jx_irem dX11_feed_66 (by decide) ?_
      refine jx_imul dX11_feed_67 ?_
      refine jx_isub dX11_feed_68 ?_
      refine jx_ishr dX11_feed_69 ?_
      refine jx_sipush (v := 255) dX11_feed_70 (by decide) ?_
      refine jx_iand dX11_feed_73 ?_
      obtain ⟨hk9, h⟩ := h
      obtain ⟨hi10, h⟩ := h
      refine jx_iast dX11_feed_74 hk9 hi10 ?_
      refine jx_aload_n 1 dX11_feed_75 rfl rfl ?_
      refine jx_dup dX11_feed_76 rfl ?_
      refine jx_geti jc_11 (j := 19) (by decide) rfl jwF_X11_214 dX11_feed_77 hk7 ?_
      refine jx_topi (y := (ji S a0 19)) (by simp [ji_put, ji_row, ji_putr, jne hk7 hk9 (by decide)]) ?_
      refine jx_iconst (v := 1) dX11_feed_80 (by decide) ?_
      refine jx_iadd dX11_feed_81 ?_
      refine jx_puti jc_11 (j := 19) (by decide) rfl jwF_X11_214 rfl rfl rfl dX11_feed_82 hk7 ?_
      refine jx_iinc 5 (v := (x4 + 1)) (lv1 := [(4, .int (x4 + 1)), (5, .int x3), (0, .ref a0), (1, .int x1), (2, .int x2), (3, .int x3)]) dX11_feed_85 rfl rfl (by decide) rfl ?_
      refine jx_goto (tgt := 18) dX11_feed_88 (by decide) ?_
      exact jx_lv [2, 3, 4, 5, 0] rfl h
    replace h := h.2 c6
    refine jx_iload_n 2 dX11_feed_42 rfl rfl ?_
    refine jx_goto (tgt := 47) dX11_feed_43 (by decide) ?_
    refine jx_istore (lv1 := [(5, .int x2), (0, .ref a0), (1, .int x1), (2, .int x2), (3, .int x3), (4, .int x4)]) dX11_feed_47 (by decide) rfl ?_
    refine jx_aload_n 1 dX11_feed_49 rfl rfl ?_
    obtain ⟨hk11, h⟩ := h
    obtain ⟨b12, hb12, h⟩ := h
    refine jx_getr jc_11 (j := 18) (by decide) rfl jwF_X11_52 dX11_feed_50 hk11 hb12 ?_
    refine jx_aload_n 1 dX11_feed_53 rfl rfl ?_
    refine jx_geti jc_11 (j := 19) (by decide) rfl jwF_X11_214 dX11_feed_54 hk11 ?_
    refine jx_iload 0 dX11_feed_57 rfl ?_
    refine jx_bipush (v := 24) dX11_feed_59 (by decide) ?_
    refine jx_bipush (v := 8) dX11_feed_61 (by decide) ?_
    refine jx_iload 5 dX11_feed_63 rfl ?_
    refine jx_iconst (v := 4) dX11_feed_65 (by decide) ?_
    refine jx_irem dX11_feed_66 (by decide) ?_
    refine jx_imul dX11_feed_67 ?_
    refine jx_isub dX11_feed_68 ?_
    refine jx_ishr dX11_feed_69 ?_
    refine jx_sipush (v := 255) dX11_feed_70 (by decide) ?_
    refine jx_iand dX11_feed_73 ?_
    obtain ⟨hk13, h⟩ := h
    obtain ⟨hi14, h⟩ := h
    refine jx_iast dX11_feed_74 hk13 hi14 ?_
    refine jx_aload_n 1 dX11_feed_75 rfl rfl ?_
    refine jx_dup dX11_feed_76 rfl ?_
    refine jx_geti jc_11 (j := 19) (by decide) rfl jwF_X11_214 dX11_feed_77 hk11 ?_
    refine jx_topi (y := (ji S a0 19)) (by simp [ji_put, ji_row, ji_putr, jne hk11 hk13 (by decide)]) ?_
    refine jx_iconst (v := 1) dX11_feed_80 (by decide) ?_
    refine jx_iadd dX11_feed_81 ?_
    refine jx_puti jc_11 (j := 19) (by decide) rfl jwF_X11_214 rfl rfl rfl dX11_feed_82 hk11 ?_
    refine jx_iinc 5 (v := (x4 + 1)) (lv1 := [(4, .int (x4 + 1)), (5, .int x2), (0, .ref a0), (1, .int x1), (2, .int x2), (3, .int x3)]) dX11_feed_85 rfl rfl (by decide) rfl ?_
    refine jx_goto (tgt := 18) dX11_feed_88 (by decide) ?_
    exact jx_lv [2, 3, 4, 5, 0] rfl h
  replace h := h.2 c5
  refine jx_iload_n 1 dX11_feed_31 rfl rfl ?_
  refine jx_goto (tgt := 47) dX11_feed_32 (by decide) ?_
  refine jx_istore (lv1 := [(5, .int x1), (0, .ref a0), (1, .int x1), (2, .int x2), (3, .int x3), (4, .int x4)]) dX11_feed_47 (by decide) rfl ?_
  refine jx_aload_n 1 dX11_feed_49 rfl rfl ?_
  obtain ⟨hk15, h⟩ := h
  obtain ⟨b16, hb16, h⟩ := h
  refine jx_getr jc_11 (j := 18) (by decide) rfl jwF_X11_52 dX11_feed_50 hk15 hb16 ?_
  refine jx_aload_n 1 dX11_feed_53 rfl rfl ?_
  refine jx_geti jc_11 (j := 19) (by decide) rfl jwF_X11_214 dX11_feed_54 hk15 ?_
  refine jx_iload 0 dX11_feed_57 rfl ?_
  refine jx_bipush (v := 24) dX11_feed_59 (by decide) ?_
  refine jx_bipush (v := 8) dX11_feed_61 (by decide) ?_
  refine jx_iload 5 dX11_feed_63 rfl ?_
  refine jx_iconst (v := 4) dX11_feed_65 (by decide) ?_
  refine jx_irem dX11_feed_66 (by decide) ?_
  refine jx_imul dX11_feed_67 ?_
  refine jx_isub dX11_feed_68 ?_
  refine jx_ishr dX11_feed_69 ?_
  refine jx_sipush (v := 255) dX11_feed_70 (by decide) ?_
  refine jx_iand dX11_feed_73 ?_
  obtain ⟨hk17, h⟩ := h
  obtain ⟨hi18, h⟩ := h
  refine jx_iast dX11_feed_74 hk17 hi18 ?_
  refine jx_aload_n 1 dX11_feed_75 rfl rfl ?_
  refine jx_dup dX11_feed_76 rfl ?_
  refine jx_geti jc_11 (j := 19) (by decide) rfl jwF_X11_214 dX11_feed_77 hk15 ?_
  refine jx_topi (y := (ji S a0 19)) (by simp [ji_put, ji_row, ji_putr, jne hk15 hk17 (by decide)]) ?_
  refine jx_iconst (v := 1) dX11_feed_80 (by decide) ?_
  refine jx_iadd dX11_feed_81 ?_
  refine jx_puti jc_11 (j := 19) (by decide) rfl jwF_X11_214 rfl rfl rfl dX11_feed_82 hk15 ?_
  refine jx_iinc 5 (v := (x4 + 1)) (lv1 := [(4, .int (x4 + 1)), (5, .int x1), (0, .ref a0), (1, .int x1), (2, .int x2), (3, .int x3)]) dX11_feed_85 rfl rfl (by decide) rfl ?_
  refine jx_goto (tgt := 18) dX11_feed_88 (by decide) ?_
  exact jx_lv [2, 3, 4, 5, 0] rfl h
set_option maxRecDepth 100000 in
set_option maxHeartbeats 4000000 in
theorem T_X11_trim {E : jEnv} {d : Nat} {Q : Int32 → jM → Prop} {a0 : Nat} {x1 : Int32} {S : jM} (h : jk S a0 = 11 ∧ ((jisin (Int32.toInt64 x1) 0 (Int32.toInt64 (ji S a0 19))) = 0 → Q (-1000000001) S) ∧ (¬ (jisin (Int32.toInt64 x1) 0 (Int32.toInt64 (ji S a0 19))) = 0 → Q x1 (jput S a0 19 x1))) : jFi E mX11_trim (d + 1) 0 0 [.ref a0, .int x1] S Q := by
  refine jF_of (by decide) (jle rfl) ?_
  refine jx_lv (lv1 := [(0, .ref a0), (1, .int x1)]) [0, 1] rfl ?_
  refine jx_iload_n 1 dX11_trim_0 rfl rfl ?_
  refine jx_i2l dX11_trim_1 ?_
  refine jx_lconst (v := 0) dX11_trim_2 (by decide) ?_
  refine jx_aload_n 0 dX11_trim_3 rfl rfl ?_
  obtain ⟨hk1, h⟩ := h
  refine jx_geti jc_11 (j := 19) (by decide) rfl jwF_X11_214 dX11_trim_4 hk1 ?_
  refine jx_i2l dX11_trim_7 ?_
  refine jx_callSi (M' := mX11_isIn) (As := [.long (Int32.toInt64 x1), .long 0, .long (Int32.toInt64 (ji S a0 19))]) jo_X11_isIn jwM_X11_71 jwS_X11_isIn dX11_trim_8 (jRok_m _ _ _) rfl (jle rfl) ⟨jle rfl, jle rfl⟩ (c_X11_isIn (Q := fun v S' => v = (jisin (Int32.toInt64 x1) 0 (Int32.toInt64 (ji S a0 19))) ∧ S = S') ⟨rfl, rfl⟩) (fun r2 S3 hq4 => ?_)
  obtain ⟨rfl, rfl⟩ := hq4
  refine jx_if_ne (tgt := 17) dX11_trim_11 (by decide) (fun c5 => ?_) (fun c5 => ?_)
  · replace h := h.2 c5
    refine jx_aload_n 0 dX11_trim_17 rfl rfl ?_
    refine jx_iload_n 1 dX11_trim_18 rfl rfl ?_
    refine jx_puti jc_11 (j := 19) (by decide) rfl jwF_X11_214 rfl rfl rfl dX11_trim_19 hk1 ?_
    refine jx_iload_n 1 dX11_trim_22 rfl rfl ?_
    exact jx_iret dX11_trim_23 rfl rfl (jle rfl) (jle rfl) ⟨_, rfl, h⟩
  replace h := h.1 c5
  refine jx_ldc jwC_X11_87 dX11_trim_14 ?_
  exact jx_iret dX11_trim_16 rfl rfl (jle rfl) (jle rfl) ⟨_, rfl, h⟩
set_option maxRecDepth 100000 in
set_option maxHeartbeats 4000000 in
theorem T_X11_isLetter {E : jEnv} {d : Nat} {Q : Int32 → jM → Prop} {a0 : Nat} {x1 : Int32} {S : jM} (h : jk S a0 = 11 ∧ ((ji S a0 19) ≤ x1 → Q 0 S) ∧ (¬ (ji S a0 19) ≤ x1 → ∃ b3, jr S a0 18 = some b3 ∧ (jk S b3 = 12 ∧ vp_in x1 (jl S b3) ∧ (((jisin (Int32.toInt64 (ji S b3 (Int32.toNatClampNeg x1))) 97 122) = 0 → Q 0 S) ∧ (¬ (jisin (Int32.toInt64 (ji S b3 (Int32.toNatClampNeg x1))) 97 122) = 0 → Q 1 S))))) : jFi E mX11_isLetter (d + 1) 0 0 [.ref a0, .int x1] S Q := by
  refine jF_of (by decide) (jle rfl) ?_
  refine jx_lv (lv1 := [(0, .ref a0), (1, .int x1)]) [0, 1] rfl ?_
  refine jx_iload_n 1 dX11_isLetter_0 rfl rfl ?_
  refine jx_aload_n 0 dX11_isLetter_1 rfl rfl ?_
  obtain ⟨hk1, h⟩ := h
  refine jx_geti jc_11 (j := 19) (by decide) rfl jwF_X11_214 dX11_isLetter_2 hk1 ?_
  refine jx_icmp_ge (tgt := 31) dX11_isLetter_5 (by decide) (fun c2 => ?_) (fun c2 => ?_)
  · replace h := h.1 c2
    refine jx_iconst (v := 0) dX11_isLetter_31 (by decide) ?_
    exact jx_iret dX11_isLetter_32 rfl (by decide) (jle rfl) (jle rfl) ⟨_, rfl, h⟩
  replace h := h.2 c2
  refine jx_aload_n 0 dX11_isLetter_8 rfl rfl ?_
  obtain ⟨b3, hb3, h⟩ := h
  refine jx_getr jc_11 (j := 18) (by decide) rfl jwF_X11_52 dX11_isLetter_9 hk1 hb3 ?_
  refine jx_iload_n 1 dX11_isLetter_12 rfl rfl ?_
  obtain ⟨hk4, h⟩ := h
  obtain ⟨hi5, h⟩ := h
  refine jx_iald dX11_isLetter_13 hk4 hi5 ?_
  refine jx_i2l dX11_isLetter_14 ?_
  refine jx_ldc2 jwL_X11_217 dX11_isLetter_15 ?_
  refine jx_ldc2 jwL_X11_219 dX11_isLetter_18 ?_
  refine jx_callSi (M' := mX11_isIn) (As := [.long (Int32.toInt64 (ji S b3 (Int32.toNatClampNeg x1))), .long 97, .long 122]) jo_X11_isIn jwM_X11_71 jwS_X11_isIn dX11_isLetter_21 (jRok_m _ _ _) rfl (jle rfl) ⟨jle rfl, jle rfl⟩ (c_X11_isIn (Q := fun v S' => v = (jisin (Int32.toInt64 (ji S b3 (Int32.toNatClampNeg x1))) 97 122) ∧ S = S') ⟨rfl, rfl⟩) (fun r6 S7 hq8 => ?_)
  obtain ⟨rfl, rfl⟩ := hq8
  refine jx_if_eq (tgt := 31) dX11_isLetter_24 (by decide) (fun c9 => ?_) (fun c9 => ?_)
  · replace h := h.1 c9
    refine jx_iconst (v := 0) dX11_isLetter_31 (by decide) ?_
    exact jx_iret dX11_isLetter_32 rfl (by decide) (jle rfl) (jle rfl) ⟨_, rfl, h⟩
  replace h := h.2 c9
  refine jx_iconst (v := 1) dX11_isLetter_27 (by decide) ?_
  refine jx_goto (tgt := 32) dX11_isLetter_28 (by decide) ?_
  exact jx_iret dX11_isLetter_32 rfl (by decide) (jle rfl) (jle rfl) ⟨_, rfl, h⟩
set_option maxRecDepth 100000 in
set_option maxHeartbeats 4000000 in
theorem T_X11_isDigit {E : jEnv} {d : Nat} {Q : Int32 → jM → Prop} {a0 : Nat} {x1 : Int32} {S : jM} (h : jk S a0 = 11 ∧ ((ji S a0 19) ≤ x1 → Q 0 S) ∧ (¬ (ji S a0 19) ≤ x1 → ∃ b3, jr S a0 18 = some b3 ∧ (jk S b3 = 12 ∧ vp_in x1 (jl S b3) ∧ (((jisin (Int32.toInt64 (ji S b3 (Int32.toNatClampNeg x1))) 48 57) = 0 → Q 0 S) ∧ (¬ (jisin (Int32.toInt64 (ji S b3 (Int32.toNatClampNeg x1))) 48 57) = 0 → Q 1 S))))) : jFi E mX11_isDigit (d + 1) 0 0 [.ref a0, .int x1] S Q := by
  refine jF_of (by decide) (jle rfl) ?_
  refine jx_lv (lv1 := [(0, .ref a0), (1, .int x1)]) [0, 1] rfl ?_
  refine jx_iload_n 1 dX11_isDigit_0 rfl rfl ?_
  refine jx_aload_n 0 dX11_isDigit_1 rfl rfl ?_
  obtain ⟨hk1, h⟩ := h
  refine jx_geti jc_11 (j := 19) (by decide) rfl jwF_X11_214 dX11_isDigit_2 hk1 ?_
  refine jx_icmp_ge (tgt := 31) dX11_isDigit_5 (by decide) (fun c2 => ?_) (fun c2 => ?_)
  · replace h := h.1 c2
    refine jx_iconst (v := 0) dX11_isDigit_31 (by decide) ?_
    exact jx_iret dX11_isDigit_32 rfl (by decide) (jle rfl) (jle rfl) ⟨_, rfl, h⟩
  replace h := h.2 c2
  refine jx_aload_n 0 dX11_isDigit_8 rfl rfl ?_
  obtain ⟨b3, hb3, h⟩ := h
  refine jx_getr jc_11 (j := 18) (by decide) rfl jwF_X11_52 dX11_isDigit_9 hk1 hb3 ?_
  refine jx_iload_n 1 dX11_isDigit_12 rfl rfl ?_
  obtain ⟨hk4, h⟩ := h
  obtain ⟨hi5, h⟩ := h
  refine jx_iald dX11_isDigit_13 hk4 hi5 ?_
  refine jx_i2l dX11_isDigit_14 ?_
  refine jx_ldc2 jwL_X11_221 dX11_isDigit_15 ?_
  refine jx_ldc2 jwL_X11_223 dX11_isDigit_18 ?_
  refine jx_callSi (M' := mX11_isIn) (As := [.long (Int32.toInt64 (ji S b3 (Int32.toNatClampNeg x1))), .long 48, .long 57]) jo_X11_isIn jwM_X11_71 jwS_X11_isIn dX11_isDigit_21 (jRok_m _ _ _) rfl (jle rfl) ⟨jle rfl, jle rfl⟩ (c_X11_isIn (Q := fun v S' => v = (jisin (Int32.toInt64 (ji S b3 (Int32.toNatClampNeg x1))) 48 57) ∧ S = S') ⟨rfl, rfl⟩) (fun r6 S7 hq8 => ?_)
  obtain ⟨rfl, rfl⟩ := hq8
  refine jx_if_eq (tgt := 31) dX11_isDigit_24 (by decide) (fun c9 => ?_) (fun c9 => ?_)
  · replace h := h.1 c9
    refine jx_iconst (v := 0) dX11_isDigit_31 (by decide) ?_
    exact jx_iret dX11_isDigit_32 rfl (by decide) (jle rfl) (jle rfl) ⟨_, rfl, h⟩
  replace h := h.2 c9
  refine jx_iconst (v := 1) dX11_isDigit_27 (by decide) ?_
  refine jx_goto (tgt := 32) dX11_isDigit_28 (by decide) ?_
  exact jx_iret dX11_isDigit_32 rfl (by decide) (jle rfl) (jle rfl) ⟨_, rfl, h⟩
/-- X11_nextToken at its loop's head 34 -/
abbrev L_X11_nextToken_34 (E : jEnv) (d : Nat) (Q : jM → Prop) (a0 : Nat) (x1 : Int32) (x2 : Int32) (S : jM) : Prop := jX E mX11_nextToken (jRm (d + 1) 0 0) (jZm E (fun r S' => r = none ∧ Q S') 0 0) 34 [(0, .ref a0), (1, .int x1), (2, .int x2)] [] S 0 0
/-- X11_nextToken at its loop's head 214 -/
abbrev L_X11_nextToken_214 (E : jEnv) (d : Nat) (Q : jM → Prop) (a0 : Nat) (x1 : Int32) (S : jM) : Prop := jX E mX11_nextToken (jRm (d + 1) 0 0) (jZm E (fun r S' => r = none ∧ Q S') 0 0) 214 [(0, .ref a0), (1, .int x1)] [] S 0 0
/-- X11_nextToken at its loop's head 128 -/
abbrev L_X11_nextToken_128 (E : jEnv) (d : Nat) (Q : jM → Prop) (a0 : Nat) (x1 : Int32) (S : jM) : Prop := jX E mX11_nextToken (jRm (d + 1) 0 0) (jZm E (fun r S' => r = none ∧ Q S') 0 0) 128 [(0, .ref a0), (1, .int x1)] [] S 0 0
set_option maxRecDepth 100000 in
set_option maxHeartbeats 4000000 in
theorem T_X11_nextToken {E : jEnv} {d : Nat} {Q : jM → Prop} {a0 : Nat} {S : jM} (h : jk S a0 = 11 ∧ ((ji S a0 21) ≤ 0 → L_X11_nextToken_34 E d Q a0 0 (ji S a0 21) S) ∧ (¬ (ji S a0 21) ≤ 0 → ((ji S a0 22) = 1 → L_X11_nextToken_34 E d Q a0 1 (ji S a0 21) S) ∧ (¬ (ji S a0 22) = 1 → ((ji S a0 22) = 2 → L_X11_nextToken_34 E d Q a0 1 (ji S a0 21) S) ∧ (¬ (ji S a0 22) = 2 → L_X11_nextToken_34 E d Q a0 0 (ji S a0 21) S)))) : jFv E mX11_nextToken (d + 1) 0 0 [.ref a0] S Q := by
  refine jF_of (by decide) (jle rfl) ?_
  refine jx_lv (lv1 := [(0, .ref a0)]) [0] rfl ?_
  refine jx_aload_n 0 dX11_nextToken_0 rfl rfl ?_
  obtain ⟨hk1, h⟩ := h
  refine jx_geti jc_11 (j := 21) (by decide) rfl jwF_X11_225 dX11_nextToken_1 hk1 ?_
  refine jx_if_le (tgt := 27) dX11_nextToken_4 (by decide) (fun c2 => ?_) (fun c2 => ?_)
  · replace h := h.1 c2
    refine jx_iconst (v := 0) dX11_nextToken_27 (by decide) ?_
    refine jx_istore_n (lv1 := [(1, .int 0), (0, .ref a0)]) dX11_nextToken_28 rfl (by decide) rfl ?_
    refine jx_aload_n 1 dX11_nextToken_29 rfl rfl ?_
    refine jx_geti jc_11 (j := 21) (by decide) rfl jwF_X11_225 dX11_nextToken_30 hk1 ?_
    refine jx_istore_n (lv1 := [(2, .int (ji S a0 21)), (1, .int 0), (0, .ref a0)]) dX11_nextToken_33 rfl (by decide) rfl ?_
    exact jx_lv [2, 1, 0] rfl h
  replace h := h.2 c2
  refine jx_aload_n 0 dX11_nextToken_7 rfl rfl ?_
  refine jx_geti jc_11 (j := 22) (by decide) rfl jwF_X11_228 dX11_nextToken_8 hk1 ?_
  refine jx_iconst (v := 1) dX11_nextToken_11 (by decide) ?_
  refine jx_icmp_eq (tgt := 23) dX11_nextToken_12 (by decide) (fun c3 => ?_) (fun c3 => ?_)
  · replace h := h.1 c3
    refine jx_iconst (v := 1) dX11_nextToken_23 (by decide) ?_
    refine jx_goto (tgt := 28) dX11_nextToken_24 (by decide) ?_
    refine jx_istore_n (lv1 := [(1, .int 1), (0, .ref a0)]) dX11_nextToken_28 rfl (by decide) rfl ?_
    refine jx_aload_n 1 dX11_nextToken_29 rfl rfl ?_
    refine jx_geti jc_11 (j := 21) (by decide) rfl jwF_X11_225 dX11_nextToken_30 hk1 ?_
    refine jx_istore_n (lv1 := [(2, .int (ji S a0 21)), (1, .int 1), (0, .ref a0)]) dX11_nextToken_33 rfl (by decide) rfl ?_
    exact jx_lv [2, 1, 0] rfl h
  replace h := h.2 c3
  refine jx_aload_n 0 dX11_nextToken_15 rfl rfl ?_
  refine jx_geti jc_11 (j := 22) (by decide) rfl jwF_X11_228 dX11_nextToken_16 hk1 ?_
  refine jx_iconst (v := 2) dX11_nextToken_19 (by decide) ?_
  refine jx_icmp_ne (tgt := 27) dX11_nextToken_20 (by decide) (fun c4 => ?_) (fun c4 => ?_)
  · replace h := h.2 c4
    refine jx_iconst (v := 0) dX11_nextToken_27 (by decide) ?_
    refine jx_istore_n (lv1 := [(1, .int 0), (0, .ref a0)]) dX11_nextToken_28 rfl (by decide) rfl ?_
    refine jx_aload_n 1 dX11_nextToken_29 rfl rfl ?_
    refine jx_geti jc_11 (j := 21) (by decide) rfl jwF_X11_225 dX11_nextToken_30 hk1 ?_
    refine jx_istore_n (lv1 := [(2, .int (ji S a0 21)), (1, .int 0), (0, .ref a0)]) dX11_nextToken_33 rfl (by decide) rfl ?_
    exact jx_lv [2, 1, 0] rfl h
  replace h := h.1 c4
  refine jx_iconst (v := 1) dX11_nextToken_23 (by decide) ?_
  refine jx_goto (tgt := 28) dX11_nextToken_24 (by decide) ?_
  refine jx_istore_n (lv1 := [(1, .int 1), (0, .ref a0)]) dX11_nextToken_28 rfl (by decide) rfl ?_
  refine jx_aload_n 1 dX11_nextToken_29 rfl rfl ?_
  refine jx_geti jc_11 (j := 21) (by decide) rfl jwF_X11_225 dX11_nextToken_30 hk1 ?_
  refine jx_istore_n (lv1 := [(2, .int (ji S a0 21)), (1, .int 1), (0, .ref a0)]) dX11_nextToken_33 rfl (by decide) rfl ?_
  exact jx_lv [2, 1, 0] rfl h
set_option maxRecDepth 100000 in
set_option maxHeartbeats 4000000 in
theorem T_X11_nextToken_34 {E : jEnv} {d : Nat} {Q : jM → Prop} {a0 : Nat} {x1 : Int32} {x2 : Int32} {S : jM} (h : jk S a0 = 11 ∧ ((ji S a0 19) ≤ (ji S a0 21) → (x1 = 0 → ((ji S a0 21) = (ji S a0 19) → Q (jput (jput S a0 20 (ji S a0 21)) a0 22 0)) ∧ (¬ (ji S a0 21) = (ji S a0 19) → jFi E mX11_isLetter d 0 0 [.ref a0, .int (ji S a0 21)] (jput S a0 20 (ji S a0 21)) (fun r10 S9 => (r10 = 0 → jk S9 a0 = 11 ∧ jFi E mX11_isDigit d 0 0 [.ref a0, .int (ji S9 a0 20)] S9 (fun r14 S13 => (r14 = 0 → jk S13 a0 = 11 ∧ ∃ b17, jr S13 a0 18 = some b17 ∧ (jk S13 b17 = 12 ∧ vp_in (ji S13 a0 20) (jl S13 b17) ∧ (Q (jput (jput (jput S13 a0 22 3) a0 24 (ji S13 b17 (Int32.toNatClampNeg (ji S13 a0 20)))) a0 21 ((ji S13 a0 21) + 1))))) ∧ (¬ r14 = 0 → jk S13 a0 = 11 ∧ L_X11_nextToken_214 E d Q a0 0 (jput S13 a0 23 0)))) ∧ (¬ r10 = 0 → L_X11_nextToken_128 E d Q a0 0 S9)))) ∧ (¬ x1 = 0 → (x2 = (ji S a0 21) → ((ji S a0 21) = (ji S a0 19) → Q (jput (jput S a0 20 (ji S a0 21)) a0 22 0)) ∧ (¬ (ji S a0 21) = (ji S a0 19) → jFi E mX11_isLetter d 0 0 [.ref a0, .int (ji S a0 21)] (jput S a0 20 (ji S a0 21)) (fun r37 S36 => (r37 = 0 → jk S36 a0 = 11 ∧ jFi E mX11_isDigit d 0 0 [.ref a0, .int (ji S36 a0 20)] S36 (fun r41 S40 => (r41 = 0 → jk S40 a0 = 11 ∧ ∃ b44, jr S40 a0 18 = some b44 ∧ (jk S40 b44 = 12 ∧ vp_in (ji S40 a0 20) (jl S40 b44) ∧ (Q (jput (jput (jput S40 a0 22 3) a0 24 (ji S40 b44 (Int32.toNatClampNeg (ji S40 a0 20)))) a0 21 ((ji S40 a0 21) + 1))))) ∧ (¬ r41 = 0 → jk S40 a0 = 11 ∧ L_X11_nextToken_214 E d Q a0 1 (jput S40 a0 23 0)))) ∧ (¬ r37 = 0 → L_X11_nextToken_128 E d Q a0 1 S36)))) ∧ (¬ x2 = (ji S a0 21) → ((ji S a0 21) = (ji S a0 19) → Q (jput (jput S a0 20 (ji S a0 21)) a0 22 0)) ∧ (¬ (ji S a0 21) = (ji S a0 19) → jFi E mX11_isLetter d 0 0 [.ref a0, .int (ji S a0 21)] (jput S a0 20 (ji S a0 21)) (fun r24 S23 => (r24 = 0 → jk S23 a0 = 11 ∧ jFi E mX11_isDigit d 0 0 [.ref a0, .int (ji S23 a0 20)] S23 (fun r28 S27 => (r28 = 0 → jk S27 a0 = 11 ∧ ∃ b31, jr S27 a0 18 = some b31 ∧ (jk S27 b31 = 12 ∧ vp_in (ji S27 a0 20) (jl S27 b31) ∧ (Q (jput (jput (jput S27 a0 22 3) a0 24 (ji S27 b31 (Int32.toNatClampNeg (ji S27 a0 20)))) a0 21 ((ji S27 a0 21) + 1))))) ∧ (¬ r28 = 0 → jk S27 a0 = 11 ∧ L_X11_nextToken_214 E d Q a0 0 (jput S27 a0 23 0)))) ∧ (¬ r24 = 0 → L_X11_nextToken_128 E d Q a0 0 S23)))))) ∧ (¬ (ji S a0 19) ≤ (ji S a0 21) → ∃ b48, jr S a0 18 = some b48 ∧ (jk S b48 = 12 ∧ vp_in (ji S a0 21) (jl S b48) ∧ (((ji S b48 (Int32.toNatClampNeg (ji S a0 21))) = 32 → L_X11_nextToken_34 E d Q a0 x1 x2 (jput S a0 21 ((ji S a0 21) + 1))) ∧ (¬ (ji S b48 (Int32.toNatClampNeg (ji S a0 21))) = 32 → (x1 = 0 → ((ji S a0 21) = (ji S a0 19) → Q (jput (jput S a0 20 (ji S a0 21)) a0 22 0)) ∧ (¬ (ji S a0 21) = (ji S a0 19) → jFi E mX11_isLetter d 0 0 [.ref a0, .int (ji S a0 21)] (jput S a0 20 (ji S a0 21)) (fun r55 S54 => (r55 = 0 → jk S54 a0 = 11 ∧ jFi E mX11_isDigit d 0 0 [.ref a0, .int (ji S54 a0 20)] S54 (fun r59 S58 => (r59 = 0 → jk S58 a0 = 11 ∧ ∃ b62, jr S58 a0 18 = some b62 ∧ (jk S58 b62 = 12 ∧ vp_in (ji S58 a0 20) (jl S58 b62) ∧ (Q (jput (jput (jput S58 a0 22 3) a0 24 (ji S58 b62 (Int32.toNatClampNeg (ji S58 a0 20)))) a0 21 ((ji S58 a0 21) + 1))))) ∧ (¬ r59 = 0 → jk S58 a0 = 11 ∧ L_X11_nextToken_214 E d Q a0 0 (jput S58 a0 23 0)))) ∧ (¬ r55 = 0 → L_X11_nextToken_128 E d Q a0 0 S54)))) ∧ (¬ x1 = 0 → (x2 = (ji S a0 21) → ((ji S a0 21) = (ji S a0 19) → Q (jput (jput S a0 20 (ji S a0 21)) a0 22 0)) ∧ (¬ (ji S a0 21) = (ji S a0 19) → jFi E mX11_isLetter d 0 0 [.ref a0, .int (ji S a0 21)] (jput S a0 20 (ji S a0 21)) (fun r82 S81 => (r82 = 0 → jk S81 a0 = 11 ∧ jFi E mX11_isDigit d 0 0 [.ref a0, .int (ji S81 a0 20)] S81 (fun r86 S85 => (r86 = 0 → jk S85 a0 = 11 ∧ ∃ b89, jr S85 a0 18 = some b89 ∧ (jk S85 b89 = 12 ∧ vp_in (ji S85 a0 20) (jl S85 b89) ∧ (Q (jput (jput (jput S85 a0 22 3) a0 24 (ji S85 b89 (Int32.toNatClampNeg (ji S85 a0 20)))) a0 21 ((ji S85 a0 21) + 1))))) ∧ (¬ r86 = 0 → jk S85 a0 = 11 ∧ L_X11_nextToken_214 E d Q a0 1 (jput S85 a0 23 0)))) ∧ (¬ r82 = 0 → L_X11_nextToken_128 E d Q a0 1 S81)))) ∧ (¬ x2 = (ji S a0 21) → ((ji S a0 21) = (ji S a0 19) → Q (jput (jput S a0 20 (ji S a0 21)) a0 22 0)) ∧ (¬ (ji S a0 21) = (ji S a0 19) → jFi E mX11_isLetter d 0 0 [.ref a0, .int (ji S a0 21)] (jput S a0 20 (ji S a0 21)) (fun r69 S68 => (r69 = 0 → jk S68 a0 = 11 ∧ jFi E mX11_isDigit d 0 0 [.ref a0, .int (ji S68 a0 20)] S68 (fun r73 S72 => (r73 = 0 → jk S72 a0 = 11 ∧ ∃ b76, jr S72 a0 18 = some b76 ∧ (jk S72 b76 = 12 ∧ vp_in (ji S72 a0 20) (jl S72 b76) ∧ (Q (jput (jput (jput S72 a0 22 3) a0 24 (ji S72 b76 (Int32.toNatClampNeg (ji S72 a0 20)))) a0 21 ((ji S72 a0 21) + 1))))) ∧ (¬ r73 = 0 → jk S72 a0 = 11 ∧ L_X11_nextToken_214 E d Q a0 0 (jput S72 a0 23 0)))) ∧ (¬ r69 = 0 → L_X11_nextToken_128 E d Q a0 0 S68)))))))))) : L_X11_nextToken_34 E d Q a0 x1 x2 S := by
  show jX E mX11_nextToken (jRm (d + 1) 0 0) (jZm E (fun r S' => r = none ∧ Q S') 0 0) 34 [(0, .ref a0), (1, .int x1), (2, .int x2)] [] S 0 0
  refine jx_aload_n 0 dX11_nextToken_34 rfl rfl ?_
  obtain ⟨hk5, h⟩ := h
  refine jx_geti jc_11 (j := 21) (by decide) rfl jwF_X11_225 dX11_nextToken_35 hk5 ?_
  refine jx_aload_n 0 dX11_nextToken_38 rfl rfl ?_
  refine jx_geti jc_11 (j := 19) (by decide) rfl jwF_X11_214 dX11_nextToken_39 hk5 ?_
  refine jx_icmp_ge (tgt := 72) dX11_nextToken_42 (by decide) (fun c6 => ?_) (fun c6 => ?_)
  · replace h := h.1 c6
    refine jx_iload_n 1 dX11_nextToken_72 rfl rfl ?_
    refine jx_if_eq (tgt := 88) dX11_nextToken_73 (by decide) (fun c7 => ?_) (fun c7 => ?_)
    · replace h := h.1 c7
      refine jx_iconst (v := 0) dX11_nextToken_88 (by decide) ?_
      refine jx_istore_n (lv1 := [(1, .int 0), (0, .ref a0), (2, .int x2)]) dX11_nextToken_89 rfl (by decide) rfl ?_
      refine jx_aload_n 1 dX11_nextToken_90 rfl rfl ?_
      refine jx_aload_n 1 dX11_nextToken_91 rfl rfl ?_
      refine jx_geti jc_11 (j := 21) (by decide) rfl jwF_X11_225 dX11_nextToken_92 hk5 ?_
      refine jx_puti jc_11 (j := 20) (by decide) rfl jwF_X11_231 rfl rfl rfl dX11_nextToken_95 hk5 ?_
      refine jx_aload_n 1 dX11_nextToken_98 rfl rfl ?_
      refine jx_geti jc_11 (j := 20) (by decide) rfl jwF_X11_231 dX11_nextToken_99 hk5 ?_
      refine jx_topi (y := (ji S a0 21)) (by simp [ji_put, ji_row, ji_putr]) ?_
      refine jx_aload_n 1 dX11_nextToken_102 rfl rfl ?_
      refine jx_geti jc_11 (j := 19) (by decide) rfl jwF_X11_214 dX11_nextToken_103 hk5 ?_
      refine jx_topi (y := (ji S a0 19)) (by simp [ji_put, ji_row, ji_putr]) ?_
      refine jx_icmp_ne (tgt := 117) dX11_nextToken_106 (by decide) (fun c8 => ?_) (fun c8 => ?_)
      · replace h := h.2 c8
        refine jx_aload_n 1 dX11_nextToken_117 rfl rfl ?_
        refine jx_aload_n 1 dX11_nextToken_118 rfl rfl ?_
        refine jx_geti jc_11 (j := 20) (by decide) rfl jwF_X11_231 dX11_nextToken_119 hk5 ?_
        refine jx_topi (y := (ji S a0 21)) (by simp [ji_put, ji_row, ji_putr]) ?_
        refine jx_callVi (M' := mX11_isLetter) (As := [.int (ji S a0 21)]) jo_X11_isLetter jc_11 rfl jwM_X11_234 jwN_X11_isLetter jwX_X11_isLetter dX11_nextToken_122 (jRok_m _ _ _) rfl (jle rfl) ⟨jle rfl, jle rfl⟩ hk5 h (fun r10 S9 h => ?_)
        refine jx_if_eq (tgt := 198) dX11_nextToken_125 (by decide) (fun c11 => ?_) (fun c11 => ?_)
        · replace h := h.1 c11
          refine jx_aload_n 1 dX11_nextToken_198 rfl rfl ?_
          refine jx_aload_n 1 dX11_nextToken_199 rfl rfl ?_
          obtain ⟨hk12, h⟩ := h
          refine jx_geti jc_11 (j := 20) (by decide) rfl jwF_X11_231 dX11_nextToken_200 hk12 ?_
          refine jx_callVi (M' := mX11_isDigit) (As := [.int (ji S9 a0 20)]) jo_X11_isDigit jc_11 rfl jwM_X11_240 jwN_X11_isDigit jwX_X11_isDigit dX11_nextToken_203 (jRok_m _ _ _) rfl (jle rfl) ⟨jle rfl, jle rfl⟩ hk12 h (fun r14 S13 h => ?_)
          refine jx_if_eq (tgt := 311) dX11_nextToken_206 (by decide) (fun c15 => ?_) (fun c15 => ?_)
          · replace h := h.1 c15
            refine jx_aload_n 1 dX11_nextToken_311 rfl rfl ?_
            refine jx_iconst (v := 3) dX11_nextToken_312 (by decide) ?_
            obtain ⟨hk16, h⟩ := h
            refine jx_puti jc_11 (j := 22) (by decide) rfl jwF_X11_228 rfl rfl rfl dX11_nextToken_313 hk16 ?_
            refine jx_aload_n 1 dX11_nextToken_316 rfl rfl ?_
            refine jx_aload_n 1 dX11_nextToken_317 rfl rfl ?_
            obtain ⟨b17, hb17, h⟩ := h
            refine jx_getr jc_11 (j := 18) (by decide) rfl jwF_X11_52 dX11_nextToken_318 hk16 hb17 ?_
            refine jx_aload_n 1 dX11_nextToken_321 rfl rfl ?_
            refine jx_geti jc_11 (j := 20) (by decide) rfl jwF_X11_231 dX11_nextToken_322 hk16 ?_
            refine jx_topi (y := (ji S13 a0 20)) (by simp [ji_put, ji_row, ji_putr]) ?_
            obtain ⟨hk18, h⟩ := h
            obtain ⟨hi19, h⟩ := h
            refine jx_iald dX11_nextToken_325 hk18 hi19 ?_
            refine jx_topi (y := (ji S13 b17 (Int32.toNatClampNeg (ji S13 a0 20)))) (by simp [ji_put, ji_row, ji_putr, jne hk18 hk16 (by decide)]) ?_
            refine jx_puti jc_11 (j := 24) (by decide) rfl jwF_X11_237 rfl rfl rfl dX11_nextToken_326 hk16 ?_
            refine jx_aload_n 1 dX11_nextToken_329 rfl rfl ?_
            refine jx_dup dX11_nextToken_330 rfl ?_
            refine jx_geti jc_11 (j := 21) (by decide) rfl jwF_X11_225 dX11_nextToken_331 hk16 ?_
            refine jx_topi (y := (ji S13 a0 21)) (by simp [ji_put, ji_row, ji_putr]) ?_
            refine jx_iconst (v := 1) dX11_nextToken_334 (by decide) ?_
            refine jx_iadd dX11_nextToken_335 ?_
            refine jx_puti jc_11 (j := 21) (by decide) rfl jwF_X11_225 rfl rfl rfl dX11_nextToken_336 hk16 ?_
            exact jx_vret dX11_nextToken_339 rfl (jle rfl) (jle rfl) ⟨rfl, h⟩
          replace h := h.2 c15
          refine jx_aload_n 1 dX11_nextToken_209 rfl rfl ?_
          refine jx_iconst (v := 0) dX11_nextToken_210 (by decide) ?_
          obtain ⟨hk20, h⟩ := h
          refine jx_puti jc_11 (j := 23) (by decide) rfl jwF_X11_243 rfl rfl rfl dX11_nextToken_211 hk20 ?_
          exact jx_lv [1, 0] rfl h
        replace h := h.2 c11
        exact jx_lv [1, 0] rfl h
      replace h := h.1 c8
      refine jx_aload_n 1 dX11_nextToken_109 rfl rfl ?_
      refine jx_iconst (v := 0) dX11_nextToken_110 (by decide) ?_
      refine jx_puti jc_11 (j := 22) (by decide) rfl jwF_X11_228 rfl rfl rfl dX11_nextToken_111 hk5 ?_
      refine jx_goto (tgt := 339) dX11_nextToken_114 (by decide) ?_
      exact jx_vret dX11_nextToken_339 rfl (jle rfl) (jle rfl) ⟨rfl, h⟩
    replace h := h.2 c7
    refine jx_iload_n 2 dX11_nextToken_76 rfl rfl ?_
    refine jx_aload_n 0 dX11_nextToken_77 rfl rfl ?_
    refine jx_geti jc_11 (j := 21) (by decide) rfl jwF_X11_225 dX11_nextToken_78 hk5 ?_
    refine jx_icmp_ne (tgt := 88) dX11_nextToken_81 (by decide) (fun c21 => ?_) (fun c21 => ?_)
    · replace h := h.2 c21
      refine jx_iconst (v := 0) dX11_nextToken_88 (by decide) ?_
      refine jx_istore_n (lv1 := [(1, .int 0), (0, .ref a0), (2, .int x2)]) dX11_nextToken_89 rfl (by decide) rfl ?_
      refine jx_aload_n 1 dX11_nextToken_90 rfl rfl ?_
      refine jx_aload_n 1 dX11_nextToken_91 rfl rfl ?_
      refine jx_geti jc_11 (j := 21) (by decide) rfl jwF_X11_225 dX11_nextToken_92 hk5 ?_
      refine jx_puti jc_11 (j := 20) (by decide) rfl jwF_X11_231 rfl rfl rfl dX11_nextToken_95 hk5 ?_
      refine jx_aload_n 1 dX11_nextToken_98 rfl rfl ?_
      refine jx_geti jc_11 (j := 20) (by decide) rfl jwF_X11_231 dX11_nextToken_99 hk5 ?_
      refine jx_topi (y := (ji S a0 21)) (by simp [ji_put, ji_row, ji_putr]) ?_
      refine jx_aload_n 1 dX11_nextToken_102 rfl rfl ?_
      refine jx_geti jc_11 (j := 19) (by decide) rfl jwF_X11_214 dX11_nextToken_103 hk5 ?_
      refine jx_topi (y := (ji S a0 19)) (by simp [ji_put, ji_row, ji_putr]) ?_
      refine jx_icmp_ne (tgt := 117) dX11_nextToken_106 (by decide) (fun c22 => ?_) (fun c22 => ?_)
      · replace h := h.2 c22
        refine jx_aload_n 1 dX11_nextToken_117 rfl rfl ?_
        refine jx_aload_n 1 dX11_nextToken_118 rfl rfl ?_
        refine jx_geti jc_11 (j := 20) (by decide) rfl jwF_X11_231 dX11_nextToken_119 hk5 ?_
        refine jx_topi (y := (ji S a0 21)) (by simp [ji_put, ji_row, ji_putr]) ?_
        refine jx_callVi (M' := mX11_isLetter) (As := [.int (ji S a0 21)]) jo_X11_isLetter jc_11 rfl jwM_X11_234 jwN_X11_isLetter jwX_X11_isLetter dX11_nextToken_122 (jRok_m _ _ _) rfl (jle rfl) ⟨jle rfl, jle rfl⟩ hk5 h (fun r24 S23 h => ?_)
        refine jx_if_eq (tgt := 198) dX11_nextToken_125 (by decide) (fun c25 => ?_) (fun c25 => ?_)
        · replace h := h.1 c25
          refine jx_aload_n 1 dX11_nextToken_198 rfl rfl ?_
          refine jx_aload_n 1 dX11_nextToken_199 rfl rfl ?_
          obtain ⟨hk26, h⟩ := h
          refine jx_geti jc_11 (j := 20) (by decide) rfl jwF_X11_231 dX11_nextToken_200 hk26 ?_
          refine jx_callVi (M' := mX11_isDigit) (As := [.int (ji S23 a0 20)]) jo_X11_isDigit jc_11 rfl jwM_X11_240 jwN_X11_isDigit jwX_X11_isDigit dX11_nextToken_203 (jRok_m _ _ _) rfl (jle rfl) ⟨jle rfl, jle rfl⟩ hk26 h (fun r28 S27 h => ?_)
          refine jx_if_eq (tgt := 311) dX11_nextToken_206 (by decide) (fun c29 => ?_) (fun c29 => ?_)
          · replace h := h.1 c29
            refine jx_aload_n 1 dX11_nextToken_311 rfl rfl ?_
            refine jx_iconst (v := 3) dX11_nextToken_312 (by decide) ?_
            obtain ⟨hk30, h⟩ := h
            refine jx_puti jc_11 (j := 22) (by decide) rfl jwF_X11_228 rfl rfl rfl dX11_nextToken_313 hk30 ?_
            refine jx_aload_n 1 dX11_nextToken_316 rfl rfl ?_
            refine jx_aload_n 1 dX11_nextToken_317 rfl rfl ?_
            obtain ⟨b31, hb31, h⟩ := h
            refine jx_getr jc_11 (j := 18) (by decide) rfl jwF_X11_52 dX11_nextToken_318 hk30 hb31 ?_
            refine jx_aload_n 1 dX11_nextToken_321 rfl rfl ?_
            refine jx_geti jc_11 (j := 20) (by decide) rfl jwF_X11_231 dX11_nextToken_322 hk30 ?_
            refine jx_topi (y := (ji S27 a0 20)) (by simp [ji_put, ji_row, ji_putr]) ?_
            obtain ⟨hk32, h⟩ := h
            obtain ⟨hi33, h⟩ := h
            refine jx_iald dX11_nextToken_325 hk32 hi33 ?_
            refine jx_topi (y := (ji S27 b31 (Int32.toNatClampNeg (ji S27 a0 20)))) (by simp [ji_put, ji_row, ji_putr, jne hk32 hk30 (by decide)]) ?_
            refine jx_puti jc_11 (j := 24) (by decide) rfl jwF_X11_237 rfl rfl rfl dX11_nextToken_326 hk30 ?_
            refine jx_aload_n 1 dX11_nextToken_329 rfl rfl ?_
            refine jx_dup dX11_nextToken_330 rfl ?_
            refine jx_geti jc_11 (j := 21) (by decide) rfl jwF_X11_225 dX11_nextToken_331 hk30 ?_
            refine jx_topi (y := (ji S27 a0 21)) (by simp [ji_put, ji_row, ji_putr]) ?_
            refine jx_iconst (v := 1) dX11_nextToken_334 (by decide) ?_
            refine jx_iadd dX11_nextToken_335 ?_
            refine jx_puti jc_11 (j := 21) (by decide) rfl jwF_X11_225 rfl rfl rfl dX11_nextToken_336 hk30 ?_
            exact jx_vret dX11_nextToken_339 rfl (jle rfl) (jle rfl) ⟨rfl, h⟩
          replace h := h.2 c29
          refine jx_aload_n 1 dX11_nextToken_209 rfl rfl ?_
          refine jx_iconst (v := 0) dX11_nextToken_210 (by decide) ?_
          obtain ⟨hk34, h⟩ := h
          refine jx_puti jc_11 (j := 23) (by decide) rfl jwF_X11_243 rfl rfl rfl dX11_nextToken_211 hk34 ?_
          exact jx_lv [1, 0] rfl h
        replace h := h.2 c25
        exact jx_lv [1, 0] rfl h
      replace h := h.1 c22
      refine jx_aload_n 1 dX11_nextToken_109 rfl rfl ?_
      refine jx_iconst (v := 0) dX11_nextToken_110 (by decide) ?_
      refine jx_puti jc_11 (j := 22) (by decide) rfl jwF_X11_228 rfl rfl rfl dX11_nextToken_111 hk5 ?_
      refine jx_goto (tgt := 339) dX11_nextToken_114 (by decide) ?_
      exact jx_vret dX11_nextToken_339 rfl (jle rfl) (jle rfl) ⟨rfl, h⟩
    replace h := h.1 c21
    refine jx_iconst (v := 1) dX11_nextToken_84 (by decide) ?_
    refine jx_goto (tgt := 89) dX11_nextToken_85 (by decide) ?_
    refine jx_istore_n (lv1 := [(1, .int 1), (0, .ref a0), (2, .int x2)]) dX11_nextToken_89 rfl (by decide) rfl ?_
    refine jx_aload_n 1 dX11_nextToken_90 rfl rfl ?_
    refine jx_aload_n 1 dX11_nextToken_91 rfl rfl ?_
    refine jx_geti jc_11 (j := 21) (by decide) rfl jwF_X11_225 dX11_nextToken_92 hk5 ?_
    refine jx_puti jc_11 (j := 20) (by decide) rfl jwF_X11_231 rfl rfl rfl dX11_nextToken_95 hk5 ?_
    refine jx_aload_n 1 dX11_nextToken_98 rfl rfl ?_
    refine jx_geti jc_11 (j := 20) (by decide) rfl jwF_X11_231 dX11_nextToken_99 hk5 ?_
    refine jx_topi (y := (ji S a0 21)) (by simp [ji_put, ji_row, ji_putr]) ?_
    refine jx_aload_n 1 dX11_nextToken_102 rfl rfl ?_
    refine jx_geti jc_11 (j := 19) (by decide) rfl jwF_X11_214 dX11_nextToken_103 hk5 ?_
    refine jx_topi (y := (ji S a0 19)) (by simp [ji_put, ji_row, ji_putr]) ?_
    refine jx_icmp_ne (tgt := 117) dX11_nextToken_106 (by decide) (fun c35 => ?_) (fun c35 => ?_)
    · replace h := h.2 c35
      refine jx_aload_n 1 dX11_nextToken_117 rfl rfl ?_
      refine jx_aload_n 1 dX11_nextToken_118 rfl rfl ?_
      refine jx_geti jc_11 (j := 20) (by decide) rfl jwF_X11_231 dX11_nextToken_119 hk5 ?_
      refine jx_topi (y := (ji S a0 21)) (by simp [ji_put, ji_row, ji_putr]) ?_
      refine jx_callVi (M' := mX11_isLetter) (As := [.int (ji S a0 21)]) jo_X11_isLetter jc_11 rfl jwM_X11_234 jwN_X11_isLetter jwX_X11_isLetter dX11_nextToken_122 (jRok_m _ _ _) rfl (jle rfl) ⟨jle rfl, jle rfl⟩ hk5 h (fun r37 S36 h => ?_)
      refine jx_if_eq (tgt := 198) dX11_nextToken_125 (by decide) (fun c38 => ?_) (fun c38 => ?_)
      · replace h := h.1 c38
        refine jx_aload_n 1 dX11_nextToken_198 rfl rfl ?_
        refine jx_aload_n 1 dX11_nextToken_199 rfl rfl ?_
        obtain ⟨hk39, h⟩ := h
        refine jx_geti jc_11 (j := 20) (by decide) rfl jwF_X11_231 dX11_nextToken_200 hk39 ?_
        refine jx_callVi (M' := mX11_isDigit) (As := [.int (ji S36 a0 20)]) jo_X11_isDigit jc_11 rfl jwM_X11_240 jwN_X11_isDigit jwX_X11_isDigit dX11_nextToken_203 (jRok_m _ _ _) rfl (jle rfl) ⟨jle rfl, jle rfl⟩ hk39 h (fun r41 S40 h => ?_)
        refine jx_if_eq (tgt := 311) dX11_nextToken_206 (by decide) (fun c42 => ?_) (fun c42 => ?_)
        · replace h := h.1 c42
          refine jx_aload_n 1 dX11_nextToken_311 rfl rfl ?_
          refine jx_iconst (v := 3) dX11_nextToken_312 (by decide) ?_
          obtain ⟨hk43, h⟩ := h
          refine jx_puti jc_11 (j := 22) (by decide) rfl jwF_X11_228 rfl rfl rfl dX11_nextToken_313 hk43 ?_
          refine jx_aload_n 1 dX11_nextToken_316 rfl rfl ?_
          refine jx_aload_n 1 dX11_nextToken_317 rfl rfl ?_
          obtain ⟨b44, hb44, h⟩ := h
          refine jx_getr jc_11 (j := 18) (by decide) rfl jwF_X11_52 dX11_nextToken_318 hk43 hb44 ?_
          refine jx_aload_n 1 dX11_nextToken_321 rfl rfl ?_
          refine jx_geti jc_11 (j := 20) (by decide) rfl jwF_X11_231 dX11_nextToken_322 hk43 ?_
          refine jx_topi (y := (ji S40 a0 20)) (by simp [ji_put, ji_row, ji_putr]) ?_
          obtain ⟨hk45, h⟩ := h
          obtain ⟨hi46, h⟩ := h
          refine jx_iald dX11_nextToken_325 hk45 hi46 ?_
          refine jx_topi (y := (ji S40 b44 (Int32.toNatClampNeg (ji S40 a0 20)))) (by simp [ji_put, ji_row, ji_putr, jne hk45 hk43 (by decide)]) ?_
          refine jx_puti jc_11 (j := 24) (by decide) rfl jwF_X11_237 rfl rfl rfl dX11_nextToken_326 hk43 ?_
          refine jx_aload_n 1 dX11_nextToken_329 rfl rfl ?_
          refine jx_dup dX11_nextToken_330 rfl ?_
          refine jx_geti jc_11 (j := 21) (by decide) rfl jwF_X11_225 dX11_nextToken_331 hk43 ?_
          refine jx_topi (y := (ji S40 a0 21)) (by simp [ji_put, ji_row, ji_putr]) ?_
          refine jx_iconst (v := 1) dX11_nextToken_334 (by decide) ?_
          refine jx_iadd dX11_nextToken_335 ?_
          refine jx_puti jc_11 (j := 21) (by decide) rfl jwF_X11_225 rfl rfl rfl dX11_nextToken_336 hk43 ?_
          exact jx_vret dX11_nextToken_339 rfl (jle rfl) (jle rfl) ⟨rfl, h⟩
        replace h := h.2 c42
        refine jx_aload_n 1 dX11_nextToken_209 rfl rfl ?_
        refine jx_iconst (v := 0) dX11_nextToken_210 (by decide) ?_
        obtain ⟨hk47, h⟩ := h
        refine jx_puti jc_11 (j := 23) (by decide) rfl jwF_X11_243 rfl rfl rfl dX11_nextToken_211 hk47 ?_
        exact jx_lv [1, 0] rfl h
      replace h := h.2 c38
      exact jx_lv [1, 0] rfl h
    replace h := h.1 c35
    refine jx_aload_n 1 dX11_nextToken_109 rfl rfl ?_
    refine jx_iconst (v := 0) dX11_nextToken_110 (by decide) ?_
    refine jx_puti jc_11 (j := 22) (by decide) rfl jwF_X11_228 rfl rfl rfl dX11_nextToken_111 hk5 ?_
    refine jx_goto (tgt := 339) dX11_nextToken_114 (by decide) ?_
    exact jx_vret dX11_nextToken_339 rfl (jle rfl) (jle rfl) ⟨rfl, h⟩
  replace h := h.2 c6
  refine jx_aload_n 0 dX11_nextToken_45 rfl rfl ?_
  obtain ⟨b48, hb48, h⟩ := h
  refine jx_getr jc_11 (j := 18) (by decide) rfl jwF_X11_52 dX11_nextToken_46 hk5 hb48 ?_
  refine jx_aload_n 0 dX11_nextToken_49 rfl rfl ?_
  refine jx_geti jc_11 (j := 21) (by decide) rfl jwF_X11_225 dX11_nextToken_50 hk5 ?_
  obtain ⟨hk49, h⟩ := h
  obtain ⟨hi50, h⟩ := h
  refine jx_iald dX11_nextToken_53 hk49 hi50 ?_
  refine jx_bipush (v := 32) dX11_nextToken_54 (by decide) ?_
  refine jx_icmp_ne (tgt := 72) dX11_nextToken_56 (by decide) (fun c51 => ?_) (fun c51 => ?_)
  · replace h := h.2 c51
    refine jx_iload_n 1 dX11_nextToken_72 rfl rfl ?_
    refine jx_if_eq (tgt := 88) dX11_nextToken_73 (by decide) (fun c52 => ?_) (fun c52 => ?_)
    · replace h := h.1 c52
      refine jx_iconst (v := 0) dX11_nextToken_88 (by decide) ?_
      refine jx_istore_n (lv1 := [(1, .int 0), (0, .ref a0), (2, .int x2)]) dX11_nextToken_89 rfl (by decide) rfl ?_
      refine jx_aload_n 1 dX11_nextToken_90 rfl rfl ?_
      refine jx_aload_n 1 dX11_nextToken_91 rfl rfl ?_
      refine jx_geti jc_11 (j := 21) (by decide) rfl jwF_X11_225 dX11_nextToken_92 hk5 ?_
      refine jx_puti jc_11 (j := 20) (by decide) rfl jwF_X11_231 rfl rfl rfl dX11_nextToken_95 hk5 ?_
      refine jx_aload_n 1 dX11_nextToken_98 rfl rfl ?_
      refine jx_geti jc_11 (j := 20) (by decide) rfl jwF_X11_231 dX11_nextToken_99 hk5 ?_
      refine jx_topi (y := (ji S a0 21)) (by simp [ji_put, ji_row, ji_putr]) ?_
      refine jx_aload_n 1 dX11_nextToken_102 rfl rfl ?_
      refine jx_geti jc_11 (j := 19) (by decide) rfl jwF_X11_214 dX11_nextToken_103 hk5 ?_
      refine jx_topi (y := (ji S a0 19)) (by simp [ji_put, ji_row, ji_putr]) ?_
      refine jx_icmp_ne (tgt := 117) dX11_nextToken_106 (by decide) (fun c53 => ?_) (fun c53 => ?_)
      · replace h := h.2 c53
        refine jx_aload_n 1 dX11_nextToken_117 rfl rfl ?_
        refine jx_aload_n 1 dX11_nextToken_118 rfl rfl ?_
        refine jx_geti jc_11 (j := 20) (by decide) rfl jwF_X11_231 dX11_nextToken_119 hk5 ?_
        refine jx_topi (y := (ji S a0 21)) (by simp [ji_put, ji_row, ji_putr]) ?_
        refine jx_callVi (M' := mX11_isLetter) (As := [.int (ji S a0 21)]) jo_X11_isLetter jc_11 rfl jwM_X11_234 jwN_X11_isLetter jwX_X11_isLetter dX11_nextToken_122 (jRok_m _ _ _) rfl (jle rfl) ⟨jle rfl, jle rfl⟩ hk5 h (fun r55 S54 h => ?_)
        refine jx_if_eq (tgt := 198) dX11_nextToken_125 (by decide) (fun c56 => ?_) (fun c56 => ?_)
        · replace h := h.1 c56
          refine jx_aload_n 1 dX11_nextToken_198 rfl rfl ?_
          refine jx_aload_n 1 dX11_nextToken_199 rfl rfl ?_
          obtain ⟨hk57, h⟩ := h
          refine jx_geti jc_11 (j := 20) (by decide) rfl jwF_X11_231 dX11_nextToken_200 hk57 ?_
          refine jx_callVi (M' := mX11_isDigit) (As := [.int (ji S54 a0 20)]) jo_X11_isDigit jc_11 rfl jwM_X11_240 jwN_X11_isDigit jwX_X11_isDigit dX11_nextToken_203 (jRok_m _ _ _) rfl (jle rfl) ⟨jle rfl, jle rfl⟩ hk57 h (fun r59 S58 h => ?_)
          refine jx_if_eq (tgt := 311) dX11_nextToken_206 (by decide) (fun c60 => ?_) (fun c60 => ?_)
          · replace h := h.1 c60
            refine jx_aload_n 1 dX11_nextToken_311 rfl rfl ?_
            refine jx_iconst (v := 3) dX11_nextToken_312 (by decide) ?_
            obtain ⟨hk61, h⟩ := h
            refine jx_puti jc_11 (j := 22) (by decide) rfl jwF_X11_228 rfl rfl rfl dX11_nextToken_313 hk61 ?_
            refine jx_aload_n 1 dX11_nextToken_316 rfl rfl ?_
            refine jx_aload_n 1 dX11_nextToken_317 rfl rfl ?_
            obtain ⟨b62, hb62, h⟩ := h
            refine jx_getr jc_11 (j := 18) (by decide) rfl jwF_X11_52 dX11_nextToken_318 hk61 hb62 ?_
            refine jx_aload_n 1 dX11_nextToken_321 rfl rfl ?_
            refine jx_geti jc_11 (j := 20) (by decide) rfl jwF_X11_231 dX11_nextToken_322 hk61 ?_
            refine jx_topi (y := (ji S58 a0 20)) (by simp [ji_put, ji_row, ji_putr]) ?_
            obtain ⟨hk63, h⟩ := h
            obtain ⟨hi64, h⟩ := h
            refine jx_iald dX11_nextToken_325 hk63 hi64 ?_
            refine jx_topi (y := (ji S58 b62 (Int32.toNatClampNeg (ji S58 a0 20)))) (by simp [ji_put, ji_row, ji_putr, jne hk63 hk61 (by decide)]) ?_
            refine jx_puti jc_11 (j := 24) (by decide) rfl jwF_X11_237 rfl rfl rfl dX11_nextToken_326 hk61 ?_
            refine jx_aload_n 1 dX11_nextToken_329 rfl rfl ?_
            refine jx_dup dX11_nextToken_330 rfl ?_
            refine jx_geti jc_11 (j := 21) (by decide) rfl jwF_X11_225 dX11_nextToken_331 hk61 ?_
            refine jx_topi (y := (ji S58 a0 21)) (by simp [ji_put, ji_row, ji_putr]) ?_
            refine jx_iconst (v := 1) dX11_nextToken_334 (by decide) ?_
            refine jx_iadd dX11_nextToken_335 ?_
            refine jx_puti jc_11 (j := 21) (by decide) rfl jwF_X11_225 rfl rfl rfl dX11_nextToken_336 hk61 ?_
            exact jx_vret dX11_nextToken_339 rfl (jle rfl) (jle rfl) ⟨rfl, h⟩
          replace h := h.2 c60
          refine jx_aload_n 1 dX11_nextToken_209 rfl rfl ?_
          refine jx_iconst (v := 0) dX11_nextToken_210 (by decide) ?_
          obtain ⟨hk65, h⟩ := h
          refine jx_puti jc_11 (j := 23) (by decide) rfl jwF_X11_243 rfl rfl rfl dX11_nextToken_211 hk65 ?_
          exact jx_lv [1, 0] rfl h
        replace h := h.2 c56
        exact jx_lv [1, 0] rfl h
      replace h := h.1 c53
      refine jx_aload_n 1 dX11_nextToken_109 rfl rfl ?_
      refine jx_iconst (v := 0) dX11_nextToken_110 (by decide) ?_
      refine jx_puti jc_11 (j := 22) (by decide) rfl jwF_X11_228 rfl rfl rfl dX11_nextToken_111 hk5 ?_
      refine jx_goto (tgt := 339) dX11_nextToken_114 (by decide) ?_
      exact jx_vret dX11_nextToken_339 rfl (jle rfl) (jle rfl) ⟨rfl, h⟩
    replace h := h.2 c52
    refine jx_iload_n 2 dX11_nextToken_76 rfl rfl ?_
    refine jx_aload_n 0 dX11_nextToken_77 rfl rfl ?_
    refine jx_geti jc_11 (j := 21) (by decide) rfl jwF_X11_225 dX11_nextToken_78 hk5 ?_
    refine jx_icmp_ne (tgt := 88) dX11_nextToken_81 (by decide) (fun c66 => ?_) (fun c66 => ?_)
    · replace h := h.2 c66
      refine jx_iconst (v := 0) dX11_nextToken_88 (by decide) ?_
      refine jx_istore_n (lv1 := [(1, .int 0), (0, .ref a0), (2, .int x2)]) dX11_nextToken_89 rfl (by decide) rfl ?_
      refine jx_aload_n 1 dX11_nextToken_90 rfl rfl ?_
      refine jx_aload_n 1 dX11_nextToken_91 rfl rfl ?_
      refine jx_geti jc_11 (j := 21) (by decide) rfl jwF_X11_225 dX11_nextToken_92 hk5 ?_
      refine jx_puti jc_11 (j := 20) (by decide) rfl jwF_X11_231 rfl rfl rfl dX11_nextToken_95 hk5 ?_
      refine jx_aload_n 1 dX11_nextToken_98 rfl rfl ?_
      refine jx_geti jc_11 (j := 20) (by decide) rfl jwF_X11_231 dX11_nextToken_99 hk5 ?_
      refine jx_topi (y := (ji S a0 21)) (by simp [ji_put, ji_row, ji_putr]) ?_
      refine jx_aload_n 1 dX11_nextToken_102 rfl rfl ?_
      refine jx_geti jc_11 (j := 19) (by decide) rfl jwF_X11_214 dX11_nextToken_103 hk5 ?_
      refine jx_topi (y := (ji S a0 19)) (by simp [ji_put, ji_row, ji_putr]) ?_
      refine jx_icmp_ne (tgt := 117) dX11_nextToken_106 (by decide) (fun c67 => ?_) (fun c67 => ?_)
      · replace h := h.2 c67
        refine jx_aload_n 1 dX11_nextToken_117 rfl rfl ?_
        refine jx_aload_n 1 dX11_nextToken_118 rfl rfl ?_
        refine jx_geti jc_11 (j := 20) (by decide) rfl jwF_X11_231 dX11_nextToken_119 hk5 ?_
        refine jx_topi (y := (ji S a0 21)) (by simp [ji_put, ji_row, ji_putr]) ?_
        refine jx_callVi (M' := mX11_isLetter) (As := [.int (ji S a0 21)]) jo_X11_isLetter jc_11 rfl jwM_X11_234 jwN_X11_isLetter jwX_X11_isLetter dX11_nextToken_122 (jRok_m _ _ _) rfl (jle rfl) ⟨jle rfl, jle rfl⟩ hk5 h (fun r69 S68 h => ?_)
        refine jx_if_eq (tgt := 198) dX11_nextToken_125 (by decide) (fun c70 => ?_) (fun c70 => ?_)
        · replace h := h.1 c70
          refine jx_aload_n 1 dX11_nextToken_198 rfl rfl ?_
          refine jx_aload_n 1 dX11_nextToken_199 rfl rfl ?_
          obtain ⟨hk71, h⟩ := h
          refine jx_geti jc_11 (j := 20) (by decide) rfl jwF_X11_231 dX11_nextToken_200 hk71 ?_
          refine jx_callVi (M' := mX11_isDigit) (As := [.int (ji S68 a0 20)]) jo_X11_isDigit jc_11 rfl jwM_X11_240 jwN_X11_isDigit jwX_X11_isDigit dX11_nextToken_203 (jRok_m _ _ _) rfl (jle rfl) ⟨jle rfl, jle rfl⟩ hk71 h (fun r73 S72 h => ?_)
          refine jx_if_eq (tgt := 311) dX11_nextToken_206 (by decide) (fun c74 => ?_) (fun c74 => ?_)
          · replace h := h.1 c74
            refine jx_aload_n 1 dX11_nextToken_311 rfl rfl ?_
            refine jx_iconst (v := 3) dX11_nextToken_312 (by decide) ?_
            obtain ⟨hk75, h⟩ := h
            refine jx_puti jc_11 (j := 22) (by decide) rfl jwF_X11_228 rfl rfl rfl dX11_nextToken_313 hk75 ?_
            refine jx_aload_n 1 dX11_nextToken_316 rfl rfl ?_
            refine jx_aload_n 1 dX11_nextToken_317 rfl rfl ?_
            obtain ⟨b76, hb76, h⟩ := h
            refine jx_getr jc_11 (j := 18) (by decide) rfl jwF_X11_52 dX11_nextToken_318 hk75 hb76 ?_
            refine jx_aload_n 1 dX11_nextToken_321 rfl rfl ?_
            refine jx_geti jc_11 (j := 20) (by decide) rfl jwF_X11_231 dX11_nextToken_322 hk75 ?_
            refine jx_topi (y := (ji S72 a0 20)) (by simp [ji_put, ji_row, ji_putr]) ?_
            obtain ⟨hk77, h⟩ := h
            obtain ⟨hi78, h⟩ := h
            refine jx_iald dX11_nextToken_325 hk77 hi78 ?_
            refine jx_topi (y := (ji S72 b76 (Int32.toNatClampNeg (ji S72 a0 20)))) (by simp [ji_put, ji_row, ji_putr, jne hk77 hk75 (by decide)]) ?_
            refine jx_puti jc_11 (j := 24) (by decide) rfl jwF_X11_237 rfl rfl rfl dX11_nextToken_326 hk75 ?_
            refine jx_aload_n 1 dX11_nextToken_329 rfl rfl ?_
            refine jx_dup dX11_nextToken_330 rfl ?_
            refine jx_geti jc_11 (j := 21) (by decide) rfl jwF_X11_225 dX11_nextToken_331 hk75 ?_
            refine jx_topi (y := (ji S72 a0 21)) (by simp [ji_put, ji_row, ji_putr]) ?_
            refine jx_iconst (v := 1) dX11_nextToken_334 (by decide) ?_
            refine jx_iadd dX11_nextToken_335 ?_
            refine jx_puti jc_11 (j := 21) (by decide) rfl jwF_X11_225 rfl rfl rfl dX11_nextToken_336 hk75 ?_
            exact jx_vret dX11_nextToken_339 rfl (jle rfl) (jle rfl) ⟨rfl, h⟩
          replace h := h.2 c74
          refine jx_aload_n 1 dX11_nextToken_209 rfl rfl ?_
          refine jx_iconst (v := 0) dX11_nextToken_210 (by decide) ?_
          obtain ⟨hk79, h⟩ := h
          refine jx_puti jc_11 (j := 23) (by decide) rfl jwF_X11_243 rfl rfl rfl dX11_nextToken_211 hk79 ?_
          exact jx_lv [1, 0] rfl h
        replace h := h.2 c70
        exact jx_lv [1, 0] rfl h
      replace h := h.1 c67
      refine jx_aload_n 1 dX11_nextToken_109 rfl rfl ?_
      refine jx_iconst (v := 0) dX11_nextToken_110 (by decide) ?_
      refine jx_puti jc_11 (j := 22) (by decide) rfl jwF_X11_228 rfl rfl rfl dX11_nextToken_111 hk5 ?_
      refine jx_goto (tgt := 339) dX11_nextToken_114 (by decide) ?_
      exact jx_vret dX11_nextToken_339 rfl (jle rfl) (jle rfl) ⟨rfl, h⟩
    replace h := h.1 c66
    refine jx_iconst (v := 1) dX11_nextToken_84 (by decide) ?_
    refine jx_goto (tgt := 89) dX11_nextToken_85 (by decide) ?_
    refine jx_istore_n (lv1 := [(1, .int 1), (0, .ref a0), (2, .int x2)]) dX11_nextToken_89 rfl (by decide) rfl ?_
    refine jx_aload_n 1 dX11_nextToken_90 rfl rfl ?_
    refine jx_aload_n 1 dX11_nextToken_91 rfl rfl ?_
    refine jx_geti jc_11 (j := 21) (by decide) rfl jwF_X11_225 dX11_nextToken_92 hk5 ?_
    refine jx_puti jc_11 (j := 20) (by decide) rfl jwF_X11_231 rfl rfl rfl dX11_nextToken_95 hk5 ?_
    refine jx_aload_n 1 dX11_nextToken_98 rfl rfl ?_
    refine jx_geti jc_11 (j := 20) (by decide) rfl jwF_X11_231 dX11_nextToken_99 hk5 ?_
    refine jx_topi (y := (ji S a0 21)) (by simp [ji_put, ji_row, ji_putr]) ?_
    refine jx_aload_n 1 dX11_nextToken_102 rfl rfl ?_
    refine jx_geti jc_11 (j := 19) (by decide) rfl jwF_X11_214 dX11_nextToken_103 hk5 ?_
    refine jx_topi (y := (ji S a0 19)) (by simp [ji_put, ji_row, ji_putr]) ?_
    refine jx_icmp_ne (tgt := 117) dX11_nextToken_106 (by decide) (fun c80 => ?_) (fun c80 => ?_)
    · replace h := h.2 c80
      refine jx_aload_n 1 dX11_nextToken_117 rfl rfl ?_
      refine jx_aload_n 1 dX11_nextToken_118 rfl rfl ?_
      refine jx_geti jc_11 (j := 20) (by decide) rfl jwF_X11_231 dX11_nextToken_119 hk5 ?_
      refine jx_topi (y := (ji S a0 21)) (by simp [ji_put, ji_row, ji_putr]) ?_
      refine jx_callVi (M' := mX11_isLetter) (As := [.int (ji S a0 21)]) jo_X11_isLetter jc_11 rfl jwM_X11_234 jwN_X11_isLetter jwX_X11_isLetter dX11_nextToken_122 (jRok_m _ _ _) rfl (jle rfl) ⟨jle rfl, jle rfl⟩ hk5 h (fun r82 S81 h => ?_)
      refine jx_if_eq (tgt := 198) dX11_nextToken_125 (by decide) (fun c83 => ?_) (fun c83 => ?_)
      · replace h := h.1 c83
        refine jx_aload_n 1 dX11_nextToken_198 rfl rfl ?_
        refine jx_aload_n 1 dX11_nextToken_199 rfl rfl ?_
        obtain ⟨hk84, h⟩ := h
        refine jx_geti jc_11 (j := 20) (by decide) rfl jwF_X11_231 dX11_nextToken_200 hk84 ?_
        refine jx_callVi (M' := mX11_isDigit) (As := [.int (ji S81 a0 20)]) jo_X11_isDigit jc_11 rfl jwM_X11_240 jwN_X11_isDigit jwX_X11_isDigit dX11_nextToken_203 (jRok_m _ _ _) rfl (jle rfl) ⟨jle rfl, jle rfl⟩ hk84 h (fun r86 S85 h => ?_)
        refine jx_if_eq (tgt := 311) dX11_nextToken_206 (by decide) (fun c87 => ?_) (fun c87 => ?_)
        · replace h := h.1 c87
          refine jx_aload_n 1 dX11_nextToken_311 rfl rfl ?_
          refine jx_iconst (v := 3) dX11_nextToken_312 (by decide) ?_
          obtain ⟨hk88, h⟩ := h
          refine jx_puti jc_11 (j := 22) (by decide) rfl jwF_X11_228 rfl rfl rfl dX11_nextToken_313 hk88 ?_
          refine jx_aload_n 1 dX11_nextToken_316 rfl rfl ?_
          refine jx_aload_n 1 dX11_nextToken_317 rfl rfl ?_
          obtain ⟨b89, hb89, h⟩ := h
          refine jx_getr jc_11 (j := 18) (by decide) rfl jwF_X11_52 dX11_nextToken_318 hk88 hb89 ?_
          refine jx_aload_n 1 dX11_nextToken_321 rfl rfl ?_
          refine jx_geti jc_11 (j := 20) (by decide) rfl jwF_X11_231 dX11_nextToken_322 hk88 ?_
          refine jx_topi (y := (ji S85 a0 20)) (by simp [ji_put, ji_row, ji_putr]) ?_
          obtain ⟨hk90, h⟩ := h
          obtain ⟨hi91, h⟩ := h
          refine jx_iald dX11_nextToken_325 hk90 hi91 ?_
          refine jx_topi (y := (ji S85 b89 (Int32.toNatClampNeg (ji S85 a0 20)))) (by simp [ji_put, ji_row, ji_putr, jne hk90 hk88 (by decide)]) ?_
          refine jx_puti jc_11 (j := 24) (by decide) rfl jwF_X11_237 rfl rfl rfl dX11_nextToken_326 hk88 ?_
          refine jx_aload_n 1 dX11_nextToken_329 rfl rfl ?_
          refine jx_dup dX11_nextToken_330 rfl ?_
          refine jx_geti jc_11 (j := 21) (by decide) rfl jwF_X11_225 dX11_nextToken_331 hk88 ?_
          refine jx_topi (y := (ji S85 a0 21)) (by simp [ji_put, ji_row, ji_putr]) ?_
          refine jx_iconst (v := 1) dX11_nextToken_334 (by decide) ?_
          refine jx_iadd dX11_nextToken_335 ?_
          refine jx_puti jc_11 (j := 21) (by decide) rfl jwF_X11_225 rfl rfl rfl dX11_nextToken_336 hk88 ?_
          exact jx_vret dX11_nextToken_339 rfl (jle rfl) (jle rfl) ⟨rfl, h⟩
        replace h := h.2 c87
        refine jx_aload_n 1 dX11_nextToken_209 rfl rfl ?_
        refine jx_iconst (v := 0) dX11_nextToken_210 (by decide) ?_
        obtain ⟨hk92, h⟩ := h
        refine jx_puti jc_11 (j := 23) (by decide) rfl jwF_X11_243 rfl rfl rfl dX11_nextToken_211 hk92 ?_
        exact jx_lv [1, 0] rfl h
      replace h := h.2 c83
      exact jx_lv [1, 0] rfl h
    replace h := h.1 c80
    refine jx_aload_n 1 dX11_nextToken_109 rfl rfl ?_
    refine jx_iconst (v := 0) dX11_nextToken_110 (by decide) ?_
    refine jx_puti jc_11 (j := 22) (by decide) rfl jwF_X11_228 rfl rfl rfl dX11_nextToken_111 hk5 ?_
    refine jx_goto (tgt := 339) dX11_nextToken_114 (by decide) ?_
    exact jx_vret dX11_nextToken_339 rfl (jle rfl) (jle rfl) ⟨rfl, h⟩
  replace h := h.1 c51
  refine jx_aload_n 0 dX11_nextToken_59 rfl rfl ?_
  refine jx_dup dX11_nextToken_60 rfl ?_
  refine jx_geti jc_11 (j := 21) (by decide) rfl jwF_X11_225 dX11_nextToken_61 hk5 ?_
  refine jx_iconst (v := 1) dX11_nextToken_64 (by decide) ?_
  refine jx_iadd dX11_nextToken_65 ?_
  refine jx_puti jc_11 (j := 21) (by decide) rfl jwF_X11_225 rfl rfl rfl dX11_nextToken_66 hk5 ?_
  refine jx_goto (tgt := 34) dX11_nextToken_69 (by decide) ?_
  exact jx_lv [0, 1, 2] rfl h
set_option maxRecDepth 100000 in
set_option maxHeartbeats 4000000 in
theorem T_X11_nextToken_214 {E : jEnv} {d : Nat} {Q : jM → Prop} {a0 : Nat} {x1 : Int32} {S : jM} (h : jk S a0 = 11 ∧ jFi E mX11_isDigit d 0 0 [.ref a0, .int (ji S a0 21)] S (fun r95 S94 => (r95 = 0 → (x1 = 0 → jk S94 a0 = 11 ∧ (((ji S94 a0 21) - (ji S94 a0 20)) ≤ 4 → Q (jput S94 a0 22 2)) ∧ (¬ ((ji S94 a0 21) - (ji S94 a0 20)) ≤ 4 → Q (jput S94 a0 22 4))) ∧ (¬ x1 = 0 → jk S94 a0 = 11 ∧ Q (jput S94 a0 22 4))) ∧ (¬ r95 = 0 → jk S94 a0 = 11 ∧ (4 ≤ ((ji S94 a0 21) - (ji S94 a0 20)) → L_X11_nextToken_214 E d Q a0 x1 (jput (jput S94 a0 23 (ji S94 a0 23)) a0 21 ((ji S94 a0 21) + 1))) ∧ (¬ 4 ≤ ((ji S94 a0 21) - (ji S94 a0 20)) → ∃ b103, jr S94 a0 18 = some b103 ∧ (jk S94 b103 = 12 ∧ vp_in (ji S94 a0 21) (jl S94 b103) ∧ (L_X11_nextToken_214 E d Q a0 x1 (jput (jput S94 a0 23 (((10 * (ji S94 a0 23)) + (ji S94 b103 (Int32.toNatClampNeg (ji S94 a0 21)))) - 48)) a0 21 ((ji S94 a0 21) + 1)))))))) : L_X11_nextToken_214 E d Q a0 x1 S := by
  show jX E mX11_nextToken (jRm (d + 1) 0 0) (jZm E (fun r S' => r = none ∧ Q S') 0 0) 214 [(0, .ref a0), (1, .int x1)] [] S 0 0
  refine jx_aload_n 0 dX11_nextToken_214 rfl rfl ?_
  refine jx_aload_n 0 dX11_nextToken_215 rfl rfl ?_
  obtain ⟨hk93, h⟩ := h
  refine jx_geti jc_11 (j := 21) (by decide) rfl jwF_X11_225 dX11_nextToken_216 hk93 ?_
  refine jx_callVi (M' := mX11_isDigit) (As := [.int (ji S a0 21)]) jo_X11_isDigit jc_11 rfl jwM_X11_240 jwN_X11_isDigit jwX_X11_isDigit dX11_nextToken_219 (jRok_m _ _ _) rfl (jle rfl) ⟨jle rfl, jle rfl⟩ hk93 h (fun r95 S94 h => ?_)
  refine jx_if_eq (tgt := 282) dX11_nextToken_222 (by decide) (fun c96 => ?_) (fun c96 => ?_)
  · replace h := h.1 c96
    refine jx_aload_n 0 dX11_nextToken_282 rfl rfl ?_
    refine jx_iload_n 1 dX11_nextToken_283 rfl rfl ?_
    refine jx_if_ne (tgt := 300) dX11_nextToken_284 (by decide) (fun c97 => ?_) (fun c97 => ?_)
    · replace h := h.2 c97
      refine jx_iconst (v := 4) dX11_nextToken_300 (by decide) ?_
      refine jx_goto (tgt := 305) dX11_nextToken_301 (by decide) ?_
      obtain ⟨hk98, h⟩ := h
      refine jx_puti jc_11 (j := 22) (by decide) rfl jwF_X11_228 rfl rfl rfl dX11_nextToken_305 hk98 ?_
      refine jx_goto (tgt := 339) dX11_nextToken_308 (by decide) ?_
      exact jx_vret dX11_nextToken_339 rfl (jle rfl) (jle rfl) ⟨rfl, h⟩
    replace h := h.1 c97
    refine jx_aload_n 0 dX11_nextToken_287 rfl rfl ?_
    obtain ⟨hk99, h⟩ := h
    refine jx_geti jc_11 (j := 21) (by decide) rfl jwF_X11_225 dX11_nextToken_288 hk99 ?_
    refine jx_aload_n 0 dX11_nextToken_291 rfl rfl ?_
    refine jx_geti jc_11 (j := 20) (by decide) rfl jwF_X11_231 dX11_nextToken_292 hk99 ?_
    refine jx_isub dX11_nextToken_295 ?_
    refine jx_iconst (v := 4) dX11_nextToken_296 (by decide) ?_
    refine jx_icmp_le (tgt := 304) dX11_nextToken_297 (by decide) (fun c100 => ?_) (fun c100 => ?_)
    · replace h := h.1 c100
      refine jx_iconst (v := 2) dX11_nextToken_304 (by decide) ?_
      refine jx_puti jc_11 (j := 22) (by decide) rfl jwF_X11_228 rfl rfl rfl dX11_nextToken_305 hk99 ?_
      refine jx_goto (tgt := 339) dX11_nextToken_308 (by decide) ?_
      exact jx_vret dX11_nextToken_339 rfl (jle rfl) (jle rfl) ⟨rfl, h⟩
    replace h := h.2 c100
    refine jx_iconst (v := 4) dX11_nextToken_300 (by decide) ?_
    refine jx_goto (tgt := 305) dX11_nextToken_301 (by decide) ?_
    refine jx_puti jc_11 (j := 22) (by decide) rfl jwF_X11_228 rfl rfl rfl dX11_nextToken_305 hk99 ?_
    refine jx_goto (tgt := 339) dX11_nextToken_308 (by decide) ?_
    exact jx_vret dX11_nextToken_339 rfl (jle rfl) (jle rfl) ⟨rfl, h⟩
  replace h := h.2 c96
  refine jx_aload_n 0 dX11_nextToken_225 rfl rfl ?_
  refine jx_aload_n 0 dX11_nextToken_226 rfl rfl ?_
  obtain ⟨hk101, h⟩ := h
  refine jx_geti jc_11 (j := 21) (by decide) rfl jwF_X11_225 dX11_nextToken_227 hk101 ?_
  refine jx_aload_n 0 dX11_nextToken_230 rfl rfl ?_
  refine jx_geti jc_11 (j := 20) (by decide) rfl jwF_X11_231 dX11_nextToken_231 hk101 ?_
  refine jx_isub dX11_nextToken_234 ?_
  refine jx_iconst (v := 4) dX11_nextToken_235 (by decide) ?_
  refine jx_icmp_ge (tgt := 262) dX11_nextToken_236 (by decide) (fun c102 => ?_) (fun c102 => ?_)
  · replace h := h.1 c102
    refine jx_aload_n 0 dX11_nextToken_262 rfl rfl ?_
    refine jx_geti jc_11 (j := 23) (by decide) rfl jwF_X11_243 dX11_nextToken_263 hk101 ?_
    refine jx_puti jc_11 (j := 23) (by decide) rfl jwF_X11_243 rfl rfl rfl dX11_nextToken_266 hk101 ?_
    refine jx_aload_n 0 dX11_nextToken_269 rfl rfl ?_
    refine jx_dup dX11_nextToken_270 rfl ?_
    refine jx_geti jc_11 (j := 21) (by decide) rfl jwF_X11_225 dX11_nextToken_271 hk101 ?_
    refine jx_topi (y := (ji S94 a0 21)) (by simp [ji_put, ji_row, ji_putr]) ?_
    refine jx_iconst (v := 1) dX11_nextToken_274 (by decide) ?_
    refine jx_iadd dX11_nextToken_275 ?_
    refine jx_puti jc_11 (j := 21) (by decide) rfl jwF_X11_225 rfl rfl rfl dX11_nextToken_276 hk101 ?_
    refine jx_goto (tgt := 214) dX11_nextToken_279 (by decide) ?_
    exact jx_lv [0, 1] rfl h
  replace h := h.2 c102
  refine jx_bipush (v := 10) dX11_nextToken_239 (by decide) ?_
  refine jx_aload_n 0 dX11_nextToken_241 rfl rfl ?_
  refine jx_geti jc_11 (j := 23) (by decide) rfl jwF_X11_243 dX11_nextToken_242 hk101 ?_
  refine jx_imul dX11_nextToken_245 ?_
  refine jx_aload_n 0 dX11_nextToken_246 rfl rfl ?_
  obtain ⟨b103, hb103, h⟩ := h
  refine jx_getr jc_11 (j := 18) (by decide) rfl jwF_X11_52 dX11_nextToken_247 hk101 hb103 ?_
  refine jx_aload_n 0 dX11_nextToken_250 rfl rfl ?_
  refine jx_geti jc_11 (j := 21) (by decide) rfl jwF_X11_225 dX11_nextToken_251 hk101 ?_
  obtain ⟨hk104, h⟩ := h
  obtain ⟨hi105, h⟩ := h
  refine jx_iald dX11_nextToken_254 hk104 hi105 ?_
  refine jx_iadd dX11_nextToken_255 ?_
  refine jx_bipush (v := 48) dX11_nextToken_256 (by decide) ?_
  refine jx_isub dX11_nextToken_258 ?_
  refine jx_goto (tgt := 266) dX11_nextToken_259 (by decide) ?_
  refine jx_puti jc_11 (j := 23) (by decide) rfl jwF_X11_243 rfl rfl rfl dX11_nextToken_266 hk101 ?_
  refine jx_aload_n 0 dX11_nextToken_269 rfl rfl ?_
  refine jx_dup dX11_nextToken_270 rfl ?_
  refine jx_geti jc_11 (j := 21) (by decide) rfl jwF_X11_225 dX11_nextToken_271 hk101 ?_
  refine jx_topi (y := (ji S94 a0 21)) (by simp [ji_put, ji_row, ji_putr]) ?_
  refine jx_iconst (v := 1) dX11_nextToken_274 (by decide) ?_
  refine jx_iadd dX11_nextToken_275 ?_
  refine jx_puti jc_11 (j := 21) (by decide) rfl jwF_X11_225 rfl rfl rfl dX11_nextToken_276 hk101 ?_
  refine jx_goto (tgt := 214) dX11_nextToken_279 (by decide) ?_
  exact jx_lv [0, 1] rfl h
set_option maxRecDepth 100000 in
set_option maxHeartbeats 4000000 in
theorem T_X11_nextToken_128 {E : jEnv} {d : Nat} {Q : jM → Prop} {a0 : Nat} {x1 : Int32} {S : jM} (h : jk S a0 = 11 ∧ jFi E mX11_isLetter d 0 0 [.ref a0, .int (ji S a0 21)] S (fun r108 S107 => (r108 = 0 → (x1 = 0 → jk S107 a0 = 11 ∧ (((ji S107 a0 21) - (ji S107 a0 20)) = 1 → ∃ b113, jr S107 a0 18 = some b113 ∧ (jk S107 b113 = 12 ∧ vp_in (ji S107 a0 20) (jl S107 b113) ∧ (Q (jput (jput S107 a0 22 1) a0 24 (ji S107 b113 (Int32.toNatClampNeg (ji S107 a0 20))))))) ∧ (¬ ((ji S107 a0 21) - (ji S107 a0 20)) = 1 → Q (jput (jput S107 a0 22 1) a0 24 0))) ∧ (¬ x1 = 0 → jk S107 a0 = 11 ∧ (((ji S107 a0 21) - (ji S107 a0 20)) = 1 → ∃ b118, jr S107 a0 18 = some b118 ∧ (jk S107 b118 = 12 ∧ vp_in (ji S107 a0 20) (jl S107 b118) ∧ (Q (jput (jput S107 a0 22 4) a0 24 (ji S107 b118 (Int32.toNatClampNeg (ji S107 a0 20))))))) ∧ (¬ ((ji S107 a0 21) - (ji S107 a0 20)) = 1 → Q (jput (jput S107 a0 22 4) a0 24 0)))) ∧ (¬ r108 = 0 → jk S107 a0 = 11 ∧ L_X11_nextToken_128 E d Q a0 x1 (jput S107 a0 21 ((ji S107 a0 21) + 1))))) : L_X11_nextToken_128 E d Q a0 x1 S := by
  show jX E mX11_nextToken (jRm (d + 1) 0 0) (jZm E (fun r S' => r = none ∧ Q S') 0 0) 128 [(0, .ref a0), (1, .int x1)] [] S 0 0
  refine jx_aload_n 0 dX11_nextToken_128 rfl rfl ?_
  refine jx_aload_n 0 dX11_nextToken_129 rfl rfl ?_
  obtain ⟨hk106, h⟩ := h
  refine jx_geti jc_11 (j := 21) (by decide) rfl jwF_X11_225 dX11_nextToken_130 hk106 ?_
  refine jx_callVi (M' := mX11_isLetter) (As := [.int (ji S a0 21)]) jo_X11_isLetter jc_11 rfl jwM_X11_234 jwN_X11_isLetter jwX_X11_isLetter dX11_nextToken_133 (jRok_m _ _ _) rfl (jle rfl) ⟨jle rfl, jle rfl⟩ hk106 h (fun r108 S107 h => ?_)
  refine jx_if_eq (tgt := 152) dX11_nextToken_136 (by decide) (fun c109 => ?_) (fun c109 => ?_)
  · replace h := h.1 c109
    refine jx_aload_n 0 dX11_nextToken_152 rfl rfl ?_
    refine jx_iload_n 1 dX11_nextToken_153 rfl rfl ?_
    refine jx_if_eq (tgt := 161) dX11_nextToken_154 (by decide) (fun c110 => ?_) (fun c110 => ?_)
    · replace h := h.1 c110
      refine jx_iconst (v := 1) dX11_nextToken_161 (by decide) ?_
      obtain ⟨hk111, h⟩ := h
      refine jx_puti jc_11 (j := 22) (by decide) rfl jwF_X11_228 rfl rfl rfl dX11_nextToken_162 hk111 ?_
      refine jx_aload_n 0 dX11_nextToken_165 rfl rfl ?_
      refine jx_aload_n 0 dX11_nextToken_166 rfl rfl ?_
      refine jx_geti jc_11 (j := 21) (by decide) rfl jwF_X11_225 dX11_nextToken_167 hk111 ?_
      refine jx_topi (y := (ji S107 a0 21)) (by simp [ji_put, ji_row, ji_putr]) ?_
      refine jx_aload_n 0 dX11_nextToken_170 rfl rfl ?_
      refine jx_geti jc_11 (j := 20) (by decide) rfl jwF_X11_231 dX11_nextToken_171 hk111 ?_
      refine jx_topi (y := (ji S107 a0 20)) (by simp [ji_put, ji_row, ji_putr]) ?_
      refine jx_isub dX11_nextToken_174 ?_
      refine jx_iconst (v := 1) dX11_nextToken_175 (by decide) ?_
      refine jx_icmp_ne (tgt := 191) dX11_nextToken_176 (by decide) (fun c112 => ?_) (fun c112 => ?_)
      · replace h := h.2 c112
        refine jx_iconst (v := 0) dX11_nextToken_191 (by decide) ?_
        refine jx_puti jc_11 (j := 24) (by decide) rfl jwF_X11_237 rfl rfl rfl dX11_nextToken_192 hk111 ?_
        refine jx_goto (tgt := 339) dX11_nextToken_195 (by decide) ?_
        exact jx_vret dX11_nextToken_339 rfl (jle rfl) (jle rfl) ⟨rfl, h⟩
      replace h := h.1 c112
      refine jx_aload_n 0 dX11_nextToken_179 rfl rfl ?_
      obtain ⟨b113, hb113, h⟩ := h
      refine jx_getr jc_11 (j := 18) (by decide) rfl jwF_X11_52 dX11_nextToken_180 hk111 hb113 ?_
      refine jx_aload_n 0 dX11_nextToken_183 rfl rfl ?_
      refine jx_geti jc_11 (j := 20) (by decide) rfl jwF_X11_231 dX11_nextToken_184 hk111 ?_
      refine jx_topi (y := (ji S107 a0 20)) (by simp [ji_put, ji_row, ji_putr]) ?_
      obtain ⟨hk114, h⟩ := h
      obtain ⟨hi115, h⟩ := h
      refine jx_iald dX11_nextToken_187 hk114 hi115 ?_
      refine jx_topi (y := (ji S107 b113 (Int32.toNatClampNeg (ji S107 a0 20)))) (by simp [ji_put, ji_row, ji_putr, jne hk114 hk111 (by decide)]) ?_
      refine jx_goto (tgt := 192) dX11_nextToken_188 (by decide) ?_
      refine jx_puti jc_11 (j := 24) (by decide) rfl jwF_X11_237 rfl rfl rfl dX11_nextToken_192 hk111 ?_
      refine jx_goto (tgt := 339) dX11_nextToken_195 (by decide) ?_
      exact jx_vret dX11_nextToken_339 rfl (jle rfl) (jle rfl) ⟨rfl, h⟩
    replace h := h.2 c110
    refine jx_iconst (v := 4) dX11_nextToken_157 (by decide) ?_
    refine jx_goto (tgt := 162) dX11_nextToken_158 (by decide) ?_
    obtain ⟨hk116, h⟩ := h
    refine jx_puti jc_11 (j := 22) (by decide) rfl jwF_X11_228 rfl rfl rfl dX11_nextToken_162 hk116 ?_
    refine jx_aload_n 0 dX11_nextToken_165 rfl rfl ?_
    refine jx_aload_n 0 dX11_nextToken_166 rfl rfl ?_
    refine jx_geti jc_11 (j := 21) (by decide) rfl jwF_X11_225 dX11_nextToken_167 hk116 ?_
    refine jx_topi (y := (ji S107 a0 21)) (by simp [ji_put, ji_row, ji_putr]) ?_
    refine jx_aload_n 0 dX11_nextToken_170 rfl rfl ?_
    refine jx_geti jc_11 (j := 20) (by decide) rfl jwF_X11_231 dX11_nextToken_171 hk116 ?_
    refine jx_topi (y := (ji S107 a0 20)) (by simp [ji_put, ji_row, ji_putr]) ?_
    refine jx_isub dX11_nextToken_174 ?_
    refine jx_iconst (v := 1) dX11_nextToken_175 (by decide) ?_
    refine jx_icmp_ne (tgt := 191) dX11_nextToken_176 (by decide) (fun c117 => ?_) (fun c117 => ?_)
    · replace h := h.2 c117
      refine jx_iconst (v := 0) dX11_nextToken_191 (by decide) ?_
      refine jx_puti jc_11 (j := 24) (by decide) rfl jwF_X11_237 rfl rfl rfl dX11_nextToken_192 hk116 ?_
      refine jx_goto (tgt := 339) dX11_nextToken_195 (by decide) ?_
      exact jx_vret dX11_nextToken_339 rfl (jle rfl) (jle rfl) ⟨rfl, h⟩
    replace h := h.1 c117
    refine jx_aload_n 0 dX11_nextToken_179 rfl rfl ?_
    obtain ⟨b118, hb118, h⟩ := h
    refine jx_getr jc_11 (j := 18) (by decide) rfl jwF_X11_52 dX11_nextToken_180 hk116 hb118 ?_
    refine jx_aload_n 0 dX11_nextToken_183 rfl rfl ?_
    refine jx_geti jc_11 (j := 20) (by decide) rfl jwF_X11_231 dX11_nextToken_184 hk116 ?_
    refine jx_topi (y := (ji S107 a0 20)) (by simp [ji_put, ji_row, ji_putr]) ?_
    obtain ⟨hk119, h⟩ := h
    obtain ⟨hi120, h⟩ := h
    refine jx_iald dX11_nextToken_187 hk119 hi120 ?_
    refine jx_topi (y := (ji S107 b118 (Int32.toNatClampNeg (ji S107 a0 20)))) (by simp [ji_put, ji_row, ji_putr, jne hk119 hk116 (by decide)]) ?_
    refine jx_goto (tgt := 192) dX11_nextToken_188 (by decide) ?_
    refine jx_puti jc_11 (j := 24) (by decide) rfl jwF_X11_237 rfl rfl rfl dX11_nextToken_192 hk116 ?_
    refine jx_goto (tgt := 339) dX11_nextToken_195 (by decide) ?_
    exact jx_vret dX11_nextToken_339 rfl (jle rfl) (jle rfl) ⟨rfl, h⟩
  replace h := h.2 c109
  refine jx_aload_n 0 dX11_nextToken_139 rfl rfl ?_
  refine jx_dup dX11_nextToken_140 rfl ?_
  obtain ⟨hk121, h⟩ := h
  refine jx_geti jc_11 (j := 21) (by decide) rfl jwF_X11_225 dX11_nextToken_141 hk121 ?_
  refine jx_iconst (v := 1) dX11_nextToken_144 (by decide) ?_
  refine jx_iadd dX11_nextToken_145 ?_
  refine jx_puti jc_11 (j := 21) (by decide) rfl jwF_X11_225 rfl rfl rfl dX11_nextToken_146 hk121 ?_
  refine jx_goto (tgt := 128) dX11_nextToken_149 (by decide) ?_
  exact jx_lv [0, 1] rfl h
set_option maxRecDepth 100000 in
set_option maxHeartbeats 4000000 in
theorem T_X11_isSign {E : jEnv} {d : Nat} {Q : Int32 → jM → Prop} {a0 : Nat} {x1 : Int32} {S : jM} (h : jk S a0 = 11 ∧ ((ji S a0 22) = 3 → ((ji S a0 24) = x1 → Q 1 S) ∧ (¬ (ji S a0 24) = x1 → Q 0 S)) ∧ (¬ (ji S a0 22) = 3 → Q 0 S)) : jFi E mX11_isSign d 0 0 [.ref a0, .int x1] S Q := by
  refine jF_of (by decide) (jle rfl) ?_
  refine jx_lv (lv1 := [(0, .ref a0), (1, .int x1)]) [0, 1] rfl ?_
  refine jx_aload_n 0 dX11_isSign_0 rfl rfl ?_
  obtain ⟨hk1, h⟩ := h
  refine jx_geti jc_11 (j := 22) (by decide) rfl jwF_X11_228 dX11_isSign_1 hk1 ?_
  refine jx_iconst (v := 3) dX11_isSign_4 (by decide) ?_
  refine jx_icmp_ne (tgt := 20) dX11_isSign_5 (by decide) (fun c2 => ?_) (fun c2 => ?_)
  · replace h := h.2 c2
    refine jx_iconst (v := 0) dX11_isSign_20 (by decide) ?_
    exact jx_iret dX11_isSign_21 rfl (by decide) (jle rfl) (jle rfl) ⟨_, rfl, h⟩
  replace h := h.1 c2
  refine jx_aload_n 0 dX11_isSign_8 rfl rfl ?_
  refine jx_geti jc_11 (j := 24) (by decide) rfl jwF_X11_237 dX11_isSign_9 hk1 ?_
  refine jx_iload_n 1 dX11_isSign_12 rfl rfl ?_
  refine jx_icmp_ne (tgt := 20) dX11_isSign_13 (by decide) (fun c3 => ?_) (fun c3 => ?_)
  · replace h := h.2 c3
    refine jx_iconst (v := 0) dX11_isSign_20 (by decide) ?_
    exact jx_iret dX11_isSign_21 rfl (by decide) (jle rfl) (jle rfl) ⟨_, rfl, h⟩
  replace h := h.1 c3
  refine jx_iconst (v := 1) dX11_isSign_16 (by decide) ?_
  refine jx_goto (tgt := 21) dX11_isSign_17 (by decide) ?_
  exact jx_iret dX11_isSign_21 rfl (by decide) (jle rfl) (jle rfl) ⟨_, rfl, h⟩
set_option maxRecDepth 100000 in
set_option maxHeartbeats 4000000 in
theorem T_X11_isWordAt {E : jEnv} {d : Nat} {Q : Int32 → jM → Prop} {a0 : Nat} {x1 : Int32} {x2 : Int32} {x3 : Int32} {x4 : Int32} {S : jM} (h : (x4 = 0 → jk S a0 = 11 ∧ ((ji S a0 22) = 1 → (((ji S a0 21) - (ji S a0 20)) = 3 → ∃ b18, jr S a0 18 = some b18 ∧ (jk S b18 = 12 ∧ vp_in (ji S a0 20) (jl S b18) ∧ (((ji S b18 (Int32.toNatClampNeg (ji S a0 20))) = x1 → vp_in ((ji S a0 20) + 1) (jl S b18) ∧ (((ji S b18 (Int32.toNatClampNeg ((ji S a0 20) + 1))) = x2 → vp_in ((ji S a0 20) + 2) (jl S b18) ∧ (((ji S b18 (Int32.toNatClampNeg ((ji S a0 20) + 2))) = x3 → Q 1 S) ∧ (¬ (ji S b18 (Int32.toNatClampNeg ((ji S a0 20) + 2))) = x3 → Q 0 S))) ∧ (¬ (ji S b18 (Int32.toNatClampNeg ((ji S a0 20) + 1))) = x2 → Q 0 S))) ∧ (¬ (ji S b18 (Int32.toNatClampNeg (ji S a0 20))) = x1 → Q 0 S)))) ∧ (¬ ((ji S a0 21) - (ji S a0 20)) = 3 → Q 0 S)) ∧ (¬ (ji S a0 22) = 1 → Q 0 S)) ∧ (¬ x4 = 0 → jk S a0 = 11 ∧ ((ji S a0 22) = 1 → (((ji S a0 21) - (ji S a0 20)) = 4 → ∃ b5, jr S a0 18 = some b5 ∧ (jk S b5 = 12 ∧ vp_in (ji S a0 20) (jl S b5) ∧ (((ji S b5 (Int32.toNatClampNeg (ji S a0 20))) = x1 → vp_in ((ji S a0 20) + 1) (jl S b5) ∧ (((ji S b5 (Int32.toNatClampNeg ((ji S a0 20) + 1))) = x2 → vp_in ((ji S a0 20) + 2) (jl S b5) ∧ (((ji S b5 (Int32.toNatClampNeg ((ji S a0 20) + 2))) = x3 → vp_in ((ji S a0 20) + 3) (jl S b5) ∧ (((ji S b5 (Int32.toNatClampNeg ((ji S a0 20) + 3))) = x4 → Q 1 S) ∧ (¬ (ji S b5 (Int32.toNatClampNeg ((ji S a0 20) + 3))) = x4 → Q 0 S))) ∧ (¬ (ji S b5 (Int32.toNatClampNeg ((ji S a0 20) + 2))) = x3 → Q 0 S))) ∧ (¬ (ji S b5 (Int32.toNatClampNeg ((ji S a0 20) + 1))) = x2 → Q 0 S))) ∧ (¬ (ji S b5 (Int32.toNatClampNeg (ji S a0 20))) = x1 → Q 0 S)))) ∧ (¬ ((ji S a0 21) - (ji S a0 20)) = 4 → Q 0 S)) ∧ (¬ (ji S a0 22) = 1 → Q 0 S))) : jFi E mX11_isWordAt d 0 0 [.ref a0, .int x1, .int x2, .int x3, .int x4] S Q := by
  refine jF_of (by decide) (jle rfl) ?_
  refine jx_lv (lv1 := [(0, .ref a0), (1, .int x1), (2, .int x2), (3, .int x3), (4, .int x4)]) [0, 1, 2, 3, 4] rfl ?_
  refine jx_iload 4 dX11_isWordAt_0 rfl ?_
  refine jx_if_ne (tgt := 9) dX11_isWordAt_2 (by decide) (fun c1 => ?_) (fun c1 => ?_)
  · replace h := h.2 c1
    refine jx_iconst (v := 4) dX11_isWordAt_9 (by decide) ?_
    refine jx_istore (lv1 := [(5, .int 4), (0, .ref a0), (1, .int x1), (2, .int x2), (3, .int x3), (4, .int x4)]) dX11_isWordAt_10 (by decide) rfl ?_
    refine jx_aload_n 1 dX11_isWordAt_12 rfl rfl ?_
    obtain ⟨hk2, h⟩ := h
    refine jx_geti jc_11 (j := 22) (by decide) rfl jwF_X11_228 dX11_isWordAt_13 hk2 ?_
    refine jx_iconst (v := 1) dX11_isWordAt_16 (by decide) ?_
    refine jx_icmp_ne (tgt := 102) dX11_isWordAt_17 (by decide) (fun c3 => ?_) (fun c3 => ?_)
    · replace h := h.2 c3
      refine jx_iconst (v := 0) dX11_isWordAt_102 (by decide) ?_
      exact jx_iret dX11_isWordAt_103 rfl (by decide) (jle rfl) (jle rfl) ⟨_, rfl, h⟩
    replace h := h.1 c3
    refine jx_aload_n 1 dX11_isWordAt_20 rfl rfl ?_
    refine jx_geti jc_11 (j := 21) (by decide) rfl jwF_X11_225 dX11_isWordAt_21 hk2 ?_
    refine jx_aload_n 1 dX11_isWordAt_24 rfl rfl ?_
    refine jx_geti jc_11 (j := 20) (by decide) rfl jwF_X11_231 dX11_isWordAt_25 hk2 ?_
    refine jx_isub dX11_isWordAt_28 ?_
    refine jx_iload 0 dX11_isWordAt_29 rfl ?_
    refine jx_icmp_ne (tgt := 102) dX11_isWordAt_31 (by decide) (fun c4 => ?_) (fun c4 => ?_)
    · replace h := h.2 c4
      refine jx_iconst (v := 0) dX11_isWordAt_102 (by decide) ?_
      exact jx_iret dX11_isWordAt_103 rfl (by decide) (jle rfl) (jle rfl) ⟨_, rfl, h⟩
    replace h := h.1 c4
    refine jx_aload_n 1 dX11_isWordAt_34 rfl rfl ?_
    obtain ⟨b5, hb5, h⟩ := h
    refine jx_getr jc_11 (j := 18) (by decide) rfl jwF_X11_52 dX11_isWordAt_35 hk2 hb5 ?_
    refine jx_aload_n 1 dX11_isWordAt_38 rfl rfl ?_
    refine jx_geti jc_11 (j := 20) (by decide) rfl jwF_X11_231 dX11_isWordAt_39 hk2 ?_
    obtain ⟨hk6, h⟩ := h
    obtain ⟨hi7, h⟩ := h
    refine jx_iald dX11_isWordAt_42 hk6 hi7 ?_
    refine jx_iload_n 2 dX11_isWordAt_43 rfl rfl ?_
    refine jx_icmp_ne (tgt := 102) dX11_isWordAt_44 (by decide) (fun c8 => ?_) (fun c8 => ?_)
    · replace h := h.2 c8
      refine jx_iconst (v := 0) dX11_isWordAt_102 (by decide) ?_
      exact jx_iret dX11_isWordAt_103 rfl (by decide) (jle rfl) (jle rfl) ⟨_, rfl, h⟩
    replace h := h.1 c8
    refine jx_aload_n 1 dX11_isWordAt_47 rfl rfl ?_
    refine jx_getr jc_11 (j := 18) (by decide) rfl jwF_X11_52 dX11_isWordAt_48 hk2 hb5 ?_
    refine jx_aload_n 1 dX11_isWordAt_51 rfl rfl ?_
    refine jx_geti jc_11 (j := 20) (by decide) rfl jwF_X11_231 dX11_isWordAt_52 hk2 ?_
    refine jx_iconst (v := 1) dX11_isWordAt_55 (by decide) ?_
    refine jx_iadd dX11_isWordAt_56 ?_
    obtain ⟨hi9, h⟩ := h
    refine jx_iald dX11_isWordAt_57 hk6 hi9 ?_
    refine jx_iload_n 3 dX11_isWordAt_58 rfl rfl ?_
    refine jx_icmp_ne (tgt := 102) dX11_isWordAt_59 (by decide) (fun c10 => ?_) (fun c10 => ?_)
    · replace h := h.2 c10
      refine jx_iconst (v := 0) dX11_isWordAt_102 (by decide) ?_
      exact jx_iret dX11_isWordAt_103 rfl (by decide) (jle rfl) (jle rfl) ⟨_, rfl, h⟩
    replace h := h.1 c10
    refine jx_aload_n 1 dX11_isWordAt_62 rfl rfl ?_
    refine jx_getr jc_11 (j := 18) (by decide) rfl jwF_X11_52 dX11_isWordAt_63 hk2 hb5 ?_
    refine jx_aload_n 1 dX11_isWordAt_66 rfl rfl ?_
    refine jx_geti jc_11 (j := 20) (by decide) rfl jwF_X11_231 dX11_isWordAt_67 hk2 ?_
    refine jx_iconst (v := 2) dX11_isWordAt_70 (by decide) ?_
    refine jx_iadd dX11_isWordAt_71 ?_
    obtain ⟨hi11, h⟩ := h
    refine jx_iald dX11_isWordAt_72 hk6 hi11 ?_
    refine jx_iload_n 4 dX11_isWordAt_73 rfl rfl ?_
    refine jx_icmp_ne (tgt := 102) dX11_isWordAt_74 (by decide) (fun c12 => ?_) (fun c12 => ?_)
    · replace h := h.2 c12
      refine jx_iconst (v := 0) dX11_isWordAt_102 (by decide) ?_
      exact jx_iret dX11_isWordAt_103 rfl (by decide) (jle rfl) (jle rfl) ⟨_, rfl, h⟩
    replace h := h.1 c12
    refine jx_iload 5 dX11_isWordAt_77 rfl ?_
    refine jx_if_eq (tgt := 98) dX11_isWordAt_79 (by decide) (fun z9 => absurd z9 c1) (fun _ => ?_)
    refine jx_aload_n 1 dX11_isWordAt_82 rfl rfl ?_
    refine jx_getr jc_11 (j := 18) (by decide) rfl jwF_X11_52 dX11_isWordAt_83 hk2 hb5 ?_
    refine jx_aload_n 1 dX11_isWordAt_86 rfl rfl ?_
    refine jx_geti jc_11 (j := 20) (by decide) rfl jwF_X11_231 dX11_isWordAt_87 hk2 ?_
    refine jx_iconst (v := 3) dX11_isWordAt_90 (by decide) ?_
    refine jx_iadd dX11_isWordAt_91 ?_
    obtain ⟨hi13, h⟩ := h
    refine jx_iald dX11_isWordAt_92 hk6 hi13 ?_
    refine jx_iload 5 dX11_isWordAt_93 rfl ?_
    refine jx_icmp_ne (tgt := 102) dX11_isWordAt_95 (by decide) (fun c14 => ?_) (fun c14 => ?_)
    · replace h := h.2 c14
      refine jx_iconst (v := 0) dX11_isWordAt_102 (by decide) ?_
      exact jx_iret dX11_isWordAt_103 rfl (by decide) (jle rfl) (jle rfl) ⟨_, rfl, h⟩
    replace h := h.1 c14
    refine jx_iconst (v := 1) dX11_isWordAt_98 (by decide) ?_
    refine jx_goto (tgt := 103) dX11_isWordAt_99 (by decide) ?_
    exact jx_iret dX11_isWordAt_103 rfl (by decide) (jle rfl) (jle rfl) ⟨_, rfl, h⟩
  replace h := h.1 c1
  refine jx_iconst (v := 3) dX11_isWordAt_5 (by decide) ?_
  refine jx_goto (tgt := 10) dX11_isWordAt_6 (by decide) ?_
  refine jx_istore (lv1 := [(5, .int 3), (0, .ref a0), (1, .int x1), (2, .int x2), (3, .int x3), (4, .int x4)]) dX11_isWordAt_10 (by decide) rfl ?_
  refine jx_aload_n 1 dX11_isWordAt_12 rfl rfl ?_
  obtain ⟨hk15, h⟩ := h
  refine jx_geti jc_11 (j := 22) (by decide) rfl jwF_X11_228 dX11_isWordAt_13 hk15 ?_
  refine jx_iconst (v := 1) dX11_isWordAt_16 (by decide) ?_
  refine jx_icmp_ne (tgt := 102) dX11_isWordAt_17 (by decide) (fun c16 => ?_) (fun c16 => ?_)
  · replace h := h.2 c16
    refine jx_iconst (v := 0) dX11_isWordAt_102 (by decide) ?_
    exact jx_iret dX11_isWordAt_103 rfl (by decide) (jle rfl) (jle rfl) ⟨_, rfl, h⟩
  replace h := h.1 c16
  refine jx_aload_n 1 dX11_isWordAt_20 rfl rfl ?_
  refine jx_geti jc_11 (j := 21) (by decide) rfl jwF_X11_225 dX11_isWordAt_21 hk15 ?_
  refine jx_aload_n 1 dX11_isWordAt_24 rfl rfl ?_
  refine jx_geti jc_11 (j := 20) (by decide) rfl jwF_X11_231 dX11_isWordAt_25 hk15 ?_
  refine jx_isub dX11_isWordAt_28 ?_
  refine jx_iload 0 dX11_isWordAt_29 rfl ?_
  refine jx_icmp_ne (tgt := 102) dX11_isWordAt_31 (by decide) (fun c17 => ?_) (fun c17 => ?_)
  · replace h := h.2 c17
    refine jx_iconst (v := 0) dX11_isWordAt_102 (by decide) ?_
    exact jx_iret dX11_isWordAt_103 rfl (by decide) (jle rfl) (jle rfl) ⟨_, rfl, h⟩
  replace h := h.1 c17
  refine jx_aload_n 1 dX11_isWordAt_34 rfl rfl ?_
  obtain ⟨b18, hb18, h⟩ := h
  refine jx_getr jc_11 (j := 18) (by decide) rfl jwF_X11_52 dX11_isWordAt_35 hk15 hb18 ?_
  refine jx_aload_n 1 dX11_isWordAt_38 rfl rfl ?_
  refine jx_geti jc_11 (j := 20) (by decide) rfl jwF_X11_231 dX11_isWordAt_39 hk15 ?_
  obtain ⟨hk19, h⟩ := h
  obtain ⟨hi20, h⟩ := h
  refine jx_iald dX11_isWordAt_42 hk19 hi20 ?_
  refine jx_iload_n 2 dX11_isWordAt_43 rfl rfl ?_
  refine jx_icmp_ne (tgt := 102) dX11_isWordAt_44 (by decide) (fun c21 => ?_) (fun c21 => ?_)
  · replace h := h.2 c21
    refine jx_iconst (v := 0) dX11_isWordAt_102 (by decide) ?_
    exact jx_iret dX11_isWordAt_103 rfl (by decide) (jle rfl) (jle rfl) ⟨_, rfl, h⟩
  replace h := h.1 c21
  refine jx_aload_n 1 dX11_isWordAt_47 rfl rfl ?_
  refine jx_getr jc_11 (j := 18) (by decide) rfl jwF_X11_52 dX11_isWordAt_48 hk15 hb18 ?_
  refine jx_aload_n 1 dX11_isWordAt_51 rfl rfl ?_
  refine jx_geti jc_11 (j := 20) (by decide) rfl jwF_X11_231 dX11_isWordAt_52 hk15 ?_
  refine jx_iconst (v := 1) dX11_isWordAt_55 (by decide) ?_
  refine jx_iadd dX11_isWordAt_56 ?_
  obtain ⟨hi22, h⟩ := h
  refine jx_iald dX11_isWordAt_57 hk19 hi22 ?_
  refine jx_iload_n 3 dX11_isWordAt_58 rfl rfl ?_
  refine jx_icmp_ne (tgt := 102) dX11_isWordAt_59 (by decide) (fun c23 => ?_) (fun c23 => ?_)
  · replace h := h.2 c23
    refine jx_iconst (v := 0) dX11_isWordAt_102 (by decide) ?_
    exact jx_iret dX11_isWordAt_103 rfl (by decide) (jle rfl) (jle rfl) ⟨_, rfl, h⟩
  replace h := h.1 c23
  refine jx_aload_n 1 dX11_isWordAt_62 rfl rfl ?_
  refine jx_getr jc_11 (j := 18) (by decide) rfl jwF_X11_52 dX11_isWordAt_63 hk15 hb18 ?_
  refine jx_aload_n 1 dX11_isWordAt_66 rfl rfl ?_
  refine jx_geti jc_11 (j := 20) (by decide) rfl jwF_X11_231 dX11_isWordAt_67 hk15 ?_
  refine jx_iconst (v := 2) dX11_isWordAt_70 (by decide) ?_
  refine jx_iadd dX11_isWordAt_71 ?_
  obtain ⟨hi24, h⟩ := h
  refine jx_iald dX11_isWordAt_72 hk19 hi24 ?_
  refine jx_iload_n 4 dX11_isWordAt_73 rfl rfl ?_
  refine jx_icmp_ne (tgt := 102) dX11_isWordAt_74 (by decide) (fun c25 => ?_) (fun c25 => ?_)
  · replace h := h.2 c25
    refine jx_iconst (v := 0) dX11_isWordAt_102 (by decide) ?_
    exact jx_iret dX11_isWordAt_103 rfl (by decide) (jle rfl) (jle rfl) ⟨_, rfl, h⟩
  replace h := h.1 c25
  refine jx_iload 5 dX11_isWordAt_77 rfl ?_
  refine jx_if_eq (tgt := 98) dX11_isWordAt_79 (by decide) (fun _ => ?_) (fun z9 => absurd c1 z9)
  refine jx_iconst (v := 1) dX11_isWordAt_98 (by decide) ?_
  refine jx_goto (tgt := 103) dX11_isWordAt_99 (by decide) ?_
  exact jx_iret dX11_isWordAt_103 rfl (by decide) (jle rfl) (jle rfl) ⟨_, rfl, h⟩
set_option maxRecDepth 100000 in
set_option maxHeartbeats 4000000 in
theorem T_X11_key {E : jEnv} {d : Nat} {Q : Int32 → jM → Prop} {a0 : Nat} {S : jM} (h : jk S a0 = 11 ∧ jFi E mX11_isWordAt d 0 0 [.ref a0, .int 116, .int 101, .int 114, .int 109] S (fun r3 S2 => (r3 = 0 → jk S2 a0 = 11 ∧ jFi E mX11_isWordAt d 0 0 [.ref a0, .int 102, .int 97, .int 109, .int 101] S2 (fun r7 S6 => (r7 = 0 → jk S6 a0 = 11 ∧ jFi E mX11_isWordAt d 0 0 [.ref a0, .int 102, .int 105, .int 110, .int 101] S6 (fun r11 S10 => (r11 = 0 → Q (-1) S10) ∧ (¬ r11 = 0 → Q 2 S10))) ∧ (¬ r7 = 0 → Q 1 S6))) ∧ (¬ r3 = 0 → Q 0 S2))) : jFi E mX11_key (d + 1) 0 0 [.ref a0] S Q := by
  refine jF_of (by decide) (jle rfl) ?_
  refine jx_lv (lv1 := [(0, .ref a0)]) [0] rfl ?_
  refine jx_aload_n 0 dX11_key_0 rfl rfl ?_
  refine jx_bipush (v := 116) dX11_key_1 (by decide) ?_
  refine jx_bipush (v := 101) dX11_key_3 (by decide) ?_
  refine jx_bipush (v := 114) dX11_key_5 (by decide) ?_
  refine jx_bipush (v := 109) dX11_key_7 (by decide) ?_
  obtain ⟨hk1, h⟩ := h
  refine jx_callVi (M' := mX11_isWordAt) (As := [.int 116, .int 101, .int 114, .int 109]) jo_X11_isWordAt jc_11 rfl jwM_X11_246 jwN_X11_isWordAt jwX_X11_isWordAt dX11_key_9 (jRok_m _ _ _) rfl (jle rfl) ⟨jle rfl, jle rfl⟩ hk1 h (fun r3 S2 h => ?_)
  refine jx_if_eq (tgt := 17) dX11_key_12 (by decide) (fun c4 => ?_) (fun c4 => ?_)
  · replace h := h.1 c4
    refine jx_aload_n 0 dX11_key_17 rfl rfl ?_
    refine jx_bipush (v := 102) dX11_key_18 (by decide) ?_
    refine jx_bipush (v := 97) dX11_key_20 (by decide) ?_
    refine jx_bipush (v := 109) dX11_key_22 (by decide) ?_
    refine jx_bipush (v := 101) dX11_key_24 (by decide) ?_
    obtain ⟨hk5, h⟩ := h
    refine jx_callVi (M' := mX11_isWordAt) (As := [.int 102, .int 97, .int 109, .int 101]) jo_X11_isWordAt jc_11 rfl jwM_X11_246 jwN_X11_isWordAt jwX_X11_isWordAt dX11_key_26 (jRok_m _ _ _) rfl (jle rfl) ⟨jle rfl, jle rfl⟩ hk5 h (fun r7 S6 h => ?_)
    refine jx_if_eq (tgt := 34) dX11_key_29 (by decide) (fun c8 => ?_) (fun c8 => ?_)
    · replace h := h.1 c8
      refine jx_aload_n 0 dX11_key_34 rfl rfl ?_
      refine jx_bipush (v := 102) dX11_key_35 (by decide) ?_
      refine jx_bipush (v := 105) dX11_key_37 (by decide) ?_
      refine jx_bipush (v := 110) dX11_key_39 (by decide) ?_
      refine jx_bipush (v := 101) dX11_key_41 (by decide) ?_
      obtain ⟨hk9, h⟩ := h
      refine jx_callVi (M' := mX11_isWordAt) (As := [.int 102, .int 105, .int 110, .int 101]) jo_X11_isWordAt jc_11 rfl jwM_X11_246 jwN_X11_isWordAt jwX_X11_isWordAt dX11_key_43 (jRok_m _ _ _) rfl (jle rfl) ⟨jle rfl, jle rfl⟩ hk9 h (fun r11 S10 h => ?_)
      refine jx_if_eq (tgt := 53) dX11_key_46 (by decide) (fun c12 => ?_) (fun c12 => ?_)
      · replace h := h.1 c12
        refine jx_iconst (v := (-1)) dX11_key_53 (by decide) ?_
        exact jx_iret dX11_key_54 rfl rfl (jle rfl) (jle rfl) ⟨_, rfl, h⟩
      replace h := h.2 c12
      refine jx_iconst (v := 2) dX11_key_49 (by decide) ?_
      refine jx_goto (tgt := 54) dX11_key_50 (by decide) ?_
      exact jx_iret dX11_key_54 rfl rfl (jle rfl) (jle rfl) ⟨_, rfl, h⟩
    replace h := h.2 c8
    refine jx_iconst (v := 1) dX11_key_32 (by decide) ?_
    exact jx_iret dX11_key_33 rfl rfl (jle rfl) (jle rfl) ⟨_, rfl, h⟩
  replace h := h.2 c4
  refine jx_iconst (v := 0) dX11_key_15 (by decide) ?_
  exact jx_iret dX11_key_16 rfl rfl (jle rfl) (jle rfl) ⟨_, rfl, h⟩
set_option maxRecDepth 100000 in
set_option maxHeartbeats 4000000 in
theorem T_X11_step {E : jEnv} {d : Nat} {Q : jM → Prop} {a0 : Nat} {x1 : Int32} {x2 : Int32} {S : jM} (h : jk S a0 = 11 ∧ ∃ b2, jr S a0 0 = some b2 ∧ (jk S b2 = 12 ∧ vp_in ((ji S a0 28) + (2 * (ji S a0 27))) (jl S b2) ∧ (vp_in (((ji S a0 28) + (2 * (ji S a0 27))) + 1) (jl S b2) ∧ (Q (jput (jput (jput S b2 (Int32.toNatClampNeg ((ji S a0 28) + (2 * (ji S a0 27)))) x1) b2 (Int32.toNatClampNeg (((ji S a0 28) + (2 * (ji S a0 27))) + 1)) x2) a0 27 ((ji S a0 27) + 1)))))) : jFv E mX11_step d 0 0 [.ref a0, .int x1, .int x2] S Q := by
  refine jF_of (by decide) (jle rfl) ?_
  refine jx_lv (lv1 := [(0, .ref a0), (1, .int x1), (2, .int x2)]) [0, 1, 2] rfl ?_
  refine jx_aload_n 0 dX11_step_0 rfl rfl ?_
  obtain ⟨hk1, h⟩ := h
  obtain ⟨b2, hb2, h⟩ := h
  refine jx_getr jc_11 (j := 0) (by decide) rfl jwF_X11_7 dX11_step_1 hk1 hb2 ?_
  refine jx_aload_n 0 dX11_step_4 rfl rfl ?_
  refine jx_geti jc_11 (j := 28) (by decide) rfl jwF_X11_250 dX11_step_5 hk1 ?_
  refine jx_iconst (v := 2) dX11_step_8 (by decide) ?_
  refine jx_aload_n 0 dX11_step_9 rfl rfl ?_
  refine jx_geti jc_11 (j := 27) (by decide) rfl jwF_X11_253 dX11_step_10 hk1 ?_
  refine jx_imul dX11_step_13 ?_
  refine jx_iadd dX11_step_14 ?_
  refine jx_iload_n 1 dX11_step_15 rfl rfl ?_
  obtain ⟨hk3, h⟩ := h
  obtain ⟨hi4, h⟩ := h
  refine jx_iast dX11_step_16 hk3 hi4 ?_
  refine jx_aload_n 0 dX11_step_17 rfl rfl ?_
  refine jx_getr jc_11 (j := 0) (by decide) rfl jwF_X11_7 dX11_step_18 hk1 hb2 ?_
  refine jx_aload_n 0 dX11_step_21 rfl rfl ?_
  refine jx_geti jc_11 (j := 28) (by decide) rfl jwF_X11_250 dX11_step_22 hk1 ?_
  refine jx_topi (y := (ji S a0 28)) (by simp [ji_put, ji_row, ji_putr, jne hk1 hk3 (by decide)]) ?_
  refine jx_iconst (v := 2) dX11_step_25 (by decide) ?_
  refine jx_aload_n 0 dX11_step_26 rfl rfl ?_
  refine jx_geti jc_11 (j := 27) (by decide) rfl jwF_X11_253 dX11_step_27 hk1 ?_
  refine jx_topi (y := (ji S a0 27)) (by simp [ji_put, ji_row, ji_putr, jne hk1 hk3 (by decide)]) ?_
  refine jx_imul dX11_step_30 ?_
  refine jx_iadd dX11_step_31 ?_
  refine jx_iconst (v := 1) dX11_step_32 (by decide) ?_
  refine jx_iadd dX11_step_33 ?_
  refine jx_iload_n 2 dX11_step_34 rfl rfl ?_
  obtain ⟨hi5, h⟩ := h
  refine jx_iast dX11_step_35 hk3 hi5 ?_
  refine jx_aload_n 0 dX11_step_36 rfl rfl ?_
  refine jx_dup dX11_step_37 rfl ?_
  refine jx_geti jc_11 (j := 27) (by decide) rfl jwF_X11_253 dX11_step_38 hk1 ?_
  refine jx_topi (y := (ji S a0 27)) (by simp [ji_put, ji_row, ji_putr, jne hk1 hk3 (by decide), jne hk1 hk3 (by decide)]) ?_
  refine jx_iconst (v := 1) dX11_step_41 (by decide) ?_
  refine jx_iadd dX11_step_42 ?_
  refine jx_puti jc_11 (j := 27) (by decide) rfl jwF_X11_253 rfl rfl rfl dX11_step_43 hk1 ?_
  exact jx_vret dX11_step_46 rfl (jle rfl) (jle rfl) ⟨rfl, h⟩
/-- X11_either at its loop's head 10 -/
abbrev L_X11_either_10 (E : jEnv) (d : Nat) (Q : Int32 → jM → Prop) (a0 : Nat) (x1 : Int32) (S : jM) : Prop := jX E mX11_either (jRm (d + 1) 0 0) (jZm E (fun r S' => ∃ v : Int32, r = some (.int v) ∧ Q v S') 0 0) 10 [(0, .ref a0), (1, .int x1)] [] S 0 0
set_option maxRecDepth 100000 in
set_option maxHeartbeats 4000000 in
theorem T_X11_either {E : jEnv} {d : Nat} {Q : Int32 → jM → Prop} {a0 : Nat} {x1 : Int32} {S : jM} (h : jk S a0 = 11 ∧ jFi E mX11_both d 0 0 [.ref a0, .int x1] S (fun r3 S2 => (r3 = 0 → Q 0 S2) ∧ (¬ r3 = 0 → L_X11_either_10 E d Q a0 x1 S2))) : jFi E mX11_either (d + 1) 0 0 [.ref a0, .int x1] S Q := by
  refine jF_of (by decide) (jle rfl) ?_
  refine jx_lv (lv1 := [(0, .ref a0), (1, .int x1)]) [0, 1] rfl ?_
  refine jx_aload_n 0 dX11_either_0 rfl rfl ?_
  refine jx_iload_n 1 dX11_either_1 rfl rfl ?_
  obtain ⟨hk1, h⟩ := h
  refine jx_callVi (M' := mX11_both) (As := [.int x1]) jo_X11_both jc_11 rfl jwM_X11_256 jwN_X11_both jwX_X11_both dX11_either_2 (jRok_m _ _ _) rfl (jle rfl) ⟨jle rfl, jle rfl⟩ hk1 h (fun r3 S2 h => ?_)
  refine jx_if_ne (tgt := 10) dX11_either_5 (by decide) (fun c4 => ?_) (fun c4 => ?_)
  · replace h := h.2 c4
    exact jx_lv [0, 1] rfl h
  replace h := h.1 c4
  refine jx_iconst (v := 0) dX11_either_8 (by decide) ?_
  exact jx_iret dX11_either_9 rfl (by decide) (jle rfl) (jle rfl) ⟨_, rfl, h⟩
set_option maxRecDepth 100000 in
set_option maxHeartbeats 4000000 in
theorem T_X11_either_10 {E : jEnv} {d : Nat} {Q : Int32 → jM → Prop} {a0 : Nat} {x1 : Int32} {S : jM} (h : jk S a0 = 11 ∧ jFi E mX11_isSign d 0 0 [.ref a0, .int 124] S (fun r7 S6 => (r7 = 0 → Q 1 S6) ∧ (¬ r7 = 0 → jk S6 a0 = 11 ∧ jFv E mX11_nextToken d 0 0 [.ref a0] S6 (fun S10 => jk S10 a0 = 11 ∧ jFi E mX11_both d 0 0 [.ref a0, .int x1] S10 (fun r13 S12 => (r13 = 0 → Q 0 S12) ∧ (¬ r13 = 0 → jk S12 a0 = 11 ∧ jFv E mX11_step d 0 0 [.ref a0, .int 2, .int 124] S12 (fun S16 => L_X11_either_10 E d Q a0 x1 S16))))))) : L_X11_either_10 E d Q a0 x1 S := by
  show jX E mX11_either (jRm (d + 1) 0 0) (jZm E (fun r S' => ∃ v : Int32, r = some (.int v) ∧ Q v S') 0 0) 10 [(0, .ref a0), (1, .int x1)] [] S 0 0
  refine jx_aload_n 0 dX11_either_10 rfl rfl ?_
  refine jx_bipush (v := 124) dX11_either_11 (by decide) ?_
  obtain ⟨hk5, h⟩ := h
  refine jx_callVi (M' := mX11_isSign) (As := [.int 124]) jo_X11_isSign jc_11 rfl jwM_X11_259 jwN_X11_isSign jwX_X11_isSign dX11_either_13 (jRok_m _ _ _) rfl (jle rfl) ⟨jle rfl, jle rfl⟩ hk5 h (fun r7 S6 h => ?_)
  refine jx_if_eq (tgt := 43) dX11_either_16 (by decide) (fun c8 => ?_) (fun c8 => ?_)
  · replace h := h.1 c8
    refine jx_iconst (v := 1) dX11_either_43 (by decide) ?_
    exact jx_iret dX11_either_44 rfl (by decide) (jle rfl) (jle rfl) ⟨_, rfl, h⟩
  replace h := h.2 c8
  refine jx_aload_n 0 dX11_either_19 rfl rfl ?_
  obtain ⟨hk9, h⟩ := h
  refine jx_callVv (M' := mX11_nextToken) (As := []) jo_X11_nextToken jc_11 rfl jwM_X11_262 jwN_X11_nextToken jwX_X11_nextToken dX11_either_20 (jRok_m _ _ _) rfl (jle rfl) ⟨jle rfl, jle rfl⟩ hk9 h (fun S10 h => ?_)
  refine jx_aload_n 0 dX11_either_23 rfl rfl ?_
  refine jx_iload_n 1 dX11_either_24 rfl rfl ?_
  obtain ⟨hk11, h⟩ := h
  refine jx_callVi (M' := mX11_both) (As := [.int x1]) jo_X11_both jc_11 rfl jwM_X11_256 jwN_X11_both jwX_X11_both dX11_either_25 (jRok_m _ _ _) rfl (jle rfl) ⟨jle rfl, jle rfl⟩ hk11 h (fun r13 S12 h => ?_)
  refine jx_if_ne (tgt := 33) dX11_either_28 (by decide) (fun c14 => ?_) (fun c14 => ?_)
  · replace h := h.2 c14
    refine jx_aload_n 0 dX11_either_33 rfl rfl ?_
    refine jx_iconst (v := 2) dX11_either_34 (by decide) ?_
    refine jx_bipush (v := 124) dX11_either_35 (by decide) ?_
    obtain ⟨hk15, h⟩ := h
    refine jx_callVv (M' := mX11_step) (As := [.int 2, .int 124]) jo_X11_step jc_11 rfl jwM_X11_265 jwN_X11_step jwX_X11_step dX11_either_37 (jRok_m _ _ _) rfl (jle rfl) ⟨jle rfl, jle rfl⟩ hk15 h (fun S16 h => ?_)
    refine jx_goto (tgt := 10) dX11_either_40 (by decide) ?_
    exact jx_lv [0, 1] rfl h
  replace h := h.1 c14
  refine jx_iconst (v := 0) dX11_either_31 (by decide) ?_
  exact jx_iret dX11_either_32 rfl (by decide) (jle rfl) (jle rfl) ⟨_, rfl, h⟩
/-- X11_both at its loop's head 10 -/
abbrev L_X11_both_10 (E : jEnv) (d : Nat) (Q : Int32 → jM → Prop) (a0 : Nat) (x1 : Int32) (S : jM) : Prop := jX E mX11_both (jRm (d + 1) 0 0) (jZm E (fun r S' => ∃ v : Int32, r = some (.int v) ∧ Q v S') 0 0) 10 [(0, .ref a0), (1, .int x1)] [] S 0 0
set_option maxRecDepth 100000 in
set_option maxHeartbeats 4000000 in
theorem T_X11_both {E : jEnv} {d : Nat} {Q : Int32 → jM → Prop} {a0 : Nat} {x1 : Int32} {S : jM} (h : jk S a0 = 11 ∧ jFi E mX11_test d 0 0 [.ref a0, .int x1] S (fun r3 S2 => (r3 = 0 → Q 0 S2) ∧ (¬ r3 = 0 → L_X11_both_10 E d Q a0 x1 S2))) : jFi E mX11_both (d + 1) 0 0 [.ref a0, .int x1] S Q := by
  refine jF_of (by decide) (jle rfl) ?_
  refine jx_lv (lv1 := [(0, .ref a0), (1, .int x1)]) [0, 1] rfl ?_
  refine jx_aload_n 0 dX11_both_0 rfl rfl ?_
  refine jx_iload_n 1 dX11_both_1 rfl rfl ?_
  obtain ⟨hk1, h⟩ := h
  refine jx_callVi (M' := mX11_test) (As := [.int x1]) jo_X11_test jc_11 rfl jwM_X11_269 jwN_X11_test jwX_X11_test dX11_both_2 (jRok_m _ _ _) rfl (jle rfl) ⟨jle rfl, jle rfl⟩ hk1 h (fun r3 S2 h => ?_)
  refine jx_if_ne (tgt := 10) dX11_both_5 (by decide) (fun c4 => ?_) (fun c4 => ?_)
  · replace h := h.2 c4
    exact jx_lv [0, 1] rfl h
  replace h := h.1 c4
  refine jx_iconst (v := 0) dX11_both_8 (by decide) ?_
  exact jx_iret dX11_both_9 rfl (by decide) (jle rfl) (jle rfl) ⟨_, rfl, h⟩
set_option maxRecDepth 100000 in
set_option maxHeartbeats 4000000 in
theorem T_X11_both_10 {E : jEnv} {d : Nat} {Q : Int32 → jM → Prop} {a0 : Nat} {x1 : Int32} {S : jM} (h : jk S a0 = 11 ∧ jFi E mX11_isSign d 0 0 [.ref a0, .int 38] S (fun r7 S6 => (r7 = 0 → Q 1 S6) ∧ (¬ r7 = 0 → jk S6 a0 = 11 ∧ jFv E mX11_nextToken d 0 0 [.ref a0] S6 (fun S10 => jk S10 a0 = 11 ∧ jFi E mX11_test d 0 0 [.ref a0, .int x1] S10 (fun r13 S12 => (r13 = 0 → Q 0 S12) ∧ (¬ r13 = 0 → jk S12 a0 = 11 ∧ jFv E mX11_step d 0 0 [.ref a0, .int 2, .int 38] S12 (fun S16 => L_X11_both_10 E d Q a0 x1 S16))))))) : L_X11_both_10 E d Q a0 x1 S := by
  show jX E mX11_both (jRm (d + 1) 0 0) (jZm E (fun r S' => ∃ v : Int32, r = some (.int v) ∧ Q v S') 0 0) 10 [(0, .ref a0), (1, .int x1)] [] S 0 0
  refine jx_aload_n 0 dX11_both_10 rfl rfl ?_
  refine jx_bipush (v := 38) dX11_both_11 (by decide) ?_
  obtain ⟨hk5, h⟩ := h
  refine jx_callVi (M' := mX11_isSign) (As := [.int 38]) jo_X11_isSign jc_11 rfl jwM_X11_259 jwN_X11_isSign jwX_X11_isSign dX11_both_13 (jRok_m _ _ _) rfl (jle rfl) ⟨jle rfl, jle rfl⟩ hk5 h (fun r7 S6 h => ?_)
  refine jx_if_eq (tgt := 43) dX11_both_16 (by decide) (fun c8 => ?_) (fun c8 => ?_)
  · replace h := h.1 c8
    refine jx_iconst (v := 1) dX11_both_43 (by decide) ?_
    exact jx_iret dX11_both_44 rfl (by decide) (jle rfl) (jle rfl) ⟨_, rfl, h⟩
  replace h := h.2 c8
  refine jx_aload_n 0 dX11_both_19 rfl rfl ?_
  obtain ⟨hk9, h⟩ := h
  refine jx_callVv (M' := mX11_nextToken) (As := []) jo_X11_nextToken jc_11 rfl jwM_X11_262 jwN_X11_nextToken jwX_X11_nextToken dX11_both_20 (jRok_m _ _ _) rfl (jle rfl) ⟨jle rfl, jle rfl⟩ hk9 h (fun S10 h => ?_)
  refine jx_aload_n 0 dX11_both_23 rfl rfl ?_
  refine jx_iload_n 1 dX11_both_24 rfl rfl ?_
  obtain ⟨hk11, h⟩ := h
  refine jx_callVi (M' := mX11_test) (As := [.int x1]) jo_X11_test jc_11 rfl jwM_X11_269 jwN_X11_test jwX_X11_test dX11_both_25 (jRok_m _ _ _) rfl (jle rfl) ⟨jle rfl, jle rfl⟩ hk11 h (fun r13 S12 h => ?_)
  refine jx_if_ne (tgt := 33) dX11_both_28 (by decide) (fun c14 => ?_) (fun c14 => ?_)
  · replace h := h.2 c14
    refine jx_aload_n 0 dX11_both_33 rfl rfl ?_
    refine jx_iconst (v := 2) dX11_both_34 (by decide) ?_
    refine jx_bipush (v := 38) dX11_both_35 (by decide) ?_
    obtain ⟨hk15, h⟩ := h
    refine jx_callVv (M' := mX11_step) (As := [.int 2, .int 38]) jo_X11_step jc_11 rfl jwM_X11_265 jwN_X11_step jwX_X11_step dX11_both_37 (jRok_m _ _ _) rfl (jle rfl) ⟨jle rfl, jle rfl⟩ hk15 h (fun S16 h => ?_)
    refine jx_goto (tgt := 10) dX11_both_40 (by decide) ?_
    exact jx_lv [0, 1] rfl h
  replace h := h.1 c14
  refine jx_iconst (v := 0) dX11_both_31 (by decide) ?_
  exact jx_iret dX11_both_32 rfl (by decide) (jle rfl) (jle rfl) ⟨_, rfl, h⟩
set_option maxRecDepth 100000 in
set_option maxHeartbeats 4000000 in
theorem T_X11_test {E : jEnv} {d : Nat} {Q : Int32 → jM → Prop} {a0 : Nat} {x1 : Int32} {S : jM} (h : jk S a0 = 11 ∧ jFi E mX11_sum d 0 0 [.ref a0, .int x1] S (fun r3 S2 => (r3 = 0 → Q 0 S2) ∧ (¬ r3 = 0 → jk S2 a0 = 11 ∧ jFi E mX11_isSign d 0 0 [.ref a0, .int 60] S2 (fun r7 S6 => (r7 = 0 → jk S6 a0 = 11 ∧ jFi E mX11_isSign d 0 0 [.ref a0, .int 61] S6 (fun r19 S18 => (r19 = 0 → jk S18 a0 = 11 ∧ jFi E mX11_isSign d 0 0 [.ref a0, .int 62] S18 (fun r31 S30 => (r31 = 0 → Q 1 S30) ∧ (¬ r31 = 0 → jk S30 a0 = 11 ∧ jFv E mX11_nextToken d 0 0 [.ref a0] S30 (fun S34 => jk S34 a0 = 11 ∧ jFi E mX11_sum d 0 0 [.ref a0, .int x1] S34 (fun r37 S36 => (r37 = 0 → Q 0 S36) ∧ (¬ r37 = 0 → jk S36 a0 = 11 ∧ jFv E mX11_step d 0 0 [.ref a0, .int 2, .int (ji S30 a0 24)] S36 (fun S40 => Q 1 S40))))))) ∧ (¬ r19 = 0 → jk S18 a0 = 11 ∧ jFv E mX11_nextToken d 0 0 [.ref a0] S18 (fun S22 => jk S22 a0 = 11 ∧ jFi E mX11_sum d 0 0 [.ref a0, .int x1] S22 (fun r25 S24 => (r25 = 0 → Q 0 S24) ∧ (¬ r25 = 0 → jk S24 a0 = 11 ∧ jFv E mX11_step d 0 0 [.ref a0, .int 2, .int (ji S18 a0 24)] S24 (fun S28 => Q 1 S28))))))) ∧ (¬ r7 = 0 → jk S6 a0 = 11 ∧ jFv E mX11_nextToken d 0 0 [.ref a0] S6 (fun S10 => jk S10 a0 = 11 ∧ jFi E mX11_sum d 0 0 [.ref a0, .int x1] S10 (fun r13 S12 => (r13 = 0 → Q 0 S12) ∧ (¬ r13 = 0 → jk S12 a0 = 11 ∧ jFv E mX11_step d 0 0 [.ref a0, .int 2, .int (ji S6 a0 24)] S12 (fun S16 => Q 1 S16))))))))) : jFi E mX11_test (d + 1) 0 0 [.ref a0, .int x1] S Q := by
  refine jF_of (by decide) (jle rfl) ?_
  refine jx_lv (lv1 := [(0, .ref a0), (1, .int x1)]) [0, 1] rfl ?_
  refine jx_aload_n 0 dX11_test_0 rfl rfl ?_
  refine jx_iload_n 1 dX11_test_1 rfl rfl ?_
  obtain ⟨hk1, h⟩ := h
  refine jx_callVi (M' := mX11_sum) (As := [.int x1]) jo_X11_sum jc_11 rfl jwM_X11_272 jwN_X11_sum jwX_X11_sum dX11_test_2 (jRok_m _ _ _) rfl (jle rfl) ⟨jle rfl, jle rfl⟩ hk1 h (fun r3 S2 h => ?_)
  refine jx_if_ne (tgt := 10) dX11_test_5 (by decide) (fun c4 => ?_) (fun c4 => ?_)
  · replace h := h.2 c4
    refine jx_aload_n 0 dX11_test_10 rfl rfl ?_
    refine jx_bipush (v := 60) dX11_test_11 (by decide) ?_
    obtain ⟨hk5, h⟩ := h
    refine jx_callVi (M' := mX11_isSign) (As := [.int 60]) jo_X11_isSign jc_11 rfl jwM_X11_259 jwN_X11_isSign jwX_X11_isSign dX11_test_13 (jRok_m _ _ _) rfl (jle rfl) ⟨jle rfl, jle rfl⟩ hk5 h (fun r7 S6 h => ?_)
    refine jx_if_ne (tgt := 37) dX11_test_16 (by decide) (fun c8 => ?_) (fun c8 => ?_)
    · replace h := h.2 c8
      refine jx_aload_n 0 dX11_test_37 rfl rfl ?_
      obtain ⟨hk9, h⟩ := h
      refine jx_geti jc_11 (j := 24) (by decide) rfl jwF_X11_237 dX11_test_38 hk9 ?_
      refine jx_istore_n (lv1 := [(2, .int (ji S6 a0 24)), (0, .ref a0), (1, .int x1)]) dX11_test_41 rfl (by decide) rfl ?_
      refine jx_aload_n 1 dX11_test_42 rfl rfl ?_
      refine jx_callVv (M' := mX11_nextToken) (As := []) jo_X11_nextToken jc_11 rfl jwM_X11_262 jwN_X11_nextToken jwX_X11_nextToken dX11_test_43 (jRok_m _ _ _) rfl (jle rfl) ⟨jle rfl, jle rfl⟩ hk9 h (fun S10 h => ?_)
      refine jx_aload_n 1 dX11_test_46 rfl rfl ?_
      refine jx_iload_n 2 dX11_test_47 rfl rfl ?_
      obtain ⟨hk11, h⟩ := h
      refine jx_callVi (M' := mX11_sum) (As := [.int x1]) jo_X11_sum jc_11 rfl jwM_X11_272 jwN_X11_sum jwX_X11_sum dX11_test_48 (jRok_m _ _ _) rfl (jle rfl) ⟨jle rfl, jle rfl⟩ hk11 h (fun r13 S12 h => ?_)
      refine jx_if_ne (tgt := 56) dX11_test_51 (by decide) (fun c14 => ?_) (fun c14 => ?_)
      · replace h := h.2 c14
        refine jx_aload_n 1 dX11_test_56 rfl rfl ?_
        refine jx_iconst (v := 2) dX11_test_57 (by decide) ?_
        refine jx_iload_n 0 dX11_test_58 rfl rfl ?_
        obtain ⟨hk15, h⟩ := h
        refine jx_callVv (M' := mX11_step) (As := [.int 2, .int (ji S6 a0 24)]) jo_X11_step jc_11 rfl jwM_X11_265 jwN_X11_step jwX_X11_step dX11_test_59 (jRok_m _ _ _) rfl (jle rfl) ⟨jle rfl, jle rfl⟩ hk15 h (fun S16 h => ?_)
        refine jx_iconst (v := 1) dX11_test_62 (by decide) ?_
        exact jx_iret dX11_test_63 rfl (by decide) (jle rfl) (jle rfl) ⟨_, rfl, h⟩
      replace h := h.1 c14
      refine jx_iconst (v := 0) dX11_test_54 (by decide) ?_
      exact jx_iret dX11_test_55 rfl (by decide) (jle rfl) (jle rfl) ⟨_, rfl, h⟩
    replace h := h.1 c8
    refine jx_aload_n 0 dX11_test_19 rfl rfl ?_
    refine jx_bipush (v := 61) dX11_test_20 (by decide) ?_
    obtain ⟨hk17, h⟩ := h
    refine jx_callVi (M' := mX11_isSign) (As := [.int 61]) jo_X11_isSign jc_11 rfl jwM_X11_259 jwN_X11_isSign jwX_X11_isSign dX11_test_22 (jRok_m _ _ _) rfl (jle rfl) ⟨jle rfl, jle rfl⟩ hk17 h (fun r19 S18 h => ?_)
    refine jx_if_ne (tgt := 37) dX11_test_25 (by decide) (fun c20 => ?_) (fun c20 => ?_)
    · replace h := h.2 c20
      refine jx_aload_n 0 dX11_test_37 rfl rfl ?_
      obtain ⟨hk21, h⟩ := h
      refine jx_geti jc_11 (j := 24) (by decide) rfl jwF_X11_237 dX11_test_38 hk21 ?_
      refine jx_istore_n (lv1 := [(2, .int (ji S18 a0 24)), (0, .ref a0), (1, .int x1)]) dX11_test_41 rfl (by decide) rfl ?_
      refine jx_aload_n 1 dX11_test_42 rfl rfl ?_
      refine jx_callVv (M' := mX11_nextToken) (As := []) jo_X11_nextToken jc_11 rfl jwM_X11_262 jwN_X11_nextToken jwX_X11_nextToken dX11_test_43 (jRok_m _ _ _) rfl (jle rfl) ⟨jle rfl, jle rfl⟩ hk21 h (fun S22 h => ?_)
      refine jx_aload_n 1 dX11_test_46 rfl rfl ?_
      refine jx_iload_n 2 dX11_test_47 rfl rfl ?_
      obtain ⟨hk23, h⟩ := h
      refine jx_callVi (M' := mX11_sum) (As := [.int x1]) jo_X11_sum jc_11 rfl jwM_X11_272 jwN_X11_sum jwX_X11_sum dX11_test_48 (jRok_m _ _ _) rfl (jle rfl) ⟨jle rfl, jle rfl⟩ hk23 h (fun r25 S24 h => ?_)
      refine jx_if_ne (tgt := 56) dX11_test_51 (by decide) (fun c26 => ?_) (fun c26 => ?_)
      · replace h := h.2 c26
        refine jx_aload_n 1 dX11_test_56 rfl rfl ?_
        refine jx_iconst (v := 2) dX11_test_57 (by decide) ?_
        refine jx_iload_n 0 dX11_test_58 rfl rfl ?_
        obtain ⟨hk27, h⟩ := h
        refine jx_callVv (M' := mX11_step) (As := [.int 2, .int (ji S18 a0 24)]) jo_X11_step jc_11 rfl jwM_X11_265 jwN_X11_step jwX_X11_step dX11_test_59 (jRok_m _ _ _) rfl (jle rfl) ⟨jle rfl, jle rfl⟩ hk27 h (fun S28 h => ?_)
        refine jx_iconst (v := 1) dX11_test_62 (by decide) ?_
        exact jx_iret dX11_test_63 rfl (by decide) (jle rfl) (jle rfl) ⟨_, rfl, h⟩
      replace h := h.1 c26
      refine jx_iconst (v := 0) dX11_test_54 (by decide) ?_
      exact jx_iret dX11_test_55 rfl (by decide) (jle rfl) (jle rfl) ⟨_, rfl, h⟩
    replace h := h.1 c20
    refine jx_aload_n 0 dX11_test_28 rfl rfl ?_
    refine jx_bipush (v := 62) dX11_test_29 (by decide) ?_
    obtain ⟨hk29, h⟩ := h
    refine jx_callVi (M' := mX11_isSign) (As := [.int 62]) jo_X11_isSign jc_11 rfl jwM_X11_259 jwN_X11_isSign jwX_X11_isSign dX11_test_31 (jRok_m _ _ _) rfl (jle rfl) ⟨jle rfl, jle rfl⟩ hk29 h (fun r31 S30 h => ?_)
    refine jx_if_eq (tgt := 62) dX11_test_34 (by decide) (fun c32 => ?_) (fun c32 => ?_)
    · replace h := h.1 c32
      refine jx_iconst (v := 1) dX11_test_62 (by decide) ?_
      exact jx_iret dX11_test_63 rfl (by decide) (jle rfl) (jle rfl) ⟨_, rfl, h⟩
    replace h := h.2 c32
    refine jx_aload_n 0 dX11_test_37 rfl rfl ?_
    obtain ⟨hk33, h⟩ := h
    refine jx_geti jc_11 (j := 24) (by decide) rfl jwF_X11_237 dX11_test_38 hk33 ?_
    refine jx_istore_n (lv1 := [(2, .int (ji S30 a0 24)), (0, .ref a0), (1, .int x1)]) dX11_test_41 rfl (by decide) rfl ?_
    refine jx_aload_n 1 dX11_test_42 rfl rfl ?_
    refine jx_callVv (M' := mX11_nextToken) (As := []) jo_X11_nextToken jc_11 rfl jwM_X11_262 jwN_X11_nextToken jwX_X11_nextToken dX11_test_43 (jRok_m _ _ _) rfl (jle rfl) ⟨jle rfl, jle rfl⟩ hk33 h (fun S34 h => ?_)
    refine jx_aload_n 1 dX11_test_46 rfl rfl ?_
    refine jx_iload_n 2 dX11_test_47 rfl rfl ?_
    obtain ⟨hk35, h⟩ := h
    refine jx_callVi (M' := mX11_sum) (As := [.int x1]) jo_X11_sum jc_11 rfl jwM_X11_272 jwN_X11_sum jwX_X11_sum dX11_test_48 (jRok_m _ _ _) rfl (jle rfl) ⟨jle rfl, jle rfl⟩ hk35 h (fun r37 S36 h => ?_)
    refine jx_if_ne (tgt := 56) dX11_test_51 (by decide) (fun c38 => ?_) (fun c38 => ?_)
    · replace h := h.2 c38
      refine jx_aload_n 1 dX11_test_56 rfl rfl ?_
      refine jx_iconst (v := 2) dX11_test_57 (by decide) ?_
      refine jx_iload_n 0 dX11_test_58 rfl rfl ?_
      obtain ⟨hk39, h⟩ := h
      refine jx_callVv (M' := mX11_step) (As := [.int 2, .int (ji S30 a0 24)]) jo_X11_step jc_11 rfl jwM_X11_265 jwN_X11_step jwX_X11_step dX11_test_59 (jRok_m _ _ _) rfl (jle rfl) ⟨jle rfl, jle rfl⟩ hk39 h (fun S40 h => ?_)
      refine jx_iconst (v := 1) dX11_test_62 (by decide) ?_
      exact jx_iret dX11_test_63 rfl (by decide) (jle rfl) (jle rfl) ⟨_, rfl, h⟩
    replace h := h.1 c38
    refine jx_iconst (v := 0) dX11_test_54 (by decide) ?_
    exact jx_iret dX11_test_55 rfl (by decide) (jle rfl) (jle rfl) ⟨_, rfl, h⟩
  replace h := h.1 c4
  refine jx_iconst (v := 0) dX11_test_8 (by decide) ?_
  exact jx_iret dX11_test_9 rfl (by decide) (jle rfl) (jle rfl) ⟨_, rfl, h⟩
/-- X11_sum at its loop's head 10 -/
abbrev L_X11_sum_10 (E : jEnv) (d : Nat) (Q : Int32 → jM → Prop) (a0 : Nat) (x1 : Int32) (S : jM) : Prop := jX E mX11_sum (jRm (d + 1) 0 0) (jZm E (fun r S' => ∃ v : Int32, r = some (.int v) ∧ Q v S') 0 0) 10 [(0, .ref a0), (1, .int x1)] [] S 0 0
set_option maxRecDepth 100000 in
set_option maxHeartbeats 4000000 in
theorem T_X11_sum {E : jEnv} {d : Nat} {Q : Int32 → jM → Prop} {a0 : Nat} {x1 : Int32} {S : jM} (h : jk S a0 = 11 ∧ jFi E mX11_term d 0 0 [.ref a0, .int x1] S (fun r3 S2 => (r3 = 0 → Q 0 S2) ∧ (¬ r3 = 0 → L_X11_sum_10 E d Q a0 x1 S2))) : jFi E mX11_sum (d + 1) 0 0 [.ref a0, .int x1] S Q := by
  refine jF_of (by decide) (jle rfl) ?_
  refine jx_lv (lv1 := [(0, .ref a0), (1, .int x1)]) [0, 1] rfl ?_
  refine jx_aload_n 0 dX11_sum_0 rfl rfl ?_
  refine jx_iload_n 1 dX11_sum_1 rfl rfl ?_
  obtain ⟨hk1, h⟩ := h
  refine jx_callVi (M' := mX11_term) (As := [.int x1]) jo_X11_term jc_11 rfl jwM_X11_275 jwN_X11_term jwX_X11_term dX11_sum_2 (jRok_m _ _ _) rfl (jle rfl) ⟨jle rfl, jle rfl⟩ hk1 h (fun r3 S2 h => ?_)
  refine jx_if_ne (tgt := 10) dX11_sum_5 (by decide) (fun c4 => ?_) (fun c4 => ?_)
  · replace h := h.2 c4
    exact jx_lv [0, 1] rfl h
  replace h := h.1 c4
  refine jx_iconst (v := 0) dX11_sum_8 (by decide) ?_
  exact jx_iret dX11_sum_9 rfl (by decide) (jle rfl) (jle rfl) ⟨_, rfl, h⟩
set_option maxRecDepth 100000 in
set_option maxHeartbeats 4000000 in
theorem T_X11_sum_10 {E : jEnv} {d : Nat} {Q : Int32 → jM → Prop} {a0 : Nat} {x1 : Int32} {S : jM} (h : jk S a0 = 11 ∧ jFi E mX11_isSign d 0 0 [.ref a0, .int 43] S (fun r7 S6 => (r7 = 0 → jk S6 a0 = 11 ∧ jFi E mX11_isSign d 0 0 [.ref a0, .int 45] S6 (fun r19 S18 => (r19 = 0 → Q 1 S18) ∧ (¬ r19 = 0 → jk S18 a0 = 11 ∧ jFv E mX11_nextToken d 0 0 [.ref a0] S18 (fun S22 => jk S22 a0 = 11 ∧ jFi E mX11_term d 0 0 [.ref a0, .int x1] S22 (fun r25 S24 => (r25 = 0 → Q 0 S24) ∧ (¬ r25 = 0 → jk S24 a0 = 11 ∧ jFv E mX11_step d 0 0 [.ref a0, .int 2, .int (ji S18 a0 24)] S24 (fun S28 => L_X11_sum_10 E d Q a0 x1 S28))))))) ∧ (¬ r7 = 0 → jk S6 a0 = 11 ∧ jFv E mX11_nextToken d 0 0 [.ref a0] S6 (fun S10 => jk S10 a0 = 11 ∧ jFi E mX11_term d 0 0 [.ref a0, .int x1] S10 (fun r13 S12 => (r13 = 0 → Q 0 S12) ∧ (¬ r13 = 0 → jk S12 a0 = 11 ∧ jFv E mX11_step d 0 0 [.ref a0, .int 2, .int (ji S6 a0 24)] S12 (fun S16 => L_X11_sum_10 E d Q a0 x1 S16))))))) : L_X11_sum_10 E d Q a0 x1 S := by
  show jX E mX11_sum (jRm (d + 1) 0 0) (jZm E (fun r S' => ∃ v : Int32, r = some (.int v) ∧ Q v S') 0 0) 10 [(0, .ref a0), (1, .int x1)] [] S 0 0
  refine jx_aload_n 0 dX11_sum_10 rfl rfl ?_
  refine jx_bipush (v := 43) dX11_sum_11 (by decide) ?_
  obtain ⟨hk5, h⟩ := h
  refine jx_callVi (M' := mX11_isSign) (As := [.int 43]) jo_X11_isSign jc_11 rfl jwM_X11_259 jwN_X11_isSign jwX_X11_isSign dX11_sum_13 (jRok_m _ _ _) rfl (jle rfl) ⟨jle rfl, jle rfl⟩ hk5 h (fun r7 S6 h => ?_)
  refine jx_if_ne (tgt := 28) dX11_sum_16 (by decide) (fun c8 => ?_) (fun c8 => ?_)
  · replace h := h.2 c8
    refine jx_aload_n 0 dX11_sum_28 rfl rfl ?_
    obtain ⟨hk9, h⟩ := h
    refine jx_geti jc_11 (j := 24) (by decide) rfl jwF_X11_237 dX11_sum_29 hk9 ?_
    refine jx_istore_n (lv1 := [(2, .int (ji S6 a0 24)), (0, .ref a0), (1, .int x1)]) dX11_sum_32 rfl (by decide) rfl ?_
    refine jx_aload_n 1 dX11_sum_33 rfl rfl ?_
    refine jx_callVv (M' := mX11_nextToken) (As := []) jo_X11_nextToken jc_11 rfl jwM_X11_262 jwN_X11_nextToken jwX_X11_nextToken dX11_sum_34 (jRok_m _ _ _) rfl (jle rfl) ⟨jle rfl, jle rfl⟩ hk9 h (fun S10 h => ?_)
    refine jx_aload_n 1 dX11_sum_37 rfl rfl ?_
    refine jx_iload_n 2 dX11_sum_38 rfl rfl ?_
    obtain ⟨hk11, h⟩ := h
    refine jx_callVi (M' := mX11_term) (As := [.int x1]) jo_X11_term jc_11 rfl jwM_X11_275 jwN_X11_term jwX_X11_term dX11_sum_39 (jRok_m _ _ _) rfl (jle rfl) ⟨jle rfl, jle rfl⟩ hk11 h (fun r13 S12 h => ?_)
    refine jx_if_ne (tgt := 47) dX11_sum_42 (by decide) (fun c14 => ?_) (fun c14 => ?_)
    · replace h := h.2 c14
      refine jx_aload_n 1 dX11_sum_47 rfl rfl ?_
      refine jx_iconst (v := 2) dX11_sum_48 (by decide) ?_
      refine jx_iload_n 0 dX11_sum_49 rfl rfl ?_
      obtain ⟨hk15, h⟩ := h
      refine jx_callVv (M' := mX11_step) (As := [.int 2, .int (ji S6 a0 24)]) jo_X11_step jc_11 rfl jwM_X11_265 jwN_X11_step jwX_X11_step dX11_sum_50 (jRok_m _ _ _) rfl (jle rfl) ⟨jle rfl, jle rfl⟩ hk15 h (fun S16 h => ?_)
      refine jx_goto (tgt := 10) dX11_sum_53 (by decide) ?_
      exact jx_lv [1, 2] rfl h
    replace h := h.1 c14
    refine jx_iconst (v := 0) dX11_sum_45 (by decide) ?_
    exact jx_iret dX11_sum_46 rfl (by decide) (jle rfl) (jle rfl) ⟨_, rfl, h⟩
  replace h := h.1 c8
  refine jx_aload_n 0 dX11_sum_19 rfl rfl ?_
  refine jx_bipush (v := 45) dX11_sum_20 (by decide) ?_
  obtain ⟨hk17, h⟩ := h
  refine jx_callVi (M' := mX11_isSign) (As := [.int 45]) jo_X11_isSign jc_11 rfl jwM_X11_259 jwN_X11_isSign jwX_X11_isSign dX11_sum_22 (jRok_m _ _ _) rfl (jle rfl) ⟨jle rfl, jle rfl⟩ hk17 h (fun r19 S18 h => ?_)
  refine jx_if_eq (tgt := 56) dX11_sum_25 (by decide) (fun c20 => ?_) (fun c20 => ?_)
  · replace h := h.1 c20
    refine jx_iconst (v := 1) dX11_sum_56 (by decide) ?_
    exact jx_iret dX11_sum_57 rfl (by decide) (jle rfl) (jle rfl) ⟨_, rfl, h⟩
  replace h := h.2 c20
  refine jx_aload_n 0 dX11_sum_28 rfl rfl ?_
  obtain ⟨hk21, h⟩ := h
  refine jx_geti jc_11 (j := 24) (by decide) rfl jwF_X11_237 dX11_sum_29 hk21 ?_
  refine jx_istore_n (lv1 := [(2, .int (ji S18 a0 24)), (0, .ref a0), (1, .int x1)]) dX11_sum_32 rfl (by decide) rfl ?_
  refine jx_aload_n 1 dX11_sum_33 rfl rfl ?_
  refine jx_callVv (M' := mX11_nextToken) (As := []) jo_X11_nextToken jc_11 rfl jwM_X11_262 jwN_X11_nextToken jwX_X11_nextToken dX11_sum_34 (jRok_m _ _ _) rfl (jle rfl) ⟨jle rfl, jle rfl⟩ hk21 h (fun S22 h => ?_)
  refine jx_aload_n 1 dX11_sum_37 rfl rfl ?_
  refine jx_iload_n 2 dX11_sum_38 rfl rfl ?_
  obtain ⟨hk23, h⟩ := h
  refine jx_callVi (M' := mX11_term) (As := [.int x1]) jo_X11_term jc_11 rfl jwM_X11_275 jwN_X11_term jwX_X11_term dX11_sum_39 (jRok_m _ _ _) rfl (jle rfl) ⟨jle rfl, jle rfl⟩ hk23 h (fun r25 S24 h => ?_)
  refine jx_if_ne (tgt := 47) dX11_sum_42 (by decide) (fun c26 => ?_) (fun c26 => ?_)
  · replace h := h.2 c26
    refine jx_aload_n 1 dX11_sum_47 rfl rfl ?_
    refine jx_iconst (v := 2) dX11_sum_48 (by decide) ?_
    refine jx_iload_n 0 dX11_sum_49 rfl rfl ?_
    obtain ⟨hk27, h⟩ := h
    refine jx_callVv (M' := mX11_step) (As := [.int 2, .int (ji S18 a0 24)]) jo_X11_step jc_11 rfl jwM_X11_265 jwN_X11_step jwX_X11_step dX11_sum_50 (jRok_m _ _ _) rfl (jle rfl) ⟨jle rfl, jle rfl⟩ hk27 h (fun S28 h => ?_)
    refine jx_goto (tgt := 10) dX11_sum_53 (by decide) ?_
    exact jx_lv [1, 2] rfl h
  replace h := h.1 c26
  refine jx_iconst (v := 0) dX11_sum_45 (by decide) ?_
  exact jx_iret dX11_sum_46 rfl (by decide) (jle rfl) (jle rfl) ⟨_, rfl, h⟩
/-- X11_term at its loop's head 10 -/
abbrev L_X11_term_10 (E : jEnv) (d : Nat) (Q : Int32 → jM → Prop) (a0 : Nat) (x1 : Int32) (S : jM) : Prop := jX E mX11_term (jRm (d + 1) 0 0) (jZm E (fun r S' => ∃ v : Int32, r = some (.int v) ∧ Q v S') 0 0) 10 [(0, .ref a0), (1, .int x1)] [] S 0 0
set_option maxRecDepth 100000 in
set_option maxHeartbeats 4000000 in
theorem T_X11_term {E : jEnv} {d : Nat} {Q : Int32 → jM → Prop} {a0 : Nat} {x1 : Int32} {S : jM} (h : jk S a0 = 11 ∧ jFi E mX11_part0 d 0 0 [.ref a0, .int x1] S (fun r3 S2 => (r3 = 0 → Q 0 S2) ∧ (¬ r3 = 0 → L_X11_term_10 E d Q a0 x1 S2))) : jFi E mX11_term (d + 1) 0 0 [.ref a0, .int x1] S Q := by
  refine jF_of (by decide) (jle rfl) ?_
  refine jx_lv (lv1 := [(0, .ref a0), (1, .int x1)]) [0, 1] rfl ?_
  refine jx_aload_n 0 dX11_term_0 rfl rfl ?_
  refine jx_iload_n 1 dX11_term_1 rfl rfl ?_
  obtain ⟨hk1, h⟩ := h
  refine jx_callVi (M' := mX11_part0) (As := [.int x1]) jo_X11_part0 jc_11 rfl jwM_X11_278 jwN_X11_part0 jwX_X11_part0 dX11_term_2 (jRok_m _ _ _) rfl (jle rfl) ⟨jle rfl, jle rfl⟩ hk1 h (fun r3 S2 h => ?_)
  refine jx_if_ne (tgt := 10) dX11_term_5 (by decide) (fun c4 => ?_) (fun c4 => ?_)
  · replace h := h.2 c4
    exact jx_lv [0, 1] rfl h
  replace h := h.1 c4
  refine jx_iconst (v := 0) dX11_term_8 (by decide) ?_
  exact jx_iret dX11_term_9 rfl (by decide) (jle rfl) (jle rfl) ⟨_, rfl, h⟩
set_option maxRecDepth 100000 in
set_option maxHeartbeats 4000000 in
theorem T_X11_term_10 {E : jEnv} {d : Nat} {Q : Int32 → jM → Prop} {a0 : Nat} {x1 : Int32} {S : jM} (h : jk S a0 = 11 ∧ jFi E mX11_isSign d 0 0 [.ref a0, .int 42] S (fun r7 S6 => (r7 = 0 → jk S6 a0 = 11 ∧ jFi E mX11_isSign d 0 0 [.ref a0, .int 47] S6 (fun r19 S18 => (r19 = 0 → Q 1 S18) ∧ (¬ r19 = 0 → jk S18 a0 = 11 ∧ jFv E mX11_nextToken d 0 0 [.ref a0] S18 (fun S22 => jk S22 a0 = 11 ∧ jFi E mX11_part0 d 0 0 [.ref a0, .int x1] S22 (fun r25 S24 => (r25 = 0 → Q 0 S24) ∧ (¬ r25 = 0 → jk S24 a0 = 11 ∧ jFv E mX11_step d 0 0 [.ref a0, .int 2, .int (ji S18 a0 24)] S24 (fun S28 => L_X11_term_10 E d Q a0 x1 S28))))))) ∧ (¬ r7 = 0 → jk S6 a0 = 11 ∧ jFv E mX11_nextToken d 0 0 [.ref a0] S6 (fun S10 => jk S10 a0 = 11 ∧ jFi E mX11_part0 d 0 0 [.ref a0, .int x1] S10 (fun r13 S12 => (r13 = 0 → Q 0 S12) ∧ (¬ r13 = 0 → jk S12 a0 = 11 ∧ jFv E mX11_step d 0 0 [.ref a0, .int 2, .int (ji S6 a0 24)] S12 (fun S16 => L_X11_term_10 E d Q a0 x1 S16))))))) : L_X11_term_10 E d Q a0 x1 S := by
  show jX E mX11_term (jRm (d + 1) 0 0) (jZm E (fun r S' => ∃ v : Int32, r = some (.int v) ∧ Q v S') 0 0) 10 [(0, .ref a0), (1, .int x1)] [] S 0 0
  refine jx_aload_n 0 dX11_term_10 rfl rfl ?_
  refine jx_bipush (v := 42) dX11_term_11 (by decide) ?_
  obtain ⟨hk5, h⟩ := h
  refine jx_callVi (M' := mX11_isSign) (As := [.int 42]) jo_X11_isSign jc_11 rfl jwM_X11_259 jwN_X11_isSign jwX_X11_isSign dX11_term_13 (jRok_m _ _ _) rfl (jle rfl) ⟨jle rfl, jle rfl⟩ hk5 h (fun r7 S6 h => ?_)
  refine jx_if_ne (tgt := 28) dX11_term_16 (by decide) (fun c8 => ?_) (fun c8 => ?_)
  · replace h := h.2 c8
    refine jx_aload_n 0 dX11_term_28 rfl rfl ?_
    obtain ⟨hk9, h⟩ := h
    refine jx_geti jc_11 (j := 24) (by decide) rfl jwF_X11_237 dX11_term_29 hk9 ?_
    refine jx_istore_n (lv1 := [(2, .int (ji S6 a0 24)), (0, .ref a0), (1, .int x1)]) dX11_term_32 rfl (by decide) rfl ?_
    refine jx_aload_n 1 dX11_term_33 rfl rfl ?_
    refine jx_callVv (M' := mX11_nextToken) (As := []) jo_X11_nextToken jc_11 rfl jwM_X11_262 jwN_X11_nextToken jwX_X11_nextToken dX11_term_34 (jRok_m _ _ _) rfl (jle rfl) ⟨jle rfl, jle rfl⟩ hk9 h (fun S10 h => ?_)
    refine jx_aload_n 1 dX11_term_37 rfl rfl ?_
    refine jx_iload_n 2 dX11_term_38 rfl rfl ?_
    obtain ⟨hk11, h⟩ := h
    refine jx_callVi (M' := mX11_part0) (As := [.int x1]) jo_X11_part0 jc_11 rfl jwM_X11_278 jwN_X11_part0 jwX_X11_part0 dX11_term_39 (jRok_m _ _ _) rfl (jle rfl) ⟨jle rfl, jle rfl⟩ hk11 h (fun r13 S12 h => ?_)
    refine jx_if_ne (tgt := 47) dX11_term_42 (by decide) (fun c14 => ?_) (fun c14 => ?_)
    · replace h := h.2 c14
      refine jx_aload_n 1 dX11_term_47 rfl rfl ?_
      refine jx_iconst (v := 2) dX11_term_48 (by decide) ?_
      refine jx_iload_n 0 dX11_term_49 rfl rfl ?_
      obtain ⟨hk15, h⟩ := h
      refine jx_callVv (M' := mX11_step) (As := [.int 2, .int (ji S6 a0 24)]) jo_X11_step jc_11 rfl jwM_X11_265 jwN_X11_step jwX_X11_step dX11_term_50 (jRok_m _ _ _) rfl (jle rfl) ⟨jle rfl, jle rfl⟩ hk15 h (fun S16 h => ?_)
      refine jx_goto (tgt := 10) dX11_term_53 (by decide) ?_
      exact jx_lv [1, 2] rfl h
    replace h := h.1 c14
    refine jx_iconst (v := 0) dX11_term_45 (by decide) ?_
    exact jx_iret dX11_term_46 rfl (by decide) (jle rfl) (jle rfl) ⟨_, rfl, h⟩
  replace h := h.1 c8
  refine jx_aload_n 0 dX11_term_19 rfl rfl ?_
  refine jx_bipush (v := 47) dX11_term_20 (by decide) ?_
  obtain ⟨hk17, h⟩ := h
  refine jx_callVi (M' := mX11_isSign) (As := [.int 47]) jo_X11_isSign jc_11 rfl jwM_X11_259 jwN_X11_isSign jwX_X11_isSign dX11_term_22 (jRok_m _ _ _) rfl (jle rfl) ⟨jle rfl, jle rfl⟩ hk17 h (fun r19 S18 h => ?_)
  refine jx_if_eq (tgt := 56) dX11_term_25 (by decide) (fun c20 => ?_) (fun c20 => ?_)
  · replace h := h.1 c20
    refine jx_iconst (v := 1) dX11_term_56 (by decide) ?_
    exact jx_iret dX11_term_57 rfl (by decide) (jle rfl) (jle rfl) ⟨_, rfl, h⟩
  replace h := h.2 c20
  refine jx_aload_n 0 dX11_term_28 rfl rfl ?_
  obtain ⟨hk21, h⟩ := h
  refine jx_geti jc_11 (j := 24) (by decide) rfl jwF_X11_237 dX11_term_29 hk21 ?_
  refine jx_istore_n (lv1 := [(2, .int (ji S18 a0 24)), (0, .ref a0), (1, .int x1)]) dX11_term_32 rfl (by decide) rfl ?_
  refine jx_aload_n 1 dX11_term_33 rfl rfl ?_
  refine jx_callVv (M' := mX11_nextToken) (As := []) jo_X11_nextToken jc_11 rfl jwM_X11_262 jwN_X11_nextToken jwX_X11_nextToken dX11_term_34 (jRok_m _ _ _) rfl (jle rfl) ⟨jle rfl, jle rfl⟩ hk21 h (fun S22 h => ?_)
  refine jx_aload_n 1 dX11_term_37 rfl rfl ?_
  refine jx_iload_n 2 dX11_term_38 rfl rfl ?_
  obtain ⟨hk23, h⟩ := h
  refine jx_callVi (M' := mX11_part0) (As := [.int x1]) jo_X11_part0 jc_11 rfl jwM_X11_278 jwN_X11_part0 jwX_X11_part0 dX11_term_39 (jRok_m _ _ _) rfl (jle rfl) ⟨jle rfl, jle rfl⟩ hk23 h (fun r25 S24 h => ?_)
  refine jx_if_ne (tgt := 47) dX11_term_42 (by decide) (fun c26 => ?_) (fun c26 => ?_)
  · replace h := h.2 c26
    refine jx_aload_n 1 dX11_term_47 rfl rfl ?_
    refine jx_iconst (v := 2) dX11_term_48 (by decide) ?_
    refine jx_iload_n 0 dX11_term_49 rfl rfl ?_
    obtain ⟨hk27, h⟩ := h
    refine jx_callVv (M' := mX11_step) (As := [.int 2, .int (ji S18 a0 24)]) jo_X11_step jc_11 rfl jwM_X11_265 jwN_X11_step jwX_X11_step dX11_term_50 (jRok_m _ _ _) rfl (jle rfl) ⟨jle rfl, jle rfl⟩ hk27 h (fun S28 h => ?_)
    refine jx_goto (tgt := 10) dX11_term_53 (by decide) ?_
    exact jx_lv [1, 2] rfl h
  replace h := h.1 c26
  refine jx_iconst (v := 0) dX11_term_45 (by decide) ?_
  exact jx_iret dX11_term_46 rfl (by decide) (jle rfl) (jle rfl) ⟨_, rfl, h⟩
set_option maxRecDepth 100000 in
set_option maxHeartbeats 4000000 in
theorem T_X11_part0 {E : jEnv} {d : Nat} {Q : Int32 → jM → Prop} {a0 : Nat} {x1 : Int32} {S : jM} (h : jk S a0 = 11 ∧ ((ji S a0 22) = 2 → jFv E mX11_step d 0 0 [.ref a0, .int 0, .int (ji S a0 23)] S (fun S147 => jk S147 a0 = 11 ∧ jFv E mX11_nextToken d 0 0 [.ref a0] (jput S147 a0 29 ((ji S147 a0 29) + 1)) (fun S149 => Q 1 S149))) ∧ (¬ (ji S a0 22) = 2 → ((ji S a0 22) = 1 → ((ji S a0 24) = 0 → jFi E mX11_isSign d 0 0 [.ref a0, .int 33] S (fun r51 S50 => (r51 = 0 → jk S50 a0 = 11 ∧ jFi E mX11_isSign d 0 0 [.ref a0, .int 40] S50 (fun r55 S54 => (r55 = 0 → Q 0 S54) ∧ (¬ r55 = 0 → jk S54 a0 = 11 ∧ ((ji S54 a0 25) = 8 → Q 0 S54) ∧ (¬ (ji S54 a0 25) = 8 → jFv E mX11_nextToken d 0 0 [.ref a0] (jput S54 a0 25 ((ji S54 a0 25) + 1)) (fun S59 => jk S59 a0 = 11 ∧ jFi E mX11_either d 0 0 [.ref a0, .int x1] S59 (fun r62 S61 => (r62 = 0 → Q 0 S61) ∧ (¬ r62 = 0 → jk S61 a0 = 11 ∧ jFi E mX11_isSign d 0 0 [.ref a0, .int 41] S61 (fun r66 S65 => (r66 = 0 → Q 0 S65) ∧ (¬ r66 = 0 → jk S65 a0 = 11 ∧ jFv E mX11_nextToken d 0 0 [.ref a0] (jput S65 a0 25 ((ji S65 a0 25) - 1)) (fun S69 => Q 1 S69)))))))))) ∧ (¬ r51 = 0 → jk S50 a0 = 11 ∧ (8 ≤ (ji S50 a0 26) → jFi E mX11_isSign d 0 0 [.ref a0, .int 40] S50 (fun r73 S72 => (r73 = 0 → Q 0 S72) ∧ (¬ r73 = 0 → jk S72 a0 = 11 ∧ ((ji S72 a0 25) = 8 → Q 0 S72) ∧ (¬ (ji S72 a0 25) = 8 → jFv E mX11_nextToken d 0 0 [.ref a0] (jput S72 a0 25 ((ji S72 a0 25) + 1)) (fun S77 => jk S77 a0 = 11 ∧ jFi E mX11_either d 0 0 [.ref a0, .int x1] S77 (fun r80 S79 => (r80 = 0 → Q 0 S79) ∧ (¬ r80 = 0 → jk S79 a0 = 11 ∧ jFi E mX11_isSign d 0 0 [.ref a0, .int 41] S79 (fun r84 S83 => (r84 = 0 → Q 0 S83) ∧ (¬ r84 = 0 → jk S83 a0 = 11 ∧ jFv E mX11_nextToken d 0 0 [.ref a0] (jput S83 a0 25 ((ji S83 a0 25) - 1)) (fun S87 => Q 1 S87)))))))))) ∧ (¬ 8 ≤ (ji S50 a0 26) → jFv E mX11_nextToken d 0 0 [.ref a0] (jput S50 a0 26 ((ji S50 a0 26) + 1)) (fun S88 => jk S88 a0 = 11 ∧ jFi E mX11_part0 d 0 0 [.ref a0, .int x1] S88 (fun r91 S90 => (r91 = 0 → Q 0 S90) ∧ (¬ r91 = 0 → jk S90 a0 = 11 ∧ jFv E mX11_step d 0 0 [.ref a0, .int 2, .int 33] (jput S90 a0 26 ((ji S90 a0 26) - 1)) (fun S94 => Q 1 S94)))))))) ∧ (¬ (ji S a0 24) = 0 → ((jisname x1 (ji S a0 24)) = 0 → jFi E mX11_isSign d 0 0 [.ref a0, .int 33] S (fun r100 S99 => (r100 = 0 → jk S99 a0 = 11 ∧ jFi E mX11_isSign d 0 0 [.ref a0, .int 40] S99 (fun r104 S103 => (r104 = 0 → Q 0 S103) ∧ (¬ r104 = 0 → jk S103 a0 = 11 ∧ ((ji S103 a0 25) = 8 → Q 0 S103) ∧ (¬ (ji S103 a0 25) = 8 → jFv E mX11_nextToken d 0 0 [.ref a0] (jput S103 a0 25 ((ji S103 a0 25) + 1)) (fun S108 => jk S108 a0 = 11 ∧ jFi E mX11_either d 0 0 [.ref a0, .int x1] S108 (fun r111 S110 => (r111 = 0 → Q 0 S110) ∧ (¬ r111 = 0 → jk S110 a0 = 11 ∧ jFi E mX11_isSign d 0 0 [.ref a0, .int 41] S110 (fun r115 S114 => (r115 = 0 → Q 0 S114) ∧ (¬ r115 = 0 → jk S114 a0 = 11 ∧ jFv E mX11_nextToken d 0 0 [.ref a0] (jput S114 a0 25 ((ji S114 a0 25) - 1)) (fun S118 => Q 1 S118)))))))))) ∧ (¬ r100 = 0 → jk S99 a0 = 11 ∧ (8 ≤ (ji S99 a0 26) → jFi E mX11_isSign d 0 0 [.ref a0, .int 40] S99 (fun r122 S121 => (r122 = 0 → Q 0 S121) ∧ (¬ r122 = 0 → jk S121 a0 = 11 ∧ ((ji S121 a0 25) = 8 → Q 0 S121) ∧ (¬ (ji S121 a0 25) = 8 → jFv E mX11_nextToken d 0 0 [.ref a0] (jput S121 a0 25 ((ji S121 a0 25) + 1)) (fun S126 => jk S126 a0 = 11 ∧ jFi E mX11_either d 0 0 [.ref a0, .int x1] S126 (fun r129 S128 => (r129 = 0 → Q 0 S128) ∧ (¬ r129 = 0 → jk S128 a0 = 11 ∧ jFi E mX11_isSign d 0 0 [.ref a0, .int 41] S128 (fun r133 S132 => (r133 = 0 → Q 0 S132) ∧ (¬ r133 = 0 → jk S132 a0 = 11 ∧ jFv E mX11_nextToken d 0 0 [.ref a0] (jput S132 a0 25 ((ji S132 a0 25) - 1)) (fun S136 => Q 1 S136)))))))))) ∧ (¬ 8 ≤ (ji S99 a0 26) → jFv E mX11_nextToken d 0 0 [.ref a0] (jput S99 a0 26 ((ji S99 a0 26) + 1)) (fun S137 => jk S137 a0 = 11 ∧ jFi E mX11_part0 d 0 0 [.ref a0, .int x1] S137 (fun r140 S139 => (r140 = 0 → Q 0 S139) ∧ (¬ r140 = 0 → jk S139 a0 = 11 ∧ jFv E mX11_step d 0 0 [.ref a0, .int 2, .int 33] (jput S139 a0 26 ((ji S139 a0 26) - 1)) (fun S143 => Q 1 S143)))))))) ∧ (¬ (jisname x1 (ji S a0 24)) = 0 → jFv E mX11_step d 0 0 [.ref a0, .int 1, .int (ji S a0 24)] S (fun S144 => jk S144 a0 = 11 ∧ jFv E mX11_nextToken d 0 0 [.ref a0] (jput S144 a0 29 ((ji S144 a0 29) + 1)) (fun S146 => Q 1 S146))))) ∧ (¬ (ji S a0 22) = 1 → jFi E mX11_isSign d 0 0 [.ref a0, .int 33] S (fun r5 S4 => (r5 = 0 → jk S4 a0 = 11 ∧ jFi E mX11_isSign d 0 0 [.ref a0, .int 40] S4 (fun r9 S8 => (r9 = 0 → Q 0 S8) ∧ (¬ r9 = 0 → jk S8 a0 = 11 ∧ ((ji S8 a0 25) = 8 → Q 0 S8) ∧ (¬ (ji S8 a0 25) = 8 → jFv E mX11_nextToken d 0 0 [.ref a0] (jput S8 a0 25 ((ji S8 a0 25) + 1)) (fun S13 => jk S13 a0 = 11 ∧ jFi E mX11_either d 0 0 [.ref a0, .int x1] S13 (fun r16 S15 => (r16 = 0 → Q 0 S15) ∧ (¬ r16 = 0 → jk S15 a0 = 11 ∧ jFi E mX11_isSign d 0 0 [.ref a0, .int 41] S15 (fun r20 S19 => (r20 = 0 → Q 0 S19) ∧ (¬ r20 = 0 → jk S19 a0 = 11 ∧ jFv E mX11_nextToken d 0 0 [.ref a0] (jput S19 a0 25 ((ji S19 a0 25) - 1)) (fun S23 => Q 1 S23)))))))))) ∧ (¬ r5 = 0 → jk S4 a0 = 11 ∧ (8 ≤ (ji S4 a0 26) → jFi E mX11_isSign d 0 0 [.ref a0, .int 40] S4 (fun r27 S26 => (r27 = 0 → Q 0 S26) ∧ (¬ r27 = 0 → jk S26 a0 = 11 ∧ ((ji S26 a0 25) = 8 → Q 0 S26) ∧ (¬ (ji S26 a0 25) = 8 → jFv E mX11_nextToken d 0 0 [.ref a0] (jput S26 a0 25 ((ji S26 a0 25) + 1)) (fun S31 => jk S31 a0 = 11 ∧ jFi E mX11_either d 0 0 [.ref a0, .int x1] S31 (fun r34 S33 => (r34 = 0 → Q 0 S33) ∧ (¬ r34 = 0 → jk S33 a0 = 11 ∧ jFi E mX11_isSign d 0 0 [.ref a0, .int 41] S33 (fun r38 S37 => (r38 = 0 → Q 0 S37) ∧ (¬ r38 = 0 → jk S37 a0 = 11 ∧ jFv E mX11_nextToken d 0 0 [.ref a0] (jput S37 a0 25 ((ji S37 a0 25) - 1)) (fun S41 => Q 1 S41)))))))))) ∧ (¬ 8 ≤ (ji S4 a0 26) → jFv E mX11_nextToken d 0 0 [.ref a0] (jput S4 a0 26 ((ji S4 a0 26) + 1)) (fun S42 => jk S42 a0 = 11 ∧ jFi E mX11_part0 d 0 0 [.ref a0, .int x1] S42 (fun r45 S44 => (r45 = 0 → Q 0 S44) ∧ (¬ r45 = 0 → jk S44 a0 = 11 ∧ jFv E mX11_step d 0 0 [.ref a0, .int 2, .int 33] (jput S44 a0 26 ((ji S44 a0 26) - 1)) (fun S48 => Q 1 S48)))))))))) : jFi E mX11_part0 (d + 1) 0 0 [.ref a0, .int x1] S Q := by
  refine jF_of (by decide) (jle rfl) ?_
  refine jx_lv (lv1 := [(0, .ref a0), (1, .int x1)]) [0, 1] rfl ?_
  refine jx_aload_n 0 dX11_part0_0 rfl rfl ?_
  obtain ⟨hk1, h⟩ := h
  refine jx_geti jc_11 (j := 22) (by decide) rfl jwF_X11_228 dX11_part0_1 hk1 ?_
  refine jx_iconst (v := 2) dX11_part0_4 (by decide) ?_
  refine jx_icmp_ne (tgt := 33) dX11_part0_5 (by decide) (fun c2 => ?_) (fun c2 => ?_)
  · replace h := h.2 c2
    refine jx_aload_n 0 dX11_part0_33 rfl rfl ?_
    refine jx_geti jc_11 (j := 22) (by decide) rfl jwF_X11_228 dX11_part0_34 hk1 ?_
    refine jx_iconst (v := 1) dX11_part0_37 (by decide) ?_
    refine jx_icmp_ne (tgt := 84) dX11_part0_38 (by decide) (fun c3 => ?_) (fun c3 => ?_)
    · replace h := h.2 c3
      refine jx_aload_n 0 dX11_part0_84 rfl rfl ?_
      refine jx_bipush (v := 33) dX11_part0_85 (by decide) ?_
      refine jx_callVi (M' := mX11_isSign) (As := [.int 33]) jo_X11_isSign jc_11 rfl jwM_X11_259 jwN_X11_isSign jwX_X11_isSign dX11_part0_87 (jRok_m _ _ _) rfl (jle rfl) ⟨jle rfl, jle rfl⟩ hk1 h (fun r5 S4 h => ?_)
      refine jx_if_eq (tgt := 145) dX11_part0_90 (by decide) (fun c6 => ?_) (fun c6 => ?_)
      · replace h := h.1 c6
        refine jx_aload_n 0 dX11_part0_145 rfl rfl ?_
        refine jx_bipush (v := 40) dX11_part0_146 (by decide) ?_
        obtain ⟨hk7, h⟩ := h
        refine jx_callVi (M' := mX11_isSign) (As := [.int 40]) jo_X11_isSign jc_11 rfl jwM_X11_259 jwN_X11_isSign jwX_X11_isSign dX11_part0_148 (jRok_m _ _ _) rfl (jle rfl) ⟨jle rfl, jle rfl⟩ hk7 h (fun r9 S8 h => ?_)
        refine jx_if_eq (tgt := 163) dX11_part0_151 (by decide) (fun c10 => ?_) (fun c10 => ?_)
        · replace h := h.1 c10
          refine jx_iconst (v := 0) dX11_part0_163 (by decide) ?_
          exact jx_iret dX11_part0_164 rfl (by decide) (jle rfl) (jle rfl) ⟨_, rfl, h⟩
        replace h := h.2 c10
        refine jx_aload_n 0 dX11_part0_154 rfl rfl ?_
        obtain ⟨hk11, h⟩ := h
        refine jx_geti jc_11 (j := 25) (by decide) rfl jwF_X11_290 dX11_part0_155 hk11 ?_
        refine jx_bipush (v := 8) dX11_part0_158 (by decide) ?_
        refine jx_icmp_ne (tgt := 165) dX11_part0_160 (by decide) (fun c12 => ?_) (fun c12 => ?_)
        · replace h := h.2 c12
          refine jx_aload_n 0 dX11_part0_165 rfl rfl ?_
          refine jx_dup dX11_part0_166 rfl ?_
          refine jx_geti jc_11 (j := 25) (by decide) rfl jwF_X11_290 dX11_part0_167 hk11 ?_
          refine jx_iconst (v := 1) dX11_part0_170 (by decide) ?_
          refine jx_iadd dX11_part0_171 ?_
          refine jx_puti jc_11 (j := 25) (by decide) rfl jwF_X11_290 rfl rfl rfl dX11_part0_172 hk11 ?_
          refine jx_aload_n 0 dX11_part0_175 rfl rfl ?_
          refine jx_callVv (M' := mX11_nextToken) (As := []) jo_X11_nextToken jc_11 rfl jwM_X11_262 jwN_X11_nextToken jwX_X11_nextToken dX11_part0_176 (jRok_m _ _ _) rfl (jle rfl) ⟨jle rfl, jle rfl⟩ hk11 h (fun S13 h => ?_)
          refine jx_aload_n 0 dX11_part0_179 rfl rfl ?_
          refine jx_iload_n 1 dX11_part0_180 rfl rfl ?_
          obtain ⟨hk14, h⟩ := h
          refine jx_callVi (M' := mX11_either) (As := [.int x1]) jo_X11_either jc_11 rfl jwM_X11_293 jwN_X11_either jwX_X11_either dX11_part0_181 (jRok_m _ _ _) rfl (jle rfl) ⟨jle rfl, jle rfl⟩ hk14 h (fun r16 S15 h => ?_)
          refine jx_if_eq (tgt := 196) dX11_part0_184 (by decide) (fun c17 => ?_) (fun c17 => ?_)
          · replace h := h.1 c17
            refine jx_iconst (v := 0) dX11_part0_196 (by decide) ?_
            exact jx_iret dX11_part0_197 rfl (by decide) (jle rfl) (jle rfl) ⟨_, rfl, h⟩
          replace h := h.2 c17
          refine jx_aload_n 0 dX11_part0_187 rfl rfl ?_
          refine jx_bipush (v := 41) dX11_part0_188 (by decide) ?_
          obtain ⟨hk18, h⟩ := h
          refine jx_callVi (M' := mX11_isSign) (As := [.int 41]) jo_X11_isSign jc_11 rfl jwM_X11_259 jwN_X11_isSign jwX_X11_isSign dX11_part0_190 (jRok_m _ _ _) rfl (jle rfl) ⟨jle rfl, jle rfl⟩ hk18 h (fun r20 S19 h => ?_)
          refine jx_if_ne (tgt := 198) dX11_part0_193 (by decide) (fun c21 => ?_) (fun c21 => ?_)
          · replace h := h.2 c21
            refine jx_aload_n 0 dX11_part0_198 rfl rfl ?_
            refine jx_dup dX11_part0_199 rfl ?_
            obtain ⟨hk22, h⟩ := h
            refine jx_geti jc_11 (j := 25) (by decide) rfl jwF_X11_290 dX11_part0_200 hk22 ?_
            refine jx_iconst (v := 1) dX11_part0_203 (by decide) ?_
            refine jx_isub dX11_part0_204 ?_
            refine jx_puti jc_11 (j := 25) (by decide) rfl jwF_X11_290 rfl rfl rfl dX11_part0_205 hk22 ?_
            refine jx_aload_n 0 dX11_part0_208 rfl rfl ?_
            refine jx_callVv (M' := mX11_nextToken) (As := []) jo_X11_nextToken jc_11 rfl jwM_X11_262 jwN_X11_nextToken jwX_X11_nextToken dX11_part0_209 (jRok_m _ _ _) rfl (jle rfl) ⟨jle rfl, jle rfl⟩ hk22 h (fun S23 h => ?_)
            refine jx_iconst (v := 1) dX11_part0_212 (by decide) ?_
            exact jx_iret dX11_part0_213 rfl (by decide) (jle rfl) (jle rfl) ⟨_, rfl, h⟩
          replace h := h.1 c21
          refine jx_iconst (v := 0) dX11_part0_196 (by decide) ?_
          exact jx_iret dX11_part0_197 rfl (by decide) (jle rfl) (jle rfl) ⟨_, rfl, h⟩
        replace h := h.1 c12
        refine jx_iconst (v := 0) dX11_part0_163 (by decide) ?_
        exact jx_iret dX11_part0_164 rfl (by decide) (jle rfl) (jle rfl) ⟨_, rfl, h⟩
      replace h := h.2 c6
      refine jx_aload_n 0 dX11_part0_93 rfl rfl ?_
      obtain ⟨hk24, h⟩ := h
      refine jx_geti jc_11 (j := 26) (by decide) rfl jwF_X11_287 dX11_part0_94 hk24 ?_
      refine jx_bipush (v := 8) dX11_part0_97 (by decide) ?_
      refine jx_icmp_ge (tgt := 145) dX11_part0_99 (by decide) (fun c25 => ?_) (fun c25 => ?_)
      · replace h := h.1 c25
        refine jx_aload_n 0 dX11_part0_145 rfl rfl ?_
        refine jx_bipush (v := 40) dX11_part0_146 (by decide) ?_
        refine jx_callVi (M' := mX11_isSign) (As := [.int 40]) jo_X11_isSign jc_11 rfl jwM_X11_259 jwN_X11_isSign jwX_X11_isSign dX11_part0_148 (jRok_m _ _ _) rfl (jle rfl) ⟨jle rfl, jle rfl⟩ hk24 h (fun r27 S26 h => ?_)
        refine jx_if_eq (tgt := 163) dX11_part0_151 (by decide) (fun c28 => ?_) (fun c28 => ?_)
        · replace h := h.1 c28
          refine jx_iconst (v := 0) dX11_part0_163 (by decide) ?_
          exact jx_iret dX11_part0_164 rfl (by decide) (jle rfl) (jle rfl) ⟨_, rfl, h⟩
        replace h := h.2 c28
        refine jx_aload_n 0 dX11_part0_154 rfl rfl ?_
        obtain ⟨hk29, h⟩ := h
        refine jx_geti jc_11 (j := 25) (by decide) rfl jwF_X11_290 dX11_part0_155 hk29 ?_
        refine jx_bipush (v := 8) dX11_part0_158 (by decide) ?_
        refine jx_icmp_ne (tgt := 165) dX11_part0_160 (by decide) (fun c30 => ?_) (fun c30 => ?_)
        · replace h := h.2 c30
          refine jx_aload_n 0 dX11_part0_165 rfl rfl ?_
          refine jx_dup dX11_part0_166 rfl ?_
          refine jx_geti jc_11 (j := 25) (by decide) rfl jwF_X11_290 dX11_part0_167 hk29 ?_
          refine jx_iconst (v := 1) dX11_part0_170 (by decide) ?_
          refine jx_iadd dX11_part0_171 ?_
          refine jx_puti jc_11 (j := 25) (by decide) rfl jwF_X11_290 rfl rfl rfl dX11_part0_172 hk29 ?_
          refine jx_aload_n 0 dX11_part0_175 rfl rfl ?_
          refine jx_callVv (M' := mX11_nextToken) (As := []) jo_X11_nextToken jc_11 rfl jwM_X11_262 jwN_X11_nextToken jwX_X11_nextToken dX11_part0_176 (jRok_m _ _ _) rfl (jle rfl) ⟨jle rfl, jle rfl⟩ hk29 h (fun S31 h => ?_)
          refine jx_aload_n 0 dX11_part0_179 rfl rfl ?_
          refine jx_iload_n 1 dX11_part0_180 rfl rfl ?_
          obtain ⟨hk32, h⟩ := h
          refine jx_callVi (M' := mX11_either) (As := [.int x1]) jo_X11_either jc_11 rfl jwM_X11_293 jwN_X11_either jwX_X11_either dX11_part0_181 (jRok_m _ _ _) rfl (jle rfl) ⟨jle rfl, jle rfl⟩ hk32 h (fun r34 S33 h => ?_)
          refine jx_if_eq (tgt := 196) dX11_part0_184 (by decide) (fun c35 => ?_) (fun c35 => ?_)
          · replace h := h.1 c35
            refine jx_iconst (v := 0) dX11_part0_196 (by decide) ?_
            exact jx_iret dX11_part0_197 rfl (by decide) (jle rfl) (jle rfl) ⟨_, rfl, h⟩
          replace h := h.2 c35
          refine jx_aload_n 0 dX11_part0_187 rfl rfl ?_
          refine jx_bipush (v := 41) dX11_part0_188 (by decide) ?_
          obtain ⟨hk36, h⟩ := h
          refine jx_callVi (M' := mX11_isSign) (As := [.int 41]) jo_X11_isSign jc_11 rfl jwM_X11_259 jwN_X11_isSign jwX_X11_isSign dX11_part0_190 (jRok_m _ _ _) rfl (jle rfl) ⟨jle rfl, jle rfl⟩ hk36 h (fun r38 S37 h => ?_)
          refine jx_if_ne (tgt := 198) dX11_part0_193 (by decide) (fun c39 => ?_) (fun c39 => ?_)
          · replace h := h.2 c39
            refine jx_aload_n 0 dX11_part0_198 rfl rfl ?_
            refine jx_dup dX11_part0_199 rfl ?_
            obtain ⟨hk40, h⟩ := h
            refine jx_geti jc_11 (j := 25) (by decide) rfl jwF_X11_290 dX11_part0_200 hk40 ?_
            refine jx_iconst (v := 1) dX11_part0_203 (by decide) ?_
            refine jx_isub dX11_part0_204 ?_
            refine jx_puti jc_11 (j := 25) (by decide) rfl jwF_X11_290 rfl rfl rfl dX11_part0_205 hk40 ?_
            refine jx_aload_n 0 dX11_part0_208 rfl rfl ?_
            refine jx_callVv (M' := mX11_nextToken) (As := []) jo_X11_nextToken jc_11 rfl jwM_X11_262 jwN_X11_nextToken jwX_X11_nextToken dX11_part0_209 (jRok_m _ _ _) rfl (jle rfl) ⟨jle rfl, jle rfl⟩ hk40 h (fun S41 h => ?_)
            refine jx_iconst (v := 1) dX11_part0_212 (by decide) ?_
            exact jx_iret dX11_part0_213 rfl (by decide) (jle rfl) (jle rfl) ⟨_, rfl, h⟩
          replace h := h.1 c39
          refine jx_iconst (v := 0) dX11_part0_196 (by decide) ?_
          exact jx_iret dX11_part0_197 rfl (by decide) (jle rfl) (jle rfl) ⟨_, rfl, h⟩
        replace h := h.1 c30
        refine jx_iconst (v := 0) dX11_part0_163 (by decide) ?_
        exact jx_iret dX11_part0_164 rfl (by decide) (jle rfl) (jle rfl) ⟨_, rfl, h⟩
      replace h := h.2 c25
      refine jx_aload_n 0 dX11_part0_102 rfl rfl ?_
      refine jx_dup dX11_part0_103 rfl ?_
      refine jx_geti jc_11 (j := 26) (by decide) rfl jwF_X11_287 dX11_part0_104 hk24 ?_
      refine jx_iconst (v := 1) dX11_part0_107 (by decide) ?_
      refine jx_iadd dX11_part0_108 ?_
      refine jx_puti jc_11 (j := 26) (by decide) rfl jwF_X11_287 rfl rfl rfl dX11_part0_109 hk24 ?_
      refine jx_aload_n 0 dX11_part0_112 rfl rfl ?_
      refine jx_callVv (M' := mX11_nextToken) (As := []) jo_X11_nextToken jc_11 rfl jwM_X11_262 jwN_X11_nextToken jwX_X11_nextToken dX11_part0_113 (jRok_m _ _ _) rfl (jle rfl) ⟨jle rfl, jle rfl⟩ hk24 h (fun S42 h => ?_)
      refine jx_aload_n 0 dX11_part0_116 rfl rfl ?_
      refine jx_iload_n 1 dX11_part0_117 rfl rfl ?_
      obtain ⟨hk43, h⟩ := h
      refine jx_callVi (M' := mX11_part0) (As := [.int x1]) jo_X11_part0 jc_11 rfl jwM_X11_278 jwN_X11_part0 jwX_X11_part0 dX11_part0_118 (jRok_m _ _ _) rfl (jle rfl) ⟨jle rfl, jle rfl⟩ hk43 h (fun r45 S44 h => ?_)
      refine jx_if_ne (tgt := 126) dX11_part0_121 (by decide) (fun c46 => ?_) (fun c46 => ?_)
      · replace h := h.2 c46
        refine jx_aload_n 0 dX11_part0_126 rfl rfl ?_
        refine jx_dup dX11_part0_127 rfl ?_
        obtain ⟨hk47, h⟩ := h
        refine jx_geti jc_11 (j := 26) (by decide) rfl jwF_X11_287 dX11_part0_128 hk47 ?_
        refine jx_iconst (v := 1) dX11_part0_131 (by decide) ?_
        refine jx_isub dX11_part0_132 ?_
        refine jx_puti jc_11 (j := 26) (by decide) rfl jwF_X11_287 rfl rfl rfl dX11_part0_133 hk47 ?_
        refine jx_aload_n 0 dX11_part0_136 rfl rfl ?_
        refine jx_iconst (v := 2) dX11_part0_137 (by decide) ?_
        refine jx_bipush (v := 33) dX11_part0_138 (by decide) ?_
        refine jx_callVv (M' := mX11_step) (As := [.int 2, .int 33]) jo_X11_step jc_11 rfl jwM_X11_265 jwN_X11_step jwX_X11_step dX11_part0_140 (jRok_m _ _ _) rfl (jle rfl) ⟨jle rfl, jle rfl⟩ hk47 h (fun S48 h => ?_)
        refine jx_iconst (v := 1) dX11_part0_143 (by decide) ?_
        exact jx_iret dX11_part0_144 rfl (by decide) (jle rfl) (jle rfl) ⟨_, rfl, h⟩
      replace h := h.1 c46
      refine jx_iconst (v := 0) dX11_part0_124 (by decide) ?_
      exact jx_iret dX11_part0_125 rfl (by decide) (jle rfl) (jle rfl) ⟨_, rfl, h⟩
    replace h := h.1 c3
    refine jx_aload_n 0 dX11_part0_41 rfl rfl ?_
    refine jx_geti jc_11 (j := 24) (by decide) rfl jwF_X11_237 dX11_part0_42 hk1 ?_
    refine jx_if_eq (tgt := 84) dX11_part0_45 (by decide) (fun c49 => ?_) (fun c49 => ?_)
    · replace h := h.1 c49
      refine jx_aload_n 0 dX11_part0_84 rfl rfl ?_
      refine jx_bipush (v := 33) dX11_part0_85 (by decide) ?_
      refine jx_callVi (M' := mX11_isSign) (As := [.int 33]) jo_X11_isSign jc_11 rfl jwM_X11_259 jwN_X11_isSign jwX_X11_isSign dX11_part0_87 (jRok_m _ _ _) rfl (jle rfl) ⟨jle rfl, jle rfl⟩ hk1 h (fun r51 S50 h => ?_)
      refine jx_if_eq (tgt := 145) dX11_part0_90 (by decide) (fun c52 => ?_) (fun c52 => ?_)
      · replace h := h.1 c52
        refine jx_aload_n 0 dX11_part0_145 rfl rfl ?_
        refine jx_bipush (v := 40) dX11_part0_146 (by decide) ?_
        obtain ⟨hk53, h⟩ := h
        refine jx_callVi (M' := mX11_isSign) (As := [.int 40]) jo_X11_isSign jc_11 rfl jwM_X11_259 jwN_X11_isSign jwX_X11_isSign dX11_part0_148 (jRok_m _ _ _) rfl (jle rfl) ⟨jle rfl, jle rfl⟩ hk53 h (fun r55 S54 h => ?_)
        refine jx_if_eq (tgt := 163) dX11_part0_151 (by decide) (fun c56 => ?_) (fun c56 => ?_)
        · replace h := h.1 c56
          refine jx_iconst (v := 0) dX11_part0_163 (by decide) ?_
          exact jx_iret dX11_part0_164 rfl (by decide) (jle rfl) (jle rfl) ⟨_, rfl, h⟩
        replace h := h.2 c56
        refine jx_aload_n 0 dX11_part0_154 rfl rfl ?_
        obtain ⟨hk57, h⟩ := h
        refine jx_geti jc_11 (j := 25) (by decide) rfl jwF_X11_290 dX11_part0_155 hk57 ?_
        refine jx_bipush (v := 8) dX11_part0_158 (by decide) ?_
        refine jx_icmp_ne (tgt := 165) dX11_part0_160 (by decide) (fun c58 => ?_) (fun c58 => ?_)
        · replace h := h.2 c58
          refine jx_aload_n 0 dX11_part0_165 rfl rfl ?_
          refine jx_dup dX11_part0_166 rfl ?_
          refine jx_geti jc_11 (j := 25) (by decide) rfl jwF_X11_290 dX11_part0_167 hk57 ?_
          refine jx_iconst (v := 1) dX11_part0_170 (by decide) ?_
          refine jx_iadd dX11_part0_171 ?_
          refine jx_puti jc_11 (j := 25) (by decide) rfl jwF_X11_290 rfl rfl rfl dX11_part0_172 hk57 ?_
          refine jx_aload_n 0 dX11_part0_175 rfl rfl ?_
          refine jx_callVv (M' := mX11_nextToken) (As := []) jo_X11_nextToken jc_11 rfl jwM_X11_262 jwN_X11_nextToken jwX_X11_nextToken dX11_part0_176 (jRok_m _ _ _) rfl (jle rfl) ⟨jle rfl, jle rfl⟩ hk57 h (fun S59 h => ?_)
          refine jx_aload_n 0 dX11_part0_179 rfl rfl ?_
          refine jx_iload_n 1 dX11_part0_180 rfl rfl ?_
          obtain ⟨hk60, h⟩ := h
          refine jx_callVi (M' := mX11_either) (As := [.int x1]) jo_X11_either jc_11 rfl jwM_X11_293 jwN_X11_either jwX_X11_either dX11_part0_181 (jRok_m _ _ _) rfl (jle rfl) ⟨jle rfl, jle rfl⟩ hk60 h (fun r62 S61 h => ?_)
          refine jx_if_eq (tgt := 196) dX11_part0_184 (by decide) (fun c63 => ?_) (fun c63 => ?_)
          · replace h := h.1 c63
            refine jx_iconst (v := 0) dX11_part0_196 (by decide) ?_
            exact jx_iret dX11_part0_197 rfl (by decide) (jle rfl) (jle rfl) ⟨_, rfl, h⟩
          replace h := h.2 c63
          refine jx_aload_n 0 dX11_part0_187 rfl rfl ?_
          refine jx_bipush (v := 41) dX11_part0_188 (by decide) ?_
          obtain ⟨hk64, h⟩ := h
          refine jx_callVi (M' := mX11_isSign) (As := [.int 41]) jo_X11_isSign jc_11 rfl jwM_X11_259 jwN_X11_isSign jwX_X11_isSign dX11_part0_190 (jRok_m _ _ _) rfl (jle rfl) ⟨jle rfl, jle rfl⟩ hk64 h (fun r66 S65 h => ?_)
          refine jx_if_ne (tgt := 198) dX11_part0_193 (by decide) (fun c67 => ?_) (fun c67 => ?_)
          · replace h := h.2 c67
            refine jx_aload_n 0 dX11_part0_198 rfl rfl ?_
            refine jx_dup dX11_part0_199 rfl ?_
            obtain ⟨hk68, h⟩ := h
            refine jx_geti jc_11 (j := 25) (by decide) rfl jwF_X11_290 dX11_part0_200 hk68 ?_
            refine jx_iconst (v := 1) dX11_part0_203 (by decide) ?_
            refine jx_isub dX11_part0_204 ?_
            refine jx_puti jc_11 (j := 25) (by decide) rfl jwF_X11_290 rfl rfl rfl dX11_part0_205 hk68 ?_
            refine jx_aload_n 0 dX11_part0_208 rfl rfl ?_
            refine jx_callVv (M' := mX11_nextToken) (As := []) jo_X11_nextToken jc_11 rfl jwM_X11_262 jwN_X11_nextToken jwX_X11_nextToken dX11_part0_209 (jRok_m _ _ _) rfl (jle rfl) ⟨jle rfl, jle rfl⟩ hk68 h (fun S69 h => ?_)
            refine jx_iconst (v := 1) dX11_part0_212 (by decide) ?_
            exact jx_iret dX11_part0_213 rfl (by decide) (jle rfl) (jle rfl) ⟨_, rfl, h⟩
          replace h := h.1 c67
          refine jx_iconst (v := 0) dX11_part0_196 (by decide) ?_
          exact jx_iret dX11_part0_197 rfl (by decide) (jle rfl) (jle rfl) ⟨_, rfl, h⟩
        replace h := h.1 c58
        refine jx_iconst (v := 0) dX11_part0_163 (by decide) ?_
        exact jx_iret dX11_part0_164 rfl (by decide) (jle rfl) (jle rfl) ⟨_, rfl, h⟩
      replace h := h.2 c52
      refine jx_aload_n 0 dX11_part0_93 rfl rfl ?_
      obtain ⟨hk70, h⟩ := h
      refine jx_geti jc_11 (j := 26) (by decide) rfl jwF_X11_287 dX11_part0_94 hk70 ?_
      refine jx_bipush (v := 8) dX11_part0_97 (by decide) ?_
      refine jx_icmp_ge (tgt := 145) dX11_part0_99 (by decide) (fun c71 => ?_) (fun c71 => ?_)
      · replace h := h.1 c71
        refine jx_aload_n 0 dX11_part0_145 rfl rfl ?_
        refine jx_bipush (v := 40) dX11_part0_146 (by decide) ?_
        refine jx_callVi (M' := mX11_isSign) (As := [.int 40]) jo_X11_isSign jc_11 rfl jwM_X11_259 jwN_X11_isSign jwX_X11_isSign dX11_part0_148 (jRok_m _ _ _) rfl (jle rfl) ⟨jle rfl, jle rfl⟩ hk70 h (fun r73 S72 h => ?_)
        refine jx_if_eq (tgt := 163) dX11_part0_151 (by decide) (fun c74 => ?_) (fun c74 => ?_)
        · replace h := h.1 c74
          refine jx_iconst (v := 0) dX11_part0_163 (by decide) ?_
          exact jx_iret dX11_part0_164 rfl (by decide) (jle rfl) (jle rfl) ⟨_, rfl, h⟩
        replace h := h.2 c74
        refine jx_aload_n 0 dX11_part0_154 rfl rfl ?_
        obtain ⟨hk75, h⟩ := h
        refine jx_geti jc_11 (j := 25) (by decide) rfl jwF_X11_290 dX11_part0_155 hk75 ?_
        refine jx_bipush (v := 8) dX11_part0_158 (by decide) ?_
        refine jx_icmp_ne (tgt := 165) dX11_part0_160 (by decide) (fun c76 => ?_) (fun c76 => ?_)
        · replace h := h.2 c76
          refine jx_aload_n 0 dX11_part0_165 rfl rfl ?_
          refine jx_dup dX11_part0_166 rfl ?_
          refine jx_geti jc_11 (j := 25) (by decide) rfl jwF_X11_290 dX11_part0_167 hk75 ?_
          refine jx_iconst (v := 1) dX11_part0_170 (by decide) ?_
          refine jx_iadd dX11_part0_171 ?_
          refine jx_puti jc_11 (j := 25) (by decide) rfl jwF_X11_290 rfl rfl rfl dX11_part0_172 hk75 ?_
          refine jx_aload_n 0 dX11_part0_175 rfl rfl ?_
          refine jx_callVv (M' := mX11_nextToken) (As := []) jo_X11_nextToken jc_11 rfl jwM_X11_262 jwN_X11_nextToken jwX_X11_nextToken dX11_part0_176 (jRok_m _ _ _) rfl (jle rfl) ⟨jle rfl, jle rfl⟩ hk75 h (fun S77 h => ?_)
          refine jx_aload_n 0 dX11_part0_179 rfl rfl ?_
          refine jx_iload_n 1 dX11_part0_180 rfl rfl ?_
          obtain ⟨hk78, h⟩ := h
          refine jx_callVi (M' := mX11_either) (As := [.int x1]) jo_X11_either jc_11 rfl jwM_X11_293 jwN_X11_either jwX_X11_either dX11_part0_181 (jRok_m _ _ _) rfl (jle rfl) ⟨jle rfl, jle rfl⟩ hk78 h (fun r80 S79 h => ?_)
          refine jx_if_eq (tgt := 196) dX11_part0_184 (by decide) (fun c81 => ?_) (fun c81 => ?_)
          · replace h := h.1 c81
            refine jx_iconst (v := 0) dX11_part0_196 (by decide) ?_
            exact jx_iret dX11_part0_197 rfl (by decide) (jle rfl) (jle rfl) ⟨_, rfl, h⟩
          replace h := h.2 c81
          refine jx_aload_n 0 dX11_part0_187 rfl rfl ?_
          refine jx_bipush (v := 41) dX11_part0_188 (by decide) ?_
          obtain ⟨hk82, h⟩ := h
          refine jx_callVi (M' := mX11_isSign) (As := [.int 41]) jo_X11_isSign jc_11 rfl jwM_X11_259 jwN_X11_isSign jwX_X11_isSign dX11_part0_190 (jRok_m _ _ _) rfl (jle rfl) ⟨jle rfl, jle rfl⟩ hk82 h (fun r84 S83 h => ?_)
          refine jx_if_ne (tgt := 198) dX11_part0_193 (by decide) (fun c85 => ?_) (fun c85 => ?_)
          · replace h := h.2 c85
            refine jx_aload_n 0 dX11_part0_198 rfl rfl ?_
            refine jx_dup dX11_part0_199 rfl ?_
            obtain ⟨hk86, h⟩ := h
            refine jx_geti jc_11 (j := 25) (by decide) rfl jwF_X11_290 dX11_part0_200 hk86 ?_
            refine jx_iconst (v := 1) dX11_part0_203 (by decide) ?_
            refine jx_isub dX11_part0_204 ?_
            refine jx_puti jc_11 (j := 25) (by decide) rfl jwF_X11_290 rfl rfl rfl dX11_part0_205 hk86 ?_
            refine jx_aload_n 0 dX11_part0_208 rfl rfl ?_
            refine jx_callVv (M' := mX11_nextToken) (As := []) jo_X11_nextToken jc_11 rfl jwM_X11_262 jwN_X11_nextToken jwX_X11_nextToken dX11_part0_209 (jRok_m _ _ _) rfl (jle rfl) ⟨jle rfl, jle rfl⟩ hk86 h (fun S87 h => ?_)
            refine jx_iconst (v := 1) dX11_part0_212 (by decide) ?_
            exact jx_iret dX11_part0_213 rfl (by decide) (jle rfl) (jle rfl) ⟨_, rfl, h⟩
          replace h := h.1 c85
          refine jx_iconst (v := 0) dX11_part0_196 (by decide) ?_
          exact jx_iret dX11_part0_197 rfl (by decide) (jle rfl) (jle rfl) ⟨_, rfl, h⟩
        replace h := h.1 c76
        refine jx_iconst (v := 0) dX11_part0_163 (by decide) ?_
        exact jx_iret dX11_part0_164 rfl (by decide) (jle rfl) (jle rfl) ⟨_, rfl, h⟩
      replace h := h.2 c71
      refine jx_aload_n 0 dX11_part0_102 rfl rfl ?_
      refine jx_dup dX11_part0_103 rfl ?_
      refine jx_geti jc_11 (j := 26) (by decide) rfl jwF_X11_287 dX11_part0_104 hk70 ?_
      refine jx_iconst (v := 1) dX11_part0_107 (by decide) ?_
      refine jx_iadd dX11_part0_108 ?_
      refine jx_puti jc_11 (j := 26) (by decide) rfl jwF_X11_287 rfl rfl rfl dX11_part0_109 hk70 ?_
      refine jx_aload_n 0 dX11_part0_112 rfl rfl ?_
      refine jx_callVv (M' := mX11_nextToken) (As := []) jo_X11_nextToken jc_11 rfl jwM_X11_262 jwN_X11_nextToken jwX_X11_nextToken dX11_part0_113 (jRok_m _ _ _) rfl (jle rfl) ⟨jle rfl, jle rfl⟩ hk70 h (fun S88 h => ?_)
      refine jx_aload_n 0 dX11_part0_116 rfl rfl ?_
      refine jx_iload_n 1 dX11_part0_117 rfl rfl ?_
      obtain ⟨hk89, h⟩ := h
      refine jx_callVi (M' := mX11_part0) (As := [.int x1]) jo_X11_part0 jc_11 rfl jwM_X11_278 jwN_X11_part0 jwX_X11_part0 dX11_part0_118 (jRok_m _ _ _) rfl (jle rfl) ⟨jle rfl, jle rfl⟩ hk89 h (fun r91 S90 h => ?_)
      refine jx_if_ne (tgt := 126) dX11_part0_121 (by decide) (fun c92 => ?_) (fun c92 => ?_)
      · replace h := h.2 c92
        refine jx_aload_n 0 dX11_part0_126 rfl rfl ?_
        refine jx_dup dX11_part0_127 rfl ?_
        obtain ⟨hk93, h⟩ := h
        refine jx_geti jc_11 (j := 26) (by decide) rfl jwF_X11_287 dX11_part0_128 hk93 ?_
        refine jx_iconst (v := 1) dX11_part0_131 (by decide) ?_
        refine jx_isub dX11_part0_132 ?_
        refine jx_puti jc_11 (j := 26) (by decide) rfl jwF_X11_287 rfl rfl rfl dX11_part0_133 hk93 ?_
        refine jx_aload_n 0 dX11_part0_136 rfl rfl ?_
        refine jx_iconst (v := 2) dX11_part0_137 (by decide) ?_
        refine jx_bipush (v := 33) dX11_part0_138 (by decide) ?_
        refine jx_callVv (M' := mX11_step) (As := [.int 2, .int 33]) jo_X11_step jc_11 rfl jwM_X11_265 jwN_X11_step jwX_X11_step dX11_part0_140 (jRok_m _ _ _) rfl (jle rfl) ⟨jle rfl, jle rfl⟩ hk93 h (fun S94 h => ?_)
        refine jx_iconst (v := 1) dX11_part0_143 (by decide) ?_
        exact jx_iret dX11_part0_144 rfl (by decide) (jle rfl) (jle rfl) ⟨_, rfl, h⟩
      replace h := h.1 c92
      refine jx_iconst (v := 0) dX11_part0_124 (by decide) ?_
      exact jx_iret dX11_part0_125 rfl (by decide) (jle rfl) (jle rfl) ⟨_, rfl, h⟩
    replace h := h.2 c49
    refine jx_iload_n 1 dX11_part0_48 rfl rfl ?_
    refine jx_aload_n 0 dX11_part0_49 rfl rfl ?_
    refine jx_geti jc_11 (j := 24) (by decide) rfl jwF_X11_237 dX11_part0_50 hk1 ?_
    refine jx_callSi (M' := mX11_isName) (As := [.int x1, .int (ji S a0 24)]) jo_X11_isName jwM_X11_284 jwS_X11_isName dX11_part0_53 (jRok_m _ _ _) rfl (jle rfl) ⟨jle rfl, jle rfl⟩ (c_X11_isName (Q := fun v S' => v = (jisname x1 (ji S a0 24)) ∧ S = S') ⟨rfl, rfl⟩) (fun r95 S96 hq97 => ?_)
    obtain ⟨rfl, rfl⟩ := hq97
    refine jx_if_eq (tgt := 84) dX11_part0_56 (by decide) (fun c98 => ?_) (fun c98 => ?_)
    · replace h := h.1 c98
      refine jx_aload_n 0 dX11_part0_84 rfl rfl ?_
      refine jx_bipush (v := 33) dX11_part0_85 (by decide) ?_
      refine jx_callVi (M' := mX11_isSign) (As := [.int 33]) jo_X11_isSign jc_11 rfl jwM_X11_259 jwN_X11_isSign jwX_X11_isSign dX11_part0_87 (jRok_m _ _ _) rfl (jle rfl) ⟨jle rfl, jle rfl⟩ hk1 h (fun r100 S99 h => ?_)
      refine jx_if_eq (tgt := 145) dX11_part0_90 (by decide) (fun c101 => ?_) (fun c101 => ?_)
      · replace h := h.1 c101
        refine jx_aload_n 0 dX11_part0_145 rfl rfl ?_
        refine jx_bipush (v := 40) dX11_part0_146 (by decide) ?_
        obtain ⟨hk102, h⟩ := h
        refine jx_callVi (M' := mX11_isSign) (As := [.int 40]) jo_X11_isSign jc_11 rfl jwM_X11_259 jwN_X11_isSign jwX_X11_isSign dX11_part0_148 (jRok_m _ _ _) rfl (jle rfl) ⟨jle rfl, jle rfl⟩ hk102 h (fun r104 S103 h => ?_)
        refine jx_if_eq (tgt := 163) dX11_part0_151 (by decide) (fun c105 => ?_) (fun c105 => ?_)
        · replace h := h.1 c105
          refine jx_iconst (v := 0) dX11_part0_163 (by decide) ?_
          exact jx_iret dX11_part0_164 rfl (by decide) (jle rfl) (jle rfl) ⟨_, rfl, h⟩
        replace h := h.2 c105
        refine jx_aload_n 0 dX11_part0_154 rfl rfl ?_
        obtain ⟨hk106, h⟩ := h
        refine jx_geti jc_11 (j := 25) (by decide) rfl jwF_X11_290 dX11_part0_155 hk106 ?_
        refine jx_bipush (v := 8) dX11_part0_158 (by decide) ?_
        refine jx_icmp_ne (tgt := 165) dX11_part0_160 (by decide) (fun c107 => ?_) (fun c107 => ?_)
        · replace h := h.2 c107
          refine jx_aload_n 0 dX11_part0_165 rfl rfl ?_
          refine jx_dup dX11_part0_166 rfl ?_
          refine jx_geti jc_11 (j := 25) (by decide) rfl jwF_X11_290 dX11_part0_167 hk106 ?_
          refine jx_iconst (v := 1) dX11_part0_170 (by decide) ?_
          refine jx_iadd dX11_part0_171 ?_
          refine jx_puti jc_11 (j := 25) (by decide) rfl jwF_X11_290 rfl rfl rfl dX11_part0_172 hk106 ?_
          refine jx_aload_n 0 dX11_part0_175 rfl rfl ?_
          refine jx_callVv (M' := mX11_nextToken) (As := []) jo_X11_nextToken jc_11 rfl jwM_X11_262 jwN_X11_nextToken jwX_X11_nextToken dX11_part0_176 (jRok_m _ _ _) rfl (jle rfl) ⟨jle rfl, jle rfl⟩ hk106 h (fun S108 h => ?_)
          refine jx_aload_n 0 dX11_part0_179 rfl rfl ?_
          refine jx_iload_n 1 dX11_part0_180 rfl rfl ?_
          obtain ⟨hk109, h⟩ := h
          refine jx_callVi (M' := mX11_either) (As := [.int x1]) jo_X11_either jc_11 rfl jwM_X11_293 jwN_X11_either jwX_X11_either dX11_part0_181 (jRok_m _ _ _) rfl (jle rfl) ⟨jle rfl, jle rfl⟩ hk109 h (fun r111 S110 h => ?_)
          refine jx_if_eq (tgt := 196) dX11_part0_184 (by decide) (fun c112 => ?_) (fun c112 => ?_)
          · replace h := h.1 c112
            refine jx_iconst (v := 0) dX11_part0_196 (by decide) ?_
            exact jx_iret dX11_part0_197 rfl (by decide) (jle rfl) (jle rfl) ⟨_, rfl, h⟩
          replace h := h.2 c112
          refine jx_aload_n 0 dX11_part0_187 rfl rfl ?_
          refine jx_bipush (v := 41) dX11_part0_188 (by decide) ?_
          obtain ⟨hk113, h⟩ := h
          refine jx_callVi (M' := mX11_isSign) (As := [.int 41]) jo_X11_isSign jc_11 rfl jwM_X11_259 jwN_X11_isSign jwX_X11_isSign dX11_part0_190 (jRok_m _ _ _) rfl (jle rfl) ⟨jle rfl, jle rfl⟩ hk113 h (fun r115 S114 h => ?_)
          refine jx_if_ne (tgt := 198) dX11_part0_193 (by decide) (fun c116 => ?_) (fun c116 => ?_)
          · replace h := h.2 c116
            refine jx_aload_n 0 dX11_part0_198 rfl rfl ?_
            refine jx_dup dX11_part0_199 rfl ?_
            obtain ⟨hk117, h⟩ := h
            refine jx_geti jc_11 (j := 25) (by decide) rfl jwF_X11_290 dX11_part0_200 hk117 ?_
            refine jx_iconst (v := 1) dX11_part0_203 (by decide) ?_
            refine jx_isub dX11_part0_204 ?_
            refine jx_puti jc_11 (j := 25) (by decide) rfl jwF_X11_290 rfl rfl rfl dX11_part0_205 hk117 ?_
            refine jx_aload_n 0 dX11_part0_208 rfl rfl ?_
            refine jx_callVv (M' := mX11_nextToken) (As := []) jo_X11_nextToken jc_11 rfl jwM_X11_262 jwN_X11_nextToken jwX_X11_nextToken dX11_part0_209 (jRok_m _ _ _) rfl (jle rfl) ⟨jle rfl, jle rfl⟩ hk117 h (fun S118 h => ?_)
            refine jx_iconst (v := 1) dX11_part0_212 (by decide) ?_
            exact jx_iret dX11_part0_213 rfl (by decide) (jle rfl) (jle rfl) ⟨_, rfl, h⟩
          replace h := h.1 c116
          refine jx_iconst (v := 0) dX11_part0_196 (by decide) ?_
          exact jx_iret dX11_part0_197 rfl (by decide) (jle rfl) (jle rfl) ⟨_, rfl, h⟩
        replace h := h.1 c107
        refine jx_iconst (v := 0) dX11_part0_163 (by decide) ?_
        exact jx_iret dX11_part0_164 rfl (by decide) (jle rfl) (jle rfl) ⟨_, rfl, h⟩
      replace h := h.2 c101
      refine jx_aload_n 0 dX11_part0_93 rfl rfl ?_
      obtain ⟨hk119, h⟩ := h
      refine jx_geti jc_11 (j := 26) (by decide) rfl jwF_X11_287 dX11_part0_94 hk119 ?_
      refine jx_bipush (v := 8) dX11_part0_97 (by decide) ?_
      refine jx_icmp_ge (tgt := 145) dX11_part0_99 (by decide) (fun c120 => ?_) (fun c120 => ?_)
      · replace h := h.1 c120
        refine jx_aload_n 0 dX11_part0_145 rfl rfl ?_
        refine jx_bipush (v := 40) dX11_part0_146 (by decide) ?_
        refine jx_callVi (M' := mX11_isSign) (As := [.int 40]) jo_X11_isSign jc_11 rfl jwM_X11_259 jwN_X11_isSign jwX_X11_isSign dX11_part0_148 (jRok_m _ _ _) rfl (jle rfl) ⟨jle rfl, jle rfl⟩ hk119 h (fun r122 S121 h => ?_)
        refine jx_if_eq (tgt := 163) dX11_part0_151 (by decide) (fun c123 => ?_) (fun c123 => ?_)
        · replace h := h.1 c123
          refine jx_iconst (v := 0) dX11_part0_163 (by decide) ?_
          exact jx_iret dX11_part0_164 rfl (by decide) (jle rfl) (jle rfl) ⟨_, rfl, h⟩
        replace h := h.2 c123
        refine jx_aload_n 0 dX11_part0_154 rfl rfl ?_
        obtain ⟨hk124, h⟩ := h
        refine jx_geti jc_11 (j := 25) (by decide) rfl jwF_X11_290 dX11_part0_155 hk124 ?_
        refine jx_bipush (v := 8) dX11_part0_158 (by decide) ?_
        refine jx_icmp_ne (tgt := 165) dX11_part0_160 (by decide) (fun c125 => ?_) (fun c125 => ?_)
        · replace h := h.2 c125
          refine jx_aload_n 0 dX11_part0_165 rfl rfl ?_
          refine jx_dup dX11_part0_166 rfl ?_
          refine jx_geti jc_11 (j := 25) (by decide) rfl jwF_X11_290 dX11_part0_167 hk124 ?_
          refine jx_iconst (v := 1) dX11_part0_170 (by decide) ?_
          refine jx_iadd dX11_part0_171 ?_
          refine jx_puti jc_11 (j := 25) (by decide) rfl jwF_X11_290 rfl rfl rfl dX11_part0_172 hk124 ?_
          refine jx_aload_n 0 dX11_part0_175 rfl rfl ?_
          refine jx_callVv (M' := mX11_nextToken) (As := []) jo_X11_nextToken jc_11 rfl jwM_X11_262 jwN_X11_nextToken jwX_X11_nextToken dX11_part0_176 (jRok_m _ _ _) rfl (jle rfl) ⟨jle rfl, jle rfl⟩ hk124 h (fun S126 h => ?_)
          refine jx_aload_n 0 dX11_part0_179 rfl rfl ?_
          refine jx_iload_n 1 dX11_part0_180 rfl rfl ?_
          obtain ⟨hk127, h⟩ := h
          refine jx_callVi (M' := mX11_either) (As := [.int x1]) jo_X11_either jc_11 rfl jwM_X11_293 jwN_X11_either jwX_X11_either dX11_part0_181 (jRok_m _ _ _) rfl (jle rfl) ⟨jle rfl, jle rfl⟩ hk127 h (fun r129 S128 h => ?_)
          refine jx_if_eq (tgt := 196) dX11_part0_184 (by decide) (fun c130 => ?_) (fun c130 => ?_)
          · replace h := h.1 c130
            refine jx_iconst (v := 0) dX11_part0_196 (by decide) ?_
            exact jx_iret dX11_part0_197 rfl (by decide) (jle rfl) (jle rfl) ⟨_, rfl, h⟩
          replace h := h.2 c130
          refine jx_aload_n 0 dX11_part0_187 rfl rfl ?_
          refine jx_bipush (v := 41) dX11_part0_188 (by decide) ?_
          obtain ⟨hk131, h⟩ := h
          refine jx_callVi (M' := mX11_isSign) (As := [.int 41]) jo_X11_isSign jc_11 rfl jwM_X11_259 jwN_X11_isSign jwX_X11_isSign dX11_part0_190 (jRok_m _ _ _) rfl (jle rfl) ⟨jle rfl, jle rfl⟩ hk131 h (fun r133 S132 h => ?_)
          refine jx_if_ne (tgt := 198) dX11_part0_193 (by decide) (fun c134 => ?_) (fun c134 => ?_)
          · replace h := h.2 c134
            refine jx_aload_n 0 dX11_part0_198 rfl rfl ?_
            refine jx_dup dX11_part0_199 rfl ?_
            obtain ⟨hk135, h⟩ := h
            refine jx_geti jc_11 (j := 25) (by decide) rfl jwF_X11_290 dX11_part0_200 hk135 ?_
            refine jx_iconst (v := 1) dX11_part0_203 (by decide) ?_
            refine jx_isub dX11_part0_204 ?_
            refine jx_puti jc_11 (j := 25) (by decide) rfl jwF_X11_290 rfl rfl rfl dX11_part0_205 hk135 ?_
            refine jx_aload_n 0 dX11_part0_208 rfl rfl ?_
            refine jx_callVv (M' := mX11_nextToken) (As := []) jo_X11_nextToken jc_11 rfl jwM_X11_262 jwN_X11_nextToken jwX_X11_nextToken dX11_part0_209 (jRok_m _ _ _) rfl (jle rfl) ⟨jle rfl, jle rfl⟩ hk135 h (fun S136 h => ?_)
            refine jx_iconst (v := 1) dX11_part0_212 (by decide) ?_
            exact jx_iret dX11_part0_213 rfl (by decide) (jle rfl) (jle rfl) ⟨_, rfl, h⟩
          replace h := h.1 c134
          refine jx_iconst (v := 0) dX11_part0_196 (by decide) ?_
          exact jx_iret dX11_part0_197 rfl (by decide) (jle rfl) (jle rfl) ⟨_, rfl, h⟩
        replace h := h.1 c125
        refine jx_iconst (v := 0) dX11_part0_163 (by decide) ?_
        exact jx_iret dX11_part0_164 rfl (by decide) (jle rfl) (jle rfl) ⟨_, rfl, h⟩
      replace h := h.2 c120
      refine jx_aload_n 0 dX11_part0_102 rfl rfl ?_
      refine jx_dup dX11_part0_103 rfl ?_
      refine jx_geti jc_11 (j := 26) (by decide) rfl jwF_X11_287 dX11_part0_104 hk119 ?_
      refine jx_iconst (v := 1) dX11_part0_107 (by decide) ?_
      refine jx_iadd dX11_part0_108 ?_
      refine jx_puti jc_11 (j := 26) (by decide) rfl jwF_X11_287 rfl rfl rfl dX11_part0_109 hk119 ?_
      refine jx_aload_n 0 dX11_part0_112 rfl rfl ?_
      refine jx_callVv (M' := mX11_nextToken) (As := []) jo_X11_nextToken jc_11 rfl jwM_X11_262 jwN_X11_nextToken jwX_X11_nextToken dX11_part0_113 (jRok_m _ _ _) rfl (jle rfl) ⟨jle rfl, jle rfl⟩ hk119 h (fun S137 h => ?_)
      refine jx_aload_n 0 dX11_part0_116 rfl rfl ?_
      refine jx_iload_n 1 dX11_part0_117 rfl rfl ?_
      obtain ⟨hk138, h⟩ := h
      refine jx_callVi (M' := mX11_part0) (As := [.int x1]) jo_X11_part0 jc_11 rfl jwM_X11_278 jwN_X11_part0 jwX_X11_part0 dX11_part0_118 (jRok_m _ _ _) rfl (jle rfl) ⟨jle rfl, jle rfl⟩ hk138 h (fun r140 S139 h => ?_)
      refine jx_if_ne (tgt := 126) dX11_part0_121 (by decide) (fun c141 => ?_) (fun c141 => ?_)
      · replace h := h.2 c141
        refine jx_aload_n 0 dX11_part0_126 rfl rfl ?_
        refine jx_dup dX11_part0_127 rfl ?_
        obtain ⟨hk142, h⟩ := h
        refine jx_geti jc_11 (j := 26) (by decide) rfl jwF_X11_287 dX11_part0_128 hk142 ?_
        refine jx_iconst (v := 1) dX11_part0_131 (by decide) ?_
        refine jx_isub dX11_part0_132 ?_
        refine jx_puti jc_11 (j := 26) (by decide) rfl jwF_X11_287 rfl rfl rfl dX11_part0_133 hk142 ?_
        refine jx_aload_n 0 dX11_part0_136 rfl rfl ?_
        refine jx_iconst (v := 2) dX11_part0_137 (by decide) ?_
        refine jx_bipush (v := 33) dX11_part0_138 (by decide) ?_
        refine jx_callVv (M' := mX11_step) (As := [.int 2, .int 33]) jo_X11_step jc_11 rfl jwM_X11_265 jwN_X11_step jwX_X11_step dX11_part0_140 (jRok_m _ _ _) rfl (jle rfl) ⟨jle rfl, jle rfl⟩ hk142 h (fun S143 h => ?_)
        refine jx_iconst (v := 1) dX11_part0_143 (by decide) ?_
        exact jx_iret dX11_part0_144 rfl (by decide) (jle rfl) (jle rfl) ⟨_, rfl, h⟩
      replace h := h.1 c141
      refine jx_iconst (v := 0) dX11_part0_124 (by decide) ?_
      exact jx_iret dX11_part0_125 rfl (by decide) (jle rfl) (jle rfl) ⟨_, rfl, h⟩
    replace h := h.2 c98
    refine jx_aload_n 0 dX11_part0_59 rfl rfl ?_
    refine jx_iconst (v := 1) dX11_part0_60 (by decide) ?_
    refine jx_aload_n 0 dX11_part0_61 rfl rfl ?_
    refine jx_geti jc_11 (j := 24) (by decide) rfl jwF_X11_237 dX11_part0_62 hk1 ?_
    refine jx_callVv (M' := mX11_step) (As := [.int 1, .int (ji S a0 24)]) jo_X11_step jc_11 rfl jwM_X11_265 jwN_X11_step jwX_X11_step dX11_part0_65 (jRok_m _ _ _) rfl (jle rfl) ⟨jle rfl, jle rfl⟩ hk1 h (fun S144 h => ?_)
    refine jx_aload_n 0 dX11_part0_68 rfl rfl ?_
    refine jx_dup dX11_part0_69 rfl ?_
    obtain ⟨hk145, h⟩ := h
    refine jx_geti jc_11 (j := 29) (by decide) rfl jwF_X11_281 dX11_part0_70 hk145 ?_
    refine jx_iconst (v := 1) dX11_part0_73 (by decide) ?_
    refine jx_iadd dX11_part0_74 ?_
    refine jx_puti jc_11 (j := 29) (by decide) rfl jwF_X11_281 rfl rfl rfl dX11_part0_75 hk145 ?_
    refine jx_aload_n 0 dX11_part0_78 rfl rfl ?_
    refine jx_callVv (M' := mX11_nextToken) (As := []) jo_X11_nextToken jc_11 rfl jwM_X11_262 jwN_X11_nextToken jwX_X11_nextToken dX11_part0_79 (jRok_m _ _ _) rfl (jle rfl) ⟨jle rfl, jle rfl⟩ hk145 h (fun S146 h => ?_)
    refine jx_iconst (v := 1) dX11_part0_82 (by decide) ?_
    exact jx_iret dX11_part0_83 rfl (by decide) (jle rfl) (jle rfl) ⟨_, rfl, h⟩
  replace h := h.1 c2
  refine jx_aload_n 0 dX11_part0_8 rfl rfl ?_
  refine jx_iconst (v := 0) dX11_part0_9 (by decide) ?_
  refine jx_aload_n 0 dX11_part0_10 rfl rfl ?_
  refine jx_geti jc_11 (j := 23) (by decide) rfl jwF_X11_243 dX11_part0_11 hk1 ?_
  refine jx_callVv (M' := mX11_step) (As := [.int 0, .int (ji S a0 23)]) jo_X11_step jc_11 rfl jwM_X11_265 jwN_X11_step jwX_X11_step dX11_part0_14 (jRok_m _ _ _) rfl (jle rfl) ⟨jle rfl, jle rfl⟩ hk1 h (fun S147 h => ?_)
  refine jx_aload_n 0 dX11_part0_17 rfl rfl ?_
  refine jx_dup dX11_part0_18 rfl ?_
  obtain ⟨hk148, h⟩ := h
  refine jx_geti jc_11 (j := 29) (by decide) rfl jwF_X11_281 dX11_part0_19 hk148 ?_
  refine jx_iconst (v := 1) dX11_part0_22 (by decide) ?_
  refine jx_iadd dX11_part0_23 ?_
  refine jx_puti jc_11 (j := 29) (by decide) rfl jwF_X11_281 rfl rfl rfl dX11_part0_24 hk148 ?_
  refine jx_aload_n 0 dX11_part0_27 rfl rfl ?_
  refine jx_callVv (M' := mX11_nextToken) (As := []) jo_X11_nextToken jc_11 rfl jwM_X11_262 jwN_X11_nextToken jwX_X11_nextToken dX11_part0_28 (jRok_m _ _ _) rfl (jle rfl) ⟨jle rfl, jle rfl⟩ hk148 h (fun S149 h => ?_)
  refine jx_iconst (v := 1) dX11_part0_31 (by decide) ?_
  exact jx_iret dX11_part0_32 rfl (by decide) (jle rfl) (jle rfl) ⟨_, rfl, h⟩
set_option maxRecDepth 100000 in
set_option maxHeartbeats 4000000 in
theorem T_X11_parse {E : jEnv} {d : Nat} {Q : Int32 → jM → Prop} {a0 : Nat} {S : jM} (h : jk S a0 = 11 ∧ ∃ b2, jr S a0 0 = some b2 ∧ (jk S b2 = 12 ∧ vp_in 1 (jl S b2) ∧ ((14 ≤ (ji S b2 (Int32.toNatClampNeg 1)) → jFv E mX11_nextToken d 0 0 [.ref a0] (jput (jput (jput (jput (jput (jput (jput S a0 21 0) a0 22 3) a0 25 0) a0 26 0) a0 27 0) a0 29 0) a0 28 2935) (fun S6 => jk S6 a0 = 11 ∧ jFi E mX11_key d 0 0 [.ref a0] S6 (fun r9 S8 => (r9 < 0 → jk S8 a0 = 11 ∧ Q (-1) (jput S8 a0 19 0)) ∧ (¬ r9 < 0 → jk S8 a0 = 11 ∧ jFv E mX11_nextToken d 0 0 [.ref a0] S8 (fun S13 => jk S13 a0 = 11 ∧ jFi E mX11_either d 0 0 [.ref a0, .int r9] S13 (fun r16 S15 => (r16 = 0 → jk S15 a0 = 11 ∧ Q (-1) (jput S15 a0 19 0)) ∧ (¬ r16 = 0 → jk S15 a0 = 11 ∧ ((ji S15 a0 22) = 0 → Q r9 (jput S15 a0 19 0)) ∧ (¬ (ji S15 a0 22) = 0 → Q (-1) (jput S15 a0 19 0))))))))) ∧ (¬ 14 ≤ (ji S b2 (Int32.toNatClampNeg 1)) → (jFv E mX11_nextToken d 0 0 [.ref a0] (jput (jput (jput (jput (jput (jput (jput S a0 21 0) a0 22 3) a0 25 0) a0 26 0) a0 27 0) a0 29 0) a0 28 ((jtextat (ji S b2 (Int32.toNatClampNeg 1))) + 4)) (fun S24 => jk S24 a0 = 11 ∧ jFi E mX11_key d 0 0 [.ref a0] S24 (fun r27 S26 => (r27 < 0 → jk S26 a0 = 11 ∧ Q (-1) (jput S26 a0 19 0)) ∧ (¬ r27 < 0 → jk S26 a0 = 11 ∧ jFv E mX11_nextToken d 0 0 [.ref a0] S26 (fun S31 => jk S31 a0 = 11 ∧ jFi E mX11_either d 0 0 [.ref a0, .int r27] S31 (fun r34 S33 => (r34 = 0 → jk S33 a0 = 11 ∧ Q (-1) (jput S33 a0 19 0)) ∧ (¬ r34 = 0 → jk S33 a0 = 11 ∧ ((ji S33 a0 22) = 0 → Q r27 (jput S33 a0 19 0)) ∧ (¬ (ji S33 a0 22) = 0 → Q (-1) (jput S33 a0 19 0))))))))))))) : jFi E mX11_parse (d + 1) 0 0 [.ref a0] S Q := by
  refine jF_of (by decide) (jle rfl) ?_
  refine jx_lv (lv1 := [(0, .ref a0)]) [0] rfl ?_
  refine jx_aload_n 0 dX11_parse_0 rfl rfl ?_
  refine jx_iconst (v := 0) dX11_parse_1 (by decide) ?_
  obtain ⟨hk1, h⟩ := h
  refine jx_puti jc_11 (j := 21) (by decide) rfl jwF_X11_225 rfl rfl rfl dX11_parse_2 hk1 ?_
  refine jx_aload_n 0 dX11_parse_5 rfl rfl ?_
  refine jx_iconst (v := 3) dX11_parse_6 (by decide) ?_
  refine jx_puti jc_11 (j := 22) (by decide) rfl jwF_X11_228 rfl rfl rfl dX11_parse_7 hk1 ?_
  refine jx_aload_n 0 dX11_parse_10 rfl rfl ?_
  refine jx_iconst (v := 0) dX11_parse_11 (by decide) ?_
  refine jx_puti jc_11 (j := 25) (by decide) rfl jwF_X11_290 rfl rfl rfl dX11_parse_12 hk1 ?_
  refine jx_aload_n 0 dX11_parse_15 rfl rfl ?_
  refine jx_iconst (v := 0) dX11_parse_16 (by decide) ?_
  refine jx_puti jc_11 (j := 26) (by decide) rfl jwF_X11_287 rfl rfl rfl dX11_parse_17 hk1 ?_
  refine jx_aload_n 0 dX11_parse_20 rfl rfl ?_
  refine jx_iconst (v := 0) dX11_parse_21 (by decide) ?_
  refine jx_puti jc_11 (j := 27) (by decide) rfl jwF_X11_253 rfl rfl rfl dX11_parse_22 hk1 ?_
  refine jx_aload_n 0 dX11_parse_25 rfl rfl ?_
  refine jx_iconst (v := 0) dX11_parse_26 (by decide) ?_
  refine jx_puti jc_11 (j := 29) (by decide) rfl jwF_X11_281 rfl rfl rfl dX11_parse_27 hk1 ?_
  refine jx_aload_n 0 dX11_parse_30 rfl rfl ?_
  refine jx_aload_n 0 dX11_parse_31 rfl rfl ?_
  obtain ⟨b2, hb2, h⟩ := h
  refine jx_getr jc_11 (j := 0) (by decide) rfl jwF_X11_7 dX11_parse_32 hk1 hb2 ?_
  refine jx_iconst (v := 1) dX11_parse_35 (by decide) ?_
  obtain ⟨hk3, h⟩ := h
  obtain ⟨hi4, h⟩ := h
  refine jx_iald dX11_parse_36 hk3 hi4 ?_
  refine jx_topi (y := (ji S b2 (Int32.toNatClampNeg 1))) (by simp [ji_put, ji_row, ji_putr, jne hk3 hk1 (by decide), jne hk3 hk1 (by decide), jne hk3 hk1 (by decide), jne hk3 hk1 (by decide), jne hk3 hk1 (by decide), jne hk3 hk1 (by decide)]) ?_
  refine jx_bipush (v := 14) dX11_parse_37 (by decide) ?_
  refine jx_icmp_ge (tgt := 57) dX11_parse_39 (by decide) (fun c5 => ?_) (fun c5 => ?_)
  · replace h := h.1 c5
    refine jx_sipush (v := 2935) dX11_parse_57 (by decide) ?_
    refine jx_puti jc_11 (j := 28) (by decide) rfl jwF_X11_250 rfl rfl rfl dX11_parse_60 hk1 ?_
    refine jx_aload_n 0 dX11_parse_63 rfl rfl ?_
    refine jx_callVv (M' := mX11_nextToken) (As := []) jo_X11_nextToken jc_11 rfl jwM_X11_262 jwN_X11_nextToken jwX_X11_nextToken dX11_parse_64 (jRok_m _ _ _) rfl (jle rfl) ⟨jle rfl, jle rfl⟩ hk1 h (fun S6 h => ?_)
    refine jx_aload_n 0 dX11_parse_67 rfl rfl ?_
    obtain ⟨hk7, h⟩ := h
    refine jx_callVi (M' := mX11_key) (As := []) jo_X11_key jc_11 rfl jwM_X11_299 jwN_X11_key jwX_X11_key dX11_parse_68 (jRok_m _ _ _) rfl (jle rfl) ⟨jle rfl, jle rfl⟩ hk7 h (fun r9 S8 h => ?_)
    refine jx_istore_n (lv1 := [(1, .int r9), (0, .ref a0)]) dX11_parse_71 rfl (by decide) rfl ?_
    refine jx_iload_n 0 dX11_parse_72 rfl rfl ?_
    refine jx_if_lt (tgt := 80) dX11_parse_73 (by decide) (fun c10 => ?_) (fun c10 => ?_)
    · replace h := h.1 c10
      refine jx_iconst (v := 0) dX11_parse_80 (by decide) ?_
      refine jx_istore_n (lv1 := [(2, .int 0), (1, .int r9), (0, .ref a0)]) dX11_parse_81 rfl (by decide) rfl ?_
      refine jx_iload_n 0 dX11_parse_82 rfl rfl ?_
      refine jx_if_eq (tgt := 111) dX11_parse_83 (by decide) (fun _ => ?_) (fun z9 => absurd z9 (by decide))
      refine jx_aload_n 2 dX11_parse_111 rfl rfl ?_
      refine jx_iconst (v := 0) dX11_parse_112 (by decide) ?_
      obtain ⟨hk11, h⟩ := h
      refine jx_puti jc_11 (j := 19) (by decide) rfl jwF_X11_214 rfl rfl rfl dX11_parse_113 hk11 ?_
      refine jx_iload_n 0 dX11_parse_116 rfl rfl ?_
      refine jx_if_eq (tgt := 124) dX11_parse_117 (by decide) (fun _ => ?_) (fun z9 => absurd z9 (by decide))
      refine jx_iconst (v := (-1)) dX11_parse_124 (by decide) ?_
      exact jx_iret dX11_parse_125 rfl rfl (jle rfl) (jle rfl) ⟨_, rfl, h⟩
    replace h := h.2 c10
    refine jx_iconst (v := 1) dX11_parse_76 (by decide) ?_
    refine jx_goto (tgt := 81) dX11_parse_77 (by decide) ?_
    refine jx_istore_n (lv1 := [(2, .int 1), (1, .int r9), (0, .ref a0)]) dX11_parse_81 rfl (by decide) rfl ?_
    refine jx_iload_n 0 dX11_parse_82 rfl rfl ?_
    refine jx_if_eq (tgt := 111) dX11_parse_83 (by decide) (fun z9 => absurd z9 (by decide)) (fun _ => ?_)
    refine jx_aload_n 2 dX11_parse_86 rfl rfl ?_
    obtain ⟨hk12, h⟩ := h
    refine jx_callVv (M' := mX11_nextToken) (As := []) jo_X11_nextToken jc_11 rfl jwM_X11_262 jwN_X11_nextToken jwX_X11_nextToken dX11_parse_87 (jRok_m _ _ _) rfl (jle rfl) ⟨jle rfl, jle rfl⟩ hk12 h (fun S13 h => ?_)
    refine jx_aload_n 2 dX11_parse_90 rfl rfl ?_
    refine jx_iload_n 1 dX11_parse_91 rfl rfl ?_
    obtain ⟨hk14, h⟩ := h
    refine jx_callVi (M' := mX11_either) (As := [.int r9]) jo_X11_either jc_11 rfl jwM_X11_293 jwN_X11_either jwX_X11_either dX11_parse_92 (jRok_m _ _ _) rfl (jle rfl) ⟨jle rfl, jle rfl⟩ hk14 h (fun r16 S15 h => ?_)
    refine jx_if_eq (tgt := 109) dX11_parse_95 (by decide) (fun c17 => ?_) (fun c17 => ?_)
    · replace h := h.1 c17
      refine jx_iconst (v := 0) dX11_parse_109 (by decide) ?_
      refine jx_istore_n (lv1 := [(2, .int 0), (1, .int r9), (0, .ref a0)]) dX11_parse_110 rfl (by decide) rfl ?_
      refine jx_aload_n 2 dX11_parse_111 rfl rfl ?_
      refine jx_iconst (v := 0) dX11_parse_112 (by decide) ?_
      obtain ⟨hk18, h⟩ := h
      refine jx_puti jc_11 (j := 19) (by decide) rfl jwF_X11_214 rfl rfl rfl dX11_parse_113 hk18 ?_
      refine jx_iload_n 0 dX11_parse_116 rfl rfl ?_
      refine jx_if_eq (tgt := 124) dX11_parse_117 (by decide) (fun _ => ?_) (fun z9 => absurd z9 (by decide))
      refine jx_iconst (v := (-1)) dX11_parse_124 (by decide) ?_
      exact jx_iret dX11_parse_125 rfl rfl (jle rfl) (jle rfl) ⟨_, rfl, h⟩
    replace h := h.2 c17
    refine jx_aload_n 2 dX11_parse_98 rfl rfl ?_
    obtain ⟨hk19, h⟩ := h
    refine jx_geti jc_11 (j := 22) (by decide) rfl jwF_X11_228 dX11_parse_99 hk19 ?_
    refine jx_if_ne (tgt := 109) dX11_parse_102 (by decide) (fun c20 => ?_) (fun c20 => ?_)
    · replace h := h.2 c20
      refine jx_iconst (v := 0) dX11_parse_109 (by decide) ?_
      refine jx_istore_n (lv1 := [(2, .int 0), (1, .int r9), (0, .ref a0)]) dX11_parse_110 rfl (by decide) rfl ?_
      refine jx_aload_n 2 dX11_parse_111 rfl rfl ?_
      refine jx_iconst (v := 0) dX11_parse_112 (by decide) ?_
      refine jx_puti jc_11 (j := 19) (by decide) rfl jwF_X11_214 rfl rfl rfl dX11_parse_113 hk19 ?_
      refine jx_iload_n 0 dX11_parse_116 rfl rfl ?_
      refine jx_if_eq (tgt := 124) dX11_parse_117 (by decide) (fun _ => ?_) (fun z9 => absurd z9 (by decide))
      refine jx_iconst (v := (-1)) dX11_parse_124 (by decide) ?_
      exact jx_iret dX11_parse_125 rfl rfl (jle rfl) (jle rfl) ⟨_, rfl, h⟩
    replace h := h.1 c20
    refine jx_iconst (v := 1) dX11_parse_105 (by decide) ?_
    refine jx_goto (tgt := 110) dX11_parse_106 (by decide) ?_
    refine jx_istore_n (lv1 := [(2, .int 1), (1, .int r9), (0, .ref a0)]) dX11_parse_110 rfl (by decide) rfl ?_
    refine jx_aload_n 2 dX11_parse_111 rfl rfl ?_
    refine jx_iconst (v := 0) dX11_parse_112 (by decide) ?_
    refine jx_puti jc_11 (j := 19) (by decide) rfl jwF_X11_214 rfl rfl rfl dX11_parse_113 hk19 ?_
    refine jx_iload_n 0 dX11_parse_116 rfl rfl ?_
    refine jx_if_eq (tgt := 124) dX11_parse_117 (by decide) (fun z9 => absurd z9 (by decide)) (fun _ => ?_)
    refine jx_iload_n 1 dX11_parse_120 rfl rfl ?_
    refine jx_goto (tgt := 125) dX11_parse_121 (by decide) ?_
    exact jx_iret dX11_parse_125 rfl rfl (jle rfl) (jle rfl) ⟨_, rfl, h⟩
  replace h := h.2 c5
  refine jx_aload_n 0 dX11_parse_42 rfl rfl ?_
  refine jx_aload_n 0 dX11_parse_43 rfl rfl ?_
  refine jx_getr jc_11 (j := 0) (by decide) rfl jwF_X11_7 dX11_parse_44 hk1 hb2 ?_
  refine jx_iconst (v := 1) dX11_parse_47 (by decide) ?_
  refine jx_iald dX11_parse_48 hk3 hi4 ?_
  refine jx_topi (y := (ji S b2 (Int32.toNatClampNeg 1))) (by simp [ji_put, ji_row, ji_putr, jne hk3 hk1 (by decide), jne hk3 hk1 (by decide), jne hk3 hk1 (by decide), jne hk3 hk1 (by decide), jne hk3 hk1 (by decide), jne hk3 hk1 (by decide)]) ?_
  refine jx_callVi (M' := mX11_textAt) (As := [.int (ji S b2 (Int32.toNatClampNeg 1))]) jo_X11_textAt jc_11 rfl jwM_X11_296 jwN_X11_textAt jwX_X11_textAt dX11_parse_49 (jRok_m _ _ _) rfl (jle rfl) ⟨jle rfl, jle rfl⟩ hk1 (c_X11_textAt (Q := fun v S' => v = (jtextat (ji S b2 (Int32.toNatClampNeg 1))) ∧ (jput (jput (jput (jput (jput (jput S a0 21 0) a0 22 3) a0 25 0) a0 26 0) a0 27 0) a0 29 0) = S') ⟨rfl, rfl⟩) (fun r21 S22 hq23 => ?_)
  obtain ⟨rfl, rfl⟩ := hq23
  refine jx_iconst (v := 4) dX11_parse_52 (by decide) ?_
  refine jx_iadd dX11_parse_53 ?_
  refine jx_goto (tgt := 60) dX11_parse_54 (by decide) ?_
  refine jx_puti jc_11 (j := 28) (by decide) rfl jwF_X11_250 rfl rfl rfl dX11_parse_60 hk1 ?_
  refine jx_aload_n 0 dX11_parse_63 rfl rfl ?_
  refine jx_callVv (M' := mX11_nextToken) (As := []) jo_X11_nextToken jc_11 rfl jwM_X11_262 jwN_X11_nextToken jwX_X11_nextToken dX11_parse_64 (jRok_m _ _ _) rfl (jle rfl) ⟨jle rfl, jle rfl⟩ hk1 h (fun S24 h => ?_)
  refine jx_aload_n 0 dX11_parse_67 rfl rfl ?_
  obtain ⟨hk25, h⟩ := h
  refine jx_callVi (M' := mX11_key) (As := []) jo_X11_key jc_11 rfl jwM_X11_299 jwN_X11_key jwX_X11_key dX11_parse_68 (jRok_m _ _ _) rfl (jle rfl) ⟨jle rfl, jle rfl⟩ hk25 h (fun r27 S26 h => ?_)
  refine jx_istore_n (lv1 := [(1, .int r27), (0, .ref a0)]) dX11_parse_71 rfl (by decide) rfl ?_
  refine jx_iload_n 0 dX11_parse_72 rfl rfl ?_
  refine jx_if_lt (tgt := 80) dX11_parse_73 (by decide) (fun c28 => ?_) (fun c28 => ?_)
  · replace h := h.1 c28
    refine jx_iconst (v := 0) dX11_parse_80 (by decide) ?_
    refine jx_istore_n (lv1 := [(2, .int 0), (1, .int r27), (0, .ref a0)]) dX11_parse_81 rfl (by decide) rfl ?_
    refine jx_iload_n 0 dX11_parse_82 rfl rfl ?_
    refine jx_if_eq (tgt := 111) dX11_parse_83 (by decide) (fun _ => ?_) (fun z9 => absurd z9 (by decide))
    refine jx_aload_n 2 dX11_parse_111 rfl rfl ?_
    refine jx_iconst (v := 0) dX11_parse_112 (by decide) ?_
    obtain ⟨hk29, h⟩ := h
    refine jx_puti jc_11 (j := 19) (by decide) rfl jwF_X11_214 rfl rfl rfl dX11_parse_113 hk29 ?_
    refine jx_iload_n 0 dX11_parse_116 rfl rfl ?_
    refine jx_if_eq (tgt := 124) dX11_parse_117 (by decide) (fun _ => ?_) (fun z9 => absurd z9 (by decide))
    refine jx_iconst (v := (-1)) dX11_parse_124 (by decide) ?_
    exact jx_iret dX11_parse_125 rfl rfl (jle rfl) (jle rfl) ⟨_, rfl, h⟩
  replace h := h.2 c28
  refine jx_iconst (v := 1) dX11_parse_76 (by decide) ?_
  refine jx_goto (tgt := 81) dX11_parse_77 (by decide) ?_
  refine jx_istore_n (lv1 := [(2, .int 1), (1, .int r27), (0, .ref a0)]) dX11_parse_81 rfl (by decide) rfl ?_
  refine jx_iload_n 0 dX11_parse_82 rfl rfl ?_
  refine jx_if_eq (tgt := 111) dX11_parse_83 (by decide) (fun z9 => absurd z9 (by decide)) (fun _ => ?_)
  refine jx_aload_n 2 dX11_parse_86 rfl rfl ?_
  obtain ⟨hk30, h⟩ := h
  refine jx_callVv (M' := mX11_nextToken) (As := []) jo_X11_nextToken jc_11 rfl jwM_X11_262 jwN_X11_nextToken jwX_X11_nextToken dX11_parse_87 (jRok_m _ _ _) rfl (jle rfl) ⟨jle rfl, jle rfl⟩ hk30 h (fun S31 h => ?_)
  refine jx_aload_n 2 dX11_parse_90 rfl rfl ?_
  refine jx_iload_n 1 dX11_parse_91 rfl rfl ?_
  obtain ⟨hk32, h⟩ := h
  refine jx_callVi (M' := mX11_either) (As := [.int r27]) jo_X11_either jc_11 rfl jwM_X11_293 jwN_X11_either jwX_X11_either dX11_parse_92 (jRok_m _ _ _) rfl (jle rfl) ⟨jle rfl, jle rfl⟩ hk32 h (fun r34 S33 h => ?_)
  refine jx_if_eq (tgt := 109) dX11_parse_95 (by decide) (fun c35 => ?_) (fun c35 => ?_)
  · replace h := h.1 c35
    refine jx_iconst (v := 0) dX11_parse_109 (by decide) ?_
    refine jx_istore_n (lv1 := [(2, .int 0), (1, .int r27), (0, .ref a0)]) dX11_parse_110 rfl (by decide) rfl ?_
    refine jx_aload_n 2 dX11_parse_111 rfl rfl ?_
    refine jx_iconst (v := 0) dX11_parse_112 (by decide) ?_
    obtain ⟨hk36, h⟩ := h
    refine jx_puti jc_11 (j := 19) (by decide) rfl jwF_X11_214 rfl rfl rfl dX11_parse_113 hk36 ?_
    refine jx_iload_n 0 dX11_parse_116 rfl rfl ?_
    refine jx_if_eq (tgt := 124) dX11_parse_117 (by decide) (fun _ => ?_) (fun z9 => absurd z9 (by decide))
    refine jx_iconst (v := (-1)) dX11_parse_124 (by decide) ?_
    exact jx_iret dX11_parse_125 rfl rfl (jle rfl) (jle rfl) ⟨_, rfl, h⟩
  replace h := h.2 c35
  refine jx_aload_n 2 dX11_parse_98 rfl rfl ?_
  obtain ⟨hk37, h⟩ := h
  refine jx_geti jc_11 (j := 22) (by decide) rfl jwF_X11_228 dX11_parse_99 hk37 ?_
  refine jx_if_ne (tgt := 109) dX11_parse_102 (by decide) (fun c38 => ?_) (fun c38 => ?_)
  · replace h := h.2 c38
    refine jx_iconst (v := 0) dX11_parse_109 (by decide) ?_
    refine jx_istore_n (lv1 := [(2, .int 0), (1, .int r27), (0, .ref a0)]) dX11_parse_110 rfl (by decide) rfl ?_
    refine jx_aload_n 2 dX11_parse_111 rfl rfl ?_
    refine jx_iconst (v := 0) dX11_parse_112 (by decide) ?_
    refine jx_puti jc_11 (j := 19) (by decide) rfl jwF_X11_214 rfl rfl rfl dX11_parse_113 hk37 ?_
    refine jx_iload_n 0 dX11_parse_116 rfl rfl ?_
    refine jx_if_eq (tgt := 124) dX11_parse_117 (by decide) (fun _ => ?_) (fun z9 => absurd z9 (by decide))
    refine jx_iconst (v := (-1)) dX11_parse_124 (by decide) ?_
    exact jx_iret dX11_parse_125 rfl rfl (jle rfl) (jle rfl) ⟨_, rfl, h⟩
  replace h := h.1 c38
  refine jx_iconst (v := 1) dX11_parse_105 (by decide) ?_
  refine jx_goto (tgt := 110) dX11_parse_106 (by decide) ?_
  refine jx_istore_n (lv1 := [(2, .int 1), (1, .int r27), (0, .ref a0)]) dX11_parse_110 rfl (by decide) rfl ?_
  refine jx_aload_n 2 dX11_parse_111 rfl rfl ?_
  refine jx_iconst (v := 0) dX11_parse_112 (by decide) ?_
  refine jx_puti jc_11 (j := 19) (by decide) rfl jwF_X11_214 rfl rfl rfl dX11_parse_113 hk37 ?_
  refine jx_iload_n 0 dX11_parse_116 rfl rfl ?_
  refine jx_if_eq (tgt := 124) dX11_parse_117 (by decide) (fun z9 => absurd z9 (by decide)) (fun _ => ?_)
  refine jx_iload_n 1 dX11_parse_120 rfl rfl ?_
  refine jx_goto (tgt := 125) dX11_parse_121 (by decide) ?_
  exact jx_iret dX11_parse_125 rfl rfl (jle rfl) (jle rfl) ⟨_, rfl, h⟩
