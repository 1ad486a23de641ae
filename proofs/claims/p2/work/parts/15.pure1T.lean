set_option maxRecDepth 100000 in
set_option maxHeartbeats 4000000 in
theorem T_X11_isSheet {E : jEnv} {d : Nat} {Q : Int32 → jM → Prop} {x0 : Int32} {S : jM} (h : ((jisin (Int32.toInt64 x0) 0 3) = 0 ∨ (jisin (Int32.toInt64 x0) 0 3) = 1) ∧ Q (jisin (Int32.toInt64 x0) 0 3) S) : jFi E mX11_isSheet (d + 1) 0 0 [.int x0] S Q := by
  refine jF_of (by decide) (jle rfl) ?_
  refine jx_lv (lv1 := [(0, .int x0)]) [0] rfl ?_
  refine jx_iload_n 0 dX11_isSheet_0 rfl rfl ?_
  refine jx_i2l dX11_isSheet_1 ?_
  refine jx_lconst (v := 0) dX11_isSheet_2 (by decide) ?_
  refine jx_ldc2 jwL_X11_144 dX11_isSheet_3 ?_
  refine jx_callSi (M' := mX11_isIn) (As := [.long (Int32.toInt64 x0), .long 0, .long 3]) jo_X11_isIn jwM_X11_71 jwS_X11_isIn dX11_isSheet_6 (jRok_m _ _ _) rfl (jle rfl) ⟨jle rfl, jle rfl⟩ (c_X11_isIn (Q := fun v S' => v = (jisin (Int32.toInt64 x0) 0 3) ∧ S = S') ⟨rfl, rfl⟩) (fun r1 S2 hq3 => ?_)
  obtain ⟨rfl, rfl⟩ := hq3
  obtain ⟨hb4, h⟩ := h
  exact jx_iret dX11_isSheet_9 rfl (jb_nar hb4) (jle rfl) (jle rfl) ⟨_, rfl, h⟩
set_option maxRecDepth 100000 in
set_option maxHeartbeats 4000000 in
theorem T_X11_isSlot {E : jEnv} {d : Nat} {Q : Int32 → jM → Prop} {x0 : Int32} {S : jM} (h : ((jisin (Int32.toInt64 x0) 0 4) = 0 ∨ (jisin (Int32.toInt64 x0) 0 4) = 1) ∧ Q (jisin (Int32.toInt64 x0) 0 4) S) : jFi E mX11_isSlot (d + 1) 0 0 [.int x0] S Q := by
  refine jF_of (by decide) (jle rfl) ?_
  refine jx_lv (lv1 := [(0, .int x0)]) [0] rfl ?_
  refine jx_iload_n 0 dX11_isSlot_0 rfl rfl ?_
  refine jx_i2l dX11_isSlot_1 ?_
  refine jx_lconst (v := 0) dX11_isSlot_2 (by decide) ?_
  refine jx_ldc2 jwL_X11_133 dX11_isSlot_3 ?_
  refine jx_callSi (M' := mX11_isIn) (As := [.long (Int32.toInt64 x0), .long 0, .long 4]) jo_X11_isIn jwM_X11_71 jwS_X11_isIn dX11_isSlot_6 (jRok_m _ _ _) rfl (jle rfl) ⟨jle rfl, jle rfl⟩ (c_X11_isIn (Q := fun v S' => v = (jisin (Int32.toInt64 x0) 0 4) ∧ S = S') ⟨rfl, rfl⟩) (fun r1 S2 hq3 => ?_)
  obtain ⟨rfl, rfl⟩ := hq3
  obtain ⟨hb4, h⟩ := h
  exact jx_iret dX11_isSlot_9 rfl (jb_nar hb4) (jle rfl) (jle rfl) ⟨_, rfl, h⟩
