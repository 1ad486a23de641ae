section
set_option maxRecDepth 100000 in
set_option maxHeartbeats 4000000 in
theorem T_X10_within {E : jEnv} {d : Nat} {Q : Int32 → jM → Prop} {x0 : Int32} {x1 : Int32} {S : jM} (h : (x0 < 0 → Q 0 S) ∧ (¬ x0 < 0 → (x1 ≤ x0 → Q 0 S) ∧ (¬ x1 ≤ x0 → Q 1 S))) : jFi E mX10_within d 0 0 [.int x0, .int x1] S Q := by
  refine jF_of (by decide) (jle rfl) ?_
  refine jx_lv (lv1 := [(0, .int x0), (1, .int x1)]) [0, 1] rfl ?_
  refine jx_iload_n 0 kd381.1 rfl rfl ?_
  refine jx_if_lt (tgt := 13) kd381.2.1 (by decide) (fun c1 => ?_) (fun c1 => ?_)
  · replace h := h.1 c1
    refine jx_iconst (v := 0) kd381.2.2.2.2.2.2.2.1 (by decide) ?_
    exact jx_iret kd381.2.2.2.2.2.2.2.2 rfl (by decide) (jle rfl) (jle rfl) ⟨_, rfl, h⟩
  replace h := h.2 c1
  refine jx_iload_n 0 kd381.2.2.1 rfl rfl ?_
  refine jx_iload_n 1 kd381.2.2.2.1 rfl rfl ?_
  refine jx_icmp_ge (tgt := 13) kd381.2.2.2.2.1 (by decide) (fun c2 => ?_) (fun c2 => ?_)
  · replace h := h.1 c2
    refine jx_iconst (v := 0) kd381.2.2.2.2.2.2.2.1 (by decide) ?_
    exact jx_iret kd381.2.2.2.2.2.2.2.2 rfl (by decide) (jle rfl) (jle rfl) ⟨_, rfl, h⟩
  replace h := h.2 c2
  refine jx_iconst (v := 1) kd381.2.2.2.2.2.1 (by decide) ?_
  refine jx_goto (tgt := 14) kd381.2.2.2.2.2.2.1 (by decide) ?_
  exact jx_iret kd381.2.2.2.2.2.2.2.2 rfl (by decide) (jle rfl) (jle rfl) ⟨_, rfl, h⟩
set_option maxRecDepth 100000 in
set_option maxHeartbeats 4000000 in
theorem T_J6_bitCount_0f7a4 {E : jEnv} {d : Nat} {Q : Int32 → jM → Prop} {x0 : Int32} {S : jM} (h : ∀ y1 : Int32, y1 = (((x0 - ((jushr x0 1) &&& 1431655765)) &&& 858993459) + ((jushr (x0 - ((jushr x0 1) &&& 1431655765)) 2) &&& 858993459)) → ∀ y2 : Int32, y2 = ((((y1 + (jushr y1 4)) &&& 252645135) + (jushr ((y1 + (jushr y1 4)) &&& 252645135) 8)) + (jushr (((y1 + (jushr y1 4)) &&& 252645135) + (jushr ((y1 + (jushr y1 4)) &&& 252645135) 8)) 16)) → Q (y2 &&& 63) S) : jFi E mJ6_bitCount_0f7a4 d 0 0 [.int x0] S Q := by
  refine jF_of (by decide) (jle rfl) ?_
  refine jx_lv (lv1 := [(0, .int x0)]) [0] rfl ?_
  refine jx_iload_n 0 kd727.1 rfl rfl ?_
  refine jx_iload_n 0 kd727.2.1 rfl rfl ?_
  refine jx_iconst (v := 1) kd727.2.2.1 (by decide) ?_
  refine jx_iushr kd727.2.2.2.1 ?_
  refine jx_ldcw jwC_J6_265 kd727.2.2.2.2.1 ?_
  refine jx_iand kd727.2.2.2.2.2.1 ?_
  refine jx_isub kd727.2.2.2.2.2.2.1 ?_
  refine jx_istore_n (lv1 := [(0, .int (x0 - ((jushr x0 1) &&& 1431655765)))]) kd727.2.2.2.2.2.2.2.1 rfl (by decide) rfl ?_
  refine jx_iload_n 0 kd727.2.2.2.2.2.2.2.2.1 rfl rfl ?_
  refine jx_ldcw jwC_J6_266 kd727.2.2.2.2.2.2.2.2.2.1 ?_
  refine jx_iand kd727.2.2.2.2.2.2.2.2.2.2.1 ?_
  refine jx_iload_n 0 kd727.2.2.2.2.2.2.2.2.2.2.2.1 rfl rfl ?_
  refine jx_iconst (v := 2) kd727.2.2.2.2.2.2.2.2.2.2.2.2.1 (by decide) ?_
  refine jx_iushr kd727.2.2.2.2.2.2.2.2.2.2.2.2.2 ?_
  refine jx_ldcw jwC_J6_266 kd728.1 ?_
  refine jx_iand kd728.2.1 ?_
  refine jx_iadd kd728.2.2.1 ?_
  refine jx_nm (fun y1 ey1 => ?_)
  replace h := h y1 ey1
  refine jx_istore_n (lv1 := [(0, .int y1)]) kd728.2.2.2.1 rfl (by decide) rfl ?_
  refine jx_iload_n 0 kd728.2.2.2.2.1 rfl rfl ?_
  refine jx_iload_n 0 kd728.2.2.2.2.2.1 rfl rfl ?_
  refine jx_iconst (v := 4) kd728.2.2.2.2.2.2.1 (by decide) ?_
  refine jx_iushr kd728.2.2.2.2.2.2.2.1 ?_
  refine jx_iadd kd728.2.2.2.2.2.2.2.2.1 ?_
  refine jx_ldcw jwC_J6_267 kd728.2.2.2.2.2.2.2.2.2.1 ?_
  refine jx_iand kd728.2.2.2.2.2.2.2.2.2.2.1 ?_
  refine jx_istore_n (lv1 := [(0, .int ((y1 + (jushr y1 4)) &&& 252645135))]) kd728.2.2.2.2.2.2.2.2.2.2.2.1 rfl (by decide) rfl ?_
  refine jx_iload_n 0 kd728.2.2.2.2.2.2.2.2.2.2.2.2.1 rfl rfl ?_
  refine jx_iload_n 0 kd728.2.2.2.2.2.2.2.2.2.2.2.2.2 rfl rfl ?_
  refine jx_bipush (v := 8) kd729.1 (by decide) ?_
  refine jx_iushr kd729.2.1 ?_
  refine jx_iadd kd729.2.2.1 ?_
  refine jx_istore_n (lv1 := [(0, .int (((y1 + (jushr y1 4)) &&& 252645135) + (jushr ((y1 + (jushr y1 4)) &&& 252645135) 8)))]) kd729.2.2.2.1 rfl (by decide) rfl ?_
  refine jx_iload_n 0 kd729.2.2.2.2.1 rfl rfl ?_
  refine jx_iload_n 0 kd729.2.2.2.2.2.1 rfl rfl ?_
  refine jx_bipush (v := 16) kd729.2.2.2.2.2.2.1 (by decide) ?_
  refine jx_iushr kd729.2.2.2.2.2.2.2.1 ?_
  refine jx_iadd kd729.2.2.2.2.2.2.2.2.1 ?_
  refine jx_nm (fun y2 ey2 => ?_)
  replace h := h y2 ey2
  refine jx_istore_n (lv1 := [(0, .int y2)]) kd729.2.2.2.2.2.2.2.2.2.1 rfl (by decide) rfl ?_
  refine jx_iload_n 0 kd729.2.2.2.2.2.2.2.2.2.2.1 rfl rfl ?_
  refine jx_bipush (v := 63) kd729.2.2.2.2.2.2.2.2.2.2.2.1 (by decide) ?_
  refine jx_iand kd729.2.2.2.2.2.2.2.2.2.2.2.2.1 ?_
  exact jx_iret kd729.2.2.2.2.2.2.2.2.2.2.2.2.2 rfl rfl (jle rfl) (jle rfl) ⟨_, rfl, h⟩
set_option maxRecDepth 100000 in
set_option maxHeartbeats 4000000 in
theorem T_X11_isIn {E : jEnv} {d : Nat} {Q : Int32 → jM → Prop} {x0 : Int64} {x2 : Int64} {x4 : Int64} {S : jM} (h : ((lg_cmp x0 x2) < 0 → Q 0 S) ∧ (¬ (lg_cmp x0 x2) < 0 → (0 < (lg_cmp x0 x4) → Q 0 S) ∧ (¬ 0 < (lg_cmp x0 x4) → Q 1 S))) : jFi E mX11_isIn d 0 0 [.long x0, .long x2, .long x4] S Q := by
  refine jF_of (by decide) (jle rfl) ?_
  refine jx_lv (lv1 := [(0, .long x0), (2, .long x2), (4, .long x4)]) [0, 1, 2] rfl ?_
  refine jx_lload_n 0 kd390.1 rfl rfl ?_
  refine jx_lload_n 1 kd390.2.1 rfl rfl ?_
  refine jx_lcmp kd390.2.2.1 ?_
  refine jx_if_lt (tgt := 17) kd390.2.2.2.1 (by decide) (fun c1 => ?_) (fun c1 => ?_)
  · replace h := h.1 c1
    refine jx_iconst (v := 0) kd390.2.2.2.2.2.2.2.2.2.2.1 (by decide) ?_
    exact jx_iret kd390.2.2.2.2.2.2.2.2.2.2.2 rfl (by decide) (jle rfl) (jle rfl) ⟨_, rfl, h⟩
  replace h := h.2 c1
  refine jx_lload_n 0 kd390.2.2.2.2.1 rfl rfl ?_
  refine jx_lload 2 kd390.2.2.2.2.2.1 rfl ?_
  refine jx_lcmp kd390.2.2.2.2.2.2.1 ?_
  refine jx_if_gt (tgt := 17) kd390.2.2.2.2.2.2.2.1 (by decide) (fun c2 => ?_) (fun c2 => ?_)
  · replace h := h.1 c2
    refine jx_iconst (v := 0) kd390.2.2.2.2.2.2.2.2.2.2.1 (by decide) ?_
    exact jx_iret kd390.2.2.2.2.2.2.2.2.2.2.2 rfl (by decide) (jle rfl) (jle rfl) ⟨_, rfl, h⟩
  replace h := h.2 c2
  refine jx_iconst (v := 1) kd390.2.2.2.2.2.2.2.2.1 (by decide) ?_
  refine jx_goto (tgt := 18) kd390.2.2.2.2.2.2.2.2.2.1 (by decide) ?_
  exact jx_iret kd390.2.2.2.2.2.2.2.2.2.2.2 rfl (by decide) (jle rfl) (jle rfl) ⟨_, rfl, h⟩
set_option maxRecDepth 100000 in
set_option maxHeartbeats 4000000 in
theorem T_X11_orNone {E : jEnv} {d : Nat} {Q : Int32 → jM → Prop} {x0 : Int32} {S : jM} (h : (0 ≤ x0 → Q x0 S) ∧ (¬ 0 ≤ x0 → Q (-1000000005) S)) : jFi E mX11_orNone d 0 0 [.int x0] S Q := by
  refine jF_of (by decide) (jle rfl) ?_
  refine jx_lv (lv1 := [(0, .int x0)]) [0] rfl ?_
  refine jx_iload_n 0 kd391.1 rfl rfl ?_
  refine jx_if_ge (tgt := 9) kd391.2.1 (by decide) (fun c1 => ?_) (fun c1 => ?_)
  · replace h := h.1 c1
    refine jx_iload_n 0 kd391.2.2.2.2.1 rfl rfl ?_
    exact jx_iret kd391.2.2.2.2.2 rfl rfl (jle rfl) (jle rfl) ⟨_, rfl, h⟩
  replace h := h.2 c1
  refine jx_ldc jwC_X11_70 kd391.2.2.1 ?_
  refine jx_goto (tgt := 10) kd391.2.2.2.1 (by decide) ?_
  exact jx_iret kd391.2.2.2.2.2 rfl rfl (jle rfl) (jle rfl) ⟨_, rfl, h⟩
set_option maxRecDepth 100000 in
set_option maxHeartbeats 4000000 in
theorem T_X11_within {E : jEnv} {d : Nat} {Q : Int32 → jM → Prop} {x0 : Int32} {x1 : Int32} {x2 : Int32} {S : jM} (h : (x1 ≤ x0 → (x0 ≤ x2 → Q x0 S) ∧ (¬ x0 ≤ x2 → Q x2 S)) ∧ (¬ x1 ≤ x0 → Q x1 S)) : jFi E mX11_within d 0 0 [.int x0, .int x1, .int x2] S Q := by
  refine jF_of (by decide) (jle rfl) ?_
  refine jx_lv (lv1 := [(0, .int x0), (1, .int x1), (2, .int x2)]) [0, 1, 2] rfl ?_
  refine jx_iload_n 0 kd392.1 rfl rfl ?_
  refine jx_iload_n 1 kd392.2.1 rfl rfl ?_
  refine jx_icmp_ge (tgt := 9) kd392.2.2.1 (by decide) (fun c1 => ?_) (fun c1 => ?_)
  · replace h := h.1 c1
    refine jx_iload_n 0 kd392.2.2.2.2.2.1 rfl rfl ?_
    refine jx_iload_n 2 kd392.2.2.2.2.2.2.1 rfl rfl ?_
    refine jx_icmp_le (tgt := 18) kd392.2.2.2.2.2.2.2.1 (by decide) (fun c2 => ?_) (fun c2 => ?_)
    · replace h := h.1 c2
      refine jx_iload_n 0 kd392.2.2.2.2.2.2.2.2.2.2.1 rfl rfl ?_
      exact jx_iret kd392.2.2.2.2.2.2.2.2.2.2.2 rfl rfl (jle rfl) (jle rfl) ⟨_, rfl, h⟩
    replace h := h.2 c2
    refine jx_iload_n 2 kd392.2.2.2.2.2.2.2.2.1 rfl rfl ?_
    refine jx_goto (tgt := 19) kd392.2.2.2.2.2.2.2.2.2.1 (by decide) ?_
    exact jx_iret kd392.2.2.2.2.2.2.2.2.2.2.2 rfl rfl (jle rfl) (jle rfl) ⟨_, rfl, h⟩
  replace h := h.2 c1
  refine jx_iload_n 1 kd392.2.2.2.1 rfl rfl ?_
  refine jx_goto (tgt := 19) kd392.2.2.2.2.1 (by decide) ?_
  exact jx_iret kd392.2.2.2.2.2.2.2.2.2.2.2 rfl rfl (jle rfl) (jle rfl) ⟨_, rfl, h⟩
set_option maxRecDepth 100000 in
set_option maxHeartbeats 4000000 in
theorem T_X11_off {E : jEnv} {d : Nat} {Q : Int32 → jM → Prop} {x0 : Int32} {x1 : Int32} {S : jM} (h : (x1 ≤ x0 → Q (x0 - x1) S) ∧ (¬ x1 ≤ x0 → Q (x1 - x0) S)) : jFi E mX11_off d 0 0 [.int x0, .int x1] S Q := by
  refine jF_of (by decide) (jle rfl) ?_
  refine jx_lv (lv1 := [(0, .int x0), (1, .int x1)]) [0, 1] rfl ?_
  refine jx_iload_n 0 kd393.1 rfl rfl ?_
  refine jx_iload_n 1 kd393.2.1 rfl rfl ?_
  refine jx_icmp_ge (tgt := 11) kd393.2.2.1 (by decide) (fun c1 => ?_) (fun c1 => ?_)
  · replace h := h.1 c1
    refine jx_iload_n 0 kd393.2.2.2.2.2.2.2.1 rfl rfl ?_
    refine jx_iload_n 1 kd393.2.2.2.2.2.2.2.2.1 rfl rfl ?_
    refine jx_isub kd393.2.2.2.2.2.2.2.2.2.1 ?_
    exact jx_iret kd393.2.2.2.2.2.2.2.2.2.2 rfl rfl (jle rfl) (jle rfl) ⟨_, rfl, h⟩
  replace h := h.2 c1
  refine jx_iload_n 1 kd393.2.2.2.1 rfl rfl ?_
  refine jx_iload_n 0 kd393.2.2.2.2.1 rfl rfl ?_
  refine jx_isub kd393.2.2.2.2.2.1 ?_
  refine jx_goto (tgt := 14) kd393.2.2.2.2.2.2.1 (by decide) ?_
  exact jx_iret kd393.2.2.2.2.2.2.2.2.2.2 rfl rfl (jle rfl) (jle rfl) ⟨_, rfl, h⟩
/-- X11_manyIn at its loop's head 4 -/
abbrev L_X11_manyIn_4 (E : jEnv) (d : Nat) (Q : Int32 → jM → Prop) (x1 : Int32) (x2 : Int32) (S : jM) : Prop := jX E mX11_manyIn (jRm d 0 0) (jZm E (fun r S' => ∃ v : Int32, r = some (.int v) ∧ Q v S') 0 0) 4 [(1, .int x1), (2, .int x2)] [] S 0 0
set_option maxRecDepth 100000 in
set_option maxHeartbeats 4000000 in
theorem T_X11_manyIn {E : jEnv} {d : Nat} {Q : Int32 → jM → Prop} {x0 : Int32} {S : jM} (h : L_X11_manyIn_4 E d Q 0 x0 S) : jFi E mX11_manyIn d 0 0 [.int x0] S Q := by
  refine jF_of (by decide) (jle rfl) ?_
  refine jx_lv (lv1 := [(0, .int x0)]) [0] rfl ?_
  refine jx_iconst (v := 0) kd394.1 (by decide) ?_
  refine jx_istore_n (lv1 := [(1, .int 0), (0, .int x0)]) kd394.2.1 rfl (by decide) rfl ?_
  refine jx_iload_n 1 kd394.2.2.1 rfl rfl ?_
  refine jx_istore_n (lv1 := [(2, .int x0), (1, .int 0), (0, .int x0)]) kd394.2.2.2.1 rfl (by decide) rfl ?_
  exact jx_lv [1, 0] rfl h
set_option maxRecDepth 100000 in
set_option maxHeartbeats 4000000 in
theorem T_X11_manyIn_4 {E : jEnv} {d : Nat} {Q : Int32 → jM → Prop} {x1 : Int32} {x2 : Int32} {S : jM} (h : (x2 = 0 → Q x1 S) ∧ (¬ x2 = 0 → L_X11_manyIn_4 E d Q (x1 + 1) (x2 &&& (x2 - 1)) S)) : L_X11_manyIn_4 E d Q x1 x2 S := by
  show jX E mX11_manyIn (jRm d 0 0) (jZm E (fun r S' => ∃ v : Int32, r = some (.int v) ∧ Q v S') 0 0) 4 [(1, .int x1), (2, .int x2)] [] S 0 0
  refine jx_iload_n 1 kd394.2.2.2.2.1 rfl rfl ?_
  refine jx_if_eq (tgt := 20) kd394.2.2.2.2.2.1 (by decide) (fun c1 => ?_) (fun c1 => ?_)
  · replace h := h.1 c1
    refine jx_iload_n 0 kd395.1 rfl rfl ?_
    exact jx_iret kd395.2 rfl rfl (jle rfl) (jle rfl) ⟨_, rfl, h⟩
  replace h := h.2 c1
  refine jx_iinc 0 (v := (x1 + 1)) (lv1 := [(1, .int (x1 + 1)), (2, .int x2)]) kd394.2.2.2.2.2.2.1 rfl rfl (by decide) rfl ?_
  refine jx_iload_n 1 kd394.2.2.2.2.2.2.2.1 rfl rfl ?_
  refine jx_iload_n 1 kd394.2.2.2.2.2.2.2.2.1 rfl rfl ?_
  refine jx_iconst (v := 1) kd394.2.2.2.2.2.2.2.2.2.1 (by decide) ?_
  refine jx_isub kd394.2.2.2.2.2.2.2.2.2.2.1 ?_
  refine jx_iand kd394.2.2.2.2.2.2.2.2.2.2.2.1 ?_
  refine jx_istore_n (lv1 := [(2, .int (x2 &&& (x2 - 1))), (1, .int (x1 + 1))]) kd394.2.2.2.2.2.2.2.2.2.2.2.2.1 rfl (by decide) rfl ?_
  refine jx_goto (tgt := 4) kd394.2.2.2.2.2.2.2.2.2.2.2.2.2 (by decide) ?_
  exact jx_lv [1, 0] rfl h
set_option maxRecDepth 100000 in
set_option maxHeartbeats 4000000 in
theorem T_X11_isGesture {E : jEnv} {d : Nat} {Q : Int32 → jM → Prop} {x0 : Int32} {S : jM} (h : (x0 < 0 → Q 0 S) ∧ (¬ x0 < 0 → (10 ≤ x0 → Q 0 S) ∧ (¬ 10 ≤ x0 → Q 1 S))) : jFi E mX11_isGesture d 0 0 [.int x0] S Q := by
  refine jF_of (by decide) (jle rfl) ?_
  refine jx_lv (lv1 := [(0, .int x0)]) [0] rfl ?_
  refine jx_iload_n 0 kd400.1 rfl rfl ?_
  refine jx_if_lt (tgt := 14) kd400.2.1 (by decide) (fun c1 => ?_) (fun c1 => ?_)
  · replace h := h.1 c1
    refine jx_iconst (v := 0) kd400.2.2.2.2.2.2.2.1 (by decide) ?_
    exact jx_iret kd400.2.2.2.2.2.2.2.2 rfl (by decide) (jle rfl) (jle rfl) ⟨_, rfl, h⟩
  replace h := h.2 c1
  refine jx_iload_n 0 kd400.2.2.1 rfl rfl ?_
  refine jx_bipush (v := 10) kd400.2.2.2.1 (by decide) ?_
  refine jx_icmp_ge (tgt := 14) kd400.2.2.2.2.1 (by decide) (fun c2 => ?_) (fun c2 => ?_)
  · replace h := h.1 c2
    refine jx_iconst (v := 0) kd400.2.2.2.2.2.2.2.1 (by decide) ?_
    exact jx_iret kd400.2.2.2.2.2.2.2.2 rfl (by decide) (jle rfl) (jle rfl) ⟨_, rfl, h⟩
  replace h := h.2 c2
  refine jx_iconst (v := 1) kd400.2.2.2.2.2.1 (by decide) ?_
  refine jx_goto (tgt := 15) kd400.2.2.2.2.2.2.1 (by decide) ?_
  exact jx_iret kd400.2.2.2.2.2.2.2.2 rfl (by decide) (jle rfl) (jle rfl) ⟨_, rfl, h⟩
set_option maxRecDepth 100000 in
set_option maxHeartbeats 4000000 in
theorem T_X11_isTown {E : jEnv} {d : Nat} {Q : Int32 → jM → Prop} {x0 : Int32} {S : jM} (h : (x0 < 0 → Q 0 S) ∧ (¬ x0 < 0 → (6 ≤ x0 → Q 0 S) ∧ (¬ 6 ≤ x0 → Q 1 S))) : jFi E mX11_isTown d 0 0 [.int x0] S Q := by
  refine jF_of (by decide) (jle rfl) ?_
  refine jx_lv (lv1 := [(0, .int x0)]) [0] rfl ?_
  refine jx_iload_n 0 kd401.1 rfl rfl ?_
  refine jx_if_lt (tgt := 14) kd401.2.1 (by decide) (fun c1 => ?_) (fun c1 => ?_)
  · replace h := h.1 c1
    refine jx_iconst (v := 0) kd401.2.2.2.2.2.2.2.1 (by decide) ?_
    exact jx_iret kd401.2.2.2.2.2.2.2.2 rfl (by decide) (jle rfl) (jle rfl) ⟨_, rfl, h⟩
  replace h := h.2 c1
  refine jx_iload_n 0 kd401.2.2.1 rfl rfl ?_
  refine jx_bipush (v := 6) kd401.2.2.2.1 (by decide) ?_
  refine jx_icmp_ge (tgt := 14) kd401.2.2.2.2.1 (by decide) (fun c2 => ?_) (fun c2 => ?_)
  · replace h := h.1 c2
    refine jx_iconst (v := 0) kd401.2.2.2.2.2.2.2.1 (by decide) ?_
    exact jx_iret kd401.2.2.2.2.2.2.2.2 rfl (by decide) (jle rfl) (jle rfl) ⟨_, rfl, h⟩
  replace h := h.2 c2
  refine jx_iconst (v := 1) kd401.2.2.2.2.2.1 (by decide) ?_
  refine jx_goto (tgt := 15) kd401.2.2.2.2.2.2.1 (by decide) ?_
  exact jx_iret kd401.2.2.2.2.2.2.2.2 rfl (by decide) (jle rfl) (jle rfl) ⟨_, rfl, h⟩
set_option maxRecDepth 100000 in
set_option maxHeartbeats 4000000 in
theorem T_X11_isOf {E : jEnv} {d : Nat} {Q : Int32 → jM → Prop} {x0 : Int32} {x1 : Int32} {S : jM} (h : (x0 = x1 → Q 1 S) ∧ (¬ x0 = x1 → (x1 = 0 → Q 1 S) ∧ (¬ x1 = 0 → (x1 = 1 → (x0 = 3 → Q 1 S) ∧ (¬ x0 = 3 → (x1 = 2 → (x0 = 4 → Q 1 S) ∧ (¬ x0 = 4 → Q 0 S)) ∧ (¬ x1 = 2 → Q 0 S))) ∧ (¬ x1 = 1 → (x1 = 2 → (x0 = 4 → Q 1 S) ∧ (¬ x0 = 4 → Q 0 S)) ∧ (¬ x1 = 2 → Q 0 S))))) : jFi E mX11_isOf d 0 0 [.int x0, .int x1] S Q := by
  refine jF_of (by decide) (jle rfl) ?_
  refine jx_lv (lv1 := [(0, .int x0), (1, .int x1)]) [0, 1] rfl ?_
  refine jx_iload_n 0 kd431.1 rfl rfl ?_
  refine jx_iload_n 1 kd431.2.1 rfl rfl ?_
  refine jx_icmp_eq (tgt := 29) kd431.2.2.1 (by decide) (fun c1 => ?_) (fun c1 => ?_)
  · replace h := h.1 c1
    refine jx_iconst (v := 1) kd432.2.2.2.1 (by decide) ?_
    refine jx_goto (tgt := 34) kd432.2.2.2.2.1 (by decide) ?_
    exact jx_iret kd432.2.2.2.2.2.2 rfl (by decide) (jle rfl) (jle rfl) ⟨_, rfl, h⟩
  replace h := h.2 c1
  refine jx_iload_n 1 kd431.2.2.2.1 rfl rfl ?_
  refine jx_if_eq (tgt := 29) kd431.2.2.2.2.1 (by decide) (fun c2 => ?_) (fun c2 => ?_)
  · replace h := h.1 c2
    refine jx_iconst (v := 1) kd432.2.2.2.1 (by decide) ?_
    refine jx_goto (tgt := 34) kd432.2.2.2.2.1 (by decide) ?_
    exact jx_iret kd432.2.2.2.2.2.2 rfl (by decide) (jle rfl) (jle rfl) ⟨_, rfl, h⟩
  replace h := h.2 c2
  refine jx_iload_n 1 kd431.2.2.2.2.2.1 rfl rfl ?_
  refine jx_iconst (v := 1) kd431.2.2.2.2.2.2.1 (by decide) ?_
  refine jx_icmp_ne (tgt := 19) kd431.2.2.2.2.2.2.2.1 (by decide) (fun c3 => ?_) (fun c3 => ?_)
  · replace h := h.2 c3
    refine jx_iload_n 1 kd431.2.2.2.2.2.2.2.2.2.2.2.1 rfl rfl ?_
    refine jx_iconst (v := 2) kd431.2.2.2.2.2.2.2.2.2.2.2.2.1 (by decide) ?_
    refine jx_icmp_ne (tgt := 33) kd431.2.2.2.2.2.2.2.2.2.2.2.2.2 (by decide) (fun c4 => ?_) (fun c4 => ?_)
    · replace h := h.2 c4
      refine jx_iconst (v := 0) kd432.2.2.2.2.2.1 (by decide) ?_
      exact jx_iret kd432.2.2.2.2.2.2 rfl (by decide) (jle rfl) (jle rfl) ⟨_, rfl, h⟩
    replace h := h.1 c4
    refine jx_iload_n 0 kd432.1 rfl rfl ?_
    refine jx_iconst (v := 4) kd432.2.1 (by decide) ?_
    refine jx_icmp_ne (tgt := 33) kd432.2.2.1 (by decide) (fun c5 => ?_) (fun c5 => ?_)
    · replace h := h.2 c5
      refine jx_iconst (v := 0) kd432.2.2.2.2.2.1 (by decide) ?_
      exact jx_iret kd432.2.2.2.2.2.2 rfl (by decide) (jle rfl) (jle rfl) ⟨_, rfl, h⟩
    replace h := h.1 c5
    refine jx_iconst (v := 1) kd432.2.2.2.1 (by decide) ?_
    refine jx_goto (tgt := 34) kd432.2.2.2.2.1 (by decide) ?_
    exact jx_iret kd432.2.2.2.2.2.2 rfl (by decide) (jle rfl) (jle rfl) ⟨_, rfl, h⟩
  replace h := h.1 c3
  refine jx_iload_n 0 kd431.2.2.2.2.2.2.2.2.1 rfl rfl ?_
  refine jx_iconst (v := 3) kd431.2.2.2.2.2.2.2.2.2.1 (by decide) ?_
  refine jx_icmp_eq (tgt := 29) kd431.2.2.2.2.2.2.2.2.2.2.1 (by decide) (fun c6 => ?_) (fun c6 => ?_)
  · replace h := h.1 c6
    refine jx_iconst (v := 1) kd432.2.2.2.1 (by decide) ?_
    refine jx_goto (tgt := 34) kd432.2.2.2.2.1 (by decide) ?_
    exact jx_iret kd432.2.2.2.2.2.2 rfl (by decide) (jle rfl) (jle rfl) ⟨_, rfl, h⟩
  replace h := h.2 c6
  refine jx_iload_n 1 kd431.2.2.2.2.2.2.2.2.2.2.2.1 rfl rfl ?_
  refine jx_iconst (v := 2) kd431.2.2.2.2.2.2.2.2.2.2.2.2.1 (by decide) ?_
  refine jx_icmp_ne (tgt := 33) kd431.2.2.2.2.2.2.2.2.2.2.2.2.2 (by decide) (fun c7 => ?_) (fun c7 => ?_)
  · replace h := h.2 c7
    refine jx_iconst (v := 0) kd432.2.2.2.2.2.1 (by decide) ?_
    exact jx_iret kd432.2.2.2.2.2.2 rfl (by decide) (jle rfl) (jle rfl) ⟨_, rfl, h⟩
  replace h := h.1 c7
  refine jx_iload_n 0 kd432.1 rfl rfl ?_
  refine jx_iconst (v := 4) kd432.2.1 (by decide) ?_
  refine jx_icmp_ne (tgt := 33) kd432.2.2.1 (by decide) (fun c8 => ?_) (fun c8 => ?_)
  · replace h := h.2 c8
    refine jx_iconst (v := 0) kd432.2.2.2.2.2.1 (by decide) ?_
    exact jx_iret kd432.2.2.2.2.2.2 rfl (by decide) (jle rfl) (jle rfl) ⟨_, rfl, h⟩
  replace h := h.1 c8
  refine jx_iconst (v := 1) kd432.2.2.2.1 (by decide) ?_
  refine jx_goto (tgt := 34) kd432.2.2.2.2.1 (by decide) ?_
  exact jx_iret kd432.2.2.2.2.2.2 rfl (by decide) (jle rfl) (jle rfl) ⟨_, rfl, h⟩
set_option maxRecDepth 100000 in
set_option maxHeartbeats 4000000 in
theorem T_X11_textAt {E : jEnv} {d : Nat} {Q : Int32 → jM → Prop} {a0 : Nat} {x1 : Int32} {S : jM} (h : Q (135 + (200 * x1)) S) : jFi E mX11_textAt d 0 0 [.ref a0, .int x1] S Q := by
  refine jF_of (by decide) (jle rfl) ?_
  refine jx_lv (lv1 := [(0, .ref a0), (1, .int x1)]) [0, 1] rfl ?_
  refine jx_sipush (v := 135) kd397.1 (by decide) ?_
  refine jx_sipush (v := 200) kd397.2.1 (by decide) ?_
  refine jx_iload_n 1 kd397.2.2.1 rfl rfl ?_
  refine jx_imul kd397.2.2.2.1 ?_
  refine jx_iadd kd397.2.2.2.2.1 ?_
  exact jx_iret kd397.2.2.2.2.2 rfl rfl (jle rfl) (jle rfl) ⟨_, rfl, h⟩
set_option maxRecDepth 100000 in
set_option maxHeartbeats 4000000 in
theorem T_X11_joined {E : jEnv} {d : Nat} {Q : Int32 → jM → Prop} {x0 : Int32} {x1 : Int32} {x2 : Int32} {S : jM} (h : (x0 = 38 → (x1 = 0 → Q 0 S) ∧ (¬ x1 = 0 → (x2 = 0 → Q 0 S) ∧ (¬ x2 = 0 → Q 1 S))) ∧ (x0 = 42 → Q (x1 * x2) S) ∧ (x0 = 43 → Q (x1 + x2) S) ∧ (x0 = 45 → Q (x1 - x2) S) ∧ (x0 = 47 → (x2 = 0 → Q 0 S) ∧ (¬ x2 = 0 → (x2 = (-1) → Q (-x1) S) ∧ (¬ x2 = (-1) → (¬ x2 = 0) ∧ (Q (x1 / x2) S)))) ∧ (x0 = 60 → (x2 ≤ x1 → Q 0 S) ∧ (¬ x2 ≤ x1 → Q 1 S)) ∧ (x0 = 61 → (x1 = x2 → Q 1 S) ∧ (¬ x1 = x2 → Q 0 S)) ∧ (x0 = 62 → (x1 ≤ x2 → Q 0 S) ∧ (¬ x1 ≤ x2 → Q 1 S)) ∧ (¬ x0 = 38 → ¬ x0 = 42 → ¬ x0 = 43 → ¬ x0 = 45 → ¬ x0 = 47 → ¬ x0 = 60 → ¬ x0 = 61 → ¬ x0 = 62 → (x1 = 0 → (x2 = 0 → Q 0 S) ∧ (¬ x2 = 0 → Q 1 S)) ∧ (¬ x1 = 0 → Q 1 S))) : jFi E mX11_joined d 0 0 [.int x0, .int x1, .int x2] S Q := by
  refine jF_of (by decide) (jle rfl) ?_
  refine jx_lv (lv1 := [(0, .int x0), (1, .int x1), (2, .int x2)]) [0, 1, 2] rfl ?_
  refine jx_iload_n 0 kd639.1 rfl rfl ?_
  by_cases c1 : x0 = 38
  · replace h := h.1 c1
    refine jx_tableIn (v := 38) (tgt := 183) (off := 182) kd639.2.1 c1 (by decide) (by decide) (by decide) (by decide) ?_
    refine jx_iload_n 1 kd642.2.2.2.2.2.2.2.1 rfl rfl ?_
    refine jx_if_eq (tgt := 195) kd642.2.2.2.2.2.2.2.2.1 (by decide) (fun c2 => ?_) (fun c2 => ?_)
    · replace h := h.1 c2
      refine jx_iconst (v := 0) kd642.2.2.2.2.2.2.2.2.2.2.2.2.2 (by decide) ?_
      exact jx_iret kd643.1 rfl rfl (jle rfl) (jle rfl) ⟨_, rfl, h⟩
    replace h := h.2 c2
    refine jx_iload_n 2 kd642.2.2.2.2.2.2.2.2.2.1 rfl rfl ?_
    refine jx_if_eq (tgt := 195) kd642.2.2.2.2.2.2.2.2.2.2.1 (by decide) (fun c3 => ?_) (fun c3 => ?_)
    · replace h := h.1 c3
      refine jx_iconst (v := 0) kd642.2.2.2.2.2.2.2.2.2.2.2.2.2 (by decide) ?_
      exact jx_iret kd643.1 rfl rfl (jle rfl) (jle rfl) ⟨_, rfl, h⟩
    replace h := h.2 c3
    refine jx_iconst (v := 1) kd642.2.2.2.2.2.2.2.2.2.2.2.1 (by decide) ?_
    refine jx_goto (tgt := 196) kd642.2.2.2.2.2.2.2.2.2.2.2.2.1 (by decide) ?_
    exact jx_iret kd643.1 rfl rfl (jle rfl) (jle rfl) ⟨_, rfl, h⟩
  replace h := h.2
  by_cases c4 : x0 = 42
  · replace h := h.1 c4
    refine jx_tableIn (v := 42) (tgt := 124) (off := 123) kd639.2.1 c4 (by decide) (by decide) (by decide) (by decide) ?_
    refine jx_iload_n 1 kd639.2.2.2.2.2.2.2.2.2.2.1 rfl rfl ?_
    refine jx_iload_n 2 kd639.2.2.2.2.2.2.2.2.2.2.2.1 rfl rfl ?_
    refine jx_imul kd639.2.2.2.2.2.2.2.2.2.2.2.2.1 ?_
    exact jx_iret kd639.2.2.2.2.2.2.2.2.2.2.2.2.2 rfl rfl (jle rfl) (jle rfl) ⟨_, rfl, h⟩
  replace h := h.2
  by_cases c5 : x0 = 43
  · replace h := h.1 c5
    refine jx_tableIn (v := 43) (tgt := 116) (off := 115) kd639.2.1 c5 (by decide) (by decide) (by decide) (by decide) ?_
    refine jx_iload_n 1 kd639.2.2.1 rfl rfl ?_
    refine jx_iload_n 2 kd639.2.2.2.1 rfl rfl ?_
    refine jx_iadd kd639.2.2.2.2.1 ?_
    exact jx_iret kd639.2.2.2.2.2.1 rfl rfl (jle rfl) (jle rfl) ⟨_, rfl, h⟩
  replace h := h.2
  by_cases c6 : x0 = 45
  · replace h := h.1 c6
    refine jx_tableIn (v := 45) (tgt := 120) (off := 119) kd639.2.1 c6 (by decide) (by decide) (by decide) (by decide) ?_
    refine jx_iload_n 1 kd639.2.2.2.2.2.2.1 rfl rfl ?_
    refine jx_iload_n 2 kd639.2.2.2.2.2.2.2.1 rfl rfl ?_
    refine jx_isub kd639.2.2.2.2.2.2.2.2.1 ?_
    exact jx_iret kd639.2.2.2.2.2.2.2.2.2.1 rfl rfl (jle rfl) (jle rfl) ⟨_, rfl, h⟩
  replace h := h.2
  by_cases c7 : x0 = 47
  · replace h := h.1 c7
    refine jx_tableIn (v := 47) (tgt := 128) (off := 127) kd639.2.1 c7 (by decide) (by decide) (by decide) (by decide) ?_
    refine jx_iload_n 2 kd640.1 rfl rfl ?_
    refine jx_if_ne (tgt := 136) kd640.2.1 (by decide) (fun c8 => ?_) (fun c8 => ?_)
    · replace h := h.2 c8
      refine jx_iload_n 2 kd640.2.2.2.2.1 rfl rfl ?_
      refine jx_iconst (v := (-1)) kd640.2.2.2.2.2.1 (by decide) ?_
      refine jx_icmp_ne (tgt := 146) kd640.2.2.2.2.2.2.1 (by decide) (fun c9 => ?_) (fun c9 => ?_)
      · replace h := h.2 c9
        refine jx_iload_n 1 kd640.2.2.2.2.2.2.2.2.2.2.1 rfl rfl ?_
        refine jx_iload_n 2 kd640.2.2.2.2.2.2.2.2.2.2.2.1 rfl rfl ?_
        obtain ⟨hz10, h⟩ := h
        refine jx_idiv kd640.2.2.2.2.2.2.2.2.2.2.2.2.1 hz10 ?_
        exact jx_iret kd640.2.2.2.2.2.2.2.2.2.2.2.2.2 rfl rfl (jle rfl) (jle rfl) ⟨_, rfl, h⟩
      replace h := h.1 c9
      refine jx_iload_n 1 kd640.2.2.2.2.2.2.2.1 rfl rfl ?_
      refine jx_ineg kd640.2.2.2.2.2.2.2.2.1 ?_
      refine jx_goto (tgt := 149) kd640.2.2.2.2.2.2.2.2.2.1 (by decide) ?_
      exact jx_iret kd640.2.2.2.2.2.2.2.2.2.2.2.2.2 rfl rfl (jle rfl) (jle rfl) ⟨_, rfl, h⟩
    replace h := h.1 c8
    refine jx_iconst (v := 0) kd640.2.2.1 (by decide) ?_
    refine jx_goto (tgt := 149) kd640.2.2.2.1 (by decide) ?_
    exact jx_iret kd640.2.2.2.2.2.2.2.2.2.2.2.2.2 rfl rfl (jle rfl) (jle rfl) ⟨_, rfl, h⟩
  replace h := h.2
  by_cases c11 : x0 = 60
  · replace h := h.1 c11
    refine jx_tableIn (v := 60) (tgt := 150) (off := 149) kd639.2.1 c11 (by decide) (by decide) (by decide) (by decide) ?_
    refine jx_iload_n 1 kd641.1 rfl rfl ?_
    refine jx_iload_n 2 kd641.2.1 rfl rfl ?_
    refine jx_icmp_ge (tgt := 159) kd641.2.2.1 (by decide) (fun c12 => ?_) (fun c12 => ?_)
    · replace h := h.1 c12
      refine jx_iconst (v := 0) kd641.2.2.2.2.2.1 (by decide) ?_
      exact jx_iret kd641.2.2.2.2.2.2.1 rfl rfl (jle rfl) (jle rfl) ⟨_, rfl, h⟩
    replace h := h.2 c12
    refine jx_iconst (v := 1) kd641.2.2.2.1 (by decide) ?_
    refine jx_goto (tgt := 160) kd641.2.2.2.2.1 (by decide) ?_
    exact jx_iret kd641.2.2.2.2.2.2.1 rfl rfl (jle rfl) (jle rfl) ⟨_, rfl, h⟩
  replace h := h.2
  by_cases c13 : x0 = 61
  · replace h := h.1 c13
    refine jx_tableIn (v := 61) (tgt := 172) (off := 171) kd639.2.1 c13 (by decide) (by decide) (by decide) (by decide) ?_
    refine jx_iload_n 1 kd642.1 rfl rfl ?_
    refine jx_iload_n 2 kd642.2.1 rfl rfl ?_
    refine jx_icmp_ne (tgt := 181) kd642.2.2.1 (by decide) (fun c14 => ?_) (fun c14 => ?_)
    · replace h := h.2 c14
      refine jx_iconst (v := 0) kd642.2.2.2.2.2.1 (by decide) ?_
      exact jx_iret kd642.2.2.2.2.2.2.1 rfl rfl (jle rfl) (jle rfl) ⟨_, rfl, h⟩
    replace h := h.1 c14
    refine jx_iconst (v := 1) kd642.2.2.2.1 (by decide) ?_
    refine jx_goto (tgt := 182) kd642.2.2.2.2.1 (by decide) ?_
    exact jx_iret kd642.2.2.2.2.2.2.1 rfl rfl (jle rfl) (jle rfl) ⟨_, rfl, h⟩
  replace h := h.2
  by_cases c15 : x0 = 62
  · replace h := h.1 c15
    refine jx_tableIn (v := 62) (tgt := 161) (off := 160) kd639.2.1 c15 (by decide) (by decide) (by decide) (by decide) ?_
    refine jx_iload_n 1 kd641.2.2.2.2.2.2.2.1 rfl rfl ?_
    refine jx_iload_n 2 kd641.2.2.2.2.2.2.2.2.1 rfl rfl ?_
    refine jx_icmp_le (tgt := 170) kd641.2.2.2.2.2.2.2.2.2.1 (by decide) (fun c16 => ?_) (fun c16 => ?_)
    · replace h := h.1 c16
      refine jx_iconst (v := 0) kd641.2.2.2.2.2.2.2.2.2.2.2.2.1 (by decide) ?_
      exact jx_iret kd641.2.2.2.2.2.2.2.2.2.2.2.2.2 rfl rfl (jle rfl) (jle rfl) ⟨_, rfl, h⟩
    replace h := h.2 c16
    refine jx_iconst (v := 1) kd641.2.2.2.2.2.2.2.2.2.2.1 (by decide) ?_
    refine jx_goto (tgt := 171) kd641.2.2.2.2.2.2.2.2.2.2.2.1 (by decide) ?_
    exact jx_iret kd641.2.2.2.2.2.2.2.2.2.2.2.2.2 rfl rfl (jle rfl) (jle rfl) ⟨_, rfl, h⟩
  replace h := h.2
  replace h := h c1 c4 c5 c6 c7 c11 c13 c15
  refine jx_tableD (tgt := 197) ([38, 42, 43, 45, 47, 60, 61, 62] : List Int) kd639.2.1 (by simp only [List.mem_cons, List.not_mem_nil, or_false, forall_eq_or_imp, forall_eq]; exact ⟨lv_neT c1 (by decide), lv_neT c4 (by decide), lv_neT c5 (by decide), lv_neT c6 (by decide), lv_neT c7 (by decide), lv_neT c11 (by decide), lv_neT c13 (by decide), lv_neT c15 (by decide)⟩) (by decide) (by decide) (by decide) ?_
  refine jx_iload_n 1 kd643.2.1 rfl rfl ?_
  refine jx_if_ne (tgt := 205) kd643.2.2.1 (by decide) (fun c17 => ?_) (fun c17 => ?_)
  · replace h := h.2 c17
    refine jx_iconst (v := 1) kd643.2.2.2.2.2.1 (by decide) ?_
    refine jx_goto (tgt := 210) kd643.2.2.2.2.2.2.1 (by decide) ?_
    exact jx_iret kd643.2.2.2.2.2.2.2.2 rfl rfl (jle rfl) (jle rfl) ⟨_, rfl, h⟩
  replace h := h.1 c17
  refine jx_iload_n 2 kd643.2.2.2.1 rfl rfl ?_
  refine jx_if_eq (tgt := 209) kd643.2.2.2.2.1 (by decide) (fun c18 => ?_) (fun c18 => ?_)
  · replace h := h.1 c18
    refine jx_iconst (v := 0) kd643.2.2.2.2.2.2.2.1 (by decide) ?_
    exact jx_iret kd643.2.2.2.2.2.2.2.2 rfl rfl (jle rfl) (jle rfl) ⟨_, rfl, h⟩
  replace h := h.2 c18
  refine jx_iconst (v := 1) kd643.2.2.2.2.2.1 (by decide) ?_
  refine jx_goto (tgt := 210) kd643.2.2.2.2.2.2.1 (by decide) ?_
  exact jx_iret kd643.2.2.2.2.2.2.2.2 rfl rfl (jle rfl) (jle rfl) ⟨_, rfl, h⟩
set_option maxRecDepth 100000 in
set_option maxHeartbeats 4000000 in
theorem T_X11_isName {E : jEnv} {d : Nat} {Q : Int32 → jM → Prop} {x0 : Int32} {x1 : Int32} {S : jM} (h : (x0 = 0 → (x1 = 107 → Q 1 S) ∧ (¬ x1 = 107 → (x1 = 103 → Q 1 S) ∧ (¬ x1 = 103 → (x1 = 97 → Q 1 S) ∧ (¬ x1 = 97 → Q 0 S)))) ∧ (x0 = 1 → (x1 = 102 → Q 1 S) ∧ (¬ x1 = 102 → (x1 = 97 → Q 1 S) ∧ (¬ x1 = 97 → Q 0 S))) ∧ (¬ x0 = 0 → ¬ x0 = 1 → (x1 = 99 → Q 1 S) ∧ (¬ x1 = 99 → (x1 = 100 → Q 1 S) ∧ (¬ x1 = 100 → Q 0 S)))) : jFi E mX11_isName d 0 0 [.int x0, .int x1] S Q := by
  refine jF_of (by decide) (jle rfl) ?_
  refine jx_lv (lv1 := [(0, .int x0), (1, .int x1)]) [0, 1] rfl ?_
  refine jx_iload_n 0 kd595.1 rfl rfl ?_
  by_cases c1 : x0 = 0
  · replace h := h.1 c1
    refine jx_lookIn (v := 0) (tgt := 28) (off := 27) kd595.2.1 (by decide) c1 (by decide) (by decide) ?_
    refine jx_iload_n 1 kd595.2.2.1 rfl rfl ?_
    refine jx_bipush (v := 107) kd595.2.2.2.1 (by decide) ?_
    refine jx_icmp_eq (tgt := 46) kd595.2.2.2.2.1 (by decide) (fun c2 => ?_) (fun c2 => ?_)
    · replace h := h.1 c2
      refine jx_iconst (v := 1) kd595.2.2.2.2.2.2.2.2.2.2.2.1 (by decide) ?_
      refine jx_goto (tgt := 51) kd595.2.2.2.2.2.2.2.2.2.2.2.2.1 (by decide) ?_
      exact jx_iret kd596.1 rfl (by decide) (jle rfl) (jle rfl) ⟨_, rfl, h⟩
    replace h := h.2 c2
    refine jx_iload_n 1 kd595.2.2.2.2.2.1 rfl rfl ?_
    refine jx_bipush (v := 103) kd595.2.2.2.2.2.2.1 (by decide) ?_
    refine jx_icmp_eq (tgt := 46) kd595.2.2.2.2.2.2.2.1 (by decide) (fun c3 => ?_) (fun c3 => ?_)
    · replace h := h.1 c3
      refine jx_iconst (v := 1) kd595.2.2.2.2.2.2.2.2.2.2.2.1 (by decide) ?_
      refine jx_goto (tgt := 51) kd595.2.2.2.2.2.2.2.2.2.2.2.2.1 (by decide) ?_
      exact jx_iret kd596.1 rfl (by decide) (jle rfl) (jle rfl) ⟨_, rfl, h⟩
    replace h := h.2 c3
    refine jx_iload_n 1 kd595.2.2.2.2.2.2.2.2.1 rfl rfl ?_
    refine jx_bipush (v := 97) kd595.2.2.2.2.2.2.2.2.2.1 (by decide) ?_
    refine jx_icmp_ne (tgt := 50) kd595.2.2.2.2.2.2.2.2.2.2.1 (by decide) (fun c4 => ?_) (fun c4 => ?_)
    · replace h := h.2 c4
      refine jx_iconst (v := 0) kd595.2.2.2.2.2.2.2.2.2.2.2.2.2 (by decide) ?_
      exact jx_iret kd596.1 rfl (by decide) (jle rfl) (jle rfl) ⟨_, rfl, h⟩
    replace h := h.1 c4
    refine jx_iconst (v := 1) kd595.2.2.2.2.2.2.2.2.2.2.2.1 (by decide) ?_
    refine jx_goto (tgt := 51) kd595.2.2.2.2.2.2.2.2.2.2.2.2.1 (by decide) ?_
    exact jx_iret kd596.1 rfl (by decide) (jle rfl) (jle rfl) ⟨_, rfl, h⟩
  replace h := h.2
  by_cases c5 : x0 = 1
  · replace h := h.1 c5
    refine jx_lookIn (v := 1) (tgt := 52) (off := 51) kd595.2.1 (by decide) c5 (by decide) (by decide) ?_
    refine jx_iload_n 1 kd596.2.1 rfl rfl ?_
    refine jx_bipush (v := 102) kd596.2.2.1 (by decide) ?_
    refine jx_icmp_eq (tgt := 64) kd596.2.2.2.1 (by decide) (fun c6 => ?_) (fun c6 => ?_)
    · replace h := h.1 c6
      refine jx_iconst (v := 1) kd596.2.2.2.2.2.2.2.1 (by decide) ?_
      refine jx_goto (tgt := 69) kd596.2.2.2.2.2.2.2.2.1 (by decide) ?_
      exact jx_iret kd596.2.2.2.2.2.2.2.2.2.2.1 rfl (by decide) (jle rfl) (jle rfl) ⟨_, rfl, h⟩
    replace h := h.2 c6
    refine jx_iload_n 1 kd596.2.2.2.2.1 rfl rfl ?_
    refine jx_bipush (v := 97) kd596.2.2.2.2.2.1 (by decide) ?_
    refine jx_icmp_ne (tgt := 68) kd596.2.2.2.2.2.2.1 (by decide) (fun c7 => ?_) (fun c7 => ?_)
    · replace h := h.2 c7
      refine jx_iconst (v := 0) kd596.2.2.2.2.2.2.2.2.2.1 (by decide) ?_
      exact jx_iret kd596.2.2.2.2.2.2.2.2.2.2.1 rfl (by decide) (jle rfl) (jle rfl) ⟨_, rfl, h⟩
    replace h := h.1 c7
    refine jx_iconst (v := 1) kd596.2.2.2.2.2.2.2.1 (by decide) ?_
    refine jx_goto (tgt := 69) kd596.2.2.2.2.2.2.2.2.1 (by decide) ?_
    exact jx_iret kd596.2.2.2.2.2.2.2.2.2.2.1 rfl (by decide) (jle rfl) (jle rfl) ⟨_, rfl, h⟩
  replace h := h.2
  replace h := h c1 c5
  refine jx_lookD (tgt := 70) kd595.2.1 (by decide) (by simp only [List.mem_cons, List.not_mem_nil, or_false, forall_eq_or_imp, forall_eq]; exact ⟨lv_neT c1 (by decide), lv_neT c5 (by decide)⟩) (by decide) ?_
  refine jx_iload_n 1 kd596.2.2.2.2.2.2.2.2.2.2.2.1 rfl rfl ?_
  refine jx_bipush (v := 99) kd596.2.2.2.2.2.2.2.2.2.2.2.2.1 (by decide) ?_
  refine jx_icmp_eq (tgt := 82) kd596.2.2.2.2.2.2.2.2.2.2.2.2.2 (by decide) (fun c8 => ?_) (fun c8 => ?_)
  · replace h := h.1 c8
    refine jx_iconst (v := 1) kd597.2.2.2.1 (by decide) ?_
    refine jx_goto (tgt := 87) kd597.2.2.2.2.1 (by decide) ?_
    exact jx_iret kd597.2.2.2.2.2.2 rfl (by decide) (jle rfl) (jle rfl) ⟨_, rfl, h⟩
  replace h := h.2 c8
  refine jx_iload_n 1 kd597.1 rfl rfl ?_
  refine jx_bipush (v := 100) kd597.2.1 (by decide) ?_
  refine jx_icmp_ne (tgt := 86) kd597.2.2.1 (by decide) (fun c9 => ?_) (fun c9 => ?_)
  · replace h := h.2 c9
    refine jx_iconst (v := 0) kd597.2.2.2.2.2.1 (by decide) ?_
    exact jx_iret kd597.2.2.2.2.2.2 rfl (by decide) (jle rfl) (jle rfl) ⟨_, rfl, h⟩
  replace h := h.1 c9
  refine jx_iconst (v := 1) kd597.2.2.2.1 (by decide) ?_
  refine jx_goto (tgt := 87) kd597.2.2.2.2.1 (by decide) ?_
  exact jx_iret kd597.2.2.2.2.2.2 rfl (by decide) (jle rfl) (jle rfl) ⟨_, rfl, h⟩
set_option maxRecDepth 100000 in
set_option maxHeartbeats 4000000 in
theorem T_X9_valueOf {E : jEnv} {d : Nat} {Q : Int32 → jM → Prop} {x0 : Int32} {x1 : Int32} {x2 : Int32} {x3 : Int32} {S : jM} (h : (x0 = 10000 → Q x1 S) ∧ (x0 = 10001 → Q x2 S) ∧ (x0 = 10002 → Q x3 S) ∧ (¬ x0 = 10000 → ¬ x0 = 10001 → ¬ x0 = 10002 → Q x0 S)) : jFi E mX9_valueOf d 0 0 [.int x0, .int x1, .int x2, .int x3] S Q := by
  refine jF_of (by decide) (jle rfl) ?_
  refine jx_lv (lv1 := [(0, .int x0), (1, .int x1), (2, .int x2), (3, .int x3)]) [0, 1, 2, 3] rfl ?_
  refine jx_iload_n 0 kd229.1 rfl rfl ?_
  by_cases c1 : x0 = 10000
  · replace h := h.1 c1
    refine jx_tableIn (v := 10000) (tgt := 28) (off := 27) kd229.2.1 c1 (by decide) (by decide) (by decide) (by decide) ?_
    refine jx_iload_n 1 kd229.2.2.1 rfl rfl ?_
    exact jx_iret kd229.2.2.2.1 rfl rfl (jle rfl) (jle rfl) ⟨_, rfl, h⟩
  replace h := h.2
  by_cases c2 : x0 = 10001
  · replace h := h.1 c2
    refine jx_tableIn (v := 10001) (tgt := 30) (off := 29) kd229.2.1 c2 (by decide) (by decide) (by decide) (by decide) ?_
    refine jx_iload_n 2 kd229.2.2.2.2.1 rfl rfl ?_
    exact jx_iret kd229.2.2.2.2.2.1 rfl rfl (jle rfl) (jle rfl) ⟨_, rfl, h⟩
  replace h := h.2
  by_cases c3 : x0 = 10002
  · replace h := h.1 c3
    refine jx_tableIn (v := 10002) (tgt := 32) (off := 31) kd229.2.1 c3 (by decide) (by decide) (by decide) (by decide) ?_
    refine jx_iload_n 3 kd229.2.2.2.2.2.2.1 rfl rfl ?_
    exact jx_iret kd229.2.2.2.2.2.2.2.1 rfl rfl (jle rfl) (jle rfl) ⟨_, rfl, h⟩
  replace h := h.2
  replace h := h c1 c2 c3
  refine jx_tableD (tgt := 34) ([10000, 10001, 10002] : List Int) kd229.2.1 (by simp only [List.mem_cons, List.not_mem_nil, or_false, forall_eq_or_imp, forall_eq]; exact ⟨lv_neT c1 (by decide), lv_neT c2 (by decide), lv_neT c3 (by decide)⟩) (by decide) (by decide) (by decide) ?_
  refine jx_iload_n 0 kd229.2.2.2.2.2.2.2.2.1 rfl rfl ?_
  exact jx_iret kd229.2.2.2.2.2.2.2.2.2 rfl rfl (jle rfl) (jle rfl) ⟨_, rfl, h⟩
set_option maxRecDepth 100000 in
set_option maxHeartbeats 4000000 in
theorem T_X9_joined {E : jEnv} {d : Nat} {Q : Int32 → jM → Prop} {x0 : Int32} {x1 : Int32} {x2 : Int32} {S : jM} (h : (x0 = 38 → (x1 = 0 → Q 0 S) ∧ (¬ x1 = 0 → (x2 = 0 → Q 0 S) ∧ (¬ x2 = 0 → Q 1 S))) ∧ (x0 = 42 → Q (x1 * x2) S) ∧ (x0 = 43 → Q (x1 + x2) S) ∧ (x0 = 45 → Q (x1 - x2) S) ∧ (x0 = 60 → (x2 ≤ x1 → Q 0 S) ∧ (¬ x2 ≤ x1 → Q 1 S)) ∧ (x0 = 61 → (x1 = x2 → Q 1 S) ∧ (¬ x1 = x2 → Q 0 S)) ∧ (x0 = 62 → (x1 ≤ x2 → Q 0 S) ∧ (¬ x1 ≤ x2 → Q 1 S)) ∧ (x0 = 124 → (x1 = 0 → (x2 = 0 → Q 0 S) ∧ (¬ x2 = 0 → Q 1 S)) ∧ (¬ x1 = 0 → Q 1 S)) ∧ (¬ x0 = 38 → ¬ x0 = 42 → ¬ x0 = 43 → ¬ x0 = 45 → ¬ x0 = 60 → ¬ x0 = 61 → ¬ x0 = 62 → ¬ x0 = 124 → (x2 = 0 → Q 0 S) ∧ (¬ x2 = 0 → (¬ x2 = 0) ∧ (Q (x1 / x2) S)))) : jFi E mX9_joined d 0 0 [.int x0, .int x1, .int x2] S Q := by
  refine jF_of (by decide) (jle rfl) ?_
  refine jx_lv (lv1 := [(0, .int x0), (1, .int x1), (2, .int x2)]) [0, 1, 2] rfl ?_
  refine jx_iload_n 0 kd230.1 rfl rfl ?_
  by_cases c1 : x0 = 38
  · replace h := h.1 c1
    refine jx_lookIn (v := 38) (tgt := 90) (off := 89) kd230.2.1 (by decide) c1 (by decide) (by decide) ?_
    refine jx_iload_n 1 kd230.2.2.2.2.2.2.2.2.2.2.1 rfl rfl ?_
    refine jx_if_eq (tgt := 102) kd230.2.2.2.2.2.2.2.2.2.2.2.1 (by decide) (fun c2 => ?_) (fun c2 => ?_)
    · replace h := h.1 c2
      refine jx_iconst (v := 0) kd231.2.2.1 (by decide) ?_
      exact jx_iret kd231.2.2.2.1 rfl rfl (jle rfl) (jle rfl) ⟨_, rfl, h⟩
    replace h := h.2 c2
    refine jx_iload_n 2 kd230.2.2.2.2.2.2.2.2.2.2.2.2.1 rfl rfl ?_
    refine jx_if_eq (tgt := 102) kd230.2.2.2.2.2.2.2.2.2.2.2.2.2 (by decide) (fun c3 => ?_) (fun c3 => ?_)
    · replace h := h.1 c3
      refine jx_iconst (v := 0) kd231.2.2.1 (by decide) ?_
      exact jx_iret kd231.2.2.2.1 rfl rfl (jle rfl) (jle rfl) ⟨_, rfl, h⟩
    replace h := h.2 c3
    refine jx_iconst (v := 1) kd231.1 (by decide) ?_
    refine jx_goto (tgt := 103) kd231.2.1 (by decide) ?_
    exact jx_iret kd231.2.2.2.1 rfl rfl (jle rfl) (jle rfl) ⟨_, rfl, h⟩
  replace h := h.2
  by_cases c4 : x0 = 42
  · replace h := h.1 c4
    refine jx_lookIn (v := 42) (tgt := 145) (off := 144) kd230.2.1 (by decide) c4 (by decide) (by decide) ?_
    refine jx_iload_n 1 kd233.2.2.2.2.2.1 rfl rfl ?_
    refine jx_iload_n 2 kd233.2.2.2.2.2.2.1 rfl rfl ?_
    refine jx_imul kd233.2.2.2.2.2.2.2.1 ?_
    exact jx_iret kd233.2.2.2.2.2.2.2.2.1 rfl rfl (jle rfl) (jle rfl) ⟨_, rfl, h⟩
  replace h := h.2
  by_cases c5 : x0 = 43
  · replace h := h.1 c5
    refine jx_lookIn (v := 43) (tgt := 137) (off := 136) kd230.2.1 (by decide) c5 (by decide) (by decide) ?_
    refine jx_iload_n 1 kd232.2.2.2.2.2.2.2.2.2.2.2.1 rfl rfl ?_
    refine jx_iload_n 2 kd232.2.2.2.2.2.2.2.2.2.2.2.2.1 rfl rfl ?_
    refine jx_iadd kd232.2.2.2.2.2.2.2.2.2.2.2.2.2 ?_
    exact jx_iret kd233.1 rfl rfl (jle rfl) (jle rfl) ⟨_, rfl, h⟩
  replace h := h.2
  by_cases c6 : x0 = 45
  · replace h := h.1 c6
    refine jx_lookIn (v := 45) (tgt := 141) (off := 140) kd230.2.1 (by decide) c6 (by decide) (by decide) ?_
    refine jx_iload_n 1 kd233.2.1 rfl rfl ?_
    refine jx_iload_n 2 kd233.2.2.1 rfl rfl ?_
    refine jx_isub kd233.2.2.2.1 ?_
    exact jx_iret kd233.2.2.2.2.1 rfl rfl (jle rfl) (jle rfl) ⟨_, rfl, h⟩
  replace h := h.2
  by_cases c7 : x0 = 60
  · replace h := h.1 c7
    refine jx_lookIn (v := 60) (tgt := 104) (off := 103) kd230.2.1 (by decide) c7 (by decide) (by decide) ?_
    refine jx_iload_n 1 kd231.2.2.2.2.1 rfl rfl ?_
    refine jx_iload_n 2 kd231.2.2.2.2.2.1 rfl rfl ?_
    refine jx_icmp_ge (tgt := 113) kd231.2.2.2.2.2.2.1 (by decide) (fun c8 => ?_) (fun c8 => ?_)
    · replace h := h.1 c8
      refine jx_iconst (v := 0) kd231.2.2.2.2.2.2.2.2.2.1 (by decide) ?_
      exact jx_iret kd231.2.2.2.2.2.2.2.2.2.2.1 rfl rfl (jle rfl) (jle rfl) ⟨_, rfl, h⟩
    replace h := h.2 c8
    refine jx_iconst (v := 1) kd231.2.2.2.2.2.2.2.1 (by decide) ?_
    refine jx_goto (tgt := 114) kd231.2.2.2.2.2.2.2.2.1 (by decide) ?_
    exact jx_iret kd231.2.2.2.2.2.2.2.2.2.2.1 rfl rfl (jle rfl) (jle rfl) ⟨_, rfl, h⟩
  replace h := h.2
  by_cases c9 : x0 = 61
  · replace h := h.1 c9
    refine jx_lookIn (v := 61) (tgt := 115) (off := 114) kd230.2.1 (by decide) c9 (by decide) (by decide) ?_
    refine jx_iload_n 1 kd231.2.2.2.2.2.2.2.2.2.2.2.1 rfl rfl ?_
    refine jx_iload_n 2 kd231.2.2.2.2.2.2.2.2.2.2.2.2.1 rfl rfl ?_
    refine jx_icmp_ne (tgt := 124) kd231.2.2.2.2.2.2.2.2.2.2.2.2.2 (by decide) (fun c10 => ?_) (fun c10 => ?_)
    · replace h := h.2 c10
      refine jx_iconst (v := 0) kd232.2.2.1 (by decide) ?_
      exact jx_iret kd232.2.2.2.1 rfl rfl (jle rfl) (jle rfl) ⟨_, rfl, h⟩
    replace h := h.1 c10
    refine jx_iconst (v := 1) kd232.1 (by decide) ?_
    refine jx_goto (tgt := 125) kd232.2.1 (by decide) ?_
    exact jx_iret kd232.2.2.2.1 rfl rfl (jle rfl) (jle rfl) ⟨_, rfl, h⟩
  replace h := h.2
  by_cases c11 : x0 = 62
  · replace h := h.1 c11
    refine jx_lookIn (v := 62) (tgt := 126) (off := 125) kd230.2.1 (by decide) c11 (by decide) (by decide) ?_
    refine jx_iload_n 1 kd232.2.2.2.2.1 rfl rfl ?_
    refine jx_iload_n 2 kd232.2.2.2.2.2.1 rfl rfl ?_
    refine jx_icmp_le (tgt := 135) kd232.2.2.2.2.2.2.1 (by decide) (fun c12 => ?_) (fun c12 => ?_)
    · replace h := h.1 c12
      refine jx_iconst (v := 0) kd232.2.2.2.2.2.2.2.2.2.1 (by decide) ?_
      exact jx_iret kd232.2.2.2.2.2.2.2.2.2.2.1 rfl rfl (jle rfl) (jle rfl) ⟨_, rfl, h⟩
    replace h := h.2 c12
    refine jx_iconst (v := 1) kd232.2.2.2.2.2.2.2.1 (by decide) ?_
    refine jx_goto (tgt := 136) kd232.2.2.2.2.2.2.2.2.1 (by decide) ?_
    exact jx_iret kd232.2.2.2.2.2.2.2.2.2.2.1 rfl rfl (jle rfl) (jle rfl) ⟨_, rfl, h⟩
  replace h := h.2
  by_cases c13 : x0 = 124
  · replace h := h.1 c13
    refine jx_lookIn (v := 124) (tgt := 76) (off := 75) kd230.2.1 (by decide) c13 (by decide) (by decide) ?_
    refine jx_iload_n 1 kd230.2.2.1 rfl rfl ?_
    refine jx_if_ne (tgt := 84) kd230.2.2.2.1 (by decide) (fun c14 => ?_) (fun c14 => ?_)
    · replace h := h.2 c14
      refine jx_iconst (v := 1) kd230.2.2.2.2.2.2.1 (by decide) ?_
      refine jx_goto (tgt := 89) kd230.2.2.2.2.2.2.2.1 (by decide) ?_
      exact jx_iret kd230.2.2.2.2.2.2.2.2.2.1 rfl rfl (jle rfl) (jle rfl) ⟨_, rfl, h⟩
    replace h := h.1 c14
    refine jx_iload_n 2 kd230.2.2.2.2.1 rfl rfl ?_
    refine jx_if_eq (tgt := 88) kd230.2.2.2.2.2.1 (by decide) (fun c15 => ?_) (fun c15 => ?_)
    · replace h := h.1 c15
      refine jx_iconst (v := 0) kd230.2.2.2.2.2.2.2.2.1 (by decide) ?_
      exact jx_iret kd230.2.2.2.2.2.2.2.2.2.1 rfl rfl (jle rfl) (jle rfl) ⟨_, rfl, h⟩
    replace h := h.2 c15
    refine jx_iconst (v := 1) kd230.2.2.2.2.2.2.1 (by decide) ?_
    refine jx_goto (tgt := 89) kd230.2.2.2.2.2.2.2.1 (by decide) ?_
    exact jx_iret kd230.2.2.2.2.2.2.2.2.2.1 rfl rfl (jle rfl) (jle rfl) ⟨_, rfl, h⟩
  replace h := h.2
  replace h := h c1 c4 c5 c6 c7 c9 c11 c13
  refine jx_lookD (tgt := 149) kd230.2.1 (by decide) (by simp only [List.mem_cons, List.not_mem_nil, or_false, forall_eq_or_imp, forall_eq]; exact ⟨lv_neT c1 (by decide), lv_neT c4 (by decide), lv_neT c5 (by decide), lv_neT c6 (by decide), lv_neT c7 (by decide), lv_neT c9 (by decide), lv_neT c11 (by decide), lv_neT c13 (by decide)⟩) (by decide) ?_
  refine jx_iload_n 2 kd233.2.2.2.2.2.2.2.2.2.1 rfl rfl ?_
  refine jx_if_ne (tgt := 157) kd233.2.2.2.2.2.2.2.2.2.2.1 (by decide) (fun c16 => ?_) (fun c16 => ?_)
  · replace h := h.2 c16
    refine jx_iload_n 1 kd233.2.2.2.2.2.2.2.2.2.2.2.2.2 rfl rfl ?_
    refine jx_iload_n 2 kd234.1 rfl rfl ?_
    obtain ⟨hz17, h⟩ := h
    refine jx_idiv kd234.2.1 hz17 ?_
    exact jx_iret kd234.2.2 rfl rfl (jle rfl) (jle rfl) ⟨_, rfl, h⟩
  replace h := h.1 c16
  refine jx_iconst (v := 0) kd233.2.2.2.2.2.2.2.2.2.2.2.1 (by decide) ?_
  refine jx_goto (tgt := 160) kd233.2.2.2.2.2.2.2.2.2.2.2.2.1 (by decide) ?_
  exact jx_iret kd234.2.2 rfl rfl (jle rfl) (jle rfl) ⟨_, rfl, h⟩
end
section
/-! LEAVES that are plain functions of their arguments -/
def jwi (v b : Int32) : Int32 := if v < 0 then 0 else if b ≤ v then 0 else 1
def jbc (x : Int32) : Int32 :=
  let y1 := ((x - ((jushr x 1) &&& 1431655765)) &&& 858993459) + ((jushr (x - ((jushr x 1) &&& 1431655765)) 2) &&& 858993459)
  let y2 := (((y1 + (jushr y1 4)) &&& 252645135) + (jushr ((y1 + (jushr y1 4)) &&& 252645135) 8)) + (jushr (((y1 + (jushr y1 4)) &&& 252645135) + (jushr ((y1 + (jushr y1 4)) &&& 252645135) 8)) 16)
  y2 &&& 63
def jisin (v lo hi : Int64) : Int32 := if lg_cmp v lo < 0 then 0 else if 0 < lg_cmp v hi then 0 else 1
def jornone (v : Int32) : Int32 := if 0 ≤ v then v else (-1000000005)
def jclamp (v lo hi : Int32) : Int32 := if lo ≤ v then (if v ≤ hi then v else hi) else lo
def joff (a b : Int32) : Int32 := if b ≤ a then a - b else b - a
def jisg (g : Int32) : Int32 := if g < 0 then 0 else if 10 ≤ g then 0 else 1
def jist (g : Int32) : Int32 := if g < 0 then 0 else if 6 ≤ g then 0 else 1
def jisof (own kind : Int32) : Int32 := if own = kind then 1 else if kind = 0 then 1 else if kind = 1 then (if own = 3 then 1 else 0) else if kind = 2 then (if own = 4 then 1 else 0) else 0
def jtextat (t : Int32) : Int32 := 135 + 200 * t
def jjoinM (s x y : Int32) : Int32 :=
  if s = 38 then (if x = 0 then 0 else if y = 0 then 0 else 1) else if s = 42 then x * y else if s = 43 then x + y else if s = 45 then x - y
  else if s = 47 then (if y = 0 then 0 else if y = (-1) then -x else x / y) else if s = 60 then (if y ≤ x then 0 else 1) else if s = 61 then (if x = y then 1 else 0) else if s = 62 then (if x ≤ y then 0 else 1)
  else (if x = 0 then (if y = 0 then 0 else 1) else 1)
def jjoinC (s x y : Int32) : Int32 :=
  if s = 38 then (if x = 0 then 0 else if y = 0 then 0 else 1) else if s = 42 then x * y else if s = 43 then x + y else if s = 45 then x - y
  else if s = 60 then (if y ≤ x then 0 else 1) else if s = 61 then (if x = y then 1 else 0) else if s = 62 then (if x ≤ y then 0 else 1)
  else if s = 124 then (if x = 0 then (if y = 0 then 0 else 1) else 1) else (if y = 0 then 0 else x / y)
def jisname (key c : Int32) : Int32 := if key = 0 then (if c = 107 then 1 else if c = 103 then 1 else if c = 97 then 1 else 0) else if key = 1 then (if c = 102 then 1 else if c = 97 then 1 else 0) else (if c = 99 then 1 else if c = 100 then 1 else 0)
def jvalof (w x y z : Int32) : Int32 := if w = 10000 then x else if w = 10001 then y else if w = 10002 then z else w
theorem c_X10_within {E : jEnv} {d : Nat} {Q : Int32 → jM → Prop} {x0 x1 : Int32} {S : jM} (h : Q (jwi x0 x1) S) : jFi E mX10_within d 0 0 [.int x0, .int x1] S Q :=
  T_X10_within (by unfold jwi at h; (repeat' first | apply And.intro | intro _) <;> simp_all)
theorem c_J6_bitCount_0f7a4 {E : jEnv} {d : Nat} {Q : Int32 → jM → Prop} {x0 : Int32} {S : jM} (h : Q (jbc x0) S) : jFi E mJ6_bitCount_0f7a4 d 0 0 [.int x0] S Q :=
  T_J6_bitCount_0f7a4 (by intro y1 e1 y2 e2; subst e1; subst e2; exact h)
theorem c_X11_isIn {E : jEnv} {d : Nat} {Q : Int32 → jM → Prop} {x0 x2 x4 : Int64} {S : jM} (h : Q (jisin x0 x2 x4) S) : jFi E mX11_isIn d 0 0 [.long x0, .long x2, .long x4] S Q :=
  T_X11_isIn (by unfold jisin at h; (repeat' first | apply And.intro | intro _) <;> simp_all)
theorem c_X11_orNone {E : jEnv} {d : Nat} {Q : Int32 → jM → Prop} {x0 : Int32} {S : jM} (h : Q (jornone x0) S) : jFi E mX11_orNone d 0 0 [.int x0] S Q :=
  T_X11_orNone (by unfold jornone at h; (repeat' first | apply And.intro | intro _) <;> simp_all)
theorem c_X11_within {E : jEnv} {d : Nat} {Q : Int32 → jM → Prop} {x0 x1 x2 : Int32} {S : jM} (h : Q (jclamp x0 x1 x2) S) : jFi E mX11_within d 0 0 [.int x0, .int x1, .int x2] S Q :=
  T_X11_within (by unfold jclamp at h; (repeat' first | apply And.intro | intro _) <;> simp_all)
theorem c_X11_off {E : jEnv} {d : Nat} {Q : Int32 → jM → Prop} {x0 x1 : Int32} {S : jM} (h : Q (joff x0 x1) S) : jFi E mX11_off d 0 0 [.int x0, .int x1] S Q :=
  T_X11_off (by unfold joff at h; (repeat' first | apply And.intro | intro _) <;> simp_all)
theorem c_X11_isGesture {E : jEnv} {d : Nat} {Q : Int32 → jM → Prop} {x0 : Int32} {S : jM} (h : Q (jisg x0) S) : jFi E mX11_isGesture d 0 0 [.int x0] S Q :=
  T_X11_isGesture (by unfold jisg at h; (repeat' first | apply And.intro | intro _) <;> simp_all)
theorem c_X11_isTown {E : jEnv} {d : Nat} {Q : Int32 → jM → Prop} {x0 : Int32} {S : jM} (h : Q (jist x0) S) : jFi E mX11_isTown d 0 0 [.int x0] S Q :=
  T_X11_isTown (by unfold jist at h; (repeat' first | apply And.intro | intro _) <;> simp_all)
theorem c_X11_isOf {E : jEnv} {d : Nat} {Q : Int32 → jM → Prop} {x0 x1 : Int32} {S : jM} (h : Q (jisof x0 x1) S) : jFi E mX11_isOf d 0 0 [.int x0, .int x1] S Q :=
  T_X11_isOf (by unfold jisof at h; (repeat' first | apply And.intro | intro _) <;> simp_all)
theorem c_X11_textAt {E : jEnv} {d : Nat} {Q : Int32 → jM → Prop} {a0 : Nat} {x1 : Int32} {S : jM} (h : Q (jtextat x1) S) : jFi E mX11_textAt d 0 0 [.ref a0, .int x1] S Q := T_X11_textAt h
theorem c_X11_joined {E : jEnv} {d : Nat} {Q : Int32 → jM → Prop} {x0 x1 x2 : Int32} {S : jM} (h : Q (jjoinM x0 x1 x2) S) : jFi E mX11_joined d 0 0 [.int x0, .int x1, .int x2] S Q :=
  T_X11_joined (by unfold jjoinM at h; (repeat' first | apply And.intro | intro _) <;> simp_all)
theorem c_X9_joined {E : jEnv} {d : Nat} {Q : Int32 → jM → Prop} {x0 x1 x2 : Int32} {S : jM} (h : Q (jjoinC x0 x1 x2) S) : jFi E mX9_joined d 0 0 [.int x0, .int x1, .int x2] S Q :=
  T_X9_joined (by unfold jjoinC at h; (repeat' first | apply And.intro | intro _) <;> simp_all)
theorem c_X11_isName {E : jEnv} {d : Nat} {Q : Int32 → jM → Prop} {x0 x1 : Int32} {S : jM} (h : Q (jisname x0 x1) S) : jFi E mX11_isName d 0 0 [.int x0, .int x1] S Q :=
  T_X11_isName (by unfold jisname at h; (repeat' first | apply And.intro | intro _) <;> simp_all)
theorem c_X9_valueOf {E : jEnv} {d : Nat} {Q : Int32 → jM → Prop} {x0 x1 x2 x3 : Int32} {S : jM} (h : Q (jvalof x0 x1 x2 x3) S) : jFi E mX9_valueOf d 0 0 [.int x0, .int x1, .int x2, .int x3] S Q :=
  T_X9_valueOf (by unfold jvalof at h; (repeat' first | apply And.intro | intro _) <;> simp_all)
/-- how many bits, by taking the lowest away -/
def jmanyL : Nat → Int32 → Int32 → Int32
  | 0, n, _ => n
  | f + 1, n, x => if x = 0 then n else jmanyL f (n + 1) (x &&& (x - 1))
def jmany (x : Int32) : Int32 := jmanyL (x.toBitVec.toNat + 1) 0 x
theorem jmany_dec {x : Int32} (h : ¬ x = 0) : (x &&& (x - 1)).toBitVec.toNat < x.toBitVec.toNat := by
  have h0 : x.toBitVec.toNat ≠ 0 := by
    intro e
    apply h
    apply Int32.toBitVec_inj.mp
    apply BitVec.eq_of_toNat_eq
    rw [e]; rfl
  have h1 : (x - 1).toBitVec.toNat = x.toBitVec.toNat - 1 := by
    have e1 : (x - 1).toBitVec = x.toBitVec - 1#32 := rfl
    rw [e1, BitVec.toNat_sub]
    have hlt := x.toBitVec.isLt
    have e2 : (1#32).toNat = 1 := rfl
    rw [e2]
    omega
  have h2 : (x &&& (x - 1)).toBitVec.toNat ≤ (x - 1).toBitVec.toNat := by
    have e1 : (x &&& (x - 1)).toBitVec = x.toBitVec &&& (x - 1).toBitVec := rfl
    rw [e1, BitVec.toNat_and]
    exact Nat.and_le_right
  omega
theorem l_X11_manyIn {E : jEnv} {d : Nat} {Q : Int32 → jM → Prop} {S : jM} : ∀ (f : Nat) (n x : Int32), x.toBitVec.toNat < f → Q (jmanyL f n x) S → L_X11_manyIn_4 E d Q n x S := by
  intro f
  induction f with
  | zero => intro n x h; exact absurd h (Nat.not_lt_zero _)
  | succ f ih =>
    intro n x hf h
    refine T_X11_manyIn_4 ⟨fun c => ?_, fun c => ?_⟩
    · simpa [jmanyL, c] using h
    · have hd := jmany_dec c
      refine ih (n + 1) (x &&& (x - 1)) (by omega) ?_
      simpa [jmanyL, c] using h
theorem c_X11_manyIn {E : jEnv} {d : Nat} {Q : Int32 → jM → Prop} {x0 : Int32} {S : jM} (h : Q (jmany x0) S) : jFi E mX11_manyIn d 0 0 [.int x0] S Q :=
  T_X11_manyIn (l_X11_manyIn _ _ _ (Nat.lt_succ_self _) h)
theorem jbc_many : ∀ n : Fin 1024, jbc (nI n.val) = jmany (nI n.val) := by decide +kernel
end
section
set_option maxRecDepth 100000 in
set_option maxHeartbeats 4000000 in
theorem T_X11_isSheet {E : jEnv} {d : Nat} {Q : Int32 → jM → Prop} {x0 : Int32} {S : jM} (h : ((jisin (Int32.toInt64 x0) 0 3) = 0 ∨ (jisin (Int32.toInt64 x0) 0 3) = 1) ∧ Q (jisin (Int32.toInt64 x0) 0 3) S) : jFi E mX11_isSheet (d + 1) 0 0 [.int x0] S Q := by
  refine jF_of (by decide) (jle rfl) ?_
  refine jx_lv (lv1 := [(0, .int x0)]) [0] rfl ?_
  refine jx_iload_n 0 kd652.1 rfl rfl ?_
  refine jx_i2l kd652.2.1 ?_
  refine jx_lconst (v := 0) kd652.2.2.1 (by decide) ?_
  refine jx_ldc2 jwL_X11_144 kd652.2.2.2.1 ?_
  refine jx_callSi (M' := mX11_isIn) (As := [.long (Int32.toInt64 x0), .long 0, .long 3]) jo_X11_isIn jwM_X11_71 jwS_X11_isIn kd652.2.2.2.2.1 (jRok_m _ _ _) rfl (jle rfl) ⟨jle rfl, jle rfl⟩ (c_X11_isIn (Q := fun v S' => v = (jisin (Int32.toInt64 x0) 0 3) ∧ S = S') ⟨rfl, rfl⟩) (fun r1 S2 hq3 => ?_)
  obtain ⟨rfl, rfl⟩ := hq3
  obtain ⟨hb4, h⟩ := h
  exact jx_iret kd652.2.2.2.2.2 rfl (jb_nar hb4) (jle rfl) (jle rfl) ⟨_, rfl, h⟩
set_option maxRecDepth 100000 in
set_option maxHeartbeats 4000000 in
theorem T_X11_isSlot {E : jEnv} {d : Nat} {Q : Int32 → jM → Prop} {x0 : Int32} {S : jM} (h : ((jisin (Int32.toInt64 x0) 0 4) = 0 ∨ (jisin (Int32.toInt64 x0) 0 4) = 1) ∧ Q (jisin (Int32.toInt64 x0) 0 4) S) : jFi E mX11_isSlot (d + 1) 0 0 [.int x0] S Q := by
  refine jF_of (by decide) (jle rfl) ?_
  refine jx_lv (lv1 := [(0, .int x0)]) [0] rfl ?_
  refine jx_iload_n 0 kd689.1 rfl rfl ?_
  refine jx_i2l kd689.2.1 ?_
  refine jx_lconst (v := 0) kd689.2.2.1 (by decide) ?_
  refine jx_ldc2 jwL_X11_133 kd689.2.2.2.1 ?_
  refine jx_callSi (M' := mX11_isIn) (As := [.long (Int32.toInt64 x0), .long 0, .long 4]) jo_X11_isIn jwM_X11_71 jwS_X11_isIn kd689.2.2.2.2.1 (jRok_m _ _ _) rfl (jle rfl) ⟨jle rfl, jle rfl⟩ (c_X11_isIn (Q := fun v S' => v = (jisin (Int32.toInt64 x0) 0 4) ∧ S = S') ⟨rfl, rfl⟩) (fun r1 S2 hq3 => ?_)
  obtain ⟨rfl, rfl⟩ := hq3
  obtain ⟨hb4, h⟩ := h
  exact jx_iret kd689.2.2.2.2.2 rfl (jb_nar hb4) (jle rfl) (jle rfl) ⟨_, rfl, h⟩
end
section
def jissheet (k : Int32) : Int32 := jisin k.toInt64 0 3
def jisslot (k : Int32) : Int32 := jisin k.toInt64 0 4
theorem jisin01 (v lo hi : Int64) : jisin v lo hi = 0 ∨ jisin v lo hi = 1 := by
  unfold jisin
  split
  · exact Or.inl rfl
  · split
    · exact Or.inl rfl
    · exact Or.inr rfl
theorem c_X11_isSheet {E : jEnv} {d : Nat} {Q : Int32 → jM → Prop} {x0 : Int32} {S : jM} (h : Q (jissheet x0) S) : jFi E mX11_isSheet (d + 1) 0 0 [.int x0] S Q := T_X11_isSheet ⟨jisin01 _ _ _, h⟩
theorem c_X11_isSlot {E : jEnv} {d : Nat} {Q : Int32 → jM → Prop} {x0 : Int32} {S : jM} (h : Q (jisslot x0) S) : jFi E mX11_isSlot (d + 1) 0 0 [.int x0] S Q := T_X11_isSlot ⟨jisin01 _ _ _, h⟩
end
