/-! THE START of the law: classes, arrays, constants (program: wip/gen/env.py) -/
theorem jT_sub {w : Cond} (h : w ∈ jT) : w ∈ lw_tbl := (List.mem_filter.mp h).1
theorem env_cls {s : State} {A : Array Value} (hts : ∀ w ∈ jT, w.before A s = true) : ∃ D : va_G, ∀ (k : Nat) (q : vw_C), vwCl[k]? = some q → u_Kn s q.1 q.2.1 q.2.2 (D.1 k) (D.2 k) := by
  obtain ⟨c0, i0, h0⟩ := u_known (C := RX0) (T := TX0) (N := 3) (n := 3) hts jc_0.2.1 (hts _ jwI_X0)
  obtain ⟨c1, i1, h1⟩ := u_known (C := RX1) (T := TX1) (N := 7) (n := 7) hts jc_1.2.1 (hts _ jwI_X1)
  obtain ⟨c2, i2, h2⟩ := u_known (C := RX2) (T := TX2) (N := 7) (n := 7) hts jc_2.2.1 (hts _ jwI_X2)
  obtain ⟨c3, i3, h3⟩ := u_known (C := RX3) (T := TX3) (N := 7) (n := 7) hts jc_3.2.1 (hts _ jwI_X3)
  obtain ⟨c4, i4, h4⟩ := u_known (C := RX4) (T := TX4) (N := 2) (n := 2) hts jc_4.2.1 (hts _ jwI_X4)
  obtain ⟨c5, i5, h5⟩ := u_known (C := RX5) (T := TX5) (N := 12) (n := 12) hts jc_5.2.1 (hts _ jwI_X5)
  obtain ⟨c6, i6, h6⟩ := u_known (C := RX6) (T := TX6) (N := 3) (n := 3) hts jc_6.2.1 (hts _ jwI_X6)
  obtain ⟨c7, i7, h7⟩ := u_known (C := RX7) (T := TX7) (N := 4) (n := 4) hts jc_7.2.1 (hts _ jwI_X7)
  obtain ⟨c8, i8, h8⟩ := u_known (C := RX8) (T := TX8) (N := 10) (n := 10) hts jc_8.2.1 (hts _ jwI_X8)
  obtain ⟨c9, i9, h9⟩ := u_known (C := RX9) (T := TX9) (N := 4) (n := 4) hts jc_9.2.1 (hts _ jwI_X9)
  obtain ⟨c10, i10, h10⟩ := u_known (C := RX10) (T := TX10) (N := 10) (n := 10) hts jc_10.2.1 (hts _ jwI_X10)
  obtain ⟨c11, i11, h11⟩ := u_known (C := RX11) (T := TX11) (N := 36) (n := 36) hts jc_11.2.1 (hts _ jwI_X11)
  refine ⟨(fun k => if k = 0 then c0 else if k = 1 then c1 else if k = 2 then c2 else if k = 3 then c3 else if k = 4 then c4 else if k = 5 then c5 else if k = 6 then c6 else if k = 7 then c7 else if k = 8 then c8 else if k = 9 then c9 else if k = 10 then c10 else c11, fun k => if k = 0 then i0 else if k = 1 then i1 else if k = 2 then i2 else if k = 3 then i3 else if k = 4 then i4 else if k = 5 then i5 else if k = 6 then i6 else if k = 7 then i7 else if k = 8 then i8 else if k = 9 then i9 else if k = 10 then i10 else i11), fun k q hq => ?_⟩
  match k, hq with
  | 0, hq => cases hq; exact h0
  | 1, hq => cases hq; exact h1
  | 2, hq => cases hq; exact h2
  | 3, hq => cases hq; exact h3
  | 4, hq => cases hq; exact h4
  | 5, hq => cases hq; exact h5
  | 6, hq => cases hq; exact h6
  | 7, hq => cases hq; exact h7
  | 8, hq => cases hq; exact h8
  | 9, hq => cases hq; exact h9
  | 10, hq => cases hq; exact h10
  | 11, hq => cases hq; exact h11
  | k + 12, hq => simp [vwCl] at hq
theorem env_obj {s : State} {C : String} (h : va_AO C s) : ∃ cA : ClassId, ArrOfT s cA (.object C) ∧ va_RA s cA (.object C) := by
  obtain ⟨comp, c, k, h1, h2, h3, h4, h5⟩ := Cond.arrayOver_spec h
  exact ⟨c, fun n z => ⟨(fun k h => by cases h), k, h3, comp, h4⟩, k, comp, h3, h4, h1, h5⟩
theorem env_int {s : State} {A : Array Value} (h : (Cond.arrayClass .int).before A s = true) : ∃ cA : ClassId, ArrOfT s cA .int ∧ va_RA s cA .int := by
  obtain ⟨cA, kA, comp, h1, h2, h3⟩ := Cond.arrayClass_spec h
  exact ⟨cA, fun n z => ⟨(fun k h => by cases h), kA, h2, comp, h3⟩, h1⟩
theorem env_nest {s : State} {A : Array Value} (hts : ∀ w ∈ lw_tbl, w.before A s = true) : ∀ q ∈ jNest, va_Nw (.methodLinkNest q.1 q.2.1 q.2.2.1 q.2.2.2) s := by
  have one : ∀ q : String × Nat × MethodName × String, Cond.methodLinkNest q.1 q.2.1 q.2.2.1 q.2.2.2 ∈ tables_1 → va_Nw (.methodLinkNest q.1 q.2.1 q.2.2.1 q.2.2.2) s := fun q h => va_Nw.of rfl (hts _ (List.mem_append_right _ h))
  exact List.forall_mem_cons.mpr ⟨one _ (List.mem_of_getElem? (i := 31) (by decide +kernel)), List.forall_mem_cons.mpr ⟨one _ (List.mem_of_getElem? (i := 44) (by decide +kernel)), List.forall_mem_cons.mpr ⟨one _ (List.mem_of_getElem? (i := 130) (by decide +kernel)), List.forall_mem_cons.mpr ⟨one _ (List.mem_of_getElem? (i := 207) (by decide +kernel)), List.forall_mem_cons.mpr ⟨one _ (List.mem_of_getElem? (i := 253) (by decide +kernel)), List.forall_mem_cons.mpr ⟨one _ (List.mem_of_getElem? (i := 295) (by decide +kernel)), List.forall_mem_cons.mpr ⟨one _ (List.mem_of_getElem? (i := 315) (by decide +kernel)), List.forall_mem_cons.mpr ⟨one _ (List.mem_of_getElem? (i := 320) (by decide +kernel)), List.forall_mem_cons.mpr ⟨one _ (List.mem_of_getElem? (i := 322) (by decide +kernel)), List.forall_mem_cons.mpr ⟨one _ (List.mem_of_getElem? (i := 382) (by decide +kernel)), List.forall_mem_cons.mpr ⟨one _ (List.mem_of_getElem? (i := 414) (by decide +kernel)), List.forall_mem_cons.mpr ⟨one _ (List.mem_of_getElem? (i := 419) (by decide +kernel)), List.forall_mem_cons.mpr ⟨one _ (List.mem_of_getElem? (i := 452) (by decide +kernel)), List.forall_mem_cons.mpr ⟨one _ (List.mem_of_getElem? (i := 485) (by decide +kernel)), List.forall_mem_cons.mpr ⟨one _ (List.mem_of_getElem? (i := 534) (by decide +kernel)), List.forall_mem_cons.mpr ⟨one _ (List.mem_of_getElem? (i := 625) (by decide +kernel)), List.forall_mem_cons.mpr ⟨one _ (List.mem_of_getElem? (i := 744) (by decide +kernel)), List.forall_mem_cons.mpr ⟨one _ (List.mem_of_getElem? (i := 774) (by decide +kernel)), fun _ h => absurd h List.not_mem_nil⟩⟩⟩⟩⟩⟩⟩⟩⟩⟩⟩⟩⟩⟩⟩⟩⟩⟩
def envT (i : Nat) : Term := .string RX8 (94 + 2 * i)
def envL : List Nat := [4, 4, 4, 3, 2, 2]
def envB : List (List Int32) := [[116, 101, 114, 109], [102, 97, 109, 101], [102, 105, 110, 101], [107, 103, 97], [102, 97], [99, 100]]
theorem env6 {P : Nat → Prop} (h0 : P 0) (h1 : P 1) (h2 : P 2) (h3 : P 3) (h4 : P 4) (h5 : P 5) : ∀ i, i < 6 → P i := by
  intro i hi
  match i, hi with
  | 0, _ => exact h0
  | 1, _ => exact h1
  | 2, _ => exact h2
  | 3, _ => exact h3
  | 4, _ => exact h4
  | 5, _ => exact h5
  | k + 6, hi => omega
theorem env_str {s : State} {A : Array Value} {B : Nat → Prop} (hs : (Jvm.Cond.and given_1 narrow_1).before A s = true) (hA : ∀ a : Nat, a < s.heap.size → ¬ B a) : ∃ adK adV : Nat → Nat, vk_S 6 envL envB adK adV B s s.heap ∧ ∀ i : Nat, i < 6 → (envT i).eval A s none [] s = some (.ref (adK i)) := by
  have hf := flat_of_before _ hs
  refine vk_Sof (tm := envT) (len := envL) (byt := envB) (env6 (by decide) (by decide) (by decide) (by decide) (by decide) (by decide)) (env6 (hf _ (by decide +kernel)) (hf _ (by decide +kernel)) (hf _ (by decide +kernel)) (hf _ (by decide +kernel)) (hf _ (by decide +kernel)) (hf _ (by decide +kernel))) (env6 (hf _ (by decide +kernel)) (hf _ (by decide +kernel)) (hf _ (by decide +kernel)) (hf _ (by decide +kernel)) (hf _ (by decide +kernel)) (hf _ (by decide +kernel))) (env6 (hf _ (by decide +kernel)) (hf _ (by decide +kernel)) (hf _ (by decide +kernel)) (hf _ (by decide +kernel)) (hf _ (by decide +kernel)) (hf _ (by decide +kernel))) (env6 (hf _ (by decide +kernel)) (hf _ (by decide +kernel)) (hf _ (by decide +kernel)) (hf _ (by decide +kernel)) (hf _ (by decide +kernel)) (hf _ (by decide +kernel))) ?_ ?_ hA
  · exact env6 (fun j hj => match j, hj with | 0, _ => hf _ (by decide +kernel) | 1, _ => hf _ (by decide +kernel) | 2, _ => hf _ (by decide +kernel) | 3, _ => hf _ (by decide +kernel) | k + 4, hj => absurd hj (by show ¬ k + 4 < 4; omega)) (fun j hj => match j, hj with | 0, _ => hf _ (by decide +kernel) | 1, _ => hf _ (by decide +kernel) | 2, _ => hf _ (by decide +kernel) | 3, _ => hf _ (by decide +kernel) | k + 4, hj => absurd hj (by show ¬ k + 4 < 4; omega)) (fun j hj => match j, hj with | 0, _ => hf _ (by decide +kernel) | 1, _ => hf _ (by decide +kernel) | 2, _ => hf _ (by decide +kernel) | 3, _ => hf _ (by decide +kernel) | k + 4, hj => absurd hj (by show ¬ k + 4 < 4; omega)) (fun j hj => match j, hj with | 0, _ => hf _ (by decide +kernel) | 1, _ => hf _ (by decide +kernel) | 2, _ => hf _ (by decide +kernel) | k + 3, hj => absurd hj (by show ¬ k + 3 < 3; omega)) (fun j hj => match j, hj with | 0, _ => hf _ (by decide +kernel) | 1, _ => hf _ (by decide +kernel) | k + 2, hj => absurd hj (by show ¬ k + 2 < 2; omega)) (fun j hj => match j, hj with | 0, _ => hf _ (by decide +kernel) | 1, _ => hf _ (by decide +kernel) | k + 2, hj => absurd hj (by show ¬ k + 2 < 2; omega))
  · have hn : ∀ i, i < 6 → ∀ j, j < 6 → i < j → (Cond.not (Cond.eq (envT i) (envT j))).before A s = true := env6 (env6 (fun h => absurd h (by decide)) (fun _ => hf _ (by decide +kernel)) (fun _ => hf _ (by decide +kernel)) (fun _ => hf _ (by decide +kernel)) (fun _ => hf _ (by decide +kernel)) (fun _ => hf _ (by decide +kernel))) (env6 (fun h => absurd h (by decide)) (fun h => absurd h (by decide)) (fun _ => hf _ (by decide +kernel)) (fun _ => hf _ (by decide +kernel)) (fun _ => hf _ (by decide +kernel)) (fun _ => hf _ (by decide +kernel))) (env6 (fun h => absurd h (by decide)) (fun h => absurd h (by decide)) (fun h => absurd h (by decide)) (fun _ => hf _ (by decide +kernel)) (fun _ => hf _ (by decide +kernel)) (fun _ => hf _ (by decide +kernel))) (env6 (fun h => absurd h (by decide)) (fun h => absurd h (by decide)) (fun h => absurd h (by decide)) (fun h => absurd h (by decide)) (fun _ => hf _ (by decide +kernel)) (fun _ => hf _ (by decide +kernel))) (env6 (fun h => absurd h (by decide)) (fun h => absurd h (by decide)) (fun h => absurd h (by decide)) (fun h => absurd h (by decide)) (fun h => absurd h (by decide)) (fun _ => hf _ (by decide +kernel))) (env6 (fun h => absurd h (by decide)) (fun h => absurd h (by decide)) (fun h => absurd h (by decide)) (fun h => absurd h (by decide)) (fun h => absurd h (by decide)) (fun h => absurd h (by decide)))
    intro i j hi hj hij
    rcases Nat.lt_or_gt_of_ne hij with h | h
    · exact Or.inl (hn i hi j hj h)
    · exact Or.inr (hn j hj i hi h)
theorem env_start {s : State} {A : Array Value} (l : Launch) (hts : ∀ w ∈ lw_tbl, w.before A s = true) (hs : (Jvm.Cond.and given_1 narrow_1).before A s = true) : ∃ E : jEnv, eL E = l ∧ eB E = s.heap.size ∧ eG E = s.heap ∧ va_K (eD E) vwCl (jtys E) s ∧ jG E s := by
  have hj : ∀ w ∈ jT, w.before A s = true := fun w hw => hts w (jT_sub hw)
  have hf := flat_of_before _ hs
  obtain ⟨D, hD⟩ := env_cls hj
  have o2 : va_AO RX2 s := va_AO.of (hts _ (List.mem_append_right _ (List.mem_of_getElem? (i := 42) (by decide +kernel))))
  have o6 : va_AO RX6 s := va_AO.of (hts _ (List.mem_append_right _ (List.mem_of_getElem? (i := 291) (by decide +kernel))))
  have o7 : va_AO RX7 s := va_AO.of (hts _ (List.mem_append_right _ (List.mem_of_getElem? (i := 293) (by decide +kernel))))
  have o9 : va_AO RX9 s := va_AO.of (hts _ (List.mem_append_right _ (List.mem_of_getElem? (i := 172) (by decide +kernel))))
  obtain ⟨a12, k12⟩ := env_int (hj _ jwA)
  obtain ⟨a13, k13⟩ := env_obj o2
  obtain ⟨a14, k14⟩ := env_obj o6
  obtain ⟨a15, k15⟩ := env_obj o7
  obtain ⟨a16, k16⟩ := env_obj o9
  have hA : ∀ a : Nat, a < s.heap.size → ¬ (fun q : Nat => s.heap.size ≤ q) a := fun a h => Nat.not_le.mpr h
  obtain ⟨t, ht, hT⟩ := va_Tof (A := fun q : Nat => s.heap.size ≤ q) (tm := .static "NineMasters" "ABOVE" "[I") (ty := .int) (N := 6) (f := fun j => .int (([-1, 0, 0, 1, 2, 0] : List Int32).getD j 0)) (by decide) (hf _ (by decide +kernel)) (va_eqt (z := 6) (hf _ (by decide +kernel))) (env6 (va_eqt (hf _ (by decide +kernel))) (va_eqt (hf _ (by decide +kernel))) (va_eqt (hf _ (by decide +kernel))) (va_eqt (hf _ (by decide +kernel))) (va_eqt (hf _ (by decide +kernel))) (va_eqt (hf _ (by decide +kernel)))) hA
  obtain ⟨adK, adV, hS, hE⟩ := env_str (B := fun q : Nat => s.heap.size ≤ q) hs hA
  refine ⟨(l, D, (fun k => if k = 12 then a12 else if k = 13 then a13 else if k = 14 then a14 else if k = 15 then a15 else a16), s.heap.size, s.heap, t, adK, adV), rfl, rfl, rfl, ⟨hD, fun k q hk => ?_⟩, ?_⟩
  · match k, hk with
    | 0, hk => cases hk; exact k12
    | 1, hk => cases hk; exact k13
    | 2, hk => cases hk; exact k14
    | 3, hk => cases hk; exact k15
    | 4, hk => cases hk; exact k16
    | k + 5, hk => simp [jtys] at hk
  · refine ⟨va_Zof (hts _ (List.mem_append_right _ (List.mem_of_getElem? (i := 454) (by decide +kernel)))) (hj _ jwZ_X10) ht hA, hT, va_Zof (hts _ (List.mem_append_right _ (List.mem_of_getElem? (i := 822) (by decide +kernel)))) (hj _ jwZ_J0) (va_eqt (hf _ (by decide +kernel))) hA, va_Zqof (hts _ (List.mem_append_right _ (List.mem_of_getElem? (i := 838) (by decide +kernel)))) (hj _ jwZ_J3) (hf _ (by decide +kernel)) hA, hS, vk_R.of (hts _ (List.mem_append_right _ (List.mem_of_getElem? (i := 806) (by decide +kernel)))) (hE 0 (by decide)), vk_R.of (hts _ (List.mem_append_right _ (List.mem_of_getElem? (i := 807) (by decide +kernel)))) (hE 1 (by decide)), vk_R.of (hts _ (List.mem_append_right _ (List.mem_of_getElem? (i := 808) (by decide +kernel)))) (hE 2 (by decide)), vk_R.of (hts _ (List.mem_append_right _ (List.mem_of_getElem? (i := 884) (by decide +kernel)))) (hE 3 (by decide)), vk_R.of (hts _ (List.mem_append_right _ (List.mem_of_getElem? (i := 885) (by decide +kernel)))) (hE 4 (by decide)), vk_R.of (hts _ (List.mem_append_right _ (List.mem_of_getElem? (i := 886) (by decide +kernel)))) (hE 5 (by decide)), env_nest hts, va_Nw.of rfl (hts _ (List.mem_append_right _ (List.mem_of_getElem? (i := 453) (by decide +kernel)))), o2, o6, o7, o9⟩
