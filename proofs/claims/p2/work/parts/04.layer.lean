/-! THE LAYER: one memory of all cells that the law's run has made, by their addresses; methods as steps on it -/
/-- kinds, lengths, ints, references, the next address -/
abbrev jM : Type := (Nat → Nat) × (Nat → Nat) × (Nat → Nat → Int32) × (Nat → Nat → Option Nat) × Nat
def jk (S : jM) : Nat → Nat := S.1
def jl (S : jM) : Nat → Nat := S.2.1
def ji (S : jM) : Nat → Nat → Int32 := S.2.2.1
def jr (S : jM) : Nat → Nat → Option Nat := S.2.2.2.1
def jn (S : jM) : Nat := S.2.2.2.2
/-- a row of ints anew -/
def jrow (S : jM) (a : Nat) (f : Nat → Int32) : jM := (S.1, S.2.1, va_up S.2.2.1 a f, S.2.2.2)
/-- an int is written -/
def jput (S : jM) (a j : Nat) (v : Int32) : jM := jrow S a (upd (ji S a) j v)
/-- a reference is written -/
def jputr (S : jM) (a j : Nat) (r : Option Nat) : jM := (S.1, S.2.1, S.2.2.1, va_up S.2.2.2.1 a (va_up (S.2.2.2.1 a) j r), S.2.2.2.2)
/-- a cell is made -/
def jnew (S : jM) (k n : Nat) : jM := (va_up S.1 S.2.2.2.2 k, va_up S.2.1 S.2.2.2.2 n, va_up S.2.2.1 S.2.2.2.2 (fun _ => 0), va_up S.2.2.2.1 S.2.2.2.2 (fun _ => none), S.2.2.2.2 + 1)
/-- how many fields a class has -/
def jtN (c : Nat) : Nat := match vwCl[c]? with
  | some q => q.2.2
  | none => 0
/-- whether a field holds a reference -/
def jtR (c j : Nat) : Bool := (([[true, false, false], [false, false, false, false, false, true, true], [false, false, false, false, false, false, false], [true, true, true, true, false, true, false], [true, true], [true, true, true, true, true, true, true, false, false, false, false, false], [false, false, true], [false, true, true, false], [true, false, false, false, false, false, false, false, true, false], [false, false, true, true], [true, true, false, true, true, true, true, true, true, false], [true, true, true, false, true, true, true, true, true, true, true, true, true, true, true, false, false, false, true, false, false, false, false, false, false, false, false, false, false, false, true, true, true, true, false, true]] : List (List Bool)).getD c []).getD j false
/-- launch, places of fields, array classes, the first address of ours, the heap below it, the table ABOVE, String constants and their rows -/
abbrev jEnv : Type := Launch × va_G × (Nat → ClassId) × Nat × Heap × Nat × (Nat → Nat) × (Nat → Nat)
def eL (E : jEnv) : Launch := E.1
def eD (E : jEnv) : va_G := E.2.1
def eC (E : jEnv) : Nat → ClassId := E.2.2.1
def eB (E : jEnv) : Nat := E.2.2.2.1
def eG (E : jEnv) : Heap := E.2.2.2.2.1
def eT (E : jEnv) : Nat := E.2.2.2.2.2.1
def eK (E : jEnv) : Nat → Nat := E.2.2.2.2.2.2.1
def eV (E : jEnv) : Nat → Nat := E.2.2.2.2.2.2.2
abbrev eA (E : jEnv) : Nat → Prop := fun q => eB E ≤ q
abbrev jtys (E : jEnv) : List (ClassId × FieldType) := [(eC E 12, .int), (eC E 13, .object RX2), (eC E 14, .object RX6), (eC E 15, .object RX7), (eC E 16, .object RX9)]
/-- a field's value -/
def jfv (S : jM) (a j : Nat) : Value := if jtR (jk S a) j then va_rf (jr S a j) else .int (ji S a j)
/-- what a cell is -/
def jE (cy : Nat → ClassId) (S : jM) (a : Nat) : va_E :=
  if jk S a < 12 then .inr (jk S a, (List.range (jtN (jk S a))).map (jfv S a))
  else if jk S a = 12 then .inl (cy 12, jl S a, .inl (ji S a))
  else .inl (cy (jk S a), jl S a, .inr (.inr (.inr (.inr (jr S a)))))
/-- the heap holds the memory -/
def jV (E : jEnv) (S : jM) (H : Heap) : Prop :=
  (∀ a, jk S a < 17 → va_at (eD E) vwCl (a, jE (eC E) S a) H) ∧ H.size = jn S ∧ (∀ a, jk S a < 17 → eB E ≤ a ∧ a < jn S) ∧ eB E ≤ jn S ∧ (∀ q, q < eB E → H[q]? = (eG E)[q]?) ∧ (eG E).size = eB E
/-- the constants: ABOVE, String's own statics, the String constants -/
def jG (E : jEnv) (U : State) : Prop :=
  va_Z "NineMasters" "ABOVE" "[I" (.ref (eT E)) (eA E) U (eG E) ∧ va_T .int (eT E) 6 (fun j => .int (([-1, 0, 0, 1, 2, 0] : List Int32).getD j 0)) (eA E) U (eG E) ∧
  va_Z "java/lang/String" "COMPACT_STRINGS" "Z" (.int 1) (eA E) U (eG E) ∧ va_Zq "jdk/internal/util/Preconditions" "SIOOBE_FORMATTER" "Ljava/util/function/BiFunction;" (eA E) U (eG E) ∧
  vk_S 6 [4, 4, 4, 3, 2, 2] [[116, 101, 114, 109], [102, 97, 109, 101], [102, 105, 110, 101], [107, 103, 97], [102, 97], [99, 100]] (eK E) (eV E) (eA E) U (eG E) ∧
  vk_R RX8 94 "term" (eK E 0) U ∧ vk_R RX8 96 "fame" (eK E 1) U ∧ vk_R RX8 98 "fine" (eK E 2) U ∧ vk_R RX8 100 "kga" (eK E 3) U ∧ vk_R RX8 102 "fa" (eK E 4) U ∧ vk_R RX8 104 "cd" (eK E 5) U ∧
  (∀ q ∈ jNest, va_Nw (.methodLinkNest q.1 q.2.1 q.2.2.1 q.2.2.2) U) ∧ va_Nw (.fieldLinkNest RX2 38 "NineMasters" "ABOVE" "[I" "NineMasters") U ∧ va_AO RX2 U ∧ va_AO RX6 U ∧ va_AO RX7 U ∧ va_AO RX9 U
theorem jG.warm {E : jEnv} {s U : State} (hW : s.WarmedH U.vm) (h : jG E s) : jG E U := by
  obtain ⟨h1, h2, h3, h4, h5, a, b, c, d, e, f, n1, n2, o1, o2, o3, o4⟩ := h
  exact ⟨va_Z.moved hW.alike h1, va_T.moved hW.alike h2, va_Z.moved hW.alike h3, va_Zq.moved hW.alike h4, vk_S.moved hW.alike h5, vk_R.warm hW a, vk_R.warm hW b, vk_R.warm hW c, vk_R.warm hW d, vk_R.warm hW e, vk_R.warm hW f, fun q hq => va_Nw.warmM hW (n1 q hq), va_Nw.warmF hW n2, va_AO.moved hW.alike o1, va_AO.moved hW.alike o2, va_AO.moved hW.alike o3, va_AO.moved hW.alike o4⟩
theorem jG.same {E : jEnv} {s U : State} (hv : U.vm = s.vm) (h : jG E s) : jG E U := by
  have ha : s.vm.Alike U.vm := by rw [hv]; exact Vm.Alike.refl _
  obtain ⟨h1, h2, h3, h4, h5, a, b, c, d, e, f, n1, n2, o1, o2, o3, o4⟩ := h
  exact ⟨va_Z.moved ha h1, va_T.moved ha h2, va_Z.moved ha h3, va_Zq.moved ha h4, vk_S.moved ha h5, vk_R.same hv a, vk_R.same hv b, vk_R.same hv c, vk_R.same hv d, vk_R.same hv e, vk_R.same hv f, fun q hq => va_Nw.same rfl hv.symm (n1 q hq), va_Nw.same rfl hv.symm n2, va_AO.moved ha o1, va_AO.moved ha o2, va_AO.moved ha o3, va_AO.moved ha o4⟩
/-- the tables' words that hold on wherever a method is called -/
def jT : List Cond := lw_tbl.filter goodWord
theorem jT_in {w : Cond} (h : w ∈ lw_tbl) (hg : goodWord w = true) : w ∈ jT := List.mem_filter.mpr ⟨h, hg⟩
theorem jT_good : ∀ w ∈ jT, (w.onTables && w.keeps) = true ∨ ∃ ty, w = .arrayClass ty := fun w h => good_of_word (List.mem_filter.mp h).2
/-- a method's room at depth d -/
abbrev jRm (d mc ms : Nat) : Room := { frames := d, cells := mc, slots := ms, locals := 64 * d }
/-- what holds at a method's entry -/
def jPre (E : jEnv) (args : List Value) (S : jM) : Array Value → State → Prop := va_Pc args (fun U => jV E S U.heap ∧ va_K (eD E) vwCl (jtys E) U ∧ jG E U)
/-- what holds at its end -/
def jQ (E : jEnv) (Q : Option Value → jM → Prop) : Array Value → State → Outcome → State → Prop := fun _ st o t => (∃ (r : Option Value) (S' : jM), o = .returned r ∧ Q r S' ∧ jV E S' t.heap) ∧ st.heap.size ≤ t.heap.size
/-- A METHOD, called with args where the memory is S, comes to an end with Q; d: how deep its calls go; it makes mc cells of ms slots at most -/
def jF (E : jEnv) (M : jMd) (d mc ms : Nat) (args : List Value) (S : jM) (Q : Option Value → jM → Prop) : Prop :=
  Met (eL E) M.1 (Cond.code M.1 M.2.1 M.2.2.1 M.2.2.2 :: jT) (jRm d mc ms) (jPre E args S) (jQ E Q) mc ms (eA E)
abbrev jFi (E : jEnv) (M : jMd) (d mc ms : Nat) (args : List Value) (S : jM) (Q : Int32 → jM → Prop) : Prop := jF E M d mc ms args S (fun r S' => ∃ v : Int32, r = some (.int v) ∧ Q v S')
abbrev jFv (E : jEnv) (M : jMd) (d mc ms : Nat) (args : List Value) (S : jM) (Q : jM → Prop) : Prop := jF E M d mc ms args S (fun r S' => r = none ∧ Q S')
abbrev jFr (E : jEnv) (M : jMd) (d mc ms : Nat) (args : List Value) (S : jM) (Q : Option Nat → jM → Prop) : Prop := jF E M d mc ms args S (fun r S' => ∃ o : Option Nat, r = some (va_rf o) ∧ Q o S')
/-- what is fixed within a method's body -/
def jB (E : jEnv) (M : jMd) (p : Program) (s : State) (m : MethodId) (args : Array Value) (meth : Method) (c : Code) : Prop :=
  p.tables.exec = Jvm.exec ∧ c.code = M.2.1 ∧ meth.sig.returnType = M.2.2.2 ∧ c.maxLocals = M.2.2.1 ∧ s.vm.findClass M.1.cls = some m.cls ∧ (∀ w ∈ jT, w.before args s = true) ∧ meth.locks = false ∧ va_K (eD E) vwCl (jtys E) s ∧ meth.name = M.1.name ∧ jG E s ∧ (∀ q, q < eB E → s.heap[q]? = (eG E)[q]?) ∧ (eG E).size = eB E ∧ eB E ≤ s.heap.size
abbrev jZ : Type := List Frame → Array Value → State → State → Prop
/-- THE BODY at a program counter, with locals, operands and memory, comes to Z -/
def jX (E : jEnv) (M : jMd) (R : Room) (Z : jZ) (pc : Nat) (lv : List (Nat × Value)) (st : List Value) (S : jM) (c k : Nat) : Prop :=
  ∀ (p : Program) (e : Env) (s : State) (m : MethodId) (args : Array Value) (below : List Frame) (meth : Method) (c0 : Code), jB E M p s m args meth c0 →
  ∀ (H : Heap) (locs : List Loc) (ls : Array Slot), jV E S H → va_S (eA E) s.heap H locs → lv_has ls M.2.2.1 lv → W p (eL E) e R s m args below meth c0 H locs c k (Z below args s) (F0 m pc ls st)
/-- the ends of a method -/
abbrev jZm (E : jEnv) (Q : Option Value → jM → Prop) (mc ms : Nat) : jZ := fun below args s => MQ below (jQ E Q) args s mc ms (eA E)
theorem jPre.blind {E : jEnv} {args : List Value} {S : jM} : FrameBlind (jPre E args S) := by
  intro a U g mk h
  obtain ⟨h1, h2, h3, h4⟩ := h
  exact ⟨h1, h2, va_K.moved (u := U) (U := U.calling g mk a) (Vm.Alike.refl U.vm) h3, jG.same (s := U) (U := U.calling g mk a) rfl h4⟩
theorem jF_of {E : jEnv} {M : jMd} {d mc ms : Nat} {args : List Value} {S : jM} {Q : Option Value → jM → Prop} (hy : plainName M.1.cls = true) (hn : (lg_sl args).length ≤ M.2.2.1)
    (h : jX E M (jRm d mc ms) (jZm E Q mc ms) 0 (lv_args 0 args) [] S 0 0) : jF E M d mc ms args S Q := by
  refine Met.ofW (cc := M.2.1) (maxL := M.2.2.1) (ret := M.2.2.2) hy rfl ?_
  intro p e s m a below meth c s₁ B hml hv
  obtain ⟨rfl, hV, hK, hG⟩ := hv
  have hts := atoms_spec (ws := Cond.code M.1 M.2.1 M.2.2.1 M.2.2.2 :: jT) B.pre
  have hl := lv_entry args (n := M.2.2.1) hn
  rw [lg_entry_eq]
  exact h p e s m _ below meth c ⟨B.exec, B.bytes, B.returns, hml, findClass_of_methodNamed B.named, fun w hw => hts w (List.mem_cons_of_mem _ hw), B.notSynchronized, hK, (name_of_methodNamed B.named B.method).1, hG, hV.2.2.2.2.1, hV.2.2.2.2.2, by rw [hV.2.1]; exact hV.2.2.2.1⟩ s.heap [] _ hV va_S.rf hl
/-- weaker ends -/
theorem jF.mono {E : jEnv} {M : jMd} {d mc ms : Nat} {args : List Value} {S : jM} {Q Q' : Option Value → jM → Prop} (h : jF E M d mc ms args S Q) (hq : ∀ r S', Q r S' → Q' r S') : jF E M d mc ms args S Q' := by
  intro p e ha hc hk s m a below hf happ hP hK
  obtain ⟨k, o, h1, h2, h3, ⟨⟨r, S', e1, e2, e3⟩, e4⟩, e5⟩ := h p e ha hc hk s m a below hf happ hP hK
  exact ⟨k, o, h1, h2, h3, ⟨⟨r, S', e1, hq _ _ e2, e3⟩, e4⟩, e5⟩
