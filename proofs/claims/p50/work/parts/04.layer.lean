section
/-! THE LAYER: one memory of all cells that the law's run has made, by their addresses; methods as steps on it -/
/-- kinds, lengths, ints, references, the next address -/
abbrev jM : Type := (Nat → Nat) × (Nat → Nat) × (Nat → Nat → Int32) × (Nat → Nat → Option Nat) × Nat
def jk (S : jM) : Nat → Nat := S.1
def jl (S : jM) : Nat → Nat := S.2.1
def ji (S : jM) : Nat → Nat → Int32 := S.2.2.1
def jr (S : jM) : Nat → Nat → Option Nat := S.2.2.2.1
def jn (S : jM) : Nat := S.2.2.2.2
/-- a row of ints anew -/
def jrow (S : jM) (a : Nat) (f : Nat → Int32) : jM := (S.1, S.2.1, va_up S.2.2.1 a f, S.2.2.2)
/-- an int is written -/
def jput (S : jM) (a j : Nat) (v : Int32) : jM := jrow S a (upd (ji S a) j v)
/-- a reference is written -/
def jputr (S : jM) (a j : Nat) (r : Option Nat) : jM := (S.1, S.2.1, S.2.2.1, va_up S.2.2.2.1 a (va_up (S.2.2.2.1 a) j r), S.2.2.2.2)
/-- a cell is made -/
def jnew (S : jM) (k n : Nat) : jM := (va_up S.1 S.2.2.2.2 k, va_up S.2.1 S.2.2.2.2 n, va_up S.2.2.1 S.2.2.2.2 (fun _ => 0), va_up S.2.2.2.1 S.2.2.2.2 (fun _ => none), S.2.2.2.2 + 1)
/-- how many fields a class has -/
def jtN (c : Nat) : Nat := match vwCl[c]? with
  | some q => q.2.2
  | none => 0
/-- whether a field holds a reference -/
def jtR (c j : Nat) : Bool := (([[true, false, false], [false, false, false, false, false, true, true], [false, false, false, false, false, false, false], [true, true, true, true, false, true, false], [true, true], [true, true, true, true, true, true, true, false, false, false, false, false], [false, false, true], [false, true, true, false], [true, false, false, false, false, false, false, false, true, false], [false, false, true, true], [true, true, false, true, true, true, true, true, true, false], [true, true, true, false, true, true, true, true, true, true, true, true, true, true, true, false, false, false, true, false, false, false, false, false, false, false, false, false, false, false, true, true, true, true, false, true]] : List (List Bool)).getD c []).getD j false
/-- launch, places of fields, array classes, the first address of ours, the heap below it, the table ABOVE, String constants and their rows -/
abbrev jEnv : Type := Launch × va_G × (Nat → ClassId) × Nat × Heap × Nat × (Nat → Nat) × (Nat → Nat)
def eL (E : jEnv) : Launch := E.1
def eD (E : jEnv) : va_G := E.2.1
def eC (E : jEnv) : Nat → ClassId := E.2.2.1
def eB (E : jEnv) : Nat := E.2.2.2.1
def eG (E : jEnv) : Heap := E.2.2.2.2.1
def eT (E : jEnv) : Nat := E.2.2.2.2.2.1
def eK (E : jEnv) : Nat → Nat := E.2.2.2.2.2.2.1
def eV (E : jEnv) : Nat → Nat := E.2.2.2.2.2.2.2
abbrev eA (E : jEnv) : Nat → Prop := fun q => eB E ≤ q
abbrev jtys (E : jEnv) : List (ClassId × FieldType) := [(eC E 12, .int), (eC E 13, .object RX2), (eC E 14, .object RX6), (eC E 15, .object RX7), (eC E 16, .object RX9)]
/-- a field's value -/
def jfv (S : jM) (a j : Nat) : Value := if jtR (jk S a) j then va_rf (jr S a j) else .int (ji S a j)
/-- what a cell is -/
def jE (cy : Nat → ClassId) (S : jM) (a : Nat) : va_E :=
  if jk S a < 12 then .inr (jk S a, (List.range (jtN (jk S a))).map (jfv S a))
  else if jk S a = 12 then .inl (cy 12, jl S a, .inl (ji S a))
  else .inl (cy (jk S a), jl S a, .inr (.inr (.inr (.inr (jr S a)))))
/-- the heap holds the memory -/
def jV (E : jEnv) (S : jM) (H : Heap) : Prop :=
  (∀ a, jk S a < 17 → va_at (eD E) vwCl (a, jE (eC E) S a) H) ∧ H.size = jn S ∧ (∀ a, jk S a < 17 → eB E ≤ a ∧ a < jn S) ∧ eB E ≤ jn S ∧ (∀ q, q < eB E → H[q]? = (eG E)[q]?) ∧ (eG E).size = eB E
/-- the constants: ABOVE, String's own statics, the String constants -/
def jG (E : jEnv) (U : State) : Prop :=
  va_Z "NineMasters" "ABOVE" "[I" (.ref (eT E)) (eA E) U (eG E) ∧ va_T .int (eT E) 6 (fun j => .int (([-1, 0, 0, 1, 2, 0] : List Int32).getD j 0)) (eA E) U (eG E) ∧
  va_Z "java/lang/String" "COMPACT_STRINGS" "Z" (.int 1) (eA E) U (eG E) ∧ va_Zq "jdk/internal/util/Preconditions" "SIOOBE_FORMATTER" "Ljava/util/function/BiFunction;" (eA E) U (eG E) ∧
  vk_S 6 [4, 4, 4, 3, 2, 2] [[116, 101, 114, 109], [102, 97, 109, 101], [102, 105, 110, 101], [107, 103, 97], [102, 97], [99, 100]] (eK E) (eV E) (eA E) U (eG E) ∧
  vk_R RX8 94 "term" (eK E 0) U ∧ vk_R RX8 96 "fame" (eK E 1) U ∧ vk_R RX8 98 "fine" (eK E 2) U ∧ vk_R RX8 100 "kga" (eK E 3) U ∧ vk_R RX8 102 "fa" (eK E 4) U ∧ vk_R RX8 104 "cd" (eK E 5) U ∧
  (∀ q ∈ jNest, va_Nw (.methodLinkNest q.1 q.2.1 q.2.2.1 q.2.2.2) U) ∧ va_Nw (.fieldLinkNest RX2 38 "NineMasters" "ABOVE" "[I" "NineMasters") U ∧ va_AO RX2 U ∧ va_AO RX6 U ∧ va_AO RX7 U ∧ va_AO RX9 U
theorem jG.warm {E : jEnv} {s U : State} (hW : s.WarmedH U.vm) (h : jG E s) : jG E U := by
  obtain ⟨h1, h2, h3, h4, h5, a, b, c, d, e, f, n1, n2, o1, o2, o3, o4⟩ := h
  exact ⟨va_Z.moved hW.alike h1, va_T.moved hW.alike h2, va_Z.moved hW.alike h3, va_Zq.moved hW.alike h4, vk_S.moved hW.alike h5, vk_R.warm hW a, vk_R.warm hW b, vk_R.warm hW c, vk_R.warm hW d, vk_R.warm hW e, vk_R.warm hW f, fun q hq => va_Nw.warmM hW (n1 q hq), va_Nw.warmF hW n2, va_AO.moved hW.alike o1, va_AO.moved hW.alike o2, va_AO.moved hW.alike o3, va_AO.moved hW.alike o4⟩
theorem jG.same {E : jEnv} {s U : State} (hv : U.vm = s.vm) (h : jG E s) : jG E U := by
  have ha : s.vm.Alike U.vm := by rw [hv]; exact Vm.Alike.refl _
  obtain ⟨h1, h2, h3, h4, h5, a, b, c, d, e, f, n1, n2, o1, o2, o3, o4⟩ := h
  exact ⟨va_Z.moved ha h1, va_T.moved ha h2, va_Z.moved ha h3, va_Zq.moved ha h4, vk_S.moved ha h5, vk_R.same hv a, vk_R.same hv b, vk_R.same hv c, vk_R.same hv d, vk_R.same hv e, vk_R.same hv f, fun q hq => va_Nw.same rfl hv.symm (n1 q hq), va_Nw.same rfl hv.symm n2, va_AO.moved ha o1, va_AO.moved ha o2, va_AO.moved ha o3, va_AO.moved ha o4⟩
/-- the tables' words that hold on wherever a method is called -/
def jT : List Cond := lw_tbl.filter goodWord
theorem jT_in {w : Cond} (h : w ∈ lw_tbl) (hg : goodWord w = true) : w ∈ jT := List.mem_filter.mpr ⟨h, hg⟩
theorem jT_good : ∀ w ∈ jT, (w.onTables && w.keeps) = true ∨ ∃ ty, w = .arrayClass ty := fun w h => good_of_word (List.mem_filter.mp h).2
/-- a method's room at depth d -/
abbrev jRm (d mc ms : Nat) : Room := { frames := d, cells := mc, slots := ms, locals := 64 * d }
/-- what holds at a method's entry -/
def jPre (E : jEnv) (args : List Value) (S : jM) : Array Value → State → Prop := va_Pc args (fun U => jV E S U.heap ∧ va_K (eD E) vwCl (jtys E) U ∧ jG E U)
/-- what holds at its end -/
def jQ (E : jEnv) (Q : Option Value → jM → Prop) : Array Value → State → Outcome → State → Prop := fun _ st o t => (∃ (r : Option Value) (S' : jM), o = .returned r ∧ Q r S' ∧ jV E S' t.heap) ∧ st.heap.size ≤ t.heap.size
/-- A METHOD, called with args where the memory is S, comes to an end with Q; d: how deep its calls go; it makes mc cells of ms slots at most -/
def jF (E : jEnv) (M : jMd) (d mc ms : Nat) (args : List Value) (S : jM) (Q : Option Value → jM → Prop) : Prop :=
  Met (eL E) M.1 (Cond.code M.1 M.2.1 M.2.2.1 M.2.2.2 :: jT) (jRm d mc ms) (jPre E args S) (jQ E Q) mc ms (eA E)
abbrev jFi (E : jEnv) (M : jMd) (d mc ms : Nat) (args : List Value) (S : jM) (Q : Int32 → jM → Prop) : Prop := jF E M d mc ms args S (fun r S' => ∃ v : Int32, r = some (.int v) ∧ Q v S')
abbrev jFv (E : jEnv) (M : jMd) (d mc ms : Nat) (args : List Value) (S : jM) (Q : jM → Prop) : Prop := jF E M d mc ms args S (fun r S' => r = none ∧ Q S')
abbrev jFr (E : jEnv) (M : jMd) (d mc ms : Nat) (args : List Value) (S : jM) (Q : Option Nat → jM → Prop) : Prop := jF E M d mc ms args S (fun r S' => ∃ o : Option Nat, r = some (va_rf o) ∧ Q o S')
/-- what is fixed within a method's body -/
def jB (E : jEnv) (M : jMd) (p : Program) (s : State) (m : MethodId) (args : Array Value) (meth : Method) (c : Code) : Prop :=
  p.tables.exec = Jvm.exec ∧ c.code = M.2.1 ∧ meth.sig.returnType = M.2.2.2 ∧ c.maxLocals = M.2.2.1 ∧ s.vm.findClass M.1.cls = some m.cls ∧ (∀ w ∈ jT, w.before args s = true) ∧ meth.locks = false ∧ va_K (eD E) vwCl (jtys E) s ∧ meth.name = M.1.name ∧ jG E s ∧ (∀ q, q < eB E → s.heap[q]? = (eG E)[q]?) ∧ (eG E).size = eB E ∧ eB E ≤ s.heap.size
abbrev jZ : Type := List Frame → Array Value → State → State → Prop
/-- THE BODY at a program counter, with locals, operands and memory, comes to Z -/
def jX (E : jEnv) (M : jMd) (R : Room) (Z : jZ) (pc : Nat) (lv : List (Nat × Value)) (st : List Value) (S : jM) (c k : Nat) : Prop :=
  ∀ (p : Program) (e : Env) (s : State) (m : MethodId) (args : Array Value) (below : List Frame) (meth : Method) (c0 : Code), jB E M p s m args meth c0 →
  ∀ (H : Heap) (locs : List Loc) (ls : Array Slot), jV E S H → va_S (eA E) s.heap H locs → lv_has ls M.2.2.1 lv → W p (eL E) e R s m args below meth c0 H locs c k (Z below args s) (F0 m pc ls st)
/-- the ends of a method -/
abbrev jZm (E : jEnv) (Q : Option Value → jM → Prop) (mc ms : Nat) : jZ := fun below args s => MQ below (jQ E Q) args s mc ms (eA E)
theorem jPre.blind {E : jEnv} {args : List Value} {S : jM} : FrameBlind (jPre E args S) := by
  intro a U g mk h
  obtain ⟨h1, h2, h3, h4⟩ := h
  exact ⟨h1, h2, va_K.moved (u := U) (U := U.calling g mk a) (Vm.Alike.refl U.vm) h3, jG.same (s := U) (U := U.calling g mk a) rfl h4⟩
theorem jF_of {E : jEnv} {M : jMd} {d mc ms : Nat} {args : List Value} {S : jM} {Q : Option Value → jM → Prop} (hy : plainName M.1.cls = true) (hn : (lg_sl args).length ≤ M.2.2.1)
    (h : jX E M (jRm d mc ms) (jZm E Q mc ms) 0 (lv_args 0 args) [] S 0 0) : jF E M d mc ms args S Q := by
  refine Met.ofW (cc := M.2.1) (maxL := M.2.2.1) (ret := M.2.2.2) hy rfl ?_
  intro p e s m a below meth c s₁ B hml hv
  obtain ⟨rfl, hV, hK, hG⟩ := hv
  have hts := atoms_spec (ws := Cond.code M.1 M.2.1 M.2.2.1 M.2.2.2 :: jT) B.pre
  have hl := lv_entry args (n := M.2.2.1) hn
  rw [lg_entry_eq]
  exact h p e s m _ below meth c ⟨B.exec, B.bytes, B.returns, hml, findClass_of_methodNamed B.named, fun w hw => hts w (List.mem_cons_of_mem _ hw), B.notSynchronized, hK, (name_of_methodNamed B.named B.method).1, hG, hV.2.2.2.2.1, hV.2.2.2.2.2, by rw [hV.2.1]; exact hV.2.2.2.1⟩ s.heap [] _ hV va_S.rf hl
/-- weaker ends -/
theorem jF.mono {E : jEnv} {M : jMd} {d mc ms : Nat} {args : List Value} {S : jM} {Q Q' : Option Value → jM → Prop} (h : jF E M d mc ms args S Q) (hq : ∀ r S', Q r S' → Q' r S') : jF E M d mc ms args S Q' := by
  intro p e ha hc hk s m a below hf happ hP hK
  obtain ⟨k, o, h1, h2, h3, ⟨⟨r, S', e1, e2, e3⟩, e4⟩, e5⟩ := h p e ha hc hk s m a below hf happ hP hK
  exact ⟨k, o, h1, h2, h3, ⟨⟨r, S', e1, hq _ _ e2, e3⟩, e4⟩, e5⟩
end
section
/-! the simple instructions (program: wip/gen/rules.py) -/
section jRules
variable {E : jEnv} {M : jMd} {R : Room} {Z : jZ} {pc : Nat} {lv lv1 : List (Nat × Value)} {st : List Value} {S : jM} {c k : Nat}
theorem jx_iadd {x y : Int32} (hd : decode M.2.1 pc = .ok (.iadd, 1)) (h : jX E M R Z (pc + 1) lv (.int (x + y) :: st) S c k) : jX E M R Z pc lv (.int y :: .int x :: st) S c k := fun p e s m args below meth c0 hB H locs ls hV hS hl => lv_iadd hB.1 hB.2.1 hd (h p e s m args below meth c0 hB H locs ls hV hS hl)
theorem jx_isub {x y : Int32} (hd : decode M.2.1 pc = .ok (.isub, 1)) (h : jX E M R Z (pc + 1) lv (.int (x - y) :: st) S c k) : jX E M R Z pc lv (.int y :: .int x :: st) S c k := fun p e s m args below meth c0 hB H locs ls hV hS hl => lv_isub hB.1 hB.2.1 hd (h p e s m args below meth c0 hB H locs ls hV hS hl)
theorem jx_imul {x y : Int32} (hd : decode M.2.1 pc = .ok (.imul, 1)) (h : jX E M R Z (pc + 1) lv (.int (x * y) :: st) S c k) : jX E M R Z pc lv (.int y :: .int x :: st) S c k := fun p e s m args below meth c0 hB H locs ls hV hS hl => lv_imul hB.1 hB.2.1 hd (h p e s m args below meth c0 hB H locs ls hV hS hl)
theorem jx_iand {x y : Int32} (hd : decode M.2.1 pc = .ok (.iand, 1)) (h : jX E M R Z (pc + 1) lv (.int (x &&& y) :: st) S c k) : jX E M R Z pc lv (.int y :: .int x :: st) S c k := fun p e s m args below meth c0 hB H locs ls hV hS hl => lv_iand hB.1 hB.2.1 hd (h p e s m args below meth c0 hB H locs ls hV hS hl)
theorem jx_ior {x y : Int32} (hd : decode M.2.1 pc = .ok (.ior, 1)) (h : jX E M R Z (pc + 1) lv (.int (x ||| y) :: st) S c k) : jX E M R Z pc lv (.int y :: .int x :: st) S c k := fun p e s m args below meth c0 hB H locs ls hV hS hl => lv_ior hB.1 hB.2.1 hd (h p e s m args below meth c0 hB H locs ls hV hS hl)
theorem jx_ixor {x y : Int32} (hd : decode M.2.1 pc = .ok (.ixor, 1)) (h : jX E M R Z (pc + 1) lv (.int (x ^^^ y) :: st) S c k) : jX E M R Z pc lv (.int y :: .int x :: st) S c k := fun p e s m args below meth c0 hB H locs ls hV hS hl => lv_ixor hB.1 hB.2.1 hd (h p e s m args below meth c0 hB H locs ls hV hS hl)
theorem jx_ishl {x y : Int32} (hd : decode M.2.1 pc = .ok (.ishl, 1)) (h : jX E M R Z (pc + 1) lv (.int (x <<< (y &&& 31)) :: st) S c k) : jX E M R Z pc lv (.int y :: .int x :: st) S c k := fun p e s m args below meth c0 hB H locs ls hV hS hl => lv_ishl hB.1 hB.2.1 hd (h p e s m args below meth c0 hB H locs ls hV hS hl)
theorem jx_ishr {x y : Int32} (hd : decode M.2.1 pc = .ok (.ishr, 1)) (h : jX E M R Z (pc + 1) lv (.int (x >>> (y &&& 31)) :: st) S c k) : jX E M R Z pc lv (.int y :: .int x :: st) S c k := fun p e s m args below meth c0 hB H locs ls hV hS hl => lv_ishr hB.1 hB.2.1 hd (h p e s m args below meth c0 hB H locs ls hV hS hl)
theorem jx_idiv {x y : Int32} (hd : decode M.2.1 pc = .ok (.idiv, 1)) (hne : ¬ y = 0) (h : jX E M R Z (pc + 1) lv (.int (x / y) :: st) S c k) : jX E M R Z pc lv (.int y :: .int x :: st) S c k := fun p e s m args below meth c0 hB H locs ls hV hS hl => lv_idiv hB.1 hB.2.1 hd hne (h p e s m args below meth c0 hB H locs ls hV hS hl)
theorem jx_irem {x y : Int32} (hd : decode M.2.1 pc = .ok (.irem, 1)) (hne : ¬ y = 0) (h : jX E M R Z (pc + 1) lv (.int (x - x / y * y) :: st) S c k) : jX E M R Z pc lv (.int y :: .int x :: st) S c k := fun p e s m args below meth c0 hB H locs ls hV hS hl => lv_irem hB.1 hB.2.1 hd hne (h p e s m args below meth c0 hB H locs ls hV hS hl)
theorem jx_ineg {x : Int32} (hd : decode M.2.1 pc = .ok (.ineg, 1)) (h : jX E M R Z (pc + 1) lv (.int (-x) :: st) S c k) : jX E M R Z pc lv (.int x :: st) S c k := fun p e s m args below meth c0 hB H locs ls hV hS hl => lv_ineg hB.1 hB.2.1 hd (h p e s m args below meth c0 hB H locs ls hV hS hl)
theorem jx_iushr {x y : Int32} (hd : decode M.2.1 pc = .ok (.iushr, 1)) (h : jX E M R Z (pc + 1) lv (.int ((x.toUInt32 >>> (y.toUInt32 &&& Int32.toUInt32 31)).toInt32) :: st) S c k) : jX E M R Z pc lv (.int y :: .int x :: st) S c k := fun p e s m args below meth c0 hB H locs ls hV hS hl => lv_iushr hB.1 hB.2.1 hd rfl (h p e s m args below meth c0 hB H locs ls hV hS hl)
theorem jx_ladd {x y : Int64} (hd : decode M.2.1 pc = .ok (.ladd, 1)) (h : jX E M R Z (pc + 1) lv (.long (x + y) :: st) S c k) : jX E M R Z pc lv (.long y :: .long x :: st) S c k := fun p e s m args below meth c0 hB H locs ls hV hS hl => lv_ladd hB.1 hB.2.1 hd (h p e s m args below meth c0 hB H locs ls hV hS hl)
theorem jx_lcmp {x y : Int64} (hd : decode M.2.1 pc = .ok (.lcmp, 1)) (h : jX E M R Z (pc + 1) lv (.int (lg_cmp x y) :: st) S c k) : jX E M R Z pc lv (.long y :: .long x :: st) S c k := fun p e s m args below meth c0 hB H locs ls hV hS hl => W.lcmp hB.1 hB.2.1 hd (h p e s m args below meth c0 hB H locs ls hV hS hl)
theorem jx_i2l {x : Int32} (hd : decode M.2.1 pc = .ok (.i2l, 1)) (h : jX E M R Z (pc + 1) lv (.long x.toInt64 :: st) S c k) : jX E M R Z pc lv (.int x :: st) S c k := fun p e s m args below meth c0 hB H locs ls hV hS hl => lv_i2l hB.1 hB.2.1 hd rfl (h p e s m args below meth c0 hB H locs ls hV hS hl)
theorem jx_i2s {x : Int32} (hd : decode M.2.1 pc = .ok (.i2s, 1)) (h : jX E M R Z (pc + 1) lv (.int x.toInt16.toInt32 :: st) S c k) : jX E M R Z pc lv (.int x :: st) S c k := fun p e s m args below meth c0 hB H locs ls hV hS hl => lv_i2s hB.1 hB.2.1 hd rfl (h p e s m args below meth c0 hB H locs ls hV hS hl)
theorem jx_i2c {x : Int32} (hd : decode M.2.1 pc = .ok (.i2c, 1)) (h : jX E M R Z (pc + 1) lv (.int (x.toUInt32 % 65536).toInt32 :: st) S c k) : jX E M R Z pc lv (.int x :: st) S c k := fun p e s m args below meth c0 hB H locs ls hV hS hl => lv_i2c hB.1 hB.2.1 hd rfl (h p e s m args below meth c0 hB H locs ls hV hS hl)
theorem jx_dup {x : Value} (hd : decode M.2.1 pc = .ok (.dup, 1)) (hx : x.category = 1) (h : jX E M R Z (pc + 1) lv (x :: x :: st) S c k) : jX E M R Z pc lv (x :: st) S c k := fun p e s m args below meth c0 hB H locs ls hV hS hl => lv_dup hB.1 hB.2.1 hd hx (h p e s m args below meth c0 hB H locs ls hV hS hl)
theorem jx_pop {x : Value} (hd : decode M.2.1 pc = .ok (.pop, 1)) (hx : x.category = 1) (h : jX E M R Z (pc + 1) lv (st) S c k) : jX E M R Z pc lv (x :: st) S c k := fun p e s m args below meth c0 hB H locs ls hV hS hl => lv_pop hB.1 hB.2.1 hd hx (h p e s m args below meth c0 hB H locs ls hV hS hl)
theorem jx_dup2 {x y : Value} (hd : decode M.2.1 pc = .ok (.dup2, 1)) (hx : x.category = 1) (hy : y.category = 1) (h : jX E M R Z (pc + 1) lv (x :: y :: x :: y :: st) S c k) : jX E M R Z pc lv (x :: y :: st) S c k := fun p e s m args below meth c0 hB H locs ls hV hS hl => lv_dup2_11 hB.1 hB.2.1 hd hx hy (h p e s m args below meth c0 hB H locs ls hV hS hl)
theorem jx_iconst {n : Int} {v : Int32} (hd : decode M.2.1 pc = .ok (.iconst n, 1)) (hv : Int32.ofInt n = v) (h : jX E M R Z (pc + 1) lv (.int v :: st) S c k) : jX E M R Z pc lv (st) S c k := fun p e s m args below meth c0 hB H locs ls hV hS hl => lv_iconst hB.1 hB.2.1 hd hv (h p e s m args below meth c0 hB H locs ls hV hS hl)
theorem jx_bipush {n : Int} {v : Int32} (hd : decode M.2.1 pc = .ok (.bipush n, 2)) (hv : (Int8.ofInt n).toInt32 = v) (h : jX E M R Z (pc + 2) lv (.int v :: st) S c k) : jX E M R Z pc lv (st) S c k := fun p e s m args below meth c0 hB H locs ls hV hS hl => lv_bipush hB.1 hB.2.1 hd hv (h p e s m args below meth c0 hB H locs ls hV hS hl)
theorem jx_sipush {n : Int} {v : Int32} (hd : decode M.2.1 pc = .ok (.sipush n, 3)) (hv : (Int16.ofInt n).toInt32 = v) (h : jX E M R Z (pc + 3) lv (.int v :: st) S c k) : jX E M R Z pc lv (st) S c k := fun p e s m args below meth c0 hB H locs ls hV hS hl => lv_sipush hB.1 hB.2.1 hd hv (h p e s m args below meth c0 hB H locs ls hV hS hl)
theorem jx_lconst {n : Fin 2} {v : Int64} (hd : decode M.2.1 pc = .ok (.lconst n, 1)) (hv : Int64.ofNat (n : Nat) = v) (h : jX E M R Z (pc + 1) lv (.long v :: st) S c k) : jX E M R Z pc lv (st) S c k := fun p e s m args below meth c0 hB H locs ls hV hS hl => lv_lconst hB.1 hB.2.1 hd hv (h p e s m args below meth c0 hB H locs ls hV hS hl)
theorem jx_null (hd : decode M.2.1 pc = .ok (.aconst_null, 1)) (h : jX E M R Z (pc + 1) lv (.null :: st) S c k) : jX E M R Z pc lv (st) S c k := fun p e s m args below meth c0 hB H locs ls hV hS hl => lv_null hB.1 hB.2.1 hd (h p e s m args below meth c0 hB H locs ls hV hS hl)
theorem jx_iload_n (q : Nat) {kf : Fin 4} {i : Nat} {x : Int32} (hd : decode M.2.1 pc = .ok (.iload_n kf, 1)) (hi : (kf : Nat) = i) (hq : lv[q]? = some (i, .int x)) (h : jX E M R Z (pc + 1) lv (.int x :: st) S c k) : jX E M R Z pc lv (st) S c k := fun p e s m args below meth c0 hB H locs ls hV hS hl => lv_iload_n hB.1 hB.2.1 hd hi (lv_at hl q hq) (h p e s m args below meth c0 hB H locs ls hV hS hl)
theorem jx_iload (q : Nat) {i : Nat} {x : Int32} (hd : decode M.2.1 pc = .ok (.iload i, 2)) (hq : lv[q]? = some (i, .int x)) (h : jX E M R Z (pc + 2) lv (.int x :: st) S c k) : jX E M R Z pc lv (st) S c k := fun p e s m args below meth c0 hB H locs ls hV hS hl => lv_iload hB.1 hB.2.1 hd (lv_at hl q hq) (h p e s m args below meth c0 hB H locs ls hV hS hl)
theorem jx_lload_n (q : Nat) {kf : Fin 4} {i : Nat} {x : Int64} (hd : decode M.2.1 pc = .ok (.lload_n kf, 1)) (hi : (kf : Nat) = i) (hq : lv[q]? = some (i, .long x)) (h : jX E M R Z (pc + 1) lv (.long x :: st) S c k) : jX E M R Z pc lv (st) S c k := fun p e s m args below meth c0 hB H locs ls hV hS hl => lv_lload_n hB.1 hB.2.1 hd hi (lv_at hl q hq) (h p e s m args below meth c0 hB H locs ls hV hS hl)
theorem jx_lload (q : Nat) {i : Nat} {x : Int64} (hd : decode M.2.1 pc = .ok (.lload i, 2)) (hq : lv[q]? = some (i, .long x)) (h : jX E M R Z (pc + 2) lv (.long x :: st) S c k) : jX E M R Z pc lv (st) S c k := fun p e s m args below meth c0 hB H locs ls hV hS hl => lv_lload hB.1 hB.2.1 hd (lv_at hl q hq) (h p e s m args below meth c0 hB H locs ls hV hS hl)
theorem jx_aload_n (q : Nat) {kf : Fin 4} {i : Nat} {x : Nat} (hd : decode M.2.1 pc = .ok (.aload_n kf, 1)) (hi : (kf : Nat) = i) (hq : lv[q]? = some (i, .ref x)) (h : jX E M R Z (pc + 1) lv (.ref x :: st) S c k) : jX E M R Z pc lv (st) S c k := fun p e s m args below meth c0 hB H locs ls hV hS hl => lv_aload_n hB.1 hB.2.1 hd hi (lv_at hl q hq) (h p e s m args below meth c0 hB H locs ls hV hS hl)
theorem jx_aload (q : Nat) {i : Nat} {x : Nat} (hd : decode M.2.1 pc = .ok (.aload i, 2)) (hq : lv[q]? = some (i, .ref x)) (h : jX E M R Z (pc + 2) lv (.ref x :: st) S c k) : jX E M R Z pc lv (st) S c k := fun p e s m args below meth c0 hB H locs ls hV hS hl => lv_aload hB.1 hB.2.1 hd (lv_at hl q hq) (h p e s m args below meth c0 hB H locs ls hV hS hl)
theorem jx_aload_nN (q : Nat) {kf : Fin 4} {i : Nat} (hd : decode M.2.1 pc = .ok (.aload_n kf, 1)) (hi : (kf : Nat) = i) (hq : lv[q]? = some (i, Value.null)) (h : jX E M R Z (pc + 1) lv (.null :: st) S c k) : jX E M R Z pc lv (st) S c k := fun p e s m args below meth c0 hB H locs ls hV hS hl => lv_aload_nN hB.1 hB.2.1 hd hi (lv_at hl q hq) (h p e s m args below meth c0 hB H locs ls hV hS hl)
theorem jx_aloadN (q : Nat) {i : Nat} (hd : decode M.2.1 pc = .ok (.aload i, 2)) (hq : lv[q]? = some (i, Value.null)) (h : jX E M R Z (pc + 2) lv (.null :: st) S c k) : jX E M R Z pc lv (st) S c k := fun p e s m args below meth c0 hB H locs ls hV hS hl => lv_aloadN hB.1 hB.2.1 hd (lv_at hl q hq) (h p e s m args below meth c0 hB H locs ls hV hS hl)
theorem jx_istore_n {kf : Fin 4} {i : Nat} {x : Int32} (hd : decode M.2.1 pc = .ok (.istore_n kf, 1)) (hi : (kf : Nat) = i) (hn : i < M.2.2.1) (hv : (i, Value.int x) :: lv.filter (fun q => !(q.1 == i) && !(q.1 + 1 == i && q.2.category == 2)) = lv1) (h : jX E M R Z (pc + 1) lv1 st S c k) : jX E M R Z pc lv (.int x :: st) S c k := fun p e s m args below meth c0 hB H locs ls hV hS hl => lv_istore_n hB.1 hB.2.1 hd hi hl hn hv (fun ls1 hl1 => h p e s m args below meth c0 hB H locs ls1 hV hS hl1)
theorem jx_istore {i : Nat} {x : Int32} (hd : decode M.2.1 pc = .ok (.istore i, 2)) (hn : i < M.2.2.1) (hv : (i, Value.int x) :: lv.filter (fun q => !(q.1 == i) && !(q.1 + 1 == i && q.2.category == 2)) = lv1) (h : jX E M R Z (pc + 2) lv1 st S c k) : jX E M R Z pc lv (.int x :: st) S c k := fun p e s m args below meth c0 hB H locs ls hV hS hl => lv_istore hB.1 hB.2.1 hd hl hn hv (fun ls1 hl1 => h p e s m args below meth c0 hB H locs ls1 hV hS hl1)
theorem jx_astore_n {kf : Fin 4} {i : Nat} {x : Nat} (hd : decode M.2.1 pc = .ok (.astore_n kf, 1)) (hi : (kf : Nat) = i) (hn : i < M.2.2.1) (hv : (i, Value.ref x) :: lv.filter (fun q => !(q.1 == i) && !(q.1 + 1 == i && q.2.category == 2)) = lv1) (h : jX E M R Z (pc + 1) lv1 st S c k) : jX E M R Z pc lv (.ref x :: st) S c k := fun p e s m args below meth c0 hB H locs ls hV hS hl => lv_astore_n hB.1 hB.2.1 hd hi hl hn hv (fun ls1 hl1 => h p e s m args below meth c0 hB H locs ls1 hV hS hl1)
theorem jx_astore {i : Nat} {x : Nat} (hd : decode M.2.1 pc = .ok (.astore i, 2)) (hn : i < M.2.2.1) (hv : (i, Value.ref x) :: lv.filter (fun q => !(q.1 == i) && !(q.1 + 1 == i && q.2.category == 2)) = lv1) (h : jX E M R Z (pc + 2) lv1 st S c k) : jX E M R Z pc lv (.ref x :: st) S c k := fun p e s m args below meth c0 hB H locs ls hV hS hl => lv_astore hB.1 hB.2.1 hd hl hn hv (fun ls1 hl1 => h p e s m args below meth c0 hB H locs ls1 hV hS hl1)
theorem jx_astore_nN {kf : Fin 4} {i : Nat} (hd : decode M.2.1 pc = .ok (.astore_n kf, 1)) (hi : (kf : Nat) = i) (hn : i < M.2.2.1) (hv : (i, Value.null) :: lv.filter (fun q => !(q.1 == i) && !(q.1 + 1 == i && q.2.category == 2)) = lv1) (h : jX E M R Z (pc + 1) lv1 st S c k) : jX E M R Z pc lv (.null :: st) S c k := fun p e s m args below meth c0 hB H locs ls hV hS hl => lv_astore_nN hB.1 hB.2.1 hd hi hl hn hv (fun ls1 hl1 => h p e s m args below meth c0 hB H locs ls1 hV hS hl1)
theorem jx_astoreN {i : Nat} (hd : decode M.2.1 pc = .ok (.astore i, 2)) (hn : i < M.2.2.1) (hv : (i, Value.null) :: lv.filter (fun q => !(q.1 == i) && !(q.1 + 1 == i && q.2.category == 2)) = lv1) (h : jX E M R Z (pc + 2) lv1 st S c k) : jX E M R Z pc lv (.null :: st) S c k := fun p e s m args below meth c0 hB H locs ls hV hS hl => lv_astoreN hB.1 hB.2.1 hd hl hn hv (fun ls1 hl1 => h p e s m args below meth c0 hB H locs ls1 hV hS hl1)
theorem jx_iinc (q : Nat) {i : Nat} {n : Int} {x v : Int32} (hd : decode M.2.1 pc = .ok (.iinc i n, 3)) (hq : lv[q]? = some (i, .int x)) (hx : x + Int32.ofInt n = v) (hn : i < M.2.2.1) (hv : (i, Value.int v) :: lv.filter (fun q => !(q.1 == i) && !(q.1 + 1 == i && q.2.category == 2)) = lv1) (h : jX E M R Z (pc + 3) lv1 st S c k) : jX E M R Z pc lv st S c k := fun p e s m args below meth c0 hB H locs ls hV hS hl => lv_iinc hB.1 hB.2.1 hd hl hq hx hn hv (fun ls1 hl1 => h p e s m args below meth c0 hB H locs ls1 hV hS hl1)
theorem jx_if_eq {x : Int32} {off : Int} {tgt : Nat} (hd : decode M.2.1 pc = .ok (.ifCond .eq off, 3)) (ht : (pc : Int) + off = (tgt : Int)) (h1 : x = 0 → jX E M R Z tgt lv st S c k) (h2 : ¬ x = 0 → jX E M R Z (pc + 3) lv st S c k) : jX E M R Z pc lv (.int x :: st) S c k := fun p e s m args below meth c0 hB H locs ls hV hS hl => lv_if_eq hB.1 hB.2.1 hd ht (fun q => h1 q p e s m args below meth c0 hB H locs ls hV hS hl) (fun q => h2 q p e s m args below meth c0 hB H locs ls hV hS hl)
theorem jx_if_lt {x : Int32} {off : Int} {tgt : Nat} (hd : decode M.2.1 pc = .ok (.ifCond .lt off, 3)) (ht : (pc : Int) + off = (tgt : Int)) (h1 : x < 0 → jX E M R Z tgt lv st S c k) (h2 : ¬ x < 0 → jX E M R Z (pc + 3) lv st S c k) : jX E M R Z pc lv (.int x :: st) S c k := fun p e s m args below meth c0 hB H locs ls hV hS hl => lv_if_lt hB.1 hB.2.1 hd ht (fun q => h1 q p e s m args below meth c0 hB H locs ls hV hS hl) (fun q => h2 q p e s m args below meth c0 hB H locs ls hV hS hl)
theorem jx_if_ge {x : Int32} {off : Int} {tgt : Nat} (hd : decode M.2.1 pc = .ok (.ifCond .ge off, 3)) (ht : (pc : Int) + off = (tgt : Int)) (h1 : 0 ≤ x → jX E M R Z tgt lv st S c k) (h2 : ¬ 0 ≤ x → jX E M R Z (pc + 3) lv st S c k) : jX E M R Z pc lv (.int x :: st) S c k := fun p e s m args below meth c0 hB H locs ls hV hS hl => lv_if_ge hB.1 hB.2.1 hd ht (fun q => h1 q p e s m args below meth c0 hB H locs ls hV hS hl) (fun q => h2 q p e s m args below meth c0 hB H locs ls hV hS hl)
theorem jx_if_gt {x : Int32} {off : Int} {tgt : Nat} (hd : decode M.2.1 pc = .ok (.ifCond .gt off, 3)) (ht : (pc : Int) + off = (tgt : Int)) (h1 : 0 < x → jX E M R Z tgt lv st S c k) (h2 : ¬ 0 < x → jX E M R Z (pc + 3) lv st S c k) : jX E M R Z pc lv (.int x :: st) S c k := fun p e s m args below meth c0 hB H locs ls hV hS hl => lv_if_gt hB.1 hB.2.1 hd ht (fun q => h1 q p e s m args below meth c0 hB H locs ls hV hS hl) (fun q => h2 q p e s m args below meth c0 hB H locs ls hV hS hl)
theorem jx_if_le {x : Int32} {off : Int} {tgt : Nat} (hd : decode M.2.1 pc = .ok (.ifCond .le off, 3)) (ht : (pc : Int) + off = (tgt : Int)) (h1 : x ≤ 0 → jX E M R Z tgt lv st S c k) (h2 : ¬ x ≤ 0 → jX E M R Z (pc + 3) lv st S c k) : jX E M R Z pc lv (.int x :: st) S c k := fun p e s m args below meth c0 hB H locs ls hV hS hl => lv_if_le hB.1 hB.2.1 hd ht (fun q => h1 q p e s m args below meth c0 hB H locs ls hV hS hl) (fun q => h2 q p e s m args below meth c0 hB H locs ls hV hS hl)
theorem jx_if_ne {x : Int32} {off : Int} {tgt : Nat} (hd : decode M.2.1 pc = .ok (.ifCond .ne off, 3)) (ht : (pc : Int) + off = (tgt : Int)) (h1 : ¬ x = 0 → jX E M R Z tgt lv st S c k) (h2 : x = 0 → jX E M R Z (pc + 3) lv st S c k) : jX E M R Z pc lv (.int x :: st) S c k := fun p e s m args below meth c0 hB H locs ls hV hS hl => lv_if_ne hB.1 hB.2.1 hd ht (fun q => h1 q p e s m args below meth c0 hB H locs ls hV hS hl) (fun q => h2 q p e s m args below meth c0 hB H locs ls hV hS hl)
theorem jx_icmp_eq {x y : Int32} {off : Int} {tgt : Nat} (hd : decode M.2.1 pc = .ok (.if_icmp .eq off, 3)) (ht : (pc : Int) + off = (tgt : Int)) (h1 : x = y → jX E M R Z tgt lv st S c k) (h2 : ¬ x = y → jX E M R Z (pc + 3) lv st S c k) : jX E M R Z pc lv (.int y :: .int x :: st) S c k := fun p e s m args below meth c0 hB H locs ls hV hS hl => lv_icmp_eq hB.1 hB.2.1 hd ht (fun q => h1 q p e s m args below meth c0 hB H locs ls hV hS hl) (fun q => h2 q p e s m args below meth c0 hB H locs ls hV hS hl)
theorem jx_icmp_lt {x y : Int32} {off : Int} {tgt : Nat} (hd : decode M.2.1 pc = .ok (.if_icmp .lt off, 3)) (ht : (pc : Int) + off = (tgt : Int)) (h1 : x < y → jX E M R Z tgt lv st S c k) (h2 : ¬ x < y → jX E M R Z (pc + 3) lv st S c k) : jX E M R Z pc lv (.int y :: .int x :: st) S c k := fun p e s m args below meth c0 hB H locs ls hV hS hl => lv_icmp_lt hB.1 hB.2.1 hd ht (fun q => h1 q p e s m args below meth c0 hB H locs ls hV hS hl) (fun q => h2 q p e s m args below meth c0 hB H locs ls hV hS hl)
theorem jx_icmp_ge {x y : Int32} {off : Int} {tgt : Nat} (hd : decode M.2.1 pc = .ok (.if_icmp .ge off, 3)) (ht : (pc : Int) + off = (tgt : Int)) (h1 : y ≤ x → jX E M R Z tgt lv st S c k) (h2 : ¬ y ≤ x → jX E M R Z (pc + 3) lv st S c k) : jX E M R Z pc lv (.int y :: .int x :: st) S c k := fun p e s m args below meth c0 hB H locs ls hV hS hl => lv_icmp_ge hB.1 hB.2.1 hd ht (fun q => h1 q p e s m args below meth c0 hB H locs ls hV hS hl) (fun q => h2 q p e s m args below meth c0 hB H locs ls hV hS hl)
theorem jx_icmp_gt {x y : Int32} {off : Int} {tgt : Nat} (hd : decode M.2.1 pc = .ok (.if_icmp .gt off, 3)) (ht : (pc : Int) + off = (tgt : Int)) (h1 : y < x → jX E M R Z tgt lv st S c k) (h2 : ¬ y < x → jX E M R Z (pc + 3) lv st S c k) : jX E M R Z pc lv (.int y :: .int x :: st) S c k := fun p e s m args below meth c0 hB H locs ls hV hS hl => lv_icmp_gt hB.1 hB.2.1 hd ht (fun q => h1 q p e s m args below meth c0 hB H locs ls hV hS hl) (fun q => h2 q p e s m args below meth c0 hB H locs ls hV hS hl)
theorem jx_icmp_le {x y : Int32} {off : Int} {tgt : Nat} (hd : decode M.2.1 pc = .ok (.if_icmp .le off, 3)) (ht : (pc : Int) + off = (tgt : Int)) (h1 : x ≤ y → jX E M R Z tgt lv st S c k) (h2 : ¬ x ≤ y → jX E M R Z (pc + 3) lv st S c k) : jX E M R Z pc lv (.int y :: .int x :: st) S c k := fun p e s m args below meth c0 hB H locs ls hV hS hl => lv_icmp_le hB.1 hB.2.1 hd ht (fun q => h1 q p e s m args below meth c0 hB H locs ls hV hS hl) (fun q => h2 q p e s m args below meth c0 hB H locs ls hV hS hl)
theorem jx_icmp_ne {x y : Int32} {off : Int} {tgt : Nat} (hd : decode M.2.1 pc = .ok (.if_icmp .ne off, 3)) (ht : (pc : Int) + off = (tgt : Int)) (h1 : ¬ x = y → jX E M R Z tgt lv st S c k) (h2 : x = y → jX E M R Z (pc + 3) lv st S c k) : jX E M R Z pc lv (.int y :: .int x :: st) S c k := fun p e s m args below meth c0 hB H locs ls hV hS hl => lv_icmp_ne hB.1 hB.2.1 hd ht (fun q => h1 q p e s m args below meth c0 hB H locs ls hV hS hl) (fun q => h2 q p e s m args below meth c0 hB H locs ls hV hS hl)
theorem jx_goto {off : Int} {tgt : Nat} (hd : decode M.2.1 pc = .ok (.goto off, 3)) (ht : (pc : Int) + off = (tgt : Int)) (h : jX E M R Z tgt lv st S c k) : jX E M R Z pc lv st S c k := fun p e s m args below meth c0 hB H locs ls hV hS hl => lv_goto hB.1 hB.2.1 hd ht (h p e s m args below meth c0 hB H locs ls hV hS hl)
theorem jx_ifnonnull {x : Nat} {off : Int} {tgt : Nat} (hd : decode M.2.1 pc = .ok (.ifnonnull off, 3)) (ht : (pc : Int) + off = (tgt : Int)) (h : jX E M R Z tgt lv st S c k) : jX E M R Z pc lv (.ref x :: st) S c k := fun p e s m args below meth c0 hB H locs ls hV hS hl => lv_ifnonnull hB.1 hB.2.1 hd ht (h p e s m args below meth c0 hB H locs ls hV hS hl)
theorem jx_ifnull {x : Nat} {off : Int} (hd : decode M.2.1 pc = .ok (.ifnull off, 3)) (h : jX E M R Z (pc + 3) lv st S c k) : jX E M R Z pc lv (.ref x :: st) S c k := fun p e s m args below meth c0 hB H locs ls hV hS hl => lv_ifnull hB.1 hB.2.1 hd (h p e s m args below meth c0 hB H locs ls hV hS hl)
theorem jx_ifnullN {off : Int} {tgt : Nat} (hd : decode M.2.1 pc = .ok (.ifnull off, 3)) (ht : (pc : Int) + off = (tgt : Int)) (h : jX E M R Z tgt lv st S c k) : jX E M R Z pc lv (.null :: st) S c k := fun p e s m args below meth c0 hB H locs ls hV hS hl => lv_ifnullN hB.1 hB.2.1 hd ht (h p e s m args below meth c0 hB H locs ls hV hS hl)
theorem jx_ifnonnullN {off : Int} (hd : decode M.2.1 pc = .ok (.ifnonnull off, 3)) (h : jX E M R Z (pc + 3) lv st S c k) : jX E M R Z pc lv (.null :: st) S c k := fun p e s m args below meth c0 hB H locs ls hV hS hl => lv_ifnonnullN hB.1 hB.2.1 hd (h p e s m args below meth c0 hB H locs ls hV hS hl)
theorem jx_ldc {index : Nat} {v : Int32} (hw : Cond.constant M.1.cls index v ∈ jT) (hd : decode M.2.1 pc = .ok (.ldc index, 2)) (h : jX E M R Z (pc + 2) lv (.int v :: st) S c k) : jX E M R Z pc lv st S c k := fun p e s m args below meth c0 hB H locs ls hV hS hl => lv_ldc hB.1 hB.2.1 hB.2.2.2.2.1 (hB.2.2.2.2.2.1 _ hw) hd (h p e s m args below meth c0 hB H locs ls hV hS hl)
theorem jx_ldcw {index : Nat} {v : Int32} (hw : Cond.constant M.1.cls index v ∈ jT) (hd : decode M.2.1 pc = .ok (.ldc_w index, 3)) (h : jX E M R Z (pc + 3) lv (.int v :: st) S c k) : jX E M R Z pc lv st S c k := fun p e s m args below meth c0 hB H locs ls hV hS hl => lv_ldcw hB.1 hB.2.1 hB.2.2.2.2.1 (hB.2.2.2.2.2.1 _ hw) hd (h p e s m args below meth c0 hB H locs ls hV hS hl)
theorem jx_ldc2 {index : Nat} {v : Int64} (hw : Cond.constantLong M.1.cls index v ∈ jT) (hd : decode M.2.1 pc = .ok (.ldc2_w index, 3)) (h : jX E M R Z (pc + 3) lv (.long v :: st) S c k) : jX E M R Z pc lv st S c k := fun p e s m args below meth c0 hB H locs ls hV hS hl => lv_ldc2 hB.1 hB.2.1 hB.2.2.2.2.1 (hB.2.2.2.2.2.1 _ hw) hd (h p e s m args below meth c0 hB H locs ls hV hS hl)
theorem jx_lv (ks : List Nat) (hv : lv_pick lv ks = lv1) (h : jX E M R Z pc lv1 st S c k) : jX E M R Z pc lv st S c k := fun p e s m args below meth c0 hB H locs ls hV hS hl => h p e s m args below meth c0 hB H locs ls hV hS (lv_sub hl ks hv)
theorem jx_tableIn {dflt lo hi : Int} {offs : Array Int} {len : Nat} {x v : Int32} {off : Int} {tgt : Nat} (hd : decode M.2.1 pc = .ok (.tableswitch dflt lo hi offs, len)) (hx : x = v) (h1 : ¬ v.toInt < lo) (h2 : ¬ hi < v.toInt) (ho : offs[(v.toInt - lo).toNat]? = some off) (ht : (pc : Int) + off = (tgt : Int)) (h : jX E M R Z tgt lv st S c k) : jX E M R Z pc lv (.int x :: st) S c k := fun p e s m args below meth c0 hB H locs ls hV hS hl => lv_tableIn hB.1 hB.2.1 hd (by rw [hx]; exact h1) (by rw [hx]; exact h2) (by rw [hx]; exact ho) ht (h p e s m args below meth c0 hB H locs ls hV hS hl)
theorem jx_tableD {dflt lo hi : Int} {offs : Array Int} {len : Nat} {x : Int32} {tgt : Nat} (keys : List Int) (hd : decode M.2.1 pc = .ok (.tableswitch dflt lo hi offs, len)) (hx : ∀ q ∈ keys, ¬ x.toInt = q) (ha : ((List.range offs.size).all fun i => decide (lo + (i : Int) ∈ keys) || decide (offs[i]? = some dflt)) = true) (hs : hi = lo + (offs.size : Int) - 1) (ht : (pc : Int) + dflt = (tgt : Int)) (h : jX E M R Z tgt lv st S c k) : jX E M R Z pc lv (.int x :: st) S c k := by
  by_cases h1 : x.toInt < lo ∨ hi < x.toInt
  · exact fun p e s m args below meth c0 hB H locs ls hV hS hl => lv_tableOut hB.1 hB.2.1 hd h1 ht (h p e s m args below meth c0 hB H locs ls hV hS hl)
  · have h2 : ¬ x.toInt < lo := fun q => h1 (Or.inl q)
    have h3 : ¬ hi < x.toInt := fun q => h1 (Or.inr q)
    have hi2 : (x.toInt - lo).toNat < offs.size := by omega
    have h4 := List.all_eq_true.mp ha _ (List.mem_range.mpr hi2)
    have h5 : offs[(x.toInt - lo).toNat]? = some dflt := by
      rcases Bool.or_eq_true _ _ ▸ h4 with h6 | h6
      · exact absurd (by omega : x.toInt = lo + ((x.toInt - lo).toNat : Int)) (hx _ (of_decide_eq_true h6))
      · exact of_decide_eq_true h6
    exact fun p e s m args below meth c0 hB H locs ls hV hS hl => lv_tableIn hB.1 hB.2.1 hd h2 h3 h5 ht (h p e s m args below meth c0 hB H locs ls hV hS hl)
theorem jx_lookIn {dflt : Int} {ps : Array (Int × Int)} {len : Nat} {x v : Int32} {off : Int} {tgt : Nat} (hd : decode M.2.1 pc = .ok (.lookupswitch dflt ps, len)) (hp : (ps.toList.zip (ps.toList.drop 1)).all (fun (a, next) => a.1 < next.1) = true) (hx : x = v) (ho : Op.lookupswitch.offset ps.toList dflt v.toInt = off) (ht : (pc : Int) + off = (tgt : Int)) (h : jX E M R Z tgt lv st S c k) : jX E M R Z pc lv (.int x :: st) S c k := fun p e s m args below meth c0 hB H locs ls hV hS hl => lv_lookup hB.1 hB.2.1 hd hp (by rw [hx]; exact ho) ht (h p e s m args below meth c0 hB H locs ls hV hS hl)
theorem jx_lookD0 {d x : Int} : ∀ l : List (Int × Int), (∀ q ∈ l, ¬ x = q.1) → Op.lookupswitch.offset l d x = d
  | [], _ => Op.lookupswitch.offset_nil d x
  | (a, o) :: l, h => by
    rw [Op.lookupswitch.offset_cons, if_neg (by first | exact (fun e => h (a, o) List.mem_cons_self e) | exact (fun e => h (a, o) List.mem_cons_self e.symm))]
    exact jx_lookD0 l (fun q hq => h q (List.mem_cons_of_mem _ hq))
theorem jx_lookD {dflt : Int} {ps : Array (Int × Int)} {len : Nat} {x : Int32} {tgt : Nat} (hd : decode M.2.1 pc = .ok (.lookupswitch dflt ps, len)) (hp : (ps.toList.zip (ps.toList.drop 1)).all (fun (a, next) => a.1 < next.1) = true) (hx : ∀ q ∈ ps.toList, ¬ x.toInt = q.1) (ht : (pc : Int) + dflt = (tgt : Int)) (h : jX E M R Z tgt lv st S c k) : jX E M R Z pc lv (.int x :: st) S c k := fun p e s m args below meth c0 hB H locs ls hV hS hl => lv_lookup hB.1 hB.2.1 hd hp (jx_lookD0 _ hx) ht (h p e s m args below meth c0 hB H locs ls hV hS hl)
end jRules
end
section
/-! THE LAYER, the heap: fields, arrays, new cells -/
def jCl (ci : Nat) (q : vw_C) (ty : Nat → FieldType) : Prop :=
  vwCl[ci]? = some q ∧ (∀ w ∈ u_ws q.1 q.2.1 q.2.2, w ∈ jT) ∧ (∀ a, a < q.2.2 → ∀ b, b < q.2.2 → a ≠ b → (q.2.1 a).2.1 ≠ (q.2.1 b).2.1) ∧ (∀ x, x < q.2.2 → parseFieldDescriptor (q.2.1 x).2.2.1 = some (ty x)) ∧ ci < 12 ∧ ∀ x, x < q.2.2 → (q.2.1 x).1 = q.1
theorem jB.hx {E : jEnv} {M : jMd} {p : Program} {s : State} {m : MethodId} {args : Array Value} {meth : Method} {c : Code} (h : jB E M p s m args meth c) : p.tables.exec = Jvm.exec := h.1
theorem jB.hb {E : jEnv} {M : jMd} {p : Program} {s : State} {m : MethodId} {args : Array Value} {meth : Method} {c : Code} (h : jB E M p s m args meth c) : c.code = M.2.1 := h.2.1
theorem jB.hr {E : jEnv} {M : jMd} {p : Program} {s : State} {m : MethodId} {args : Array Value} {meth : Method} {c : Code} (h : jB E M p s m args meth c) : meth.sig.returnType = M.2.2.2 := h.2.2.1
theorem jB.hml {E : jEnv} {M : jMd} {p : Program} {s : State} {m : MethodId} {args : Array Value} {meth : Method} {c : Code} (h : jB E M p s m args meth c) : c.maxLocals = M.2.2.1 := h.2.2.2.1
theorem jB.hown {E : jEnv} {M : jMd} {p : Program} {s : State} {m : MethodId} {args : Array Value} {meth : Method} {c : Code} (h : jB E M p s m args meth c) : s.vm.findClass M.1.cls = some m.cls := h.2.2.2.2.1
theorem jB.hts {E : jEnv} {M : jMd} {p : Program} {s : State} {m : MethodId} {args : Array Value} {meth : Method} {c : Code} (h : jB E M p s m args meth c) : ∀ w ∈ jT, w.before args s = true := h.2.2.2.2.2.1
theorem jB.hlk {E : jEnv} {M : jMd} {p : Program} {s : State} {m : MethodId} {args : Array Value} {meth : Method} {c : Code} (h : jB E M p s m args meth c) : meth.locks = false := h.2.2.2.2.2.2.1
theorem jB.hK {E : jEnv} {M : jMd} {p : Program} {s : State} {m : MethodId} {args : Array Value} {meth : Method} {c : Code} (h : jB E M p s m args meth c) : va_K (eD E) vwCl (jtys E) s := h.2.2.2.2.2.2.2.1
theorem jB.hnm {E : jEnv} {M : jMd} {p : Program} {s : State} {m : MethodId} {args : Array Value} {meth : Method} {c : Code} (h : jB E M p s m args meth c) : meth.name = M.1.name := h.2.2.2.2.2.2.2.2.1
theorem jB.hG {E : jEnv} {M : jMd} {p : Program} {s : State} {m : MethodId} {args : Array Value} {meth : Method} {c : Code} (h : jB E M p s m args meth c) : jG E s := h.2.2.2.2.2.2.2.2.2.1
theorem jB.hq {E : jEnv} {M : jMd} {p : Program} {s : State} {m : MethodId} {args : Array Value} {meth : Method} {c : Code} (h : jB E M p s m args meth c) : (∀ q, q < eB E → s.heap[q]? = (eG E)[q]?) ∧ (eG E).size = eB E ∧ eB E ≤ s.heap.size := h.2.2.2.2.2.2.2.2.2.2
theorem jE_obj {cy : Nat → ClassId} {S : jM} {a ci : Nat} {q : vw_C} {ty : Nat → FieldType} (hk : jk S a = ci) (hc : jCl ci q ty) : jE cy S a = .inr (ci, (List.range q.2.2).map (jfv S a)) := by
  have hN : jtN ci = q.2.2 := by unfold jtN; rw [hc.1]
  unfold jE
  rw [hk, if_pos hc.2.2.2.2.1, hN]
theorem jE_ia {cy : Nat → ClassId} {S : jM} {a : Nat} (hk : jk S a = 12) : jE cy S a = .inl (cy 12, jl S a, .inl (ji S a)) := by
  unfold jE
  rw [hk, if_neg (by decide), if_pos rfl]
theorem jE_ra {cy : Nat → ClassId} {S : jM} {a kk : Nat} (hk : jk S a = kk) (h : 12 < kk) : jE cy S a = .inl (cy kk, jl S a, .inr (.inr (.inr (.inr (jr S a))))) := by
  unfold jE
  rw [hk, if_neg (by omega), if_neg (by omega)]
theorem va_P1 {D : va_G} {cl : List vw_C} {a : Nat} {e : va_E} {H : Heap} (h : va_at D cl (a, e) H) : va_P D cl [(a, e)] H := by
  intro i x hx
  cases i with
  | zero => cases hx; exact h
  | succ i => simp at hx
theorem jV.obj {E : jEnv} {S : jM} {H : Heap} {a ci : Nat} {q : vw_C} {ty : Nat → FieldType} (hV : jV E S H) (hk : jk S a = ci) (hc : jCl ci q ty) : va_P (eD E) vwCl [(a, .inr (ci, (List.range q.2.2).map (jfv S a)))] H := by
  have h := hV.1 a (by rw [hk]; exact Nat.lt_trans hc.2.2.2.2.1 (by decide))
  rw [jE_obj hk hc] at h
  exact va_P1 h
theorem jV.ia {E : jEnv} {S : jM} {H : Heap} {a : Nat} (hV : jV E S H) (hk : jk S a = 12) : va_P (eD E) vwCl [(a, .inl (eC E 12, jl S a, .inl (ji S a)))] H := by
  have h := hV.1 a (by rw [hk]; decide)
  rw [jE_ia hk] at h
  exact va_P1 h
theorem jV.ra {E : jEnv} {S : jM} {H : Heap} {a kk : Nat} (hV : jV E S H) (hk : jk S a = kk) (h1 : 12 < kk) (h2 : kk < 17) : va_P (eD E) vwCl [(a, .inl (eC E kk, jl S a, .inr (.inr (.inr (.inr (jr S a))))))] H := by
  have h := hV.1 a (by rw [hk]; exact h2)
  rw [jE_ra hk h1] at h
  exact va_P1 h
/-- one cell is written -/
theorem jV.upd {E : jEnv} {S S' : jM} {H H' : Heap} {a : Nat} (hV : jV E S H) (hk : jk S' = jk S) (hn : jn S' = jn S) (ho : ∀ x, x ≠ a → jE (eC E) S' x = jE (eC E) S x) (ha : va_at (eD E) vwCl (a, jE (eC E) S' a) H') (hz : H'.size = H.size) (hq : ∀ q, q ≠ a → H'[q]? = H[q]?) (hB : eB E ≤ a) : jV E S' H' := by
  obtain ⟨h1, h2, h3, h4, h5, h6⟩ := hV
  refine ⟨fun x hx => ?_, by rw [hz, hn]; exact h2, fun x hx => by rw [hn]; exact h3 x (by rw [← hk]; exact hx), by rw [hn]; exact h4, fun q hqq => ?_, h6⟩
  · by_cases hxa : x = a
    · subst hxa; exact ha
    · rw [ho x hxa]
      exact (h1 x (by rw [← hk]; exact hx)).kept (hq x hxa)
  · rw [hq q (by omega)]; exact h5 q hqq
theorem jE_put {cy : Nat → ClassId} {S : jM} {a j x : Nat} {v : Int32} (h : x ≠ a) : jE cy (jput S a j v) x = jE cy S x := by
  have e1 : ji (jput S a j v) x = ji S x := va_up_ne _ _ h
  have e2 : jk (jput S a j v) = jk S := rfl
  have e3 : jl (jput S a j v) = jl S := rfl
  have e4 : jr (jput S a j v) = jr S := rfl
  unfold jE jfv
  rw [e1, e2, e3, e4]
theorem jE_putr {cy : Nat → ClassId} {S : jM} {a j x : Nat} {v : Option Nat} (h : x ≠ a) : jE cy (jputr S a j v) x = jE cy S x := by
  have e1 : ji (jputr S a j v) = ji S := rfl
  have e2 : jk (jputr S a j v) = jk S := rfl
  have e3 : jl (jputr S a j v) = jl S := rfl
  have e4 : jr (jputr S a j v) x = jr S x := va_up_ne _ _ h
  unfold jE jfv
  rw [e1, e2, e3, e4]
theorem jE_row {cy : Nat → ClassId} {S : jM} {a x : Nat} {f : Nat → Int32} (h : x ≠ a) : jE cy (jrow S a f) x = jE cy S x := by
  have e1 : ji (jrow S a f) x = ji S x := va_up_ne _ _ h
  have e2 : jk (jrow S a f) = jk S := rfl
  have e3 : jl (jrow S a f) = jl S := rfl
  have e4 : jr (jrow S a f) = jr S := rfl
  unfold jE jfv
  rw [e1, e2, e3, e4]
theorem vp_V_range {N x : Nat} {f : Nat → Value} (h : x < N) : vp_V ((List.range N).map f) x = f x := by
  simp [vp_V, List.getD, h]
section jHeap
variable {E : jEnv} {M : jMd} {R : Room} {Z : jZ} {pc : Nat} {lv lv1 : List (Nat × Value)} {st : List Value} {S : jM} {c k : Nat}
theorem jx_geti {ci j index a : Nat} {q : vw_C} {ty : Nat → FieldType} (hc : jCl ci q ty) (hj : j < q.2.2) (hr : jtR ci j = false) (hw : Cond.fieldLink M.1.cls index q.1 (q.2.1 j).2.1 (q.2.1 j).2.2.1 ∈ jT) (hd : decode M.2.1 pc = .ok (.getfield index, 3)) (hk : jk S a = ci)
    (h : jX E M R Z (pc + 3) lv (.int (ji S a j) :: st) S c k) : jX E M R Z pc lv (.ref a :: st) S c k := by
  intro p e s m args below meth c0 hB H locs ls hV hS hl
  exact va_get (D := eD E) (ci := ci) (v := .int (ji S a j)) (C := q.1) (T := q.2.1) (N := q.2.2) (ref := q.1) hB.hx hB.hb hB.hts hc.2.1 hB.hown hB.hK (hV.obj hk hc) 0 rfl hc.1 j hj (hB.hts _ hw) (fun _ h9 => by rw [hc.2.2.2.2.2 j hj] at h9; exact h9) (by simp [jfv, hk, hr, hj]) hd (h p e s m args below meth c0 hB H locs ls hV hS hl)
theorem jx_getr {ci j index a : Nat} {q : vw_C} {ty : Nat → FieldType} (hc : jCl ci q ty) (hj : j < q.2.2) (hr : jtR ci j = true) (hw : Cond.fieldLink M.1.cls index q.1 (q.2.1 j).2.1 (q.2.1 j).2.2.1 ∈ jT) (hd : decode M.2.1 pc = .ok (.getfield index, 3)) (hk : jk S a = ci) {b : Nat} (hv : jr S a j = some b)
    (h : jX E M R Z (pc + 3) lv (.ref b :: st) S c k) : jX E M R Z pc lv (.ref a :: st) S c k := by
  intro p e s m args below meth c0 hB H locs ls hV hS hl
  exact va_get (D := eD E) (ci := ci) (v := .ref b) (C := q.1) (T := q.2.1) (N := q.2.2) (ref := q.1) hB.hx hB.hb hB.hts hc.2.1 hB.hown hB.hK (hV.obj hk hc) 0 rfl hc.1 j hj (hB.hts _ hw) (fun _ h9 => by rw [hc.2.2.2.2.2 j hj] at h9; exact h9) (by simp [jfv, hk, hr, hj, hv, va_rf]) hd (h p e s m args below meth c0 hB H locs ls hV hS hl)
theorem jx_puti {ci j index a : Nat} {q : vw_C} {ty : Nat → FieldType} {v : Int32} (hc : jCl ci q ty) (hj : j < q.2.2) (hr : jtR ci j = false) (hw : Cond.fieldLink M.1.cls index q.1 (q.2.1 j).2.1 (q.2.1 j).2.2.1 ∈ jT) (hfin : (q.2.1 j).2.2.2 = false) (hn : narrow (ty j) (.int v) = .int v) (hf : fits (ty j) (.int v) = true) (hd : decode M.2.1 pc = .ok (.putfield index, 3)) (hk : jk S a = ci)
    (h : jX E M R Z (pc + 3) lv st (jput S a j v) c k) : jX E M R Z pc lv (.int v :: .ref a :: st) S c k := by
  intro p e s m args below meth c0 hB H locs ls hV hS hl
  have hap := va_apart (own := M.1.cls) hB.hts hc.2.1 ty hc.2.2.2.1 hc.2.2.1 hB.hK hc.1
  have hlt : jk S a < 17 := by rw [hk]; exact Nat.lt_trans hc.2.2.2.2.1 (by decide)
  have hat := hV.1 a hlt
  rw [jE_obj hk hc] at hat
  obtain ⟨r, h1, cell, q1, q2, q3, q4⟩ := hat
  have hrr : r = q := Option.some.inj (h1.symm.trans hc.1)
  subst hrr
  obtain ⟨hSl, hfc, kC, hkC, hkind⟩ := hB.hK.1 ci _ hc.1
  obtain ⟨cf, kf, fi, f, hi, hsl⟩ := hSl j hj
  have hlay := hB.hts _ (hc.2.1 _ (u_in_lay hj))
  unfold u_lay at hlay
  rw [if_neg (by rw [hfin]; decide)] at hlay
  have hst := (u_facts hfc hkC (u_lays hB.hts hc.2.1 hj) hi).1
  have h6 := u_store hfc hkC hkind hlay hi (hc.2.2.2.1 j hj) hn hf
  refine W.putK hB.hx hB.hb (f := f) (ref := r.1) ⟨hB.hown, hB.hts _ hw, ⟨_, _, _, by rw [hc.2.2.2.2.2 j hj] at hi; exact hi⟩, hst⟩ (by rw [q2]; exact h6) q1 q3 (by rw [hsl]; exact k2_hasslot (q4 j hj)) rfl rfl hd fun H' e1 e2 e3 => ?_
  rw [hsl] at e1
  have hB2 := (hV.2.2.1 a hlt).1
  refine h p e s m args below meth c0 hB H' _ ls (hV.upd (a := a) rfl rfl (fun x hx => jE_put hx) ?_ e2 e3 hB2) (hS.put e2 e3 hB2) hl
  rw [jE_obj (S := jput S a j v) hk hc]
  refine ⟨r, h1, t_OB.to (V := updV (vp_V ((List.range r.2.2).map (jfv S a))) j (.int v)) ⟨_, e1, q2, q3, t_set q4 hap hj (.int v)⟩ (fun x hx => ?_)⟩
  rw [vp_V_range hx]
  by_cases hxj : x = j
  · subst hxj
    have e5 : ji (jput S a x v) a x = v := by simp [ji, jput, jrow, va_up, upd]
    have e6 : jk (jput S a x v) a = ci := hk
    simp [updV, jfv, e5, e6, hr]
  · have e5 : ji (jput S a j v) a x = ji S a x := by simp [ji, jput, jrow, va_up, upd, hxj]
    have e6 : jk (jput S a j v) a = jk S a := rfl
    have e7 : jr (jput S a j v) a x = jr S a x := rfl
    simp only [updV, if_neg hxj, vp_V_range hx, jfv, e5, e6, e7]
theorem jx_putF {ci j index a : Nat} {q : vw_C} {ty : Nat → FieldType} {v : Value} {S' : jM} (hc : jCl ci q ty) (hj : j < q.2.2) (hw : Cond.fieldLink M.1.cls index q.1 (q.2.1 j).2.1 (q.2.1 j).2.2.1 ∈ jT) (hfin : (q.2.1 j).2.2.2 = true) (hM : M.1.cls = q.1) (hin : M.1.name = "<init>") (hn : narrow (ty j) v = v) (hf : fits (ty j) v = true) (hd : decode M.2.1 pc = .ok (.putfield index, 3)) (hk : jk S a = ci)
    (hk' : jk S' = jk S) (hn' : jn S' = jn S) (ho' : ∀ cy x, x ≠ a → jE cy S' x = jE cy S x) (hv' : ∀ x, jfv S' a x = if x = j then v else jfv S a x)
    (h : jX E M R Z (pc + 3) lv st S' c k) : jX E M R Z pc lv (v :: .ref a :: st) S c k := by
  intro p e s m args below meth c0 hB H locs ls hV hS hl
  have hap := va_apart (own := M.1.cls) hB.hts hc.2.1 ty hc.2.2.2.1 hc.2.2.1 hB.hK hc.1
  have hlt : jk S a < 17 := by rw [hk]; exact Nat.lt_trans hc.2.2.2.2.1 (by decide)
  have hat := hV.1 a hlt
  rw [jE_obj hk hc] at hat
  obtain ⟨r, h1, cell, q1, q2, q3, q4⟩ := hat
  have hrr : r = q := Option.some.inj (h1.symm.trans hc.1)
  subst hrr
  obtain ⟨hSl, hfc, kC, hkC, hkind⟩ := hB.hK.1 ci _ hc.1
  obtain ⟨cf, kf, fi, f, hi, hsl⟩ := hSl j hj
  have hlay := hB.hts _ (hc.2.1 _ (u_in_lay hj))
  unfold u_lay at hlay
  rw [if_pos hfin] at hlay
  have hst := (u_facts hfc hkC (u_lays hB.hts hc.2.1 hj) hi).1
  have hdecl := hc.2.2.2.2.2 j hj
  have hcf : m.cls = cf := by
    obtain ⟨_, _, c', _, _, _, -, -, hf', -, -, -, hown2, -⟩ := Cond.laysFinal_spec hlay
    have e1 : c' = cf := by have := hi.symm.trans hf'; simp at this; exact this.1.symm
    rw [hdecl, ← hM] at hown2
    rw [← e1]; exact Option.some.inj (hB.hown.symm.trans hown2)
  have h6 := u_fits hfc hkC hkind (Or.inr hlay) hi (hc.2.2.2.1 j hj) hn hf
  refine W.putFinK hB.hx hB.hb (ref := r.1) hB.hown (hB.hts _ hw) (by rw [hdecl] at hi; exact hi) hst hcf (hB.hnm.trans hin) (by rw [q2]; exact h6) q1 q3 (by rw [hsl]; exact k2_hasslot (q4 j hj)) rfl rfl hd fun H' e1 e2 e3 => ?_
  rw [hsl] at e1
  have hB2 := (hV.2.2.1 a hlt).1
  refine h p e s m args below meth c0 hB H' _ ls (hV.upd (a := a) hk' hn' (fun x hx => ho' _ x hx) ?_ e2 e3 hB2) (hS.put e2 e3 hB2) hl
  rw [jE_obj (S := S') (by rw [hk']; exact hk) hc]
  refine ⟨r, h1, t_OB.to (V := updV (vp_V ((List.range r.2.2).map (jfv S a))) j v) ⟨_, e1, q2, q3, t_set q4 hap hj v⟩ (fun x hx => ?_)⟩
  rw [vp_V_range hx, hv' x]
  by_cases hxj : x = j
  · simp [updV, hxj]
  · simp only [updV, if_neg hxj, vp_V_range hx]
theorem jx_putiF {ci j index a : Nat} {q : vw_C} {ty : Nat → FieldType} {v : Int32} (hc : jCl ci q ty) (hj : j < q.2.2) (hr : jtR ci j = false) (hw : Cond.fieldLink M.1.cls index q.1 (q.2.1 j).2.1 (q.2.1 j).2.2.1 ∈ jT) (hfin : (q.2.1 j).2.2.2 = true) (hM : M.1.cls = q.1) (hin : M.1.name = "<init>") (hn : narrow (ty j) (.int v) = .int v) (hf : fits (ty j) (.int v) = true) (hd : decode M.2.1 pc = .ok (.putfield index, 3)) (hk : jk S a = ci)
    (h : jX E M R Z (pc + 3) lv st (jput S a j v) c k) : jX E M R Z pc lv (.int v :: .ref a :: st) S c k := by
  refine jx_putF hc hj hw hfin hM hin hn hf hd hk (S' := jput S a j v) rfl rfl (fun _ x hx => jE_put hx) (fun x => ?_) h
  have e6 : jk (jput S a j v) a = ci := hk
  have e7 : jr (jput S a j v) a x = jr S a x := rfl
  by_cases hx : x = j
  · subst hx
    have e5 : ji (jput S a x v) a x = v := by simp [ji, jput, jrow, va_up, upd]
    simp [jfv, e5, e6, hr]
  · have e5 : ji (jput S a j v) a x = ji S a x := by simp [ji, jput, jrow, va_up, upd, hx]
    simp only [jfv, e5, e6, e7, hk, if_neg hx]
theorem jx_putrF {ci j index a b : Nat} {q : vw_C} {ty : Nat → FieldType} (hc : jCl ci q ty) (hj : j < q.2.2) (hr : jtR ci j = true) (hw : Cond.fieldLink M.1.cls index q.1 (q.2.1 j).2.1 (q.2.1 j).2.2.1 ∈ jT) (hfin : (q.2.1 j).2.2.2 = true) (hM : M.1.cls = q.1) (hin : M.1.name = "<init>") (hn : narrow (ty j) (.ref b) = .ref b) (hf : fits (ty j) (.ref b) = true) (hd : decode M.2.1 pc = .ok (.putfield index, 3)) (hk : jk S a = ci)
    (h : jX E M R Z (pc + 3) lv st (jputr S a j (some b)) c k) : jX E M R Z pc lv (.ref b :: .ref a :: st) S c k := by
  refine jx_putF hc hj hw hfin hM hin hn hf hd hk (S' := jputr S a j (some b)) rfl rfl (fun _ x hx => jE_putr hx) (fun x => ?_) h
  have e6 : jk (jputr S a j (some b)) a = ci := hk
  have e7 : ji (jputr S a j (some b)) a x = ji S a x := rfl
  by_cases hx : x = j
  · subst hx
    have e5 : jr (jputr S a x (some b)) a x = some b := by simp [jr, jputr, va_up]
    simp [jfv, e5, e6, hr, va_rf]
  · have e5 : jr (jputr S a j (some b)) a x = jr S a x := by simp [jr, jputr, va_up, hx]
    simp only [jfv, e5, e6, e7, hk, if_neg hx]
theorem jx_iald {a : Nat} {i : Int32} (hd : decode M.2.1 pc = .ok (.iaload, 1)) (hk : jk S a = 12) (hin : vp_in i (jl S a)) (h : jX E M R Z (pc + 1) lv (.int (ji S a i.toNatClampNeg) :: st) S c k) : jX E M R Z pc lv (.int i :: .ref a :: st) S c k := by
  intro p e s m args below meth c0 hB H locs ls hV hS hl
  exact va_iald hB.hx hB.hb hB.hK (hV.ia hk) 0 0 rfl rfl hin hd (h p e s m args below meth c0 hB H locs ls hV hS hl)
theorem jx_alen {a : Nat} (hd : decode M.2.1 pc = .ok (.arraylength, 1)) (hk : jk S a = 12) (h : jX E M R Z (pc + 1) lv (.int (nI (jl S a)) :: st) S c k) : jX E M R Z pc lv (.ref a :: st) S c k := by
  intro p e s m args below meth c0 hB H locs ls hV hS hl
  exact va_alen hB.hx hB.hb hB.hK (hV.ia hk) 0 0 rfl rfl rfl hd (h p e s m args below meth c0 hB H locs ls hV hS hl)
theorem jx_iast {a : Nat} {i v : Int32} (hd : decode M.2.1 pc = .ok (.iastore, 1)) (hk : jk S a = 12) (hin : vp_in i (jl S a)) (h : jX E M R Z (pc + 1) lv st (jput S a i.toNatClampNeg v) c k) : jX E M R Z pc lv (.int v :: .int i :: .ref a :: st) S c k := by
  intro p e s m args below meth c0 hB H locs ls hV hS hl
  have hlt : jk S a < 17 := by rw [hk]; decide
  have hB2 := (hV.2.2.1 a hlt).1
  refine W.iast hB.hx hB.hb (hV.ia hk 0 _ rfl) ((hB.hK.2 0 _ rfl).1 (jl S a) (fun j => .int (ji S a j))) (fun q => by cases q) (by show ¬ (i < 0 ∨ (arrV _ _ _).slots.size ≤ _); rw [arrV_size]; exact hin) rfl rfl hd fun H1 e1 z oq => ?_
  refine h p e s m args below meth c0 hB H1 _ ls (hV.upd (a := a) rfl rfl (fun x hx => jE_put hx) ?_ z oq hB2) (hS.put z oq hB2) hl
  rw [jE_ia (S := jput S a i.toNatClampNeg v) hk]
  refine e1.trans (congrArg some ?_)
  show (arrV (eC E 12) (jl S a) (fun j => .int (ji S a j))).setSlot i.toNatClampNeg (.int v) = arrV (eC E 12) (jl S a) (fun j => .int (ji (jput S a i.toNatClampNeg v) a j))
  rw [arrV_store]
  congr 1
  funext x
  by_cases hx : x = i.toNatClampNeg
  · subst hx
    simp [updV, ji, jput, jrow, va_up, upd]
  · simp [updV, ji, jput, jrow, va_up, upd, hx]
/-- the array classes by their kinds -/
theorem jtys_at {E : jEnv} {kk : Nat} (h1 : 12 < kk) (h2 : kk < 17) : ∃ C, (jtys E)[kk - 12]? = some (eC E kk, .object C) := by
  rcases (show kk = 13 ∨ kk = 14 ∨ kk = 15 ∨ kk = 16 by omega) with rfl | rfl | rfl | rfl <;> exact ⟨_, rfl⟩
theorem jx_aald {a kk : Nat} {i : Int32} (hd : decode M.2.1 pc = .ok (.aaload, 1)) (hk : jk S a = kk) (h1 : 12 < kk) (h2 : kk < 17) (hin : vp_in i (jl S a)) (h : jX E M R Z (pc + 1) lv (va_rf (jr S a i.toNatClampNeg) :: st) S c k) : jX E M R Z pc lv (.int i :: .ref a :: st) S c k := by
  intro p e s m args below meth c0 hB H locs ls hV hS hl
  obtain ⟨C, hC⟩ := jtys_at (E := E) h1 h2
  exact va_aldq hB.hx hB.hb hB.hK (hV.ra hk h1 h2) 0 (kk - 12) rfl hC hin hd (h p e s m args below meth c0 hB H locs ls hV hS hl)
theorem jx_aaldS {a kk b : Nat} {i : Int32} (hd : decode M.2.1 pc = .ok (.aaload, 1)) (hk : jk S a = kk) (h1 : 12 < kk) (h2 : kk < 17) (hin : vp_in i (jl S a)) (hb : jr S a i.toNatClampNeg = some b) (h : jX E M R Z (pc + 1) lv (.ref b :: st) S c k) : jX E M R Z pc lv (.int i :: .ref a :: st) S c k :=
  jx_aald hd hk h1 h2 hin (by rw [hb]; exact h)
theorem jx_aaldN {a kk : Nat} {i : Int32} (hd : decode M.2.1 pc = .ok (.aaload, 1)) (hk : jk S a = kk) (h1 : 12 < kk) (h2 : kk < 17) (hin : vp_in i (jl S a)) (hb : jr S a i.toNatClampNeg = none) (h : jX E M R Z (pc + 1) lv (.null :: st) S c k) : jX E M R Z pc lv (.int i :: .ref a :: st) S c k :=
  jx_aald hd hk h1 h2 hin (by rw [hb]; exact h)
/-- the class whose objects an array of references holds -/
def jac (kk : Nat) : Nat := match kk with
  | 13 => 2
  | 14 => 6
  | 15 => 7
  | _ => 9
theorem jx_aast {a kk v ci : Nat} {q : vw_C} {ty : Nat → FieldType} {i : Int32} (hd : decode M.2.1 pc = .ok (.aastore, 1)) (hk : jk S a = kk) (h1 : 12 < kk) (h2 : kk < 17) (hc : jCl ci q ty) (hci : jac kk = ci) (hv : jk S v = ci) (hin : vp_in i (jl S a)) (h : jX E M R Z (pc + 1) lv st (jputr S a i.toNatClampNeg (some v)) c k) : jX E M R Z pc lv (.ref v :: .int i :: .ref a :: st) S c k := by
  intro p e s m args below meth c0 hB H locs ls hV hS hl
  have hlt : jk S a < 17 := by rw [hk]; exact h2
  have hB2 := (hV.2.2.1 a hlt).1
  have hlt2 : i.toNatClampNeg < jl S a := Nat.not_le.mp fun q => hin (Or.inr q)
  have h0 : ¬ i < 0 := fun q => hin (Or.inl q)
  have ht : (jtys E)[kk - 12]? = some (eC E kk, .object q.1) := by
    have e1 := hc.1
    rw [← hci] at e1
    rcases (show kk = 13 ∨ kk = 14 ∨ kk = 15 ∨ kk = 16 by omega) with rfl | rfl | rfl | rfl <;> cases e1 <;> rfl
  obtain ⟨r', hr', cellV, g1, g2, g3, -⟩ := hV.obj hv hc 0 _ rfl
  have hcls := (hB.hK.1 ci q hc.1).2
  obtain ⟨kA, comp, k1, k2, k3, -⟩ := (hB.hK.2 (kk - 12) _ ht).2
  have hcomp : comp = (eD E).1 ci := Option.some.inj (k3.symm.trans hcls.1)
  subst hcomp
  obtain ⟨kC, hkC, hkd⟩ := hcls.2
  refine W.aast hB.hx hB.hb (hV.ra hk h1 h2 0 _ rfl) (fun q h => by cases h) (fun h => by cases h) k1 k2 rfl hkC ⟨h0, by show _ < (arrV _ _ _).slots.size; rw [arrV_size]; exact hlt2⟩ g1 (fun q h => by rw [g3] at h; cases h) (by rw [g2]; exact hkC) (by rw [g2]; exact va_assign hcls) rfl rfl hd fun H1 e1 z oq => ?_
  refine h p e s m args below meth c0 hB H1 _ ls (hV.upd (a := a) rfl rfl (fun x hx => jE_putr hx) ?_ z oq hB2) (hS.put z oq hB2) hl
  rw [jE_ra (S := jputr S a i.toNatClampNeg (some v)) hk h1]
  refine e1.trans (congrArg some ?_)
  show (arrV (eC E kk) (jl S a) (fun j => va_rf (jr S a j))).setSlot i.toNatClampNeg (.ref v) = arrV (eC E kk) (jl S a) (fun j => va_rf (jr (jputr S a i.toNatClampNeg (some v)) a j))
  rw [arrV_store]
  congr 1
  funext x
  by_cases hx : x = i.toNatClampNeg
  · subst hx
    simp [updV, jr, jputr, va_up, va_rf]
  · simp [updV, jr, jputr, va_up, hx]
theorem jx_aastN {a kk : Nat} {i : Int32} (hd : decode M.2.1 pc = .ok (.aastore, 1)) (hk : jk S a = kk) (h1 : 12 < kk) (h2 : kk < 17) (hin : vp_in i (jl S a)) (h : jX E M R Z (pc + 1) lv st (jputr S a i.toNatClampNeg none) c k) : jX E M R Z pc lv (.null :: .int i :: .ref a :: st) S c k := by
  intro p e s m args below meth c0 hB H locs ls hV hS hl
  have hlt : jk S a < 17 := by rw [hk]; exact h2
  have hB2 := (hV.2.2.1 a hlt).1
  obtain ⟨C, hC⟩ := jtys_at (E := E) h1 h2
  refine va_WaastN (C := C) hB.hx hB.hb (hV.ra hk h1 h2 0 _ rfl) ((hB.hK.2 (kk - 12) _ hC).1 (jl S a) (fun j => va_rf (jr S a j))) (fun h => by cases h) (by show ¬ (i < 0 ∨ (arrV _ _ _).slots.size ≤ _); rw [arrV_size]; exact hin) rfl rfl hd fun H1 e1 z oq => ?_
  refine h p e s m args below meth c0 hB H1 _ ls (hV.upd (a := a) rfl rfl (fun x hx => jE_putr hx) ?_ z oq hB2) (hS.put z oq hB2) hl
  rw [jE_ra (S := jputr S a i.toNatClampNeg none) hk h1]
  refine e1.trans (congrArg some ?_)
  show (arrV (eC E kk) (jl S a) (fun j => va_rf (jr S a j))).setSlot i.toNatClampNeg (.null) = arrV (eC E kk) (jl S a) (fun j => va_rf (jr (jputr S a i.toNatClampNeg (none)) a j))
  rw [arrV_store]
  congr 1
  funext x
  by_cases hx : x = i.toNatClampNeg
  · subst hx
    simp [updV, jr, jputr, va_up, va_rf]
  · simp [updV, jr, jputr, va_up, hx]
end jHeap
end
section
/-! THE LAYER: calls, ends, new cells, Math, arraycopy -/
def jMo (M : jMd) (n : Nat) : Prop := Cond.code M.1 M.2.1 M.2.2.1 M.2.2.2 ∈ jT ∧ Cond.initialized M.1.cls ∈ jT ∧ M.1.cls ≠ "java/lang/invoke/MethodHandle" ∧ M.1.cls ≠ "java/lang/invoke/VarHandle" ∧ (parseMethodDescriptor M.1.desc).map (fun d => d.parameters.length) = some n ∧ M.2.2.1 ≤ 45
def jRok (R : Room) (d : Nat) : Prop := d + 1 ≤ R.frames ∧ 64 * d + 64 ≤ R.locals
theorem jRok_m (d mc ms : Nat) : jRok (jRm (d + 1) mc ms) d := ⟨Nat.le_refl _, by show 64 * d + 64 ≤ 64 * (d + 1); omega⟩
theorem jGood {M : jMd} {n : Nat} (h : jMo M n) : GoodIn jT (Cond.code M.1 M.2.1 M.2.2.1 M.2.2.2 :: jT) := by
  intro w hw
  rcases List.mem_cons.mp hw with rfl | hw
  · exact ⟨h.1, jT_good _ h.1⟩
  · exact ⟨hw, jT_good w hw⟩
section jCalls
variable {E : jEnv} {M M' : jMd} {R : Room} {Z : jZ} {pc : Nat} {lv lv1 : List (Nat × Value)} {st : List Value} {S : jM} {c k : Nat} {d mc ms n index : Nat} {Q' : Option Value → jM → Prop} {As : List Value}
theorem jx_cont {p : Program} {e : Env} {s : State} {m : MethodId} {args : Array Value} {below : List Frame} {meth : Method} {c0 : Code} (hB : jB E M p s m args meth c0) {H : Heap} {locs : List Loc} {ls : Array Slot} (hS : va_S (eA E) s.heap H locs) {st0 rest : List Value} {a : Array Value} {Zs : State → Prop}
    (hr : va_Run p (eL E) e R s m args below meth c0 H locs c k mc ms (F0 m pc ls st0) rest (jQ E Q' a) (eA E))
    (kk : ∀ (r : Option Value) (S' : jM), Q' r S' → ∀ (H1 : Heap) (locs1 : List Loc), jV E S' H1 → va_S (eA E) s.heap H1 locs1 → W p (eL E) e R s m args below meth c0 H1 locs1 (c + mc) (k + ms) Zs (F0 m (pc + 3) ls (r.toList ++ rest))) :
    W p (eL E) e R s m args below meth c0 H locs c k Zs (F0 m pc ls st0) := by
  intro T hT X
  obtain ⟨v, st₀, t, T', L, h0, X', hL, e1, e2, ⟨⟨r, S', hv, hq, hV'⟩, hz⟩, stp⟩ := hr T hT X
  cases hv
  rw [h0] at hz
  obtain ⟨q1, q2, q3⟩ := hB.hq
  have hS' : va_S (eA E) s.heap T'.heap (locs ++ L) := by
    refine ⟨Nat.le_trans hS.1 (by rw [e1]; exact hz), fun q h1 h2 => ?_, fun q hqq => ?_⟩
    · have hlt : q < eB E := Nat.not_le.mp h2
      rw [e1, hV'.2.2.2.2.1 q hlt, q1 q hlt]
    · rcases List.mem_append.mp hqq with h | h
      · exact hS.2.2 q h
      · exact hL q h
  obtain ⟨t2, a1, b1⟩ := kk _ S' hq T'.heap (locs ++ L) (by rw [e1]; exact hV') hS' T' rfl X'
  exact ⟨t2, stp t2 a1, b1⟩
theorem jx_callV {ci b : Nat} {q : vw_C} {ty : Nat → FieldType} (ho : jMo M' n) (hc : jCl ci q ty) (hq : q.1 = M'.1.cls) (w1 : Cond.methodLink M.1.cls index M'.1 ∈ jT) (w2 : Cond.instanceMethod M'.1 ∈ jT) (w3 : Cond.selects M'.1.cls M'.1 M'.1 ∈ jT) (hd : decode M.2.1 pc = .ok (.invokevirtual index, 3)) (hR : jRok R d) (hA : As.length = n) (hs : (st.map fun v => v.category).sum ≤ 8) (hm : c + mc ≤ R.cells ∧ k + ms ≤ R.slots) (hk : jk S b = ci)
    (hF : jF E M' d mc ms (.ref b :: As) S Q') (h : ∀ (r : Option Value) (S' : jM), Q' r S' → jX E M R Z (pc + 3) lv (r.toList ++ st) S' (c + mc) (k + ms)) : jX E M R Z pc lv (As.reverse ++ .ref b :: st) S c k := by
  intro p e s m args below meth c0 hB H locs ls hV hS hl
  have hx45 := ho.2.2.2.2.2
  have hR1 := hR.1
  have hR2 := hR.2
  refine jx_cont hB hS (va_runV (g := F0 m pc ls (As.reverse ++ .ref b :: st)) (C := M'.1.cls) (Ts := jT) ⟨hB.hx, hB.hb, hB.hml, hB.hown, hB.hts⟩ hF ⟨callB_of n hB.hts (jGood ho) rfl rfl rfl (hB.hts _ ho.2.1) (hB.hts _ w1) ⟨ho.2.2.1, ho.2.2.2.1, ho.2.2.2.2.1⟩ ⟨hR1, by show 8 + (M'.2.2.1 + 11) + 64 * d ≤ R.locals; omega⟩, hB.hts _ w2, hB.hts _ w3⟩ ⟨jPre.blind, by rw [← hq]; exact va_recv hB.hK (hV.obj hk hc) hc.1 (q0 := 0) rfl, fun U hU hW => ⟨rfl, by rw [hU]; exact hV, va_K.moved hW.alike hB.hK, hB.hG.warm hW⟩⟩ rfl hA hl.1 rfl (lv_room hs) hd hm) (fun r S' hq2 H1 locs1 hV1 hS1 => h r S' hq2 p e s m args below meth c0 hB H1 locs1 ls hV1 hS1 hl)
theorem jx_callS (ho : jMo M' n) (w1 : Cond.methodLink M.1.cls index M'.1 ∈ jT) (w2 : Cond.static M'.1 ∈ jT) (hd : decode M.2.1 pc = .ok (.invokestatic index, 3)) (hR : jRok R d) (hA : As.length = n) (hs : (st.map fun v => v.category).sum ≤ 8) (hm : c + mc ≤ R.cells ∧ k + ms ≤ R.slots)
    (hF : jF E M' d mc ms As S Q') (h : ∀ (r : Option Value) (S' : jM), Q' r S' → jX E M R Z (pc + 3) lv (r.toList ++ st) S' (c + mc) (k + ms)) : jX E M R Z pc lv (As.reverse ++ st) S c k := by
  intro p e s m args below meth c0 hB H locs ls hV hS hl
  have hx45 := ho.2.2.2.2.2
  have hR1 := hR.1
  have hR2 := hR.2
  refine jx_cont hB hS (va_runS (g := F0 m pc ls (As.reverse ++ st)) (Ts := jT) ⟨hB.hx, hB.hb, hB.hml, hB.hown, hB.hts⟩ hF ⟨callB_of n hB.hts (jGood ho) rfl rfl rfl (hB.hts _ ho.2.1) (hB.hts _ w1) ⟨ho.2.2.1, ho.2.2.2.1, ho.2.2.2.2.1⟩ ⟨hR1, by show 8 + (M'.2.2.1 + 11) + 64 * d ≤ R.locals; omega⟩, hB.hts _ w2⟩ ⟨jPre.blind, fun U hU hW => ⟨rfl, by rw [hU]; exact hV, va_K.moved hW.alike hB.hK, hB.hG.warm hW⟩⟩ rfl hA hl.1 rfl (lv_room hs) hd hm) (fun r S' hq2 H1 locs1 hV1 hS1 => h r S' hq2 p e s m args below meth c0 hB H1 locs1 ls hV1 hS1 hl)
theorem jx_callI {b : Nat} (ho : jMo M' n) (hi : M'.1.name = "<init>") (w1 : Cond.methodLink M.1.cls index M'.1 ∈ jT) (w2 : Cond.instanceMethod M'.1 ∈ jT) (hret : M'.2.2.2 = none) (hd : decode M.2.1 pc = .ok (.invokespecial index, 3)) (hR : jRok R d) (hA : As.length = n) (hs : (st.map fun v => v.category).sum ≤ 8) (hm : c + mc ≤ R.cells ∧ k + ms ≤ R.slots)
    (hF : jF E M' d mc ms (.ref b :: As) S Q') (h : ∀ (r : Option Value) (S' : jM), Q' r S' → jX E M R Z (pc + 3) lv (r.toList ++ st) S' (c + mc) (k + ms)) : jX E M R Z pc lv (As.reverse ++ .ref b :: st) S c k := by
  intro p e s m args below meth c0 hB H locs ls hV hS hl
  have hx45 := ho.2.2.2.2.2
  have hR1 := hR.1
  have hR2 := hR.2
  obtain ⟨y, cc, mL, rt⟩ := M'
  obtain rfl : rt = none := hret
  have hx46 : mL ≤ 45 := hx45
  refine jx_cont hB hS (va_runI (g := F0 m pc ls (As.reverse ++ .ref b :: st)) (Ts := jT) ⟨hB.hx, hB.hb, hB.hml, hB.hown, hB.hts⟩ hF ⟨callB_of n hB.hts (jGood ho) rfl rfl rfl (hB.hts _ ho.2.1) (hB.hts _ w1) ⟨ho.2.2.1, ho.2.2.2.1, ho.2.2.2.2.1⟩ ⟨hR1, by show 8 + (mL + 11) + 64 * d ≤ R.locals; omega⟩, hi, hB.hts _ w2⟩ ⟨jPre.blind, fun U hU hW => ⟨rfl, by rw [hU]; exact hV, va_K.moved hW.alike hB.hK, hB.hG.warm hW⟩⟩ rfl hA hl.1 rfl (lv_room hs) hd hm) (fun r S' hq2 H1 locs1 hV1 hS1 => h r S' hq2 p e s m args below meth c0 hB H1 locs1 ls hV1 hS1 hl)
theorem jx_callSN {host : String} (ho : jMo M' n) (w1 : (M.1.cls, index, M'.1, host) ∈ jNest) (w2 : Cond.static M'.1 ∈ jT) (hd : decode M.2.1 pc = .ok (.invokestatic index, 3)) (hR : jRok R d) (hA : As.length = n) (hs : (st.map fun v => v.category).sum ≤ 8) (hm : c + mc ≤ R.cells ∧ k + ms ≤ R.slots)
    (hF : jF E M' d mc ms As S Q') (h : ∀ (r : Option Value) (S' : jM), Q' r S' → jX E M R Z (pc + 3) lv (r.toList ++ st) S' (c + mc) (k + ms)) : jX E M R Z pc lv (As.reverse ++ st) S c k := by
  intro p e s m args below meth c0 hB H locs ls hV hS hl
  have hx45 := ho.2.2.2.2.2
  have hR1 := hR.1
  have hR2 := hR.2
  have hG := hB.hG
  obtain ⟨-, -, -, -, -, -, -, -, -, -, -, hn, -⟩ := hG
  refine jx_cont hB hS (va_runSN (g := F0 m pc ls (As.reverse ++ st)) (Ts := jT) (host := host) ⟨hB.hx, hB.hb, hB.hml, hB.hown, hB.hts⟩ hF ⟨va_cnB n hB.hts (jGood ho) rfl rfl rfl (hn _ w1) (hB.hts _ ho.2.1) ⟨ho.2.2.1, ho.2.2.2.1, ho.2.2.2.2.1⟩ ⟨hR1, by show 8 + (M'.2.2.1 + 11) + 64 * d ≤ R.locals; omega⟩, hB.hts _ w2, trivial⟩ ⟨jPre.blind, fun U hU hW => ⟨rfl, by rw [hU]; exact hV, va_K.moved hW.alike hB.hK, hB.hG.warm hW⟩⟩ rfl hA hl.1 rfl (lv_room hs) hd hm) (fun r S' hq2 H1 locs1 hV1 hS1 => h r S' hq2 p e s m args below meth c0 hB H1 locs1 ls hV1 hS1 hl)
theorem jx_callIN {host : String} {b : Nat} (ho : jMo M' n) (hi : M'.1.name = "<init>") (w1 : (M.1.cls, index, M'.1, host) ∈ jNest) (w2 : Cond.instanceMethod M'.1 ∈ jT) (hret : M'.2.2.2 = none) (hd : decode M.2.1 pc = .ok (.invokespecial index, 3)) (hR : jRok R d) (hA : As.length = n) (hs : (st.map fun v => v.category).sum ≤ 8) (hm : c + mc ≤ R.cells ∧ k + ms ≤ R.slots)
    (hF : jF E M' d mc ms (.ref b :: As) S Q') (h : ∀ (r : Option Value) (S' : jM), Q' r S' → jX E M R Z (pc + 3) lv (r.toList ++ st) S' (c + mc) (k + ms)) : jX E M R Z pc lv (As.reverse ++ .ref b :: st) S c k := by
  intro p e s m args below meth c0 hB H locs ls hV hS hl
  have hx45 := ho.2.2.2.2.2
  have hR1 := hR.1
  have hR2 := hR.2
  have hG := hB.hG
  obtain ⟨-, -, -, -, -, -, -, -, -, -, -, hn, -⟩ := hG
  obtain ⟨y, cc, mL, rt⟩ := M'
  obtain rfl : rt = none := hret
  have hx46 : mL ≤ 45 := hx45
  refine jx_cont hB hS (va_runIN (g := F0 m pc ls (As.reverse ++ .ref b :: st)) (Ts := jT) (host := host) ⟨hB.hx, hB.hb, hB.hml, hB.hown, hB.hts⟩ hF ⟨va_cnB n hB.hts (jGood ho) rfl rfl rfl (hn _ w1) (hB.hts _ ho.2.1) ⟨ho.2.2.1, ho.2.2.2.1, ho.2.2.2.2.1⟩ ⟨hR1, by show 8 + (mL + 11) + 64 * d ≤ R.locals; omega⟩, hi, hB.hts _ w2⟩ ⟨jPre.blind, fun U hU hW => ⟨rfl, by rw [hU]; exact hV, va_K.moved hW.alike hB.hK, hB.hG.warm hW⟩⟩ rfl hA hl.1 rfl (lv_room hs) hd hm) (fun r S' hq2 H1 locs1 hV1 hS1 => h r S' hq2 p e s m args below meth c0 hB H1 locs1 ls hV1 hS1 hl)
/-- Object's own constructor -/
theorem jx_objInit {a : Nat} (w1 : Cond.methodLink M.1.cls index Lib.objectInit ∈ jT) (w2 : Cond.instanceMethod Lib.objectInit ∈ jT) (w3 : Cond.code Lib.objectInit ⟨#[0xb1]⟩ 1 none ∈ jT) (hd : decode M.2.1 pc = .ok (.invokespecial index, 3)) (hR : jRok R d) (hs : (st.map fun v => v.category).sum ≤ 8) (h : jX E M R Z (pc + 3) lv st S c k) : jX E M R Z pc lv (.ref a :: st) S c k := by
  intro p e s m args below meth c0 hB H locs ls hV hS hl
  have hR1 := hR.1
  have hR2 := hR.2
  exact W.objInit hB.hx hB.hb hB.hown (hB.hts _ w1) (hB.hts _ w2) (hB.hts _ w3) rfl (by rw [hB.hml]; exact hl.1) rfl hd (by omega) (by have h9 := lv_room (m := m) (pc := pc) (ls := ls) (rest := .ref a :: st) hs; omega) (h p e s m args below meth c0 hB H locs ls hV hS hl)
/-- the ends -/
theorem jx_iret {Q : Option Value → jM → Prop} {ty : FieldType} {v : Int32} (hd : decode M.2.1 pc = .ok (.ireturn, 1)) (hr : M.2.2.2 = some ty) (hn : narrow ty (.int v) = .int v) (hc : c ≤ mc) (hk : k ≤ ms) (hq : Q (some (.int v)) S) : jX E M R (jZm E Q mc ms) pc lv [.int v] S c k := by
  intro p e s m args below meth c0 hB H locs ls hV hS hl
  exact W.widen hc hk (W.zret (hlocks := hB.hlk) hB.hx hB.hb (hB.hr.trans hr) hn (fun t ht hW => ⟨⟨_, S, rfl, hq, by rw [ht]; exact hV⟩, by rw [ht]; exact hS.1⟩) hS.2.2 hd)
theorem jx_vret {Q : Option Value → jM → Prop} (hd : decode M.2.1 pc = .ok (.return_, 1)) (hr : M.2.2.2 = none) (hc : c ≤ mc) (hk : k ≤ ms) (hq : Q none S) : jX E M R (jZm E Q mc ms) pc lv [] S c k := by
  intro p e s m args below meth c0 hB H locs ls hV hS hl
  exact W.widen hc hk (W.vret (hlocks := hB.hlk) hB.hx hB.hb (hB.hr.trans hr) (fun t ht hW => ⟨⟨_, S, rfl, hq, by rw [ht]; exact hV⟩, by rw [ht]; exact hS.1⟩) hS.2.2 hd)
theorem jx_aret {Q : Option Value → jM → Prop} {C : String} {o : Option Nat} (hd : decode M.2.1 pc = .ok (.areturn, 1)) (hr : M.2.2.2 = some (.object C)) (hc : c ≤ mc) (hk : k ≤ ms) (hq : Q (some (va_rf o)) S) : jX E M R (jZm E Q mc ms) pc lv [va_rf o] S c k := by
  intro p e s m args below meth c0 hB H locs ls hV hS hl
  exact W.widen hc hk (W.aret (hlocks := hB.hlk) hB.hx hB.hb (hB.hr.trans hr) (Or.inl ⟨_, rfl⟩) (by cases o with | none => exact Or.inl rfl | some b => exact Or.inr ⟨b, rfl⟩) (fun t ht hW => ⟨⟨_, S, rfl, hq, by rw [ht]; exact hV⟩, by rw [ht]; exact hS.1⟩) hS.2.2 hd)
/-- Math -/
theorem jx_min {x y : Int32} (w1 : Cond.methodLink M.1.cls index Lib.Math.min.name ∈ jT) (w2 : Cond.static Lib.Math.min.name ∈ jT) (w3 : Cond.initialized "java/lang/Math" ∈ jT) (w4 : Cond.code Lib.Math.min.name Lib.Math.min.code 2 (some .int) ∈ jT) (hd : decode M.2.1 pc = .ok (.invokestatic index, 3)) (hR : jRok R d) (hs : (st.map fun v => v.category).sum ≤ 8) (hm : c ≤ R.cells ∧ k ≤ R.slots) (h : jX E M R Z (pc + 3) lv (.int (if y < x then y else x) :: st) S c k) : jX E M R Z pc lv (.int y :: .int x :: st) S c k := by
  intro p e s m args below meth c0 hB H locs ls hV hS hl
  have hR1 := hR.1
  have hR2 := hR.2
  exact va_mmin hB.hx hB.hb (by rw [hB.hml]; exact hl.1.symm) hB.hown (hB.hts _ w1) (hB.hts _ w2) (hB.hts _ w3) (hB.hts _ w4) (by omega) (by omega) hm.1 hm.2 hd (h p e s m args below meth c0 hB H locs ls hV hS hl)
theorem jx_max {x y : Int32} (w1 : Cond.methodLink M.1.cls index Lib.Math.max.name ∈ jT) (w2 : Cond.static Lib.Math.max.name ∈ jT) (w3 : Cond.initialized "java/lang/Math" ∈ jT) (w4 : Cond.code Lib.Math.max.name Lib.Math.max.code 2 (some .int) ∈ jT) (hd : decode M.2.1 pc = .ok (.invokestatic index, 3)) (hR : jRok R d) (hs : (st.map fun v => v.category).sum ≤ 8) (hm : c ≤ R.cells ∧ k ≤ R.slots) (h : jX E M R Z (pc + 3) lv (.int (if x < y then y else x) :: st) S c k) : jX E M R Z pc lv (.int y :: .int x :: st) S c k := by
  intro p e s m args below meth c0 hB H locs ls hV hS hl
  have hR1 := hR.1
  have hR2 := hR.2
  exact va_mmax hB.hx hB.hb (by rw [hB.hml]; exact hl.1.symm) hB.hown (hB.hts _ w1) (hB.hts _ w2) (hB.hts _ w3) (hB.hts _ w4) (by omega) (by omega) hm.1 hm.2 hd (h p e s m args below meth c0 hB H locs ls hV hS hl)
theorem jx_abs {x : Int32} (w1 : Cond.methodLink M.1.cls index Lib.Math.abs.name ∈ jT) (w2 : Cond.static Lib.Math.abs.name ∈ jT) (w3 : Cond.initialized "java/lang/Math" ∈ jT) (w4 : Cond.code Lib.Math.abs.name Lib.Math.abs.code 1 (some .int) ∈ jT) (hd : decode M.2.1 pc = .ok (.invokestatic index, 3)) (hR : jRok R d) (hs : (st.map fun v => v.category).sum ≤ 8) (hm : c ≤ R.cells ∧ k ≤ R.slots) (h : jX E M R Z (pc + 3) lv (.int (if 0 ≤ x then x else 0 - x) :: st) S c k) : jX E M R Z pc lv (.int x :: st) S c k := by
  intro p e s m args below meth c0 hB H locs ls hV hS hl
  have hR1 := hR.1
  have hR2 := hR.2
  exact va_mabs hB.hx hB.hb (by rw [hB.hml]; exact hl.1.symm) hB.hown (hB.hts _ w1) (hB.hts _ w2) (hB.hts _ w3) (hB.hts _ w4) (by omega) (by omega) hm.1 hm.2 hd (h p e s m args below meth c0 hB H locs ls hV hS hl)
end jCalls
end
section
/-! THE LAYER: new cells, arraycopy, the table ABOVE -/
section jAlloc
variable {E : jEnv} {M : jMd} {R : Room} {Z : jZ} {pc : Nat} {lv lv1 : List (Nat × Value)} {st : List Value} {S : jM} {c k : Nat} {d n index : Nat}
theorem jE_new {cy : Nat → ClassId} {S : jM} {kk n x : Nat} (h : x ≠ jn S) : jE cy (jnew S kk n) x = jE cy S x := by
  have e1 : ji (jnew S kk n) x = ji S x := va_up_ne _ _ h
  have e2 : jk (jnew S kk n) x = jk S x := va_up_ne _ _ h
  have e3 : jl (jnew S kk n) x = jl S x := va_up_ne _ _ h
  have e4 : jr (jnew S kk n) x = jr S x := va_up_ne _ _ h
  unfold jE
  rw [e1, e2, e3, e4]
  have e5 : jfv (jnew S kk n) x = jfv S x := by
    funext j
    unfold jfv
    rw [e1, e2, e4]
  rw [e5]
theorem jk_new {S : jM} {kk n : Nat} : jk (jnew S kk n) (jn S) = kk := va_up_self _ _ _
theorem jk_new_ne {S : jM} {kk n x : Nat} (h : x ≠ jn S) : jk (jnew S kk n) x = jk S x := va_up_ne _ _ h
/-- a cell comes -/
theorem jV.new {H H' : Heap} {kk n : Nat} (hV : jV E S H) (hz : H'.size = jn S + 1) (hq : ∀ q, q < jn S → H'[q]? = H[q]?) (ha : va_at (eD E) vwCl (jn S, jE (eC E) (jnew S kk n) (jn S)) H') : jV E (jnew S kk n) H' := by
  obtain ⟨h1, h2, h3, h4, h5, h6⟩ := hV
  refine ⟨fun x hx => ?_, hz, fun x hx => ?_, Nat.le_succ_of_le h4, fun q hqq => ?_, h6⟩
  · by_cases hxa : x = jn S
    · subst hxa; exact ha
    · rw [jk_new_ne hxa] at hx
      rw [jE_new hxa]
      exact (h1 x hx).kept (hq x (h3 x hx).2)
  · by_cases hxa : x = jn S
    · subst hxa; exact ⟨h4, Nat.lt_succ_self _⟩
    · rw [jk_new_ne hxa] at hx
      exact ⟨(h3 x hx).1, Nat.lt_succ_of_lt (h3 x hx).2⟩
  · rw [hq q (Nat.lt_of_lt_of_le hqq h4)]; exact h5 q hqq
theorem va_S.grow {A : Nat → Prop} {H0 H H1 : Heap} {locs : List Loc} (hS : va_S A H0 H locs) (hz : H.size ≤ H1.size) (hq : ∀ q, q < H.size → H1[q]? = H[q]?) : va_S A H0 H1 locs :=
  ⟨Nat.le_trans hS.1 hz, fun q h1 h2 => (hq q (Nat.lt_of_lt_of_le h1 hS.1)).trans (hS.2.1 q h1 h2), hS.2.2⟩
theorem jx_new {ci : Nat} {q : vw_C} {ty : Nat → FieldType} (hc : jCl ci q ty) (w1 : Cond.classLink M.1.cls index q.1 ∈ jT) (w2 : Cond.instantiable q.1 q.2.2 ∈ jT) (w3 : Cond.initialized q.1 ∈ jT) (hdv : ∀ j, j < q.2.2 → defaultValue (ty j) = if jtR ci j then .null else .int 0) (hd : decode M.2.1 pc = .ok (.new index, 3)) (hm : c + 1 ≤ R.cells ∧ k + q.2.2 ≤ R.slots)
    (h : jX E M R Z (pc + 3) lv (.ref (jn S) :: st) (jnew S ci 0) (c + 1) (k + q.2.2)) : jX E M R Z pc lv st S c k := by
  intro p e s m args below meth c0 hB H locs ls hV hS hl
  have hKn := hB.hK.1 ci _ hc.1
  refine W.newcK hB.hx hB.hb hB.hown (hB.hts _ w1) (hB.hts _ w2) (hB.hts _ w3) rfl hd hm.1 hm.2 hKn.2.1 hV.2.1 fun H1 kC hkC e1 z1 o1 => ?_
  refine h p e s m args below meth c0 hB H1 locs ls (hV.new z1 o1 ?_) (hS.grow (by rw [z1, hV.2.1]; omega) (fun x hx => o1 x (by rw [← hV.2.1]; exact hx))) hl
  rw [jE_obj (S := jnew S ci 0) jk_new hc]
  refine ⟨q, hc.1, (u_born ty hB.hts hc.2.1 hKn hkC e1 hc.2.2.2.1).to (fun j hj => ?_)⟩
  rw [vp_V_range hj, hdv j hj]
  have e5 : ji (jnew S ci 0) (jn S) j = 0 := by simp [ji, jnew, jn, va_up]
  have e6 : jr (jnew S ci 0) (jn S) j = none := by simp [jr, jnew, jn, va_up]
  simp [jfv, e5, e6, jk_new, va_rf]
theorem jx_newa {v : Int32} {N : Nat} (hw : Cond.arrayClass .int ∈ jT) (hd : decode M.2.1 pc = .ok (.newarray .int, 2)) (hv : ¬ v < 0) (hN : v.toNatClampNeg = N) (hN2 : N ≤ 4000) (hm : c + 1 ≤ R.cells ∧ k + N ≤ R.slots)
    (h : jX E M R Z (pc + 2) lv (.ref (jn S) :: st) (jnew S 12 N) (c + 1) (k + N)) : jX E M R Z pc lv (.int v :: st) S c k := by
  intro p e s m args below meth c0 hB H locs ls hV hS hl
  refine va_newaK (atype := .int) (rest := st) hB.hx hB.hb (hB.hts _ hw) rfl hd rfl hv hN (by show N * 4 ≤ _; omega) hm.1 hm.2 hV.2.1 fun H1 cA e1 z1 o1 hAr hNm => ?_
  have hcA : cA = eC E 12 := Option.some.inj (hNm.symm.trans (hB.hK.2 0 _ rfl).2)
  refine h p e s m args below meth c0 hB H1 locs ls (hV.new z1 o1 ?_) (hS.grow (by rw [z1, hV.2.1]; omega) (fun x hx => o1 x (by rw [← hV.2.1]; exact hx))) hl
  rw [jE_ia (S := jnew S 12 N) jk_new]
  refine e1.trans (congrArg some ?_)
  have e5 : jl (jnew S 12 N) (jn S) = N := va_up_self _ _ _
  have e6 : ji (jnew S 12 N) (jn S) = fun _ => 0 := va_up_self _ _ _
  show _ = arrV (eC E 12) (jl (jnew S 12 N) (jn S)) (fun j => .int (ji (jnew S 12 N) (jn S) j))
  rw [e5, e6, hcA]
  rfl
theorem jx_anew {kk ci : Nat} {q : vw_C} {ty : Nat → FieldType} {v : Int32} {N : Nat} (hc : jCl ci q ty) (h1 : 12 < kk) (h2 : kk < 17) (hci : jac kk = ci) (w1 : Cond.classLink M.1.cls index q.1 ∈ jT) (hd : decode M.2.1 pc = .ok (.anewarray index, 3)) (hv : ¬ v < 0) (hN : v.toNatClampNeg = N) (hN2 : N ≤ 4000) (hm : c + 1 ≤ R.cells ∧ k + N ≤ R.slots)
    (h : jX E M R Z (pc + 3) lv (.ref (jn S) :: st) (jnew S kk N) (c + 1) (k + N)) : jX E M R Z pc lv (.int v :: st) S c k := by
  intro p e s m args below meth c0 hB H locs ls hV hS hl
  have ht : (jtys E)[kk - 12]? = some (eC E kk, .object q.1) ∧ va_AO q.1 s := by
    obtain ⟨-, -, -, -, -, -, -, -, -, -, -, -, -, o1, o2, o3, o4⟩ := hB.hG
    have e1 := hc.1
    rw [← hci] at e1
    rcases (show kk = 13 ∨ kk = 14 ∨ kk = 15 ∨ kk = 16 by omega) with rfl | rfl | rfl | rfl
    · cases e1; exact ⟨rfl, o1⟩
    · cases e1; exact ⟨rfl, o2⟩
    · cases e1; exact ⟨rfl, o3⟩
    · cases e1; exact ⟨rfl, o4⟩
  subst hN
  refine W.anew hB.hx hB.hb hB.hown (hB.hts _ w1) (va_AO.use ht.2) rfl hd rfl hv (by omega) hm.1 hm.2 fun cA kA comp f1 f2 f3 f4 => ?_
  obtain ⟨kA', comp', -, -, -, g4⟩ := (hB.hK.2 (kk - 12) _ ht.1).2
  have hcA : cA = eC E kk := Option.some.inj (f1.symm.trans g4)
  have z1 : (H.push ({ cls := cA, slots := Array.replicate v.toNatClampNeg .null, vm := .none } : Cell)).size = jn S + 1 := by rw [Array.size_push, hV.2.1]
  have o1 : ∀ q : Nat, q < jn S → (H.push ({ cls := cA, slots := Array.replicate v.toNatClampNeg .null, vm := .none } : Cell))[q]? = H[q]? := fun q hq => by rw [Array.getElem?_push, if_neg (by rw [hV.2.1]; omega)]
  have hF : (F0 m (pc + 3) ls (.ref H.size :: st)) = F0 m (pc + 3) ls (.ref (jn S) :: st) := by rw [hV.2.1]
  refine W.eq hF ?_
  refine h p e s m args below meth c0 hB _ locs ls (hV.new z1 o1 ?_) (hS.grow (by rw [z1, hV.2.1]; omega) (fun x hx => o1 x (by rw [← hV.2.1]; exact hx))) hl
  rw [jE_ra (S := jnew S kk v.toNatClampNeg) jk_new h1]
  have e5 : jl (jnew S kk v.toNatClampNeg) (jn S) = v.toNatClampNeg := va_up_self _ _ _
  have e6 : jr (jnew S kk v.toNatClampNeg) (jn S) = fun _ => none := va_up_self _ _ _
  show _ = some (arrV (eC E kk) (jl (jnew S kk v.toNatClampNeg) (jn S)) (fun j => va_rf (jr (jnew S kk v.toNatClampNeg) (jn S) j)))
  rw [e5, e6, ← hcA, ← hV.2.1, Array.getElem?_push_size, arrV_new]
  rfl
/-- System.arraycopy of ints -/
theorem jx_copy {a0 a : Nat} {sp dp v : Int32} (w1 : Cond.methodLink M.1.cls index arraycopyName ∈ jT) (w2 : Cond.native arraycopyName ∈ jT) (w3 : Cond.static arraycopyName ∈ jT) (w4 : Cond.initialized "java/lang/System" ∈ jT) (hd : decode M.2.1 pc = .ok (.invokestatic index, 3)) (hR : jRok R d) (hs : (st.map fun v => v.category).sum ≤ 8) (hk0 : jk S a0 = 12) (hk1 : jk S a = 12)
    (h1 : ¬ sp < 0) (h2 : ¬ dp < 0) (h3 : ¬ v < 0) (h4 : sp.toNatClampNeg + v.toNatClampNeg ≤ jl S a0) (h5 : dp.toNatClampNeg + v.toNatClampNeg ≤ jl S a)
    (h : jX E M R Z (pc + 3) lv st (jrow S a (va_cpy (ji S a0) (ji S a) sp.toNatClampNeg dp.toNatClampNeg v.toNatClampNeg)) c k) : jX E M R Z pc lv (.int v :: .int dp :: .ref a :: .int sp :: .ref a0 :: st) S c k := by
  intro p e s m args below meth c0 hB H locs ls hV hS hl
  have hR1 := hR.1
  have hR2 := hR.2
  have nn : ∀ z : Int32, ¬ z < 0 → z.toInt = (z.toNatClampNeg : Int) := by
    intro z hz
    have hz0 : (0 : Int) ≤ z.toInt := by
      have := Int32.not_lt.mp hz
      simpa using Int32.le_iff_toInt_le.mp this
    show z.toInt = ((z.toInt.toNat : Nat) : Int)
    omega
  have hnf : nativeFrameWords "java/lang/System" "arraycopy" 5 ≤ 30 := by decide +kernel
  intro T hT X
  have hc0 : H[a0]? = some (vp_cell (eC E 12) (jl S a0, .inl (ji S a0))) := hV.ia hk0 0 _ rfl
  have hc1 : H[a]? = some (vp_cell (eC E 12) (jl S a, .inl (ji S a))) := hV.ia hk1 0 _ rfl
  obtain ⟨-, k0, hkk0, cm0, hkk1⟩ := (hB.hK.2 0 _ rfl).1 (jl S a0) (fun j => .int (ji S a0 j))
  obtain ⟨-, k1, hkk2, cm1, hkk3⟩ := (hB.hK.2 0 _ rfl).1 (jl S a) (fun j => .int (ji S a j))
  obtain ⟨vm', X', step⟩ := X.arraycopy hB.hx hB.hown (hB.hts _ w1) (hB.hts _ w2) (hB.hts _ w3) (hB.hts _ w4) (src := a0) (dst := a) (cs := vp_cell (eC E 12) (jl S a0, .inl (ji S a0))) (cd := vp_cell (eC E 12) (jl S a, .inl (ji S a))) (srcPos := sp) (destPos := dp) (n := v) (by rw [hT]; exact hc0) (by rw [hT]; exact hc1)
    (fun _ h => by cases h) (fun _ h => by cases h) (fun h => by cases h) (fun h => by cases h) hkk0 hkk2 hkk1 hkk3 (by rfl) h1 h2 h3
    (by rw [nn sp h1, nn v h3]; show ¬ _ > ((arrV (eC E 12) (jl S a0) (fun j => .int (ji S a0 j))).slots.size : Int); rw [arrV_size]; omega)
    (by rw [nn dp h2, nn v h3]; show ¬ _ > ((arrV (eC E 12) (jl S a) (fun j => .int (ji S a j))).slots.size : Int); rw [arrV_size]; omega)
    (fun vm₁ _ i hi => by
      have e : (vp_cell (eC E 12) (jl S a0, .inl (ji S a0))).slots.getD (sp.toNatClampNeg + i) .null = .int (ji S a0 (sp.toNatClampNeg + i)) := by
        show (arrV (eC E 12) (jl S a0) (fun j => .int (ji S a0 j))).slots.getD _ _ = _
        rw [Array.getD_eq_getD_getElem?, arrV_read _ _ (by omega)]
        rfl
      refine ⟨?_, ?_⟩
      · rw [e]
        rfl
      · rw [e]
        exact trivial)
    (g := F0 m pc ls (.int v :: .int dp :: .ref a :: .int sp :: .ref a0 :: st)) rfl (by rw [hB.hml]; exact hl.1) (rest := st) rfl (by rw [hB.hb]; exact hd) (by omega) (by show 2 * 0 + _ + _ ≤ _; omega)
  have e1 : copied (vp_cell (eC E 12) (jl S a0, .inl (ji S a0))) (vp_cell (eC E 12) (jl S a, .inl (ji S a))) sp dp v = vp_cell (eC E 12) (jl S a, .inl (va_cpy (ji S a0) (ji S a) sp.toNatClampNeg dp.toNatClampNeg v.toNatClampNeg)) := va_copied (fun z => .int z) (eC E 12) (eC E 12) (ji S a0) (ji S a) h4
  rw [e1] at X' step
  have hla : a < H.size := (Array.getElem?_eq_some_iff.mp hc1).1
  have hB2 : eB E ≤ a := (hV.2.2.1 a (by rw [hk1]; decide)).1
  generalize hcell : vp_cell (eC E 12) (jl S a, .inl (va_cpy (ji S a0) (ji S a) sp.toNatClampNeg dp.toNatClampNeg v.toNatClampNeg)) = cell at X' step
  have hheap : ((T.setVm vm').setCell a cell).heap = H.setIfInBounds a cell := by rw [← hT]; rfl
  have oq : ∀ q : Nat, q ≠ a → (H.setIfInBounds a cell)[q]? = H[q]? := fun q hq => by simp [Array.getElem?_setIfInBounds, Ne.symm hq]
  have z1 : (H.setIfInBounds a cell).size = H.size := by simp
  obtain ⟨t, a1, b1⟩ := h p e s m args below meth c0 hB (H.setIfInBounds a cell) _ ls (hV.upd (S' := jrow S a (va_cpy (ji S a0) (ji S a) sp.toNatClampNeg dp.toNatClampNeg v.toNatClampNeg)) (a := a) rfl rfl (fun x hx => jE_row hx) (by
      rw [jE_ia (S := jrow S a _) hk1]
      have e6 : ji (jrow S a (va_cpy (ji S a0) (ji S a) sp.toNatClampNeg dp.toNatClampNeg v.toNatClampNeg)) a = va_cpy (ji S a0) (ji S a) sp.toNatClampNeg dp.toNatClampNeg v.toNatClampNeg := va_up_self _ _ _
      show (H.setIfInBounds a cell)[a]? = some (vp_cell (eC E 12) (jl S a, .inl _))
      rw [e6, hcell]
      simp [Array.getElem?_setIfInBounds, hla]) z1 oq hB2) ⟨by rw [z1]; exact hS.1, fun q g1 g2 => by
      rw [oq q (fun e => g2 (by rw [e]; exact hB2))]
      exact hS.2.1 q g1 g2, fun q hq => by
      rcases List.mem_append.mp hq with h | h
      · exact hS.2.2 q h
      · obtain ⟨z, -, hz⟩ := List.mem_map.mp h
        rw [← hz]
        exact hB2⟩ hl _ hheap X'
  exact ⟨t, step t a1, b1⟩
/-- the table ABOVE -/
theorem jx_above (hM : M.1.cls = RX2) (hd : decode M.2.1 pc = .ok (.getstatic 38, 3)) (h : jX E M R Z (pc + 3) lv (.ref (eT E) :: st) S c k) : jX E M R Z pc lv st S c k := by
  intro p e s m args below meth c0 hB H locs ls hV hS hl
  obtain ⟨h1, -, -, -, -, -, -, -, -, -, -, -, n2, -⟩ := hB.hG
  obtain ⟨q1, q2, q3⟩ := hB.hq
  exact va_getsN (A := eA E) (own := RX2) (ref := "NineMasters") (index := 38) hB.hx hB.hb (h1.kept (fun a h9 h8 => q1 a (Nat.not_le.mp h8))) hS (by rw [← hM]; exact hB.hown) (va_Nw.use rfl n2) (fun _ h9 => h9) hd (h p e s m args below meth c0 hB H locs ls hV hS hl)
theorem jx_aboveLd {i : Int32} (hd : decode M.2.1 pc = .ok (.iaload, 1)) (hin : vp_in i 6) (h : jX E M R Z (pc + 1) lv (.int (([-1, 0, 0, 1, 2, 0] : List Int32).getD i.toNatClampNeg 0) :: st) S c k) : jX E M R Z pc lv (.int i :: .ref (eT E) :: st) S c k := by
  intro p e s m args below meth c0 hB H locs ls hV hS hl
  obtain ⟨-, h1, -⟩ := hB.hG
  obtain ⟨q1, q2, q3⟩ := hB.hq
  exact va_ti (A := eA E) hB.hx hB.hb (h1.kept (fun a h9 h8 => q1 a (Nat.not_le.mp h8))) hS hin rfl hd (h p e s m args below meth c0 hB H locs ls hV hS hl)
end jAlloc
end
