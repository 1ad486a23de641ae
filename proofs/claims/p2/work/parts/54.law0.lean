/-! THE CLAIM OUT OF ONE WALK OF THE LAW'S BODY. Your part is whole_start (and what it stands on); all else here is the same for every law, but numbers. -/
def R_law : String := "NineMastersLaw"
def lw_P (b : Addr) (xs : List Int32) (args : Array Value) (s : State) : Prop := args = #[.ref b] ∧ s.IntsAt b xs ∧ xs.length ≤ 384 ∧ (Jvm.Cond.and given_1 narrow_1).before args s = true
def lw_Q (_ : Array Value) (s : State) (o : Outcome) (t : State) : Prop := o = .returned (some (.int 1)) ∧ Framed s o t [] 600000 7302250
def lw_Z (below : List Frame) (a : Array Value) (s : State) : State → Prop := fun t => ∃ o, t.status = .running ∧ Ended t below o ∧ lw_Q a s o t
/-- the law's own end, with 1 on the stack, nothing written that was there before, its room as the claim has it -/
theorem lw_ret {p : Program} {l : Launch} {e : Env} {s : State} {m : MethodId} {below : List Frame} {meth : Method} {c : Code} {b : Nat} (hx : p.tables.exec = Jvm.exec) (hb : c.code = code) (hr : meth.sig.returnType = ret) (hlocks : meth.locks = false) {pc : Nat} {H : Heap} {ls : Array Slot} (hdg : decode code pc = .ok (.ireturn, 1)) : W p l e room_1 s m #[Value.ref b] below meth c H [] 600000 7302250 (lw_Z below #[Value.ref b] s) (F0 m pc ls [.int 1]) := by
  intro T hT X
  obtain ⟨fs, hret, hrun, hended, hW, hframe⟩ := X.leave (v := some (.int 1)) (hlocks := hlocks) (fun h => by rw [hr] at h; cases h)
  have hmeth' : T.vm.method? m = some meth := X.method'
  refine ⟨T.setFrames fs, ?_, .returned (some (.int 1)), hrun, hended, rfl, ⟨_, rfl⟩, hW, hframe⟩
  jvm_step X.here [X.here.top, hx, hb, hdg, hmeth', hr, ret, narrow_b1]
  (try refine ⟨rfl, ?_⟩); (try refine ⟨rfl, ?_⟩)
  first | (intro acts; rw [hret _ acts rfl rfl rfl]) | rw [hret _ _ rfl rfl rfl]
  exact Steps.refl _
/-- what holds at the law's entry: the machine, the code, the tables' words (any of lw_tbl by 'hts w (by decide +kernel)'), the script of L ints xs at the cell b, what the Statement gives of the start (any of its parts by flat_of_before) -/
def lw_At (p : Program) (s : State) (m : MethodId) (meth : Method) (c : Code) (b L : Nat) (xs : Nat → Int32) : Prop :=
  p.tables.exec = Jvm.exec ∧ c.code = code ∧ meth.sig.returnType = ret ∧ c.maxLocals = 4 ∧ s.vm.findClass R_law = some m.cls ∧ (∀ w ∈ lw_tbl, w.before #[Value.ref b] s = true) ∧ va_X b L xs s s.heap ∧ b < s.heap.size ∧ meth.locks = false ∧ (Jvm.Cond.and given_1 narrow_1).before #[Value.ref b] s = true
/-! THE LAW as a body of the layer -/
abbrev mLw (nm : String) : jMd := (⟨RL, nm, "([I)Z"⟩, code, 4, ret)
/-- what is so of the law's own start -/
def jLc (E : jEnv) (b L : Nat) (xs : Nat → Int32) (args : Array Value) (s : State) : Prop := args = #[Value.ref b] ∧ va_X b L xs s s.heap ∧ b < s.heap.size ∧ eB E = s.heap.size
def jZL (E : jEnv) (b L : Nat) (xs : Nat → Int32) : jZ := fun below args s t => jLc E b L xs args s → lw_Z below args s t
section jLaw
variable {E : jEnv} {M : jMd} {R : Room} {pc : Nat} {lv lv1 : List (Nat × Value)} {st : List Value} {S : jM} {c k b L : Nat} {xs : Nat → Int32}
theorem jx_sld {i : Int32} (hd : decode M.2.1 pc = .ok (.iaload, 1)) (hin : vp_in i L) (h : jX E M R (jZL E b L xs) (pc + 1) lv (.int (xs i.toNatClampNeg) :: st) S c k) : jX E M R (jZL E b L xs) pc lv (.int i :: .ref b :: st) S c k := by
  intro p e s m args below meth c0 hB H locs ls hV hS hl
  by_cases hc : jLc E b L xs args s
  · exact va_sld (H0 := s.heap) hB.hx hB.hb hc.2.1 hc.2.2.1 (by show ¬ eB E ≤ b; rw [hc.2.2.2]; exact Nat.not_le.mpr hc.2.2.1) hS hin hd (h p e s m args below meth c0 hB H locs ls hV hS hl)
  · intro T hT X
    exact ⟨_, Steps.refl _, fun h9 => absurd h9 hc⟩
theorem jx_slen (hd : decode M.2.1 pc = .ok (.arraylength, 1)) (h : jX E M R (jZL E b L xs) (pc + 1) lv (.int (nI L) :: st) S c k) : jX E M R (jZL E b L xs) pc lv (.ref b :: st) S c k := by
  intro p e s m args below meth c0 hB H locs ls hV hS hl
  by_cases hc : jLc E b L xs args s
  · exact va_slen (H0 := s.heap) hB.hx hB.hb hc.2.1 hc.2.2.1 (by show ¬ eB E ≤ b; rw [hc.2.2.2]; exact Nat.not_le.mpr hc.2.2.1) hS hd (h p e s m args below meth c0 hB H locs ls hV hS hl)
  · intro T hT X
    exact ⟨_, Steps.refl _, fun h9 => absurd h9 hc⟩
theorem jx_lawEnd {nm : String} (hd : decode code pc = .ok (.ireturn, 1)) (hc : c ≤ 600000) (hk : k ≤ 7302250) : jX E (mLw nm) room_1 (jZL E b L xs) pc lv [.int 1] S c k := by
  intro p e s m args below meth c0 hB H locs ls hV hS hl
  by_cases hcx : jLc E b L xs args s
  · obtain ⟨rfl, hX, hbl, hz⟩ := id hcx
    intro T hT X
    obtain ⟨t, a1, b1⟩ := (W.widen hc hk (va_forget (fun q hq => by rw [← hz]; exact hS.2.2 q hq) (lw_ret (l := eL E) hB.hx hB.hb hB.hr hB.hlk hd))) T hT X
    exact ⟨t, a1, fun _ => b1⟩
  · intro T hT X
    exact ⟨_, Steps.refl _, fun h9 => absurd h9 hcx⟩
end jLaw
