/-! THE LAYER: calls, ends, new cells, Math, arraycopy -/
def jMo (M : jMd) (n : Nat) : Prop := Cond.code M.1 M.2.1 M.2.2.1 M.2.2.2 ∈ jT ∧ Cond.initialized M.1.cls ∈ jT ∧ M.1.cls ≠ "java/lang/invoke/MethodHandle" ∧ M.1.cls ≠ "java/lang/invoke/VarHandle" ∧ (parseMethodDescriptor M.1.desc).map (fun d => d.parameters.length) = some n ∧ M.2.2.1 ≤ 45
def jRok (R : Room) (d : Nat) : Prop := d + 1 ≤ R.frames ∧ 64 * d + 64 ≤ R.locals
theorem jRok_m (d mc ms : Nat) : jRok (jRm (d + 1) mc ms) d := ⟨Nat.le_refl _, by show 64 * d + 64 ≤ 64 * (d + 1); omega⟩
theorem jGood {M : jMd} {n : Nat} (h : jMo M n) : GoodIn jT (Cond.code M.1 M.2.1 M.2.2.1 M.2.2.2 :: jT) := by
  intro w hw
  rcases List.mem_cons.mp hw with rfl | hw
  · exact ⟨h.1, jT_good _ h.1⟩
  · exact ⟨hw, jT_good w hw⟩
section jCalls
variable {E : jEnv} {M M' : jMd} {R : Room} {Z : jZ} {pc : Nat} {lv lv1 : List (Nat × Value)} {st : List Value} {S : jM} {c k : Nat} {d mc ms n index : Nat} {Q' : Option Value → jM → Prop} {As : List Value}
theorem jx_cont {p : Program} {e : Env} {s : State} {m : MethodId} {args : Array Value} {below : List Frame} {meth : Method} {c0 : Code} (hB : jB E M p s m args meth c0) {H : Heap} {locs : List Loc} {ls : Array Slot} (hS : va_S (eA E) s.heap H locs) {st0 rest : List Value} {a : Array Value} {Zs : State → Prop}
    (hr : va_Run p (eL E) e R s m args below meth c0 H locs c k mc ms (F0 m pc ls st0) rest (jQ E Q' a) (eA E))
    (kk : ∀ (r : Option Value) (S' : jM), Q' r S' → ∀ (H1 : Heap) (locs1 : List Loc), jV E S' H1 → va_S (eA E) s.heap H1 locs1 → W p (eL E) e R s m args below meth c0 H1 locs1 (c + mc) (k + ms) Zs (F0 m (pc + 3) ls (r.toList ++ rest))) :
    W p (eL E) e R s m args below meth c0 H locs c k Zs (F0 m pc ls st0) := by
  intro T hT X
  obtain ⟨v, st₀, t, T', L, h0, X', hL, e1, e2, ⟨⟨r, S', hv, hq, hV'⟩, hz⟩, stp⟩ := hr T hT X
  cases hv
  rw [h0] at hz
  obtain ⟨q1, q2, q3⟩ := hB.hq
  have hS' : va_S (eA E) s.heap T'.heap (locs ++ L) := by
    refine ⟨Nat.le_trans hS.1 (by rw [e1]; exact hz), fun q h1 h2 => ?_, fun q hqq => ?_⟩
    · have hlt : q < eB E := Nat.not_le.mp h2
      rw [e1, hV'.2.2.2.2.1 q hlt, q1 q hlt]
    · rcases List.mem_append.mp hqq with h | h
      · exact hS.2.2 q h
      · exact hL q h
  obtain ⟨t2, a1, b1⟩ := kk _ S' hq T'.heap (locs ++ L) (by rw [e1]; exact hV') hS' T' rfl X'
  exact ⟨t2, stp t2 a1, b1⟩
theorem jx_callV {ci b : Nat} {q : vw_C} {ty : Nat → FieldType} (ho : jMo M' n) (hc : jCl ci q ty) (hq : q.1 = M'.1.cls) (w1 : Cond.methodLink M.1.cls index M'.1 ∈ jT) (w2 : Cond.instanceMethod M'.1 ∈ jT) (w3 : Cond.selects M'.1.cls M'.1 M'.1 ∈ jT) (hd : decode M.2.1 pc = .ok (.invokevirtual index, 3)) (hR : jRok R d) (hA : As.length = n) (hs : (st.map fun v => v.category).sum ≤ 8) (hm : c + mc ≤ R.cells ∧ k + ms ≤ R.slots) (hk : jk S b = ci)
    (hF : jF E M' d mc ms (.ref b :: As) S Q') (h : ∀ (r : Option Value) (S' : jM), Q' r S' → jX E M R Z (pc + 3) lv (r.toList ++ st) S' (c + mc) (k + ms)) : jX E M R Z pc lv (As.reverse ++ .ref b :: st) S c k := by
  intro p e s m args below meth c0 hB H locs ls hV hS hl
  have hx45 := ho.2.2.2.2.2
  have hR1 := hR.1
  have hR2 := hR.2
  refine jx_cont hB hS (va_runV (g := F0 m pc ls (As.reverse ++ .ref b :: st)) (C := M'.1.cls) (Ts := jT) ⟨hB.hx, hB.hb, hB.hml, hB.hown, hB.hts⟩ hF ⟨callB_of n hB.hts (jGood ho) rfl rfl rfl (hB.hts _ ho.2.1) (hB.hts _ w1) ⟨ho.2.2.1, ho.2.2.2.1, ho.2.2.2.2.1⟩ ⟨hR1, by show 8 + (M'.2.2.1 + 11) + 64 * d ≤ R.locals; omega⟩, hB.hts _ w2, hB.hts _ w3⟩ ⟨jPre.blind, by rw [← hq]; exact va_recv hB.hK (hV.obj hk hc) hc.1 (q0 := 0) rfl, fun U hU hW => ⟨rfl, by rw [hU]; exact hV, va_K.moved hW.alike hB.hK, hB.hG.warm hW⟩⟩ rfl hA hl.1 rfl (lv_room hs) hd hm) (fun r S' hq2 H1 locs1 hV1 hS1 => h r S' hq2 p e s m args below meth c0 hB H1 locs1 ls hV1 hS1 hl)
theorem jx_callS (ho : jMo M' n) (w1 : Cond.methodLink M.1.cls index M'.1 ∈ jT) (w2 : Cond.static M'.1 ∈ jT) (hd : decode M.2.1 pc = .ok (.invokestatic index, 3)) (hR : jRok R d) (hA : As.length = n) (hs : (st.map fun v => v.category).sum ≤ 8) (hm : c + mc ≤ R.cells ∧ k + ms ≤ R.slots)
    (hF : jF E M' d mc ms As S Q') (h : ∀ (r : Option Value) (S' : jM), Q' r S' → jX E M R Z (pc + 3) lv (r.toList ++ st) S' (c + mc) (k + ms)) : jX E M R Z pc lv (As.reverse ++ st) S c k := by
  intro p e s m args below meth c0 hB H locs ls hV hS hl
  have hx45 := ho.2.2.2.2.2
  have hR1 := hR.1
  have hR2 := hR.2
  refine jx_cont hB hS (va_runS (g := F0 m pc ls (As.reverse ++ st)) (Ts := jT) ⟨hB.hx, hB.hb, hB.hml, hB.hown, hB.hts⟩ hF ⟨callB_of n hB.hts (jGood ho) rfl rfl rfl (hB.hts _ ho.2.1) (hB.hts _ w1) ⟨ho.2.2.1, ho.2.2.2.1, ho.2.2.2.2.1⟩ ⟨hR1, by show 8 + (M'.2.2.1 + 11) + 64 * d ≤ R.locals; omega⟩, hB.hts _ w2⟩ ⟨jPre.blind, fun U hU hW => ⟨rfl, by rw [hU]; exact hV, va_K.moved hW.alike hB.hK, hB.hG.warm hW⟩⟩ rfl hA hl.1 rfl (lv_room hs) hd hm) (fun r S' hq2 H1 locs1 hV1 hS1 => h r S' hq2 p e s m args below meth c0 hB H1 locs1 ls hV1 hS1 hl)
theorem jx_callI {b : Nat} (ho : jMo M' n) (hi : M'.1.name = "<init>") (w1 : Cond.methodLink M.1.cls index M'.1 ∈ jT) (w2 : Cond.instanceMethod M'.1 ∈ jT) (hret : M'.2.2.2 = none) (hd : decode M.2.1 pc = .ok (.invokespecial index, 3)) (hR : jRok R d) (hA : As.length = n) (hs : (st.map fun v => v.category).sum ≤ 8) (hm : c + mc ≤ R.cells ∧ k + ms ≤ R.slots)
    (hF : jF E M' d mc ms (.ref b :: As) S Q') (h : ∀ (r : Option Value) (S' : jM), Q' r S' → jX E M R Z (pc + 3) lv (r.toList ++ st) S' (c + mc) (k + ms)) : jX E M R Z pc lv (As.reverse ++ .ref b :: st) S c k := by
  intro p e s m args below meth c0 hB H locs ls hV hS hl
  have hx45 := ho.2.2.2.2.2
  have hR1 := hR.1
  have hR2 := hR.2
  obtain ⟨y, cc, mL, rt⟩ := M'
  obtain rfl : rt = none := hret
  have hx46 : mL ≤ 45 := hx45
  refine jx_cont hB hS (va_runI (g := F0 m pc ls (As.reverse ++ .ref b :: st)) (Ts := jT) ⟨hB.hx, hB.hb, hB.hml, hB.hown, hB.hts⟩ hF ⟨callB_of n hB.hts (jGood ho) rfl rfl rfl (hB.hts _ ho.2.1) (hB.hts _ w1) ⟨ho.2.2.1, ho.2.2.2.1, ho.2.2.2.2.1⟩ ⟨hR1, by show 8 + (mL + 11) + 64 * d ≤ R.locals; omega⟩, hi, hB.hts _ w2⟩ ⟨jPre.blind, fun U hU hW => ⟨rfl, by rw [hU]; exact hV, va_K.moved hW.alike hB.hK, hB.hG.warm hW⟩⟩ rfl hA hl.1 rfl (lv_room hs) hd hm) (fun r S' hq2 H1 locs1 hV1 hS1 => h r S' hq2 p e s m args below meth c0 hB H1 locs1 ls hV1 hS1 hl)
theorem jx_callSN {host : String} (ho : jMo M' n) (w1 : (M.1.cls, index, M'.1, host) ∈ jNest) (w2 : Cond.static M'.1 ∈ jT) (hd : decode M.2.1 pc = .ok (.invokestatic index, 3)) (hR : jRok R d) (hA : As.length = n) (hs : (st.map fun v => v.category).sum ≤ 8) (hm : c + mc ≤ R.cells ∧ k + ms ≤ R.slots)
    (hF : jF E M' d mc ms As S Q') (h : ∀ (r : Option Value) (S' : jM), Q' r S' → jX E M R Z (pc + 3) lv (r.toList ++ st) S' (c + mc) (k + ms)) : jX E M R Z pc lv (As.reverse ++ st) S c k := by
  intro p e s m args below meth c0 hB H locs ls hV hS hl
  have hx45 := ho.2.2.2.2.2
  have hR1 := hR.1
  have hR2 := hR.2
  have hG := hB.hG
  obtain ⟨-, -, -, -, -, -, -, -, -, -, -, hn, -⟩ := hG
  refine jx_cont hB hS (va_runSN (g := F0 m pc ls (As.reverse ++ st)) (Ts := jT) (host := host) ⟨hB.hx, hB.hb, hB.hml, hB.hown, hB.hts⟩ hF ⟨va_cnB n hB.hts (jGood ho) rfl rfl rfl (hn _ w1) (hB.hts _ ho.2.1) ⟨ho.2.2.1, ho.2.2.2.1, ho.2.2.2.2.1⟩ ⟨hR1, by show 8 + (M'.2.2.1 + 11) + 64 * d ≤ R.locals; omega⟩, hB.hts _ w2, trivial⟩ ⟨jPre.blind, fun U hU hW => ⟨rfl, by rw [hU]; exact hV, va_K.moved hW.alike hB.hK, hB.hG.warm hW⟩⟩ rfl hA hl.1 rfl (lv_room hs) hd hm) (fun r S' hq2 H1 locs1 hV1 hS1 => h r S' hq2 p e s m args below meth c0 hB H1 locs1 ls hV1 hS1 hl)
theorem jx_callIN {host : String} {b : Nat} (ho : jMo M' n) (hi : M'.1.name = "<init>") (w1 : (M.1.cls, index, M'.1, host) ∈ jNest) (w2 : Cond.instanceMethod M'.1 ∈ jT) (hret : M'.2.2.2 = none) (hd : decode M.2.1 pc = .ok (.invokespecial index, 3)) (hR : jRok R d) (hA : As.length = n) (hs : (st.map fun v => v.category).sum ≤ 8) (hm : c + mc ≤ R.cells ∧ k + ms ≤ R.slots)
    (hF : jF E M' d mc ms (.ref b :: As) S Q') (h : ∀ (r : Option Value) (S' : jM), Q' r S' → jX E M R Z (pc + 3) lv (r.toList ++ st) S' (c + mc) (k + ms)) : jX E M R Z pc lv (As.reverse ++ .ref b :: st) S c k := by
  intro p e s m args below meth c0 hB H locs ls hV hS hl
  have hx45 := ho.2.2.2.2.2
  have hR1 := hR.1
  have hR2 := hR.2
  have hG := hB.hG
  obtain ⟨-, -, -, -, -, -, -, -, -, -, -, hn, -⟩ := hG
  obtain ⟨y, cc, mL, rt⟩ := M'
  obtain rfl : rt = none := hret
  have hx46 : mL ≤ 45 := hx45
  refine jx_cont hB hS (va_runIN (g := F0 m pc ls (As.reverse ++ .ref b :: st)) (Ts := jT) (host := host) ⟨hB.hx, hB.hb, hB.hml, hB.hown, hB.hts⟩ hF ⟨va_cnB n hB.hts (jGood ho) rfl rfl rfl (hn _ w1) (hB.hts _ ho.2.1) ⟨ho.2.2.1, ho.2.2.2.1, ho.2.2.2.2.1⟩ ⟨hR1, by show 8 + (mL + 11) + 64 * d ≤ R.locals; omega⟩, hi, hB.hts _ w2⟩ ⟨jPre.blind, fun U hU hW => ⟨rfl, by rw [hU]; exact hV, va_K.moved hW.alike hB.hK, hB.hG.warm hW⟩⟩ rfl hA hl.1 rfl (lv_room hs) hd hm) (fun r S' hq2 H1 locs1 hV1 hS1 => h r S' hq2 p e s m args below meth c0 hB H1 locs1 ls hV1 hS1 hl)
/-- Object's own constructor -/
theorem jx_objInit {a : Nat} (w1 : Cond.methodLink M.1.cls index Lib.objectInit ∈ jT) (w2 : Cond.instanceMethod Lib.objectInit ∈ jT) (w3 : Cond.code Lib.objectInit ⟨#[0xb1]⟩ 1 none ∈ jT) (hd : decode M.2.1 pc = .ok (.invokespecial index, 3)) (hR : jRok R d) (hs : (st.map fun v => v.category).sum ≤ 8) (h : jX E M R Z (pc + 3) lv st S c k) : jX E M R Z pc lv (.ref a :: st) S c k := by
  intro p e s m args below meth c0 hB H locs ls hV hS hl
  have hR1 := hR.1
  have hR2 := hR.2
  exact W.objInit hB.hx hB.hb hB.hown (hB.hts _ w1) (hB.hts _ w2) (hB.hts _ w3) rfl (by rw [hB.hml]; exact hl.1) rfl hd (by omega) (by have h9 := lv_room (m := m) (pc := pc) (ls := ls) (rest := .ref a :: st) hs; omega) (h p e s m args below meth c0 hB H locs ls hV hS hl)
/-- the ends -/
theorem jx_iret {Q : Option Value → jM → Prop} {ty : FieldType} {v : Int32} (hd : decode M.2.1 pc = .ok (.ireturn, 1)) (hr : M.2.2.2 = some ty) (hn : narrow ty (.int v) = .int v) (hc : c ≤ mc) (hk : k ≤ ms) (hq : Q (some (.int v)) S) : jX E M R (jZm E Q mc ms) pc lv [.int v] S c k := by
  intro p e s m args below meth c0 hB H locs ls hV hS hl
  exact W.widen hc hk (W.zret (hlocks := hB.hlk) hB.hx hB.hb (hB.hr.trans hr) hn (fun t ht hW => ⟨⟨_, S, rfl, hq, by rw [ht]; exact hV⟩, by rw [ht]; exact hS.1⟩) hS.2.2 hd)
theorem jx_vret {Q : Option Value → jM → Prop} (hd : decode M.2.1 pc = .ok (.return_, 1)) (hr : M.2.2.2 = none) (hc : c ≤ mc) (hk : k ≤ ms) (hq : Q none S) : jX E M R (jZm E Q mc ms) pc lv [] S c k := by
  intro p e s m args below meth c0 hB H locs ls hV hS hl
  exact W.widen hc hk (W.vret (hlocks := hB.hlk) hB.hx hB.hb (hB.hr.trans hr) (fun t ht hW => ⟨⟨_, S, rfl, hq, by rw [ht]; exact hV⟩, by rw [ht]; exact hS.1⟩) hS.2.2 hd)
theorem jx_aret {Q : Option Value → jM → Prop} {C : String} {o : Option Nat} (hd : decode M.2.1 pc = .ok (.areturn, 1)) (hr : M.2.2.2 = some (.object C)) (hc : c ≤ mc) (hk : k ≤ ms) (hq : Q (some (va_rf o)) S) : jX E M R (jZm E Q mc ms) pc lv [va_rf o] S c k := by
  intro p e s m args below meth c0 hB H locs ls hV hS hl
  exact W.widen hc hk (W.aret (hlocks := hB.hlk) hB.hx hB.hb (hB.hr.trans hr) (Or.inl ⟨_, rfl⟩) (by cases o with | none => exact Or.inl rfl | some b => exact Or.inr ⟨b, rfl⟩) (fun t ht hW => ⟨⟨_, S, rfl, hq, by rw [ht]; exact hV⟩, by rw [ht]; exact hS.1⟩) hS.2.2 hd)
/-- Math -/
theorem jx_min {x y : Int32} (w1 : Cond.methodLink M.1.cls index Lib.Math.min.name ∈ jT) (w2 : Cond.static Lib.Math.min.name ∈ jT) (w3 : Cond.initialized "java/lang/Math" ∈ jT) (w4 : Cond.code Lib.Math.min.name Lib.Math.min.code 2 (some .int) ∈ jT) (hd : decode M.2.1 pc = .ok (.invokestatic index, 3)) (hR : jRok R d) (hs : (st.map fun v => v.category).sum ≤ 8) (hm : c ≤ R.cells ∧ k ≤ R.slots) (h : jX E M R Z (pc + 3) lv (.int (if y < x then y else x) :: st) S c k) : jX E M R Z pc lv (.int y :: .int x :: st) S c k := by
  intro p e s m args below meth c0 hB H locs ls hV hS hl
  have hR1 := hR.1
  have hR2 := hR.2
  exact va_mmin hB.hx hB.hb (by rw [hB.hml]; exact hl.1.symm) hB.hown (hB.hts _ w1) (hB.hts _ w2) (hB.hts _ w3) (hB.hts _ w4) (by omega) (by omega) hm.1 hm.2 hd (h p e s m args below meth c0 hB H locs ls hV hS hl)
theorem jx_max {x y : Int32} (w1 : Cond.methodLink M.1.cls index Lib.Math.max.name ∈ jT) (w2 : Cond.static Lib.Math.max.name ∈ jT) (w3 : Cond.initialized "java/lang/Math" ∈ jT) (w4 : Cond.code Lib.Math.max.name Lib.Math.max.code 2 (some .int) ∈ jT) (hd : decode M.2.1 pc = .ok (.invokestatic index, 3)) (hR : jRok R d) (hs : (st.map fun v => v.category).sum ≤ 8) (hm : c ≤ R.cells ∧ k ≤ R.slots) (h : jX E M R Z (pc + 3) lv (.int (if x < y then y else x) :: st) S c k) : jX E M R Z pc lv (.int y :: .int x :: st) S c k := by
  intro p e s m args below meth c0 hB H locs ls hV hS hl
  have hR1 := hR.1
  have hR2 := hR.2
  exact va_mmax hB.hx hB.hb (by rw [hB.hml]; exact hl.1.symm) hB.hown (hB.hts _ w1) (hB.hts _ w2) (hB.hts _ w3) (hB.hts _ w4) (by omega) (by omega) hm.1 hm.2 hd (h p e s m args below meth c0 hB H locs ls hV hS hl)
theorem jx_abs {x : Int32} (w1 : Cond.methodLink M.1.cls index Lib.Math.abs.name ∈ jT) (w2 : Cond.static Lib.Math.abs.name ∈ jT) (w3 : Cond.initialized "java/lang/Math" ∈ jT) (w4 : Cond.code Lib.Math.abs.name Lib.Math.abs.code 1 (some .int) ∈ jT) (hd : decode M.2.1 pc = .ok (.invokestatic index, 3)) (hR : jRok R d) (hs : (st.map fun v => v.category).sum ≤ 8) (hm : c ≤ R.cells ∧ k ≤ R.slots) (h : jX E M R Z (pc + 3) lv (.int (if 0 ≤ x then x else 0 - x) :: st) S c k) : jX E M R Z pc lv (.int x :: st) S c k := by
  intro p e s m args below meth c0 hB H locs ls hV hS hl
  have hR1 := hR.1
  have hR2 := hR.2
  exact va_mabs hB.hx hB.hb (by rw [hB.hml]; exact hl.1.symm) hB.hown (hB.hts _ w1) (hB.hts _ w2) (hB.hts _ w3) (hB.hts _ w4) (by omega) (by omega) hm.1 hm.2 hd (h p e s m args below meth c0 hB H locs ls hV hS hl)
end jCalls
