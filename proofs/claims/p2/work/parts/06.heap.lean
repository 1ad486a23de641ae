/-! THE LAYER, the heap: fields, arrays, new cells -/
def jCl (ci : Nat) (q : vw_C) (ty : Nat → FieldType) : Prop :=
  vwCl[ci]? = some q ∧ (∀ w ∈ u_ws q.1 q.2.1 q.2.2, w ∈ jT) ∧ (∀ a, a < q.2.2 → ∀ b, b < q.2.2 → a ≠ b → (q.2.1 a).2.1 ≠ (q.2.1 b).2.1) ∧ (∀ x, x < q.2.2 → parseFieldDescriptor (q.2.1 x).2.2.1 = some (ty x)) ∧ ci < 12 ∧ ∀ x, x < q.2.2 → (q.2.1 x).1 = q.1
theorem jB.hx {E : jEnv} {M : jMd} {p : Program} {s : State} {m : MethodId} {args : Array Value} {meth : Method} {c : Code} (h : jB E M p s m args meth c) : p.tables.exec = Jvm.exec := h.1
theorem jB.hb {E : jEnv} {M : jMd} {p : Program} {s : State} {m : MethodId} {args : Array Value} {meth : Method} {c : Code} (h : jB E M p s m args meth c) : c.code = M.2.1 := h.2.1
theorem jB.hr {E : jEnv} {M : jMd} {p : Program} {s : State} {m : MethodId} {args : Array Value} {meth : Method} {c : Code} (h : jB E M p s m args meth c) : meth.sig.returnType = M.2.2.2 := h.2.2.1
theorem jB.hml {E : jEnv} {M : jMd} {p : Program} {s : State} {m : MethodId} {args : Array Value} {meth : Method} {c : Code} (h : jB E M p s m args meth c) : c.maxLocals = M.2.2.1 := h.2.2.2.1
theorem jB.hown {E : jEnv} {M : jMd} {p : Program} {s : State} {m : MethodId} {args : Array Value} {meth : Method} {c : Code} (h : jB E M p s m args meth c) : s.vm.findClass M.1.cls = some m.cls := h.2.2.2.2.1
theorem jB.hts {E : jEnv} {M : jMd} {p : Program} {s : State} {m : MethodId} {args : Array Value} {meth : Method} {c : Code} (h : jB E M p s m args meth c) : ∀ w ∈ jT, w.before args s = true := h.2.2.2.2.2.1
theorem jB.hlk {E : jEnv} {M : jMd} {p : Program} {s : State} {m : MethodId} {args : Array Value} {meth : Method} {c : Code} (h : jB E M p s m args meth c) : meth.locks = false := h.2.2.2.2.2.2.1
theorem jB.hK {E : jEnv} {M : jMd} {p : Program} {s : State} {m : MethodId} {args : Array Value} {meth : Method} {c : Code} (h : jB E M p s m args meth c) : va_K (eD E) vwCl (jtys E) s := h.2.2.2.2.2.2.2.1
theorem jB.hnm {E : jEnv} {M : jMd} {p : Program} {s : State} {m : MethodId} {args : Array Value} {meth : Method} {c : Code} (h : jB E M p s m args meth c) : meth.name = M.1.name := h.2.2.2.2.2.2.2.2.1
theorem jB.hG {E : jEnv} {M : jMd} {p : Program} {s : State} {m : MethodId} {args : Array Value} {meth : Method} {c : Code} (h : jB E M p s m args meth c) : jG E s := h.2.2.2.2.2.2.2.2.2.1
theorem jB.hq {E : jEnv} {M : jMd} {p : Program} {s : State} {m : MethodId} {args : Array Value} {meth : Method} {c : Code} (h : jB E M p s m args meth c) : (∀ q, q < eB E → s.heap[q]? = (eG E)[q]?) ∧ (eG E).size = eB E ∧ eB E ≤ s.heap.size := h.2.2.2.2.2.2.2.2.2.2
theorem jE_obj {cy : Nat → ClassId} {S : jM} {a ci : Nat} {q : vw_C} {ty : Nat → FieldType} (hk : jk S a = ci) (hc : jCl ci q ty) : jE cy S a = .inr (ci, (List.range q.2.2).map (jfv S a)) := by
  have hN : jtN ci = q.2.2 := by unfold jtN; rw [hc.1]
  unfold jE
  rw [hk, if_pos hc.2.2.2.2.1, hN]
theorem jE_ia {cy : Nat → ClassId} {S : jM} {a : Nat} (hk : jk S a = 12) : jE cy S a = .inl (cy 12, jl S a, .inl (ji S a)) := by
  unfold jE
  rw [hk, if_neg (by decide), if_pos rfl]
theorem jE_ra {cy : Nat → ClassId} {S : jM} {a kk : Nat} (hk : jk S a = kk) (h : 12 < kk) : jE cy S a = .inl (cy kk, jl S a, .inr (.inr (.inr (.inr (jr S a))))) := by
  unfold jE
  rw [hk, if_neg (by omega), if_neg (by omega)]
theorem va_P1 {D : va_G} {cl : List vw_C} {a : Nat} {e : va_E} {H : Heap} (h : va_at D cl (a, e) H) : va_P D cl [(a, e)] H := by
  intro i x hx
  cases i with
  | zero => cases hx; exact h
  | succ i => simp at hx
theorem jV.obj {E : jEnv} {S : jM} {H : Heap} {a ci : Nat} {q : vw_C} {ty : Nat → FieldType} (hV : jV E S H) (hk : jk S a = ci) (hc : jCl ci q ty) : va_P (eD E) vwCl [(a, .inr (ci, (List.range q.2.2).map (jfv S a)))] H := by
  have h := hV.1 a (by rw [hk]; exact Nat.lt_trans hc.2.2.2.2.1 (by decide))
  rw [jE_obj hk hc] at h
  exact va_P1 h
theorem jV.ia {E : jEnv} {S : jM} {H : Heap} {a : Nat} (hV : jV E S H) (hk : jk S a = 12) : va_P (eD E) vwCl [(a, .inl (eC E 12, jl S a, .inl (ji S a)))] H := by
  have h := hV.1 a (by rw [hk]; decide)
  rw [jE_ia hk] at h
  exact va_P1 h
theorem jV.ra {E : jEnv} {S : jM} {H : Heap} {a kk : Nat} (hV : jV E S H) (hk : jk S a = kk) (h1 : 12 < kk) (h2 : kk < 17) : va_P (eD E) vwCl [(a, .inl (eC E kk, jl S a, .inr (.inr (.inr (.inr (jr S a))))))] H := by
  have h := hV.1 a (by rw [hk]; exact h2)
  rw [jE_ra hk h1] at h
  exact va_P1 h
/-- one cell is written -/
theorem jV.upd {E : jEnv} {S S' : jM} {H H' : Heap} {a : Nat} (hV : jV E S H) (hk : jk S' = jk S) (hn : jn S' = jn S) (ho : ∀ x, x ≠ a → jE (eC E) S' x = jE (eC E) S x) (ha : va_at (eD E) vwCl (a, jE (eC E) S' a) H') (hz : H'.size = H.size) (hq : ∀ q, q ≠ a → H'[q]? = H[q]?) (hB : eB E ≤ a) : jV E S' H' := by
  obtain ⟨h1, h2, h3, h4, h5, h6⟩ := hV
  refine ⟨fun x hx => ?_, by rw [hz, hn]; exact h2, fun x hx => by rw [hn]; exact h3 x (by rw [← hk]; exact hx), by rw [hn]; exact h4, fun q hqq => ?_, h6⟩
  · by_cases hxa : x = a
    · subst hxa; exact ha
    · rw [ho x hxa]
      exact (h1 x (by rw [← hk]; exact hx)).kept (hq x hxa)
  · rw [hq q (by omega)]; exact h5 q hqq
theorem jE_put {cy : Nat → ClassId} {S : jM} {a j x : Nat} {v : Int32} (h : x ≠ a) : jE cy (jput S a j v) x = jE cy S x := by
  have e1 : ji (jput S a j v) x = ji S x := va_up_ne _ _ h
  have e2 : jk (jput S a j v) = jk S := rfl
  have e3 : jl (jput S a j v) = jl S := rfl
  have e4 : jr (jput S a j v) = jr S := rfl
  unfold jE jfv
  rw [e1, e2, e3, e4]
theorem jE_putr {cy : Nat → ClassId} {S : jM} {a j x : Nat} {v : Option Nat} (h : x ≠ a) : jE cy (jputr S a j v) x = jE cy S x := by
  have e1 : ji (jputr S a j v) = ji S := rfl
  have e2 : jk (jputr S a j v) = jk S := rfl
  have e3 : jl (jputr S a j v) = jl S := rfl
  have e4 : jr (jputr S a j v) x = jr S x := va_up_ne _ _ h
  unfold jE jfv
  rw [e1, e2, e3, e4]
theorem jE_row {cy : Nat → ClassId} {S : jM} {a x : Nat} {f : Nat → Int32} (h : x ≠ a) : jE cy (jrow S a f) x = jE cy S x := by
  have e1 : ji (jrow S a f) x = ji S x := va_up_ne _ _ h
  have e2 : jk (jrow S a f) = jk S := rfl
  have e3 : jl (jrow S a f) = jl S := rfl
  have e4 : jr (jrow S a f) = jr S := rfl
  unfold jE jfv
  rw [e1, e2, e3, e4]
theorem vp_V_range {N x : Nat} {f : Nat → Value} (h : x < N) : vp_V ((List.range N).map f) x = f x := by
  simp [vp_V, List.getD, h]
section jHeap
variable {E : jEnv} {M : jMd} {R : Room} {Z : jZ} {pc : Nat} {lv lv1 : List (Nat × Value)} {st : List Value} {S : jM} {c k : Nat}
theorem jx_geti {ci j index a : Nat} {q : vw_C} {ty : Nat → FieldType} (hc : jCl ci q ty) (hj : j < q.2.2) (hr : jtR ci j = false) (hw : Cond.fieldLink M.1.cls index q.1 (q.2.1 j).2.1 (q.2.1 j).2.2.1 ∈ jT) (hd : decode M.2.1 pc = .ok (.getfield index, 3)) (hk : jk S a = ci)
    (h : jX E M R Z (pc + 3) lv (.int (ji S a j) :: st) S c k) : jX E M R Z pc lv (.ref a :: st) S c k := by
  intro p e s m args below meth c0 hB H locs ls hV hS hl
  exact va_get (D := eD E) (ci := ci) (v := .int (ji S a j)) (C := q.1) (T := q.2.1) (N := q.2.2) (ref := q.1) hB.hx hB.hb hB.hts hc.2.1 hB.hown hB.hK (hV.obj hk hc) 0 rfl hc.1 j hj (hB.hts _ hw) (fun _ h9 => by rw [hc.2.2.2.2.2 j hj] at h9; exact h9) (by simp [jfv, hk, hr, hj]) hd (h p e s m args below meth c0 hB H locs ls hV hS hl)
theorem jx_getr {ci j index a : Nat} {q : vw_C} {ty : Nat → FieldType} (hc : jCl ci q ty) (hj : j < q.2.2) (hr : jtR ci j = true) (hw : Cond.fieldLink M.1.cls index q.1 (q.2.1 j).2.1 (q.2.1 j).2.2.1 ∈ jT) (hd : decode M.2.1 pc = .ok (.getfield index, 3)) (hk : jk S a = ci) {b : Nat} (hv : jr S a j = some b)
    (h : jX E M R Z (pc + 3) lv (.ref b :: st) S c k) : jX E M R Z pc lv (.ref a :: st) S c k := by
  intro p e s m args below meth c0 hB H locs ls hV hS hl
  exact va_get (D := eD E) (ci := ci) (v := .ref b) (C := q.1) (T := q.2.1) (N := q.2.2) (ref := q.1) hB.hx hB.hb hB.hts hc.2.1 hB.hown hB.hK (hV.obj hk hc) 0 rfl hc.1 j hj (hB.hts _ hw) (fun _ h9 => by rw [hc.2.2.2.2.2 j hj] at h9; exact h9) (by simp [jfv, hk, hr, hj, hv, va_rf]) hd (h p e s m args below meth c0 hB H locs ls hV hS hl)
theorem jx_puti {ci j index a : Nat} {q : vw_C} {ty : Nat → FieldType} {v : Int32} (hc : jCl ci q ty) (hj : j < q.2.2) (hr : jtR ci j = false) (hw : Cond.fieldLink M.1.cls index q.1 (q.2.1 j).2.1 (q.2.1 j).2.2.1 ∈ jT) (hfin : (q.2.1 j).2.2.2 = false) (hn : narrow (ty j) (.int v) = .int v) (hf : fits (ty j) (.int v) = true) (hd : decode M.2.1 pc = .ok (.putfield index, 3)) (hk : jk S a = ci)
    (h : jX E M R Z (pc + 3) lv st (jput S a j v) c k) : jX E M R Z pc lv (.int v :: .ref a :: st) S c k := by
  intro p e s m args below meth c0 hB H locs ls hV hS hl
  have hap := va_apart (own := M.1.cls) hB.hts hc.2.1 ty hc.2.2.2.1 hc.2.2.1 hB.hK hc.1
  have hlt : jk S a < 17 := by rw [hk]; exact Nat.lt_trans hc.2.2.2.2.1 (by decide)
  have hat := hV.1 a hlt
  rw [jE_obj hk hc] at hat
  obtain ⟨r, h1, cell, q1, q2, q3, q4⟩ := hat
  have hrr : r = q := Option.some.inj (h1.symm.trans hc.1)
  subst hrr
  obtain ⟨hSl, hfc, kC, hkC, hkind⟩ := hB.hK.1 ci _ hc.1
  obtain ⟨cf, kf, fi, f, hi, hsl⟩ := hSl j hj
  have hlay := hB.hts _ (hc.2.1 _ (u_in_lay hj))
  unfold u_lay at hlay
  rw [if_neg (by rw [hfin]; decide)] at hlay
  have hst := (u_facts hfc hkC (u_lays hB.hts hc.2.1 hj) hi).1
  have h6 := u_store hfc hkC hkind hlay hi (hc.2.2.2.1 j hj) hn hf
  refine W.putK hB.hx hB.hb (f := f) (ref := r.1) ⟨hB.hown, hB.hts _ hw, ⟨_, _, _, by rw [hc.2.2.2.2.2 j hj] at hi; exact hi⟩, hst⟩ (by rw [q2]; exact h6) q1 q3 (by rw [hsl]; exact k2_hasslot (q4 j hj)) rfl rfl hd fun H' e1 e2 e3 => ?_
  rw [hsl] at e1
  have hB2 := (hV.2.2.1 a hlt).1
  refine h p e s m args below meth c0 hB H' _ ls (hV.upd (a := a) rfl rfl (fun x hx => jE_put hx) ?_ e2 e3 hB2) (hS.put e2 e3 hB2) hl
  rw [jE_obj (S := jput S a j v) hk hc]
  refine ⟨r, h1, t_OB.to (V := updV (vp_V ((List.range r.2.2).map (jfv S a))) j (.int v)) ⟨_, e1, q2, q3, t_set q4 hap hj (.int v)⟩ (fun x hx => ?_)⟩
  rw [vp_V_range hx]
  by_cases hxj : x = j
  · subst hxj
    have e5 : ji (jput S a x v) a x = v := by simp [ji, jput, jrow, va_up, upd]
    have e6 : jk (jput S a x v) a = ci := hk
    simp [updV, jfv, e5, e6, hr]
  · have e5 : ji (jput S a j v) a x = ji S a x := by simp [ji, jput, jrow, va_up, upd, hxj]
    have e6 : jk (jput S a j v) a = jk S a := rfl
    have e7 : jr (jput S a j v) a x = jr S a x := rfl
    simp only [updV, if_neg hxj, vp_V_range hx, jfv, e5, e6, e7]
theorem jx_putF {ci j index a : Nat} {q : vw_C} {ty : Nat → FieldType} {v : Value} {S' : jM} (hc : jCl ci q ty) (hj : j < q.2.2) (hw : Cond.fieldLink M.1.cls index q.1 (q.2.1 j).2.1 (q.2.1 j).2.2.1 ∈ jT) (hfin : (q.2.1 j).2.2.2 = true) (hM : M.1.cls = q.1) (hin : M.1.name = "<init>") (hn : narrow (ty j) v = v) (hf : fits (ty j) v = true) (hd : decode M.2.1 pc = .ok (.putfield index, 3)) (hk : jk S a = ci)
    (hk' : jk S' = jk S) (hn' : jn S' = jn S) (ho' : ∀ cy x, x ≠ a → jE cy S' x = jE cy S x) (hv' : ∀ x, jfv S' a x = if x = j then v else jfv S a x)
    (h : jX E M R Z (pc + 3) lv st S' c k) : jX E M R Z pc lv (v :: .ref a :: st) S c k := by
  intro p e s m args below meth c0 hB H locs ls hV hS hl
  have hap := va_apart (own := M.1.cls) hB.hts hc.2.1 ty hc.2.2.2.1 hc.2.2.1 hB.hK hc.1
  have hlt : jk S a < 17 := by rw [hk]; exact Nat.lt_trans hc.2.2.2.2.1 (by decide)
  have hat := hV.1 a hlt
  rw [jE_obj hk hc] at hat
  obtain ⟨r, h1, cell, q1, q2, q3, q4⟩ := hat
  have hrr : r = q := Option.some.inj (h1.symm.trans hc.1)
  subst hrr
  obtain ⟨hSl, hfc, kC, hkC, hkind⟩ := hB.hK.1 ci _ hc.1
  obtain ⟨cf, kf, fi, f, hi, hsl⟩ := hSl j hj
  have hlay := hB.hts _ (hc.2.1 _ (u_in_lay hj))
  unfold u_lay at hlay
  rw [if_pos hfin] at hlay
  have hst := (u_facts hfc hkC (u_lays hB.hts hc.2.1 hj) hi).1
  have hdecl := hc.2.2.2.2.2 j hj
  have hcf : m.cls = cf := by
    obtain ⟨_, _, c', _, _, _, -, -, hf', -, -, -, hown2, -⟩ := Cond.laysFinal_spec hlay
    have e1 : c' = cf := by have := hi.symm.trans hf'; simp at this; exact this.1.symm
    rw [hdecl, ← hM] at hown2
    rw [← e1]; exact Option.some.inj (hB.hown.symm.trans hown2)
  have h6 := u_fits hfc hkC hkind (Or.inr hlay) hi (hc.2.2.2.1 j hj) hn hf
  refine W.putFinK hB.hx hB.hb (ref := r.1) hB.hown (hB.hts _ hw) (by rw [hdecl] at hi; exact hi) hst hcf (hB.hnm.trans hin) (by rw [q2]; exact h6) q1 q3 (by rw [hsl]; exact k2_hasslot (q4 j hj)) rfl rfl hd fun H' e1 e2 e3 => ?_
  rw [hsl] at e1
  have hB2 := (hV.2.2.1 a hlt).1
  refine h p e s m args below meth c0 hB H' _ ls (hV.upd (a := a) hk' hn' (fun x hx => ho' _ x hx) ?_ e2 e3 hB2) (hS.put e2 e3 hB2) hl
  rw [jE_obj (S := S') (by rw [hk']; exact hk) hc]
  refine ⟨r, h1, t_OB.to (V := updV (vp_V ((List.range r.2.2).map (jfv S a))) j v) ⟨_, e1, q2, q3, t_set q4 hap hj v⟩ (fun x hx => ?_)⟩
  rw [vp_V_range hx, hv' x]
  by_cases hxj : x = j
  · simp [updV, hxj]
  · simp only [updV, if_neg hxj, vp_V_range hx]
theorem jx_putiF {ci j index a : Nat} {q : vw_C} {ty : Nat → FieldType} {v : Int32} (hc : jCl ci q ty) (hj : j < q.2.2) (hr : jtR ci j = false) (hw : Cond.fieldLink M.1.cls index q.1 (q.2.1 j).2.1 (q.2.1 j).2.2.1 ∈ jT) (hfin : (q.2.1 j).2.2.2 = true) (hM : M.1.cls = q.1) (hin : M.1.name = "<init>") (hn : narrow (ty j) (.int v) = .int v) (hf : fits (ty j) (.int v) = true) (hd : decode M.2.1 pc = .ok (.putfield index, 3)) (hk : jk S a = ci)
    (h : jX E M R Z (pc + 3) lv st (jput S a j v) c k) : jX E M R Z pc lv (.int v :: .ref a :: st) S c k := by
  refine jx_putF hc hj hw hfin hM hin hn hf hd hk (S' := jput S a j v) rfl rfl (fun _ x hx => jE_put hx) (fun x => ?_) h
  have e6 : jk (jput S a j v) a = ci := hk
  have e7 : jr (jput S a j v) a x = jr S a x := rfl
  by_cases hx : x = j
  · subst hx
    have e5 : ji (jput S a x v) a x = v := by simp [ji, jput, jrow, va_up, upd]
    simp [jfv, e5, e6, hr]
  · have e5 : ji (jput S a j v) a x = ji S a x := by simp [ji, jput, jrow, va_up, upd, hx]
    simp only [jfv, e5, e6, e7, hk, if_neg hx]
theorem jx_putrF {ci j index a b : Nat} {q : vw_C} {ty : Nat → FieldType} (hc : jCl ci q ty) (hj : j < q.2.2) (hr : jtR ci j = true) (hw : Cond.fieldLink M.1.cls index q.1 (q.2.1 j).2.1 (q.2.1 j).2.2.1 ∈ jT) (hfin : (q.2.1 j).2.2.2 = true) (hM : M.1.cls = q.1) (hin : M.1.name = "<init>") (hn : narrow (ty j) (.ref b) = .ref b) (hf : fits (ty j) (.ref b) = true) (hd : decode M.2.1 pc = .ok (.putfield index, 3)) (hk : jk S a = ci)
    (h : jX E M R Z (pc + 3) lv st (jputr S a j (some b)) c k) : jX E M R Z pc lv (.ref b :: .ref a :: st) S c k := by
  refine jx_putF hc hj hw hfin hM hin hn hf hd hk (S' := jputr S a j (some b)) rfl rfl (fun _ x hx => jE_putr hx) (fun x => ?_) h
  have e6 : jk (jputr S a j (some b)) a = ci := hk
  have e7 : ji (jputr S a j (some b)) a x = ji S a x := rfl
  by_cases hx : x = j
  · subst hx
    have e5 : jr (jputr S a x (some b)) a x = some b := by simp [jr, jputr, va_up]
    simp [jfv, e5, e6, hr, va_rf]
  · have e5 : jr (jputr S a j (some b)) a x = jr S a x := by simp [jr, jputr, va_up, hx]
    simp only [jfv, e5, e6, e7, hk, if_neg hx]
theorem jx_iald {a : Nat} {i : Int32} (hd : decode M.2.1 pc = .ok (.iaload, 1)) (hk : jk S a = 12) (hin : vp_in i (jl S a)) (h : jX E M R Z (pc + 1) lv (.int (ji S a i.toNatClampNeg) :: st) S c k) : jX E M R Z pc lv (.int i :: .ref a :: st) S c k := by
  intro p e s m args below meth c0 hB H locs ls hV hS hl
  exact va_iald hB.hx hB.hb hB.hK (hV.ia hk) 0 0 rfl rfl hin hd (h p e s m args below meth c0 hB H locs ls hV hS hl)
theorem jx_alen {a : Nat} (hd : decode M.2.1 pc = .ok (.arraylength, 1)) (hk : jk S a = 12) (h : jX E M R Z (pc + 1) lv (.int (nI (jl S a)) :: st) S c k) : jX E M R Z pc lv (.ref a :: st) S c k := by
  intro p e s m args below meth c0 hB H locs ls hV hS hl
  exact va_alen hB.hx hB.hb hB.hK (hV.ia hk) 0 0 rfl rfl rfl hd (h p e s m args below meth c0 hB H locs ls hV hS hl)
theorem jx_iast {a : Nat} {i v : Int32} (hd : decode M.2.1 pc = .ok (.iastore, 1)) (hk : jk S a = 12) (hin : vp_in i (jl S a)) (h : jX E M R Z (pc + 1) lv st (jput S a i.toNatClampNeg v) c k) : jX E M R Z pc lv (.int v :: .int i :: .ref a :: st) S c k := by
  intro p e s m args below meth c0 hB H locs ls hV hS hl
  have hlt : jk S a < 17 := by rw [hk]; decide
  have hB2 := (hV.2.2.1 a hlt).1
  refine W.iast hB.hx hB.hb (hV.ia hk 0 _ rfl) ((hB.hK.2 0 _ rfl).1 (jl S a) (fun j => .int (ji S a j))) (fun q => by cases q) (by show ¬ (i < 0 ∨ (arrV _ _ _).slots.size ≤ _); rw [arrV_size]; exact hin) rfl rfl hd fun H1 e1 z oq => ?_
  refine h p e s m args below meth c0 hB H1 _ ls (hV.upd (a := a) rfl rfl (fun x hx => jE_put hx) ?_ z oq hB2) (hS.put z oq hB2) hl
  rw [jE_ia (S := jput S a i.toNatClampNeg v) hk]
  refine e1.trans (congrArg some ?_)
  show (arrV (eC E 12) (jl S a) (fun j => .int (ji S a j))).setSlot i.toNatClampNeg (.int v) = arrV (eC E 12) (jl S a) (fun j => .int (ji (jput S a i.toNatClampNeg v) a j))
  rw [arrV_store]
  congr 1
  funext x
  by_cases hx : x = i.toNatClampNeg
  · subst hx
    simp [updV, ji, jput, jrow, va_up, upd]
  · simp [updV, ji, jput, jrow, va_up, upd, hx]
/-- the array classes by their kinds -/
theorem jtys_at {E : jEnv} {kk : Nat} (h1 : 12 < kk) (h2 : kk < 17) : ∃ C, (jtys E)[kk - 12]? = some (eC E kk, .object C) := by
  rcases (show kk = 13 ∨ kk = 14 ∨ kk = 15 ∨ kk = 16 by omega) with rfl | rfl | rfl | rfl <;> exact ⟨_, rfl⟩
theorem jx_aald {a kk : Nat} {i : Int32} (hd : decode M.2.1 pc = .ok (.aaload, 1)) (hk : jk S a = kk) (h1 : 12 < kk) (h2 : kk < 17) (hin : vp_in i (jl S a)) (h : jX E M R Z (pc + 1) lv (va_rf (jr S a i.toNatClampNeg) :: st) S c k) : jX E M R Z pc lv (.int i :: .ref a :: st) S c k := by
  intro p e s m args below meth c0 hB H locs ls hV hS hl
  obtain ⟨C, hC⟩ := jtys_at (E := E) h1 h2
  exact va_aldq hB.hx hB.hb hB.hK (hV.ra hk h1 h2) 0 (kk - 12) rfl hC hin hd (h p e s m args below meth c0 hB H locs ls hV hS hl)
theorem jx_aaldS {a kk b : Nat} {i : Int32} (hd : decode M.2.1 pc = .ok (.aaload, 1)) (hk : jk S a = kk) (h1 : 12 < kk) (h2 : kk < 17) (hin : vp_in i (jl S a)) (hb : jr S a i.toNatClampNeg = some b) (h : jX E M R Z (pc + 1) lv (.ref b :: st) S c k) : jX E M R Z pc lv (.int i :: .ref a :: st) S c k :=
  jx_aald hd hk h1 h2 hin (by rw [hb]; exact h)
theorem jx_aaldN {a kk : Nat} {i : Int32} (hd : decode M.2.1 pc = .ok (.aaload, 1)) (hk : jk S a = kk) (h1 : 12 < kk) (h2 : kk < 17) (hin : vp_in i (jl S a)) (hb : jr S a i.toNatClampNeg = none) (h : jX E M R Z (pc + 1) lv (.null :: st) S c k) : jX E M R Z pc lv (.int i :: .ref a :: st) S c k :=
  jx_aald hd hk h1 h2 hin (by rw [hb]; exact h)
/-- the class whose objects an array of references holds -/
def jac (kk : Nat) : Nat := match kk with
  | 13 => 2
  | 14 => 6
  | 15 => 7
  | _ => 9
theorem jx_aast {a kk v ci : Nat} {q : vw_C} {ty : Nat → FieldType} {i : Int32} (hd : decode M.2.1 pc = .ok (.aastore, 1)) (hk : jk S a = kk) (h1 : 12 < kk) (h2 : kk < 17) (hc : jCl ci q ty) (hci : jac kk = ci) (hv : jk S v = ci) (hin : vp_in i (jl S a)) (h : jX E M R Z (pc + 1) lv st (jputr S a i.toNatClampNeg (some v)) c k) : jX E M R Z pc lv (.ref v :: .int i :: .ref a :: st) S c k := by
  intro p e s m args below meth c0 hB H locs ls hV hS hl
  have hlt : jk S a < 17 := by rw [hk]; exact h2
  have hB2 := (hV.2.2.1 a hlt).1
  have hlt2 : i.toNatClampNeg < jl S a := Nat.not_le.mp fun q => hin (Or.inr q)
  have h0 : ¬ i < 0 := fun q => hin (Or.inl q)
  have ht : (jtys E)[kk - 12]? = some (eC E kk, .object q.1) := by
    have e1 := hc.1
    rw [← hci] at e1
    rcases (show kk = 13 ∨ kk = 14 ∨ kk = 15 ∨ kk = 16 by omega) with rfl | rfl | rfl | rfl <;> cases e1 <;> rfl
  obtain ⟨r', hr', cellV, g1, g2, g3, -⟩ := hV.obj hv hc 0 _ rfl
  have hcls := (hB.hK.1 ci q hc.1).2
  obtain ⟨kA, comp, k1, k2, k3, -⟩ := (hB.hK.2 (kk - 12) _ ht).2
  have hcomp : comp = (eD E).1 ci := Option.some.inj (k3.symm.trans hcls.1)
  subst hcomp
  obtain ⟨kC, hkC, hkd⟩ := hcls.2
  refine W.aast hB.hx hB.hb (hV.ra hk h1 h2 0 _ rfl) (fun q h => by cases h) (fun h => by cases h) k1 k2 rfl hkC ⟨h0, by show _ < (arrV _ _ _).slots.size; rw [arrV_size]; exact hlt2⟩ g1 (fun q h => by rw [g3] at h; cases h) (by rw [g2]; exact hkC) (by rw [g2]; exact va_assign hcls) rfl rfl hd fun H1 e1 z oq => ?_
  refine h p e s m args below meth c0 hB H1 _ ls (hV.upd (a := a) rfl rfl (fun x hx => jE_putr hx) ?_ z oq hB2) (hS.put z oq hB2) hl
  rw [jE_ra (S := jputr S a i.toNatClampNeg (some v)) hk h1]
  refine e1.trans (congrArg some ?_)
  show (arrV (eC E kk) (jl S a) (fun j => va_rf (jr S a j))).setSlot i.toNatClampNeg (.ref v) = arrV (eC E kk) (jl S a) (fun j => va_rf (jr (jputr S a i.toNatClampNeg (some v)) a j))
  rw [arrV_store]
  congr 1
  funext x
  by_cases hx : x = i.toNatClampNeg
  · subst hx
    simp [updV, jr, jputr, va_up, va_rf]
  · simp [updV, jr, jputr, va_up, hx]
theorem jx_aastN {a kk : Nat} {i : Int32} (hd : decode M.2.1 pc = .ok (.aastore, 1)) (hk : jk S a = kk) (h1 : 12 < kk) (h2 : kk < 17) (hin : vp_in i (jl S a)) (h : jX E M R Z (pc + 1) lv st (jputr S a i.toNatClampNeg none) c k) : jX E M R Z pc lv (.null :: .int i :: .ref a :: st) S c k := by
  intro p e s m args below meth c0 hB H locs ls hV hS hl
  have hlt : jk S a < 17 := by rw [hk]; exact h2
  have hB2 := (hV.2.2.1 a hlt).1
  obtain ⟨C, hC⟩ := jtys_at (E := E) h1 h2
  refine va_WaastN (C := C) hB.hx hB.hb (hV.ra hk h1 h2 0 _ rfl) ((hB.hK.2 (kk - 12) _ hC).1 (jl S a) (fun j => va_rf (jr S a j))) (fun h => by cases h) (by show ¬ (i < 0 ∨ (arrV _ _ _).slots.size ≤ _); rw [arrV_size]; exact hin) rfl rfl hd fun H1 e1 z oq => ?_
  refine h p e s m args below meth c0 hB H1 _ ls (hV.upd (a := a) rfl rfl (fun x hx => jE_putr hx) ?_ z oq hB2) (hS.put z oq hB2) hl
  rw [jE_ra (S := jputr S a i.toNatClampNeg none) hk h1]
  refine e1.trans (congrArg some ?_)
  show (arrV (eC E kk) (jl S a) (fun j => va_rf (jr S a j))).setSlot i.toNatClampNeg (.null) = arrV (eC E kk) (jl S a) (fun j => va_rf (jr (jputr S a i.toNatClampNeg (none)) a j))
  rw [arrV_store]
  congr 1
  funext x
  by_cases hx : x = i.toNatClampNeg
  · subst hx
    simp [updV, jr, jputr, va_up, va_rf]
  · simp [updV, jr, jputr, va_up, hx]
end jHeap
