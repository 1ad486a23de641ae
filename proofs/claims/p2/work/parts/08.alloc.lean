/-! THE LAYER: new cells, arraycopy, the table ABOVE -/
section jAlloc
variable {E : jEnv} {M : jMd} {R : Room} {Z : jZ} {pc : Nat} {lv lv1 : List (Nat × Value)} {st : List Value} {S : jM} {c k : Nat} {d n index : Nat}
theorem jE_new {cy : Nat → ClassId} {S : jM} {kk n x : Nat} (h : x ≠ jn S) : jE cy (jnew S kk n) x = jE cy S x := by
  have e1 : ji (jnew S kk n) x = ji S x := va_up_ne _ _ h
  have e2 : jk (jnew S kk n) x = jk S x := va_up_ne _ _ h
  have e3 : jl (jnew S kk n) x = jl S x := va_up_ne _ _ h
  have e4 : jr (jnew S kk n) x = jr S x := va_up_ne _ _ h
  unfold jE
  rw [e1, e2, e3, e4]
  have e5 : jfv (jnew S kk n) x = jfv S x := by
    funext j
    unfold jfv
    rw [e1, e2, e4]
  rw [e5]
theorem jk_new {S : jM} {kk n : Nat} : jk (jnew S kk n) (jn S) = kk := va_up_self _ _ _
theorem jk_new_ne {S : jM} {kk n x : Nat} (h : x ≠ jn S) : jk (jnew S kk n) x = jk S x := va_up_ne _ _ h
/-- a cell comes -/
theorem jV.new {H H' : Heap} {kk n : Nat} (hV : jV E S H) (hz : H'.size = jn S + 1) (hq : ∀ q, q < jn S → H'[q]? = H[q]?) (ha : va_at (eD E) vwCl (jn S, jE (eC E) (jnew S kk n) (jn S)) H') : jV E (jnew S kk n) H' := by
  obtain ⟨h1, h2, h3, h4, h5, h6⟩ := hV
  refine ⟨fun x hx => ?_, hz, fun x hx => ?_, Nat.le_succ_of_le h4, fun q hqq => ?_, h6⟩
  · by_cases hxa : x = jn S
    · subst hxa; exact ha
    · rw [jk_new_ne hxa] at hx
      rw [jE_new hxa]
      exact (h1 x hx).kept (hq x (h3 x hx).2)
  · by_cases hxa : x = jn S
    · subst hxa; exact ⟨h4, Nat.lt_succ_self _⟩
    · rw [jk_new_ne hxa] at hx
      exact ⟨(h3 x hx).1, Nat.lt_succ_of_lt (h3 x hx).2⟩
  · rw [hq q (Nat.lt_of_lt_of_le hqq h4)]; exact h5 q hqq
theorem va_S.grow {A : Nat → Prop} {H0 H H1 : Heap} {locs : List Loc} (hS : va_S A H0 H locs) (hz : H.size ≤ H1.size) (hq : ∀ q, q < H.size → H1[q]? = H[q]?) : va_S A H0 H1 locs :=
  ⟨Nat.le_trans hS.1 hz, fun q h1 h2 => (hq q (Nat.lt_of_lt_of_le h1 hS.1)).trans (hS.2.1 q h1 h2), hS.2.2⟩
theorem jx_new {ci : Nat} {q : vw_C} {ty : Nat → FieldType} (hc : jCl ci q ty) (w1 : Cond.classLink M.1.cls index q.1 ∈ jT) (w2 : Cond.instantiable q.1 q.2.2 ∈ jT) (w3 : Cond.initialized q.1 ∈ jT) (hdv : ∀ j, j < q.2.2 → defaultValue (ty j) = if jtR ci j then .null else .int 0) (hd : decode M.2.1 pc = .ok (.new index, 3)) (hm : c + 1 ≤ R.cells ∧ k + q.2.2 ≤ R.slots)
    (h : jX E M R Z (pc + 3) lv (.ref (jn S) :: st) (jnew S ci 0) (c + 1) (k + q.2.2)) : jX E M R Z pc lv st S c k := by
  intro p e s m args below meth c0 hB H locs ls hV hS hl
  have hKn := hB.hK.1 ci _ hc.1
  refine W.newcK hB.hx hB.hb hB.hown (hB.hts _ w1) (hB.hts _ w2) (hB.hts _ w3) rfl hd hm.1 hm.2 hKn.2.1 hV.2.1 fun H1 kC hkC e1 z1 o1 => ?_
  refine h p e s m args below meth c0 hB H1 locs ls (hV.new z1 o1 ?_) (hS.grow (by rw [z1, hV.2.1]; omega) (fun x hx => o1 x (by rw [← hV.2.1]; exact hx))) hl
  rw [jE_obj (S := jnew S ci 0) jk_new hc]
  refine ⟨q, hc.1, (u_born ty hB.hts hc.2.1 hKn hkC e1 hc.2.2.2.1).to (fun j hj => ?_)⟩
  rw [vp_V_range hj, hdv j hj]
  have e5 : ji (jnew S ci 0) (jn S) j = 0 := by simp [ji, jnew, jn, va_up]
  have e6 : jr (jnew S ci 0) (jn S) j = none := by simp [jr, jnew, jn, va_up]
  simp [jfv, e5, e6, jk_new, va_rf]
theorem jx_newa {v : Int32} {N : Nat} (hw : Cond.arrayClass .int ∈ jT) (hd : decode M.2.1 pc = .ok (.newarray .int, 2)) (hv : ¬ v < 0) (hN : v.toNatClampNeg = N) (hN2 : N ≤ 4000) (hm : c + 1 ≤ R.cells ∧ k + N ≤ R.slots)
    (h : jX E M R Z (pc + 2) lv (.ref (jn S) :: st) (jnew S 12 N) (c + 1) (k + N)) : jX E M R Z pc lv (.int v :: st) S c k := by
  intro p e s m args below meth c0 hB H locs ls hV hS hl
  refine va_newaK (atype := .int) (rest := st) hB.hx hB.hb (hB.hts _ hw) rfl hd rfl hv hN (by show N * 4 ≤ _; omega) hm.1 hm.2 hV.2.1 fun H1 cA e1 z1 o1 hAr hNm => ?_
  have hcA : cA = eC E 12 := Option.some.inj (hNm.symm.trans (hB.hK.2 0 _ rfl).2)
  refine h p e s m args below meth c0 hB H1 locs ls (hV.new z1 o1 ?_) (hS.grow (by rw [z1, hV.2.1]; omega) (fun x hx => o1 x (by rw [← hV.2.1]; exact hx))) hl
  rw [jE_ia (S := jnew S 12 N) jk_new]
  refine e1.trans (congrArg some ?_)
  have e5 : jl (jnew S 12 N) (jn S) = N := va_up_self _ _ _
  have e6 : ji (jnew S 12 N) (jn S) = fun _ => 0 := va_up_self _ _ _
  show _ = arrV (eC E 12) (jl (jnew S 12 N) (jn S)) (fun j => .int (ji (jnew S 12 N) (jn S) j))
  rw [e5, e6, hcA]
  rfl
theorem jx_anew {kk ci : Nat} {q : vw_C} {ty : Nat → FieldType} {v : Int32} {N : Nat} (hc : jCl ci q ty) (h1 : 12 < kk) (h2 : kk < 17) (hci : jac kk = ci) (w1 : Cond.classLink M.1.cls index q.1 ∈ jT) (hd : decode M.2.1 pc = .ok (.anewarray index, 3)) (hv : ¬ v < 0) (hN : v.toNatClampNeg = N) (hN2 : N ≤ 4000) (hm : c + 1 ≤ R.cells ∧ k + N ≤ R.slots)
    (h : jX E M R Z (pc + 3) lv (.ref (jn S) :: st) (jnew S kk N) (c + 1) (k + N)) : jX E M R Z pc lv (.int v :: st) S c k := by
  intro p e s m args below meth c0 hB H locs ls hV hS hl
  have ht : (jtys E)[kk - 12]? = some (eC E kk, .object q.1) ∧ va_AO q.1 s := by
    obtain ⟨-, -, -, -, -, -, -, -, -, -, -, -, -, o1, o2, o3, o4⟩ := hB.hG
    have e1 := hc.1
    rw [← hci] at e1
    rcases (show kk = 13 ∨ kk = 14 ∨ kk = 15 ∨ kk = 16 by omega) with rfl | rfl | rfl | rfl
    · cases e1; exact ⟨rfl, o1⟩
    · cases e1; exact ⟨rfl, o2⟩
    · cases e1; exact ⟨rfl, o3⟩
    · cases e1; exact ⟨rfl, o4⟩
  subst hN
  refine W.anew hB.hx hB.hb hB.hown (hB.hts _ w1) (va_AO.use ht.2) rfl hd rfl hv (by omega) hm.1 hm.2 fun cA kA comp f1 f2 f3 f4 => ?_
  obtain ⟨kA', comp', -, -, -, g4⟩ := (hB.hK.2 (kk - 12) _ ht.1).2
  have hcA : cA = eC E kk := Option.some.inj (f1.symm.trans g4)
  have z1 : (H.push ({ cls := cA, slots := Array.replicate v.toNatClampNeg .null, vm := .none } : Cell)).size = jn S + 1 := by rw [Array.size_push, hV.2.1]
  have o1 : ∀ q : Nat, q < jn S → (H.push ({ cls := cA, slots := Array.replicate v.toNatClampNeg .null, vm := .none } : Cell))[q]? = H[q]? := fun q hq => by rw [Array.getElem?_push, if_neg (by rw [hV.2.1]; omega)]
  have hF : (F0 m (pc + 3) ls (.ref H.size :: st)) = F0 m (pc + 3) ls (.ref (jn S) :: st) := by rw [hV.2.1]
  refine W.eq hF ?_
  refine h p e s m args below meth c0 hB _ locs ls (hV.new z1 o1 ?_) (hS.grow (by rw [z1, hV.2.1]; omega) (fun x hx => o1 x (by rw [← hV.2.1]; exact hx))) hl
  rw [jE_ra (S := jnew S kk v.toNatClampNeg) jk_new h1]
  have e5 : jl (jnew S kk v.toNatClampNeg) (jn S) = v.toNatClampNeg := va_up_self _ _ _
  have e6 : jr (jnew S kk v.toNatClampNeg) (jn S) = fun _ => none := va_up_self _ _ _
  show _ = some (arrV (eC E kk) (jl (jnew S kk v.toNatClampNeg) (jn S)) (fun j => va_rf (jr (jnew S kk v.toNatClampNeg) (jn S) j)))
  rw [e5, e6, ← hcA, ← hV.2.1, Array.getElem?_push_size, arrV_new]
  rfl
/-- System.arraycopy of ints -/
theorem jx_copy {a0 a : Nat} {sp dp v : Int32} (w1 : Cond.methodLink M.1.cls index arraycopyName ∈ jT) (w2 : Cond.native arraycopyName ∈ jT) (w3 : Cond.static arraycopyName ∈ jT) (w4 : Cond.initialized "java/lang/System" ∈ jT) (hd : decode M.2.1 pc = .ok (.invokestatic index, 3)) (hR : jRok R d) (hs : (st.map fun v => v.category).sum ≤ 8) (hk0 : jk S a0 = 12) (hk1 : jk S a = 12)
    (h1 : ¬ sp < 0) (h2 : ¬ dp < 0) (h3 : ¬ v < 0) (h4 : sp.toNatClampNeg + v.toNatClampNeg ≤ jl S a0) (h5 : dp.toNatClampNeg + v.toNatClampNeg ≤ jl S a)
    (h : jX E M R Z (pc + 3) lv st (jrow S a (va_cpy (ji S a0) (ji S a) sp.toNatClampNeg dp.toNatClampNeg v.toNatClampNeg)) c k) : jX E M R Z pc lv (.int v :: .int dp :: .ref a :: .int sp :: .ref a0 :: st) S c k := by
  intro p e s m args below meth c0 hB H locs ls hV hS hl
  have hR1 := hR.1
  have hR2 := hR.2
  have nn : ∀ z : Int32, ¬ z < 0 → z.toInt = (z.toNatClampNeg : Int) := by
    intro z hz
    have hz0 : (0 : Int) ≤ z.toInt := by
      have := Int32.not_lt.mp hz
      simpa using Int32.le_iff_toInt_le.mp this
    show z.toInt = ((z.toInt.toNat : Nat) : Int)
    omega
  have hnf : nativeFrameWords "java/lang/System" "arraycopy" 5 ≤ 30 := by decide +kernel
  intro T hT X
  have hc0 : H[a0]? = some (vp_cell (eC E 12) (jl S a0, .inl (ji S a0))) := hV.ia hk0 0 _ rfl
  have hc1 : H[a]? = some (vp_cell (eC E 12) (jl S a, .inl (ji S a))) := hV.ia hk1 0 _ rfl
  obtain ⟨-, k0, hkk0, cm0, hkk1⟩ := (hB.hK.2 0 _ rfl).1 (jl S a0) (fun j => .int (ji S a0 j))
  obtain ⟨-, k1, hkk2, cm1, hkk3⟩ := (hB.hK.2 0 _ rfl).1 (jl S a) (fun j => .int (ji S a j))
  obtain ⟨vm', X', step⟩ := X.arraycopy hB.hx hB.hown (hB.hts _ w1) (hB.hts _ w2) (hB.hts _ w3) (hB.hts _ w4) (src := a0) (dst := a) (cs := vp_cell (eC E 12) (jl S a0, .inl (ji S a0))) (cd := vp_cell (eC E 12) (jl S a, .inl (ji S a))) (srcPos := sp) (destPos := dp) (n := v) (by rw [hT]; exact hc0) (by rw [hT]; exact hc1)
    (fun _ h => by cases h) (fun _ h => by cases h) (fun h => by cases h) (fun h => by cases h) hkk0 hkk2 hkk1 hkk3 (by rfl) h1 h2 h3
    (by rw [nn sp h1, nn v h3]; show ¬ _ > ((arrV (eC E 12) (jl S a0) (fun j => .int (ji S a0 j))).slots.size : Int); rw [arrV_size]; omega)
    (by rw [nn dp h2, nn v h3]; show ¬ _ > ((arrV (eC E 12) (jl S a) (fun j => .int (ji S a j))).slots.size : Int); rw [arrV_size]; omega)
    (fun vm₁ _ i hi => by
      have e : (vp_cell (eC E 12) (jl S a0, .inl (ji S a0))).slots.getD (sp.toNatClampNeg + i) .null = .int (ji S a0 (sp.toNatClampNeg + i)) := by
        show (arrV (eC E 12) (jl S a0) (fun j => .int (ji S a0 j))).slots.getD _ _ = _
        rw [Array.getD_eq_getD_getElem?, arrV_read _ _ (by omega)]
        rfl
      refine ⟨?_, ?_⟩
      · rw [e]
        rfl
      · rw [e]
        exact trivial)
    (g := F0 m pc ls (.int v :: .int dp :: .ref a :: .int sp :: .ref a0 :: st)) rfl (by rw [hB.hml]; exact hl.1) (rest := st) rfl (by rw [hB.hb]; exact hd) (by omega) (by show 2 * 0 + _ + _ ≤ _; omega)
  have e1 : copied (vp_cell (eC E 12) (jl S a0, .inl (ji S a0))) (vp_cell (eC E 12) (jl S a, .inl (ji S a))) sp dp v = vp_cell (eC E 12) (jl S a, .inl (va_cpy (ji S a0) (ji S a) sp.toNatClampNeg dp.toNatClampNeg v.toNatClampNeg)) := va_copied (fun z => .int z) (eC E 12) (eC E 12) (ji S a0) (ji S a) h4
  rw [e1] at X' step
  have hla : a < H.size := (Array.getElem?_eq_some_iff.mp hc1).1
  have hB2 : eB E ≤ a := (hV.2.2.1 a (by rw [hk1]; decide)).1
  generalize hcell : vp_cell (eC E 12) (jl S a, .inl (va_cpy (ji S a0) (ji S a) sp.toNatClampNeg dp.toNatClampNeg v.toNatClampNeg)) = cell at X' step
  have hheap : ((T.setVm vm').setCell a cell).heap = H.setIfInBounds a cell := by rw [← hT]; rfl
  have oq : ∀ q : Nat, q ≠ a → (H.setIfInBounds a cell)[q]? = H[q]? := fun q hq => by simp [Array.getElem?_setIfInBounds, Ne.symm hq]
  have z1 : (H.setIfInBounds a cell).size = H.size := by simp
  obtain ⟨t, a1, b1⟩ := h p e s m args below meth c0 hB (H.setIfInBounds a cell) _ ls (hV.upd (S' := jrow S a (va_cpy (ji S a0) (ji S a) sp.toNatClampNeg dp.toNatClampNeg v.toNatClampNeg)) (a := a) rfl rfl (fun x hx => jE_row hx) (by
      rw [jE_ia (S := jrow S a _) hk1]
      have e6 : ji (jrow S a (va_cpy (ji S a0) (ji S a) sp.toNatClampNeg dp.toNatClampNeg v.toNatClampNeg)) a = va_cpy (ji S a0) (ji S a) sp.toNatClampNeg dp.toNatClampNeg v.toNatClampNeg := va_up_self _ _ _
      show (H.setIfInBounds a cell)[a]? = some (vp_cell (eC E 12) (jl S a, .inl _))
      rw [e6, hcell]
      simp [Array.getElem?_setIfInBounds, hla]) z1 oq hB2) ⟨by rw [z1]; exact hS.1, fun q g1 g2 => by
      rw [oq q (fun e => g2 (by rw [e]; exact hB2))]
      exact hS.2.1 q g1 g2, fun q hq => by
      rcases List.mem_append.mp hq with h | h
      · exact hS.2.2 q h
      · obtain ⟨z, -, hz⟩ := List.mem_map.mp h
        rw [← hz]
        exact hB2⟩ hl _ hheap X'
  exact ⟨t, step t a1, b1⟩
/-- the table ABOVE -/
theorem jx_above (hM : M.1.cls = RX2) (hd : decode M.2.1 pc = .ok (.getstatic 38, 3)) (h : jX E M R Z (pc + 3) lv (.ref (eT E) :: st) S c k) : jX E M R Z pc lv st S c k := by
  intro p e s m args below meth c0 hB H locs ls hV hS hl
  obtain ⟨h1, -, -, -, -, -, -, -, -, -, -, -, n2, -⟩ := hB.hG
  obtain ⟨q1, q2, q3⟩ := hB.hq
  exact va_getsN (A := eA E) (own := RX2) (ref := "NineMasters") (index := 38) hB.hx hB.hb (h1.kept (fun a h9 h8 => q1 a (Nat.not_le.mp h8))) hS (by rw [← hM]; exact hB.hown) (va_Nw.use rfl n2) (fun _ h9 => h9) hd (h p e s m args below meth c0 hB H locs ls hV hS hl)
theorem jx_aboveLd {i : Int32} (hd : decode M.2.1 pc = .ok (.iaload, 1)) (hin : vp_in i 6) (h : jX E M R Z (pc + 1) lv (.int (([-1, 0, 0, 1, 2, 0] : List Int32).getD i.toNatClampNeg 0) :: st) S c k) : jX E M R Z pc lv (.int i :: .ref (eT E) :: st) S c k := by
  intro p e s m args below meth c0 hB H locs ls hV hS hl
  obtain ⟨-, h1, -⟩ := hB.hG
  obtain ⟨q1, q2, q3⟩ := hB.hq
  exact va_ti (A := eA E) hB.hx hB.hb (h1.kept (fun a h9 h8 => q1 a (Nat.not_le.mp h8))) hS hin rfl hd (h p e s m args below meth c0 hB H locs ls hV hS hl)
end jAlloc
