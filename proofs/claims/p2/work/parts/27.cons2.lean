/-! CONSTRUCTORS of the class's parts; each object's cells stand right behind it -/
def ShL (S : jM) (a p : Nat) : Prop := jk S a = 6 ∧ jr S a 2 = some p ∧ jk S p = 12 ∧ jl S p = 24
/-- a sheet at a with its row at p: sort, size, places -/
def ShR (S : jM) (a p : Nat) (so si : Int32) (pl : Nat → Int32) : Prop := ShL S a p ∧ ji S a 0 = so ∧ ji S a 1 = si ∧ ∀ i, i < 24 → ji S p i = pl i
theorem ShR.grow {S S' : jM} {a p : Nat} {so si : Int32} {pl : Nat → Int32} (h : ShR S a p so si pl) (c0 : jcs S S' a) (c1 : jcs S S' p) : ShR S' a p so si pl := by
  obtain ⟨⟨a1, a2, a3, a4⟩, b1, b2, b3⟩ := h
  exact ⟨⟨by rw [c0.1]; exact a1, by rw [c0.2.2.2]; exact a2, by rw [c1.1]; exact a3, by rw [c1.2.1]; exact a4⟩, by rw [c0.2.2.1]; exact b1, by rw [c0.2.2.1]; exact b2, fun i hi => by rw [c1.2.2.1]; exact b3 i hi⟩
section jCons
variable {E : jEnv} {d : Nat} {S : jM}
theorem c_X2_init {Q : jM → Prop} {a : Nat} (h : Q S) : jFv E mX2_init (d + 1) 0 0 [.ref a] S Q := T_X2_init h
theorem c_X6_init {Q : jM → Prop} {a : Nat} (hk : jk S a = 6) (ha : a < jn S) (h1 : ji S a 1 = 0) (h : ∀ S', jn S' = jn S + 1 → (∀ y, y < jn S → y ≠ a → jcs S S' y) → ShR S' a (jn S) (-1) 0 (fun _ => 0) → Q S') : jFv E mX6_init (d + 1) 1 24 [.ref a] S Q := by
  refine T_X6_init ⟨hk, ?_⟩
  refine VA_of (a := a) (kd := 6) (K := Q) [(2, 24)] (jput S a 0 (-1)) hk ha ?_
  obtain ⟨a1, a2, a3, a4⟩ := JAs_a a [(2, 24)] (jput S a 0 (-1)) ha
  obtain ⟨b1, b2, b3⟩ := JAs_at a [(2, 24)] (jput S a 0 (-1)) 0 (2, 24) ha rfl
  refine h _ (JAs_n a _ _) (fun y hy hya => (jcs.put hya).trans (JAs_keep a _ _ y hy hya)) ⟨⟨a1.trans hk, JAs_ref a _ _ 0 (2, 24) ha (by decide) rfl, b1, b2⟩, ?_, ?_, fun i _ => ?_⟩
  · rw [a3]; exact ji_put_same _ _ _ _
  · rw [a3, ji_put]; simpa using h1
  · exact congrFun b3 i
theorem c_X4_init {Q : jM → Prop} {q : Nat} (hk : jk S q = 4) (hq : jn S = q + 1) (h : ∀ S', jn S' = q + 3 → (∀ y, y < q → jcs S S' y) → RdR S' q (fun _ => 0) (wfar (fun _ => 0) (fun _ => 0)) → Q S') : jFv E mX4_init (d + 2) 2 72 [.ref q] S Q := by
  refine T_X4_init ?_
  refine VA_of (a := q) (kd := 4) (K := fun S9 => jFv E mX4_measure (d + 1) 0 0 [.ref q] S9 (fun S7 => Q S7)) [(0, 36), (1, 36)] S hk (by omega) ?_
  have ha : q < jn S := by omega
  obtain ⟨a1, a2, a3, a4⟩ := JAs_a q [(0, 36), (1, 36)] S ha
  obtain ⟨b1, b2, b3⟩ := JAs_at q [(0, 36), (1, 36)] S 0 (0, 36) ha rfl
  obtain ⟨c1, c2, c3⟩ := JAs_at q [(0, 36), (1, 36)] S 1 (1, 36) ha rfl
  have r0 := JAs_ref q [(0, 36), (1, 36)] S 0 (0, 36) ha (by decide) rfl
  have r1 := JAs_ref q [(0, 36), (1, 36)] S 1 (1, 36) ha (by decide) rfl
  have hn := JAs_n q [(0, 36), (1, 36)] S
  have hkeep := JAs_keep q [(0, 36), (1, 36)] S
  generalize JAs q S [(0, 36), (1, 36)] = S1 at *
  rw [hq] at b1 b2 b3 c1 c2 c3 r0 r1 hn
  refine c_X4_measure (S := S1) ⟨a1.trans hk, r0, r1, b1, b2, c1, c2⟩ (fun S' hc e1 e2 => h S' ?_ (fun y hy => (hkeep y (by omega) (by omega)).trans (jcs.ch hc (by omega))) ⟨RdL.same (S := S1) ⟨a1.trans hk, r0, r1, b1, b2, c1, c2⟩ hc.1, fun i hi => ?_, fun i hi => ?_⟩)
  · rw [hc.1.2.2.2, hn]; rfl
  · rw [e2]; exact congrFun b3 i
  · rw [e1]
    exact wfar_agr (fun j hj => congrFun b3 j) i hi
theorem c_X1_init {Q : jM → Prop} {l : Nat} (hk : jk S l = 1) (hq : jn S = l + 1) (h0 : ji S l = fun _ => 0) (h : ∀ S', jn S' = l + 3 → (∀ y, y < l → jcs S S' y) → LdR S' l 0 0 100 0 0 (fun _ => 0) (fun _ => 0) → Q S') : jFv E mX1_init (d + 1) 2 20 [.ref l] S Q := by
  refine T_X1_init ⟨hk, ?_⟩
  have ha : l < jn (jput S l 2 100) := by show l < jn S; omega
  refine VA_of (a := l) (kd := 1) (K := Q) [(5, 10), (6, 10)] (jput S l 2 100) hk ha ?_
  obtain ⟨a1, a2, a3, a4⟩ := JAs_a l [(5, 10), (6, 10)] (jput S l 2 100) ha
  obtain ⟨b1, b2, b3⟩ := JAs_at l [(5, 10), (6, 10)] (jput S l 2 100) 0 (5, 10) ha rfl
  obtain ⟨c1, c2, c3⟩ := JAs_at l [(5, 10), (6, 10)] (jput S l 2 100) 1 (6, 10) ha rfl
  have r0 := JAs_ref l [(5, 10), (6, 10)] (jput S l 2 100) 0 (5, 10) ha (by decide) rfl
  have r1 := JAs_ref l [(5, 10), (6, 10)] (jput S l 2 100) 1 (6, 10) ha (by decide) rfl
  have hn := JAs_n l [(5, 10), (6, 10)] (jput S l 2 100)
  have hkeep := JAs_keep l [(5, 10), (6, 10)] (jput S l 2 100)
  generalize JAs l (jput S l 2 100) [(5, 10), (6, 10)] = S1 at *
  have hq2 : jn (jput S l 2 100) = l + 1 := hq
  rw [hq2] at b1 b2 b3 c1 c2 c3 r0 r1 hn
  have e : ∀ j, ji S1 l j = if j = 2 then 100 else 0 := by
    intro j
    rw [a3, ji_put, h0]
    by_cases hj : j = 2 <;> simp [hj]
  refine h S1 hn (fun y hy => (jcs.put (by omega)).trans (hkeep y (by rw [hq2]; omega) (by omega))) ⟨⟨a1.trans hk, r0, r1, b1, b2, c1, c2⟩, e 0, e 1, e 2, e 3, e 4, fun i hi => congrFun b3 i, fun i hi => congrFun c3 i⟩
theorem c_X0_init {Q : jM → Prop} {g : Nat} (hk : jk S g = 0) (hq : jn S = g + 1) (h0 : ji S g = fun _ => 0) (h : ∀ S', jn S' = g + 11 → (∀ y, y < g → jcs S S' y) → GR S' g 0 1 (fun _ _ => 0) → Q S') : jFv E mX0_init (d + 2) 10 72 [.ref g] S Q := by
  have key : ∀ (n i : Nat) (S1 : jM), i + n = 9 → jn S1 = g + 2 + i → (∀ y, y < g → jcs S S1 y) → jk S1 g = 0 → jr S1 g 0 = some (g + 1) → jk S1 (g + 1) = 13 → jl S1 (g + 1) = 9 → (∀ j, ji S1 g j = if j = 2 then 1 else 0) → (∀ k, k < i → jr S1 (g + 1) k = some (g + 2 + k) ∧ jk S1 (g + 2 + k) = 2 ∧ ji S1 (g + 2 + k) = fun _ => 0) → L_X0_init_20 E (d + 1) Q g (nI i) S1 (1 + i) (9 + 7 * i) := by
    intro n
    induction n with
    | zero =>
      intro i S1 hi hn hkeep k1 k2 k3 k4 k5 k6
      obtain rfl : i = 9 := by omega
      refine T_X0_init_20 ⟨fun _ => ⟨by decide, h S1 hn hkeep ⟨⟨k1, k2, k3, k4, fun k hk => ⟨(k6 k hk).1, (k6 k hk).2.1⟩⟩, k5 1, k5 2, fun k hk f hf => by rw [(k6 k hk).2.2]⟩⟩, fun c => absurd (by decide) c⟩
    | succ n ih =>
      intro i S1 hi hn hkeep k1 k2 k3 k4 k5 k6
      refine T_X0_init_20 ⟨fun c => absurd c (nI_ge (b := 9) (by omega) (by omega)), fun _ => ⟨k1, g + 1, k2, ⟨by omega, by omega⟩, fun q hqq => ⟨⟨by omega, by omega⟩, c_X2_init ?_⟩⟩⟩
      rw [hn] at hqq
      subst hqq
      have e1 : ∀ y, y ≠ g + 2 + i → jcs S1 (jnew S1 2 0) y := fun y hy => jcs.new (by rw [hn]; exact hy)
      have e2 : jk (jnew S1 2 0) (g + 2 + i) = 2 := by rw [jk_newE, if_pos hn.symm]
      have e3 : ji (jnew S1 2 0) (g + 2 + i) = fun _ => 0 := by rw [ji_newE, if_pos hn.symm]
      refine ⟨(e1 (g + 1) (by omega)).1.trans k3, e2, ?_, ?_⟩
      · rw [(e1 (g + 1) (by omega)).2.1, k4]; exact jin_nI (by omega) (by omega)
      · rw [jcl (by omega), nI_1]
        have hs : ∀ y, y ≠ g + 2 + i → y ≠ g + 1 → jcs S1 (jputr (jnew S1 2 0) (g + 1) i (some (g + 2 + i))) y := fun y h1 h2 => (e1 y h1).trans (jcs.putr h2)
        have c0 := hs g (by omega) (by omega)
        have hih := ih (i + 1) (jputr (jnew S1 2 0) (g + 1) i (some (g + 2 + i))) (by omega) (by show jn S1 + 1 = _; rw [hn]; omega) (fun y hy => (hkeep y hy).trans (hs y (by omega) (by omega))) (c0.1.trans k1) (by rw [c0.2.2.2]; exact k2) ((e1 (g + 1) (by omega)).1.trans k3) ((e1 (g + 1) (by omega)).2.1.trans k4) (fun j => by rw [c0.2.2.1]; exact k5 j) (fun k hkk => ?_)
        · have a1 : 1 + i + 1 + 0 = 1 + (i + 1) := by omega
          have a2 : 9 + 7 * i + 7 + 0 = 9 + 7 * (i + 1) := by omega
          rw [a1, a2]
          exact hih
        · by_cases hki : k = i
          · subst hki
            exact ⟨by rw [jr_putr, if_pos ⟨rfl, rfl⟩], e2, e3⟩
          · have c1 := hs (g + 2 + k) (by omega) (by omega)
            obtain ⟨m1, m2, m3⟩ := k6 k (by omega)
            refine ⟨?_, c1.1.trans m2, by rw [c1.2.2.1]; exact m3⟩
            rw [jr_putr, if_neg (fun c => hki c.2), (e1 (g + 1) (by omega)).2.2.2]
            exact m1
  refine T_X0_init (fun q hqq => ?_)
  rw [hq] at hqq
  subst hqq
  have hs : ∀ y, y ≠ g + 1 → jcs S (jnew S 13 9) y := fun y hy => jcs.new (by rw [hq]; exact hy)
  have hkg : jk (jnew S 13 9) g = 0 := (hs g (by omega)).1.trans hk
  refine ⟨hkg, key 9 0 _ (by omega) (by show jn S + 1 = _; rw [hq]) (fun y hy => ((hs y (by omega)).trans (jcs.putr (by omega))).trans (jcs.put (by omega))) hkg ?_ ?_ ?_ (fun j => ?_) (fun k hk => absurd hk (by omega))⟩
  · show jr (jputr (jnew S 13 9) g 0 (some (g + 1))) g 0 = _
    rw [jr_putr, if_pos ⟨rfl, rfl⟩]
  · show jk (jnew S 13 9) (g + 1) = 13; rw [jk_newE, if_pos hq.symm]
  · show jl (jnew S 13 9) (g + 1) = 9; rw [jl_newE, if_pos hq.symm]
  · rw [ji_put, ji_putr, (hs g (by omega)).2.2.1, h0]
    by_cases hj : j = 2 <;> simp [hj]
end jCons
