section
/-! CONSTRUCTORS: cells that come, cells that stay -/
def jcs (S S' : jM) (y : Nat) : Prop := jk S' y = jk S y ∧ jl S' y = jl S y ∧ ji S' y = ji S y ∧ jr S' y = jr S y
theorem jcs.rfl {S : jM} {y : Nat} : jcs S S y := ⟨_root_.rfl, _root_.rfl, _root_.rfl, _root_.rfl⟩
theorem jcs.trans {S S1 S2 : jM} {y : Nat} (h1 : jcs S S1 y) (h2 : jcs S1 S2 y) : jcs S S2 y := ⟨h2.1.trans h1.1, h2.2.1.trans h1.2.1, h2.2.2.1.trans h1.2.2.1, h2.2.2.2.trans h1.2.2.2⟩
theorem jcs.new {S : jM} {k n y : Nat} (h : y ≠ jn S) : jcs S (jnew S k n) y := ⟨by rw [jk_newE, if_neg h], by rw [jl_newE, if_neg h], by rw [ji_newE, if_neg h], by rw [jr_newE, if_neg h]⟩
theorem jcs.putr {S : jM} {a j y : Nat} {v : Option Nat} (h : y ≠ a) : jcs S (jputr S a j v) y := ⟨_root_.rfl, _root_.rfl, _root_.rfl, by funext i; rw [jr_putr, if_neg (fun c => h c.1)]⟩
theorem jcs.put {S : jM} {a j y : Nat} {v : Int32} (h : y ≠ a) : jcs S (jput S a j v) y := ⟨_root_.rfl, _root_.rfl, ji_put_ne _ _ _ _ h, _root_.rfl⟩
theorem jcs.ch {S S' : jM} {lo hi y : Nat} (h : jch S S' lo hi) (hy : y < lo ∨ hi ≤ y) : jcs S S' y := ⟨by rw [h.1.1], by rw [h.1.2.1], h.2 y hy, by rw [h.1.2.2.1]⟩
theorem GR.grow {S S' : jM} {g sz : Nat} {z : Int32} {mf : Nat → Nat → Int32} (h : GR S g sz z mf) (hc : ∀ y, g ≤ y → y < g + 11 → jcs S S' y) : GR S' g sz z mf := by
  obtain ⟨⟨k1, k2, k3, k4, k5⟩, h2, h3, h4⟩ := h
  have c0 := hc g (by omega) (by omega)
  have c1 := hc (g + 1) (by omega) (by omega)
  refine ⟨⟨by rw [c0.1]; exact k1, by rw [c0.2.2.2]; exact k2, by rw [c1.1]; exact k3, by rw [c1.2.1]; exact k4, fun i hi => ?_⟩, by rw [c0.2.2.1]; exact h2, by rw [c0.2.2.1]; exact h3, fun i hi f hf => ?_⟩
  · have c2 := hc (g + 2 + i) (by omega) (by omega)
    exact ⟨by rw [c1.2.2.2]; exact (k5 i hi).1, by rw [c2.1]; exact (k5 i hi).2⟩
  · rw [(hc (g + 2 + i) (by omega) (by omega)).2.2.1]; exact h4 i hi f hf
theorem RdR.grow {S S' : jM} {q : Nat} {dy wy : Nat → Int32} (h : RdR S q dy wy) (hc : ∀ y, q ≤ y → y < q + 3 → jcs S S' y) : RdR S' q dy wy := by
  obtain ⟨⟨a1, a2, a3, a4, a5, a6, a7⟩, b1, b2⟩ := h
  have c0 := hc q (by omega) (by omega)
  have c1 := hc (q + 1) (by omega) (by omega)
  have c2 := hc (q + 2) (by omega) (by omega)
  exact ⟨⟨by rw [c0.1]; exact a1, by rw [c0.2.2.2]; exact a2, by rw [c0.2.2.2]; exact a3, by rw [c1.1]; exact a4, by rw [c1.2.1]; exact a5, by rw [c2.1]; exact a6, by rw [c2.2.1]; exact a7⟩, fun i hi => by rw [c1.2.2.1]; exact b1 i hi, fun i hi => by rw [c2.2.2.1]; exact b2 i hi⟩
theorem LdR.grow {S S' : jM} {l : Nat} {at_ kn co fo da : Int32} {fr re : Nat → Int32} (h : LdR S l at_ kn co fo da fr re) (hc : ∀ y, l ≤ y → y < l + 3 → jcs S S' y) : LdR S' l at_ kn co fo da fr re := by
  obtain ⟨⟨a1, a2, a3, a4, a5, a6, a7⟩, b0, b1, b2, b3, b4, b5, b6⟩ := h
  have c0 := hc l (by omega) (by omega)
  have c1 := hc (l + 1) (by omega) (by omega)
  have c2 := hc (l + 2) (by omega) (by omega)
  exact ⟨⟨by rw [c0.1]; exact a1, by rw [c0.2.2.2]; exact a2, by rw [c0.2.2.2]; exact a3, by rw [c1.1]; exact a4, by rw [c1.2.1]; exact a5, by rw [c2.1]; exact a6, by rw [c2.2.1]; exact a7⟩, by rw [c0.2.2.1]; exact b0, by rw [c0.2.2.1]; exact b1, by rw [c0.2.2.1]; exact b2, by rw [c0.2.2.1]; exact b3, by rw [c0.2.2.1]; exact b4, fun i hi => by rw [c1.2.2.1]; exact b5 i hi, fun i hi => by rw [c2.2.2.1]; exact b6 i hi⟩
theorem RmR.grow {S S' : jM} {r sz : Nat} {v : Nat → Int32} (h : RmR S r sz v) (hc : ∀ y, r ≤ y → y < r + 20 → jcs S S' y) : RmR S' r sz v := by
  obtain ⟨⟨k1, k2, k3, k4, k5, k6, k7, k8, k9, k10⟩, a1, a2, a3, a4, a5, a6, a7, a8⟩ := h
  have c0 := hc r (by omega) (by omega)
  have c1 := hc (r + 18) (by omega) (by omega)
  have c2 := hc (r + 19) (by omega) (by omega)
  refine ⟨⟨by rw [c0.1]; exact k1, by rw [c0.2.2.2]; exact k2, by rw [c0.2.2.2]; exact k3, by rw [c0.2.2.2]; exact k4, by rw [c0.2.2.2]; exact k5, by rw [c0.2.2.2]; exact k6, by rw [c1.1]; exact k7, by rw [c1.2.1]; exact k8, by rw [c2.1]; exact k9, by rw [c2.2.1]; exact k10⟩, a1, a2, a3.grow (fun y h1 h2 => hc y (by omega) (by omega)), a4.grow (fun y h1 h2 => hc y (by omega) (by omega)), a5.grow (fun y h1 h2 => hc y (by omega) (by omega)), by rw [c0.2.2.1]; exact a6, fun i hi => by rw [c1.2.2.1]; exact a7 i hi, by rw [c0.2.2.1]; exact a8⟩
/-- rows of ints that a constructor makes one behind the other, for its fields -/
def JA (a : Nat) (S : jM) (p : Nat × Nat) : jM := jputr (jnew S 12 p.2) a p.1 (some (jn S))
def JAs (a : Nat) (S : jM) (l : List (Nat × Nat)) : jM := l.foldl (JA a) S
def VA (a kd : Nat) (K : jM → Prop) : List (Nat × Nat) → jM → Prop
  | [], S => K S
  | p :: l, S => ∀ q, q = jn S → jk (jnew S 12 p.2) a = kd ∧ VA a kd K l (jputr (jnew S 12 p.2) a p.1 (some q))
theorem VA_of {a kd : Nat} {K : jM → Prop} : ∀ (l : List (Nat × Nat)) (S : jM), jk S a = kd → a < jn S → K (JAs a S l) → VA a kd K l S
  | [], S, _, _, h => h
  | p :: l, S, hk, ha, h => by
    intro q hq
    subst hq
    have hk2 : jk (jnew S 12 p.2) a = kd := by rw [jk_newE, if_neg (by omega)]; exact hk
    exact ⟨hk2, VA_of l _ hk2 (by show a < jn S + 1; omega) h⟩
theorem JAs_cons (a : Nat) (S : jM) (p : Nat × Nat) (l : List (Nat × Nat)) : JAs a S (p :: l) = JAs a (JA a S p) l := rfl
theorem JAs_n (a : Nat) : ∀ (l : List (Nat × Nat)) (S : jM), jn (JAs a S l) = jn S + l.length
  | [], S => rfl
  | p :: l, S => by rw [JAs_cons, JAs_n a l]; show jn S + 1 + l.length = _; simp; omega
theorem JAs_keep (a : Nat) : ∀ (l : List (Nat × Nat)) (S : jM) (y : Nat), y < jn S → y ≠ a → jcs S (JAs a S l) y
  | [], S, y, _, _ => jcs.rfl
  | p :: l, S, y, h1, h2 => by
    rw [JAs_cons]
    exact ((jcs.new (by omega)).trans (jcs.putr h2)).trans (JAs_keep a l (JA a S p) y (by show y < jn S + 1; omega) h2)
theorem JAs_a (a : Nat) : ∀ (l : List (Nat × Nat)) (S : jM), a < jn S → jk (JAs a S l) a = jk S a ∧ jl (JAs a S l) a = jl S a ∧ ji (JAs a S l) a = ji S a ∧ ∀ j, (∀ p ∈ l, p.1 ≠ j) → jr (JAs a S l) a j = jr S a j
  | [], S, _ => ⟨rfl, rfl, rfl, fun _ _ => rfl⟩
  | p :: l, S, ha => by
    rw [JAs_cons]
    obtain ⟨h1, h2, h3, h4⟩ := JAs_a a l (JA a S p) (by show a < jn S + 1; omega)
    have hn : a ≠ jn S := by omega
    refine ⟨h1.trans ?_, h2.trans ?_, h3.trans ?_, fun j hj => (h4 j (fun q hq => hj q (List.mem_cons_of_mem _ hq))).trans ?_⟩
    · show jk (jnew S 12 p.2) a = _; rw [jk_newE, if_neg hn]
    · show jl (jnew S 12 p.2) a = _; rw [jl_newE, if_neg hn]
    · show ji (jnew S 12 p.2) a = _; rw [ji_newE, if_neg hn]
    · have hp : p.1 ≠ j := hj p List.mem_cons_self
      show jr (jputr (jnew S 12 p.2) a p.1 (some (jn S))) a j = _
      rw [jr_putr, if_neg (fun c => hp c.2.symm), jr_newE, if_neg hn]
theorem JAs_at (a : Nat) : ∀ (l : List (Nat × Nat)) (S : jM) (k : Nat) (p : Nat × Nat), a < jn S → l[k]? = some p → jk (JAs a S l) (jn S + k) = 12 ∧ jl (JAs a S l) (jn S + k) = p.2 ∧ ji (JAs a S l) (jn S + k) = (fun _ => 0)
  | [], S, k, p, _, h => by simp at h
  | q :: l, S, k, p, ha, h => by
    rw [JAs_cons]
    cases k with
    | zero =>
      obtain rfl : q = p := by simpa using h
      have hc := JAs_keep a l (JA a S q) (jn S) (by show jn S < jn S + 1; omega) (by omega)
      refine ⟨hc.1.trans ?_, hc.2.1.trans ?_, hc.2.2.1.trans ?_⟩
      · show jk (jnew S 12 q.2) (jn S) = 12; rw [jk_newE, if_pos rfl]
      · show jl (jnew S 12 q.2) (jn S) = q.2; rw [jl_newE, if_pos rfl]
      · show ji (jnew S 12 q.2) (jn S) = _; rw [ji_newE, if_pos rfl]
    | succ k =>
      have h2 := JAs_at a l (JA a S q) k p (by show a < jn S + 1; omega) (by simpa using h)
      have e : jn (JA a S q) + k = jn S + (k + 1) := by show jn S + 1 + k = _; omega
      rw [e] at h2
      exact h2
theorem JAs_ref (a : Nat) : ∀ (l : List (Nat × Nat)) (S : jM) (k : Nat) (p : Nat × Nat), a < jn S → (l.map Prod.fst).Nodup → l[k]? = some p → jr (JAs a S l) a p.1 = some (jn S + k)
  | [], S, k, p, _, _, h => by simp at h
  | q :: l, S, k, p, ha, hd, h => by
    rw [JAs_cons]
    have hd2 := List.nodup_cons.mp hd
    cases k with
    | zero =>
      obtain rfl : q = p := by simpa using h
      rw [(JAs_a a l (JA a S q) (by show a < jn S + 1; omega)).2.2.2 q.1 (fun r hr e => hd2.1 (by rw [← e]; exact List.mem_map_of_mem hr))]
      show jr (jputr (jnew S 12 q.2) a q.1 (some (jn S))) a q.1 = _
      rw [jr_putr, if_pos ⟨rfl, rfl⟩]
      rfl
    | succ k =>
      have h2 := JAs_ref a l (JA a S q) k p (by show a < jn S + 1; omega) hd2.2 (by simpa using h)
      have e : jn (JA a S q) + k = jn S + (k + 1) := by show jn S + 1 + k = _; omega
      rw [e] at h2
      exact h2
end
section
/-! CONSTRUCTORS of the class's parts; each object's cells stand right behind it -/
def ShL (S : jM) (a p : Nat) : Prop := jk S a = 6 ∧ jr S a 2 = some p ∧ jk S p = 12 ∧ jl S p = 24
/-- a sheet at a with its row at p: sort, size, places -/
def ShR (S : jM) (a p : Nat) (so si : Int32) (pl : Nat → Int32) : Prop := ShL S a p ∧ ji S a 0 = so ∧ ji S a 1 = si ∧ ∀ i, i < 24 → ji S p i = pl i
theorem ShR.grow {S S' : jM} {a p : Nat} {so si : Int32} {pl : Nat → Int32} (h : ShR S a p so si pl) (c0 : jcs S S' a) (c1 : jcs S S' p) : ShR S' a p so si pl := by
  obtain ⟨⟨a1, a2, a3, a4⟩, b1, b2, b3⟩ := h
  exact ⟨⟨by rw [c0.1]; exact a1, by rw [c0.2.2.2]; exact a2, by rw [c1.1]; exact a3, by rw [c1.2.1]; exact a4⟩, by rw [c0.2.2.1]; exact b1, by rw [c0.2.2.1]; exact b2, fun i hi => by rw [c1.2.2.1]; exact b3 i hi⟩
section jCons
variable {E : jEnv} {d : Nat} {S : jM}
theorem c_X2_init {Q : jM → Prop} {a : Nat} (h : Q S) : jFv E mX2_init (d + 1) 0 0 [.ref a] S Q := T_X2_init h
theorem c_X6_init {Q : jM → Prop} {a : Nat} (hk : jk S a = 6) (ha : a < jn S) (h1 : ji S a 1 = 0) (h : ∀ S', jn S' = jn S + 1 → (∀ y, y < jn S → y ≠ a → jcs S S' y) → ShR S' a (jn S) (-1) 0 (fun _ => 0) → Q S') : jFv E mX6_init (d + 1) 1 24 [.ref a] S Q := by
  refine T_X6_init ⟨hk, ?_⟩
  refine VA_of (a := a) (kd := 6) (K := Q) [(2, 24)] (jput S a 0 (-1)) hk ha ?_
  obtain ⟨a1, a2, a3, a4⟩ := JAs_a a [(2, 24)] (jput S a 0 (-1)) ha
  obtain ⟨b1, b2, b3⟩ := JAs_at a [(2, 24)] (jput S a 0 (-1)) 0 (2, 24) ha rfl
  refine h _ (JAs_n a _ _) (fun y hy hya => (jcs.put hya).trans (JAs_keep a _ _ y hy hya)) ⟨⟨a1.trans hk, JAs_ref a _ _ 0 (2, 24) ha (by decide) rfl, b1, b2⟩, ?_, ?_, fun i _ => ?_⟩
  · rw [a3]; exact ji_put_same _ _ _ _
  · rw [a3, ji_put]; simpa using h1
  · exact congrFun b3 i
theorem c_X4_init {Q : jM → Prop} {q : Nat} (hk : jk S q = 4) (hq : jn S = q + 1) (h : ∀ S', jn S' = q + 3 → (∀ y, y < q → jcs S S' y) → RdR S' q (fun _ => 0) (wfar (fun _ => 0) (fun _ => 0)) → Q S') : jFv E mX4_init (d + 2) 2 72 [.ref q] S Q := by
  refine T_X4_init ?_
  refine VA_of (a := q) (kd := 4) (K := fun S9 => jFv E mX4_measure (d + 1) 0 0 [.ref q] S9 (fun S7 => Q S7)) [(0, 36), (1, 36)] S hk (by omega) ?_
  have ha : q < jn S := by omega
  obtain ⟨a1, a2, a3, a4⟩ := JAs_a q [(0, 36), (1, 36)] S ha
  obtain ⟨b1, b2, b3⟩ := JAs_at q [(0, 36), (1, 36)] S 0 (0, 36) ha rfl
  obtain ⟨c1, c2, c3⟩ := JAs_at q [(0, 36), (1, 36)] S 1 (1, 36) ha rfl
  have r0 := JAs_ref q [(0, 36), (1, 36)] S 0 (0, 36) ha (by decide) rfl
  have r1 := JAs_ref q [(0, 36), (1, 36)] S 1 (1, 36) ha (by decide) rfl
  have hn := JAs_n q [(0, 36), (1, 36)] S
  have hkeep := JAs_keep q [(0, 36), (1, 36)] S
  generalize JAs q S [(0, 36), (1, 36)] = S1 at *
  rw [hq] at b1 b2 b3 c1 c2 c3 r0 r1 hn
  refine c_X4_measure (S := S1) ⟨a1.trans hk, r0, r1, b1, b2, c1, c2⟩ (fun S' hc e1 e2 => h S' ?_ (fun y hy => (hkeep y (by omega) (by omega)).trans (jcs.ch hc (by omega))) ⟨RdL.same (S := S1) ⟨a1.trans hk, r0, r1, b1, b2, c1, c2⟩ hc.1, fun i hi => ?_, fun i hi => ?_⟩)
  · rw [hc.1.2.2.2, hn]; rfl
  · rw [e2]; exact congrFun b3 i
  · rw [e1]
    exact wfar_agr (fun j hj => congrFun b3 j) i hi
theorem c_X1_init {Q : jM → Prop} {l : Nat} (hk : jk S l = 1) (hq : jn S = l + 1) (h0 : ji S l = fun _ => 0) (h : ∀ S', jn S' = l + 3 → (∀ y, y < l → jcs S S' y) → LdR S' l 0 0 100 0 0 (fun _ => 0) (fun _ => 0) → Q S') : jFv E mX1_init (d + 1) 2 20 [.ref l] S Q := by
  refine T_X1_init ⟨hk, ?_⟩
  have ha : l < jn (jput S l 2 100) := by show l < jn S; omega
  refine VA_of (a := l) (kd := 1) (K := Q) [(5, 10), (6, 10)] (jput S l 2 100) hk ha ?_
  obtain ⟨a1, a2, a3, a4⟩ := JAs_a l [(5, 10), (6, 10)] (jput S l 2 100) ha
  obtain ⟨b1, b2, b3⟩ := JAs_at l [(5, 10), (6, 10)] (jput S l 2 100) 0 (5, 10) ha rfl
  obtain ⟨c1, c2, c3⟩ := JAs_at l [(5, 10), (6, 10)] (jput S l 2 100) 1 (6, 10) ha rfl
  have r0 := JAs_ref l [(5, 10), (6, 10)] (jput S l 2 100) 0 (5, 10) ha (by decide) rfl
  have r1 := JAs_ref l [(5, 10), (6, 10)] (jput S l 2 100) 1 (6, 10) ha (by decide) rfl
  have hn := JAs_n l [(5, 10), (6, 10)] (jput S l 2 100)
  have hkeep := JAs_keep l [(5, 10), (6, 10)] (jput S l 2 100)
  generalize JAs l (jput S l 2 100) [(5, 10), (6, 10)] = S1 at *
  have hq2 : jn (jput S l 2 100) = l + 1 := hq
  rw [hq2] at b1 b2 b3 c1 c2 c3 r0 r1 hn
  have e : ∀ j, ji S1 l j = if j = 2 then 100 else 0 := by
    intro j
    rw [a3, ji_put, h0]
    by_cases hj : j = 2 <;> simp [hj]
  refine h S1 hn (fun y hy => (jcs.put (by omega)).trans (hkeep y (by rw [hq2]; omega) (by omega))) ⟨⟨a1.trans hk, r0, r1, b1, b2, c1, c2⟩, e 0, e 1, e 2, e 3, e 4, fun i hi => congrFun b3 i, fun i hi => congrFun c3 i⟩
theorem c_X0_init {Q : jM → Prop} {g : Nat} (hk : jk S g = 0) (hq : jn S = g + 1) (h0 : ji S g = fun _ => 0) (h : ∀ S', jn S' = g + 11 → (∀ y, y < g → jcs S S' y) → GR S' g 0 1 (fun _ _ => 0) → Q S') : jFv E mX0_init (d + 2) 10 72 [.ref g] S Q := by
  have key : ∀ (n i : Nat) (S1 : jM), i + n = 9 → jn S1 = g + 2 + i → (∀ y, y < g → jcs S S1 y) → jk S1 g = 0 → jr S1 g 0 = some (g + 1) → jk S1 (g + 1) = 13 → jl S1 (g + 1) = 9 → (∀ j, ji S1 g j = if j = 2 then 1 else 0) → (∀ k, k < i → jr S1 (g + 1) k = some (g + 2 + k) ∧ jk S1 (g + 2 + k) = 2 ∧ ji S1 (g + 2 + k) = fun _ => 0) → L_X0_init_20 E (d + 1) Q g (nI i) S1 (1 + i) (9 + 7 * i) := by
    intro n
    induction n with
    | zero =>
      intro i S1 hi hn hkeep k1 k2 k3 k4 k5 k6
      obtain rfl : i = 9 := by omega
      refine T_X0_init_20 ⟨fun _ => ⟨by decide, h S1 hn hkeep ⟨⟨k1, k2, k3, k4, fun k hk => ⟨(k6 k hk).1, (k6 k hk).2.1⟩⟩, k5 1, k5 2, fun k hk f hf => by rw [(k6 k hk).2.2]⟩⟩, fun c => absurd (by decide) c⟩
    | succ n ih =>
      intro i S1 hi hn hkeep k1 k2 k3 k4 k5 k6
      refine T_X0_init_20 ⟨fun c => absurd c (nI_ge (b := 9) (by omega) (by omega)), fun _ => ⟨k1, g + 1, k2, ⟨by omega, by omega⟩, fun q hqq => ⟨⟨by omega, by omega⟩, c_X2_init ?_⟩⟩⟩
      rw [hn] at hqq
      subst hqq
      have e1 : ∀ y, y ≠ g + 2 + i → jcs S1 (jnew S1 2 0) y := fun y hy => jcs.new (by rw [hn]; exact hy)
      have e2 : jk (jnew S1 2 0) (g + 2 + i) = 2 := by rw [jk_newE, if_pos hn.symm]
      have e3 : ji (jnew S1 2 0) (g + 2 + i) = fun _ => 0 := by rw [ji_newE, if_pos hn.symm]
      refine ⟨(e1 (g + 1) (by omega)).1.trans k3, e2, ?_, ?_⟩
      · rw [(e1 (g + 1) (by omega)).2.1, k4]; exact jin_nI (by omega) (by omega)
      · rw [jcl (by omega), nI_1]
        have hs : ∀ y, y ≠ g + 2 + i → y ≠ g + 1 → jcs S1 (jputr (jnew S1 2 0) (g + 1) i (some (g + 2 + i))) y := fun y h1 h2 => (e1 y h1).trans (jcs.putr h2)
        have c0 := hs g (by omega) (by omega)
        have hih := ih (i + 1) (jputr (jnew S1 2 0) (g + 1) i (some (g + 2 + i))) (by omega) (by show jn S1 + 1 = _; rw [hn]; omega) (fun y hy => (hkeep y hy).trans (hs y (by omega) (by omega))) (c0.1.trans k1) (by rw [c0.2.2.2]; exact k2) ((e1 (g + 1) (by omega)).1.trans k3) ((e1 (g + 1) (by omega)).2.1.trans k4) (fun j => by rw [c0.2.2.1]; exact k5 j) (fun k hkk => ?_)
        · have a1 : 1 + i + 1 + 0 = 1 + (i + 1) := by omega
          have a2 : 9 + 7 * i + 7 + 0 = 9 + 7 * (i + 1) := by omega
          rw [a1, a2]
          exact hih
        · by_cases hki : k = i
          · subst hki
            exact ⟨by rw [jr_putr, if_pos ⟨rfl, rfl⟩], e2, e3⟩
          · have c1 := hs (g + 2 + k) (by omega) (by omega)
            obtain ⟨m1, m2, m3⟩ := k6 k (by omega)
            refine ⟨?_, c1.1.trans m2, by rw [c1.2.2.1]; exact m3⟩
            rw [jr_putr, if_neg (fun c => hki c.2), (e1 (g + 1) (by omega)).2.2.2]
            exact m1
  refine T_X0_init (fun q hqq => ?_)
  rw [hq] at hqq
  subst hqq
  have hs : ∀ y, y ≠ g + 1 → jcs S (jnew S 13 9) y := fun y hy => jcs.new (by rw [hq]; exact hy)
  have hkg : jk (jnew S 13 9) g = 0 := (hs g (by omega)).1.trans hk
  refine ⟨hkg, key 9 0 _ (by omega) (by show jn S + 1 = _; rw [hq]) (fun y hy => ((hs y (by omega)).trans (jcs.putr (by omega))).trans (jcs.put (by omega))) hkg ?_ ?_ ?_ (fun j => ?_) (fun k hk => absurd hk (by omega))⟩
  · show jr (jputr (jnew S 13 9) g 0 (some (g + 1))) g 0 = _
    rw [jr_putr, if_pos ⟨rfl, rfl⟩]
  · show jk (jnew S 13 9) (g + 1) = 13; rw [jk_newE, if_pos hq.symm]
  · show jl (jnew S 13 9) (g + 1) = 9; rw [jl_newE, if_pos hq.symm]
  · rw [ji_put, ji_putr, (hs g (by omega)).2.2.1, h0]
    by_cases hj : j = 2 <;> simp [hj]
end jCons
end
section
/-! CONSTRUCTORS: Realm, Search, Tape, Slot -/
/-- the row of a fresh realm -/
def v0 : Nat → Int32 := fun j => if j = 5 then 100 else if j = 8 then 1 else 0
def SrL (S : jM) (a : Nat) : Prop := jk S a = 5 ∧ (∀ k, k < 7 → jr S a k = some (a + 1 + k) ∧ jk S (a + 1 + k) = 12) ∧ (∀ k, k < 5 → jl S (a + 1 + k) = 5) ∧ jl S (a + 6) = 10 ∧ jl S (a + 7) = 99
def TpL (S : jM) (a : Nat) : Prop := jk S a = 8 ∧ jr S a 0 = some (a + 1) ∧ jr S a 8 = some (a + 2) ∧ jk S (a + 1) = 12 ∧ jl S (a + 1) = 96 ∧ jk S (a + 2) = 12 ∧ jl S (a + 2) = 96
def SlL (S : jM) (a : Nat) : Prop := jk S a = 7 ∧ jr S a 1 = some (a + 1) ∧ jr S a 2 = some (a + 2) ∧ jk S (a + 1) = 2 ∧ ShL S (a + 2) (a + 3)
theorem SrL.grow {S S' : jM} {a : Nat} (h : SrL S a) (hc : ∀ y, a ≤ y → y < a + 8 → jcs S S' y) : SrL S' a := by
  obtain ⟨h1, h2, h3, h4, h5⟩ := h
  have c0 := hc a (by omega) (by omega)
  refine ⟨by rw [c0.1]; exact h1, fun k hk => ⟨by rw [c0.2.2.2]; exact (h2 k hk).1, by rw [(hc (a + 1 + k) (by omega) (by omega)).1]; exact (h2 k hk).2⟩, fun k hk => by rw [(hc (a + 1 + k) (by omega) (by omega)).2.1]; exact h3 k hk, by rw [(hc (a + 6) (by omega) (by omega)).2.1]; exact h4, by rw [(hc (a + 7) (by omega) (by omega)).2.1]; exact h5⟩
theorem TpL.grow {S S' : jM} {a : Nat} (h : TpL S a) (hc : ∀ y, a ≤ y → y < a + 3 → jcs S S' y) : TpL S' a := by
  obtain ⟨h1, h2, h3, h4, h5, h6, h7⟩ := h
  have c0 := hc a (by omega) (by omega)
  have c1 := hc (a + 1) (by omega) (by omega)
  have c2 := hc (a + 2) (by omega) (by omega)
  exact ⟨by rw [c0.1]; exact h1, by rw [c0.2.2.2]; exact h2, by rw [c0.2.2.2]; exact h3, by rw [c1.1]; exact h4, by rw [c1.2.1]; exact h5, by rw [c2.1]; exact h6, by rw [c2.2.1]; exact h7⟩
theorem SlL.grow {S S' : jM} {a : Nat} (h : SlL S a) (hc : ∀ y, a ≤ y → y < a + 4 → jcs S S' y) : SlL S' a := by
  obtain ⟨h1, h2, h3, h4, h5, h6, h7, h8⟩ := h
  have c0 := hc a (by omega) (by omega)
  have c1 := hc (a + 1) (by omega) (by omega)
  have c2 := hc (a + 2) (by omega) (by omega)
  have c3 := hc (a + 3) (by omega) (by omega)
  exact ⟨by rw [c0.1]; exact h1, by rw [c0.2.2.2]; exact h2, by rw [c0.2.2.2]; exact h3, by rw [c1.1]; exact h4, by rw [c2.1]; exact h5, by rw [c2.2.2.2]; exact h6, by rw [c3.1]; exact h7, by rw [c3.2.1]; exact h8⟩
section jCons3
variable {E : jEnv} {d : Nat} {S : jM}
theorem c_X8_init {Q : jM → Prop} {a : Nat} (hk : jk S a = 8) (hq : jn S = a + 1) (h0 : ji S a = fun _ => 0) (h : ∀ S', jn S' = a + 3 → (∀ y, y < a → jcs S S' y) → TpL S' a → (∀ j, ji S' a j = 0) → (∀ j, ji S' (a + 1) j = 0) → Q S') : jFv E mX8_init (d + 1) 2 192 [.ref a] S Q := by
  refine T_X8_init ?_
  have ha : a < jn S := by omega
  refine VA_of (a := a) (kd := 8) (K := Q) [(0, 96), (8, 96)] S hk ha ?_
  obtain ⟨a1, a2, a3, a4⟩ := JAs_a a [(0, 96), (8, 96)] S ha
  obtain ⟨b1, b2, b3⟩ := JAs_at a [(0, 96), (8, 96)] S 0 (0, 96) ha rfl
  obtain ⟨c1, c2, c3⟩ := JAs_at a [(0, 96), (8, 96)] S 1 (8, 96) ha rfl
  have r0 := JAs_ref a [(0, 96), (8, 96)] S 0 (0, 96) ha (by decide) rfl
  have r1 := JAs_ref a [(0, 96), (8, 96)] S 1 (8, 96) ha (by decide) rfl
  have hn := JAs_n a [(0, 96), (8, 96)] S
  have hkeep := JAs_keep a [(0, 96), (8, 96)] S
  generalize JAs a S [(0, 96), (8, 96)] = S1 at *
  rw [hq] at b1 b2 b3 c1 c2 c3 r0 r1 hn
  exact h S1 hn (fun y hy => hkeep y (by omega) (by omega)) ⟨a1.trans hk, r0, r1, b1, b2, c1, c2⟩ (fun j => by rw [a3, h0]) (fun j => congrFun b3 j)
theorem c_X5_init {Q : jM → Prop} {a : Nat} (hk : jk S a = 5) (hq : jn S = a + 1) (h : ∀ S', jn S' = a + 8 → (∀ y, y < a → jcs S S' y) → SrL S' a → Q S') : jFv E mX5_init (d + 1) 7 134 [.ref a] S Q := by
  refine T_X5_init ?_
  have ha : a < jn S := by omega
  refine VA_of (a := a) (kd := 5) (K := Q) [(0, 5), (1, 5), (2, 5), (3, 5), (4, 5), (5, 10), (6, 99)] S hk ha ?_
  obtain ⟨a1, a2, a3, a4⟩ := JAs_a a [(0, 5), (1, 5), (2, 5), (3, 5), (4, 5), (5, 10), (6, 99)] S ha
  have hat := fun k p => JAs_at a [(0, 5), (1, 5), (2, 5), (3, 5), (4, 5), (5, 10), (6, 99)] S k p ha
  have hrf := fun k p => JAs_ref a [(0, 5), (1, 5), (2, 5), (3, 5), (4, 5), (5, 10), (6, 99)] S k p ha (by decide)
  have hn := JAs_n a [(0, 5), (1, 5), (2, 5), (3, 5), (4, 5), (5, 10), (6, 99)] S
  have hkeep := JAs_keep a [(0, 5), (1, 5), (2, 5), (3, 5), (4, 5), (5, 10), (6, 99)] S
  generalize JAs a S [(0, 5), (1, 5), (2, 5), (3, 5), (4, 5), (5, 10), (6, 99)] = S1 at *
  rw [hq] at hat hrf hn
  refine h S1 hn (fun y hy => hkeep y (by omega) (by omega)) ⟨a1.trans hk, fun k hk => ?_, fun k hk => ?_, (hat 5 (5, 10) rfl).2.1, (hat 6 (6, 99) rfl).2.1⟩
  · rcases (show k = 0 ∨ k = 1 ∨ k = 2 ∨ k = 3 ∨ k = 4 ∨ k = 5 ∨ k = 6 by omega) with rfl | rfl | rfl | rfl | rfl | rfl | rfl
    · exact ⟨hrf 0 (0, 5) rfl, (hat 0 (0, 5) rfl).1⟩
    · exact ⟨hrf 1 (1, 5) rfl, (hat 1 (1, 5) rfl).1⟩
    · exact ⟨hrf 2 (2, 5) rfl, (hat 2 (2, 5) rfl).1⟩
    · exact ⟨hrf 3 (3, 5) rfl, (hat 3 (3, 5) rfl).1⟩
    · exact ⟨hrf 4 (4, 5) rfl, (hat 4 (4, 5) rfl).1⟩
    · exact ⟨hrf 5 (5, 10) rfl, (hat 5 (5, 10) rfl).1⟩
    · exact ⟨hrf 6 (6, 99) rfl, (hat 6 (6, 99) rfl).1⟩
  · rcases (show k = 0 ∨ k = 1 ∨ k = 2 ∨ k = 3 ∨ k = 4 by omega) with rfl | rfl | rfl | rfl | rfl
    · exact (hat 0 (0, 5) rfl).2.1
    · exact (hat 1 (1, 5) rfl).2.1
    · exact (hat 2 (2, 5) rfl).2.1
    · exact (hat 3 (3, 5) rfl).2.1
    · exact (hat 4 (4, 5) rfl).2.1
theorem c_X7_init {Q : jM → Prop} {a : Nat} (hk : jk S a = 7) (hq : jn S = a + 1) (h0 : ji S a = fun _ => 0) (h : ∀ S', jn S' = a + 4 → (∀ y, y < a → jcs S S' y) → SlL S' a → ji S' a 0 = 0 → Q S') : jFv E mX7_init (d + 2) 3 34 [.ref a] S Q := by
  refine T_X7_init ⟨hk, fun q hqq => c_X2_init ?_⟩
  have hqq : q = a + 1 := hqq.trans hq
  subst hqq
  have e1 : ∀ y, y ≠ a + 1 → jcs (jput S a 0 0) (jnew (jput S a 0 0) 2 0) y := fun y hy => jcs.new (by show y ≠ jn S; rw [hq]; exact hy)
  have k1 : jk (jnew (jput S a 0 0) 2 0) a = 7 := (e1 a (by omega)).1.trans hk
  have k2 : jk (jnew (jput S a 0 0) 2 0) (a + 1) = 2 := by rw [jk_newE]; exact if_pos hq.symm
  have i1 : ji (jnew (jput S a 0 0) 2 0) a 0 = 0 := by rw [(e1 a (by omega)).2.2.1]; exact ji_put_same _ _ _ _
  have n1 : jn (jnew (jput S a 0 0) 2 0) = a + 2 := by show jn S + 1 = _; rw [hq]
  have s1 : ∀ y, y < a → jcs S (jnew (jput S a 0 0) 2 0) y := fun y hy => (jcs.put (by omega)).trans (e1 y (by omega))
  generalize jnew (jput S a 0 0) 2 0 = S1 at *
  refine ⟨k1, fun q hq2 => ?_⟩
  have hq2 : q = a + 2 := hq2.trans n1
  subst hq2
  have e2 : ∀ y, y ≠ a + 2 → y ≠ a → jcs S1 (jnew (jputr S1 a 1 (some (a + 1))) 6 0) y := fun y hy hya => (jcs.putr hya).trans (jcs.new (by show y ≠ jn S1; rw [n1]; exact hy))
  have n2 : jn (jputr S1 a 1 (some (a + 1))) = a + 2 := n1
  refine c_X6_init (S := jnew (jputr S1 a 1 (some (a + 1))) 6 0) ?_ ?_ ?_ (fun S3 n3 s3 hsh => ?_)
  · rw [jk_newE]; exact if_pos n2.symm
  · show a + 2 < jn S1 + 1; omega
  · rw [ji_newE, if_pos n2.symm]
  · have n3' : jn S3 = a + 4 := by rw [n3]; show jn S1 + 1 + 1 = _; omega
    have nn : jn (jnew (jputr S1 a 1 (some (a + 1))) 6 0) = a + 3 := by show jn S1 + 1 = _; omega
    rw [nn] at hsh
    have ca := s3 a (by rw [nn]; omega) (by omega)
    have cb := s3 (a + 1) (by rw [nn]; omega) (by omega)
    have kaS : jk S3 a = 7 := by rw [ca.1, jk_newE, if_neg (by rw [n2]; omega)]; exact k1
    refine ⟨kaS, h _ n3' (fun y hy => ((s1 y hy).trans (e2 y (by omega) (by omega))).trans ((s3 y (by rw [nn]; omega) (by omega)).trans (jcs.putr (by omega)))) ⟨kaS, ?_, ?_, ?_, ?_⟩ ?_⟩
    · rw [jr_putr, if_neg (by omega), ca.2.2.2, jr_newE, if_neg (by rw [n2]; omega), jr_putr, if_pos ⟨rfl, rfl⟩]
    · rw [jr_putr, if_pos ⟨rfl, rfl⟩]
    · show jk S3 (a + 1) = 2
      rw [cb.1, (e2 (a + 1) (by omega) (by omega)).1]; exact k2
    · obtain ⟨⟨p1, p2, p3, p4⟩, -⟩ := hsh
      exact ⟨p1, by rw [jr_putr, if_neg (by omega)]; exact p2, p3, p4⟩
    · show ji S3 a 0 = 0
      rw [ca.2.2.1, ji_newE, if_neg (by rw [n2]; omega)]; exact i1
theorem c_X3_init {Q : jM → Prop} {r : Nat} (hk : jk S r = 3) (hq : jn S = r + 1) (h0 : ji S r = fun _ => 0) (h : ∀ S', jn S' = r + 20 → (∀ y, y < r → jcs S S' y) → RmR S' r 0 v0 → (∀ i, i < 14 → jr S' (r + 19) i = none) → Q S') : jFv E mX3_init (d + 3) 19 196 [.ref r] S Q := by
  refine T_X3_init (fun q hqq => ?_)
  have hqq : q = r + 1 := hqq.trans hq
  subst hqq
  have s0 : ∀ y, y ≠ r + 1 → jcs S (jnew S 0 0) y := fun y hy => jcs.new (by rw [hq]; exact hy)
  refine c_X0_init (S := jnew S 0 0) (by rw [jk_newE]; exact if_pos hq.symm) (by show jn S + 1 = _; omega) (by rw [ji_newE]; exact if_pos hq.symm) (fun S2 n2 s2 hg => ?_)
  have c2 := (s0 r (by omega)).trans (s2 r (by omega))
  refine ⟨c2.1.trans hk, fun q hq5 => ?_⟩
  have n2' : jn (jputr S2 r 0 (some (r + 1))) = r + 12 := n2
  have hq5 : q = r + 12 := hq5.trans n2'
  subst hq5
  have s3 : ∀ y, y ≠ r + 12 → y ≠ r → jcs S2 (jnew (jputr S2 r 0 (some (r + 1))) 4 0) y := fun y hy hyr => (jcs.putr hyr).trans (jcs.new (by rw [n2']; exact hy))
  refine c_X4_init (S := jnew (jputr S2 r 0 (some (r + 1))) 4 0) (by rw [jk_newE]; exact if_pos n2'.symm) (by show jn S2 + 1 = _; omega) (fun S6 n6 s6 hd => ?_)
  have c6 : jk S6 r = 3 ∧ ji S6 r = (fun _ => 0) ∧ jr S6 r 0 = some (r + 1) := by
    have z := s6 r (by omega)
    refine ⟨?_, ?_, ?_⟩
    · rw [z.1, jk_newE, if_neg (by rw [n2']; omega)]; exact c2.1.trans hk
    · rw [z.2.2.1, ji_newE, if_neg (by rw [n2']; omega)]; exact c2.2.2.1.trans h0
    · rw [z.2.2.2, jr_newE, if_neg (by rw [n2']; omega), jr_putr, if_pos ⟨rfl, rfl⟩]
  refine ⟨c6.1, fun q hq9 => ?_⟩
  have n6' : jn (jputr S6 r 1 (some (r + 12))) = r + 15 := n6
  have hq9 : q = r + 15 := hq9.trans n6'
  subst hq9
  have s7 : ∀ y, y ≠ r + 15 → y ≠ r → jcs S6 (jnew (jputr S6 r 1 (some (r + 12))) 1 0) y := fun y hy hyr => (jcs.putr hyr).trans (jcs.new (by rw [n6']; exact hy))
  refine c_X1_init (S := jnew (jputr S6 r 1 (some (r + 12))) 1 0) (by rw [jk_newE]; exact if_pos n6'.symm) (by show jn S6 + 1 = _; omega) (by rw [ji_newE]; exact if_pos n6'.symm) (fun S10 n10 s10 hl => ?_)
  have c10 : jk S10 r = 3 ∧ ji S10 r = (fun _ => 0) ∧ jr S10 r 0 = some (r + 1) ∧ jr S10 r 1 = some (r + 12) := by
    have z := s10 r (by omega)
    refine ⟨?_, ?_, ?_, ?_⟩
    · rw [z.1, jk_newE, if_neg (by rw [n6']; omega)]; exact c6.1
    · rw [z.2.2.1, ji_newE, if_neg (by rw [n6']; omega)]; exact c6.2.1
    · rw [z.2.2.2, jr_newE, if_neg (by rw [n6']; omega), jr_putr, if_neg (by omega)]; exact c6.2.2
    · rw [z.2.2.2, jr_newE, if_neg (by rw [n6']; omega), jr_putr, if_pos ⟨rfl, rfl⟩]
  refine ⟨c10.1, fun q hq13 => ?_⟩
  have na : jn (jputr S10 r 2 (some (r + 15))) = r + 18 := n10
  have hq13 : q = r + 18 := hq13.trans na
  subst hq13
  have sa : ∀ y, y ≠ r + 18 → y ≠ r → jcs S10 (jnew (jputr S10 r 2 (some (r + 15))) 12 6) y := fun y hy hyr => (jcs.putr hyr).trans (jcs.new (by rw [na]; exact hy))
  have ka : jk (jnew (jputr S10 r 2 (some (r + 15))) 12 6) r = 3 := by rw [jk_newE, if_neg (by rw [na]; omega)]; exact c10.1
  refine ⟨ka, fun q hq16 => ?_⟩
  have nb : jn (jputr (jnew (jputr S10 r 2 (some (r + 15))) 12 6) r 3 (some (r + 18))) = r + 19 := by show jn S10 + 1 = _; omega
  have hq16 : q = r + 19 := hq16.trans nb
  subst hq16
  have kb : jk (jnew (jputr (jnew (jputr S10 r 2 (some (r + 15))) 12 6) r 3 (some (r + 18))) 16 14) r = 3 := by rw [jk_newE, if_neg (by rw [nb]; omega)]; exact ka
  refine ⟨kb, ?_⟩
  -- the last memory
  have sb : ∀ y, y ≠ r + 18 → y ≠ r + 19 → y ≠ r → jcs S10 (jputr (jnew (jputr (jnew (jputr S10 r 2 (some (r + 15))) 12 6) r 3 (some (r + 18))) 16 14) r 5 (some (r + 19))) y := fun y h1 h2 h3 => (sa y h1 h3).trans ((jcs.putr h3).trans ((jcs.new (by rw [nb]; exact h2)).trans (jcs.putr h3)))
  have sAll : ∀ y, y < r → jcs S S10 y := fun y hy => ((s0 y (by omega)).trans (s2 y (by omega))).trans (((s3 y (by omega) (by omega)).trans (s6 y (by omega))).trans ((s7 y (by omega) (by omega)).trans (s10 y (by omega))))
  have sG : ∀ y, r + 1 ≤ y → y < r + 12 → jcs S2 S10 y := fun y h1 h2 => ((s3 y (by omega) (by omega)).trans (s6 y (by omega))).trans ((s7 y (by omega) (by omega)).trans (s10 y (by omega)))
  have sD : ∀ y, r + 12 ≤ y → y < r + 15 → jcs S6 S10 y := fun y h1 h2 => (s7 y (by omega) (by omega)).trans (s10 y (by omega))
  have hrow : ∀ j, ji (jputr (jnew (jputr (jnew (jputr S10 r 2 (some (r + 15))) 12 6) r 3 (some (r + 18))) 16 14) r 5 (some (r + 19))) r j = 0 := by
    intro j
    rw [ji_putr, ji_newE, if_neg (by rw [nb]; omega), ji_putr, ji_newE, if_neg (by rw [na]; omega), ji_putr, c10.2.1]
  have hro : ∀ j, jr (jputr (jnew (jputr (jnew (jputr S10 r 2 (some (r + 15))) 12 6) r 3 (some (r + 18))) 16 14) r 5 (some (r + 19))) r j = if j = 5 then some (r + 19) else if j = 3 then some (r + 18) else if j = 2 then some (r + 15) else jr S10 r j := by
    intro j
    rw [jr_putr]
    by_cases h5 : j = 5
    · simp [h5]
    · rw [if_neg (by omega), if_neg h5, jr_newE, if_neg (by rw [nb]; omega), jr_putr]
      by_cases h3 : j = 3
      · simp [h3]
      · rw [if_neg (by omega), if_neg h3, jr_newE, if_neg (by rw [na]; omega), jr_putr]
        by_cases h2 : j = 2 <;> simp [h2]
  have c18 : jk (jputr (jnew (jputr (jnew (jputr S10 r 2 (some (r + 15))) 12 6) r 3 (some (r + 18))) 16 14) r 5 (some (r + 19))) (r + 18) = 12 ∧ jl (jputr (jnew (jputr (jnew (jputr S10 r 2 (some (r + 15))) 12 6) r 3 (some (r + 18))) 16 14) r 5 (some (r + 19))) (r + 18) = 6 ∧ ji (jputr (jnew (jputr (jnew (jputr S10 r 2 (some (r + 15))) 12 6) r 3 (some (r + 18))) 16 14) r 5 (some (r + 19))) (r + 18) = (fun _ => 0) := by
    refine ⟨?_, ?_, ?_⟩
    · rw [jk_putr, jk_newE, if_neg (by rw [nb]; omega), jk_putr, jk_newE, if_pos na.symm]
    · rw [jl_putr, jl_newE, if_neg (by rw [nb]; omega), jl_putr, jl_newE, if_pos na.symm]
    · rw [ji_putr, ji_newE, if_neg (by rw [nb]; omega), ji_putr, ji_newE, if_pos na.symm]
  have c19 : jk (jputr (jnew (jputr (jnew (jputr S10 r 2 (some (r + 15))) 12 6) r 3 (some (r + 18))) 16 14) r 5 (some (r + 19))) (r + 19) = 16 ∧ jl (jputr (jnew (jputr (jnew (jputr S10 r 2 (some (r + 15))) 12 6) r 3 (some (r + 18))) 16 14) r 5 (some (r + 19))) (r + 19) = 14 ∧ ∀ i, jr (jputr (jnew (jputr (jnew (jputr S10 r 2 (some (r + 15))) 12 6) r 3 (some (r + 18))) 16 14) r 5 (some (r + 19))) (r + 19) i = none := by
    refine ⟨?_, ?_, fun i => ?_⟩
    · rw [jk_putr, jk_newE, if_pos nb.symm]
    · rw [jl_putr, jl_newE, if_pos nb.symm]
    · rw [jr_putr, if_neg (by omega), jr_newE, if_pos nb.symm]
  have nE : jn (jputr (jnew (jputr (jnew (jputr S10 r 2 (some (r + 15))) 12 6) r 3 (some (r + 18))) 16 14) r 5 (some (r + 19))) = r + 20 := by show jn S10 + 1 + 1 = _; omega
  have kE : jk (jputr (jnew (jputr (jnew (jputr S10 r 2 (some (r + 15))) 12 6) r 3 (some (r + 18))) 16 14) r 5 (some (r + 19))) r = 3 := kb
  generalize jputr (jnew (jputr (jnew (jputr S10 r 2 (some (r + 15))) 12 6) r 3 (some (r + 18))) 16 14) r 5 (some (r + 19)) = SE at *
  refine h SE nE (fun y hy => (sAll y hy).trans (sb y (by omega) (by omega) (by omega))) ⟨⟨kE, ?_, ?_, ?_, ?_, ?_, c18.1, c18.2.1, c19.1, c19.2.1⟩, by omega, rfl, ?_, ?_, ?_, ?_, fun i hi => ?_, ?_⟩ (fun i _ => c19.2.2 i)
  · rw [hro]; simpa using c10.2.2.1
  · rw [hro]; simpa using c10.2.2.2
  · rw [hro]; simp
  · rw [hro]; simp
  · rw [hro]; simp
  · refine (hg.grow (fun y h1 h2 => (sG y (by omega) (by omega)).trans (sb y (by omega) (by omega) (by omega)))).cong (fun i hi f hf => ?_)
    show (0 : Int32) = v0 (72 + 7 * i + f)
    unfold v0
    rw [if_neg (by omega), if_neg (by omega)]
  · have e1 := hd.grow (S' := SE) (fun y h1 h2 => (sD y (by omega) (by omega)).trans (sb y (by omega) (by omega) (by omega)))
    refine ⟨e1.1, fun i hi => (e1.2.1 i hi).trans ?_, fun i hi => (e1.2.2 i hi).trans (wfar_agr (fun j hj => ?_) i hi)⟩
    · show (0 : Int32) = v0 (36 + i); unfold v0; rw [if_neg (by omega), if_neg (by omega)]
    · show (0 : Int32) = v0 (36 + j); unfold v0; rw [if_neg (by omega), if_neg (by omega)]
  · have e1 := hl.grow (S' := SE) (fun y h1 h2 => sb y (by omega) (by omega) (by omega))
    refine e1.cong (fun i hi => ?_) (fun i hi => ?_)
    · show (0 : Int32) = v0 (16 + i); unfold v0; rw [if_neg (by omega), if_neg (by omega)]
    · show (0 : Int32) = v0 (26 + i); unfold v0; rw [if_neg (by omega), if_neg (by omega)]
  · rw [hrow]; rfl
  · rw [c18.2.2]; show (0 : Int32) = v0 (9 + i); unfold v0; rw [if_neg (by omega), if_neg (by omega)]
  · rw [hrow]; rfl
end jCons3
end
section
/-! THE CONSTRUCTOR of the class -/
def XC (S : jM) (x : Nat) (l : List (Nat × Nat)) : Prop := jk S x = 10 ∧ ji S x = (fun _ => 0) ∧ ∀ p ∈ l, jr S x p.1 = some p.2
theorem XC.cs {S S' : jM} {x : Nat} {l : List (Nat × Nat)} (h : XC S x l) (hc : jcs S S' x) : XC S' x l := ⟨hc.1.trans h.1, hc.2.2.1.trans h.2.1, fun p hp => by rw [hc.2.2.2]; exact h.2.2 p hp⟩
theorem XC.putr {S : jM} {x j b : Nat} {l : List (Nat × Nat)} (h : XC S x l) (hj : ∀ p ∈ l, p.1 ≠ j) : XC (jputr S x j (some b)) x ((j, b) :: l) := by
  refine ⟨h.1, h.2.1, fun p hp => ?_⟩
  rw [jr_putr]
  rcases List.mem_cons.mp hp with rfl | hp
  · rw [if_pos ⟨rfl, rfl⟩]
  · rw [if_neg (fun c => hj p hp c.2)]; exact h.2.2 p hp
/-- a field gets its object, a new cell comes -/
theorem XC.step {S : jM} {x N j b kd n : Nat} {l : List (Nat × Nat)} (h : XC S x l) (hj : ∀ p ∈ l, p.1 ≠ j) (hn : jn S = N) (hx : x < N) :
    XC (jnew (jputr S x j (some b)) kd n) x ((j, b) :: l) ∧ jn (jnew (jputr S x j (some b)) kd n) = N + 1 ∧ jk (jnew (jputr S x j (some b)) kd n) N = kd ∧ jl (jnew (jputr S x j (some b)) kd n) N = n ∧ ji (jnew (jputr S x j (some b)) kd n) N = (fun _ => 0) ∧ jr (jnew (jputr S x j (some b)) kd n) N = (fun _ => none) ∧ ∀ y, y < N → y ≠ x → jcs S (jnew (jputr S x j (some b)) kd n) y := by
  have nn : jn (jputr S x j (some b)) = N := hn
  refine ⟨(h.putr hj).cs (jcs.new (by rw [nn]; omega)), by show jn S + 1 = _; rw [hn], ?_, ?_, ?_, ?_, fun y hy hyx => (jcs.putr hyx).trans (jcs.new (by rw [nn]; omega))⟩
  · rw [jk_newE, if_pos nn.symm]
  · rw [jl_newE, if_pos nn.symm]
  · rw [ji_newE, if_pos nn.symm]
  · rw [jr_newE, if_pos nn.symm]
/-- what the class's object is made of, for good -/
def CL (S : jM) (x : Nat) : Prop :=
  jk S x = 10 ∧ (jr S x 0 = some (x + 1) ∧ jr S x 1 = some (x + 21) ∧ jr S x 3 = some (x + 41) ∧ jr S x 4 = some (x + 52) ∧ jr S x 5 = some (x + 60) ∧ jr S x 6 = some (x + 63) ∧ jr S x 7 = some (x + 64) ∧ jr S x 8 = some (x + 65)) ∧
  SrL S (x + 52) ∧ TpL S (x + 60) ∧ (jk S (x + 63) = 14 ∧ jl S (x + 63) = 4 ∧ ∀ i, i < 4 → jr S (x + 63) i = some (x + 66 + 2 * i)) ∧ (jk S (x + 64) = 15 ∧ jl S (x + 64) = 5 ∧ ∀ i, i < 5 → jr S (x + 64) i = some (x + 74 + 4 * i)) ∧
  (jk S (x + 65) = 12 ∧ jl S (x + 65) = 60) ∧ (∀ i, i < 4 → ShL S (x + 66 + 2 * i) (x + 67 + 2 * i)) ∧ ∀ i, i < 5 → SlL S (x + 74 + 4 * i)
/-- the fresh object's numbers -/
def CN (S : jM) (x : Nat) : Prop :=
  RmR S (x + 1) 0 v0 ∧ RmR S (x + 21) 0 v0 ∧ (∀ i, i < 14 → jr S (x + 20) i = none) ∧ (∀ i, i < 14 → jr S (x + 40) i = none) ∧ GR S (x + 41) 0 1 (fun _ _ => 0) ∧ (∀ j, ji S (x + 60) j = 0) ∧ (∀ j, ji S (x + 61) j = 0) ∧
  (∀ i, i < 4 → ji S (x + 66 + 2 * i) 0 = -1 ∧ ji S (x + 66 + 2 * i) 1 = 0 ∧ ∀ j, j < 24 → ji S (x + 67 + 2 * i) j = 0) ∧ (∀ i, i < 5 → ji S (x + 74 + 4 * i) 0 = 0) ∧ ji S x = (fun _ => 0)
section jCons4
variable {E : jEnv} {d : Nat} {S : jM}
theorem l_X10_slots {Q : jM → Prop} {x : Nat} {l : List (Nat × Nat)} (hl : (7, x + 64) ∈ l) (h : ∀ S', jn S' = x + 94 → XC S' x l → (∀ y, y < x + 74 → y ≠ x → y ≠ x + 64 → jcs S S' y) → jk S' (x + 64) = 15 → jl S' (x + 64) = 5 → (∀ i, i < 5 → jr S' (x + 64) i = some (x + 74 + 4 * i) ∧ SlL S' (x + 74 + 4 * i) ∧ ji S' (x + 74 + 4 * i) 0 = 0) → Q S') :
    ∀ (n i : Nat) (S1 : jM), i + n = 5 → jn S1 = x + 74 + 4 * i → XC S1 x l → (∀ y, y < x + 74 → y ≠ x → y ≠ x + 64 → jcs S S1 y) → jk S1 (x + 64) = 15 → jl S1 (x + 64) = 5 → (∀ k, k < i → jr S1 (x + 64) k = some (x + 74 + 4 * k) ∧ SlL S1 (x + 74 + 4 * k) ∧ ji S1 (x + 74 + 4 * k) 0 = 0) → L_X10_init_111 E (d + 2) Q x (nI i) S1 (73 + 4 * i) (1006 + 38 * i) := by
  intro n
  induction n with
  | zero =>
    intro i S1 hi hn hx hs k1 k2 k3
    obtain rfl : i = 5 := by omega
    exact T_X10_init_111 ⟨fun _ => ⟨by decide, h S1 hn hx hs k1 k2 k3⟩, fun c => absurd (by decide) c⟩
  | succ n ih =>
    intro i S1 hi hn hx hs k1 k2 k3
    refine T_X10_init_111 ⟨fun c => absurd c (nI_ge (b := 5) (by omega) (by omega)), fun _ => ⟨hx.1, x + 64, hx.2.2 _ hl, ⟨by omega, by omega⟩, fun q hq => ⟨⟨by omega, by omega⟩, ?_⟩⟩⟩
    have hq : q = x + 74 + 4 * i := hq.trans hn
    subst hq
    refine c_X7_init (S := jnew S1 7 0) (by rw [jk_newE, if_pos hn.symm]) (by show jn S1 + 1 = _; rw [hn]) (by rw [ji_newE, if_pos hn.symm]) (fun S2 n2 s2 hsl h0 => ?_)
    have st : ∀ y, y < x + 74 + 4 * i → jcs S1 S2 y := fun y hy => (jcs.new (by rw [hn]; omega)).trans (s2 y hy)
    have c64 := st (x + 64) (by omega)
    refine ⟨c64.1.trans k1, hsl.1, by rw [c64.2.1, k2]; exact jin_nI (by omega) (by omega), ?_⟩
    rw [jcl (by omega), nI_1]
    have e1 : 73 + 4 * i + 1 + 3 = 73 + 4 * (i + 1) := by omega
    have e2 : 1006 + 38 * i + 4 + 34 = 1006 + 38 * (i + 1) := by omega
    rw [e1, e2]
    have sp : ∀ y, y ≠ x + 64 → jcs S2 (jputr S2 (x + 64) i (some (x + 74 + 4 * i))) y := fun y hy => jcs.putr hy
    refine ih (i + 1) _ (by omega) (by show jn S2 = _; omega) (hx.cs ((st x (by omega)).trans (sp x (by omega)))) (fun y h1 h2 h3 => (hs y h1 h2 h3).trans ((st y (by omega)).trans (sp y h3))) (c64.1.trans k1) (c64.2.1.trans k2) (fun k hk => ?_)
    by_cases hki : k = i
    · subst hki
      exact ⟨by rw [jr_putr, if_pos ⟨rfl, rfl⟩], hsl.grow (fun y h1 h2 => sp y (by omega)), h0⟩
    · obtain ⟨m1, m2, m3⟩ := k3 k (by omega)
      refine ⟨by rw [jr_putr, if_neg (fun c => hki c.2), c64.2.2.2]; exact m1, m2.grow (fun y h1 h2 => (st y (by omega)).trans (sp y (by omega))), ?_⟩
      show ji S2 (x + 74 + 4 * k) 0 = 0
      rw [(st (x + 74 + 4 * k) (by omega)).2.2.1]; exact m3
theorem l_X10_sheets {Q : jM → Prop} {x : Nat} {l : List (Nat × Nat)} (hl : (6, x + 63) ∈ l) (h : ∀ S', jn S' = x + 74 → XC S' x l → (∀ y, y < x + 66 → y ≠ x → y ≠ x + 63 → jcs S S' y) → jk S' (x + 63) = 14 → jl S' (x + 63) = 4 → (∀ i, i < 4 → jr S' (x + 63) i = some (x + 66 + 2 * i) ∧ ShR S' (x + 66 + 2 * i) (x + 67 + 2 * i) (-1) 0 (fun _ => 0)) → L_X10_init_111 E (d + 2) Q x 0 S' 73 1006) :
    ∀ (n i : Nat) (S1 : jM), i + n = 4 → jn S1 = x + 66 + 2 * i → XC S1 x l → (∀ y, y < x + 66 → y ≠ x → y ≠ x + 63 → jcs S S1 y) → jk S1 (x + 63) = 14 → jl S1 (x + 63) = 4 → (∀ k, k < i → jr S1 (x + 63) k = some (x + 66 + 2 * k) ∧ ShR S1 (x + 66 + 2 * k) (x + 67 + 2 * k) (-1) 0 (fun _ => 0)) → L_X10_init_85 E (d + 2) Q x (nI i) S1 (65 + 2 * i) (898 + 27 * i) := by
  intro n
  induction n with
  | zero =>
    intro i S1 hi hn hx hs k1 k2 k3
    obtain rfl : i = 4 := by omega
    exact T_X10_init_85 ⟨fun _ => h S1 hn hx hs k1 k2 k3, fun c => absurd (by decide) c⟩
  | succ n ih =>
    intro i S1 hi hn hx hs k1 k2 k3
    refine T_X10_init_85 ⟨fun c => absurd c (nI_ge (b := 4) (by omega) (by omega)), fun _ => ⟨hx.1, x + 63, hx.2.2 _ hl, ⟨by omega, by omega⟩, fun q hq => ⟨⟨by omega, by omega⟩, ?_⟩⟩⟩
    have hq : q = x + 66 + 2 * i := hq.trans hn
    subst hq
    refine c_X6_init (S := jnew S1 6 0) (by rw [jk_newE, if_pos hn.symm]) (by show _ < jn S1 + 1; omega) (by rw [ji_newE, if_pos hn.symm]) (fun S2 n2 s2 hsh => ?_)
    have nn : jn (jnew S1 6 0) = x + 67 + 2 * i := by show jn S1 + 1 = _; omega
    rw [nn] at n2 s2 hsh
    have st : ∀ y, y < x + 66 + 2 * i → jcs S1 S2 y := fun y hy => (jcs.new (by rw [hn]; omega)).trans (s2 y (by omega) (by omega))
    have c63 := st (x + 63) (by omega)
    refine ⟨c63.1.trans k1, hsh.1.1, by rw [c63.2.1, k2]; exact jin_nI (by omega) (by omega), ?_⟩
    rw [jcl (by omega), nI_1]
    have e1 : 65 + 2 * i + 1 + 1 = 65 + 2 * (i + 1) := by omega
    have e2 : 898 + 27 * i + 3 + 24 = 898 + 27 * (i + 1) := by omega
    rw [e1, e2]
    have sp : ∀ y, y ≠ x + 63 → jcs S2 (jputr S2 (x + 63) i (some (x + 66 + 2 * i))) y := fun y hy => jcs.putr hy
    refine ih (i + 1) _ (by omega) (by show jn S2 = _; omega) (hx.cs ((st x (by omega)).trans (sp x (by omega)))) (fun y h1 h2 h3 => (hs y h1 h2 h3).trans ((st y (by omega)).trans (sp y h3))) (c63.1.trans k1) (c63.2.1.trans k2) (fun k hk => ?_)
    by_cases hki : k = i
    · subst hki
      exact ⟨by rw [jr_putr, if_pos ⟨rfl, rfl⟩], hsh.grow (sp _ (by omega)) (sp _ (by omega))⟩
    · obtain ⟨m1, m2⟩ := k3 k (by omega)
      exact ⟨by rw [jr_putr, if_neg (fun c => hki c.2), c63.2.2.2]; exact m1, m2.grow ((st _ (by omega)).trans (sp _ (by omega))) ((st _ (by omega)).trans (sp _ (by omega)))⟩
/-- the parts stand still while the later ones are made -/
theorem x10_end {x : Nat} {S2 S3 S6 S7 S10 S11 S14 S15 S18 S22 S23 S24 : jM} (s3 : ∀ y, y < x + 21 → y ≠ x → jcs S2 S3 y) (s6 : ∀ y, y < x + 21 → jcs S3 S6 y) (s7 : ∀ y, y < x + 41 → y ≠ x → jcs S6 S7 y) (s10 : ∀ y, y < x + 41 → jcs S7 S10 y) (s11 : ∀ y, y < x + 52 → y ≠ x → jcs S10 S11 y) (s14 : ∀ y, y < x + 52 → jcs S11 S14 y) (s15 : ∀ y, y < x + 60 → y ≠ x → jcs S14 S15 y) (s18 : ∀ y, y < x + 60 → jcs S15 S18 y) (s22 : ∀ y, y < x + 63 → y ≠ x → jcs S18 S22 y) (s23 : ∀ y, y < x + 66 → y ≠ x → y ≠ x + 63 → jcs S22 S23 y) (s24 : ∀ y, y < x + 74 → y ≠ x → y ≠ x + 64 → jcs S23 S24 y)
    (hr2 : RmR S2 (x + 1) 0 v0) (ht2 : ∀ i, i < 14 → jr S2 (x + 20) i = none) (hr6 : RmR S6 (x + 21) 0 v0) (ht6 : ∀ i, i < 14 → jr S6 (x + 40) i = none) (hg10 : GR S10 (x + 41) 0 1 (fun _ _ => 0)) (hs14 : SrL S14 (x + 52)) (ht18 : TpL S18 (x + 60)) (z60 : ∀ j, ji S18 (x + 60) j = 0) (z61 : ∀ j, ji S18 (x + 61) j = 0)
    (x24 : XC S24 x [(8, x + 65), (7, x + 64), (6, x + 63), (5, x + 60), (4, x + 52), (3, x + 41), (1, x + 21), (0, x + 1)])
    (k63 : jk S23 (x + 63) = 14 ∧ jl S23 (x + 63) = 4) (hsh : ∀ i, i < 4 → jr S23 (x + 63) i = some (x + 66 + 2 * i) ∧ ShR S23 (x + 66 + 2 * i) (x + 67 + 2 * i) (-1) 0 (fun _ => 0)) (k64 : jk S24 (x + 64) = 15 ∧ jl S24 (x + 64) = 5) (hsl : ∀ i, i < 5 → jr S24 (x + 64) i = some (x + 74 + 4 * i) ∧ SlL S24 (x + 74 + 4 * i) ∧ ji S24 (x + 74 + 4 * i) 0 = 0) (k65 : jk S22 (x + 65) = 12 ∧ jl S22 (x + 65) = 60) :
    CL S24 x ∧ CN S24 x ∧ ∀ y, y < x → jcs S2 S24 y := by
  have t22 : ∀ y, y < x + 63 → y ≠ x → jcs S22 S24 y := fun y h1 h2 => (s23 y (by omega) h2 (by omega)).trans (s24 y (by omega) h2 (by omega))
  have t18 : ∀ y, y < x + 63 → y ≠ x → jcs S18 S24 y := fun y h1 h2 => (s22 y h1 h2).trans (t22 y h1 h2)
  have t14 : ∀ y, y < x + 60 → y ≠ x → jcs S14 S24 y := fun y h1 h2 => ((s15 y (by omega) h2).trans (s18 y (by omega))).trans (t18 y (by omega) h2)
  have t10 : ∀ y, y < x + 52 → y ≠ x → jcs S10 S24 y := fun y h1 h2 => ((s11 y (by omega) h2).trans (s14 y (by omega))).trans (t14 y (by omega) h2)
  have t6 : ∀ y, y < x + 41 → y ≠ x → jcs S6 S24 y := fun y h1 h2 => ((s7 y (by omega) h2).trans (s10 y (by omega))).trans (t10 y (by omega) h2)
  have t2 : ∀ y, y < x + 21 → y ≠ x → jcs S2 S24 y := fun y h1 h2 => ((s3 y (by omega) h2).trans (s6 y (by omega))).trans (t6 y (by omega) h2)
  have a63 := s24 (x + 63) (by omega) (by omega) (by omega)
  have a65 := (s23 (x + 65) (by omega) (by omega) (by omega)).trans (s24 (x + 65) (by omega) (by omega) (by omega))
  have hh : ∀ i, i < 4 → ShR S24 (x + 66 + 2 * i) (x + 67 + 2 * i) (-1) 0 (fun _ => 0) := fun i hi => (hsh i hi).2.grow (s24 _ (by omega) (by omega) (by omega)) (s24 _ (by omega) (by omega) (by omega))
  have hrf := x24.2.2
  have c0 := hrf (0, x + 1) (by simp)
  have c1 := hrf (1, x + 21) (by simp)
  have c3 := hrf (3, x + 41) (by simp)
  have c4 := hrf (4, x + 52) (by simp)
  have c5 := hrf (5, x + 60) (by simp)
  have c6 := hrf (6, x + 63) (by simp)
  have c7 := hrf (7, x + 64) (by simp)
  have c8 := hrf (8, x + 65) (by simp)
  have d1 : SrL S24 (x + 52) := hs14.grow (fun y h1 h2 => t14 y (by omega) (by omega))
  have d2 : TpL S24 (x + 60) := ht18.grow (fun y h1 h2 => t18 y (by omega) (by omega))
  have d3 : RmR S24 (x + 1) 0 v0 := hr2.grow (fun y h1 h2 => t2 y (by omega) (by omega))
  have d4 : RmR S24 (x + 21) 0 v0 := hr6.grow (fun y h1 h2 => t6 y (by omega) (by omega))
  have d5 : GR S24 (x + 41) 0 1 (fun _ _ => 0) := hg10.grow (fun y h1 h2 => t10 y (by omega) (by omega))
  have e20 := (t2 (x + 20) (by omega) (by omega)).2.2.2
  have e40 := (t6 (x + 40) (by omega) (by omega)).2.2.2
  have e60 := (t18 (x + 60) (by omega) (by omega)).2.2.1
  have e61 := (t18 (x + 61) (by omega) (by omega)).2.2.1
  refine ⟨⟨x24.1, ⟨c0, c1, c3, c4, c5, c6, c7, c8⟩, d1, d2, ⟨a63.1.trans k63.1, a63.2.1.trans k63.2, fun i hi => by rw [a63.2.2.2]; exact (hsh i hi).1⟩, ⟨k64.1, k64.2, fun i hi => (hsl i hi).1⟩, ⟨a65.1.trans k65.1, a65.2.1.trans k65.2⟩, fun i hi => (hh i hi).1, fun i hi => (hsl i hi).2.1⟩, ⟨d3, d4, fun i hi => by rw [e20]; exact ht2 i hi, fun i hi => by rw [e40]; exact ht6 i hi, d5, fun j => by rw [e60]; exact z60 j, fun j => by rw [e61]; exact z61 j, fun i hi => (hh i hi).2, fun i hi => (hsl i hi).2.2, x24.2.1⟩, fun y hy => t2 y (by omega) (by omega)⟩
set_option maxHeartbeats 800000 in
theorem c_X10_init {Q : jM → Prop} {x : Nat} (hk : jk S x = 10) (hq : jn S = x + 1) (h0 : ji S x = fun _ => 0) (h : ∀ S', jn S' = x + 94 → (∀ y, y < x → jcs S S' y) → CL S' x → CN S' x → Q S') : jFv E mX10_init (d + 4) 93 1196 [.ref x] S Q := by
  refine T_X10_init (fun q hqq => ?_)
  have hqq : q = x + 1 := hqq.trans hq
  subst hqq
  have s0 : ∀ y, y ≠ x + 1 → jcs S (jnew S 3 0) y := fun y hy => jcs.new (by rw [hq]; exact hy)
  refine c_X3_init (S := jnew S 3 0) (by rw [jk_newE]; exact if_pos hq.symm) (by show jn S + 1 = _; omega) (by rw [ji_newE]; exact if_pos hq.symm) (fun S2 n2 s2 hr2 ht2 => ?_)
  have x2 : XC S2 x [] := by
    have c := (s0 x (by omega)).trans (s2 x (by omega))
    exact ⟨c.1.trans hk, c.2.2.1.trans h0, fun p hp => absurd hp List.not_mem_nil⟩
  refine ⟨x2.1, fun q hq2 => ?_⟩
  have hq2 : q = x + 21 := hq2.trans n2
  subst hq2
  obtain ⟨x3, n3, k3, -, i3, -, s3⟩ := x2.step (j := 0) (b := x + 1) (kd := 3) (n := 0) (fun p hp => absurd hp List.not_mem_nil) n2 (by omega)
  generalize jnew (jputr S2 x 0 (some (x + 1))) 3 0 = S3 at *
  refine c_X3_init (S := S3) k3 (by omega) i3 (fun S6 n6 s6 hr6 ht6 => ?_)
  have x6 := x3.cs (s6 x (by omega))
  refine ⟨x6.1, fun q hq6 => ?_⟩
  have hq6 : q = x + 41 := hq6.trans n6
  subst hq6
  obtain ⟨x7, n7, k7, -, i7, -, s7⟩ := x6.step (j := 1) (b := x + 21) (kd := 0) (n := 0) (by simp) n6 (by omega)
  generalize jnew (jputr S6 x 1 (some (x + 21))) 0 0 = S7 at *
  refine c_X0_init (S := S7) k7 (by omega) i7 (fun S10 n10 s10 hg10 => ?_)
  have x10 := x7.cs (s10 x (by omega))
  refine ⟨x10.1, fun q hq10 => ?_⟩
  have hq10 : q = x + 52 := hq10.trans n10
  subst hq10
  obtain ⟨x11, n11, k11, -, i11, -, s11⟩ := x10.step (j := 3) (b := x + 41) (kd := 5) (n := 0) (by simp) n10 (by omega)
  generalize jnew (jputr S10 x 3 (some (x + 41))) 5 0 = S11 at *
  refine c_X5_init (S := S11) k11 (by omega) (fun S14 n14 s14 hs14 => ?_)
  have x14 := x11.cs (s14 x (by omega))
  refine ⟨x14.1, fun q hq14 => ?_⟩
  have hq14 : q = x + 60 := hq14.trans n14
  subst hq14
  obtain ⟨x15, n15, k15, -, i15, -, s15⟩ := x14.step (j := 4) (b := x + 52) (kd := 8) (n := 0) (by simp) n14 (by omega)
  generalize jnew (jputr S14 x 4 (some (x + 52))) 8 0 = S15 at *
  refine c_X8_init (S := S15) k15 (by omega) i15 (fun S18 n18 s18 ht18 z60 z61 => ?_)
  have x18 := x15.cs (s18 x (by omega))
  refine ⟨x18.1, fun q hq18 => ?_⟩
  have hq18 : q = x + 63 := hq18.trans n18
  subst hq18
  obtain ⟨x19, n19, k19, l19, -, r19, s19⟩ := x18.step (j := 5) (b := x + 60) (kd := 14) (n := 4) (by simp) n18 (by omega)
  generalize jnew (jputr S18 x 5 (some (x + 60))) 14 4 = S19 at *
  refine ⟨x19.1, fun q hq19 => ?_⟩
  have hq19 : q = x + 64 := hq19.trans n19
  subst hq19
  obtain ⟨x20, n20, k20, l20, -, r20, s20⟩ := x19.step (j := 6) (b := x + 63) (kd := 15) (n := 5) (by simp) n19 (by omega)
  generalize jnew (jputr S19 x 6 (some (x + 63))) 15 5 = S20 at *
  refine ⟨x20.1, fun q hq20 => ?_⟩
  have hq20 : q = x + 65 := hq20.trans n20
  subst hq20
  obtain ⟨x21, n21, k21, l21, -, -, s21⟩ := x20.step (j := 7) (b := x + 64) (kd := 12) (n := 60) (by simp) n20 (by omega)
  generalize jnew (jputr S20 x 7 (some (x + 64))) 12 60 = S21 at *
  refine ⟨x21.1, ?_⟩
  have x22 := x21.putr (j := 8) (b := x + 65) (by simp)
  have s22 : ∀ y, y ≠ x → jcs S21 (jputr S21 x 8 (some (x + 65))) y := fun y hy => jcs.putr hy
  have n22 : jn (jputr S21 x 8 (some (x + 65))) = x + 66 := n21
  generalize jputr S21 x 8 (some (x + 65)) = S22 at *
  have a63 : jcs S19 S22 (x + 63) := ((s20 _ (by omega) (by omega)).trans (s21 _ (by omega) (by omega))).trans (s22 _ (by omega))
  have a64 : jcs S20 S22 (x + 64) := (s21 _ (by omega) (by omega)).trans (s22 _ (by omega))
  have a65 : jcs S21 S22 (x + 65) := s22 _ (by omega)
  refine l_X10_sheets (S := S22) (l := _) (by simp) (fun S23 n23 x23 s23 k63 l63 hsh => ?_) 4 0 S22 (by omega) n22 x22 (fun _ _ _ _ => jcs.rfl) (a63.1.trans k19) (a63.2.1.trans l19) (fun k hk => absurd hk (by omega))
  have b64 := s23 (x + 64) (by omega) (by omega) (by omega)
  refine l_X10_slots (S := S23) (l := _) (by simp) (fun S24 n24 x24 s24 k64 l64 hsl => ?_) 5 0 S23 (by omega) n23 x23 (fun _ _ _ _ => jcs.rfl) (b64.1.trans (a64.1.trans k20)) (b64.2.1.trans (a64.2.1.trans l20)) (fun k hk => absurd hk (by omega))
  have q22 : ∀ y, y < x + 63 → y ≠ x → jcs S18 S22 y := fun y h1 h2 => (s19 y h1 h2).trans ((s20 y (Nat.lt_succ_of_lt h1) h2).trans ((s21 y (Nat.lt_succ_of_lt (Nat.lt_succ_of_lt h1)) h2).trans (s22 y h2)))
  obtain ⟨cl, cn, co⟩ := x10_end s3 s6 s7 s10 s11 s14 s15 s18 q22 s23 s24 hr2 ht2 hr6 ht6 hg10 hs14 ht18 z60 z61 x24 ⟨k63, l63⟩ hsh ⟨k64, l64⟩ hsl ⟨a65.1.trans k21, a65.2.1.trans l21⟩
  exact h S24 n24 (fun y hy => ((s0 y (Nat.ne_of_lt (Nat.lt_succ_of_lt hy))).trans (s2 y (Nat.lt_succ_of_lt hy))).trans (co y hy)) cl cn
end jCons4
end
section
/-! THE CONSTRUCTOR of the reference -/
def MT : List (Nat × Nat) := [(0, 3135), (1, 3135), (2, 3135), (4, 4), (5, 4), (6, 96), (7, 5), (8, 5), (9, 5), (10, 5), (11, 120), (12, 36), (13, 135), (14, 4), (18, 96), (30, 128), (31, 100), (32, 24), (33, 60), (35, 60)]
def ML (S : jM) (a : Nat) : Prop := jk S a = 11 ∧ ∀ k p, MT[k]? = some p → jr S a p.1 = some (a + 1 + k) ∧ jk S (a + 1 + k) = 12 ∧ jl S (a + 1 + k) = p.2
def MN (S : jM) (a : Nat) : Prop := (∀ j, ji S a j = 0) ∧ (∀ j, ji S (a + 1) j = v0 j) ∧ (∀ j, j < 4 → ji S (a + 4) j = -1) ∧ ∀ k, 1 ≤ k → k < 20 → k ≠ 3 → ∀ j, ji S (a + 1 + k) j = 0
section jCons5
variable {E : jEnv} {d : Nat} {S : jM}
theorem l_X11_init {Q : jM → Prop} {a b : Nat} (h : ∀ S', jn S' = jn S → (∀ y, y ≠ b → jcs S S' y) → jk S' b = jk S b → jl S' b = jl S b → (∀ j, j < 4 → ji S' b j = -1) → Q S') (hk : jk S a = 11) (hr : jr S a 4 = some b) (hb : jk S b = 12) (hl : jl S b = 4) :
    ∀ (n i : Nat) (S1 : jM), i + n = 4 → jn S1 = jn S → (∀ y, y ≠ b → jcs S S1 y) → jk S1 b = jk S b → jl S1 b = jl S b → jk S1 a = 11 → jr S1 a 4 = some b → (∀ j, j < i → ji S1 b j = -1) → L_X11_init_180 E d Q a (nI i) S1 20 10292 := by
  intro n
  induction n with
  | zero =>
    intro i S1 hi hn hs k1 k2 k3 k4 k5
    obtain rfl : i = 4 := by omega
    exact T_X11_init_180 ⟨fun _ => ⟨by decide, h S1 hn hs k1 k2 k5⟩, fun c => absurd (by decide) c⟩
  | succ n ih =>
    intro i S1 hi hn hs k1 k2 k3 k4 k5
    refine T_X11_init_180 ⟨fun c => absurd c (nI_ge (b := 4) (by omega) (by omega)), fun _ => ⟨k3, b, k4, k1.trans hb, by rw [k2, hl]; exact jin_nI (by omega) (by omega), ?_⟩⟩
    rw [jcl (by omega), nI_1]
    refine ih (i + 1) _ (by omega) hn (fun y hy => (hs y hy).trans (jcs.put hy)) k1 k2 k3 k4 (fun j hj => ?_)
    rw [ji_put]
    by_cases hji : j = i
    · rw [if_pos ⟨rfl, hji⟩]
    · rw [if_neg (fun c => hji c.2)]; exact k5 j (by omega)
set_option maxHeartbeats 2000000 in
theorem c_X11_init {Q : jM → Prop} {a : Nat} (hk : jk S a = 11) (hq : jn S = a + 1) (h0 : ji S a = fun _ => 0) (h : ∀ S', jn S' = a + 21 → (∀ y, y < a → jcs S S' y) → ML S' a → MN S' a → Q S') : jFv E mX11_init (d + 1) 20 10292 [.ref a] S Q := by
  refine T_X11_init ?_
  have ha : a < jn S := by omega
  refine VA_of (a := a) (kd := 11) (K := fun S' => ∃ b61, jr S' a 0 = some b61 ∧ jk S' b61 = 12 ∧ vp_in 8 (jl S' b61) ∧ (vp_in 5 (jl S' b61) ∧ L_X11_init_180 E d Q a 0 (jput (jput S' b61 (Int32.toNatClampNeg 8) 1) b61 (Int32.toNatClampNeg 5) 100) 20 10292)) MT S hk ha ?_
  obtain ⟨a1, a2, a3, a4⟩ := JAs_a a MT S ha
  have hat := fun k p => JAs_at a MT S k p ha
  have hrf := fun k p => JAs_ref a MT S k p ha (by decide)
  have hn : jn (JAs a S MT) = jn S + 20 := JAs_n a MT S
  have hkeep := JAs_keep a MT S
  generalize JAs a S MT = S1 at *
  rw [hq] at hat hrf hn
  have r0 := hrf 0 (0, 3135) rfl
  have t0 := hat 0 (0, 3135) rfl
  have r3 := hrf 3 (4, 4) rfl
  have t3 := hat 3 (4, 4) rfl
  refine ⟨a + 1, r0, t0.1, by rw [t0.2.1]; exact jin_nI (n := 8) (N := 3135) (by decide) (by decide), by rw [t0.2.1]; exact jin_nI (n := 5) (N := 3135) (by decide) (by decide), ?_⟩
  have e8 : Int32.toNatClampNeg 8 = 8 := by decide
  have e5 : Int32.toNatClampNeg 5 = 5 := by decide
  rw [e8, e5]
  have s2 : ∀ y, y ≠ a + 1 → jcs S1 (jput (jput S1 (a + 1) 8 1) (a + 1) 5 100) y := fun y hy => (jcs.put hy).trans (jcs.put hy)
  have i2 : ∀ j, ji (jput (jput S1 (a + 1) 8 1) (a + 1) 5 100) (a + 1) j = v0 j := by
    intro j
    rw [ji_put, ji_put]
    unfold v0
    by_cases h5 : j = 5
    · simp [h5]
    · by_cases h8 : j = 8
      · simp [h8]
      · simp only [h5, h8, and_false, if_false]; exact congrFun t0.2.2 j
  have n2 : jn (jput (jput S1 (a + 1) 8 1) (a + 1) 5 100) = a + 21 := hn
  have kk : jk (jput (jput S1 (a + 1) 8 1) (a + 1) 5 100) = jk S1 := rfl
  have ll : jl (jput (jput S1 (a + 1) 8 1) (a + 1) 5 100) = jl S1 := rfl
  have rr : jr (jput (jput S1 (a + 1) 8 1) (a + 1) 5 100) = jr S1 := rfl
  generalize jput (jput S1 (a + 1) 8 1) (a + 1) 5 100 = S2 at *
  refine l_X11_init (S := S2) (a := a) (b := a + 1 + 3) (fun S3 n3 s3 k3 l3 i3 => ?_) (by rw [kk]; exact a1.trans hk) (by rw [rr]; exact r3) (by rw [kk]; exact t3.1) (by rw [ll]; exact t3.2.1) 4 0 S2 rfl rfl (fun _ _ => jcs.rfl) rfl rfl (by rw [kk]; exact a1.trans hk) (by rw [rr]; exact r3) (fun j hj => absurd hj (Nat.not_lt_zero _))
  have ca := (s2 a (by omega)).trans (s3 a (by omega))
  have k23 : jk S3 = jk S2 := by
    funext y
    by_cases hy : y = a + 1 + 3
    · subst hy; exact k3
    · exact (s3 y hy).1
  have l23 : jl S3 = jl S2 := by
    funext y
    by_cases hy : y = a + 1 + 3
    · subst hy; exact l3
    · exact (s3 y hy).2.1
  refine h S3 (n3.trans n2) (fun y hy => (hkeep y (by omega) (by omega)).trans ((s2 y (by omega)).trans (s3 y (by omega)))) ⟨?_, fun k p hp => ⟨?_, ?_, ?_⟩⟩ ⟨fun j => ?_, fun j => ?_, i3, fun k h1 h2 h3 j => ?_⟩
  · rw [k23, kk]; exact a1.trans hk
  · rw [ca.2.2.2]; exact hrf k p hp
  · rw [k23, kk]; exact (hat k p hp).1
  · rw [l23, ll]; exact (hat k p hp).2.1
  · rw [ca.2.2.1, a3, h0]
  · rw [(s3 (a + 1) (by omega)).2.2.1]; exact i2 j
  · rw [(s3 (a + 1 + k) (by omega)).2.2.1, (s2 (a + 1 + k) (by omega)).2.2.1]
    have hl : k < MT.length := h2
    exact congrFun (hat k _ (List.getElem?_eq_getElem hl)).2.2 j
end jCons5
end
section
/-! the reference's calls, with the reference there -/
abbrev jFm (E : jEnv) (M : jMd) (d m : Nat) (As : List Value) (S : jM) (Q : Int32 → jM → Prop) : Prop := jk S m = 11 ∧ jFi E M d 0 0 (.ref m :: As) S Q
theorem U_X11_master {E : jEnv} {d : Nat} {Q : Int32 → jM → Prop} {a0 : Nat} {x1 : Int32} {x2 : Int32} {x3 : Int32} {x4 : Int32} {S : jM} (hk : jk S a0 = 11) (h : ((jisin (Int32.toInt64 x1) 0 5) = 0 → Q (-1000000001) S) ∧ (¬ (jisin (Int32.toInt64 x1) 0 5) = 0 → ((jist x2) = 0 → Q (-1000000001) S) ∧ (¬ (jist x2) = 0 → ((jisg x3) = 0 → Q (-1000000001) S) ∧ (¬ (jisg x3) = 0 → ((jisin (Int32.toInt64 x4) 0 99) = 0 → Q (-1000000001) S) ∧ (¬ (jisin (Int32.toInt64 x4) 0 99) = 0 → jk S a0 = 11 ∧ ∃ b18, jr S a0 0 = some b18 ∧ (jk S b18 = 12 ∧ vp_in 0 (jl S b18) ∧ (((ji S b18 (Int32.toNatClampNeg 0)) = 9 → Q (-1000000003) S) ∧ (¬ (ji S b18 (Int32.toNatClampNeg 0)) = 9 → jFv E mX11_comes d 0 0 [.ref a0, .int x1, .int x2, .int x3, .int x4] S (fun S22 => jk S22 a0 = 11 ∧ ∃ b24, jr S22 a0 0 = some b24 ∧ (jk S22 b24 = 12 ∧ vp_in 0 (jl S22 b24) ∧ (Q ((ji S22 b24 (Int32.toNatClampNeg 0)) - 1) S22))))))))))) : jFm E mX11_master (d + 1) a0 [.int x1, .int x2, .int x3, .int x4] S Q := ⟨hk, T_X11_master h⟩
theorem U_X11_told {E : jEnv} {d : Nat} {Q : Int32 → jM → Prop} {a0 : Nat} {x1 : Int32} {x2 : Int32} {S : jM} (hk : jk S a0 = 11) (h : jk S a0 = 11 ∧ jFi E mX11_isMaster d 0 0 [.ref a0, .int x1] S (fun r3 S2 => (r3 = 0 → Q (-1000000001) S2) ∧ (¬ r3 = 0 → ((jisin (Int32.toInt64 x2) 0 9) = 0 → Q (-1000000001) S2) ∧ (¬ (jisin (Int32.toInt64 x2) 0 9) = 0 → (7 ≤ x2 → (x2 = 7 → jk S2 a0 = 11 ∧ ∃ b23, jr S2 a0 0 = some b23 ∧ (jk S2 b23 = 12 ∧ vp_in 4 (jl S2 b23) ∧ (jFi E mX11_takes d 0 0 [.ref a0, .int x1, .int (jmany (ji S2 b23 (Int32.toNatClampNeg 4)))] S2 (fun r30 S29 => Q r30 S29)))) ∧ (¬ x2 = 7 → (x2 = 9 → jk S2 a0 = 11 ∧ jFi E mX11_worth d 0 0 [.ref a0, .int x1] S2 (fun r21 S20 => Q r21 S20)) ∧ (¬ x2 = 9 → jk S2 a0 = 11 ∧ ∃ b13, jr S2 a0 0 = some b13 ∧ (jk S2 b13 = 12 ∧ vp_in 4 (jl S2 b13) ∧ (jFi E mX11_teaches d 0 0 [.ref a0, .int x1, .int (ji S2 b13 (Int32.toNatClampNeg 4))] S2 (fun r17 S16 => (r17 = 0 → Q 0 S16) ∧ (¬ r17 = 0 → Q 1 S16))))))) ∧ (¬ 7 ≤ x2 → jk S2 a0 = 11 ∧ jFi E mX11_of d 0 0 [.ref a0, .int x1, .int x2] S2 (fun r33 S32 => Q r33 S32)))))) : jFm E mX11_told (d + 1) a0 [.int x1, .int x2] S Q := ⟨hk, T_X11_told h⟩
theorem U_X11_as {E : jEnv} {d : Nat} {Q : Int32 → jM → Prop} {a0 : Nat} {x1 : Int32} {x2 : Int32} {S : jM} (hk : jk S a0 = 11) (h : jk S a0 = 11 ∧ jFi E mX11_isMaster d 0 0 [.ref a0, .int x1] S (fun r3 S2 => (r3 = 0 → Q (-1000000001) S2) ∧ (¬ r3 = 0 → ((jisin (Int32.toInt64 x2) 0 5) = 0 → Q (-1000000001) S2) ∧ (¬ (jisin (Int32.toInt64 x2) 0 5) = 0 → jk S2 a0 = 11 ∧ jFi E mX11_of d 0 0 [.ref a0, .int x1, .int 0] S2 (fun r11 S10 => ((jisof r11 x2) = 0 → Q (-1000000012) S10) ∧ (¬ (jisof r11 x2) = 0 → jk S10 a0 = 11 ∧ jFi E mX11_of d 0 0 [.ref a0, .int x1, .int 4] S10 (fun r18 S17 => Q r18 S17))))))) : jFm E mX11_as (d + 1) a0 [.int x1, .int x2] S Q := ⟨hk, T_X11_as h⟩
theorem U_X11_turns {E : jEnv} {d : Nat} {Q : Int32 → jM → Prop} {a0 : Nat} {x1 : Int32} {x2 : Int32} {S : jM} (hk : jk S a0 = 11) (h : jk S a0 = 11 ∧ jFi E mX11_isMaster d 0 0 [.ref a0, .int x1] S (fun r3 S2 => (r3 = 0 → Q (-1000000001) S2) ∧ (¬ r3 = 0 → ((jisin (Int32.toInt64 x2) 0 5) = 0 → Q (-1000000001) S2) ∧ (¬ (jisin (Int32.toInt64 x2) 0 5) = 0 → jk S2 a0 = 11 ∧ jFi E mX11_becomes d 0 0 [.ref a0, .int (72 + (7 * x1)), .int x2] S2 (fun r11 S10 => Q r11 S10))))) : jFm E mX11_turns (d + 1) a0 [.int x1, .int x2] S Q := ⟨hk, T_X11_turns h⟩
theorem U_X11_set {E : jEnv} {d : Nat} {Q : Int32 → jM → Prop} {a0 : Nat} {x1 : Int32} {x2 : Int32} {x3 : Int32} {S : jM} (hk : jk S a0 = 11) (h : jk S a0 = 11 ∧ jFi E mX11_isMaster d 0 0 [.ref a0, .int x1] S (fun r3 S2 => (r3 = 0 → Q (-1000000001) S2) ∧ (¬ r3 = 0 → ((jisin (Int32.toInt64 x2) 4 6) = 0 → Q (-1000000001) S2) ∧ (¬ (jisin (Int32.toInt64 x2) 4 6) = 0 → (x2 = 6 → ((jisin (Int32.toInt64 x3) 0 1) = 0 → Q (-1000000001) S2) ∧ (¬ (jisin (Int32.toInt64 x3) 0 1) = 0 → jk S2 a0 = 11 ∧ jFi E mX11_becomes d 0 0 [.ref a0, .int ((72 + (7 * x1)) + x2), .int x3] S2 (fun r23 S22 => Q r23 S22))) ∧ (¬ x2 = 6 → ((jisin (Int32.toInt64 x3) 0 99) = 0 → Q (-1000000001) S2) ∧ (¬ (jisin (Int32.toInt64 x3) 0 99) = 0 → jk S2 a0 = 11 ∧ jFi E mX11_becomes d 0 0 [.ref a0, .int ((72 + (7 * x1)) + x2), .int x3] S2 (fun r16 S15 => Q r16 S15))))))) : jFm E mX11_set (d + 1) a0 [.int x1, .int x2, .int x3] S Q := ⟨hk, T_X11_set h⟩
theorem U_X11_bars {E : jEnv} {d : Nat} {Q : Int32 → jM → Prop} {a0 : Nat} {x1 : Int32} {x2 : Int32} {x3 : Int32} {S : jM} (hk : jk S a0 = 11) (h : jk S a0 = 11 ∧ jFi E mX11_isMaster d 0 0 [.ref a0, .int x1] S (fun r3 S2 => (r3 = 0 → Q (-1000000001) S2) ∧ (¬ r3 = 0 → ((jisg x2) = 0 → Q (-1000000001) S2) ∧ (¬ (jisg x2) = 0 → ((jisg x3) = 0 → Q (-1000000001) S2) ∧ (¬ (jisg x3) = 0 → jk S2 a0 = 11 ∧ jFi E mX11_of d 0 0 [.ref a0, .int x1, .int 2] S2 (fun r15 S14 => (x2 = r15 → Q (-1000000001) S14) ∧ (¬ x2 = r15 → jk S14 a0 = 11 ∧ jFi E mX11_of d 0 0 [.ref a0, .int x1, .int 2] S14 (fun r19 S18 => (x3 = r19 → Q (-1000000001) S18) ∧ (¬ x3 = r19 → jk S18 a0 = 11 ∧ jFi E mX11_becomes d 0 0 [.ref a0, .int ((72 + (7 * x1)) + 3), .int ((jshl 1 x2) ||| (jshl 1 x3))] S18 (fun r23 S22 => Q r23 S22)))))))))) : jFm E mX11_bars (d + 1) a0 [.int x1, .int x2, .int x3] S Q := ⟨hk, T_X11_bars h⟩
theorem U_X11_road {E : jEnv} {d : Nat} {Q : Int32 → jM → Prop} {a0 : Nat} {x1 : Int32} {x2 : Int32} {x3 : Int32} {S : jM} (hk : jk S a0 = 11) (h : ((jist x1) = 0 → Q (-1000000001) S) ∧ (¬ (jist x1) = 0 → ((jist x2) = 0 → Q (-1000000001) S) ∧ (¬ (jist x2) = 0 → (x1 = x2 → Q (-1000000001) S) ∧ (¬ x1 = x2 → ((jisin (Int32.toInt64 x3) 0 9) = 0 → Q (-1000000001) S) ∧ (¬ (jisin (Int32.toInt64 x3) 0 9) = 0 → jk S a0 = 11 ∧ ∃ b15, jr S a0 0 = some b15 ∧ (jk S b15 = 12 ∧ vp_in ((36 + (6 * x2)) + x1) (jl S b15) ∧ (jFi E mX11_becomes d 0 0 [.ref a0, .int ((36 + (6 * x1)) + x2), .int x3] (jput S b15 (Int32.toNatClampNeg ((36 + (6 * x2)) + x1)) x3) (fun r19 S18 => Q r19 S18)))))))) : jFm E mX11_road (d + 1) a0 [.int x1, .int x2, .int x3] S Q := ⟨hk, T_X11_road h⟩
theorem U_X11_far {E : jEnv} {d : Nat} {Q : Int32 → jM → Prop} {a0 : Nat} {x1 : Int32} {x2 : Int32} {S : jM} (hk : jk S a0 = 11) (h : ((jist x1) = 0 → Q (-1000000001) S) ∧ (¬ (jist x1) = 0 → ((jist x2) = 0 → Q (-1000000001) S) ∧ (¬ (jist x2) = 0 → jk S a0 = 11 ∧ jFv E mX11_findFar d 0 0 [.ref a0] S (fun S10 => jk S10 a0 = 11 ∧ ∃ b12, jr S10 a0 12 = some b12 ∧ (jk S10 b12 = 12 ∧ vp_in ((6 * x1) + x2) (jl S10 b12) ∧ (((ji S10 b12 (Int32.toNatClampNeg ((6 * x1) + x2))) = 9999 → Q (-1000000005) S10) ∧ (¬ (ji S10 b12 (Int32.toNatClampNeg ((6 * x1) + x2))) = 9999 → Q (ji S10 b12 (Int32.toNatClampNeg ((6 * x1) + x2))) S10))))))) : jFm E mX11_far (d + 1) a0 [.int x1, .int x2] S Q := ⟨hk, T_X11_far h⟩
theorem U_X11_deal {E : jEnv} {d : Nat} {Q : Int32 → jM → Prop} {a0 : Nat} {x1 : Int32} {S : jM} (hk : jk S a0 = 11) (h : ((jisin (Int32.toInt64 x1) 1 9) = 0 → Q (-1000000001) S) ∧ (¬ (jisin (Int32.toInt64 x1) 1 9) = 0 → L_X11_deal_17 E d Q a0 x1 0 S)) : jFm E mX11_deal (d + 1) a0 [.int x1] S Q := ⟨hk, T_X11_deal h⟩
theorem U_X11_seed {E : jEnv} {d : Nat} {Q : Int32 → jM → Prop} {a0 : Nat} {x1 : Int32} {S : jM} (hk : jk S a0 = 11) (h : jk S a0 = 11 ∧ jFi E mX11_becomes d 0 0 [.ref a0, .int 8, .int x1] S (fun r3 S2 => Q r3 S2)) : jFm E mX11_seed (d + 1) a0 [.int x1] S Q := ⟨hk, T_X11_seed h⟩
theorem U_X11_apprentice {E : jEnv} {d : Nat} {Q : Int32 → jM → Prop} {a0 : Nat} {x1 : Int32} {S : jM} (hk : jk S a0 = 11) (h : ((jisin (Int32.toInt64 x1) 0 3) = 0 → Q (-1000000001) S) ∧ (¬ (jisin (Int32.toInt64 x1) 0 3) = 0 → jk S a0 = 11 ∧ ∃ b6, jr S a0 0 = some b6 ∧ (jk S b6 = 12 ∧ vp_in (3 + x1) (jl S b6) ∧ (Q (ji S b6 (Int32.toNatClampNeg (3 + x1))) S)))) : jFm E mX11_apprentice (d + 1) a0 [.int x1] S Q := ⟨hk, T_X11_apprentice h⟩
theorem U_X11_has {E : jEnv} {d : Nat} {Q : Int32 → jM → Prop} {a0 : Nat} {x1 : Int32} {x2 : Int32} {S : jM} (hk : jk S a0 = 11) (h : ((jisin (Int32.toInt64 x1) 2 3) = 0 → Q (-1000000001) S) ∧ (¬ (jisin (Int32.toInt64 x1) 2 3) = 0 → (x1 = 2 → ((jisin (Int32.toInt64 x2) 0 9999) = 0 → Q (-1000000001) S) ∧ (¬ (jisin (Int32.toInt64 x2) 0 9999) = 0 → jk S a0 = 11 ∧ jFi E mX11_becomes d 0 0 [.ref a0, .int (3 + x1), .int x2] S (fun r19 S18 => Q r19 S18))) ∧ (¬ x1 = 2 → ((jisin (Int32.toInt64 x2) 0 99) = 0 → Q (-1000000001) S) ∧ (¬ (jisin (Int32.toInt64 x2) 0 99) = 0 → jk S a0 = 11 ∧ jFi E mX11_becomes d 0 0 [.ref a0, .int (3 + x1), .int x2] S (fun r12 S11 => Q r12 S11))))) : jFm E mX11_has (d + 1) a0 [.int x1, .int x2] S Q := ⟨hk, T_X11_has h⟩
theorem U_X11_knows {E : jEnv} {d : Nat} {Q : Int32 → jM → Prop} {a0 : Nat} {x1 : Int32} {x2 : Int32} {S : jM} (hk : jk S a0 = 11) (h : ((jisg x1) = 0 → Q (-1000000001) S) ∧ (¬ (jisg x1) = 0 → ((jisin (Int32.toInt64 x2) 0 1) = 0 → Q (-1000000001) S) ∧ (¬ (jisin (Int32.toInt64 x2) 0 1) = 0 → jk S a0 = 11 ∧ jFi E mX11_doesKnow d 0 0 [.ref a0, .int x1] S (fun r11 S10 => (r11 = 0 → Q (-1000000002) S10) ∧ (¬ r11 = 0 → jk S10 a0 = 11 ∧ ∃ b14, jr S10 a0 0 = some b14 ∧ ((x2 = 0 → jk S10 b14 = 12 ∧ vp_in (16 + x1) (jl S10 b14) ∧ (Q (ji S10 b14 (Int32.toNatClampNeg (16 + x1))) S10)) ∧ (¬ x2 = 0 → jk S10 b14 = 12 ∧ vp_in (26 + x1) (jl S10 b14) ∧ (Q (ji S10 b14 (Int32.toNatClampNeg (26 + x1))) S10)))))))) : jFm E mX11_knows (d + 1) a0 [.int x1, .int x2] S Q := ⟨hk, T_X11_knows h⟩
theorem U_X11_go {E : jEnv} {d : Nat} {Q : Int32 → jM → Prop} {a0 : Nat} {x1 : Int32} {S : jM} (hk : jk S a0 = 11) (h : ((jist x1) = 0 → Q (-1000000001) S) ∧ (¬ (jist x1) = 0 → jk S a0 = 11 ∧ ∃ b6, jr S a0 0 = some b6 ∧ (jk S b6 = 12 ∧ vp_in 3 (jl S b6) ∧ ((x1 = (ji S b6 (Int32.toNatClampNeg 3)) → Q (-1000000001) S) ∧ (¬ x1 = (ji S b6 (Int32.toNatClampNeg 3)) → (vp_in ((36 + (6 * (ji S b6 (Int32.toNatClampNeg 3)))) + x1) (jl S b6) ∧ (((ji S b6 (Int32.toNatClampNeg ((36 + (6 * (ji S b6 (Int32.toNatClampNeg 3)))) + x1))) = 0 → Q (-1000000002) S) ∧ (¬ (ji S b6 (Int32.toNatClampNeg ((36 + (6 * (ji S b6 (Int32.toNatClampNeg 3)))) + x1))) = 0 → jFv E mX11_goesBy d 0 0 [.ref a0, .int (ji S b6 (Int32.toNatClampNeg ((36 + (6 * (ji S b6 (Int32.toNatClampNeg 3)))) + x1)))] S (fun S12 => jk S12 a0 = 11 ∧ ∃ b14, jr S12 a0 0 = some b14 ∧ (jk S12 b14 = 12 ∧ vp_in 3 (jl S12 b14) ∧ (vp_in 2 (jl S12 b14) ∧ (Q (ji (jput S12 b14 (Int32.toNatClampNeg 3) x1) b14 (Int32.toNatClampNeg 2)) (jput S12 b14 (Int32.toNatClampNeg 3) x1))))))))))))) : jFm E mX11_go (d + 1) a0 [.int x1] S Q := ⟨hk, T_X11_go h⟩
theorem U_X11_learn {E : jEnv} {d : Nat} {Q : Int32 → jM → Prop} {a0 : Nat} {x1 : Int32} {S : jM} (hk : jk S a0 = 11) (h : jk S a0 = 11 ∧ jFi E mX11_isMaster d 0 0 [.ref a0, .int x1] S (fun r3 S2 => (r3 = 0 → Q (-1000000001) S2) ∧ (¬ r3 = 0 → jk S2 a0 = 11 ∧ jFi E mX11_canLearn d 0 0 [.ref a0, .int x1] S2 (fun r7 S6 => (r7 = 0 → Q (-1000000002) S6) ∧ (¬ r7 = 0 → jk S6 a0 = 11 ∧ jFi E mX11_learns d 0 0 [.ref a0, .int x1] S6 (fun r11 S10 => jk S10 a0 = 11 ∧ ∃ b13, jr S10 a0 0 = some b13 ∧ (jk S10 b13 = 12 ∧ vp_in 4 (jl S10 b13) ∧ (Q (ji S10 b13 (Int32.toNatClampNeg 4)) S10)))))))) : jFm E mX11_learn (d + 1) a0 [.int x1] S Q := ⟨hk, T_X11_learn h⟩
theorem U_X11_use {E : jEnv} {d : Nat} {Q : Int32 → jM → Prop} {a0 : Nat} {x1 : Int32} {S : jM} (hk : jk S a0 = 11) (h : ((jisg x1) = 0 → Q (-1000000001) S) ∧ (¬ (jisg x1) = 0 → jk S a0 = 11 ∧ jFi E mX11_doesKnow d 0 0 [.ref a0, .int x1] S (fun r7 S6 => (r7 = 0 → Q (-1000000002) S6) ∧ (¬ r7 = 0 → jk S6 a0 = 11 ∧ jFv E mX11_uses d 0 0 [.ref a0, .int x1] S6 (fun S10 => jk S10 a0 = 11 ∧ ∃ b12, jr S10 a0 0 = some b12 ∧ (jk S10 b12 = 12 ∧ vp_in 4 (jl S10 b12) ∧ (Q (ji S10 b12 (Int32.toNatClampNeg 4)) S10))))))) : jFm E mX11_use (d + 1) a0 [.int x1] S Q := ⟨hk, T_X11_use h⟩
theorem U_X11_rests {E : jEnv} {d : Nat} {Q : Int32 → jM → Prop} {a0 : Nat} {x1 : Int32} {S : jM} (hk : jk S a0 = 11) (h : ((jisin (Int32.toInt64 x1) 1 100) = 0 → Q (-1000000001) S) ∧ (¬ (jisin (Int32.toInt64 x1) 1 100) = 0 → jk S a0 = 11 ∧ jFv E mX11_goesBy d 0 0 [.ref a0, .int x1] S (fun S6 => jk S6 a0 = 11 ∧ ∃ b8, jr S6 a0 0 = some b8 ∧ (jk S6 b8 = 12 ∧ vp_in 4 (jl S6 b8) ∧ (Q (ji S6 b8 (Int32.toNatClampNeg 4)) S6))))) : jFm E mX11_rests (d + 1) a0 [.int x1] S Q := ⟨hk, T_X11_rests h⟩
theorem U_X11_wants {E : jEnv} {d : Nat} {Q : Int32 → jM → Prop} {a0 : Nat} {x1 : Int32} {S : jM} (hk : jk S a0 = 11) (h : ((jisg x1) = 0 → Q (-1000000001) S) ∧ (¬ (jisg x1) = 0 → jk S a0 = 11 ∧ ∃ b6, jr S a0 0 = some b6 ∧ (jk S b6 = 12 ∧ vp_in 7 (jl S b6) ∧ (((ji S b6 (Int32.toNatClampNeg 7)) = 6 → Q (-1000000003) S) ∧ (¬ (ji S b6 (Int32.toNatClampNeg 7)) = 6 → (vp_in (9 + (ji S b6 (Int32.toNatClampNeg 7))) (jl S b6) ∧ ((((Q ((ji (jput S b6 (Int32.toNatClampNeg (9 + (ji S b6 (Int32.toNatClampNeg 7)))) x1) b6 (Int32.toNatClampNeg 7)) + 1) (jput (jput S b6 (Int32.toNatClampNeg (9 + (ji S b6 (Int32.toNatClampNeg 7)))) x1) b6 (Int32.toNatClampNeg 7) ((ji (jput S b6 (Int32.toNatClampNeg (9 + (ji S b6 (Int32.toNatClampNeg 7)))) x1) b6 (Int32.toNatClampNeg 7)) + 1)))))))))))) : jFm E mX11_wants (d + 1) a0 [.int x1] S Q := ⟨hk, T_X11_wants h⟩
theorem U_X11_clear {E : jEnv} {d : Nat} {Q : Int32 → jM → Prop} {a0 : Nat} {S : jM} (hk : jk S a0 = 11) (h : jk S a0 = 11 ∧ jFi E mX11_becomes d 0 0 [.ref a0, .int 7, .int 0] S (fun r3 S2 => Q r3 S2)) : jFm E mX11_clear (d + 1) a0 [] S Q := ⟨hk, T_X11_clear h⟩
theorem U_X11_made {E : jEnv} {d : Nat} {Q : Int32 → jM → Prop} {a0 : Nat} {S : jM} (hk : jk S a0 = 11) (h : jk S a0 = 11 ∧ jFi E mX11_can d 0 0 [.ref a0] S (fun r3 S2 => (r3 = 0 → Q (-1000000002) S2) ∧ (¬ r3 = 0 → L_X11_made_12 E d Q a0 0 S2))) : jFm E mX11_made (d + 1) a0 [] S Q := ⟨hk, T_X11_made h⟩
theorem U_X11_soonest {E : jEnv} {d : Nat} {Q : Int32 → jM → Prop} {a0 : Nat} {x1 : Int32} {S : jM} (hk : jk S a0 = 11) (h : ((jisin (Int32.toInt64 x1) 0 2) = 0 → Q (-1000000001) S) ∧ (¬ (jisin (Int32.toInt64 x1) 0 2) = 0 → jk S a0 = 11 ∧ jFi E mX11_can d 0 0 [.ref a0] S (fun r7 S6 => (r7 = 0 → jk S6 a0 = 11 ∧ jFv E mX11_findSoonest d 0 0 [.ref a0] S6 (fun S10 => jk S10 a0 = 11 ∧ (0 ≤ (ji S10 a0 15) → (x1 = 0 → Q (ji S10 a0 15) S10) ∧ (¬ x1 = 0 → (x1 = 1 → Q (ji S10 a0 16) S10) ∧ (¬ x1 = 1 → Q (ji S10 a0 17) S10))) ∧ (¬ 0 ≤ (ji S10 a0 15) → Q (-1000000005) S10))) ∧ (¬ r7 = 0 → (x1 = 2 → Q (-1000000005) S6) ∧ (¬ x1 = 2 → Q 0 S6))))) : jFm E mX11_soonest (d + 1) a0 [.int x1] S Q := ⟨hk, T_X11_soonest h⟩
theorem U_X11_together {E : jEnv} {d : Nat} {Q : Int32 → jM → Prop} {a0 : Nat} {x1 : Int32} {S : jM} (hk : jk S a0 = 11) (h : ((jisin (Int32.toInt64 x1) 0 1023) = 0 → Q (-1000000001) S) ∧ (¬ (jisin (Int32.toInt64 x1) 0 1023) = 0 → ((jmany x1) ≤ 3 → jk S a0 = 11 ∧ jFi E mX11_areTogether d 0 0 [.ref a0, .int x1] S (fun r11 S10 => (r11 = 0 → Q 0 S10) ∧ (¬ r11 = 0 → Q 1 S10))) ∧ (¬ (jmany x1) ≤ 3 → Q (-1000000001) S))) : jFm E mX11_together (d + 1) a0 [.int x1] S Q := ⟨hk, T_X11_together h⟩
theorem U_X11_never {E : jEnv} {d : Nat} {Q : Int32 → jM → Prop} {a0 : Nat} {S : jM} (hk : jk S a0 = 11) (h : jk S a0 = 11 ∧ jFi E mX11_taughtNow d 0 0 [.ref a0] S (fun r3 S2 => L_X11_never_7 E d Q a0 r3 0 S2)) : jFm E mX11_never (d + 1) a0 [] S Q := ⟨hk, T_X11_never h⟩
theorem U_X11_last {E : jEnv} {d : Nat} {Q : Int32 → jM → Prop} {a0 : Nat} {x1 : Int32} {S : jM} (hk : jk S a0 = 11) (h : ((jisg x1) = 0 → Q (-1000000001) S) ∧ (¬ (jisg x1) = 0 → L_X11_last_17 E d Q a0 x1 (-1) 0 0 S)) : jFm E mX11_last (d + 1) a0 [.int x1] S Q := ⟨hk, T_X11_last h⟩
theorem U_X11_years {E : jEnv} {d : Nat} {Q : Int32 → jM → Prop} {a0 : Nat} {x1 : Int32} {S : jM} (hk : jk S a0 = 11) (h : ((jisin (Int32.toInt64 x1) 1 60) = 0 → Q (-1000000001) S) ∧ (¬ (jisin (Int32.toInt64 x1) 1 60) = 0 → L_X11_years_19 E d Q a0 x1 0 0 S)) : jFm E mX11_years (d + 1) a0 [.int x1] S Q := ⟨hk, T_X11_years h⟩
theorem U_X11_gone {E : jEnv} {d : Nat} {Q : Int32 → jM → Prop} {a0 : Nat} {x1 : Int32} {S : jM} (hk : jk S a0 = 11) (h : ((jisin (Int32.toInt64 x1) 0 60) = 0 → Q (-1000000001) S) ∧ (¬ (jisin (Int32.toInt64 x1) 0 60) = 0 → jk S a0 = 11 ∧ jFv E mX11_laysBy d 0 0 [.ref a0] S (fun S6 => jk S6 a0 = 11 ∧ jFi E mX11_taughtNow d 0 0 [.ref a0] S6 (fun r9 S8 => L_X11_gone_29 E d Q a0 x1 r9 0 0 S8)))) : jFm E mX11_gone (d + 1) a0 [.int x1] S Q := ⟨hk, T_X11_gone h⟩
theorem U_X11_fresh {E : jEnv} {d : Nat} {Q : Int32 → jM → Prop} {a0 : Nat} {S : jM} (hk : jk S a0 = 11) (h : jk S a0 = 11 ∧ jFv E mX11_findFar d 0 0 [.ref a0] S (fun S2 => L_X11_fresh_8 E d Q a0 0 1 S2)) : jFm E mX11_fresh (d + 1) a0 [] S Q := ⟨hk, T_X11_fresh h⟩
theorem U_X11_cut {E : jEnv} {d : Nat} {Q : Int32 → jM → Prop} {a0 : Nat} {x1 : Int32} {x2 : Int32} {S : jM} (hk : jk S a0 = 11) (h : ((jissheet x1) = 0 → Q (-1000000001) S) ∧ (¬ (jissheet x1) = 0 → ((jisin (Int32.toInt64 x2) 0 1) = 0 → Q (-1000000001) S) ∧ (¬ (jisin (Int32.toInt64 x2) 0 1) = 0 → jk S a0 = 11 ∧ ∃ b10, jr S a0 4 = some b10 ∧ (jk S b10 = 12 ∧ vp_in x1 (jl S b10) ∧ ((0 ≤ (ji S b10 (Int32.toNatClampNeg x1)) → L_X11_cut_41 E d Q a0 x1 x2 (-1) 0 0 S) ∧ (¬ 0 ≤ (ji S b10 (Int32.toNatClampNeg x1)) → Q (-1000000011) S)))))) : jFm E mX11_cut (d + 2) a0 [.int x1, .int x2] S Q := ⟨hk, T_X11_cut h⟩
theorem U_X11_fame {E : jEnv} {d : Nat} {Q : Int32 → jM → Prop} {a0 : Nat} {x1 : Int32} {S : jM} (hk : jk S a0 = 11) (h : jk S a0 = 11 ∧ jFi E mX11_isMaster d 0 0 [.ref a0, .int x1] S (fun r3 S2 => (r3 = 0 → Q (-1000000001) S2) ∧ (¬ r3 = 0 → jk S2 a0 = 11 ∧ jFi E mX11_counts d 0 0 [.ref a0, .int 1] S2 (fun r7 S6 => (0 ≤ r7 → jk S6 a0 = 11 ∧ ∃ b10, jr S6 a0 30 = some b10 ∧ (jFi E mX11_of d 0 0 [.ref a0, .int x1, .int 4] S6 (fun r12 S11 => jk S11 b10 = 12 ∧ vp_in 102 (jl S11 b10) ∧ (jk S11 a0 = 11 ∧ ∃ b16, jr S11 a0 30 = some b16 ∧ (jFi E mX11_of d 0 0 [.ref a0, .int x1, .int 5] (jput S11 b10 (Int32.toNatClampNeg 102) r12) (fun r18 S17 => jk S17 b16 = 12 ∧ vp_in 97 (jl S17 b16) ∧ (jk S17 a0 = 11 ∧ jFi E mX11_worked d 0 0 [.ref a0, .int r7] (jput S17 b16 (Int32.toNatClampNeg 97) r18) (fun r23 S22 => Q r23 S22)))))))) ∧ (¬ 0 ≤ r7 → jk S6 a0 = 11 ∧ jFi E mX11_of d 0 0 [.ref a0, .int x1, .int 4] S6 (fun r26 S25 => Q r26 S25)))))) : jFm E mX11_fame (d + 1) a0 [.int x1] S Q := ⟨hk, T_X11_fame h⟩
theorem U_X11_fine {E : jEnv} {d : Nat} {Q : Int32 → jM → Prop} {a0 : Nat} {S : jM} (hk : jk S a0 = 11) (h : jk S a0 = 11 ∧ jFi E mX11_counts d 0 0 [.ref a0, .int 2] S (fun r3 S2 => (0 ≤ r3 → jk S2 a0 = 11 ∧ ∃ b6, jr S2 a0 30 = some b6 ∧ (∃ b7, jr S2 a0 0 = some b7 ∧ (jk S2 b7 = 12 ∧ vp_in 5 (jl S2 b7) ∧ (jk S2 b6 = 12 ∧ vp_in 99 (jl S2 b6) ∧ (vp_in 2 (jl S2 b7) ∧ (vp_in 100 (jl S2 b6) ∧ (jFi E mX11_worked d 0 0 [.ref a0, .int r3] (jput (jput S2 b6 (Int32.toNatClampNeg 99) (ji S2 b7 (Int32.toNatClampNeg 5))) b6 (Int32.toNatClampNeg 100) (ji (jput S2 b6 (Int32.toNatClampNeg 99) (ji S2 b7 (Int32.toNatClampNeg 5))) b7 (Int32.toNatClampNeg 2))) (fun r15 S14 => Q r15 S14)))))))) ∧ (¬ 0 ≤ r3 → jk S2 a0 = 11 ∧ ∃ b17, jr S2 a0 0 = some b17 ∧ (jk S2 b17 = 12 ∧ vp_in 5 (jl S2 b17) ∧ (Q (ji S2 b17 (Int32.toNatClampNeg 5)) S2))))) : jFm E mX11_fine (d + 1) a0 [] S Q := ⟨hk, T_X11_fine h⟩
theorem U_X11_feed {E : jEnv} {d : Nat} {Q : Int32 → jM → Prop} {a0 : Nat} {x1 : Int32} {x2 : Int32} {x3 : Int32} {S : jM} (hk : jk S a0 = 11) (h : jk S a0 = 11 ∧ (((ji S a0 19) + 12) ≤ 96 → L_X11_feed_18 E d Q a0 x1 x2 x3 0 S) ∧ (¬ ((ji S a0 19) + 12) ≤ 96 → Q (-1000000003) S)) : jFm E mX11_feed d a0 [.int x1, .int x2, .int x3] S Q := ⟨hk, T_X11_feed h⟩
theorem U_X11_trim {E : jEnv} {d : Nat} {Q : Int32 → jM → Prop} {a0 : Nat} {x1 : Int32} {S : jM} (hk : jk S a0 = 11) (h : jk S a0 = 11 ∧ ((jisin (Int32.toInt64 x1) 0 (Int32.toInt64 (ji S a0 19))) = 0 → Q (-1000000001) S) ∧ (¬ (jisin (Int32.toInt64 x1) 0 (Int32.toInt64 (ji S a0 19))) = 0 → Q x1 (jput S a0 19 x1))) : jFm E mX11_trim (d + 1) a0 [.int x1] S Q := ⟨hk, T_X11_trim h⟩
theorem U_X11_text {E : jEnv} {d : Nat} {Q : Int32 → jM → Prop} {a0 : Nat} {S : jM} (hk : jk S a0 = 11) (h : jk S a0 = 11 ∧ jFi E mX11_parse d 0 0 [.ref a0] S (fun r3 S2 => (0 ≤ r3 → jk S2 a0 = 11 ∧ ∃ b6, jr S2 a0 0 = some b6 ∧ (jk S2 b6 = 12 ∧ vp_in 1 (jl S2 b6) ∧ (((ji S2 b6 (Int32.toNatClampNeg 1)) = 14 → Q (-1000000003) S2) ∧ (¬ (ji S2 b6 (Int32.toNatClampNeg 1)) = 14 → (vp_in ((jtextat (ji S2 b6 (Int32.toNatClampNeg 1))) + 0) (jl S2 b6) ∧ (vp_in ((jtextat (ji S2 b6 (Int32.toNatClampNeg 1))) + 1) (jl S2 b6) ∧ (vp_in ((jtextat (ji S2 b6 (Int32.toNatClampNeg 1))) + 2) (jl S2 b6) ∧ ((((Q (((ji (jput (jput (jput S2 b6 (Int32.toNatClampNeg ((jtextat (ji S2 b6 (Int32.toNatClampNeg 1))) + 0)) r3) b6 (Int32.toNatClampNeg ((jtextat (ji S2 b6 (Int32.toNatClampNeg 1))) + 1)) (ji S2 a0 29)) b6 (Int32.toNatClampNeg ((jtextat (ji S2 b6 (Int32.toNatClampNeg 1))) + 2)) (ji S2 a0 27)) b6 (Int32.toNatClampNeg 1)) + 1) - 1) (jput (jput (jput (jput S2 b6 (Int32.toNatClampNeg ((jtextat (ji S2 b6 (Int32.toNatClampNeg 1))) + 0)) r3) b6 (Int32.toNatClampNeg ((jtextat (ji S2 b6 (Int32.toNatClampNeg 1))) + 1)) (ji S2 a0 29)) b6 (Int32.toNatClampNeg ((jtextat (ji S2 b6 (Int32.toNatClampNeg 1))) + 2)) (ji S2 a0 27)) b6 (Int32.toNatClampNeg 1) ((ji (jput (jput (jput S2 b6 (Int32.toNatClampNeg ((jtextat (ji S2 b6 (Int32.toNatClampNeg 1))) + 0)) r3) b6 (Int32.toNatClampNeg ((jtextat (ji S2 b6 (Int32.toNatClampNeg 1))) + 1)) (ji S2 a0 29)) b6 (Int32.toNatClampNeg ((jtextat (ji S2 b6 (Int32.toNatClampNeg 1))) + 2)) (ji S2 a0 27)) b6 (Int32.toNatClampNeg 1)) + 1))))))))))))) ∧ (¬ 0 ≤ r3 → jk S2 a0 = 11 ∧ Q ((-100) - (ji S2 a0 20)) S2))) : jFm E mX11_text (d + 1) a0 [] S Q := ⟨hk, T_X11_text h⟩
theorem U_X11_textTold {E : jEnv} {d : Nat} {Q : Int32 → jM → Prop} {a0 : Nat} {x1 : Int32} {x2 : Int32} {S : jM} (hk : jk S a0 = 11) (h : jk S a0 = 11 ∧ jFi E mX11_isText d 0 0 [.ref a0, .int x1] S (fun r3 S2 => (r3 = 0 → Q (-1000000001) S2) ∧ (¬ r3 = 0 → ((jisin (Int32.toInt64 x2) 0 1) = 0 → Q (-1000000001) S2) ∧ (¬ (jisin (Int32.toInt64 x2) 0 1) = 0 → jk S2 a0 = 11 ∧ ∃ b10, jr S2 a0 0 = some b10 ∧ (jk S2 b10 = 12 ∧ vp_in ((jtextat x1) + x2) (jl S2 b10) ∧ (Q (ji S2 b10 (Int32.toNatClampNeg ((jtextat x1) + x2))) S2)))))) : jFm E mX11_textTold (d + 1) a0 [.int x1, .int x2] S Q := ⟨hk, T_X11_textTold h⟩
theorem U_X11_why {E : jEnv} {d : Nat} {Q : Int32 → jM → Prop} {a0 : Nat} {x1 : Int32} {S : jM} (hk : jk S a0 = 11) (h : ((jisin (Int32.toInt64 x1) 0 2) = 0 → Q (-1000000001) S) ∧ (¬ (jisin (Int32.toInt64 x1) 0 2) = 0 → jk S a0 = 11 ∧ jFi E mX11_counts d 0 0 [.ref a0, .int x1] S (fun r7 S6 => Q (jornone r7) S6))) : jFm E mX11_why (d + 1) a0 [.int x1] S Q := ⟨hk, T_X11_why h⟩
theorem U_X11_sheet {E : jEnv} {d : Nat} {Q : Int32 → jM → Prop} {a0 : Nat} {x1 : Int32} {x2 : Int32} {x3 : Int32} {S : jM} (hk : jk S a0 = 11) (h : ((jissheet x1) = 0 → Q (-1000000001) S) ∧ (¬ (jissheet x1) = 0 → ((jisin (Int32.toInt64 x2) (-1) 1) = 0 → Q (-1000000001) S) ∧ (¬ (jisin (Int32.toInt64 x2) (-1) 1) = 0 → (x2 < 0 → jk S a0 = 11 ∧ ∃ b11, jr S a0 4 = some b11 ∧ (jk S b11 = 12 ∧ vp_in x1 (jl S b11) ∧ (∃ b14, jr S a0 5 = some b14 ∧ ((0 ≤ x2 → jk S b14 = 12 ∧ vp_in x1 (jl S b14) ∧ (L_X11_sheet_69 E d Q a0 x1 0 (jput (jput S b11 (Int32.toNatClampNeg x1) x2) b14 (Int32.toNatClampNeg x1) x3))) ∧ (¬ 0 ≤ x2 → jk S b14 = 12 ∧ vp_in x1 (jl S b14) ∧ (L_X11_sheet_69 E d Q a0 x1 0 (jput (jput S b11 (Int32.toNatClampNeg x1) x2) b14 (Int32.toNatClampNeg x1) 0))))))) ∧ (¬ x2 < 0 → (x3 ≤ 24 → (0 ≤ x3 → jk S a0 = 11 ∧ ∃ b23, jr S a0 4 = some b23 ∧ (jk S b23 = 12 ∧ vp_in x1 (jl S b23) ∧ (∃ b26, jr S a0 5 = some b26 ∧ ((0 ≤ x2 → jk S b26 = 12 ∧ vp_in x1 (jl S b26) ∧ (L_X11_sheet_69 E d Q a0 x1 0 (jput (jput S b23 (Int32.toNatClampNeg x1) x2) b26 (Int32.toNatClampNeg x1) x3))) ∧ (¬ 0 ≤ x2 → jk S b26 = 12 ∧ vp_in x1 (jl S b26) ∧ (L_X11_sheet_69 E d Q a0 x1 0 (jput (jput S b23 (Int32.toNatClampNeg x1) x2) b26 (Int32.toNatClampNeg x1) 0))))))) ∧ (¬ 0 ≤ x3 → Q (-1000000014) S)) ∧ (¬ x3 ≤ 24 → Q (-1000000001) S))))) : jFm E mX11_sheet (d + 2) a0 [.int x1, .int x2, .int x3] S Q := ⟨hk, T_X11_sheet h⟩
theorem U_X11_mark {E : jEnv} {d : Nat} {Q : Int32 → jM → Prop} {a0 : Nat} {x1 : Int32} {x2 : Int32} {x3 : Int32} {S : jM} (hk : jk S a0 = 11) (h : ((jissheet x1) = 0 → Q (-1000000001) S) ∧ (¬ (jissheet x1) = 0 → jk S a0 = 11 ∧ ∃ b6, jr S a0 4 = some b6 ∧ (jk S b6 = 12 ∧ vp_in x1 (jl S b6) ∧ ((0 ≤ (ji S b6 (Int32.toNatClampNeg x1)) → ∃ b10, jr S a0 5 = some b10 ∧ (jk S b10 = 12 ∧ vp_in x1 (jl S b10) ∧ (((jisin (Int32.toInt64 x2) 0 (Int32.toInt64 ((ji S b10 (Int32.toNatClampNeg x1)) - 1))) = 0 → Q (-1000000013) S) ∧ (¬ (jisin (Int32.toInt64 x2) 0 (Int32.toInt64 ((ji S b10 (Int32.toNatClampNeg x1)) - 1))) = 0 → (((ji S b6 (Int32.toNatClampNeg x1)) = 0 → (x3 = (-1000000005) → Q (-1000000012) S) ∧ (¬ x3 = (-1000000005) → (((ji S b6 (Int32.toNatClampNeg x1)) = 1 → ((jisin (Int32.toInt64 x3) (-99999) 99999) = 0 → Q (-1000000001) S) ∧ (¬ (jisin (Int32.toInt64 x3) (-99999) 99999) = 0 → ∃ b42, jr S a0 6 = some b42 ∧ ((jk S b42 = 12 ∧ vp_in ((24 * x1) + x2) (jl S b42) ∧ (Q 1 (jput S b42 (Int32.toNatClampNeg ((24 * x1) + x2)) (jshr (jshl x3 16) 16))))))) ∧ (¬ (ji S b6 (Int32.toNatClampNeg x1)) = 1 → ∃ b35, jr S a0 6 = some b35 ∧ ((jk S b35 = 12 ∧ vp_in ((24 * x1) + x2) (jl S b35) ∧ (Q 1 (jput S b35 (Int32.toNatClampNeg ((24 * x1) + x2)) (jshr (jshl x3 16) 16))))))))) ∧ (¬ (ji S b6 (Int32.toNatClampNeg x1)) = 0 → (((ji S b6 (Int32.toNatClampNeg x1)) = 1 → (x3 = (-1000000005) → ∃ b23, jr S a0 6 = some b23 ∧ ((jk S b23 = 12 ∧ vp_in ((24 * x1) + x2) (jl S b23) ∧ (Q 1 (jput S b23 (Int32.toNatClampNeg ((24 * x1) + x2)) x3))))) ∧ (¬ x3 = (-1000000005) → ((jisin (Int32.toInt64 x3) (-99999) 99999) = 0 → Q (-1000000001) S) ∧ (¬ (jisin (Int32.toInt64 x3) (-99999) 99999) = 0 → ∃ b30, jr S a0 6 = some b30 ∧ ((jk S b30 = 12 ∧ vp_in ((24 * x1) + x2) (jl S b30) ∧ (Q 1 (jput S b30 (Int32.toNatClampNeg ((24 * x1) + x2)) x3))))))) ∧ (¬ (ji S b6 (Int32.toNatClampNeg x1)) = 1 → ∃ b19, jr S a0 6 = some b19 ∧ ((jk S b19 = 12 ∧ vp_in ((24 * x1) + x2) (jl S b19) ∧ (Q 1 (jput S b19 (Int32.toNatClampNeg ((24 * x1) + x2)) x3)))))))))))) ∧ (¬ 0 ≤ (ji S b6 (Int32.toNatClampNeg x1)) → Q (-1000000011) S))))) : jFm E mX11_mark (d + 2) a0 [.int x1, .int x2, .int x3] S Q := ⟨hk, T_X11_mark h⟩
theorem U_X11_pour {E : jEnv} {d : Nat} {Q : Int32 → jM → Prop} {a0 : Nat} {x1 : Int32} {S : jM} (hk : jk S a0 = 11) (h : ((jissheet x1) = 0 → Q (-1000000001) S) ∧ (¬ (jissheet x1) = 0 → jk S a0 = 11 ∧ ∃ b6, jr S a0 4 = some b6 ∧ (jk S b6 = 12 ∧ vp_in x1 (jl S b6) ∧ ((0 ≤ (ji S b6 (Int32.toNatClampNeg x1)) → L_X11_pour_27 E d Q a0 x1 0 0 S) ∧ (¬ 0 ≤ (ji S b6 (Int32.toNatClampNeg x1)) → Q (-1000000011) S))))) : jFm E mX11_pour (d + 2) a0 [.int x1] S Q := ⟨hk, T_X11_pour h⟩
theorem U_X11_reads {E : jEnv} {d : Nat} {Q : Int32 → jM → Prop} {a0 : Nat} {x1 : Int32} {S : jM} (hk : jk S a0 = 11) (h : ((jissheet x1) = 0 → Q (-1000000001) S) ∧ (¬ (jissheet x1) = 0 → jk S a0 = 11 ∧ ∃ b6, jr S a0 4 = some b6 ∧ (jk S b6 = 12 ∧ vp_in x1 (jl S b6) ∧ ((0 ≤ (ji S b6 (Int32.toNatClampNeg x1)) → L_X11_reads_25 E d Q a0 x1 0 S) ∧ (¬ 0 ≤ (ji S b6 (Int32.toNatClampNeg x1)) → Q (-1000000011) S))))) : jFm E mX11_reads (d + 2) a0 [.int x1] S Q := ⟨hk, T_X11_reads h⟩
theorem U_X11_copy {E : jEnv} {d : Nat} {Q : Int32 → jM → Prop} {a0 : Nat} {x1 : Int32} {x2 : Int32} {x3 : Int32} {x4 : Int32} {x5 : Int32} {S : jM} (hk : jk S a0 = 11) (h : ((jissheet x1) = 0 → Q (-1000000001) S) ∧ (¬ (jissheet x1) = 0 → ((jissheet x3) = 0 → Q (-1000000001) S) ∧ (¬ (jissheet x3) = 0 → jk S a0 = 11 ∧ ∃ b10, jr S a0 4 = some b10 ∧ (jk S b10 = 12 ∧ vp_in x1 (jl S b10) ∧ (((ji S b10 (Int32.toNatClampNeg x1)) < 0 → Q (-1000000011) S) ∧ (¬ (ji S b10 (Int32.toNatClampNeg x1)) < 0 → vp_in x3 (jl S b10) ∧ ((0 ≤ (ji S b10 (Int32.toNatClampNeg x3)) → ((((ji S b10 (Int32.toNatClampNeg x1)) = (ji S b10 (Int32.toNatClampNeg x3)) → (x2 < 0 → Q (-1000000013) S) ∧ (¬ x2 < 0 → (x4 < 0 → Q (-1000000013) S) ∧ (¬ x4 < 0 → (x5 < 0 → Q (-1000000013) S) ∧ (¬ x5 < 0 → ∃ b20, jr S a0 5 = some b20 ∧ (jk S b20 = 12 ∧ vp_in x1 (jl S b20) ∧ ((0 < (lg_cmp ((Int32.toInt64 x2) + (Int32.toInt64 x5)) (Int32.toInt64 (ji S b20 (Int32.toNatClampNeg x1)))) → Q (-1000000013) S) ∧ (¬ 0 < (lg_cmp ((Int32.toInt64 x2) + (Int32.toInt64 x5)) (Int32.toInt64 (ji S b20 (Int32.toNatClampNeg x1)))) → vp_in x3 (jl S b20) ∧ (((lg_cmp ((Int32.toInt64 x4) + (Int32.toInt64 x5)) (Int32.toInt64 (ji S b20 (Int32.toNatClampNeg x3)))) ≤ 0 → L_X11_copy_113 E d Q a0 x1 x2 x3 x4 x5 0 S) ∧ (¬ (lg_cmp ((Int32.toInt64 x4) + (Int32.toInt64 x5)) (Int32.toInt64 (ji S b20 (Int32.toNatClampNeg x3)))) ≤ 0 → Q (-1000000013) S))))))))) ∧ (¬ (ji S b10 (Int32.toNatClampNeg x1)) = (ji S b10 (Int32.toNatClampNeg x3)) → Q (-1000000012) S)))) ∧ (¬ 0 ≤ (ji S b10 (Int32.toNatClampNeg x3)) → Q (-1000000011) S)))))))) : jFm E mX11_copy (d + 2) a0 [.int x1, .int x2, .int x3, .int x4, .int x5] S Q := ⟨hk, T_X11_copy h⟩
theorem U_X11_lay {E : jEnv} {d : Nat} {Q : Int32 → jM → Prop} {a0 : Nat} {x1 : Int32} {x2 : Int32} {x3 : Int32} {S : jM} (hk : jk S a0 = 11) (h : (x2 = 0 → ((jisslot x1) = 0 → Q (-1000000001) S) ∧ (¬ (jisslot x1) = 0 → (x2 = 2 → jk S a0 = 11 ∧ ∃ b29, jr S a0 4 = some b29 ∧ (jk S b29 = 12 ∧ vp_in x3 (jl S b29) ∧ ((0 ≤ (ji S b29 (Int32.toNatClampNeg x3)) → ∃ b33, jr S a0 7 = some b33 ∧ (jk S b33 = 12 ∧ vp_in x1 (jl S b33) ∧ ((∃ b36, jr S a0 8 = some b36 ∧ ((x2 = 1 → jFi E mX11_of (d + 1) 0 0 [.ref a0, .int x3, .int 0] (jput S b33 (Int32.toNatClampNeg x1) x2) (fun r50 S49 => jk S49 b36 = 12 ∧ vp_in x1 (jl S49 b36) ∧ (jk S49 a0 = 11 ∧ ∃ b54, jr S49 a0 9 = some b54 ∧ (jFi E mX11_worth (d + 1) 0 0 [.ref a0, .int x3] (jput S49 b36 (Int32.toNatClampNeg x1) r50) (fun r56 S55 => jk S55 b54 = 12 ∧ vp_in x1 (jl S55 b54) ∧ (jk S55 a0 = 11 ∧ ∃ b60, jr S55 a0 10 = some b60 ∧ (∃ b61, jr S55 a0 5 = some b61 ∧ (jk S55 b61 = 12 ∧ vp_in x3 (jl S55 b61) ∧ (jk S55 b60 = 12 ∧ vp_in x1 (jl S55 b60) ∧ (L_X11_lay_150 E d Q a0 x1 x3 (ji S b33 (Int32.toNatClampNeg x1)) 0 (jput (jput S55 b54 (Int32.toNatClampNeg x1) r56) b60 (Int32.toNatClampNeg x1) (ji (jput S55 b54 (Int32.toNatClampNeg x1) r56) b61 (Int32.toNatClampNeg x3))))))))))))) ∧ (¬ x2 = 1 → jk S b36 = 12 ∧ vp_in x1 (jl S b36) ∧ (∃ b40, jr S a0 9 = some b40 ∧ (jk S b40 = 12 ∧ vp_in x1 (jl S b40) ∧ (∃ b43, jr S a0 10 = some b43 ∧ (∃ b44, jr S a0 5 = some b44 ∧ (jk S b44 = 12 ∧ vp_in x3 (jl S b44) ∧ (jk S b43 = 12 ∧ vp_in x1 (jl S b43) ∧ (L_X11_lay_150 E d Q a0 x1 x3 (ji S b33 (Int32.toNatClampNeg x1)) 0 (jput (jput (jput (jput S b33 (Int32.toNatClampNeg x1) x2) b36 (Int32.toNatClampNeg x1) x3) b40 (Int32.toNatClampNeg x1) 0) b43 (Int32.toNatClampNeg x1) (ji (jput (jput (jput S b33 (Int32.toNatClampNeg x1) x2) b36 (Int32.toNatClampNeg x1) x3) b40 (Int32.toNatClampNeg x1) 0) b44 (Int32.toNatClampNeg x3)))))))))))))))) ∧ (¬ 0 ≤ (ji S b29 (Int32.toNatClampNeg x3)) → Q (-1000000011) S)))) ∧ (¬ x2 = 2 → jk S a0 = 11 ∧ ∃ b8, jr S a0 7 = some b8 ∧ (jk S b8 = 12 ∧ vp_in x1 (jl S b8) ∧ ((∃ b11, jr S a0 8 = some b11 ∧ ((x2 = 1 → jFi E mX11_of (d + 1) 0 0 [.ref a0, .int x3, .int 0] (jput S b8 (Int32.toNatClampNeg x1) x2) (fun r19 S18 => jk S18 b11 = 12 ∧ vp_in x1 (jl S18 b11) ∧ (jk S18 a0 = 11 ∧ ∃ b23, jr S18 a0 9 = some b23 ∧ (jFi E mX11_worth (d + 1) 0 0 [.ref a0, .int x3] (jput S18 b11 (Int32.toNatClampNeg x1) r19) (fun r25 S24 => jk S24 b23 = 12 ∧ vp_in x1 (jl S24 b23) ∧ (Q (ji S b8 (Int32.toNatClampNeg x1)) (jput S24 b23 (Int32.toNatClampNeg x1) r25))))))) ∧ (¬ x2 = 1 → jk S b11 = 12 ∧ vp_in x1 (jl S b11) ∧ (∃ b15, jr S a0 9 = some b15 ∧ (jk S b15 = 12 ∧ vp_in x1 (jl S b15) ∧ (Q (ji S b8 (Int32.toNatClampNeg x1)) (jput (jput (jput S b8 (Int32.toNatClampNeg x1) x2) b11 (Int32.toNatClampNeg x1) x3) b15 (Int32.toNatClampNeg x1) 0)))))))))))) ∧ (¬ x2 = 0 → (x2 = 3 → ((jisslot x1) = 0 → Q (-1000000001) S) ∧ (¬ (jisslot x1) = 0 → (x2 = 2 → jk S a0 = 11 ∧ ∃ b94, jr S a0 4 = some b94 ∧ (jk S b94 = 12 ∧ vp_in x3 (jl S b94) ∧ ((0 ≤ (ji S b94 (Int32.toNatClampNeg x3)) → ∃ b98, jr S a0 7 = some b98 ∧ (jk S b98 = 12 ∧ vp_in x1 (jl S b98) ∧ ((∃ b101, jr S a0 8 = some b101 ∧ ((x2 = 1 → jFi E mX11_of (d + 1) 0 0 [.ref a0, .int x3, .int 0] (jput S b98 (Int32.toNatClampNeg x1) x2) (fun r115 S114 => jk S114 b101 = 12 ∧ vp_in x1 (jl S114 b101) ∧ (jk S114 a0 = 11 ∧ ∃ b119, jr S114 a0 9 = some b119 ∧ (jFi E mX11_worth (d + 1) 0 0 [.ref a0, .int x3] (jput S114 b101 (Int32.toNatClampNeg x1) r115) (fun r121 S120 => jk S120 b119 = 12 ∧ vp_in x1 (jl S120 b119) ∧ (jk S120 a0 = 11 ∧ ∃ b125, jr S120 a0 10 = some b125 ∧ (∃ b126, jr S120 a0 5 = some b126 ∧ (jk S120 b126 = 12 ∧ vp_in x3 (jl S120 b126) ∧ (jk S120 b125 = 12 ∧ vp_in x1 (jl S120 b125) ∧ (L_X11_lay_150 E d Q a0 x1 x3 (ji S b98 (Int32.toNatClampNeg x1)) 0 (jput (jput S120 b119 (Int32.toNatClampNeg x1) r121) b125 (Int32.toNatClampNeg x1) (ji (jput S120 b119 (Int32.toNatClampNeg x1) r121) b126 (Int32.toNatClampNeg x3))))))))))))) ∧ (¬ x2 = 1 → jk S b101 = 12 ∧ vp_in x1 (jl S b101) ∧ (∃ b105, jr S a0 9 = some b105 ∧ (jk S b105 = 12 ∧ vp_in x1 (jl S b105) ∧ (∃ b108, jr S a0 10 = some b108 ∧ (∃ b109, jr S a0 5 = some b109 ∧ (jk S b109 = 12 ∧ vp_in x3 (jl S b109) ∧ (jk S b108 = 12 ∧ vp_in x1 (jl S b108) ∧ (L_X11_lay_150 E d Q a0 x1 x3 (ji S b98 (Int32.toNatClampNeg x1)) 0 (jput (jput (jput (jput S b98 (Int32.toNatClampNeg x1) x2) b101 (Int32.toNatClampNeg x1) x3) b105 (Int32.toNatClampNeg x1) 0) b108 (Int32.toNatClampNeg x1) (ji (jput (jput (jput S b98 (Int32.toNatClampNeg x1) x2) b101 (Int32.toNatClampNeg x1) x3) b105 (Int32.toNatClampNeg x1) 0) b109 (Int32.toNatClampNeg x3)))))))))))))))) ∧ (¬ 0 ≤ (ji S b94 (Int32.toNatClampNeg x3)) → Q (-1000000011) S)))) ∧ (¬ x2 = 2 → jk S a0 = 11 ∧ ∃ b73, jr S a0 7 = some b73 ∧ (jk S b73 = 12 ∧ vp_in x1 (jl S b73) ∧ ((∃ b76, jr S a0 8 = some b76 ∧ ((x2 = 1 → jFi E mX11_of (d + 1) 0 0 [.ref a0, .int x3, .int 0] (jput S b73 (Int32.toNatClampNeg x1) x2) (fun r84 S83 => jk S83 b76 = 12 ∧ vp_in x1 (jl S83 b76) ∧ (jk S83 a0 = 11 ∧ ∃ b88, jr S83 a0 9 = some b88 ∧ (jFi E mX11_worth (d + 1) 0 0 [.ref a0, .int x3] (jput S83 b76 (Int32.toNatClampNeg x1) r84) (fun r90 S89 => jk S89 b88 = 12 ∧ vp_in x1 (jl S89 b88) ∧ (Q (ji S b73 (Int32.toNatClampNeg x1)) (jput S89 b88 (Int32.toNatClampNeg x1) r90))))))) ∧ (¬ x2 = 1 → jk S b76 = 12 ∧ vp_in x1 (jl S b76) ∧ (∃ b80, jr S a0 9 = some b80 ∧ (jk S b80 = 12 ∧ vp_in x1 (jl S b80) ∧ (Q (ji S b73 (Int32.toNatClampNeg x1)) (jput (jput (jput S b73 (Int32.toNatClampNeg x1) x2) b76 (Int32.toNatClampNeg x1) x3) b80 (Int32.toNatClampNeg x1) 0)))))))))))) ∧ (¬ x2 = 3 → (x2 = 1 → jk S a0 = 11 ∧ jFi E mX11_isMaster (d + 1) 0 0 [.ref a0, .int x3] S (fun r171 S170 => (r171 = 0 → (x2 = 2 → ((jissheet x3) = 0 → ((jisslot x1) = 0 → Q (-1000000001) S170) ∧ (¬ (jisslot x1) = 0 → Q (-1000000001) S170)) ∧ (¬ (jissheet x3) = 0 → ((jisslot x1) = 0 → Q (-1000000001) S170) ∧ (¬ (jisslot x1) = 0 → jk S170 a0 = 11 ∧ ∃ b237, jr S170 a0 4 = some b237 ∧ (jk S170 b237 = 12 ∧ vp_in x3 (jl S170 b237) ∧ ((0 ≤ (ji S170 b237 (Int32.toNatClampNeg x3)) → ∃ b241, jr S170 a0 7 = some b241 ∧ (jk S170 b241 = 12 ∧ vp_in x1 (jl S170 b241) ∧ ((∃ b244, jr S170 a0 8 = some b244 ∧ (jFi E mX11_of (d + 1) 0 0 [.ref a0, .int x3, .int 0] (jput S170 b241 (Int32.toNatClampNeg x1) x2) (fun r246 S245 => jk S245 b244 = 12 ∧ vp_in x1 (jl S245 b244) ∧ (jk S245 a0 = 11 ∧ ∃ b250, jr S245 a0 9 = some b250 ∧ (jFi E mX11_worth (d + 1) 0 0 [.ref a0, .int x3] (jput S245 b244 (Int32.toNatClampNeg x1) r246) (fun r252 S251 => jk S251 b250 = 12 ∧ vp_in x1 (jl S251 b250) ∧ (jk S251 a0 = 11 ∧ ∃ b256, jr S251 a0 10 = some b256 ∧ (∃ b257, jr S251 a0 5 = some b257 ∧ (jk S251 b257 = 12 ∧ vp_in x3 (jl S251 b257) ∧ (jk S251 b256 = 12 ∧ vp_in x1 (jl S251 b256) ∧ (L_X11_lay_150 E d Q a0 x1 x3 (ji S170 b241 (Int32.toNatClampNeg x1)) 0 (jput (jput S251 b250 (Int32.toNatClampNeg x1) r252) b256 (Int32.toNatClampNeg x1) (ji (jput S251 b250 (Int32.toNatClampNeg x1) r252) b257 (Int32.toNatClampNeg x3))))))))))))))))) ∧ (¬ 0 ≤ (ji S170 b237 (Int32.toNatClampNeg x3)) → Q (-1000000011) S170)))))) ∧ (¬ x2 = 2 → ((jisslot x1) = 0 → Q (-1000000001) S170) ∧ (¬ (jisslot x1) = 0 → Q (-1000000001) S170))) ∧ (¬ r171 = 0 → ((jisslot x1) = 0 → Q (-1000000001) S170) ∧ (¬ (jisslot x1) = 0 → (x2 = 2 → jk S170 a0 = 11 ∧ ∃ b194, jr S170 a0 4 = some b194 ∧ (jk S170 b194 = 12 ∧ vp_in x3 (jl S170 b194) ∧ ((0 ≤ (ji S170 b194 (Int32.toNatClampNeg x3)) → ∃ b198, jr S170 a0 7 = some b198 ∧ (jk S170 b198 = 12 ∧ vp_in x1 (jl S170 b198) ∧ ((∃ b201, jr S170 a0 8 = some b201 ∧ (jFi E mX11_of (d + 1) 0 0 [.ref a0, .int x3, .int 0] (jput S170 b198 (Int32.toNatClampNeg x1) x2) (fun r203 S202 => jk S202 b201 = 12 ∧ vp_in x1 (jl S202 b201) ∧ (jk S202 a0 = 11 ∧ ∃ b207, jr S202 a0 9 = some b207 ∧ (jFi E mX11_worth (d + 1) 0 0 [.ref a0, .int x3] (jput S202 b201 (Int32.toNatClampNeg x1) r203) (fun r209 S208 => jk S208 b207 = 12 ∧ vp_in x1 (jl S208 b207) ∧ (jk S208 a0 = 11 ∧ ∃ b213, jr S208 a0 10 = some b213 ∧ (∃ b214, jr S208 a0 5 = some b214 ∧ (jk S208 b214 = 12 ∧ vp_in x3 (jl S208 b214) ∧ (jk S208 b213 = 12 ∧ vp_in x1 (jl S208 b213) ∧ (L_X11_lay_150 E d Q a0 x1 x3 (ji S170 b198 (Int32.toNatClampNeg x1)) 0 (jput (jput S208 b207 (Int32.toNatClampNeg x1) r209) b213 (Int32.toNatClampNeg x1) (ji (jput S208 b207 (Int32.toNatClampNeg x1) r209) b214 (Int32.toNatClampNeg x3))))))))))))))))) ∧ (¬ 0 ≤ (ji S170 b194 (Int32.toNatClampNeg x3)) → Q (-1000000011) S170)))) ∧ (¬ x2 = 2 → jk S170 a0 = 11 ∧ ∃ b179, jr S170 a0 7 = some b179 ∧ (jk S170 b179 = 12 ∧ vp_in x1 (jl S170 b179) ∧ ((∃ b182, jr S170 a0 8 = some b182 ∧ (jFi E mX11_of (d + 1) 0 0 [.ref a0, .int x3, .int 0] (jput S170 b179 (Int32.toNatClampNeg x1) x2) (fun r184 S183 => jk S183 b182 = 12 ∧ vp_in x1 (jl S183 b182) ∧ (jk S183 a0 = 11 ∧ ∃ b188, jr S183 a0 9 = some b188 ∧ (jFi E mX11_worth (d + 1) 0 0 [.ref a0, .int x3] (jput S183 b182 (Int32.toNatClampNeg x1) r184) (fun r190 S189 => jk S189 b188 = 12 ∧ vp_in x1 (jl S189 b188) ∧ (Q (ji S170 b179 (Int32.toNatClampNeg x1)) (jput S189 b188 (Int32.toNatClampNeg x1) r190))))))))))))))) ∧ (¬ x2 = 1 → (x2 = 2 → ((jissheet x3) = 0 → ((jisslot x1) = 0 → Q (-1000000001) S) ∧ (¬ (jisslot x1) = 0 → Q (-1000000001) S)) ∧ (¬ (jissheet x3) = 0 → ((jisslot x1) = 0 → Q (-1000000001) S) ∧ (¬ (jisslot x1) = 0 → jk S a0 = 11 ∧ ∃ b150, jr S a0 4 = some b150 ∧ (jk S b150 = 12 ∧ vp_in x3 (jl S b150) ∧ ((0 ≤ (ji S b150 (Int32.toNatClampNeg x3)) → ∃ b154, jr S a0 7 = some b154 ∧ (jk S b154 = 12 ∧ vp_in x1 (jl S b154) ∧ ((∃ b157, jr S a0 8 = some b157 ∧ (jk S b157 = 12 ∧ vp_in x1 (jl S b157) ∧ (∃ b160, jr S a0 9 = some b160 ∧ (jk S b160 = 12 ∧ vp_in x1 (jl S b160) ∧ (∃ b163, jr S a0 10 = some b163 ∧ (∃ b164, jr S a0 5 = some b164 ∧ (jk S b164 = 12 ∧ vp_in x3 (jl S b164) ∧ (jk S b163 = 12 ∧ vp_in x1 (jl S b163) ∧ (L_X11_lay_150 E d Q a0 x1 x3 (ji S b154 (Int32.toNatClampNeg x1)) 0 (jput (jput (jput (jput S b154 (Int32.toNatClampNeg x1) x2) b157 (Int32.toNatClampNeg x1) x3) b160 (Int32.toNatClampNeg x1) 0) b163 (Int32.toNatClampNeg x1) (ji (jput (jput (jput S b154 (Int32.toNatClampNeg x1) x2) b157 (Int32.toNatClampNeg x1) x3) b160 (Int32.toNatClampNeg x1) 0) b164 (Int32.toNatClampNeg x3))))))))))))))) ∧ (¬ 0 ≤ (ji S b150 (Int32.toNatClampNeg x3)) → Q (-1000000011) S)))))) ∧ (¬ x2 = 2 → ((jisslot x1) = 0 → Q (-1000000001) S) ∧ (¬ (jisslot x1) = 0 → Q (-1000000001) S)))))) : jFm E mX11_lay (d + 2) a0 [.int x1, .int x2, .int x3] S Q := ⟨hk, T_X11_lay h⟩
theorem U_X11_ask {E : jEnv} {d : Nat} {Q : Int32 → jM → Prop} {a0 : Nat} {x1 : Int32} {x2 : Int32} {S : jM} (hk : jk S a0 = 11) (h : ((jisslot x1) = 0 → Q (-1000000001) S) ∧ (¬ (jisslot x1) = 0 → ((jisin (Int32.toInt64 x2) 0 5) = 0 → Q (-1000000001) S) ∧ (¬ (jisin (Int32.toInt64 x2) 0 5) = 0 → jk S a0 = 11 ∧ ∃ b10, jr S a0 7 = some b10 ∧ (jk S b10 = 12 ∧ vp_in x1 (jl S b10) ∧ (((ji S b10 (Int32.toNatClampNeg x1)) = 0 → Q (-1000000011) S) ∧ (¬ (ji S b10 (Int32.toNatClampNeg x1)) = 0 → (((ji S b10 (Int32.toNatClampNeg x1)) = 1 → ∃ b15, jr S a0 8 = some b15 ∧ (jk S b15 = 12 ∧ vp_in x1 (jl S b15) ∧ (((jisof (ji S b15 (Int32.toNatClampNeg x1)) x2) = 0 → Q (-1000000012) S) ∧ (¬ (jisof (ji S b15 (Int32.toNatClampNeg x1)) x2) = 0 → ∃ b22, jr S a0 9 = some b22 ∧ (jk S b22 = 12 ∧ vp_in x1 (jl S b22) ∧ (Q (ji S b22 (Int32.toNatClampNeg x1)) S)))))) ∧ (¬ (ji S b10 (Int32.toNatClampNeg x1)) = 1 → Q (-1000000012) S)))))))) : jFm E mX11_ask (d + 2) a0 [.int x1, .int x2] S Q := ⟨hk, T_X11_ask h⟩
theorem U_X11_item {E : jEnv} {d : Nat} {Q : Int32 → jM → Prop} {a0 : Nat} {x1 : Int32} {x2 : Int32} {S : jM} (hk : jk S a0 = 11) (h : ((jisslot x1) = 0 → Q (-1000000001) S) ∧ (¬ (jisslot x1) = 0 → jk S a0 = 11 ∧ ∃ b6, jr S a0 7 = some b6 ∧ (jk S b6 = 12 ∧ vp_in x1 (jl S b6) ∧ (((ji S b6 (Int32.toNatClampNeg x1)) = 2 → ∃ b10, jr S a0 10 = some b10 ∧ (jk S b10 = 12 ∧ vp_in x1 (jl S b10) ∧ (((jisin (Int32.toInt64 x2) 0 (Int32.toInt64 ((ji S b10 (Int32.toNatClampNeg x1)) - 1))) = 0 → Q (-1000000013) S) ∧ (¬ (jisin (Int32.toInt64 x2) 0 (Int32.toInt64 ((ji S b10 (Int32.toNatClampNeg x1)) - 1))) = 0 → ∃ b17, jr S a0 11 = some b17 ∧ (jk S b17 = 12 ∧ vp_in ((24 * x1) + x2) (jl S b17) ∧ (((ji S b17 (Int32.toNatClampNeg ((24 * x1) + x2))) = (-1000000005) → Q (-1000000012) S) ∧ (¬ (ji S b17 (Int32.toNatClampNeg ((24 * x1) + x2))) = (-1000000005) → Q (ji S b17 (Int32.toNatClampNeg ((24 * x1) + x2))) S))))))) ∧ (¬ (ji S b6 (Int32.toNatClampNeg x1)) = 2 → (((ji S b6 (Int32.toNatClampNeg x1)) = 0 → Q (-1000000011) S) ∧ (¬ (ji S b6 (Int32.toNatClampNeg x1)) = 0 → Q (-1000000012) S))))))) : jFm E mX11_item (d + 2) a0 [.int x1, .int x2] S Q := ⟨hk, T_X11_item h⟩
theorem U_X11_rest {E : jEnv} {d : Nat} {Q : Int32 → jM → Prop} {a0 : Nat} {x1 : Int32} {x2 : Int32} {S : jM} (hk : jk S a0 = 11) (h : ((jisslot x1) = 0 → Q (-1000000001) S) ∧ (¬ (jisslot x1) = 0 → jk S a0 = 11 ∧ ∃ b6, jr S a0 7 = some b6 ∧ (jk S b6 = 12 ∧ vp_in x1 (jl S b6) ∧ (((ji S b6 (Int32.toNatClampNeg x1)) = 3 → (x2 = 0 → Q (-1000000002) S) ∧ (¬ x2 = 0 → ∃ b11, jr S a0 8 = some b11 ∧ (jk S b11 = 12 ∧ vp_in x1 (jl S b11) ∧ ((¬ x2 = 0) ∧ (Q (jrem (ji S b11 (Int32.toNatClampNeg x1)) x2) S))))) ∧ (¬ (ji S b6 (Int32.toNatClampNeg x1)) = 3 → (((ji S b6 (Int32.toNatClampNeg x1)) = 0 → Q (-1000000011) S) ∧ (¬ (ji S b6 (Int32.toNatClampNeg x1)) = 0 → Q (-1000000012) S))))))) : jFm E mX11_rest (d + 2) a0 [.int x1, .int x2] S Q := ⟨hk, T_X11_rest h⟩
theorem U_X11_tell {E : jEnv} {d : Nat} {Q : Int32 → jM → Prop} {a0 : Nat} {x1 : Int32} {S : jM} (hk : jk S a0 = 11) (h : jk S a0 = 11 ∧ ((ji S a0 34) = 60 → Q (-1000000003) S) ∧ (¬ (ji S a0 34) = 60 → ∃ b3, jr S a0 33 = some b3 ∧ (jk S b3 = 12 ∧ vp_in (ji S a0 34) (jl S b3) ∧ (Q ((ji S a0 34) + 1) (jput (jput S b3 (Int32.toNatClampNeg (ji S a0 34)) x1) a0 34 ((ji S a0 34) + 1)))))) : jFm E mX11_tell d a0 [.int x1] S Q := ⟨hk, T_X11_tell h⟩
theorem U_X11_check {E : jEnv} {d : Nat} {Q : Int32 → jM → Prop} {a0 : Nat} {x1 : Int32} {S : jM} (hk : jk S a0 = 11) (h : jk S a0 = 11 ∧ ((jisin (Int32.toInt64 x1) 1 30) = 0 → Q (-1000000001) (jput S a0 34 0)) ∧ (¬ (jisin (Int32.toInt64 x1) 1 30) = 0 → ((ji S a0 3) = 0 → Q (-1000000002) (jput S a0 34 0)) ∧ (¬ (ji S a0 3) = 0 → ∃ b7, jr S a0 0 = some b7 ∧ (∃ b8, jr S a0 2 = some b8 ∧ (jFv E mX11_setAside d 0 0 [.ref a0, .ref b7, .ref b8] (jput S a0 34 0) (fun S9 => jk S9 a0 = 11 ∧ ∃ b11, jr S9 a0 1 = some b11 ∧ (∃ b12, jr S9 a0 0 = some b12 ∧ (jFv E mX11_setAside d 0 0 [.ref a0, .ref b11, .ref b12] S9 (fun S13 => L_X11_check_64 E d Q a0 x1 (ji S a0 34) 0 0 S13))))))))) : jFm E mX11_check (d + 1) a0 [.int x1] S Q := ⟨hk, T_X11_check h⟩
theorem U_X11_keep {E : jEnv} {d : Nat} {Q : Int32 → jM → Prop} {a0 : Nat} {S : jM} (hk : jk S a0 = 11) (h : jk S a0 = 11 ∧ ∃ b2, jr S a0 0 = some b2 ∧ (∃ b3, jr S a0 1 = some b3 ∧ (jFv E mX11_setAside d 0 0 [.ref a0, .ref b2, .ref b3] (jput S a0 3 1) (fun S4 => jk S4 a0 = 11 ∧ ∃ b6, jr S4 a0 0 = some b6 ∧ (jk S4 b6 = 12 ∧ vp_in 0 (jl S4 b6) ∧ (Q (ji S4 b6 (Int32.toNatClampNeg 0)) S4)))))) : jFm E mX11_keep (d + 1) a0 [] S Q := ⟨hk, T_X11_keep h⟩
theorem U_X11_back {E : jEnv} {d : Nat} {Q : Int32 → jM → Prop} {a0 : Nat} {S : jM} (hk : jk S a0 = 11) (h : jk S a0 = 11 ∧ ((ji S a0 3) = 0 → Q (-1000000002) S) ∧ (¬ (ji S a0 3) = 0 → ∃ b3, jr S a0 1 = some b3 ∧ (∃ b4, jr S a0 0 = some b4 ∧ (jFv E mX11_setAside d 0 0 [.ref a0, .ref b3, .ref b4] S (fun S5 => jk S5 a0 = 11 ∧ ∃ b7, jr S5 a0 0 = some b7 ∧ (jk S5 b7 = 12 ∧ vp_in 0 (jl S5 b7) ∧ (Q (ji S5 b7 (Int32.toNatClampNeg 0)) S5))))))) : jFm E mX11_back (d + 1) a0 [] S Q := ⟨hk, T_X11_back h⟩
theorem U_X11_count {E : jEnv} {d : Nat} {Q : Int32 → jM → Prop} {a0 : Nat} {x1 : Int32} {S : jM} (hk : jk S a0 = 11) (h : (x1 = 0 → jk S a0 = 11 ∧ ∃ b3, jr S a0 0 = some b3 ∧ (jk S b3 = 12 ∧ vp_in 0 (jl S b3) ∧ (Q (ji S b3 (Int32.toNatClampNeg 0)) S))) ∧ (x1 = 1 → jk S a0 = 11 ∧ jFi E mX11_allOf d 0 0 [.ref a0, .int 6] S (fun r9 S8 => Q r9 S8)) ∧ (x1 = 2 → jk S a0 = 11 ∧ ∃ b12, jr S a0 0 = some b12 ∧ (jk S b12 = 12 ∧ vp_in 2 (jl S b12) ∧ (Q (ji S b12 (Int32.toNatClampNeg 2)) S))) ∧ (x1 = 3 → jk S a0 = 11 ∧ ∃ b17, jr S a0 0 = some b17 ∧ (jk S b17 = 12 ∧ vp_in 4 (jl S b17) ∧ (Q (jmany (ji S b17 (Int32.toNatClampNeg 4))) S))) ∧ (x1 = 4 → jk S a0 = 11 ∧ ∃ b25, jr S a0 0 = some b25 ∧ (jk S b25 = 12 ∧ vp_in 7 (jl S b25) ∧ (Q (ji S b25 (Int32.toNatClampNeg 7)) S))) ∧ (x1 = 5 → jk S a0 = 11 ∧ jFi E mX11_can d 0 0 [.ref a0] S (fun r31 S30 => (r31 = 0 → Q 0 S30) ∧ (¬ r31 = 0 → Q 1 S30))) ∧ (x1 = 6 → jk S a0 = 11 ∧ ∃ b35, jr S a0 0 = some b35 ∧ (jk S b35 = 12 ∧ vp_in 1 (jl S b35) ∧ (Q (ji S b35 (Int32.toNatClampNeg 1)) S))) ∧ (x1 = 7 → jk S a0 = 11 ∧ Q (ji S a0 34) S) ∧ (x1 = 8 → jk S a0 = 11 ∧ Q (ji S a0 19) S) ∧ (x1 = 9 → jk S a0 = 11 ∧ ∃ b44, jr S a0 0 = some b44 ∧ (jk S b44 = 12 ∧ vp_in 8 (jl S b44) ∧ (Q (ji S b44 (Int32.toNatClampNeg 8)) S))) ∧ (¬ x1 = 0 → ¬ x1 = 1 → ¬ x1 = 2 → ¬ x1 = 3 → ¬ x1 = 4 → ¬ x1 = 5 → ¬ x1 = 6 → ¬ x1 = 7 → ¬ x1 = 8 → ¬ x1 = 9 → Q (-1000000001) S)) : jFm E mX11_count (d + 1) a0 [.int x1] S Q := ⟨hk, T_X11_count h⟩
end
