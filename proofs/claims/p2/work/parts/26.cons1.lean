/-! CONSTRUCTORS: cells that come, cells that stay -/
def jcs (S S' : jM) (y : Nat) : Prop := jk S' y = jk S y ∧ jl S' y = jl S y ∧ ji S' y = ji S y ∧ jr S' y = jr S y
theorem jcs.rfl {S : jM} {y : Nat} : jcs S S y := ⟨_root_.rfl, _root_.rfl, _root_.rfl, _root_.rfl⟩
theorem jcs.trans {S S1 S2 : jM} {y : Nat} (h1 : jcs S S1 y) (h2 : jcs S1 S2 y) : jcs S S2 y := ⟨h2.1.trans h1.1, h2.2.1.trans h1.2.1, h2.2.2.1.trans h1.2.2.1, h2.2.2.2.trans h1.2.2.2⟩
theorem jcs.new {S : jM} {k n y : Nat} (h : y ≠ jn S) : jcs S (jnew S k n) y := ⟨by rw [jk_newE, if_neg h], by rw [jl_newE, if_neg h], by rw [ji_newE, if_neg h], by rw [jr_newE, if_neg h]⟩
theorem jcs.putr {S : jM} {a j y : Nat} {v : Option Nat} (h : y ≠ a) : jcs S (jputr S a j v) y := ⟨_root_.rfl, _root_.rfl, _root_.rfl, by funext i; rw [jr_putr, if_neg (fun c => h c.1)]⟩
theorem jcs.put {S : jM} {a j y : Nat} {v : Int32} (h : y ≠ a) : jcs S (jput S a j v) y := ⟨_root_.rfl, _root_.rfl, ji_put_ne _ _ _ _ h, _root_.rfl⟩
theorem jcs.ch {S S' : jM} {lo hi y : Nat} (h : jch S S' lo hi) (hy : y < lo ∨ hi ≤ y) : jcs S S' y := ⟨by rw [h.1.1], by rw [h.1.2.1], h.2 y hy, by rw [h.1.2.2.1]⟩
theorem GR.grow {S S' : jM} {g sz : Nat} {z : Int32} {mf : Nat → Nat → Int32} (h : GR S g sz z mf) (hc : ∀ y, g ≤ y → y < g + 11 → jcs S S' y) : GR S' g sz z mf := by
  obtain ⟨⟨k1, k2, k3, k4, k5⟩, h2, h3, h4⟩ := h
  have c0 := hc g (by omega) (by omega)
  have c1 := hc (g + 1) (by omega) (by omega)
  refine ⟨⟨by rw [c0.1]; exact k1, by rw [c0.2.2.2]; exact k2, by rw [c1.1]; exact k3, by rw [c1.2.1]; exact k4, fun i hi => ?_⟩, by rw [c0.2.2.1]; exact h2, by rw [c0.2.2.1]; exact h3, fun i hi f hf => ?_⟩
  · have c2 := hc (g + 2 + i) (by omega) (by omega)
    exact ⟨by rw [c1.2.2.2]; exact (k5 i hi).1, by rw [c2.1]; exact (k5 i hi).2⟩
  · rw [(hc (g + 2 + i) (by omega) (by omega)).2.2.1]; exact h4 i hi f hf
theorem RdR.grow {S S' : jM} {q : Nat} {dy wy : Nat → Int32} (h : RdR S q dy wy) (hc : ∀ y, q ≤ y → y < q + 3 → jcs S S' y) : RdR S' q dy wy := by
  obtain ⟨⟨a1, a2, a3, a4, a5, a6, a7⟩, b1, b2⟩ := h
  have c0 := hc q (by omega) (by omega)
  have c1 := hc (q + 1) (by omega) (by omega)
  have c2 := hc (q + 2) (by omega) (by omega)
  exact ⟨⟨by rw [c0.1]; exact a1, by rw [c0.2.2.2]; exact a2, by rw [c0.2.2.2]; exact a3, by rw [c1.1]; exact a4, by rw [c1.2.1]; exact a5, by rw [c2.1]; exact a6, by rw [c2.2.1]; exact a7⟩, fun i hi => by rw [c1.2.2.1]; exact b1 i hi, fun i hi => by rw [c2.2.2.1]; exact b2 i hi⟩
theorem LdR.grow {S S' : jM} {l : Nat} {at_ kn co fo da : Int32} {fr re : Nat → Int32} (h : LdR S l at_ kn co fo da fr re) (hc : ∀ y, l ≤ y → y < l + 3 → jcs S S' y) : LdR S' l at_ kn co fo da fr re := by
  obtain ⟨⟨a1, a2, a3, a4, a5, a6, a7⟩, b0, b1, b2, b3, b4, b5, b6⟩ := h
  have c0 := hc l (by omega) (by omega)
  have c1 := hc (l + 1) (by omega) (by omega)
  have c2 := hc (l + 2) (by omega) (by omega)
  exact ⟨⟨by rw [c0.1]; exact a1, by rw [c0.2.2.2]; exact a2, by rw [c0.2.2.2]; exact a3, by rw [c1.1]; exact a4, by rw [c1.2.1]; exact a5, by rw [c2.1]; exact a6, by rw [c2.2.1]; exact a7⟩, by rw [c0.2.2.1]; exact b0, by rw [c0.2.2.1]; exact b1, by rw [c0.2.2.1]; exact b2, by rw [c0.2.2.1]; exact b3, by rw [c0.2.2.1]; exact b4, fun i hi => by rw [c1.2.2.1]; exact b5 i hi, fun i hi => by rw [c2.2.2.1]; exact b6 i hi⟩
theorem RmR.grow {S S' : jM} {r sz : Nat} {v : Nat → Int32} (h : RmR S r sz v) (hc : ∀ y, r ≤ y → y < r + 20 → jcs S S' y) : RmR S' r sz v := by
  obtain ⟨⟨k1, k2, k3, k4, k5, k6, k7, k8, k9, k10⟩, a1, a2, a3, a4, a5, a6, a7, a8⟩ := h
  have c0 := hc r (by omega) (by omega)
  have c1 := hc (r + 18) (by omega) (by omega)
  have c2 := hc (r + 19) (by omega) (by omega)
  refine ⟨⟨by rw [c0.1]; exact k1, by rw [c0.2.2.2]; exact k2, by rw [c0.2.2.2]; exact k3, by rw [c0.2.2.2]; exact k4, by rw [c0.2.2.2]; exact k5, by rw [c0.2.2.2]; exact k6, by rw [c1.1]; exact k7, by rw [c1.2.1]; exact k8, by rw [c2.1]; exact k9, by rw [c2.2.1]; exact k10⟩, a1, a2, a3.grow (fun y h1 h2 => hc y (by omega) (by omega)), a4.grow (fun y h1 h2 => hc y (by omega) (by omega)), a5.grow (fun y h1 h2 => hc y (by omega) (by omega)), by rw [c0.2.2.1]; exact a6, fun i hi => by rw [c1.2.2.1]; exact a7 i hi, by rw [c0.2.2.1]; exact a8⟩
/-- rows of ints that a constructor makes one behind the other, for its fields -/
def JA (a : Nat) (S : jM) (p : Nat × Nat) : jM := jputr (jnew S 12 p.2) a p.1 (some (jn S))
def JAs (a : Nat) (S : jM) (l : List (Nat × Nat)) : jM := l.foldl (JA a) S
def VA (a kd : Nat) (K : jM → Prop) : List (Nat × Nat) → jM → Prop
  | [], S => K S
  | p :: l, S => ∀ q, q = jn S → jk (jnew S 12 p.2) a = kd ∧ VA a kd K l (jputr (jnew S 12 p.2) a p.1 (some q))
theorem VA_of {a kd : Nat} {K : jM → Prop} : ∀ (l : List (Nat × Nat)) (S : jM), jk S a = kd → a < jn S → K (JAs a S l) → VA a kd K l S
  | [], S, _, _, h => h
  | p :: l, S, hk, ha, h => by
    intro q hq
    subst hq
    have hk2 : jk (jnew S 12 p.2) a = kd := by rw [jk_newE, if_neg (by omega)]; exact hk
    exact ⟨hk2, VA_of l _ hk2 (by show a < jn S + 1; omega) h⟩
theorem JAs_cons (a : Nat) (S : jM) (p : Nat × Nat) (l : List (Nat × Nat)) : JAs a S (p :: l) = JAs a (JA a S p) l := rfl
theorem JAs_n (a : Nat) : ∀ (l : List (Nat × Nat)) (S : jM), jn (JAs a S l) = jn S + l.length
  | [], S => rfl
  | p :: l, S => by rw [JAs_cons, JAs_n a l]; show jn S + 1 + l.length = _; simp; omega
theorem JAs_keep (a : Nat) : ∀ (l : List (Nat × Nat)) (S : jM) (y : Nat), y < jn S → y ≠ a → jcs S (JAs a S l) y
  | [], S, y, _, _ => jcs.rfl
  | p :: l, S, y, h1, h2 => by
    rw [JAs_cons]
    exact ((jcs.new (by omega)).trans (jcs.putr h2)).trans (JAs_keep a l (JA a S p) y (by show y < jn S + 1; omega) h2)
theorem JAs_a (a : Nat) : ∀ (l : List (Nat × Nat)) (S : jM), a < jn S → jk (JAs a S l) a = jk S a ∧ jl (JAs a S l) a = jl S a ∧ ji (JAs a S l) a = ji S a ∧ ∀ j, (∀ p ∈ l, p.1 ≠ j) → jr (JAs a S l) a j = jr S a j
  | [], S, _ => ⟨rfl, rfl, rfl, fun _ _ => rfl⟩
  | p :: l, S, ha => by
    rw [JAs_cons]
    obtain ⟨h1, h2, h3, h4⟩ := JAs_a a l (JA a S p) (by show a < jn S + 1; omega)
    have hn : a ≠ jn S := by omega
    refine ⟨h1.trans ?_, h2.trans ?_, h3.trans ?_, fun j hj => (h4 j (fun q hq => hj q (List.mem_cons_of_mem _ hq))).trans ?_⟩
    · show jk (jnew S 12 p.2) a = _; rw [jk_newE, if_neg hn]
    · show jl (jnew S 12 p.2) a = _; rw [jl_newE, if_neg hn]
    · show ji (jnew S 12 p.2) a = _; rw [ji_newE, if_neg hn]
    · have hp : p.1 ≠ j := hj p List.mem_cons_self
      show jr (jputr (jnew S 12 p.2) a p.1 (some (jn S))) a j = _
      rw [jr_putr, if_neg (fun c => hp c.2.symm), jr_newE, if_neg hn]
theorem JAs_at (a : Nat) : ∀ (l : List (Nat × Nat)) (S : jM) (k : Nat) (p : Nat × Nat), a < jn S → l[k]? = some p → jk (JAs a S l) (jn S + k) = 12 ∧ jl (JAs a S l) (jn S + k) = p.2 ∧ ji (JAs a S l) (jn S + k) = (fun _ => 0)
  | [], S, k, p, _, h => by simp at h
  | q :: l, S, k, p, ha, h => by
    rw [JAs_cons]
    cases k with
    | zero =>
      obtain rfl : q = p := by simpa using h
      have hc := JAs_keep a l (JA a S q) (jn S) (by show jn S < jn S + 1; omega) (by omega)
      refine ⟨hc.1.trans ?_, hc.2.1.trans ?_, hc.2.2.1.trans ?_⟩
      · show jk (jnew S 12 q.2) (jn S) = 12; rw [jk_newE, if_pos rfl]
      · show jl (jnew S 12 q.2) (jn S) = q.2; rw [jl_newE, if_pos rfl]
      · show ji (jnew S 12 q.2) (jn S) = _; rw [ji_newE, if_pos rfl]
    | succ k =>
      have h2 := JAs_at a l (JA a S q) k p (by show a < jn S + 1; omega) (by simpa using h)
      have e : jn (JA a S q) + k = jn S + (k + 1) := by show jn S + 1 + k = _; omega
      rw [e] at h2
      exact h2
theorem JAs_ref (a : Nat) : ∀ (l : List (Nat × Nat)) (S : jM) (k : Nat) (p : Nat × Nat), a < jn S → (l.map Prod.fst).Nodup → l[k]? = some p → jr (JAs a S l) a p.1 = some (jn S + k)
  | [], S, k, p, _, _, h => by simp at h
  | q :: l, S, k, p, ha, hd, h => by
    rw [JAs_cons]
    have hd2 := List.nodup_cons.mp hd
    cases k with
    | zero =>
      obtain rfl : q = p := by simpa using h
      rw [(JAs_a a l (JA a S q) (by show a < jn S + 1; omega)).2.2.2 q.1 (fun r hr e => hd2.1 (by rw [← e]; exact List.mem_map_of_mem hr))]
      show jr (jputr (jnew S 12 q.2) a q.1 (some (jn S))) a q.1 = _
      rw [jr_putr, if_pos ⟨rfl, rfl⟩]
      rfl
    | succ k =>
      have h2 := JAs_ref a l (JA a S q) k p (by show a < jn S + 1; omega) hd2.2 (by simpa using h)
      have e : jn (JA a S q) + k = jn S + (k + 1) := by show jn S + 1 + k = _; omega
      rw [e] at h2
      exact h2
