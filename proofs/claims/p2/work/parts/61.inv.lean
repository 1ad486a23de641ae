/-! THE INVARIANT of both sides, between any two calls -/
/-- TEXTS of a realm whose row of them is r, by the row v of the reference -/
def TXS (S : jM) (x r M : Nat) (v : Nat → Int32) : Prop := ∃ cnt, cnt ≤ 14 ∧ v 1 = nI cnt ∧ (∀ t, t < cnt → ∃ m key n ops cw, m < M ∧ jr S r t = some (x + 115 + 3 * m + 1) ∧ key < 3 ∧ TxC S (x + 115 + 3 * m) key n ops cw ∧ TxM v t key n ops cw ∧ WFt key n ops cw) ∧ ∀ t, t < 14 → ∀ b, jr S r t = some b → jk S b = 9 ∧ b < x + 115 + 3 * M
/-- SHEETS -/
def jpl (y : Int32) : Prop := y = kNONE ∨ (-99999 ≤ y ∧ y ≤ 99999)
def SHR (S : jM) (x : Nat) : Prop := ∀ i, i < 4 → ∃ so n, n ≤ 24 ∧ (so = -1 ∨ so = 0 ∨ so = 1) ∧ ji S (x + 66 + 2 * i) 0 = so ∧ ji S (x + 98) i = so ∧ ji S (x + 66 + 2 * i) 1 = nI n ∧ ji S (x + 99) i = nI n ∧ ∀ j, j < 24 → ji S (x + 67 + 2 * i) j = ji S (x + 100) (24 * i + j) ∧ jpl (ji S (x + 67 + 2 * i) j)
/-- SLOTS -/
def SLR (S : jM) (x : Nat) : Prop := ∀ i, i < 5 → ∃ th, th < 4 ∧ ji S (x + 74 + 4 * i) 0 = nI th ∧ ji S (x + 101) i = nI th ∧ (th = 1 → (∃ k, k < 6 ∧ ji S (x + 75 + 4 * i) 0 = nI k ∧ ji S (x + 102) i = nI k) ∧ ji S (x + 103) i = jworth (ji S (x + 75 + 4 * i) 0) (ji S (x + 75 + 4 * i) 4)) ∧ (th = 2 → (∃ n, n ≤ 24 ∧ ji S (x + 76 + 4 * i) 1 = nI n ∧ ji S (x + 104) i = nI n) ∧ ∀ j, j < 24 → ji S (x + 77 + 4 * i) j = ji S (x + 105) (24 * i + j)) ∧ (th = 3 → ji S (x + 74 + 4 * i) 3 = ji S (x + 102) i)
/-- numbers that wait -/
def WTR (S : jM) (x : Nat) : Prop := ∃ w, w ≤ 60 ∧ ji S x 9 = nI w ∧ ji S (x + 94) 34 = nI w ∧ ∀ j, j < w → ji S (x + 65) j = ji S (x + 113) j
/-- THE TAPE -/
def TPR (S : jM) (x : Nat) : Prop := ∃ tn, tn ≤ 96 ∧ ji S (x + 60) 1 = nI tn ∧ ji S (x + 94) 19 = nI tn ∧ ∀ j, j < tn → ∃ c, c < 256 ∧ ji S (x + 61) j = nI c ∧ ji S (x + 109) j = nI c
/-- THE IMAGE -/
def IMG (S : jM) (x M : Nat) : Prop := ∃ sz v, RmR S (x + 21) sz v ∧ (∀ t, t < 14 → ∀ b, jr S (x + 40) t = some b → jk S b = 9 ∧ b < x + 115 + 3 * M) ∧ ((ji S x 2 = 0 ∧ ji S (x + 94) 3 = 0) ∨ (ji S x 2 = 1 ∧ ji S (x + 94) 3 = 1 ∧ Rg sz v ∧ (∀ j, j < 2935 → ji S (x + 96) j = v j) ∧ TXS S x (x + 40) M v))
def RST (S : jM) (x M : Nat) : Prop := IMG S x M ∧ SHR S x ∧ SLR S x ∧ WTR S x ∧ TPR S x
def IV (S : jM) (x sz M : Nat) (v : Nat → Int32) : Prop := PI S x sz v ∧ CL S x ∧ GL S (x + 41) ∧ jn S = x + 115 + 3 * M ∧ TXS S x (x + 20) M v ∧ RST S x M
def INV (S : jM) (x M : Nat) : Prop := ∃ sz v, IV S x sz M v
/-- what a pair of calls may change: as jfr, and the piles of the class's texts -/
def jfq (S S' : jM) (x : Nat) : Prop := jsame S S' ∧ ∀ y, (y < x + 1 ∨ x + 21 ≤ y) → (y < x + 41 ∨ x + 60 ≤ y) → y ≠ x + 95 → y ≠ x + 97 → (y < x + 106 ∨ x + 109 ≤ y) → (y < x + 110 ∨ x + 113 ≤ y) → y ≠ x + 114 → (y < x + 115 ∨ (y - x) % 3 ≠ 0) → ji S' y = ji S y
section jInv
variable {S S' : jM} {x sz M : Nat} {v : Nat → Int32}
theorem jfq.of (h : jfr S S' x) : jfq S S' x := ⟨h.1, fun y a b c d e f _ _ => h.2 y a b c d e (by omega)⟩
theorem jfq.rfl : jfq S S x := ⟨jsame.rfl, fun _ _ _ _ _ _ _ _ _ => _root_.rfl⟩
theorem jfq.trans {S1 S2 : jM} (h1 : jfq S S1 x) (h2 : jfq S1 S2 x) : jfq S S2 x := ⟨h1.1.trans h2.1, fun y a b c d e f g i => (h2.2 y a b c d e f g i).trans (h1.2 y a b c d e f g i)⟩
theorem jfq.pile {m : Nat} (h : jch S S' (x + 115 + 3 * m + 2) (x + 115 + 3 * m + 3)) : jfq S S' x := ⟨h.1, fun y _ _ _ _ _ _ _ g => h.2 y (by omega)⟩
theorem jfq.scr {lo hi : Nat} (h : jch S S' lo hi) (a : x + 110 ≤ lo) (b : hi ≤ x + 113) : jfq S S' x := ⟨h.1, fun y _ _ _ _ _ c _ _ => h.2 y (by omega)⟩
theorem TxC.move {q key n ops : Nat} {cw : Nat → Nat} (h : TxC S q key n ops cw) (hk : ∀ y, q ≤ y → y < q + 3 → jk S' y = jk S y) (hl : ∀ y, q ≤ y → y < q + 3 → jl S' y = jl S y) (hr : jr S' (q + 1) = jr S (q + 1)) (hi : ∀ y, q ≤ y → y < q + 2 → ji S' y = ji S y) : TxC S' q key n ops cw := by
  obtain ⟨a1, a2, a3, a4, a5, a6, a7, a8, a9, a10⟩ := h
  unfold TxC
  rw [hk (q + 1) (by omega) (by omega), hk q (by omega) (by omega), hk (q + 2) (by omega) (by omega), hl q (by omega) (by omega), hl (q + 2) (by omega) (by omega), hr, hi (q + 1) (by omega) (by omega), hi q (by omega) (by omega)]
  exact ⟨a1, a2, a3, a4, a5, a6, a7, a8, a9, a10⟩
theorem TxM.cong {t key n ops : Nat} {cw : Nat → Nat} {v' : Nat → Int32} (h : TxM v t key n ops cw) (ht : t < 14) (hn : n ≤ 96) (he : ∀ j, 135 ≤ j → j < 2935 → v' j = v j) : TxM v' t key n ops cw := by
  obtain ⟨a1, a2, a3, a4⟩ := h
  unfold TxM
  rw [he _ (by omega) (by omega), he _ (by omega) (by omega), he _ (by omega) (by omega)]
  refine ⟨a1, a2, a3, fun i hi => ?_⟩
  rw [he _ (by omega) (by omega), he _ (by omega) (by omega)]
  exact a4 i hi
theorem TXS.move {r r' M' : Nat} {v' : Nat → Int32} (h : TXS S x r M v) (hM : M ≤ M') (hk : ∀ y, y < x + 115 + 3 * M → jk S' y = jk S y) (hl : ∀ y, y < x + 115 + 3 * M → jl S' y = jl S y) (hrr : ∀ t, t < 14 → jr S' r' t = jr S r t) (hr : ∀ y, x + 115 ≤ y → y < x + 115 + 3 * M → jr S' y = jr S y) (hi : ∀ y, x + 115 ≤ y → y < x + 115 + 3 * M → (y - x) % 3 ≠ 0 → ji S' y = ji S y) (he : ∀ j, (j = 1 ∨ 135 ≤ j) → j < 2935 → v' j = v j) : TXS S' x r' M' v' := by
  obtain ⟨cnt, c14, e1, hT, hz⟩ := h
  refine ⟨cnt, c14, (he 1 (Or.inl rfl) (by omega)).trans e1, fun t ht => ?_, fun t ht b hb => ?_⟩
  · obtain ⟨m, key, n, ops, cw, hm, a1, a2, a3, a4, a5⟩ := hT t ht
    exact ⟨m, key, n, ops, cw, by omega, (hrr t (by omega)).trans a1, a2, a3.move (fun y p q => hk y (by omega)) (fun y p q => hl y (by omega)) (hr _ (by omega) (by omega)) (fun y p q => hi y (by omega) (by omega) (by omega)), a4.cong (by omega) a5.2.2.2.2.2.2 (fun j p q => he j (Or.inr p) q), a5⟩
  · rw [hrr t ht] at hb
    obtain ⟨q1, q2⟩ := hz t ht b hb
    rw [hk b q2]; exact ⟨q1, by omega⟩
/-- under what leaves kinds and references -/
theorem TXS.same {r : Nat} {v' : Nat → Int32} (h : TXS S x r M v) (hs : jsame S S') (hi : ∀ y, x + 115 ≤ y → (y - x) % 3 ≠ 0 → ji S' y = ji S y) (he : ∀ j, (j = 1 ∨ 135 ≤ j) → j < 2935 → v' j = v j) : TXS S' x r M v' := by
  obtain ⟨cnt, c14, e1, hT, hz⟩ := h
  obtain ⟨k, l, rr, -⟩ := hs
  refine ⟨cnt, c14, (he 1 (Or.inl rfl) (by omega)).trans e1, fun t ht => ?_, fun t ht b hb => ?_⟩
  · obtain ⟨m, key, n, ops, cw, hm, a1, a2, a3, a4, a5⟩ := hT t ht
    exact ⟨m, key, n, ops, cw, hm, by rw [rr]; exact a1, a2, a3.move (fun y p q => by rw [k]) (fun y p q => by rw [l]) (by rw [rr]) (fun y p q => hi y (by omega) (by omega)), a4.cong (by omega) a5.2.2.2.2.2.2 (fun j p q => he j (Or.inr p) q), a5⟩
  · rw [rr] at hb; rw [k]; exact hz t ht b hb
theorem RST.keep (h : RST S x M) (hq : jfq S S' x) : RST S' x M := by
  obtain ⟨⟨sz, v, i1, i2, i3⟩, h1, h2, h3, h4⟩ := h
  have g : ∀ y, (y = x ∨ (x + 21 ≤ y ∧ y < x + 41) ∨ (x + 60 ≤ y ∧ y ≤ x + 94) ∨ y = x + 96 ∨ (x + 98 ≤ y ∧ y < x + 106) ∨ y = x + 109 ∨ y = x + 113) → ji S' y = ji S y := fun y hy => hq.2 y (by omega) (by omega) (by omega) (by omega) (by omega) (by omega) (by omega) (by omega)
  obtain ⟨k, l, rr, -⟩ := id hq.1
  refine ⟨⟨sz, v, i1.grow (fun y p q => ⟨by rw [k], by rw [l], g y (by omega), by rw [rr]⟩), fun t ht b hb => by rw [rr] at hb; rw [k]; exact i2 t ht b hb, ?_⟩, fun i hi => ?_, fun i hi => ?_, ?_, ?_⟩
  · rw [g x (by omega), g (x + 94) (by omega)]
    rcases i3 with i3 | ⟨a1, a2, a3, a4, a5⟩
    · exact Or.inl i3
    · exact Or.inr ⟨a1, a2, a3, fun j hj => by rw [g (x + 96) (by omega)]; exact a4 j hj, a5.same hq.1 (fun y p q => hq.2 y (by omega) (by omega) (by omega) (by omega) (by omega) (by omega) (by omega) (by omega)) (fun _ _ _ => _root_.rfl)⟩
  · rw [g (x + 66 + 2 * i) (by omega), g (x + 98) (by omega), g (x + 99) (by omega), g (x + 67 + 2 * i) (by omega), g (x + 100) (by omega)]
    exact h1 i hi
  · rw [g (x + 74 + 4 * i) (by omega), g (x + 75 + 4 * i) (by omega), g (x + 76 + 4 * i) (by omega), g (x + 77 + 4 * i) (by omega), g (x + 101) (by omega), g (x + 102) (by omega), g (x + 103) (by omega), g (x + 104) (by omega), g (x + 105) (by omega)]
    exact h2 i hi
  · unfold WTR
    rw [g x (by omega), g (x + 94) (by omega), g (x + 65) (by omega), g (x + 113) (by omega)]
    exact h3
  · unfold TPR
    rw [g (x + 60) (by omega), g (x + 94) (by omega), g (x + 61) (by omega), g (x + 109) (by omega)]
    exact h4
/-- the two sides alike again, the rest as it was -/
theorem IV.next {sz' : Nat} {v' : Nat → Int32} (h : IV S x sz M v) (hq : jfq S S' x) (hP : PI S' x sz' v') (he : ∀ j, (j = 1 ∨ 135 ≤ j) → j < 2935 → v' j = v j) : IV S' x sz' M v' := by
  obtain ⟨-, h2, h3, h4, h5, h6⟩ := h
  exact ⟨hP, h2.same hq.1, h3.same hq.1, by rw [hq.1.2.2.2]; exact h4, h5.same hq.1 (fun y p q => hq.2 y (by omega) (by omega) (by omega) (by omega) (by omega) (by omega) (by omega) (by omega)) he, h6.keep hq⟩
theorem IV.po {r r' : Int32} (h : IV S x sz M v) (hp : PO S x r r' S') : r = r' ∧ INV S' x M := by
  obtain ⟨h1, h2, h3, sz', v', h4⟩ := hp
  refine ⟨h1, sz', v', h.next (jfq.of h2) h4 (fun j hj _ => ?_)⟩
  have a := h4.2.1.2 j
  have b := h.1.2.1.2 j
  exact a.symm.trans ((h3 j hj).trans b)
theorem IV.inv (h : IV S x sz M v) : INV S x M := ⟨sz, v, h⟩
/-- the start -/
theorem IV_start (h : FR S x) (hn : jn S = x + 115) : IV S x 0 0 v0 := by
  obtain ⟨cl, cn, ml, mn⟩ := id h
  obtain ⟨n1, n2, n3, n4, n5, n6, n7, n8, n9, n10⟩ := id cn
  have z : ∀ k, 1 ≤ k → k < 20 → k ≠ 3 → ∀ j, ji S (x + 95 + k) j = 0 := fun k a b c j => h.zero k a b c j
  refine ⟨h.pi, cl, n5.1, hn, ⟨0, by omega, rfl, fun t ht => absurd ht (Nat.not_lt_zero _), fun t ht b hb => ?_⟩, ⟨0, v0, n2, fun t ht b hb => ?_, Or.inl ⟨h.x0 2, h.m0 3⟩⟩, fun i hi => ?_, fun i hi => ?_, ⟨0, by omega, h.x0 9, h.m0 34, fun j hj => absurd hj (Nat.not_lt_zero _)⟩, ⟨0, by omega, n6 1, h.m0 19, fun j hj => absurd hj (Nat.not_lt_zero _)⟩⟩
  · rw [n3 t ht] at hb; exact absurd hb (by simp)
  · rw [n4 t ht] at hb; exact absurd hb (by simp)
  · obtain ⟨s1, s2, s3⟩ := n8 i hi
    refine ⟨-1, 0, by omega, Or.inl rfl, s1, mn.2.2.1 i hi, s2, z 4 (by omega) (by omega) (by omega) i, fun j hj => ⟨?_, ?_⟩⟩
    · rw [s3 j hj]; exact (z 5 (by omega) (by omega) (by omega) _).symm
    · rw [s3 j hj]; exact Or.inr (by decide)
  · refine ⟨0, by omega, n9 i hi, z 6 (by omega) (by omega) (by omega) i, fun c => absurd c (by omega), fun c => absurd c (by omega), fun c => absurd c (by omega)⟩
end jInv
