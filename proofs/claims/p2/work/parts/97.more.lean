/-! TEXT on both sides: one text more -/
section jMore
variable {S S' : jM} {x sz M : Nat} {v : Nat → Int32}
theorem CL.pt (h : CL S x) (hk : ∀ y, y < x + 115 → jk S' y = jk S y) (hl : ∀ y, y < x + 115 → jl S' y = jl S y) (hr : ∀ y, y < x + 115 → y ≠ x + 20 → jr S' y = jr S y) : CL S' x := by
  obtain ⟨a1, ⟨a2, a3, a4, a5, a6, a7, a8, a9⟩, ⟨b1, b2, b3, b4, b5⟩, ⟨c1, c2, c3, c4, c5, c6, c7⟩, ⟨e1, e2, e3⟩, ⟨f1, f2, f3⟩, ⟨g1, g2⟩, hsh, hsl⟩ := h
  have q0 := hr x (by omega) (by omega)
  have q52 := hr (x + 52) (by omega) (by omega)
  have q60 := hr (x + 60) (by omega) (by omega)
  have q63 := hr (x + 63) (by omega) (by omega)
  have q64 := hr (x + 64) (by omega) (by omega)
  refine ⟨by rw [hk _ (by omega)]; exact a1, by rw [q0]; exact ⟨a2, a3, a4, a5, a6, a7, a8, a9⟩, ⟨by rw [hk _ (by omega)]; exact b1, fun k hk' => ?_, fun k hk' => by rw [hl _ (by omega)]; exact b3 k hk', by rw [hl _ (by omega)]; exact b4, by rw [hl _ (by omega)]; exact b5⟩, ⟨by rw [hk _ (by omega)]; exact c1, by rw [q60]; exact c2, by rw [q60]; exact c3, by rw [hk _ (by omega)]; exact c4, by rw [hl _ (by omega)]; exact c5, by rw [hk _ (by omega)]; exact c6, by rw [hl _ (by omega)]; exact c7⟩, ⟨by rw [hk _ (by omega)]; exact e1, by rw [hl _ (by omega)]; exact e2, by rw [q63]; exact e3⟩, ⟨by rw [hk _ (by omega)]; exact f1, by rw [hl _ (by omega)]; exact f2, by rw [q64]; exact f3⟩, ⟨by rw [hk _ (by omega)]; exact g1, by rw [hl _ (by omega)]; exact g2⟩, fun i hi => ?_, fun i hi => ?_⟩
  · rw [q52, hk _ (by omega)]; exact b2 k hk'
  · obtain ⟨s1, s2, s3, s4⟩ := hsh i hi
    exact ⟨by rw [hk _ (by omega)]; exact s1, by rw [hr _ (by omega) (by omega)]; exact s2, by rw [hk _ (by omega)]; exact s3, by rw [hl _ (by omega)]; exact s4⟩
  · obtain ⟨s1, s2, s3, s4, s5, s6, s7, s8⟩ := hsl i hi
    exact ⟨by rw [hk _ (by omega)]; exact s1, by rw [hr _ (by omega) (by omega)]; exact s2, by rw [hr _ (by omega) (by omega)]; exact s3, by rw [hk _ (by omega)]; exact s4, by rw [hk _ (by omega)]; exact s5, by rw [hr _ (by omega) (by omega)]; exact s6, by rw [hk _ (by omega)]; exact s7, by rw [hl _ (by omega)]; exact s8⟩
theorem ML.pt (h : ML S (x + 94)) (hk : ∀ y, y < x + 115 → jk S' y = jk S y) (hl : ∀ y, y < x + 115 → jl S' y = jl S y) (hr : jr S' (x + 94) = jr S (x + 94)) : ML S' (x + 94) := by
  refine ⟨by rw [hk _ (by omega)]; exact h.1, fun k p hp => ?_⟩
  have hlt : k < 20 := by
    obtain ⟨hl', -⟩ := List.getElem?_eq_some_iff.mp hp
    exact hl'
  rw [hr, hk _ (by omega), hl _ (by omega)]
  exact h.2 k p hp
theorem GL.pt (h : GL S (x + 41)) (hk : ∀ y, y < x + 115 → jk S' y = jk S y) (hl : ∀ y, y < x + 115 → jl S' y = jl S y) (hr : ∀ y, y < x + 115 → y ≠ x + 20 → jr S' y = jr S y) : GL S' (x + 41) := by
  obtain ⟨a1, a2, a3, a4, a5⟩ := h
  refine ⟨by rw [hk _ (by omega)]; exact a1, by rw [hr _ (by omega) (by omega)]; exact a2, by rw [hk _ (by omega)]; exact a3, by rw [hl _ (by omega)]; exact a4, fun i hi => ?_⟩
  rw [hr _ (by omega) (by omega), hk _ (by omega)]; exact a5 i hi
theorem IV.more {c2 : Nat} {w : Nat → Int32} (h : IV S x sz M v) (hc2 : c2 ≤ 14) (hn : jn S' = jn S + 3) (hk : ∀ y, y < jn S → jk S' y = jk S y) (hl : ∀ y, y < jn S → jl S' y = jl S y) (hr : ∀ y, y < jn S → y ≠ x + 20 → jr S' y = jr S y) (o : ∀ y, y < jn S → y ≠ x + 1 → y ≠ x + 60 → y ≠ x + 62 → y ≠ x + 94 → y ≠ x + 95 → ji S' y = ji S y) (o6 : ∀ j, j ≠ 6 → ji S' (x + 1) j = ji S (x + 1) j) (e6 : ji S' (x + 1) 6 = nI c2) (t1 : ji S' (x + 60) 1 = 0) (m : ∀ j, (j < 19 ∨ 30 ≤ j) → ji S' (x + 94) j = ji S (x + 94) j) (m19 : ji S' (x + 94) 19 = 0)
    (hw : ∀ j, ji S' (x + 95) j = w j) (w1 : w 1 = nI c2) (wo : ∀ j, j ≠ 1 → j < 135 → w j = v j) (hT' : TXS S' x (x + 20) (M + 1) w) : INV S' x (M + 1) := by
  obtain ⟨⟨hX, hM, hg⟩, hC, hGL, hjn, hT, ⟨szi, vi, i1, i2, i3⟩, hS, hSl, hW, hTp⟩ := id h
  have k1 : ∀ y, y < x + 115 → jk S' y = jk S y := fun y hy => hk y (by omega)
  have l1 : ∀ y, y < x + 115 → jl S' y = jl S y := fun y hy => hl y (by omega)
  have r1 : ∀ y, y < x + 115 → y ≠ x + 20 → jr S' y = jr S y := fun y hy hne => hr y (by omega) hne
  have cs : ∀ y, y < x + 115 → y ≠ x + 1 → y ≠ x + 20 → y ≠ x + 60 → y ≠ x + 62 → y ≠ x + 94 → y ≠ x + 95 → jcs S S' y := fun y a b c e f g i => ⟨k1 y a, l1 y a, o y (by omega) b e f g i, r1 y a c⟩
  have hR : RmR S' (x + 1) sz w := by
    obtain ⟨⟨q1, q2, q3, q4, q5, q6, q7, q8, q9, q10⟩, a1, a2, a3, a4, a5, a6, a7, a8⟩ := hX.2.2
    have e0 := r1 (x + 1) (by omega) (by omega)
    refine ⟨⟨by rw [k1 _ (by omega)]; exact q1, by rw [e0]; exact q2, by rw [e0]; exact q3, by rw [e0]; exact q4, by rw [e0]; exact q5, by rw [e0]; exact q6, by rw [k1 _ (by omega)]; exact q7, by rw [l1 _ (by omega)]; exact q8, by rw [k1 _ (by omega)]; exact q9, by rw [l1 _ (by omega)]; exact q10⟩, a1, by rw [wo 0 (by omega) (by omega)]; exact a2, ?_, (a4.grow (fun y p q => cs y (by omega) (by omega) (by omega) (by omega) (by omega) (by omega) (by omega))).cong (fun i hi => wo _ (by omega) (by omega)), ?_, by rw [o6 4 (by omega), wo 7 (by omega) (by omega)]; exact a6, fun i hi => by rw [o _ (by omega) (by omega) (by omega) (by omega) (by omega) (by omega), wo _ (by omega) (by omega)]; exact a7 i hi, by rw [e6, w1]⟩
    · rw [wo 8 (by omega) (by omega)]
      exact (a3.grow (fun y p q => cs y (by omega) (by omega) (by omega) (by omega) (by omega) (by omega) (by omega))).cong (fun i hi f hf => (wo _ (by omega) (by omega)).symm)
    · rw [wo 3 (by omega) (by omega), wo 4 (by omega) (by omega), wo 5 (by omega) (by omega), wo 6 (by omega) (by omega), wo 2 (by omega) (by omega)]
      exact (a5.grow (fun y p q => cs y (by omega) (by omega) (by omega) (by omega) (by omega) (by omega) (by omega))).cong (fun i hi => (wo _ (by omega) (by omega)).symm) (fun i hi => (wo _ (by omega) (by omega)).symm)
  have hg' : Rg sz w := fun j hj hb => by
    by_cases e : j = 1
    · subst e
      exact ⟨c2, by show c2 < 15; omega, w1⟩
    · rw [wo j e hj]; exact hg j hj hb
  refine ⟨sz, w, ⟨⟨by rw [k1 _ (by omega)]; exact hX.1, by rw [r1 _ (by omega) (by omega)]; exact hX.2.1, hR⟩, ⟨hM.1.pt k1 l1 (r1 _ (by omega) (by omega)), hw⟩, hg'⟩, hC.pt k1 l1 r1, hGL.pt k1 l1 r1, by omega, hT', ⟨szi, vi, i1.grow (fun y p q => cs y (by omega) (by omega) (by omega) (by omega) (by omega) (by omega) (by omega)), fun t ht b hb => ?_, ?_⟩, hS.keep (fun y hy => o y (by omega) (by omega) (by omega) (by omega) (by omega) (by omega)), hSl.keep (fun y hy => o y (by omega) (by omega) (by omega) (by omega) (by omega) (by omega)), hW.keep (by rw [o x (by omega) (by omega) (by omega) (by omega) (by omega) (by omega)]) (m 34 (by omega)) (o _ (by omega) (by omega) (by omega) (by omega) (by omega) (by omega)) (o _ (by omega) (by omega) (by omega) (by omega) (by omega) (by omega)), ⟨0, by omega, t1, m19, fun j hj => absurd hj (Nat.not_lt_zero _)⟩⟩
  · rw [r1 _ (by omega) (by omega)] at hb
    obtain ⟨p1, p2⟩ := i2 t ht b hb
    rw [hk b (by omega)]; exact ⟨p1, by omega⟩
  · rw [o x (by omega) (by omega) (by omega) (by omega) (by omega) (by omega), m 3 (by omega)]
    rcases i3 with i3 | ⟨a1, a2, a3, a4, a5⟩
    · exact Or.inl i3
    · refine Or.inr ⟨a1, a2, a3, fun j hj => by rw [o _ (by omega) (by omega) (by omega) (by omega) (by omega) (by omega)]; exact a4 j hj, ?_⟩
      exact a5.move (by omega) (fun y hy => hk y (by omega)) (fun y hy => hl y (by omega)) (fun t _ => by rw [r1 _ (by omega) (by omega)]) (fun y p q => hr y (by omega) (by omega)) (fun y p q _ => o y (by omega) (by omega) (by omega) (by omega) (by omega) (by omega)) (fun _ _ _ => rfl)
end jMore
