/-! THE START: both sides stand alike when they are made -/
section jStart
variable {S : jM} {x : Nat}
theorem Rg_start : Rg 0 v0 := by
  intro j _ hb
  unfold v0
  by_cases h5 : j = 5
  · subst h5; exact ⟨100, by decide, rfl⟩
  · rw [if_neg h5]
    by_cases h8 : j = 8
    · subst h8; exact absurd rfl hb
    · rw [if_neg h8]; exact ⟨0, Nat.pos_of_ne_zero hb, rfl⟩
theorem PI_start (h1 : CL S x) (h2 : CN S x) (h3 : ML S (x + 94)) (h4 : MN S (x + 94)) : PI S x 0 v0 :=
  ⟨⟨h1.1, h1.2.1.1, h2.1⟩, ⟨h3, h4.2.1⟩, Rg_start⟩
/-- what is fresh stays while later objects are made -/
theorem CL.grow {S' : jM} (h : CL S x) (hc : ∀ y, x ≤ y → y < x + 94 → jcs S S' y) : CL S' x := by
  obtain ⟨a1, ⟨r0, r1, r3, r4, r5, r6, r7, r8⟩, a2, a3, ⟨b1, b2, b3⟩, ⟨c1, c2, c3⟩, ⟨d1, d2⟩, e1, e2⟩ := h
  have cx := hc x (by omega) (by omega)
  have c63 := hc (x + 63) (by omega) (by omega)
  have c64 := hc (x + 64) (by omega) (by omega)
  have c65 := hc (x + 65) (by omega) (by omega)
  have rr := cx.2.2.2
  refine ⟨by rw [cx.1]; exact a1, ⟨by rw [rr]; exact r0, by rw [rr]; exact r1, by rw [rr]; exact r3, by rw [rr]; exact r4, by rw [rr]; exact r5, by rw [rr]; exact r6, by rw [rr]; exact r7, by rw [rr]; exact r8⟩, a2.grow (fun y p q => hc y (by omega) (by omega)), a3.grow (fun y p q => hc y (by omega) (by omega)), ⟨by rw [c63.1]; exact b1, by rw [c63.2.1]; exact b2, fun i hi => by rw [c63.2.2.2]; exact b3 i hi⟩, ⟨by rw [c64.1]; exact c1, by rw [c64.2.1]; exact c2, fun i hi => by rw [c64.2.2.2]; exact c3 i hi⟩, ⟨by rw [c65.1]; exact d1, by rw [c65.2.1]; exact d2⟩, fun i hi => ?_, fun i hi => (e2 i hi).grow (fun y p q => hc y (by omega) (by omega))⟩
  obtain ⟨s1, s2, s3, s4⟩ := e1 i hi
  have p1 := hc (x + 66 + 2 * i) (by omega) (by omega)
  have p2 := hc (x + 67 + 2 * i) (by omega) (by omega)
  exact ⟨by rw [p1.1]; exact s1, by rw [p1.2.2.2]; exact s2, by rw [p2.1]; exact s3, by rw [p2.2.1]; exact s4⟩
theorem CN.grow {S' : jM} (h : CN S x) (hc : ∀ y, x ≤ y → y < x + 94 → jcs S S' y) : CN S' x := by
  obtain ⟨a1, a2, a3, a4, a5, a6, a7, a8, a9, a10⟩ := h
  refine ⟨a1.grow (fun y p q => hc y (by omega) (by omega)), a2.grow (fun y p q => hc y (by omega) (by omega)), fun i hi => ?_, fun i hi => ?_, a5.grow (fun y p q => hc y (by omega) (by omega)), fun j => ?_, fun j => ?_, fun i hi => ?_, fun i hi => ?_, ?_⟩
  · rw [(hc (x + 20) (by omega) (by omega)).2.2.2]; exact a3 i hi
  · rw [(hc (x + 40) (by omega) (by omega)).2.2.2]; exact a4 i hi
  · rw [(hc (x + 60) (by omega) (by omega)).2.2.1]; exact a6 j
  · rw [(hc (x + 61) (by omega) (by omega)).2.2.1]; exact a7 j
  · rw [(hc (x + 66 + 2 * i) (by omega) (by omega)).2.2.1, (hc (x + 67 + 2 * i) (by omega) (by omega)).2.2.1]; exact a8 i hi
  · rw [(hc (x + 74 + 4 * i) (by omega) (by omega)).2.2.1]; exact a9 i hi
  · rw [(hc x (by omega) (by omega)).2.2.1]; exact a10
end jStart
