/-! TEXT on both sides: what is left behind -/
theorem TxM.cong2 {v v' : Nat → Int32} {t key n ops : Nat} {cw : Nat → Nat} (h : TxM v t key n ops cw) (hn : n ≤ 96) (he : ∀ j, 135 + 200 * t ≤ j → j < 335 + 200 * t → v' j = v j) : TxM v' t key n ops cw := by
  obtain ⟨a1, a2, a3, a4⟩ := h
  unfold TxM
  rw [he _ (by omega) (by omega), he _ (by omega) (by omega), he _ (by omega) (by omega)]
  refine ⟨a1, a2, a3, fun i hi => ?_⟩
  rw [he _ (by omega) (by omega), he _ (by omega) (by omega)]
  exact a4 i hi
section jText
variable {E : jEnv} {d : Nat} {S S' : jM} {x sz M : Nat} {v v' : Nat → Int32}
theorem TXS.row2 {r cnt : Nat} (h : TXS S x r M v) (hs : jsame S S') (hi : ∀ y, x + 115 ≤ y → (y - x) % 3 ≠ 0 → ji S' y = ji S y) (ec : v 1 = nI cnt) (hc : cnt ≤ 14) (e1 : v' 1 = v 1) (he : ∀ j, 135 ≤ j → j < 135 + 200 * cnt → v' j = v j) : TXS S' x r M v' := by
  obtain ⟨c, c14, ev, hT, hz⟩ := h
  obtain rfl : c = cnt := nI_inj (by omega) (by omega) (ev.symm.trans ec)
  obtain ⟨k, l, rr, -⟩ := hs
  refine ⟨c, c14, e1.trans ev, fun t ht => ?_, fun t ht b hb => ?_⟩
  · obtain ⟨m, key, n, ops, cw, hm, a1, a2, a3, a4, a5⟩ := hT t ht
    exact ⟨m, key, n, ops, cw, hm, by rw [rr]; exact a1, a2, a3.move (fun y p q => by rw [k]) (fun y p q => by rw [l]) (by rw [rr]) (fun y p q => hi y (by omega) (by omega)), a4.cong2 a5.2.2.2.2.2.2 (fun j p q => he j (by omega) (by omega)), a5⟩
  · rw [rr] at hb; rw [k]; exact hz t ht b hb
/-- the tape is gone, nothing else -/
theorem IV.fault {cnt : Nat} (h : IV S x sz M v) (ec : v 1 = nI cnt) (hc : cnt ≤ 14) (hs : jsame S S') (o : ∀ y, y ≠ x + 60 → y ≠ x + 62 → y ≠ x + 94 → y ≠ x + 95 → ji S' y = ji S y) (t1 : ji S' (x + 60) 1 = 0) (m : ∀ j, (j < 19 ∨ 30 ≤ j) → ji S' (x + 94) j = ji S (x + 94) j) (m19 : ji S' (x + 94) 19 = 0) (row : ∀ j, (j < pla cnt ∨ pla cnt + 196 ≤ j) → ji S' (x + 95) j = ji S (x + 95) j) : INV S' x M := by
  obtain ⟨⟨hX, hM, hg⟩, hC, hGL, hjn, hT, hI, hS, hSl, hW, hTp⟩ := id h
  have pl : 139 + 200 * cnt ≤ pla cnt ∨ (cnt = 14 ∧ pla cnt = 2935) := by
    unfold pla
    split <;> omega
  have ev : ∀ j, (j < pla cnt ∨ pla cnt + 196 ≤ j) → ji S' (x + 95) j = v j := fun j hj => (row j hj).trans (hM.2 j)
  refine ⟨sz, fun j => ji S' (x + 95) j, ⟨hX.of hs ((hX.2.2.grow (fun y p q => ⟨by rw [hs.1], by rw [hs.2.1], o y (by omega) (by omega) (by omega) (by omega), by rw [hs.2.2.1]⟩)).cong (fun j hj => ev j (by omega))), ⟨hM.1.same hs, fun j => rfl⟩, hg.cong (fun j hj => ev j (by omega))⟩, hC.same hs, hGL.same hs, by rw [hs.2.2.2]; exact hjn, ?_, hI.keep hs (by rw [o x (by omega) (by omega) (by omega) (by omega)]) (m 3 (by omega)) (fun y hy => o y (by omega) (by omega) (by omega) (by omega)), hS.keep (fun y hy => o y (by omega) (by omega) (by omega) (by omega)), hSl.keep (fun y hy => o y (by omega) (by omega) (by omega) (by omega)), hW.keep (by rw [o x (by omega) (by omega) (by omega) (by omega)]) (m 34 (by omega)) (o _ (by omega) (by omega) (by omega) (by omega)) (o _ (by omega) (by omega) (by omega) (by omega)), ⟨0, by omega, t1, m19, fun j hj => absurd hj (Nat.not_lt_zero _)⟩⟩
  exact hT.row2 hs (fun y p _ => o y (by omega) (by omega) (by omega) (by omega)) ec hc (ev 1 (by omega)) (fun j p q => ev j (by omega))
end jText
