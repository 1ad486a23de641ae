/-! BARS, SET, MASTER on both sides -/
section jLight6
variable {E : jEnv} {d : Nat} {S : jM} {x m sz : Nat} {v : Nat → Int32}
theorem P_bars {w u t : Int32} (hP : PI S x sz v) : jFi E mX10_bars (d + 2) 0 0 [.ref x, .int w, .int u, .int t] S (fun r S1 => jFm E mX11_bars (d + 2) (x + 94) [.int w, .int u, .int t] S1 (fun r' S2 => PO S x r r' S2)) := by
  have hX := hP.1
  have hM := hP.2.1
  have hz := hX.sz9
  refine T_X10_bars ⟨hX.1, x + 1, hX.2.1, hX.k3, x + 2, hX.r0, hX.g.1.1, c_X0_find hX.g.1 hX.g.2.1 hz (fun n hn e => ⟨fun c => absurd c (by simp), fun b hb => ?_⟩) (fun hno => ⟨fun _ => ?_, fun b hb => absurd hb (by simp)⟩)⟩
  · obtain rfl : x + 2 + 2 + n = b := by simpa using hb
    subst e
    have g2 : ji S (x + 2 + 2 + n) 2 = mfv v n 2 := hX.g.at (by omega) (by omega)
    have g3 : ji S (x + 2 + 2 + n) 3 = mfv v n 3 := hX.g.at (by omega) (by omega)
    refine ⟨fun c => ?_, fun cu => ⟨fun c => ?_, fun ct => ⟨hX.g.mk2 (by omega), ?_⟩⟩⟩
    · exact U_X11_bars (by first | exact hM.k | exact hM1.k | exact hP.2.1.k | exact h.2.2.1.1 | exact h.1.1 | exact g1.1.1 | exact g3.1.1 | exact gm.1.1 | exact h2.1.1 | exact hM2.k | (rw [c1.1.1]; exact hP.2.1.k)) ⟨hM.k, c_X11_isMaster hM hX.v0 hz (fun j hj e => ⟨fun c' => absurd c' (by decide), fun _ => ⟨fun _ => hP.same, fun c' => absurd c c'⟩⟩) (fun h => absurd rfl (h n hn))⟩
    · exact U_X11_bars (by first | exact hM.k | exact hM1.k | exact hP.2.1.k | exact h.2.2.1.1 | exact h.1.1 | exact g1.1.1 | exact g3.1.1 | exact gm.1.1 | exact h2.1.1 | exact hM2.k | (rw [c1.1.1]; exact hP.2.1.k)) ⟨hM.k, c_X11_isMaster hM hX.v0 hz (fun j hj e => ⟨fun c' => absurd c' (by decide), fun _ => ⟨fun c' => absurd c' cu, fun _ => ⟨fun _ => hP.same, fun c' => absurd c c'⟩⟩⟩) (fun h => absurd rfl (h n hn))⟩
    · rw [g2, g3]
      refine ⟨fun c => ?_, fun c2 => ⟨fun c => ?_, fun c3 => ?_⟩⟩
      · exact U_X11_bars (by first | exact hM.k | exact hM1.k | exact hP.2.1.k | exact h.2.2.1.1 | exact h.1.1 | exact g1.1.1 | exact g3.1.1 | exact gm.1.1 | exact h2.1.1 | exact hM2.k | (rw [c1.1.1]; exact hP.2.1.k)) ⟨hM.k, c_X11_isMaster hM hX.v0 hz (fun j hj e => ⟨fun c' => absurd c' (by decide), fun _ => ⟨fun c' => absurd c' cu, fun _ => ⟨fun c' => absurd c' ct, fun _ => ⟨hM.k, c_X11_of (f := 2) hM (by omega) (by omega) ⟨fun _ => hP.same, fun c' => absurd c c'⟩⟩⟩⟩⟩) (fun h => absurd rfl (h n hn))⟩
      · exact U_X11_bars (by first | exact hM.k | exact hM1.k | exact hP.2.1.k | exact h.2.2.1.1 | exact h.1.1 | exact g1.1.1 | exact g3.1.1 | exact gm.1.1 | exact h2.1.1 | exact hM2.k | (rw [c1.1.1]; exact hP.2.1.k)) ⟨hM.k, c_X11_isMaster hM hX.v0 hz (fun j hj e => ⟨fun c' => absurd c' (by decide), fun _ => ⟨fun c' => absurd c' cu, fun _ => ⟨fun c' => absurd c' ct, fun _ => ⟨hM.k, c_X11_of (f := 2) hM (by omega) (by omega) ⟨fun c' => absurd c' c2, fun _ => ⟨hM.k, c_X11_of (f := 2) hM (by omega) (by omega) ⟨fun _ => hP.same, fun c' => absurd c c'⟩⟩⟩⟩⟩⟩⟩) (fun h => absurd rfl (h n hn))⟩
      · obtain ⟨a, ha, rfl⟩ := jisg_of cu
        obtain ⟨b, hb, rfl⟩ := jisg_of ct
        have c1 : jch S (jput S (x + 2 + 2 + n) 3 (jshl 1 (nI a) ||| jshl 1 (nI b))) (x + 2) (x + 13) := jch.put (by omega) (by omega)
        have hM1 := hM.keep c1 (by omega)
        refine U_X11_bars (by first | exact hM.k | exact hM1.k | exact hP.2.1.k | exact h.2.2.1.1 | exact h.1.1 | exact g1.1.1 | exact g3.1.1 | exact gm.1.1 | exact h2.1.1 | exact hM2.k | (rw [c1.1.1]; exact hP.2.1.k)) ⟨hM1.k, c_X11_isMaster hM1 hX.v0 hz (fun j hj e => ⟨fun c' => absurd c' (by decide), fun _ => ⟨fun c' => absurd c' cu, fun _ => ⟨fun c' => absurd c' ct, fun _ => ⟨hM1.k, c_X11_of (f := 2) hM1 (by omega) (by omega) ⟨fun c' => absurd c' c2, fun _ => ⟨hM1.k, c_X11_of (f := 2) hM1 (by omega) (by omega) ⟨fun c' => absurd c' c3, fun _ => ⟨hM1.k, ?_⟩⟩⟩⟩⟩⟩⟩⟩) (fun h => absurd rfl (h n hn))⟩
        refine hP.mput (i := n) (f := 3) hn (by omega) (nI_mst n 3) ⟨_, ?_, nI_bv _⟩
        rw [rgb_m n 3 (by omega)]
        exact j_or_lt ⟨a, ha⟩ ⟨b, hb⟩
  · exact U_X11_bars (by first | exact hM.k | exact hM1.k | exact hP.2.1.k | exact h.2.2.1.1 | exact h.1.1 | exact g1.1.1 | exact g3.1.1 | exact gm.1.1 | exact h2.1.1 | exact hM2.k | (rw [c1.1.1]; exact hP.2.1.k)) ⟨hM.k, c_X11_isMaster hM hX.v0 hz (fun j hj e => absurd e (hno j hj)) (fun _ => ⟨fun _ => hP.same, fun c => absurd rfl c⟩)⟩
theorem P_set {w u t : Int32} (hP : PI S x sz v) : jFi E mX10_set (d + 3) 0 0 [.ref x, .int w, .int u, .int t] S (fun r S1 => jFm E mX11_set (d + 2) (x + 94) [.int w, .int u, .int t] S1 (fun r' S2 => PO S x r r' S2)) := by
  have hX := hP.1
  have hM := hP.2.1
  have hz := hX.sz9
  have e2 : jisin t.toInt64 0 1 = jwi t 2 := jisin_wi t 2 1 rfl (jle_lt (by decide))
  have e99 : jisin t.toInt64 0 99 = jwi t 100 := jisin_wi t 100 99 rfl (jle_lt (by decide))
  refine T_X10_set ⟨hX.1, x + 1, hX.2.1, hX.k3, x + 2, hX.r0, hX.g.1.1, c_X0_find hX.g.1 hX.g.2.1 hz (fun n hn e => ⟨fun c => absurd c (by simp), fun b hb => ?_⟩) (fun hno => ⟨fun _ => ?_, fun b hb => absurd hb (by simp)⟩)⟩
  · obtain rfl : x + 2 + 2 + n = b := by simpa using hb
    subst e
    have k2 : jk S (x + 2 + 2 + n) = 2 := hX.g.mk2 (by omega)
    have i46 : ∀ f : Nat, 4 ≤ f → f ≤ 6 → jisin (nI f).toInt64 4 6 ≠ 0 := by
      intro f h1 h2
      rcases jisin_ab (nI f) (lo := 4) (hi := 6) 4 6 rfl rfl (by omega) (by omega) with ⟨j, _, _, _, h⟩ | ⟨h, _⟩
      · rw [h]; decide
      · exact absurd rfl (h f h1 h2)
    -- fee and age
    have small : ∀ f : Nat, (f = 4 ∨ f = 5) → ∀ r S1, S1 = jput S (x + 2 + 2 + n) f t → r = mfv v n f → ¬ jwi t 100 = 0 → jFm E mX11_set (d + 2) (x + 94) [.int (nI n), .int (nI f), .int t] S1 (fun r' S2 => PO S x r r' S2) := by
      intro f hf r S1 hS hr ht
      subst hS; subst hr
      have c1 : jch S (jput S (x + 2 + 2 + n) f t) (x + 2) (x + 13) := jch.put (by omega) (by omega)
      have hM1 := hM.keep c1 (by omega)
      have hf6 : nI f ≠ 6 := nI_ne (b := 6) (by omega) (by omega) (by omega)
      refine U_X11_set (by first | exact hM.k | exact hM1.k | exact hP.2.1.k | exact h.2.2.1.1 | exact h.1.1 | exact g1.1.1 | exact g3.1.1 | exact gm.1.1 | exact h2.1.1 | exact hM2.k | (rw [c1.1.1]; exact hP.2.1.k)) ⟨hM1.k, c_X11_isMaster hM1 hX.v0 hz (fun j hj e => ⟨fun c' => absurd c' (by decide), fun _ => ⟨fun c' => absurd c' (i46 f (by omega) (by omega)), fun _ => ⟨fun c' => absurd c' hf6, fun _ => ⟨fun c' => absurd (e99.symm.trans c') ht, fun _ => ⟨hM1.k, ?_⟩⟩⟩⟩⟩) (fun h => absurd rfl (h n hn))⟩
      refine hP.mput hn (by omega) (nI_mst n f) ?_
      rcases jwi_cases t (b := 100) 100 rfl (by omega) with ⟨j, hj, e, _⟩ | ⟨_, e⟩
      · refine ⟨j, ?_, e⟩
        rw [rgb_m n f (by omega)]
        rcases hf with rfl | rfl <;> exact hj
      · exact absurd e ht
    have bad : ∀ f : Nat, (f = 4 ∨ f = 5) → jwi t 100 = 0 → jFm E mX11_set (d + 2) (x + 94) [.int (nI n), .int (nI f), .int t] S (fun r' S2 => PO S x kBAD r' S2) := by
      intro f hf ht
      have hf6 : nI f ≠ 6 := nI_ne (b := 6) (by omega) (by omega) (by omega)
      exact U_X11_set (by first | exact hM.k | exact hM1.k | exact hP.2.1.k | exact h.2.2.1.1 | exact h.1.1 | exact g1.1.1 | exact g3.1.1 | exact gm.1.1 | exact h2.1.1 | exact hM2.k | (rw [c1.1.1]; exact hP.2.1.k)) ⟨hM.k, c_X11_isMaster hM hX.v0 hz (fun j hj e => ⟨fun c' => absurd c' (by decide), fun _ => ⟨fun _ => hP.same, fun _ => ⟨fun c' => absurd c' hf6, fun _ => ⟨fun _ => hP.same, fun c' => absurd (e99.trans ht) c'⟩⟩⟩⟩) (fun h => absurd rfl (h n hn))⟩
    have dead : ∀ r q : Int32, r = mfv v n 6 → q = t → ¬ jwi t 2 = 0 → jFm E mX11_set (d + 2) (x + 94) [.int (nI n), .int 6, .int t] (jput S (x + 2 + 2 + n) 6 q) (fun r' S2 => PO S x r r' S2) := by
      intro r q hr hq ht
      subst hr; subst hq
      have c1 : jch S (jput S (x + 2 + 2 + n) 6 q) (x + 2) (x + 13) := jch.put (by omega) (by omega)
      have hM1 := hM.keep c1 (by omega)
      refine U_X11_set (by first | exact hM.k | exact hM1.k | exact hP.2.1.k | exact h.2.2.1.1 | exact h.1.1 | exact g1.1.1 | exact g3.1.1 | exact gm.1.1 | exact h2.1.1 | exact hM2.k | (rw [c1.1.1]; exact hP.2.1.k)) ⟨hM1.k, c_X11_isMaster hM1 hX.v0 hz (fun j hj e => ⟨fun c' => absurd c' (by decide), fun _ => ⟨fun c' => absurd c' (i46 6 (by omega) (by omega)), fun _ => ⟨fun _ => ⟨fun c' => absurd (e2.symm.trans c') ht, fun _ => ⟨hM1.k, ?_⟩⟩, fun c' => absurd rfl c'⟩⟩⟩) (fun h => absurd rfl (h n hn))⟩
      refine hP.mput hn (by omega) (nI_mst n 6) ?_
      rcases jwi_cases q (b := 2) 2 rfl (by omega) with ⟨j, hj, e, _⟩ | ⟨_, e⟩
      · exact ⟨j, by rw [rgb_m n 6 (by omega)]; exact hj, e⟩
      · exact absurd e ht
    refine ⟨fun c => ?_, fun c => ?_, fun c => ?_, fun c4 c5 c6 => ?_⟩
    · subst c
      refine T_X10_setFee ⟨fun ht => bad 4 (Or.inl rfl) ht, fun ht => ⟨k2, small 4 (Or.inl rfl) _ _ rfl (hX.g.at (by omega) (by omega)) ht⟩⟩
    · subst c
      refine T_X10_setAge ⟨fun ht => bad 5 (Or.inr rfl) ht, fun ht => ⟨k2, small 5 (Or.inr rfl) _ _ rfl (hX.g.at (by omega) (by omega)) ht⟩⟩
    · subst c
      have h6 : ji S (x + 2 + 2 + n) 6 = mfv v n 6 := hX.g.at (by omega) (by omega)
      obtain ⟨k, hk, ek⟩ := hP.2.2.ms (i := n) (f := 6) (by omega) (by omega)
      rw [rgb_m n 6 (by omega)] at hk
      have hk : k < 2 := hk
      refine T_X10_setDead ⟨fun ht => ?_, fun ht => ⟨k2, ?_⟩⟩
      · exact U_X11_set (by first | exact hM.k | exact hM1.k | exact hP.2.1.k | exact h.2.2.1.1 | exact h.1.1 | exact g1.1.1 | exact g3.1.1 | exact gm.1.1 | exact h2.1.1 | exact hM2.k | (rw [c1.1.1]; exact hP.2.1.k)) ⟨hM.k, c_X11_isMaster hM hX.v0 hz (fun j hj e => ⟨fun c' => absurd c' (by decide), fun _ => ⟨fun _ => hP.same, fun _ => ⟨fun _ => ⟨fun _ => hP.same, fun c' => absurd (e2.trans ht) c'⟩, fun c' => absurd rfl c'⟩⟩⟩) (fun h => absurd rfl (h n hn))⟩
      · have ht01 : t = 0 ∨ t = 1 := by
          rcases jwi_cases t (b := 2) 2 rfl (by omega) with ⟨j, hj, e, _⟩ | ⟨_, e⟩
          · rcases (show j = 0 ∨ j = 1 by omega) with rfl | rfl
            · exact Or.inl e
            · exact Or.inr e
          · exact absurd e ht
        have hm01 : mfv v n 6 = 0 ∨ mfv v n 6 = 1 := by
          rw [ek]
          rcases (show k = 0 ∨ k = 1 by omega) with rfl | rfl
          · exact Or.inl rfl
          · exact Or.inr rfl
        rw [h6]
        refine ⟨fun c => ⟨fun c1 => dead _ _ c.symm c1.symm ht, fun c1 => dead _ _ c.symm ?_ ht⟩, fun c => ⟨fun c1 => dead _ _ ?_ c1.symm ht, fun c1 => dead _ _ ?_ ?_ ht⟩⟩
        · rcases ht01 with h | h
          · exact h.symm
          · exact absurd h c1
        · rcases hm01 with h | h
          · exact absurd h c
          · exact h.symm
        · rcases hm01 with h | h
          · exact absurd h c
          · exact h.symm
        · rcases ht01 with h | h
          · exact h.symm
          · exact absurd h c1
    · refine U_X11_set (by first | exact hM.k | exact hM1.k | exact hP.2.1.k | exact h.2.2.1.1 | exact h.1.1 | exact g1.1.1 | exact g3.1.1 | exact gm.1.1 | exact h2.1.1 | exact hM2.k | (rw [c1.1.1]; exact hP.2.1.k)) ⟨hM.k, c_X11_isMaster hM hX.v0 hz (fun j hj e => ⟨fun c' => absurd c' (by decide), fun _ => ⟨fun _ => hP.same, fun c' => absurd ?_ c'⟩⟩) (fun h => absurd rfl (h n hn))⟩
      rcases jisin_ab u (lo := 4) (hi := 6) 4 6 rfl rfl (by omega) (by omega) with ⟨f, h1, h2, h, _⟩ | ⟨_, h⟩
      · exfalso
        rcases (show f = 4 ∨ f = 5 ∨ f = 6 by omega) with rfl | rfl | rfl
        · exact c4 h
        · exact c5 h
        · exact c6 h
      · exact h
  · exact U_X11_set (by first | exact hM.k | exact hM1.k | exact hP.2.1.k | exact h.2.2.1.1 | exact h.1.1 | exact g1.1.1 | exact g3.1.1 | exact gm.1.1 | exact h2.1.1 | exact hM2.k | (rw [c1.1.1]; exact hP.2.1.k)) ⟨hM.k, c_X11_isMaster hM hX.v0 hz (fun j hj e => absurd e (hno j hj)) (fun _ => ⟨fun _ => hP.same, fun c => absurd rfl c⟩)⟩
end jLight6
