/-! LIGHT CALLS of the apprentice, on both sides -/
section jLight
variable {E : jEnv} {d : Nat} {S : jM} {x m sz : Nat} {v : Nat → Int32}
theorem upd_at (n : Nat) (w : Int32) : upd v n w n = w := by unfold upd; rw [if_pos rfl]
theorem upd_ne {n j : Nat} (w : Int32) (h : j ≠ n) : upd v n w j = v j := by unfold upd; rw [if_neg h]
theorem XR.kl (h : XR S x sz v) : jk S (x + 16) = 1 := h.l.1.1
/-- the learner alone changes -/
theorem XR.lear {S' : jM} {v' : Nat → Int32} (h : XR S x sz v) (hc : jch S S' (x + 16) (x + 19)) (hl : LdR S' (x + 16) (v' 3) (v' 4) (v' 5) (v' 6) (v' 2) (fun i => v' (16 + i)) (fun i => v' (26 + i))) (he : ∀ j, (j < 2 ∨ 7 ≤ j) → (j < 16 ∨ 36 ≤ j) → v' j = v j) : XR S' x sz v' :=
  h.of hc.1 (h.2.2.learner hc hl he)
/-- the wishes alone change -/
theorem RmR.wish {S' : jM} {r : Nat} {v' : Nat → Int32} (h : RmR S r sz v) (hs : jsame S S') (hc : ∀ y, y ≠ r → y ≠ r + 18 → ji S' y = ji S y) (h6 : ji S' r 6 = ji S r 6) (h4 : ji S' r 4 = v' 7) (hw : ∀ i, i < 6 → ji S' (r + 18) i = v' (9 + i)) (he : ∀ j, j ≠ 7 → (j < 9 ∨ 15 ≤ j) → v' j = v j) : RmR S' r sz v' := by
  obtain ⟨a0, a1, a2, a3, a4, a5, a6, a7, a8⟩ := h
  have c1 : jch S (S') r r → True := fun _ => trivial
  have g3 : GR S' (r + 1) sz (v 8) (mfv v) := ⟨a3.1.same hs, by rw [hc _ (by omega) (by omega)]; exact a3.2.1, by rw [hc _ (by omega) (by omega)]; exact a3.2.2.1, fun i hi f hf => by rw [hc _ (by omega) (by omega)]; exact a3.2.2.2 i hi f hf⟩
  have g4 : RdR S' (r + 12) (fun i => v (36 + i)) (vfar v) := ⟨a4.1.same hs, fun i hi => by rw [hc _ (by omega) (by omega)]; exact a4.2.1 i hi, fun i hi => by rw [hc _ (by omega) (by omega)]; exact a4.2.2 i hi⟩
  have g5 : LdR S' (r + 15) (v 3) (v 4) (v 5) (v 6) (v 2) (fun i => v (16 + i)) (fun i => v (26 + i)) := by
    obtain ⟨b0, b1, b2, b3, b4, b5, b6, b7⟩ := a5
    have e := hc (r + 15) (by omega) (by omega)
    exact ⟨b0.same hs, by rw [e]; exact b1, by rw [e]; exact b2, by rw [e]; exact b3, by rw [e]; exact b4, by rw [e]; exact b5, fun i hi => by rw [hc _ (by omega) (by omega)]; exact b6 i hi, fun i hi => by rw [hc _ (by omega) (by omega)]; exact b7 i hi⟩
  refine ⟨a0.same hs, a1, by rw [he 0 (by omega) (by omega)]; exact a2, ?_, ?_, ?_, h4, hw, by rw [h6, he 1 (by omega) (by omega)]; exact a8⟩
  · rw [he 8 (by omega) (by omega)]
    exact g3.cong (fun i hi f hf => (he _ (by omega) (by omega)).symm)
  · exact g4.cong (fun i hi => he _ (by omega) (by omega))
  · rw [he 3 (by omega) (by omega), he 4 (by omega) (by omega), he 5 (by omega) (by omega), he 6 (by omega) (by omega), he 2 (by omega) (by omega)]
    exact g5.cong (fun i hi => (he _ (by omega) (by omega)).symm) (fun i hi => (he _ (by omega) (by omega)).symm)
theorem P_apprentice {w : Int32} (hP : PI S x sz v) : jFi E mX10_apprentice d 0 0 [.ref x, .int w] S (fun r S1 => jFm E mX11_apprentice (d + 1) (x + 94) [.int w] S1 (fun r' S2 => PO S x r r' S2)) := by
  have hX := hP.1
  have hM := hP.2.1
  obtain ⟨b0, b1, b2, b3, b4, b5, b6, b7⟩ := hX.l
  have key : ∀ j, j < 4 → w = nI j → jFm E mX11_apprentice (d + 1) (x + 94) [.int w] S (fun r' S2 => PO S x (v (3 + j)) r' S2) := by
    intro j hj e
    refine U_X11_apprentice (by first | exact hM.k | exact hM1.k | exact hP.2.1.k | exact h.2.2.1.1 | exact h.1.1 | exact g1.1.1 | exact g3.1.1 | exact gm.1.1 | exact h2.1.1 | exact hM2.k | (rw [c1.1.1]; exact hP.2.1.k)) ⟨fun c => ?_, fun _ => ?_⟩
    · rcases jisin_ab w (lo := 0) (hi := 3) 0 3 rfl rfl (by omega) (by omega) with ⟨j, _, _, _, h⟩ | ⟨h, _⟩
      · rw [h] at c; exact absurd c (by decide)
      · exact absurd e (h j (by omega) (by omega))
    · obtain ⟨a1, a2⟩ := hM.at (i := 3 + w) (3 + j) (by rw [e]; exact nI_add 3 j) (by omega)
      refine ⟨hM.k, _, hM.r, hM.k1, a1, ?_⟩
      rw [a2]
      exact hP.same
  refine T_X10_apprentice ⟨fun e => ⟨hX.1, x + 1, hX.2.1, hX.k3, x + 16, hX.r2, b0.1, ?_⟩, fun e => ⟨hX.1, x + 1, hX.2.1, hX.k3, x + 16, hX.r2, b0.1, ?_⟩, fun e => ⟨hX.1, x + 1, hX.2.1, hX.k3, x + 16, hX.r2, b0.1, ?_⟩, fun e => ⟨hX.1, x + 1, hX.2.1, hX.k3, x + 16, hX.r2, b0.1, ?_⟩, fun e0 e1 e2 e3 => ?_⟩
  · rw [b1]; exact key 0 (by omega) e
  · rw [b2]; exact key 1 (by omega) e
  · rw [b3]; exact key 2 (by omega) e
  · rw [b4]; exact key 3 (by omega) e
  · refine U_X11_apprentice (by first | exact hM.k | exact hM1.k | exact hP.2.1.k | exact h.2.2.1.1 | exact h.1.1 | exact g1.1.1 | exact g3.1.1 | exact gm.1.1 | exact h2.1.1 | exact hM2.k | (rw [c1.1.1]; exact hP.2.1.k)) ⟨fun _ => hP.same, fun c => absurd ?_ c⟩
    rcases jisin_ab w (lo := 0) (hi := 3) 0 3 rfl rfl (by omega) (by omega) with ⟨j, _, hj, h, _⟩ | ⟨_, h⟩
    · exfalso
      rcases (show j = 0 ∨ j = 1 ∨ j = 2 ∨ j = 3 by omega) with rfl | rfl | rfl | rfl
      · exact e0 h
      · exact e1 h
      · exact e2 h
      · exact e3 h
    · exact h
theorem P_clear (hP : PI S x sz v) : jFi E mX10_clear d 0 0 [.ref x] S (fun r S1 => jFm E mX11_clear (d + 1) (x + 94) [] S1 (fun r' S2 => PO S x r r' S2)) := by
  have hX := hP.1
  have h7 : ji S (x + 1) 4 = v 7 := hX.2.2.2.2.2.2.2.2.1
  refine T_X10_clear ⟨hX.1, x + 1, hX.2.1, hX.k3, ?_⟩
  rw [h7]
  have c1 : jch S (jput S (x + 1) 4 0) (x + 1) (x + 2) := jch.put (by omega) (by omega)
  have hM := hP.2.1.keep c1 (by omega)
  have hr : RmR (jput S (x + 1) 4 0) (x + 1) sz (upd v 7 0) := by
    refine hX.2.2.wish c1.1 (fun y h1 h2 => c1.2 y (by omega)) ?_ ?_ (fun i hi => ?_) (fun j h1 h2 => upd_ne 0 h1)
    · rw [ji_put, if_neg (by omega)]
    · rw [ji_put, if_pos ⟨rfl, rfl⟩, upd_at]
    · rw [ji_put, if_neg (by omega), upd_ne 0 (by omega)]
      exact hX.2.2.2.2.2.2.2.2.2.1 i hi
  refine U_X11_clear (by first | exact hM.k | exact hM1.k | exact hP.2.1.k | exact h.2.2.1.1 | exact h.1.1 | exact g1.1.1 | exact g3.1.1 | exact gm.1.1 | exact h2.1.1 | exact hM2.k | (rw [c1.1.1]; exact hP.2.1.k)) ⟨hM.k, c_X11_becomes 7 hM rfl (by omega) (fun S2 c2 h2 => ⟨rfl, (jfr.realm c1 (by omega) (by omega)).trans (jfr.row c2), tkOf hP.2.1 h2 (fun j hj => by rw [upd_ne _ (by omega)]), sz, _, ?_, h2, hP.2.2.put (fun _ => ⟨0, by decide, rfl⟩)⟩)⟩
  exact (hX.of c1.1 hr).of c2.1 (hr.keep c2 (by omega))
theorem P_has {w u : Int32} (hP : PI S x sz v) : jFi E mX10_has (d + 1) 0 0 [.ref x, .int w, .int u] S (fun r S1 => jFm E mX11_has (d + 1) (x + 94) [.int w, .int u] S1 (fun r' S2 => PO S x r r' S2)) := by
  have hX := hP.1
  have hl := hX.l
  have e1 : jisin u.toInt64 0 9999 = jwi u 10000 := jisin_wi u 10000 9999 rfl (jle_lt (by decide))
  have e2 : jisin u.toInt64 0 99 = jwi u 100 := jisin_wi u 100 99 rfl (jle_lt (by decide))
  have bad : (w ≠ 2 → w ≠ 3 → jFm E mX11_has (d + 1) (x + 94) [.int w, .int u] S (fun r' S2 => PO S x kBAD r' S2)) := by
    intro n2 n3
    refine U_X11_has (by first | exact hM.k | exact hM1.k | exact hP.2.1.k | exact h.2.2.1.1 | exact h.1.1 | exact g1.1.1 | exact g3.1.1 | exact gm.1.1 | exact h2.1.1 | exact hM2.k | (rw [c1.1.1]; exact hP.2.1.k)) ⟨fun _ => hP.same, fun c => absurd ?_ c⟩
    rcases jisin_ab w (lo := 2) (hi := 3) 2 3 rfl rfl (by omega) (by omega) with ⟨j, h1, h2, h, _⟩ | ⟨_, h⟩
    · rcases (show j = 2 ∨ j = 3 by omega) with rfl | rfl
      · exact absurd h n2
      · exact absurd h n3
    · exact h
  have i2 : jisin (2 : Int32).toInt64 2 3 ≠ 0 := by decide
  have i3 : jisin (3 : Int32).toInt64 2 3 ≠ 0 := by decide
  have put : ∀ (f n : Nat) (q : Int32), (f = 2 ∧ n = 5 ∧ q = 2 ∧ jwi u 10000 ≠ 0) ∨ (f = 3 ∧ n = 6 ∧ q = 3 ∧ jwi u 100 ≠ 0) → jFm E mX11_has (d + 1) (x + 94) [.int q, .int u] (jput S (x + 16) f u) (fun r' S2 => PO S x (v n) r' S2) := by
    intro f n q hf
    have c1 : jch S (jput S (x + 16) f u) (x + 16) (x + 17) := jch.put (by omega) (by omega)
    have hM := hP.2.1.keep c1 (by omega)
    have h1 : XR (jput S (x + 16) f u) x sz (upd v n u) := by
      refine hX.lear (c1.wide (by omega) (by omega)) ?_ (fun j p1 p2 => upd_ne u (by omega))
      rcases hf with ⟨rfl, rfl, -, -⟩ | ⟨rfl, rfl, -, -⟩
      · rw [upd_ne u (j := 3) (by omega), upd_ne u (j := 4) (by omega), upd_at, upd_ne u (j := 6) (by omega), upd_ne u (j := 2) (by omega)]
        exact hl.put2.cong (fun i hi => (upd_ne u (by omega)).symm) (fun i hi => (upd_ne u (by omega)).symm)
      · rw [upd_ne u (j := 3) (by omega), upd_ne u (j := 4) (by omega), upd_ne u (j := 5) (by omega), upd_at, upd_ne u (j := 2) (by omega)]
        exact hl.put3.cong (fun i hi => (upd_ne u (by omega)).symm) (fun i hi => (upd_ne u (by omega)).symm)
    have hg : Rg sz (upd v n u) := by
      refine hP.2.2.put (fun _ => ?_)
      rcases hf with ⟨rfl, rfl, -, hu⟩ | ⟨rfl, rfl, -, hu⟩
      · rcases jwi_cases u (b := 10000) 10000 rfl (by omega) with ⟨j, hj, e, _⟩ | ⟨_, e⟩
        · exact ⟨j, hj, e⟩
        · exact absurd e hu
      · rcases jwi_cases u (b := 100) 100 rfl (by omega) with ⟨j, hj, e, _⟩ | ⟨_, e⟩
        · exact ⟨j, hj, e⟩
        · exact absurd e hu
    have fin : ∀ i : Int32, i = nI n → n < 3135 → jFi E mX11_becomes d 0 0 [.ref (x + 94), .int i, .int u] (jput S (x + 16) f u) (fun r' S2 => PO S x (v n) r' S2) := by
      intro i hi hn
      refine c_X11_becomes n hM hi hn (fun S2 c2 h2 => ⟨rfl, (jfr.realm c1 (by omega) (by omega)).trans (jfr.row c2), tkOf hP.2.1 h2 (fun j hj => by rw [upd_ne _ (by omega)]), sz, _, ?_, h2, hg⟩)
      exact h1.of c2.1 (h1.2.2.keep c2 (by omega))
    rcases hf with ⟨rfl, rfl, rfl, hu⟩ | ⟨rfl, rfl, rfl, hu⟩
    · exact U_X11_has (by first | exact hM.k | exact hM1.k | exact hP.2.1.k | exact h.2.2.1.1 | exact h.1.1 | exact g1.1.1 | exact g3.1.1 | exact gm.1.1 | exact h2.1.1 | exact hM2.k | (rw [c1.1.1]; exact hP.2.1.k)) ⟨fun c => absurd c i2, fun _ => ⟨fun _ => ⟨fun c => absurd (e1.symm.trans c) hu, fun _ => ⟨hM.k, fin _ rfl (by omega)⟩⟩, fun c => absurd rfl c⟩⟩
    · exact U_X11_has (by first | exact hM.k | exact hM1.k | exact hP.2.1.k | exact h.2.2.1.1 | exact h.1.1 | exact g1.1.1 | exact g3.1.1 | exact gm.1.1 | exact h2.1.1 | exact hM2.k | (rw [c1.1.1]; exact hP.2.1.k)) ⟨fun c => absurd c i3, fun _ => ⟨fun c => absurd c (by decide), fun _ => ⟨fun c => absurd (e2.symm.trans c) hu, fun _ => ⟨hM.k, fin _ rfl (by omega)⟩⟩⟩⟩
  refine T_X10_has ⟨hX.1, x + 1, hX.2.1, hX.k3, x + 16, hX.r2, ⟨fun w2 => ⟨fun hu => ⟨fun w3 => absurd (w2.symm.trans w3) (by decide), fun _ => ?_⟩, fun hu => ⟨hX.kl, ?_⟩⟩, fun w2 => ⟨fun w3 => ⟨fun hu => ?_, fun hu => ⟨hX.kl, ?_⟩⟩, fun w3 => bad w2 w3⟩⟩⟩
  · subst w2
    exact U_X11_has (by first | exact hM.k | exact hM1.k | exact hP.2.1.k | exact h.2.2.1.1 | exact h.1.1 | exact g1.1.1 | exact g3.1.1 | exact gm.1.1 | exact h2.1.1 | exact hM2.k | (rw [c1.1.1]; exact hP.2.1.k)) ⟨fun _ => hP.same, fun _ => ⟨fun _ => ⟨fun _ => hP.same, fun c => absurd (e1.trans hu) c⟩, fun c => absurd rfl c⟩⟩
  · subst w2
    rw [hl.2.2.2.1]
    exact put 2 5 2 (Or.inl ⟨rfl, rfl, rfl, hu⟩)
  · subst w3
    exact U_X11_has (by first | exact hM.k | exact hM1.k | exact hP.2.1.k | exact h.2.2.1.1 | exact h.1.1 | exact g1.1.1 | exact g3.1.1 | exact gm.1.1 | exact h2.1.1 | exact hM2.k | (rw [c1.1.1]; exact hP.2.1.k)) ⟨fun _ => hP.same, fun _ => ⟨fun c => absurd c (by decide), fun _ => ⟨fun _ => hP.same, fun c => absurd (e2.trans hu) c⟩⟩⟩
  · subst w3
    rw [hl.2.2.2.2.1]
    exact put 3 6 3 (Or.inr ⟨rfl, rfl, rfl, hu⟩)
end jLight
