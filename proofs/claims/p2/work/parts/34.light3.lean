/-! RESTS, USE, GO, WANTS, ROAD on both sides -/
theorem jday {a b : Nat} (ha : a < 10000) (hb : b < 1000000) : jmin 9999 (nI a + nI b) = jclamp (nI a + nI b) 0 9999 ∧ ∃ k, k < 10000 ∧ jclamp (nI a + nI b) 0 9999 = nI k := by
  rw [nI_add]
  have h0 : (0 : Int32) ≤ nI (a + b) := by rw [Int32.le_iff_toInt_le, nI_toInt (by omega)]; show (0 : Int) ≤ _; omega
  have e9 : (9999 : Int32) = nI 9999 := rfl
  unfold jmin jclamp
  rw [if_pos h0, e9]
  by_cases h : a + b < 9999
  · have h1 : nI (a + b) < nI 9999 := by rw [Int32.lt_iff_toInt_lt, nI_toInt (by omega), nI_toInt (by omega)]; omega
    rw [if_pos h1, if_pos (Int32.le_of_lt h1)]
    exact ⟨rfl, a + b, by omega, rfl⟩
  · have h1 : ¬ nI (a + b) < nI 9999 := by rw [Int32.lt_iff_toInt_lt, nI_toInt (by omega), nI_toInt (by omega)]; omega
    rw [if_neg h1]
    by_cases h2 : nI (a + b) ≤ nI 9999
    · rw [if_pos h2]
      have e : a + b = 9999 := by
        rw [Int32.le_iff_toInt_le, nI_toInt (by omega), nI_toInt (by omega)] at h2
        omega
      rw [e]
      exact ⟨rfl, 9999, by omega, rfl⟩
    · rw [if_neg h2]
      exact ⟨rfl, 9999, by omega, rfl⟩
theorem nI_road (a b : Nat) : (36 + 6 * nI a) + nI b = nI (36 + (a * 6 + b)) := by
  rw [show (36 : Int32) = nI 36 from rfl, show (6 : Int32) = nI 6 from rfl, pk_mul, nI_add, nI_add]
  congr 1; omega
theorem jist_of {w : Int32} (h : ¬ jwi w 6 = 0) : ∃ j, j < 6 ∧ w = nI j := by
  rcases jwi_cases w (b := 6) 6 rfl (by omega) with ⟨j, hj, e, _⟩ | ⟨_, e⟩
  · exact ⟨j, hj, e⟩
  · exact absurd e h
theorem jisg_of {w : Int32} (h : ¬ jwi w 10 = 0) : ∃ j, j < 10 ∧ w = nI j := by
  rcases jwi_cases w (b := 10) 10 rfl (by omega) with ⟨j, hj, e, _⟩ | ⟨_, e⟩
  · exact ⟨j, hj, e⟩
  · exact absurd e h
section jLight3
variable {E : jEnv} {d : Nat} {S : jM} {x m sz : Nat} {v : Nat → Int32}
theorem vday_at (n : Int32) (u : Nat → Int32) : vday n u 2 = jclamp (u 2 + n) 0 9999 ∧ vday n u 4 = (pdays n (u 6) (u 4, fun i => u (26 + i))).1 ∧ (∀ i, i < 10 → vday n u (26 + i) = (pdays n (u 6) (u 4, fun i => u (26 + i))).2 i) ∧ ∀ j, j ≠ 2 → j ≠ 4 → (j < 26 ∨ 36 ≤ j) → vday n u j = u j := by
  unfold vday vrow
  refine ⟨by rw [if_pos rfl], by rw [if_neg (by omega), if_pos rfl], fun i hi => ?_, fun j h2 h4 hj => ?_⟩
  · rw [if_neg (by omega), if_neg (by omega), if_pos (by omega), show 26 + i - 26 = i by omega]
  · rw [if_neg h2, if_neg h4, if_neg (by omega)]
/-- days go by, and the two sides stand alike -/
theorem PI.day {S' : jM} {u : Nat → Int32} {n : Int32} {b : Nat} (hX : XR S x sz v) (hg : Rg sz v) (he : ∀ j, j < 26 ∨ 36 ≤ j → u j = v j) (hn : n = nI b) (hb : b < 1000000) (hc : jch S S' (x + 16) (x + 19))
    (hl : LdR S' (x + 16) (v 3) (pdays n (v 6) (v 4, fun i => u (26 + i))).1 (v 5) (v 6) (jmin 9999 (v 2 + n)) (fun i => v (16 + i)) (pdays n (v 6) (v 4, fun i => u (26 + i))).2) : XR S' x sz (vday n u) ∧ Rg sz (vday n u) := by
  obtain ⟨a1, a2, a3, a4⟩ := vday_at n u
  have e2 := he 2 (by omega)
  have e4 := he 4 (by omega)
  have e6 := he 6 (by omega)
  rw [e2] at a1
  rw [e4, e6] at a2 a3
  obtain ⟨a, ha, h2⟩ := hg 2 (by omega) (by decide)
  have hd := jday (a := a) (b := b) ha hb
  rw [← h2, ← hn] at hd
  refine ⟨hX.lear hc ?_ (fun j p1 p2 => ?_), fun j hj hr => ?_⟩
  · rw [a1, a2, a4 3 (by omega) (by omega) (by omega), a4 5 (by omega) (by omega) (by omega), a4 6 (by omega) (by omega) (by omega), he 3 (by omega), he 5 (by omega), he 6 (by omega), ← hd.1]
    exact hl.cong (fun i hi => by rw [a4 _ (by omega) (by omega) (by omega), he _ (by omega)]) (fun i hi => (a3 i hi).symm)
  · rw [a4 j (by omega) (by omega) (by omega)]; exact he j (by omega)
  · by_cases j2 : j = 2
    · subst j2; rw [a1]; exact hd.2
    · by_cases j4 : j = 4
      · subst j4; rw [a2]; exact pfold_kn 10 0 _ hg.kn
      · by_cases jr : j < 26 ∨ 36 ≤ j
        · rw [a4 j j2 j4 jr, he j jr]; exact hg j hj hr
        · exfalso
          have := rgb_from (j - 16) (by omega)
          rw [show 16 + (j - 16) = j by omega] at this
          exact hr this
theorem P_rests {w : Int32} (hP : PI S x sz v) : jFi E mX10_rests (d + 3) 0 0 [.ref x, .int w] S (fun r S1 => jFm E mX11_rests (d + 3) (x + 94) [.int w] S1 (fun r' S2 => PO S x r r' S2)) := by
  have hX := hP.1
  rcases jisin_ab w (lo := 1) (hi := 100) 1 100 rfl rfl (by omega) (by omega) with ⟨j, j1, j2, rfl, hj⟩ | ⟨hw, hj⟩
  · refine T_X10_rests ⟨fun c => absurd c (by rw [show (1 : Int32) = nI 1 from rfl, Int32.lt_iff_toInt_lt, nI_toInt (by omega), nI_toInt (by omega)]; omega), fun _ => ⟨fun _ => ⟨hX.1, x + 1, hX.2.1, hX.k3, x + 16, hX.r2, hX.kl, c_X1_passDays hX.l (fun S1 c1 l1 => ?_)⟩, fun c => absurd (by rw [show (100 : Int32) = nI 100 from rfl, Int32.le_iff_toInt_le, nI_toInt (by omega), nI_toInt (by omega)]; omega) c⟩⟩
    obtain ⟨h1, g1⟩ := PI.day (u := v) (n := nI j) hX hP.2.2 (fun _ _ => rfl) rfl (by omega) c1 l1
    refine ⟨h1.1, x + 1, h1.2.1, h1.k3, x + 16, h1.r2, h1.kl, ?_⟩
    rw [h1.l.2.2.1]
    have hM := hP.2.1.keep c1 (by omega)
    refine U_X11_rests (by first | exact hM.k | exact hM1.k | exact hP.2.1.k | exact h.2.2.1.1 | exact h.1.1 | exact g1.1.1 | exact g3.1.1 | exact gm.1.1 | exact h2.1.1 | exact hM2.k | (rw [c1.1.1]; exact hP.2.1.k)) ⟨fun c => absurd (hj.symm.trans c) (by decide), fun _ => ⟨hM.k, c_X11_goesBy hM hP.2.2 (fun S2 c2 h2 => ?_)⟩⟩
    obtain ⟨a1, a2⟩ := h2.at (i := 4) 4 rfl (by omega)
    refine ⟨h2.k, _, h2.r, h2.k1, a1, ?_⟩
    rw [a2]
    exact ⟨rfl, (jfr.realm c1 (by omega) (by omega)).trans (jfr.row c2), tkOf hP.2.1 h2 (fun j hj => by unfold vday vrow; rw [if_neg (by omega), if_neg (by omega), if_neg (by omega)]), sz, _, h1.of c2.1 (h1.2.2.keep c2 (by omega)), h2, g1⟩
  · have bad : jFm E mX11_rests (d + 3) (x + 94) [.int w] S (fun r' S2 => PO S x kBAD r' S2) := U_X11_rests (by first | exact hM.k | exact hM1.k | exact hP.2.1.k | exact h.2.2.1.1 | exact h.1.1 | exact g1.1.1 | exact g3.1.1 | exact gm.1.1 | exact h2.1.1 | exact hM2.k | (rw [c1.1.1]; exact hP.2.1.k)) ⟨fun _ => hP.same, fun c => absurd hj c⟩
    refine T_X10_rests ⟨fun _ => bad, fun c1 => ⟨fun c2 => ?_, fun _ => bad⟩⟩
    exfalso
    rw [show (1 : Int32) = nI 1 from rfl, Int32.lt_iff_toInt_lt, nI_toInt (by omega)] at c1
    obtain ⟨j, hj, e⟩ := jofI (x := w) (n := 101) (by omega) (by rw [Int32.le_iff_toInt_le]; show (0 : Int) ≤ _; omega) (by rw [show (100 : Int32) = nI 100 from rfl, Int32.le_iff_toInt_le, nI_toInt (by omega)] at c2; rw [Int32.lt_iff_toInt_lt, nI_toInt (by omega)]; omega)
    rw [e, nI_toInt (by omega)] at c1
    exact hw j (by omega) (by omega) e
theorem P_use {w : Int32} (hP : PI S x sz v) : jFi E mX10_use (d + 4) 0 0 [.ref x, .int w] S (fun r S1 => jFm E mX11_use (d + 4) (x + 94) [.int w] S1 (fun r' S2 => PO S x r r' S2)) := by
  have hX := hP.1
  refine T_X10_use ⟨fun c => U_X11_use (by first | exact hM.k | exact hM1.k | exact hP.2.1.k | exact h.2.2.1.1 | exact h.1.1 | exact g1.1.1 | exact g3.1.1 | exact gm.1.1 | exact h2.1.1 | exact hM2.k | (rw [c1.1.1]; exact hP.2.1.k)) ⟨fun _ => hP.same, fun c' => absurd c c'⟩, fun cw => ⟨hX.1, x + 1, hX.2.1, hX.k3, x + 16, hX.r2, hX.kl, c_X1_practise hX.l (fun h0 => ⟨fun _ => ?_, fun c => absurd rfl c⟩) (fun g hg e h0 S1 c1 l1 => ⟨fun c => absurd c (by decide), fun _ => ?_⟩)⟩⟩
  · obtain ⟨g, hg, rfl⟩ := jisg_of cw
    exact U_X11_use (by first | exact hM.k | exact hM1.k | exact hP.2.1.k | exact h.2.2.1.1 | exact h.1.1 | exact g1.1.1 | exact g3.1.1 | exact gm.1.1 | exact h2.1.1 | exact hM2.k | (rw [c1.1.1]; exact hP.2.1.k)) ⟨fun _ => absurd ‹_› cw, fun _ => ⟨hP.2.1.k, c_X11_doesKnow hP.2.1 hP.2.2.kn hg ⟨fun _ => hP.same, fun c => absurd h0 c⟩⟩⟩
  · subst e
    obtain ⟨h1, g1⟩ := PI.day (u := upd v (26 + g) 0) (n := 1) (b := 1) hX hP.2.2 (fun j hj => upd_ne 0 (by omega)) rfl (by omega) c1 (by
      have e : (fun i => upd v (26 + g) 0 (26 + i)) = upd (fun i => v (26 + i)) g 0 := by
        funext i
        unfold upd
        by_cases hi : i = g
        · rw [if_pos hi, if_pos (by omega)]
        · rw [if_neg hi, if_neg (by omega)]
      rw [e]; exact l1)
    refine ⟨h1.1, x + 1, h1.2.1, h1.k3, x + 16, h1.r2, h1.kl, ?_⟩
    rw [h1.l.2.2.1]
    have hM := hP.2.1.keep c1 (by omega)
    refine U_X11_use (by first | exact hM.k | exact hM1.k | exact hP.2.1.k | exact h.2.2.1.1 | exact h.1.1 | exact g1.1.1 | exact g3.1.1 | exact gm.1.1 | exact h2.1.1 | exact hM2.k | (rw [c1.1.1]; exact hP.2.1.k)) ⟨fun _ => absurd ‹_› cw, fun _ => ⟨hM.k, c_X11_doesKnow hM hP.2.2.kn hg ⟨fun c => absurd c h0, fun _ => ⟨hM.k, ?_⟩⟩⟩⟩
    have ei : (26 : Int32) + nI g = nI (26 + g) := nI_add 26 g
    refine T_X11_uses ⟨hM.k, x + 94 + 1, hM.r, hM.k1, (hM.at _ ei (by omega)).1, ?_⟩
    refine c_X11_goesBy (sz := sz) (hM.puts _ ei (by omega)) (hP.2.2.put (fun c => absurd (by rw [show 26 + g = 16 + (10 + g) by omega]; exact rgb_from _ (by omega)) c)) (fun S2 c2 h2 => ?_)
    obtain ⟨a1, a2⟩ := h2.at (i := 4) 4 rfl (by omega)
    refine ⟨h2.k, _, h2.r, h2.k1, a1, ?_⟩
    rw [a2]
    have c3 : jch S1 S2 (x + 95) (x + 96) := (jch.put (by omega) (by omega)).trans c2
    exact ⟨rfl, (jfr.realm c1 (by omega) (by omega)).trans (jfr.row c3), tkOf hP.2.1 h2 (fun j hj => by unfold vday vrow; rw [if_neg (by omega), if_neg (by omega), if_neg (by omega)]; exact upd_ne _ (by omega)), sz, _, h1.of c3.1 (h1.2.2.keep c3 (by omega)), h2, g1⟩
theorem P_go {w : Int32} (hP : PI S x sz v) : jFi E mX10_go (d + 3) 0 0 [.ref x, .int w] S (fun r S1 => jFm E mX11_go (d + 3) (x + 94) [.int w] S1 (fun r' S2 => PO S x r r' S2)) := by
  have hX := hP.1
  have hl := hX.l
  obtain ⟨a, ha, e3⟩ := hP.2.2.at_
  have i3 := hP.2.1.at (i := 3) 3 rfl (by omega)
  refine T_X10_go ⟨hX.1, x + 1, hX.2.1, hX.k3, x + 16, hX.r2, fun c => U_X11_go (by first | exact hM.k | exact hM1.k | exact hP.2.1.k | exact h.2.2.1.1 | exact h.1.1 | exact g1.1.1 | exact g3.1.1 | exact gm.1.1 | exact h2.1.1 | exact hM2.k | (rw [c1.1.1]; exact hP.2.1.k)) ⟨fun _ => hP.same, fun c' => absurd c c'⟩, fun cw => ⟨hX.kl, ?_⟩⟩
  rw [hl.2.1]
  refine ⟨fun c => U_X11_go (by first | exact hM.k | exact hM1.k | exact hP.2.1.k | exact h.2.2.1.1 | exact h.1.1 | exact g1.1.1 | exact g3.1.1 | exact gm.1.1 | exact h2.1.1 | exact hM2.k | (rw [c1.1.1]; exact hP.2.1.k)) ⟨fun c' => absurd c' cw, fun _ => ⟨hP.2.1.k, _, hP.2.1.r, hP.2.1.k1, i3.1, fun _ => hP.same, fun c' => absurd (c.trans i3.2.symm) c'⟩⟩, fun cat => ⟨x + 13, hX.r1, hX.q.1.1, ?_⟩⟩
  obtain ⟨b, hb, rfl⟩ := jist_of cw
  have er : (36 + 6 * v 3) + nI b = nI (36 + (a * 6 + b)) := by rw [e3]; exact nI_road a b
  obtain ⟨k, hk, ek⟩ := hP.2.2.rd (a * 6 + b) (by omega)
  rw [e3]
  refine c_X4_direct hX.q ha hb ⟨fun h0 => ?_, fun h0 => ⟨hX.kl, c_X1_passDays hl (fun S1 c1 l1 => ?_)⟩⟩
  · obtain ⟨r1, r2⟩ := hP.2.1.at _ er (by omega)
    refine U_X11_go (by first | exact hM.k | exact hM1.k | exact hP.2.1.k | exact h.2.2.1.1 | exact h.1.1 | exact g1.1.1 | exact g3.1.1 | exact gm.1.1 | exact h2.1.1 | exact hM2.k | (rw [c1.1.1]; exact hP.2.1.k)) ⟨fun c' => absurd c' cw, fun _ => ⟨hP.2.1.k, _, hP.2.1.r, hP.2.1.k1, i3.1, fun c' => absurd (c'.trans i3.2) cat, fun _ => ?_⟩⟩
    rw [i3.2]
    refine ⟨r1, fun _ => hP.same, fun c' => absurd (r2.trans h0) c'⟩
  · obtain ⟨h1, g1⟩ := PI.day (u := v) (n := v (36 + (a * 6 + b))) (b := k) hX hP.2.2 (fun _ _ => rfl) ek (by omega) c1 l1
    refine ⟨h1.kl, ?_⟩
    have c1b : jch S (jput S1 (x + 16) 0 (nI b)) (x + 16) (x + 19) := c1.trans (jch.put (by omega) (by omega))
    have h3 : XR (jput S1 (x + 16) 0 (nI b)) x sz (upd (vday (v (36 + (a * 6 + b))) v) 3 (nI b)) := by
      refine h1.lear (jch.put (by omega) (by omega)) ?_ (fun j p1 p2 => upd_ne _ (by omega))
      rw [upd_at, upd_ne _ (j := 4) (by omega), upd_ne _ (j := 5) (by omega), upd_ne _ (j := 6) (by omega), upd_ne _ (j := 2) (by omega)]
      exact h1.l.put0.cong (fun i hi => (upd_ne _ (by omega)).symm) (fun i hi => (upd_ne _ (by omega)).symm)
    rw [h1.l.2.2.2.2.2.1]
    have hM := hP.2.1.keep c1b (by omega)
    have j3 := hM.at (i := 3) 3 rfl (by omega)
    obtain ⟨r1, r2⟩ := hM.at _ er (by omega)
    refine U_X11_go (by first | exact hM.k | exact hM1.k | exact hP.2.1.k | exact h.2.2.1.1 | exact h.1.1 | exact g1.1.1 | exact g3.1.1 | exact gm.1.1 | exact h2.1.1 | exact hM2.k | (rw [c1.1.1]; exact hP.2.1.k)) ⟨fun c' => absurd c' cw, fun _ => ⟨hM.k, _, hM.r, hM.k1, j3.1, fun c' => absurd (c'.trans j3.2) cat, fun _ => ?_⟩⟩
    rw [j3.2]
    refine ⟨r1, fun c' => absurd (r2.symm.trans c') h0, fun _ => ?_⟩
    rw [r2]
    refine c_X11_goesBy hM hP.2.2 (fun S2 c2 h2 => ?_)
    refine ⟨h2.k, _, h2.r, h2.k1, (h2.at (i := 3) 3 rfl (by omega)).1, (h2.at (i := 2) 2 rfl (by omega)).1, ?_⟩
    have h4 := h2.puts (i := 3) (w := nI b) 3 rfl (by omega)
    rw [(h4.at (i := 2) 2 rfl (by omega)).2, upd_ne _ (by omega)]
    have c3 : jch (jput S1 (x + 16) 0 (nI b)) (jput S2 (x + 94 + 1) (Int32.toNatClampNeg 3) (nI b)) (x + 95) (x + 96) := c2.trans (jch.put (by omega) (by omega))
    exact ⟨rfl, (jfr.realm c1b (by omega) (by omega)).trans (jfr.row c3), tkOf hP.2.1 h4 (fun j hj => by rw [upd_ne _ (by omega)]; unfold vday vrow; rw [if_neg (by omega), if_neg (by omega), if_neg (by omega)]), sz, _, h3.of c3.1 (h3.2.2.keep c3 (by omega)), h4, g1.put (fun _ => ⟨b, hb, rfl⟩)⟩
end jLight3
