/-! MASTER on both sides -/
section jLight7
variable {E : jEnv} {d : Nat} {S : jM} {x m sz : Nat} {v : Nat → Int32}
theorem c_X11_comes {Q : jM → Prop} {k t g f : Int32} (hM : MR S m v) (h0 : v 0 = nI sz) (hz : sz < 9) (h : ∀ S', jch S S' (m + 1) (m + 2) → MR S' m (vjoin v sz (mnew k t g f)) → Q S') : jFv E mX11_comes d 0 0 [.ref m, .int k, .int t, .int g, .int f] S Q := by
  have i0 := hM.at (i := 0) 0 rfl (by omega)
  have b0 : (72 + 7 * nI sz : Int32) = nI (72 + 7 * sz) := by
    rw [show (72 : Int32) = nI 72 from rfl, show (7 : Int32) = nI 7 from rfl, pk_mul, nI_add]
  have b1 : (72 + 7 * nI sz + 1 : Int32) = nI (72 + 7 * sz + 1) := nI_mst sz 1
  have b2 : (72 + 7 * nI sz + 2 : Int32) = nI (72 + 7 * sz + 2) := nI_mst sz 2
  have b3 : (72 + 7 * nI sz + 3 : Int32) = nI (72 + 7 * sz + 3) := nI_mst sz 3
  have b4 : (72 + 7 * nI sz + 4 : Int32) = nI (72 + 7 * sz + 4) := nI_mst sz 4
  have b5 : (72 + 7 * nI sz + 5 : Int32) = nI (72 + 7 * sz + 5) := nI_mst sz 5
  have b6 : (72 + 7 * nI sz + 6 : Int32) = nI (72 + 7 * sz + 6) := nI_mst sz 6
  refine T_X11_comes ⟨hM.k, m + 1, hM.r, hM.k1, i0.1, ?_⟩
  rw [i0.2, h0]
  have h1 := hM.puts (w := k) _ b0 (by omega)
  have h2 := h1.puts (w := t) _ b1 (by omega)
  have h3 := h2.puts (w := g) _ b2 (by omega)
  have h4 := h3.puts (w := 0) _ b3 (by omega)
  have h5 := h4.puts (w := f) _ b4 (by omega)
  have h6 := h5.puts (w := 40) _ b5 (by omega)
  have h7 := h6.puts (w := 0) _ b6 (by omega)
  have j0 := (h7.at (i := 0) 0 rfl (by omega)).2
  have h8 := h7.puts (i := 0) (w := nI sz + 1) 0 rfl (by omega)
  refine ⟨(hM.at _ b0 (by omega)).1, (hM.at _ b1 (by omega)).1, (hM.at _ b2 (by omega)).1, (hM.at _ b3 (by omega)).1, (hM.at _ b4 (by omega)).1, (hM.at _ b5 (by omega)).1, (hM.at _ b6 (by omega)).1, ?_⟩
  rw [j0, upd_ne _ (by omega), upd_ne _ (by omega), upd_ne _ (by omega), upd_ne _ (by omega), upd_ne _ (by omega), upd_ne _ (by omega), upd_ne _ (by omega), h0]
  refine h _ ?_ ⟨h8.1, fun j => (h8.2 j).trans ?_⟩
  · exact (((((((jch.put (by omega) (by omega)).trans (jch.put (by omega) (by omega))).trans (jch.put (by omega) (by omega))).trans (jch.put (by omega) (by omega))).trans (jch.put (by omega) (by omega))).trans (jch.put (by omega) (by omega))).trans (jch.put (by omega) (by omega))).trans (jch.put (by omega) (by omega))
  · unfold vjoin
    by_cases p0 : j = 0
    · subst p0; rw [upd_at, if_pos rfl, nI_1]
    · rw [upd_ne _ p0, if_neg p0]
      by_cases pr : 72 + 7 * sz ≤ j ∧ j < 72 + 7 * sz + 7
      · rw [if_pos pr]
        rcases (show j = 72 + 7 * sz ∨ j = 72 + 7 * sz + 1 ∨ j = 72 + 7 * sz + 2 ∨ j = 72 + 7 * sz + 3 ∨ j = 72 + 7 * sz + 4 ∨ j = 72 + 7 * sz + 5 ∨ j = 72 + 7 * sz + 6 by omega) with e | e | e | e | e | e | e
        · rw [show j - (72 + 7 * sz) = 0 by omega, upd_ne _ (by omega), upd_ne _ (by omega), upd_ne _ (by omega), upd_ne _ (by omega), upd_ne _ (by omega), upd_ne _ (by omega), e, upd_at]; rfl
        · rw [show j - (72 + 7 * sz) = 1 by omega, upd_ne _ (by omega), upd_ne _ (by omega), upd_ne _ (by omega), upd_ne _ (by omega), upd_ne _ (by omega), e, upd_at]; rfl
        · rw [show j - (72 + 7 * sz) = 2 by omega, upd_ne _ (by omega), upd_ne _ (by omega), upd_ne _ (by omega), upd_ne _ (by omega), e, upd_at]; rfl
        · rw [show j - (72 + 7 * sz) = 3 by omega, upd_ne _ (by omega), upd_ne _ (by omega), upd_ne _ (by omega), e, upd_at]; rfl
        · rw [show j - (72 + 7 * sz) = 4 by omega, upd_ne _ (by omega), upd_ne _ (by omega), e, upd_at]; rfl
        · rw [show j - (72 + 7 * sz) = 5 by omega, upd_ne _ (by omega), e, upd_at]; rfl
        · rw [show j - (72 + 7 * sz) = 6 by omega, e, upd_at]; rfl
      · rw [if_neg pr, upd_ne _ (by omega), upd_ne _ (by omega), upd_ne _ (by omega), upd_ne _ (by omega), upd_ne _ (by omega), upd_ne _ (by omega), upd_ne _ (by omega)]
theorem vjoin_0 {w : Nat → Int32} : vjoin v sz w 0 = nI (sz + 1) := by unfold vjoin; rw [if_pos rfl]
/-- ranges when a master comes -/
theorem Rg.join {k t g f : Nat} (h : Rg sz v) (hk : k < 6) (ht : t < 6) (hg : g < 10) (hf : f < 100) : Rg (sz + 1) (vjoin v sz (mnew (nI k) (nI t) (nI g) (nI f))) := by
  intro j hj hb
  unfold vjoin
  by_cases p0 : j = 0
  · subst p0; exact absurd rfl hb
  · rw [if_neg p0]
    by_cases pr : 72 + 7 * sz ≤ j ∧ j < 72 + 7 * sz + 7
    · rw [if_pos pr]
      obtain ⟨i, hi, rfl⟩ : ∃ i, i < 7 ∧ j = 72 + 7 * sz + i := ⟨j - (72 + 7 * sz), by omega, by omega⟩
      rw [rgb_m sz i hi, show 72 + 7 * sz + i - (72 + 7 * sz) = i by omega]
      rcases (show i = 0 ∨ i = 1 ∨ i = 2 ∨ i = 3 ∨ i = 4 ∨ i = 5 ∨ i = 6 by omega) with rfl | rfl | rfl | rfl | rfl | rfl | rfl
      · exact ⟨k, hk, rfl⟩
      · exact ⟨t, ht, rfl⟩
      · exact ⟨g, hg, rfl⟩
      · exact ⟨0, by decide, rfl⟩
      · exact ⟨f, hf, rfl⟩
      · exact ⟨40, by decide, rfl⟩
      · exact ⟨0, by decide, rfl⟩
    · rw [if_neg pr]
      exact h j (by omega) hb
theorem P_master {k t g f : Int32} (hP : PI S x sz v) : jFi E mX10_master (d + 2) 0 0 [.ref x, .int k, .int t, .int g, .int f] S (fun r S1 => jFm E mX11_master (d + 1) (x + 94) [.int k, .int t, .int g, .int f] S1 (fun r' S2 => PO S x r r' S2)) := by
  have hX := hP.1
  have hM := hP.2.1
  have hz := hX.sz9
  have ek : jisin k.toInt64 0 5 = jwi k 6 := jisin_wi k 6 5 rfl (jle_lt (by decide))
  have ef : jisin f.toInt64 0 99 = jwi f 100 := jisin_wi f 100 99 rfl (jle_lt (by decide))
  have i0 := hM.at (i := 0) 0 rfl (by omega)
  refine C_master hX (fun c => ?_) (fun c1 c2 c3 c4 h9 => ?_) (fun c1 c2 c3 c4 h9 S1 ch1 h1 => ?_)
  · refine U_X11_master (by first | exact hM.k | exact hM1.k | exact hP.2.1.k | exact h.2.2.1.1 | exact h.1.1 | exact g1.1.1 | exact g3.1.1 | exact gm.1.1 | exact h2.1.1 | exact hM2.k | (rw [c1.1.1]; exact hP.2.1.k)) ⟨fun _ => hP.same, fun c1 => ⟨fun _ => hP.same, fun c2 => ⟨fun _ => hP.same, fun c3 => ⟨fun _ => hP.same, fun c4 => ?_⟩⟩⟩⟩
    rcases c with c | c | c | c
    · exact absurd (ek.trans c) c1
    · exact absurd c c2
    · exact absurd c c3
    · exact absurd (ef.trans c) c4
  · refine U_X11_master (by first | exact hM.k | exact hM1.k | exact hP.2.1.k | exact h.2.2.1.1 | exact h.1.1 | exact g1.1.1 | exact g3.1.1 | exact gm.1.1 | exact h2.1.1 | exact hM2.k | (rw [c1.1.1]; exact hP.2.1.k)) ⟨fun c => absurd (ek.symm.trans c) c1, fun _ => ⟨fun c => absurd c c2, fun _ => ⟨fun c => absurd c c3, fun _ => ⟨fun c => absurd (ef.symm.trans c) c4, fun _ => ⟨hM.k, _, hM.r, hM.k1, i0.1, fun _ => hP.same, fun c => absurd (i0.2.trans (hX.v0.trans (by rw [h9]; rfl))) c⟩⟩⟩⟩⟩
  · have hM1 := hM.keep ch1 (by omega)
    have j0 := hM1.at (i := 0) 0 rfl (by omega)
    refine U_X11_master (by first | exact hM.k | exact hM1.k | exact hP.2.1.k | exact h.2.2.1.1 | exact h.1.1 | exact g1.1.1 | exact g3.1.1 | exact gm.1.1 | exact h2.1.1 | exact hM2.k | (rw [c1.1.1]; exact hP.2.1.k)) ⟨fun c => absurd (ek.symm.trans c) c1, fun _ => ⟨fun c => absurd c c2, fun _ => ⟨fun c => absurd c c3, fun _ => ⟨fun c => absurd (ef.symm.trans c) c4, fun _ => ⟨hM1.k, _, hM1.r, hM1.k1, j0.1, fun c => ?_, fun _ => c_X11_comes hM1 hX.v0 h9 (fun S2 ch2 h2 => ?_)⟩⟩⟩⟩⟩
    · rw [j0.2, hX.v0] at c
      exact absurd (nI_inj (by omega) (by omega) (show nI sz = nI 9 from c)) (by omega)
    · have l0 := h2.at (i := 0) 0 rfl (by omega)
      refine ⟨h2.k, _, h2.r, h2.k1, l0.1, ?_⟩
      rw [l0.2, vjoin_0, nI_pred]
      obtain ⟨k', hk, rfl⟩ := jist_of c1
      obtain ⟨t', ht, rfl⟩ := jist_of c2
      obtain ⟨g', hg, rfl⟩ := jisg_of c3
      obtain ⟨f', hf, rfl⟩ : ∃ j, j < 100 ∧ f = nI j := by
        rcases jwi_cases f (b := 100) 100 rfl (by omega) with ⟨j, hj, e, _⟩ | ⟨_, e⟩
        · exact ⟨j, hj, e⟩
        · exact absurd e c4
      exact ⟨rfl, (jfr.realm ch1 (by omega) (by omega)).trans (jfr.row ch2), tkOf hP.2.1 h2 (fun j hj => by unfold vjoin; rw [if_neg (by omega), if_neg (by omega)]), sz + 1, _, h1.of ch2.1 (h1.2.2.keep ch2 (by omega)), h2, hP.2.2.join hk ht hg hf⟩
end jLight7
