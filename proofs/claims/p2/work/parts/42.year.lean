/-! A YEAR, by the reference -/
/-- the row with lot and masters otherwise -/
def vg (v : Nat → Int32) (p : gst) : Nat → Int32 := fun j => if j = 8 then p.1 else if 72 ≤ j ∧ j < 135 then p.2 ((j - 72) / 7) ((j - 72) % 7) else v j
/-- a year with the dead counted -/
def yoneC (i : Nat) (q : gst × Int32) : gst × Int32 := (yone i q.1, if q.1.2 i 6 = 0 then (if q.1.2 i 5 - 50 ≤ jrem (jushr (jlot q.1.1) 8) 100 then q.2 else q.2 + 1) else q.2)
section jYear
variable {E : jEnv} {d : Nat} {S : jM} {x m sz : Nat} {v : Nat → Int32}
theorem vg_8 (p : gst) : vg v p 8 = p.1 := by unfold vg; rw [if_pos rfl]
theorem vg_m (p : gst) {i f : Nat} (hi : i < 9) (hf : f < 7) : vg v p (72 + 7 * i + f) = p.2 i f := by
  unfold vg
  rw [if_neg (by omega), if_pos (by omega), show (72 + 7 * i + f - 72) / 7 = i by omega, show (72 + 7 * i + f - 72) % 7 = f by omega]
theorem vg_o (p : gst) {j : Nat} (h8 : j ≠ 8) (h : j < 72 ∨ 135 ≤ j) : vg v p j = v j := by
  unfold vg
  rw [if_neg h8, if_neg (by omega)]
theorem vg_set (p : gst) (z w : Int32) {i f : Nat} (hi : i < 9) (hf : f < 7) (j : Nat) : upd (upd (vg v p) 8 z) (72 + 7 * i + f) w j = vg v (z, mset p.2 i f w) j := by
  by_cases h1 : j = 72 + 7 * i + f
  · subst h1; rw [upd_at, vg_m _ hi hf]; unfold mset; show w = if i = i ∧ f = f then w else _; rw [if_pos ⟨rfl, rfl⟩]
  · rw [upd_ne _ h1]
    by_cases h8 : j = 8
    · subst h8; rw [upd_at, vg_8]
    · rw [upd_ne _ h8]
      unfold vg mset
      rw [if_neg h8, if_neg h8]
      by_cases hr : 72 ≤ j ∧ j < 135
      · rw [if_pos hr, if_pos hr]
        show _ = if (j - 72) / 7 = i ∧ (j - 72) % 7 = f then w else _
        rw [if_neg (by omega)]
      · rw [if_neg hr, if_neg hr]
theorem jage {k : Nat} (hk : k < 100) : jclamp (nI k + 1) 0 99 = jmin 99 (nI k + 1) ∧ ∃ n, n < 100 ∧ jmin 99 (nI k + 1) = nI n := by
  have e : ∀ k : Fin 100, jclamp (nI k.val + 1) 0 99 = jmin 99 (nI k.val + 1) ∧ ∃ n : Fin 100, jmin 99 (nI k.val + 1) = nI n.val := by decide +kernel
  obtain ⟨h1, n, h2⟩ := e ⟨k, hk⟩
  exact ⟨h1, n.val, n.isLt, h2⟩
theorem l_X11_year {Q : Int32 → jM → Prop} (h0 : v 0 = nI sz) (hz : sz ≤ 9) : ∀ (n i : Nat) (p : gst) (a : Int32) (S : jM), i + n = sz → MR S m (vg v p) → Rg sz (vg v p) → (∀ S', jch S S' (m + 1) (m + 2) → MR S' m (vg v (jfold yoneC n i (p, a)).1) → Rg sz (vg v (jfold yoneC n i (p, a)).1) → Q (jfold yoneC n i (p, a)).2 S') → L_X11_year_4 E (d + 1) Q m a (nI i) S := by
  intro n
  induction n with
  | zero =>
    intro i p a S hi hM hg h
    have i0 := hM.at (i := 0) 0 rfl (by omega)
    rw [vg_o p (by omega) (by omega), h0] at i0
    obtain rfl : i = sz := by omega
    exact T_X11_year_4 ⟨hM.k, _, hM.r, hM.k1, i0.1, fun _ => h S jch.rfl hM hg, fun cc => absurd (by rw [i0.2]; exact Int32.le_rfl) cc⟩
  | succ n ih =>
    intro i p a S hi hM hg h
    have i0 := hM.at (i := 0) 0 rfl (by omega)
    rw [vg_o p (by omega) (by omega), h0] at i0
    have b5 : (72 + 7 * nI i + 5 : Int32) = nI (72 + 7 * i + 5) := nI_mst i 5
    have b6 : (72 + 7 * nI i + 6 : Int32) = nI (72 + 7 * i + 6) := nI_mst i 6
    obtain ⟨d1, d2⟩ := hM.at _ b6 (by omega)
    rw [vg_m p (by omega) (by omega)] at d2
    have ihn := ih (i + 1)
    have hstep : jfold yoneC (n + 1) i (p, a) = jfold yoneC n (i + 1) (yoneC i (p, a)) := rfl
    rw [hstep] at h
    refine T_X11_year_4 ⟨hM.k, _, hM.r, hM.k1, i0.1, fun cc => absurd cc ?_, fun _ => ⟨d1, ?_⟩⟩
    · rw [i0.2, Int32.le_iff_toInt_le, nI_toInt (by omega), nI_toInt (by omega)]; omega
    · rw [d2, nI_1]
      refine ⟨fun c6 => c_X11_drawn hM (fun S1 c1 h1 => ?_), fun c6 => ?_⟩
      · rw [vg_8] at h1 ⊢
        obtain ⟨a1, a2⟩ := h1.at _ b5 (by omega)
        rw [upd_ne _ (by omega), vg_m p (by omega) (by omega)] at a2
        obtain ⟨k, hk, ek⟩ := hg (72 + 7 * i + 5) (by omega) (by rw [rgb_m i 5 (by omega)]; decide)
        rw [vg_m p (by omega) (by omega)] at ek
        rw [rgb_m i 5 (by omega)] at hk
        have hk : k < 100 := hk
        obtain ⟨g1, g2⟩ := jage hk
        rw [← ek] at g1 g2
        refine ⟨h1.k, _, h1.r, h1.k1, a1, ?_⟩
        rw [a2, g1]
        refine ⟨fun c5 => ?_, fun c5 => ⟨(h1.at _ b6 (by omega)).1, ?_⟩⟩
        · have ey : yoneC i (p, a) = ((jlot p.1, mset p.2 i 5 (jmin 99 (p.2 i 5 + 1))), a) := by unfold yoneC yone; simp only [if_pos c6, if_pos c5]
          have h2 := h1.puts (w := jmin 99 (p.2 i 5 + 1)) _ b5 (by omega)
          have hM2 : MR (jput S1 (m + 1) (Int32.toNatClampNeg (72 + 7 * nI i + 5)) (jmin 99 (p.2 i 5 + 1))) m (vg v (jlot p.1, mset p.2 i 5 (jmin 99 (p.2 i 5 + 1)))) := ⟨h2.1, fun j => (h2.2 j).trans (vg_set p _ _ (by omega) (by omega) j)⟩
          have hg2 : Rg sz (vg v (jlot p.1, mset p.2 i 5 (jmin 99 (p.2 i 5 + 1)))) := by
            intro j hj hb
            rw [← vg_set p _ _ (by omega) (by omega) j]
            exact ((hg.put (n := 8) (w := jlot p.1) (fun c => absurd rfl c)).put (n := 72 + 7 * i + 5) (w := jmin 99 (p.2 i 5 + 1)) (fun _ => by obtain ⟨q, hq, eq⟩ := g2; exact ⟨q, by rw [rgb_m i 5 (by omega)]; exact hq, eq⟩)) j hj hb
          rw [ey] at h
          exact ihn _ a _ (by omega) hM2 hg2 (fun S' c' h' g' => h S' ((c1.trans (jch.put (by omega) (by omega))).trans c') h' g')
        · have ey : yoneC i (p, a) = ((jlot p.1, mset p.2 i 6 1), a + 1) := by unfold yoneC yone; simp only [if_pos c6, if_neg c5]
          have h2 := h1.puts (w := 1) _ b6 (by omega)
          have hM2 : MR (jput S1 (m + 1) (Int32.toNatClampNeg (72 + 7 * nI i + 6)) 1) m (vg v (jlot p.1, mset p.2 i 6 1)) := ⟨h2.1, fun j => (h2.2 j).trans (vg_set p _ _ (by omega) (by omega) j)⟩
          have hg2 : Rg sz (vg v (jlot p.1, mset p.2 i 6 1)) := by
            intro j hj hb
            rw [← vg_set p _ _ (by omega) (by omega) j]
            exact ((hg.put (n := 8) (w := jlot p.1) (fun c => absurd rfl c)).put (n := 72 + 7 * i + 6) (w := 1) (fun _ => ⟨1, by rw [rgb_m i 6 (by omega)]; decide, rfl⟩)) j hj hb
          rw [ey] at h
          exact ihn _ (a + 1) _ (by omega) hM2 hg2 (fun S' c' h' g' => h S' ((c1.trans (jch.put (by omega) (by omega))).trans c') h' g')
      · have ey : yoneC i (p, a) = (p, a) := by unfold yoneC yone; simp only [if_neg c6]
        rw [ey] at h
        exact ihn p a S (by omega) hM hg h
end jYear
