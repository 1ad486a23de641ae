/-! YEARS on both sides -/
theorem j_tele (a x y z : Int32) : a + (y - x) + (z - y) = a + (z - x) := by
  apply Int32.toBitVec_inj.mp
  show a.toBitVec + (y.toBitVec - x.toBitVec) + (z.toBitVec - y.toBitVec) = a.toBitVec + (z.toBitVec - x.toBitVec)
  apply BitVec.eq_of_toNat_eq
  simp only [BitVec.toNat_add, BitVec.toNat_sub]
  have h1 := a.toBitVec.isLt
  have h2 := x.toBitVec.isLt
  have h3 := y.toBitVec.isLt
  have h4 := z.toBitVec.isLt
  omega
theorem j_swap (a : Int32) : a + 1 + 0 = a + 0 + 1 := by rw [Int32.add_zero, Int32.add_zero]
def dst (mf : Nat → Nat → Int32) (i : Nat) (a : Int32) : Int32 := if mf i 6 = 0 then a + 0 else a + 1
theorem dsh (mf : Nat → Nat → Int32) : ∀ (n k : Nat) (a : Int32), jfold (dst mf) n k (a + 1) = jfold (dst mf) n k a + 1
  | 0, _, _ => rfl
  | n + 1, k, a => by
    show jfold (dst mf) n (k + 1) (dst mf k (a + 1)) = jfold (dst mf) n (k + 1) (dst mf k a) + 1
    rw [← dsh mf n (k + 1)]
    congr 1
    unfold dst
    split
    · exact j_swap a
    · rfl
theorem dset {mf : Nat → Nat → Int32} {i : Nat} (h0 : mf i 6 = 0) : ∀ (n k : Nat) (a : Int32), jfold (dst (mset mf i 6 1)) n k a = if k ≤ i ∧ i < k + n then jfold (dst mf) n k a + 1 else jfold (dst mf) n k a
  | 0, k, a => by rw [if_neg (by omega)]; rfl
  | n + 1, k, a => by
    show jfold (dst (mset mf i 6 1)) n (k + 1) (dst (mset mf i 6 1) k a) = _
    rw [dset h0 n (k + 1)]
    by_cases hk : k = i
    · subst hk
      rw [if_neg (by omega), if_pos (by omega)]
      have e1 : dst (mset mf k 6 1) k a = a + 1 := by
        have hm : mset mf k 6 1 k 6 = 1 := by unfold mset; rw [if_pos ⟨rfl, rfl⟩]
        unfold dst; rw [hm, if_neg (by decide)]
      have e2 : dst mf k a = a := by unfold dst; rw [if_pos h0, Int32.add_zero]
      show jfold (dst mf) n (k + 1) (dst (mset mf k 6 1) k a) = jfold (dst mf) n (k + 1) (dst mf k a) + 1
      rw [e1, e2, dsh]
    · have e1 : dst (mset mf i 6 1) k a = dst mf k a := by
        have hm : mset mf i 6 1 k 6 = mf k 6 := by unfold mset; rw [if_neg (fun c => hk c.1)]
        unfold dst; rw [hm]
      rw [e1]
      show (if k + 1 ≤ i ∧ i < k + 1 + n then jfold (dst mf) n (k + 1) (dst mf k a) + 1 else jfold (dst mf) n (k + 1) (dst mf k a)) = if k ≤ i ∧ i < k + (n + 1) then jfold (dst mf) n (k + 1) (dst mf k a) + 1 else jfold (dst mf) n (k + 1) (dst mf k a)
      by_cases hi : k + 1 ≤ i ∧ i < k + 1 + n
      · rw [if_pos hi, if_pos (by omega)]
      · rw [if_neg hi, if_neg (by omega)]
theorem dset5 {mf : Nat → Nat → Int32} {i : Nat} {w : Int32} : dst (mset mf i 5 w) = dst mf := by
  funext k a
  have hm : mset mf i 5 w k 6 = mf k 6 := by unfold mset; rw [if_neg (fun c => absurd c.2 (by omega))]
  unfold dst; rw [hm]
theorem yoneC_dead {sz i : Nat} (hi : i < sz) (p : gst) (a : Int32) : (yoneC i (p, a)).2 = a + (mdead (yoneC i (p, a)).1.2 sz - mdead p.2 sz) := by
  have z : ∀ y : Int32, a = a + (y - y) := fun y => by rw [Int32.sub_self, Int32.add_zero]
  unfold yoneC yone
  simp only
  by_cases c6 : p.2 i 6 = 0
  · rw [if_pos c6, if_pos c6]
    by_cases c5 : p.2 i 5 - 50 ≤ jrem (jushr (jlot p.1) 8) 100
    · rw [if_pos c5, if_pos c5]
      have e : mdead (mset p.2 i 5 (jmin 99 (p.2 i 5 + 1))) sz = mdead p.2 sz := by
        show jfold (dst (mset p.2 i 5 (jmin 99 (p.2 i 5 + 1)))) sz 0 0 = jfold (dst p.2) sz 0 0
        rw [dset5]
      show a = a + (mdead (mset p.2 i 5 (jmin 99 (p.2 i 5 + 1))) sz - mdead p.2 sz)
      rw [e]; exact z _
    · rw [if_neg c5, if_neg c5]
      have e : mdead (mset p.2 i 6 1) sz = mdead p.2 sz + 1 := by
        show jfold (dst (mset p.2 i 6 1)) sz 0 0 = jfold (dst p.2) sz 0 0 + 1
        rw [dset c6, if_pos (by omega)]
      show a + 1 = a + (mdead (mset p.2 i 6 1) sz - mdead p.2 sz)
      rw [e]
      congr 1
      rw [Int32.add_comm]
      exact (Int32.add_sub_cancel 1 _).symm
  · rw [if_neg c6, if_neg c6]; exact z _
theorem yfold_dead {sz : Nat} : ∀ (n i : Nat) (p : gst) (a : Int32), i + n ≤ sz → (jfold yoneC n i (p, a)).2 = a + (mdead (jfold yoneC n i (p, a)).1.2 sz - mdead p.2 sz)
  | 0, i, p, a, _ => by
    show a = a + (mdead p.2 sz - mdead p.2 sz)
    rw [Int32.sub_self, Int32.add_zero]
  | n + 1, i, p, a, h => by
    have e := yoneC_dead (sz := sz) (i := i) (by omega) p a
    have r := yfold_dead (sz := sz) n (i + 1) (yoneC i (p, a)).1 (yoneC i (p, a)).2 (by omega)
    show (jfold yoneC n (i + 1) (yoneC i (p, a))).2 = a + (mdead (jfold yoneC n (i + 1) (yoneC i (p, a))).1.2 sz - mdead p.2 sz)
    have r2 : (jfold yoneC n (i + 1) (yoneC i (p, a))).2 = (yoneC i (p, a)).2 + (mdead (jfold yoneC n (i + 1) (yoneC i (p, a))).1.2 sz - mdead (yoneC i (p, a)).1.2 sz) := r
    rw [r2, e]
    exact j_tele _ _ _ _
theorem yfold_fst : ∀ (n i : Nat) (p : gst) (a : Int32), (jfold yoneC n i (p, a)).1 = jfold yone n i p
  | 0, _, _, _ => rfl
  | n + 1, i, p, a => yfold_fst n (i + 1) (yone i p) (yoneC i (p, a)).2
section jYears
variable {E : jEnv} {d : Nat} {S : jM} {x m sz : Nat} {v : Nat → Int32}
theorem c_X11_year {Q : Int32 → jM → Prop} {p : gst} (h0 : v 0 = nI sz) (hz : sz ≤ 9) (hM : MR S m (vg v p)) (hg : Rg sz (vg v p)) (h : ∀ S', jch S S' (m + 1) (m + 2) → MR S' m (vg v (yyear sz p)) → Rg sz (vg v (yyear sz p)) → Q (0 + (mdead (yyear sz p).2 sz - mdead p.2 sz)) S') : jFi E mX11_year (d + 2) 0 0 [.ref m] S Q := by
  refine T_X11_year (l_X11_year h0 hz sz 0 p 0 S (by omega) hM hg (fun S' c' h' g' => ?_))
  rw [yfold_dead (sz := sz) sz 0 p 0 (by omega)]
  rw [yfold_fst] at h' g' ⊢
  exact h S' c' h' g'
theorem l_X11_years {Q : Int32 → jM → Prop} {n : Nat} (hn : n < 1000) (h0 : v 0 = nI sz) (hz : sz ≤ 9) : ∀ (c j : Nat) (p : gst) (a : Int32) (S : jM), j + c = n → MR S m (vg v p) → Rg sz (vg v p) → (∀ S', jch S S' (m + 1) (m + 2) → MR S' m (vg v (yyears sz c p)) → Rg sz (vg v (yyears sz c p)) → Q (a + (mdead (yyears sz c p).2 sz - mdead p.2 sz)) S') → L_X11_years_19 E (d + 2) Q m (nI n) a (nI j) S := by
  intro c
  induction c with
  | zero =>
    intro j p a S hj hM hg h
    obtain rfl : j = n := by omega
    have h1 := h S jch.rfl hM hg
    have e : a + (mdead (yyears sz 0 p).2 sz - mdead p.2 sz) = a := by
      show a + (mdead p.2 sz - mdead p.2 sz) = a
      rw [Int32.sub_self, Int32.add_zero]
    rw [e] at h1
    exact T_X11_years_19 ⟨fun _ => h1, fun cc => absurd Int32.le_rfl cc⟩
  | succ c ih =>
    intro j p a S hj hM hg h
    refine T_X11_years_19 ⟨fun cc => absurd cc ?_, fun _ => ⟨hM.k, c_X11_year h0 hz hM hg (fun S1 c1 h1 g1 => ?_)⟩⟩
    · rw [Int32.le_iff_toInt_le, nI_toInt (by omega), nI_toInt (by omega)]; omega
    · rw [nI_1]
      refine ih (j + 1) (yyear sz p) _ S1 (by omega) h1 g1 (fun S' c' h' g' => ?_)
      have h2 := h S' (c1.trans c') h' g'
      rw [Int32.zero_add, j_tele]
      exact h2
theorem vg_self (j : Nat) : vg v (v 8, mfv v) j = v j := by
  unfold vg
  by_cases h8 : j = 8
  · subst h8; rw [if_pos rfl]
  · rw [if_neg h8]
    by_cases hr : 72 ≤ j ∧ j < 135
    · rw [if_pos hr]
      show v (72 + 7 * ((j - 72) / 7) + (j - 72) % 7) = v j
      congr 1; omega
    · rw [if_neg hr]
theorem P_years {w : Int32} (hP : PI S x sz v) : jFi E mX10_years (d + 4) 0 0 [.ref x, .int w] S (fun r S1 => jFm E mX11_years (d + 3) (x + 94) [.int w] S1 (fun r' S2 => PO S x r r' S2)) := by
  have hX := hP.1
  have hz := hX.sz9
  rcases jisin_ab w (lo := 1) (hi := 60) 1 60 rfl rfl (by omega) (by omega) with ⟨n, n1, n9, rfl, hj⟩ | ⟨hw, hj⟩
  · refine T_X10_years ⟨fun c => absurd c (by rw [show (1 : Int32) = nI 1 from rfl, Int32.lt_iff_toInt_lt, nI_toInt (by omega), nI_toInt (by omega)]; omega), fun _ => ⟨fun _ => ⟨hX.1, x + 1, hX.2.1, hX.k3, x + 2, hX.r0, hX.g.1.1, c_X0_countDead hX.g hz ⟨hX.1, x + 1, hX.2.1, hX.k3, x + 2, hX.r0, hX.g.1.1, c_X0_liveYears hX.g hz (by omega) (fun S1 c1 g1 => ?_)⟩⟩, fun c => absurd (by rw [show (60 : Int32) = nI 60 from rfl, Int32.le_iff_toInt_le, nI_toInt (by omega), nI_toInt (by omega)]; omega) c⟩⟩
    have h1 : XR S1 x sz (vg v (yyears sz n (v 8, mfv v))) := by
      refine hX.of c1.1 (hX.2.2.guild c1 ?_ hz (by rw [vg_o _ (by omega) (by omega)]; exact hX.v0) (fun j p0 p8 pj => vg_o _ p8 pj))
      rw [vg_8]
      exact g1.cong (fun i hi f hf => (vg_m _ hi hf).symm)
    refine ⟨h1.1, x + 1, h1.2.1, h1.k3, x + 2, h1.r0, h1.g.1.1, c_X0_countDead g1 hz ?_⟩
    have hM := hP.2.1.keep c1 (by omega)
    refine U_X11_years (by first | exact hM.k | exact hM1.k | exact hP.2.1.k | exact h.2.2.1.1 | exact h.1.1 | exact g1.1.1 | exact g3.1.1 | exact gm.1.1 | exact h2.1.1 | exact hM2.k | (rw [c1.1.1]; exact hP.2.1.k)) ⟨fun c => absurd (hj.symm.trans c) (by decide), fun _ => l_X11_years (n := n) (v := v) (by omega) hX.v0 hz n 0 (v 8, mfv v) 0 S1 (by omega) ⟨hM.1, fun j => (hM.2 j).trans (vg_self j).symm⟩ (fun j hj hb => by rw [vg_self]; exact hP.2.2 j hj hb) (fun S2 c2 h2 g2 => ?_)⟩
    exact ⟨(Int32.zero_add _).symm, (jfr.realm c1 (by omega) (by omega)).trans (jfr.row c2), tkOf hP.2.1 h2 (fun j hj => vg_o _ (by omega) (by omega)), sz, _, h1.of c2.1 (h1.2.2.keep c2 (by omega)), h2, g2⟩
  · have bad : jFm E mX11_years (d + 3) (x + 94) [.int w] S (fun r' S2 => PO S x kBAD r' S2) := U_X11_years (by first | exact hM.k | exact hM1.k | exact hP.2.1.k | exact h.2.2.1.1 | exact h.1.1 | exact g1.1.1 | exact g3.1.1 | exact gm.1.1 | exact h2.1.1 | exact hM2.k | (rw [c1.1.1]; exact hP.2.1.k)) ⟨fun _ => hP.same, fun c => absurd hj c⟩
    refine T_X10_years ⟨fun _ => bad, fun c1 => ⟨fun c2 => ?_, fun _ => bad⟩⟩
    exfalso
    rw [show (1 : Int32) = nI 1 from rfl, Int32.lt_iff_toInt_lt, nI_toInt (by omega)] at c1
    obtain ⟨j, hj, e⟩ := jofI (x := w) (n := 61) (by omega) (by rw [Int32.le_iff_toInt_le]; show (0 : Int) ≤ _; omega) (by rw [show (60 : Int32) = nI 60 from rfl, Int32.le_iff_toInt_le, nI_toInt (by omega)] at c2; rw [Int32.lt_iff_toInt_lt, nI_toInt (by omega)]; omega)
    rw [e, nI_toInt (by omega)] at c1
    exact hw j (by omega) (by omega) e
end jYears
