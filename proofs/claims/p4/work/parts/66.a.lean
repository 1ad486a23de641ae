section
/-! SHEETS on both sides, by any state -/
def SH1 (S : jM) (x i : Nat) : Prop := ∃ so n, n ≤ 24 ∧ (so = -1 ∨ so = 0 ∨ so = 1) ∧ ji S (x + 66 + 2 * i) 0 = so ∧ ji S (x + 98) i = so ∧ ji S (x + 66 + 2 * i) 1 = nI n ∧ ji S (x + 99) i = nI n ∧ ∀ j, j < 24 → ji S (x + 67 + 2 * i) j = ji S (x + 100) (24 * i + j) ∧ jpl (ji S (x + 67 + 2 * i) j)
section jSheets
variable {E : jEnv} {d : Nat} {S S' : jM} {x sz M : Nat} {v : Nat → Int32}
theorem ML.r1 (h : ML S (x + 94)) : jr S (x + 94) 1 = some (x + 96) ∧ jk S (x + 96) = 12 ∧ jl S (x + 96) = 3135 := h.row 1 3135 (f := 1) rfl
theorem ML.r2 (h : ML S (x + 94)) : jr S (x + 94) 2 = some (x + 97) ∧ jk S (x + 97) = 12 ∧ jl S (x + 97) = 3135 := h.row 2 3135 (f := 2) rfl
theorem ML.r4 (h : ML S (x + 94)) : jr S (x + 94) 4 = some (x + 98) ∧ jk S (x + 98) = 12 ∧ jl S (x + 98) = 4 := h.row 3 4 (f := 4) rfl
theorem ML.r5 (h : ML S (x + 94)) : jr S (x + 94) 5 = some (x + 99) ∧ jk S (x + 99) = 12 ∧ jl S (x + 99) = 4 := h.row 4 4 (f := 5) rfl
theorem ML.r6 (h : ML S (x + 94)) : jr S (x + 94) 6 = some (x + 100) ∧ jk S (x + 100) = 12 ∧ jl S (x + 100) = 96 := h.row 5 96 (f := 6) rfl
theorem ML.r7 (h : ML S (x + 94)) : jr S (x + 94) 7 = some (x + 101) ∧ jk S (x + 101) = 12 ∧ jl S (x + 101) = 5 := h.row 6 5 (f := 7) rfl
theorem ML.r8 (h : ML S (x + 94)) : jr S (x + 94) 8 = some (x + 102) ∧ jk S (x + 102) = 12 ∧ jl S (x + 102) = 5 := h.row 7 5 (f := 8) rfl
theorem ML.r9 (h : ML S (x + 94)) : jr S (x + 94) 9 = some (x + 103) ∧ jk S (x + 103) = 12 ∧ jl S (x + 103) = 5 := h.row 8 5 (f := 9) rfl
theorem ML.r10 (h : ML S (x + 94)) : jr S (x + 94) 10 = some (x + 104) ∧ jk S (x + 104) = 12 ∧ jl S (x + 104) = 5 := h.row 9 5 (f := 10) rfl
theorem ML.r11 (h : ML S (x + 94)) : jr S (x + 94) 11 = some (x + 105) ∧ jk S (x + 105) = 12 ∧ jl S (x + 105) = 120 := h.row 10 120 (f := 11) rfl
theorem ML.r18 (h : ML S (x + 94)) : jr S (x + 94) 18 = some (x + 109) ∧ jk S (x + 109) = 12 ∧ jl S (x + 109) = 96 := h.row 14 96 (f := 18) rfl
theorem ML.r32 (h : ML S (x + 94)) : jr S (x + 94) 32 = some (x + 112) ∧ jk S (x + 112) = 12 ∧ jl S (x + 112) = 24 := h.row 17 24 (f := 32) rfl
theorem ML.r33 (h : ML S (x + 94)) : jr S (x + 94) 33 = some (x + 113) ∧ jk S (x + 113) = 12 ∧ jl S (x + 113) = 60 := h.row 18 60 (f := 33) rfl
theorem ML.r35 (h : ML S (x + 94)) : jr S (x + 94) 35 = some (x + 114) ∧ jk S (x + 114) = 12 ∧ jl S (x + 114) = 60 := h.row 19 60 (f := 35) rfl
/-! the rest's pieces stay where nothing of theirs is written -/
theorem IMG.keep (h : IMG S x M) (hs : jsame S S') (hx : ji S' x 2 = ji S x 2) (hm : ji S' (x + 94) 3 = ji S (x + 94) 3) (hi : ∀ y, ((x + 21 ≤ y ∧ y < x + 41) ∨ y = x + 96 ∨ x + 115 ≤ y) → ji S' y = ji S y) : IMG S' x M := by
  obtain ⟨sz, v, i1, i2, i3⟩ := h
  obtain ⟨k, l, rr, -⟩ := id hs
  refine ⟨sz, v, i1.grow (fun y p q => ⟨by rw [k], by rw [l], hi y (by omega), by rw [rr]⟩), fun t ht b hb => by rw [rr] at hb; rw [k]; exact i2 t ht b hb, ?_⟩
  rw [hx, hm]
  rcases i3 with i3 | ⟨a1, a2, a3, a4, a5⟩
  · exact Or.inl i3
  · exact Or.inr ⟨a1, a2, a3, fun j hj => by rw [hi (x + 96) (by omega)]; exact a4 j hj, a5.same hs (fun y p _ => hi y (by omega)) (fun _ _ _ => rfl)⟩
theorem SH1.keep {i : Nat} (h : SH1 S x i) (h1 : ji S' (x + 66 + 2 * i) = ji S (x + 66 + 2 * i)) (h2 : ji S' (x + 67 + 2 * i) = ji S (x + 67 + 2 * i)) (h3 : ji S' (x + 98) i = ji S (x + 98) i) (h4 : ji S' (x + 99) i = ji S (x + 99) i) (h5 : ∀ j, j < 24 → ji S' (x + 100) (24 * i + j) = ji S (x + 100) (24 * i + j)) : SH1 S' x i := by
  obtain ⟨so, n, a1, a2, a3, a4, a5, a6, a7⟩ := h
  refine ⟨so, n, a1, a2, by rw [h1]; exact a3, by rw [h3]; exact a4, by rw [h1]; exact a5, by rw [h4]; exact a6, fun j hj => ?_⟩
  rw [h2, h5 j hj]; exact a7 j hj
theorem SHR.keep (h : SHR S x) (hi : ∀ y, ((x + 66 ≤ y ∧ y < x + 74) ∨ (x + 98 ≤ y ∧ y ≤ x + 100)) → ji S' y = ji S y) : SHR S' x := fun i h4 =>
  SH1.keep (h i h4) (hi _ (by omega)) (hi _ (by omega)) (by rw [hi (x + 98) (by omega)]) (by rw [hi (x + 99) (by omega)]) (fun j _ => by rw [hi (x + 100) (by omega)])
theorem SLR.keep (h : SLR S x) (hi : ∀ y, ((x + 74 ≤ y ∧ y < x + 94) ∨ (x + 101 ≤ y ∧ y ≤ x + 105)) → ji S' y = ji S y) : SLR S' x := by
  intro i h5
  rw [hi (x + 74 + 4 * i) (by omega), hi (x + 75 + 4 * i) (by omega), hi (x + 76 + 4 * i) (by omega), hi (x + 77 + 4 * i) (by omega), hi (x + 101) (by omega), hi (x + 102) (by omega), hi (x + 103) (by omega), hi (x + 104) (by omega), hi (x + 105) (by omega)]
  exact h i h5
theorem WTR.keep (h : WTR S x) (h1 : ji S' x 9 = ji S x 9) (h2 : ji S' (x + 94) 34 = ji S (x + 94) 34) (h3 : ji S' (x + 65) = ji S (x + 65)) (h4 : ji S' (x + 113) = ji S (x + 113)) : WTR S' x := by
  unfold WTR
  rw [h1, h2, h3, h4]; exact h
theorem TPR.keep (h : TPR S x) (h1 : ji S' (x + 60) 1 = ji S (x + 60) 1) (h2 : ji S' (x + 94) 19 = ji S (x + 94) 19) (h3 : ji S' (x + 61) = ji S (x + 61)) (h4 : ji S' (x + 109) = ji S (x + 109)) : TPR S' x := by
  unfold TPR
  rw [h1, h2, h3, h4]; exact h
/-- only the rest changes -/
theorem IV.rst (h : IV S x sz M v) (hs : jsame S S') (hi : ∀ y, ((x + 1 ≤ y ∧ y < x + 21) ∨ y = x + 95 ∨ x + 115 ≤ y) → ji S' y = ji S y) (hr : RST S' x M) : INV S' x M := by
  obtain ⟨⟨hX, hM, hg⟩, h2, h3, h4, h5, h6⟩ := h
  obtain ⟨k, l, rr, nn⟩ := id hs
  exact ⟨sz, v, ⟨hX.of hs (hX.2.2.grow (fun y p q => ⟨by rw [k], by rw [l], hi y (by omega), by rw [rr]⟩)), ⟨hM.1.same hs, fun j => by rw [hi (x + 94 + 1) (by omega)]; exact hM.2 j⟩, hg⟩, h2.same hs, h3.same hs, by rw [nn]; exact h4, h5.same hs (fun y p _ => hi y (by omega)) (fun _ _ _ => rfl), hr⟩
/-! sheet -/
theorem Q_sheet {w u t : Int32} (h : IV S x sz M v) : jFi E mX10_sheet (d + 2) 0 0 [.ref x, .int w, .int u, .int t] S (fun r S1 => jFm E mX11_sheet (d + 2) (x + 94) [.int w, .int u, .int t] S1 (fun r' S2 => r = r' ∧ INV S2 x M)) := by
  obtain ⟨⟨hX, hM, hg⟩, hC, hGL, hjn, hT, hI, hS, hSl, hW, hTp⟩ := id h
  have eu : jisin (Int32.toInt64 u) (-1) 1 = if u < -1 then 0 else if 1 < u then 0 else 1 := jisin_int u (-1) 1
  refine T_X10_sheet ⟨hX.1, c_X10_findSheet hC (fun c => ⟨fun _ => g_sheetBad hM.k (Or.inl c) ⟨rfl, h.inv⟩, fun b e => absurd e (by simp)⟩) (fun i hi e e1 => ⟨fun c => absurd c (by simp), fun b eb => ⟨fun c1 => g_sheetBad hM.k (Or.inr (Or.inl c1)) ⟨rfl, h.inv⟩, fun c1 => ⟨fun c2 => ?_, fun c2 => g_sheetBad hM.k (Or.inr (Or.inr c2)) ⟨rfl, h.inv⟩⟩⟩⟩)⟩
  obtain rfl : x + 66 + 2 * i = b := Option.some.inj eb
  subst e
  have hs1 : ¬ jissheet (nI i) = 0 := by rw [jissheet_wi, e1]; decide
  have hu1 : ¬ jisin (Int32.toInt64 u) (-1) 1 = 0 := by rw [eu, if_neg c1, if_neg (Int32.not_lt.mpr c2)]; decide
  have hsh := hC.sh i hi
  have hup : u ≠ -1 → ¬ u < 0 := fun c3 => by
    rw [Int32.lt_iff_toInt_lt] at c1 ⊢
    have hne : u.toInt ≠ (-1 : Int32).toInt := fun e => c3 (Int32.toInt_inj.mp e)
    have e9 : (-1 : Int32).toInt = -1 := by decide
    have e0 : (0 : Int32).toInt = 0 := by decide
    rw [e9] at c1 hne; rw [e0]; omega
  have hso : u ≠ -1 → u = 0 ∨ u = 1 := fun c3 => by
    have h0 := hup c3
    rw [Int32.lt_iff_toInt_lt] at h0
    rw [Int32.le_iff_toInt_le] at c2
    have e0 : (0 : Int32).toInt = 0 := by decide
    have e1 : (1 : Int32).toInt = 1 := by decide
    rw [e0] at h0; rw [e1] at c2
    rcases (show u.toInt = 0 ∨ u.toInt = 1 by omega) with e | e
    · exact Or.inl (Int32.toInt_inj.mp (e.trans e0.symm))
    · exact Or.inr (Int32.toInt_inj.mp (e.trans e1.symm))
  -- behind both
  have fin : ∀ (S1 : jM) (so : Int32) (n : Nat), n ≤ 24 → (so = -1 ∨ so = 0 ∨ so = 1) → jsame S S1 → (∀ y, y ≠ x + 66 + 2 * i → y ≠ x + 67 + 2 * i → ji S1 y = ji S y) → ShR S1 (x + 66 + 2 * i) (x + 67 + 2 * i) so (nI n) (fun _ => 0) → ∀ (r : Int32), r = nI n → L_X11_sheet_69 E d (fun r' S2 => r = r' ∧ INV S2 x M) (x + 94) (nI i) 0 (jput (jput S1 (x + 98) i so) (x + 99) i (nI n)) := by
    intro S1 so n hn hso s1 o1 r1 r hr
    refine c_X11_sheetL hi ((hM.1.same s1).same ⟨rfl, rfl, rfl, rfl⟩) (fun S2 s2 o2 z2 => ⟨?_, ?_⟩)
    · rw [hr]
      exact (ji_put_same _ _ _ _).symm
    · have o3 : ∀ y, y ≠ x + 98 → y ≠ x + 99 → y ≠ x + 100 → ji S2 y = ji S1 y := fun y a b c => (o2 y c).trans ((ji_put_ne _ _ _ _ b).trans (ji_put_ne _ _ _ _ a))
      have s3 : jsame S S2 := s1.trans (jsame.trans (S1 := jput (jput S1 (x + 98) i so) (x + 99) i (nI n)) ⟨rfl, rfl, rfl, rfl⟩ s2)
      have o4 : ∀ y, (y < x + 66 ∨ x + 74 ≤ y) → y ≠ x + 98 → y ≠ x + 99 → y ≠ x + 100 → ji S2 y = ji S y := fun y a b c e => (o3 y b c e).trans (o1 y (by omega) (by omega))
      refine h.rst s3 (fun y hy => o4 y (by omega) (by omega) (by omega) (by omega)) ⟨hI.keep s3 (by rw [o4 x (by omega) (by omega) (by omega) (by omega)]) (by rw [o4 (x + 94) (by omega) (by omega) (by omega) (by omega)]) (fun y hy => o4 y (by omega) (by omega) (by omega) (by omega)), fun k hk => ?_, hSl.keep (fun y hy => o4 y (by omega) (by omega) (by omega) (by omega)), hW.keep (by rw [o4 x (by omega) (by omega) (by omega) (by omega)]) (by rw [o4 (x + 94) (by omega) (by omega) (by omega) (by omega)]) (o4 _ (by omega) (by omega) (by omega) (by omega)) (o4 _ (by omega) (by omega) (by omega) (by omega)), hTp.keep (by rw [o4 (x + 60) (by omega) (by omega) (by omega) (by omega)]) (by rw [o4 (x + 94) (by omega) (by omega) (by omega) (by omega)]) (o4 _ (by omega) (by omega) (by omega) (by omega)) (o4 _ (by omega) (by omega) (by omega) (by omega))⟩
      have e98 : ji S2 (x + 98) = ji (jput (jput S1 (x + 98) i so) (x + 99) i (nI n)) (x + 98) := o2 _ (by omega)
      have e99 : ji S2 (x + 99) = ji (jput (jput S1 (x + 98) i so) (x + 99) i (nI n)) (x + 99) := o2 _ (by omega)
      by_cases hki : k = i
      · subst hki
        obtain ⟨q1, q2, q3, q4⟩ := r1
        refine ⟨so, n, hn, hso, ?_, ?_, ?_, ?_, fun j hj => ⟨?_, ?_⟩⟩
        · rw [o3 _ (by omega) (by omega) (by omega)]; exact q2
        · rw [e98, ji_put_ne _ _ _ _ (by omega), ji_put_same]
        · rw [o3 _ (by omega) (by omega) (by omega)]; exact q3
        · rw [e99, ji_put_same]
        · rw [o3 _ (by omega) (by omega) (by omega), q4 j hj]
          have := z2 (24 * k + j)
          rw [if_pos (by omega)] at this
          exact this.symm
        · rw [o3 _ (by omega) (by omega) (by omega), q4 j hj]; exact Or.inr (by show (-99999 : Int32) ≤ 0 ∧ (0 : Int32) ≤ 99999; decide)
      · refine SH1.keep (hS k hk) ?_ ?_ ?_ ?_ (fun j hj => ?_)
        · rw [o3 _ (by omega) (by omega) (by omega)]; exact o1 _ (by omega) (by omega)
        · rw [o3 _ (by omega) (by omega) (by omega)]; exact o1 _ (by omega) (by omega)
        · rw [e98, ji_put_ne _ _ _ _ (by omega), ji_put, if_neg (fun c => hki c.2), o1 _ (by omega) (by omega)]
        · rw [e99, ji_put, if_neg (fun c => hki c.2), ji_put_ne _ _ _ _ (by omega), o1 _ (by omega) (by omega)]
        · have := z2 (24 * k + j)
          rw [if_neg (by omega)] at this
          refine this.trans ?_
          show ji (jput (jput S1 (x + 98) i so) (x + 99) i (nI n)) (x + 100) (24 * k + j) = _
          rw [ji_put_ne _ _ _ _ (by omega), ji_put_ne _ _ _ _ (by omega), o1 _ (by omega) (by omega)]
  have ci : Int32.toNatClampNeg (nI i) = i := jcl (by omega)
  refine ⟨fun c3 => ⟨hsh.1, c_X6_begin hsh (fun S1 s1 o1 r1 => ?_)⟩, fun c3 => ⟨fun c4 => ⟨fun c5 => ⟨hsh.1, c_X6_begin hsh (fun S1 s1 o1 r1 => ?_)⟩, fun c5 => ?_⟩, fun c4 => ?_⟩⟩
  · have hM1 := hM.1.same s1
    have hu0 : u < 0 := by rw [c3]; decide
    refine U_X11_sheet hM1.1 ⟨fun c => absurd c hs1, fun _ => ⟨fun c => absurd c hu1, fun _ => ⟨fun _ => ⟨hM1.1, _, hM1.r4.1, hM1.r4.2.1, by rw [hM1.r4.2.2]; exact jin_nI hi (by omega), _, hM1.r5.1, fun c => absurd c (Int32.not_le.mpr hu0), fun _ => ⟨hM1.r5.2.1, by rw [hM1.r5.2.2]; exact jin_nI hi (by omega), ?_⟩⟩, fun c => absurd hu0 c⟩⟩⟩
    rw [ci, c3]
    exact fin S1 (-1) 0 (by omega) (Or.inl rfl) s1 o1 r1 0 rfl
  · have hM1 := hM.1.same s1
    obtain ⟨n, hn, en⟩ := nI_of2 (x := t) (M := 24) (n := 24) (by decide) (Int32.not_lt.mpr c5) c4
    subst en
    refine U_X11_sheet hM1.1 ⟨fun c => absurd c hs1, fun _ => ⟨fun c => absurd c hu1, fun _ => ⟨fun c => absurd c (hup c3), fun _ => ⟨fun _ => ⟨fun _ => ⟨hM1.1, _, hM1.r4.1, hM1.r4.2.1, by rw [hM1.r4.2.2]; exact jin_nI hi (by omega), _, hM1.r5.1, fun _ => ⟨hM1.r5.2.1, by rw [hM1.r5.2.2]; exact jin_nI hi (by omega), ?_⟩, fun c => absurd (Int32.not_lt.mp (hup c3)) c⟩, fun c => absurd c5 c⟩, fun c => absurd c4 c⟩⟩⟩⟩
    rw [ci]
    exact fin S1 u n hn (Or.inr (hso c3)) s1 o1 r1 _ rfl
  · exact U_X11_sheet hM.k ⟨fun c => absurd c hs1, fun _ => ⟨fun c => absurd c hu1, fun _ => ⟨fun c => absurd c (hup c3), fun _ => ⟨fun _ => ⟨fun c => absurd c c5, fun _ => ⟨rfl, h.inv⟩⟩, fun c => absurd c4 c⟩⟩⟩⟩
  · exact U_X11_sheet hM.k ⟨fun c => absurd c hs1, fun _ => ⟨fun c => absurd c hu1, fun _ => ⟨fun c => absurd c (hup c3), fun _ => ⟨fun c => absurd c c4, fun _ => ⟨rfl, h.inv⟩⟩⟩⟩⟩
end jSheets
end
section
/-! MARK, POUR, READS, COPY on both sides -/
theorem jshort (t : Int32) : jshr (jshl t 16) 16 = Int16.toInt32 (Int32.toInt16 t) := by
  unfold jshr jshl
  rw [show (16 : Int32) &&& 31 = 16 by decide]
  apply Int32.toBitVec_inj.mp
  have e1 : (t <<< (16 : Int32) >>> (16 : Int32)).toBitVec = (t.toBitVec <<< 16).sshiftRight 16 := rfl
  have e2 : (Int16.toInt32 (Int32.toInt16 t)).toBitVec = (t.toBitVec.setWidth 16).signExtend 32 := by
    have e3 : (Int16.toInt32 (Int32.toInt16 t)).toBitVec = (t.toBitVec.signExtend 16).signExtend 32 := rfl
    rw [e3, BitVec.signExtend_eq_setWidth_of_le _ (by decide : 16 ≤ 32)]
  rw [e1, e2]
  apply BitVec.eq_of_getLsbD_eq
  intro i hi
  rw [BitVec.getLsbD_sshiftRight, BitVec.getLsbD_signExtend]
  by_cases h : i < 16
  · have h32 : ¬ 32 ≤ i := by omega
    have h16 : 16 + i < 32 := by omega
    simp [h, h32, h16, hi]
  · have h16 : ¬ 16 + i < 32 := by omega
    have h32 : ¬ 32 ≤ i := by omega
    simp [h, h32, h16, hi, BitVec.msb_eq_getLsbD_last]
theorem jpl_short (t : Int16) : jpl (Int16.toInt32 t) := by
  refine Or.inr ⟨?_, ?_⟩
  · rw [Int32.le_iff_toInt_le, Int16.toInt_toInt32]
    have := Int16.le_toInt t
    have e : (-99999 : Int32).toInt = -99999 := by decide
    rw [e]; omega
  · rw [Int32.le_iff_toInt_le, Int16.toInt_toInt32]
    have := Int16.toInt_lt t
    have e : (99999 : Int32).toInt = 99999 := by decide
    rw [e]; omega
theorem jcl0 (y : Int32) : jmax 0 (jmin 99 y) = jclamp y 0 99 ∧ ∃ k, k < 100 ∧ jclamp y 0 99 = nI k := by
  rw [show jclamp y 0 99 = (if 0 ≤ y then (if y ≤ 99 then y else 99) else 0) from rfl]
  by_cases h1 : (0 : Int32) ≤ y
  · rw [if_pos h1]
    by_cases h2 : y ≤ 99
    · rw [if_pos h2]
      have hlt : y < nI 100 := Int32.lt_of_le_of_lt h2 (by decide)
      obtain ⟨j, hj, e⟩ := jofI (x := y) (n := 100) (by omega) h1 hlt
      have hd : ∀ j : Fin 100, jmax 0 (jmin 99 (nI j.val)) = nI j.val := by decide +kernel
      exact ⟨by rw [e]; exact hd ⟨j, hj⟩, j, hj, e⟩
    · rw [if_neg h2]
      have h3 : ¬ y < 99 := fun h => h2 (Int32.le_of_lt h)
      unfold jmin
      rw [if_neg h3]
      exact ⟨by decide, 99, by omega, rfl⟩
  · rw [if_neg h1]
    have h2 : y < 0 := Int32.not_le.mp h1
    have h3 : y < 99 := Int32.lt_of_lt_of_le h2 (by decide)
    unfold jmin jmax
    rw [if_pos h3, if_neg (fun h => h1 (Int32.le_of_lt h))]
    exact ⟨rfl, 0, by omega, rfl⟩
theorem jisin_sz (w : Int32) {n : Nat} (hn : n < 2 ^ 31) : jisin (Int32.toInt64 w) 0 (Int32.toInt64 (nI n - 1)) = jwi w (nI n) := by
  refine jisin_wi w (nI n) (nI n - 1) rfl (jle_lt ?_)
  cases n with
  | zero => decide
  | succ y => rw [nI_pred, nI_toInt (by omega), nI_toInt (by omega)]; omega
theorem nI_24 (i j : Nat) : (24 : Int32) * nI i + nI j = nI (24 * i + j) := by rw [show (24 : Int32) = nI 24 from rfl, nI_mul, nI_add]
section jMarks
variable {E : jEnv} {d : Nat} {S S' : jM} {x sz M : Nat} {v : Nat → Int32}
theorem c_X6_hasPlace {Q : Int32 → jM → Prop} {a n : Nat} {w : Int32} (hk : jk S a = 6) (hn : n ≤ 24) (e : ji S a 1 = nI n) (h : Q (jwi w (nI n)) S) : jFi E mX6_hasPlace (d + 1) 0 0 [.ref a, .int w] S Q := by
  refine T_X6_hasPlace ⟨hk, ?_⟩
  rw [e]
  refine ⟨fun c => by rw [c] at h; exact h, fun c => ?_⟩
  rcases jwi_cases w (b := nI n) n rfl (by omega) with ⟨j, hj, ej, e1⟩ | ⟨-, e1⟩
  · rw [e1] at h
    exact ⟨fun c => absurd c (by rw [ej]; exact nI_ge (b := 24) (by omega) (by omega)), fun _ => h⟩
  · exact absurd e1 c
theorem c_X6_isNumber {Q : Int32 → jM → Prop} {a p n j : Nat} (hL : ShL S a p) (hn : n ≤ 24) (e : ji S a 1 = nI n) (hj : j < n) (h0 : ji S p j = kNONE → Q 0 S) (h1 : ¬ ji S p j = kNONE → Q 1 S) : jFi E mX6_isNumber (d + 2) 0 0 [.ref a, .int (nI j)] S Q := by
  obtain ⟨k6, r2, k12, l24⟩ := hL
  refine T_X6_isNumber ⟨k6, c_X6_hasPlace k6 hn e ?_⟩
  rw [jwi_at hj (by omega)]
  refine ⟨fun c => absurd c (by decide), fun _ => ⟨k6, p, r2, k12, by rw [l24]; exact jin_nI (by omega) (by omega), ?_⟩⟩
  rw [jcl (by omega)]
  exact ⟨h0, h1⟩
/-- the sheet at hand is there, on the class's side and on the reference's -/
theorem SH1.miss {i : Nat} {so : Int32} (hso : so = -1 ∨ so = 0 ∨ so = 1) : (so = -1 ↔ ¬ 0 ≤ so) := by
  rcases hso with rfl | rfl | rfl <;> decide
/-- one place of a sheet is otherwise on both sides -/
theorem IV.place {i j : Nat} {z : Int32} (h : IV S x sz M v) (hi : i < 4) (hj : j < 24) (hz : jpl z) : INV (jput (jput S (x + 67 + 2 * i) j z) (x + 100) (24 * i + j) z) x M := by
  obtain ⟨⟨hX, hM, hg⟩, hC, hGL, hjn, hT, hI, hS, hSl, hW, hTp⟩ := id h
  have s3 : jsame S (jput (jput S (x + 67 + 2 * i) j z) (x + 100) (24 * i + j) z) := ⟨rfl, rfl, rfl, rfl⟩
  have o4 : ∀ y, y ≠ x + 67 + 2 * i → y ≠ x + 100 → ji (jput (jput S (x + 67 + 2 * i) j z) (x + 100) (24 * i + j) z) y = ji S y := fun y a b => (ji_put_ne _ _ _ _ b).trans (ji_put_ne _ _ _ _ a)
  refine h.rst s3 (fun y hy => o4 y (by omega) (by omega)) ⟨hI.keep s3 (by rw [o4 x (by omega) (by omega)]) (by rw [o4 (x + 94) (by omega) (by omega)]) (fun y hy => o4 y (by omega) (by omega)), fun k hk => ?_, hSl.keep (fun y hy => o4 y (by omega) (by omega)), hW.keep (by rw [o4 x (by omega) (by omega)]) (by rw [o4 (x + 94) (by omega) (by omega)]) (o4 _ (by omega) (by omega)) (o4 _ (by omega) (by omega)), hTp.keep (by rw [o4 (x + 60) (by omega) (by omega)]) (by rw [o4 (x + 94) (by omega) (by omega)]) (o4 _ (by omega) (by omega)) (o4 _ (by omega) (by omega))⟩
  obtain ⟨so, n, a1, a2, a3, a4, a5, a6, a7⟩ := hS k hk
  refine ⟨so, n, a1, a2, by rw [o4 _ (by omega) (by omega)]; exact a3, by rw [o4 _ (by omega) (by omega)]; exact a4, by rw [o4 _ (by omega) (by omega)]; exact a5, by rw [o4 _ (by omega) (by omega)]; exact a6, fun l hl => ?_⟩
  obtain ⟨b1, b2⟩ := a7 l hl
  rw [ji_put_ne _ _ _ _ (show x + 67 + 2 * k ≠ x + 100 by omega), ji_put, ji_put, ji_put_ne _ _ _ _ (show x + 100 ≠ x + 67 + 2 * i by omega)]
  by_cases hkl : k = i ∧ l = j
  · obtain ⟨rfl, rfl⟩ := hkl
    rw [if_pos ⟨rfl, rfl⟩, if_pos ⟨rfl, rfl⟩]
    exact ⟨rfl, hz⟩
  · rw [if_neg (by omega), if_neg (by omega)]
    exact ⟨b1, b2⟩
theorem Q_mark {w u t : Int32} (h : IV S x sz M v) : jFi E mX10_mark (d + 2) 0 0 [.ref x, .int w, .int u, .int t] S (fun r S1 => jFm E mX11_mark (d + 2) (x + 94) [.int w, .int u, .int t] S1 (fun r' S2 => r = r' ∧ INV S2 x M)) := by
  obtain ⟨⟨hX, hM, hg⟩, hC, hGL, hjn, hT, hI, hS, hSl, hW, hTp⟩ := id h
  refine T_X10_mark ⟨hX.1, c_X10_findSheet hC (fun c => ⟨fun _ => U_X11_mark hM.k ⟨fun _ => ⟨rfl, h.inv⟩, fun c2 => absurd ((jissheet_wi w).trans c) c2⟩, fun b e => absurd e (by simp)⟩) (fun i hi e e1 => ⟨fun c => absurd c (by simp), fun b eb => ?_⟩)⟩
  obtain rfl : x + 66 + 2 * i = b := Option.some.inj eb
  subst e
  have hs1 : ¬ jissheet (nI i) = 0 := by rw [jissheet_wi, e1]; decide
  obtain ⟨k6, r2, k12, l24⟩ := hC.sh i hi
  obtain ⟨so, n, a1, a2, a3, a4, a5, a6, a7⟩ := hS i hi
  have hM1 := hM.1
  have ci : Int32.toNatClampNeg (nI i) = i := jcl (by omega)
  have ms := SH1.miss (i := i) a2
  have et : jisin (Int32.toInt64 t) (-99999) 99999 = if t < -99999 then 0 else if 99999 < t then 0 else 1 := jisin_int t (-99999) 99999
  refine ⟨k6, ?_⟩
  rw [a3]
  refine ⟨fun c => U_X11_mark hM.k ⟨fun c => absurd c hs1, fun _ => ⟨hM.k, _, hM1.r4.1, hM1.r4.2.1, by rw [hM1.r4.2.2]; exact jin_nI hi (by omega), fun c0 => absurd c0 (by rw [ci, a4]; exact ms.mp c), fun _ => ⟨rfl, h.inv⟩⟩⟩, fun c => ?_⟩
  have so0 : 0 ≤ so := by
    rcases a2 with e | e | e
    · exact absurd e c
    · rw [e]; decide
    · rw [e]; decide
  -- the reference, up to its place
  have ref : ∀ (S1 : jM) (Q : Int32 → jM → Prop), MR S1 (x + 94) v → ji S1 (x + 98) i = so → ji S1 (x + 99) i = nI n → (jwi u (nI n) = 0 → Q (-1000000013) S1) → (¬ jwi u (nI n) = 0 → so = 0 → t = kNONE → Q (-1000000012) S1) → (¬ jwi u (nI n) = 0 → so = 1 → ¬ t = kNONE → (t < -99999 ∨ 99999 < t) → Q (-1000000001) S1) → (∀ j, j < n → u = nI j → ((so = 0 ∧ ¬ t = kNONE) → Q 1 (jput S1 (x + 100) (24 * i + j) (Int16.toInt32 (Int32.toInt16 t)))) ∧ ((so = 1 ∧ (t = kNONE ∨ (¬ t < -99999 ∧ ¬ 99999 < t))) → Q 1 (jput S1 (x + 100) (24 * i + j) t))) → jFm E mX11_mark (d + 2) (x + 94) [.int (nI i), .int u, .int t] S1 Q := by
    intro S1 Q h1 b4 b6 q1 q2 q3 q4
    have m1 := h1.1
    refine U_X11_mark h1.k ⟨fun c => absurd c hs1, fun _ => ⟨h1.k, _, m1.r4.1, m1.r4.2.1, by rw [m1.r4.2.2]; exact jin_nI hi (by omega), ?_⟩⟩
    rw [ci, b4]
    refine ⟨fun _ => ⟨_, m1.r5.1, m1.r5.2.1, by rw [m1.r5.2.2]; exact jin_nI hi (by omega), ?_⟩, fun c0 => absurd so0 c0⟩
    rw [b6, jisin_sz u (by omega)]
    refine ⟨q1, fun cu => ?_⟩
    rcases jwi_cases u (b := nI n) n rfl (by omega) with ⟨j, hj, ej, -⟩ | ⟨-, ej⟩
    · obtain ⟨p1, p2⟩ := q4 j hj ej
      have e24 : (24 : Int32) * nI i + u = nI (24 * i + j) := by rw [ej, nI_24]
      have in24 : vp_in (24 * nI i + u) (jl S1 (x + 100)) := by rw [e24, m1.r6.2.2]; exact jin_nI (by omega) (by omega)
      refine ⟨fun s0 => ⟨fun t0 => q2 cu s0 t0, fun t0 => ⟨fun s1 => absurd (s0.symm.trans s1) (by decide), fun _ => ⟨_, m1.r6.1, m1.r6.2.1, in24, ?_⟩⟩⟩, fun s0 => ⟨fun s1 => ⟨fun t0 => ⟨_, m1.r6.1, m1.r6.2.1, in24, ?_⟩, fun t0 => ⟨fun ct => ?_, fun ct => ⟨_, m1.r6.1, m1.r6.2.1, in24, ?_⟩⟩⟩, fun s1 => ?_⟩⟩
      · rw [e24, jcl (by omega), jshort]; exact p1 ⟨s0, t0⟩
      · rw [e24, jcl (by omega)]; exact p2 ⟨s1, Or.inl t0⟩
      · refine q3 cu s1 t0 ?_
        rw [et] at ct
        by_cases c1 : t < -99999
        · exact Or.inl c1
        · rw [if_neg c1] at ct
          by_cases c2 : 99999 < t
          · exact Or.inr c2
          · rw [if_neg c2] at ct; exact absurd ct (by decide)
      · rw [e24, jcl (by omega)]
        refine p2 ⟨s1, Or.inr ?_⟩
        rw [et] at ct
        by_cases c1 : t < -99999
        · rw [if_pos c1] at ct; exact absurd rfl ct
        · rw [if_neg c1] at ct
          by_cases c2 : 99999 < t
          · rw [if_pos c2] at ct; exact absurd rfl ct
          · exact ⟨c1, c2⟩
      · rcases a2 with e | e | e
        · exact absurd e c
        · exact absurd e s0
        · exact absurd e s1
    · exact absurd ej cu
  have sim : ∀ (r : Int32), ((jwi u (nI n) = 0 → r = (-1000000013)) ∧ (¬ jwi u (nI n) = 0 → so = 0 → t = kNONE → r = (-1000000012)) ∧ (¬ jwi u (nI n) = 0 → so = 1 → ¬ t = kNONE → (t < -99999 ∨ 99999 < t) → r = (-1000000001)) ∧ (jwi u (nI n) = 0 ∨ (so = 0 ∧ t = kNONE) ∨ (so = 1 ∧ ¬ t = kNONE ∧ (t < -99999 ∨ 99999 < t)))) → jFm E mX11_mark (d + 2) (x + 94) [.int (nI i), .int u, .int t] S (fun r' S2 => r = r' ∧ INV S2 x M) := by
    intro r hr
    refine ref S _ hM a4 a6 (fun c1 => ⟨hr.1 c1, h.inv⟩) (fun c1 c2 c3 => ⟨hr.2.1 c1 c2 c3, h.inv⟩) (fun c1 c2 c3 c4 => ⟨hr.2.2.1 c1 c2 c3 c4, h.inv⟩) (fun j hj ej => ⟨fun p => ?_, fun p => ?_⟩)
    · rcases hr.2.2.2 with c1 | ⟨c1, c2⟩ | ⟨c1, c2, c3⟩
      · rw [ej, jwi_at hj (by omega)] at c1; exact absurd c1 (by decide)
      · exact absurd c2 p.2
      · exact absurd (p.1.symm.trans c1) (by decide)
    · rcases hr.2.2.2 with c1 | ⟨c1, c2⟩ | ⟨c1, c2, c3⟩
      · rw [ej, jwi_at hj (by omega)] at c1; exact absurd c1 (by decide)
      · exact absurd (c1.symm.trans p.1) (by decide)
      · rcases p.2 with q | q
        · exact absurd q c2
        · rcases c3 with c3 | c3
          · exact absurd c3 q.1
          · exact absurd c3 q.2
  refine c_X6_hasPlace k6 a1 a5 ⟨fun cu => sim _ ⟨fun _ => rfl, fun c1 => absurd cu c1, fun c1 => absurd cu c1, Or.inl cu⟩, fun cu => ⟨k6, ?_⟩⟩
  rw [a3]
  rcases jwi_cases u (b := nI n) n rfl (by omega) with ⟨j, hj, ej, -⟩ | ⟨-, ej⟩
  · have inj : vp_in u (jl S (x + 67 + 2 * i)) := by rw [ej, l24]; exact jin_nI (by omega) (by omega)
    have cj : Int32.toNatClampNeg u = j := by rw [ej]; exact jcl (by omega)
    have put : ∀ z : Int32, jpl z → ((so = 0 ∧ ¬ t = kNONE ∧ z = Int16.toInt32 (Int32.toInt16 t)) ∨ (so = 1 ∧ (t = kNONE ∨ (¬ t < -99999 ∧ ¬ 99999 < t)) ∧ z = t)) → jFm E mX11_mark (d + 2) (x + 94) [.int (nI i), .int u, .int t] (jput S (x + 67 + 2 * i) j z) (fun r' S2 => (1 : Int32) = r' ∧ INV S2 x M) := by
      intro z hz hc
      have c1 : jch S (jput S (x + 67 + 2 * i) j z) (x + 67 + 2 * i) (x + 68 + 2 * i) := jch.put (by omega) (by omega)
      refine ref _ _ (hM.keep c1 (by omega)) (by rw [c1.2 _ (by omega)]; exact a4) (by rw [c1.2 _ (by omega)]; exact a6) (fun c2 => absurd c2 cu) (fun _ s0 t0 => ?_) (fun _ s1 t0 t1 => ?_) (fun j' hj' ej' => ⟨fun p => ⟨rfl, ?_⟩, fun p => ⟨rfl, ?_⟩⟩)
      · rcases hc with hc | hc
        · exact absurd t0 hc.2.1
        · exact absurd (s0.symm.trans hc.1) (by decide)
      · rcases hc with hc | hc
        · exact absurd (s1.symm.trans hc.1) (by decide)
        · rcases hc.2.1 with q | q
          · exact absurd q t0
          · rcases t1 with t1 | t1
            · exact absurd t1 q.1
            · exact absurd t1 q.2
      · obtain rfl : j' = j := nI_inj (by omega) (by omega) (ej'.symm.trans ej)
        rcases hc with hc | hc
        · rw [← hc.2.2]; exact h.place hi (by omega) hz
        · exact absurd (p.1.symm.trans hc.1) (by decide)
      · obtain rfl : j' = j := nI_inj (by omega) (by omega) (ej'.symm.trans ej)
        rcases hc with hc | hc
        · exact absurd (p.1.symm.trans hc.1) (by decide)
        · rw [← hc.2.2]; exact h.place hi (by omega) hz
    refine ⟨fun s0 => ⟨fun t0 => sim _ ⟨fun c1 => absurd c1 cu, fun _ _ _ => rfl, fun _ s1 => absurd (s0.symm.trans s1) (by decide), Or.inr (Or.inl ⟨s0, t0⟩)⟩, fun t0 => ⟨_, r2, k12, inj, ?_⟩⟩, fun s0 => ⟨fun t0 => ⟨_, r2, k12, inj, ?_⟩, fun t0 => ⟨fun t1 => ?_, fun t1 => ⟨fun t2 => ⟨_, r2, k12, inj, ?_⟩, fun t2 => ?_⟩⟩⟩⟩
    · rw [cj]; exact put _ (jpl_short _) (Or.inl ⟨s0, t0, rfl⟩)
    all_goals
      have s1 : so = 1 := by
        rcases a2 with e | e | e
        · exact absurd e c
        · exact absurd e s0
        · exact e
    · rw [cj]; exact put _ (Or.inl t0) (Or.inr ⟨s1, Or.inl t0, rfl⟩)
    · exact sim _ ⟨fun c1 => absurd c1 cu, fun _ q => absurd q s0, fun _ _ _ _ => rfl, Or.inr (Or.inr ⟨s1, t0, Or.inl t1⟩)⟩
    · rw [cj]
      exact put _ (Or.inr ⟨Int32.not_lt.mp t1, t2⟩) (Or.inr ⟨s1, Or.inr ⟨t1, Int32.not_lt.mpr t2⟩, rfl⟩)
    · exact sim _ ⟨fun c1 => absurd c1 cu, fun _ q => absurd q s0, fun _ _ _ _ => rfl, Or.inr (Or.inr ⟨s1, t0, Or.inr (Int32.not_le.mp t2)⟩)⟩
  · exact absurd ej cu
end jMarks
end
section
/-! POUR, READS, COPY on both sides -/
/-- fees come from a row: one place; all of them -/
def vp1 (pl : Nat → Int32) (sz i : Nat) (p : (Nat → Int32) × Int32) : (Nat → Int32) × Int32 :=
  if i < sz then (if pl i = kNONE then p else (upd p.1 (72 + 7 * i + 4) (jclamp (pl i) 0 99), if jclamp (pl i) 0 99 = mfv p.1 i 4 then p.2 else p.2 + 1)) else p
section jPour
variable {E : jEnv} {d : Nat} {S S' : jM} {x sz M : Nat} {v : Nat → Int32}
theorem vp_end {pl : Nat → Int32} : ∀ (n i : Nat) (p : (Nat → Int32) × Int32), sz ≤ i → jfold (vp1 pl sz) n i p = p
  | 0, _, _, _ => rfl
  | n + 1, i, p, h => by
    show jfold (vp1 pl sz) n (i + 1) (vp1 pl sz i p) = p
    have e : vp1 pl sz i p = p := by unfold vp1; rw [if_neg (by omega)]
    rw [e]; exact vp_end n (i + 1) p (by omega)
theorem vp_o {pl : Nat → Int32} (hz : sz ≤ 9) : ∀ (n i : Nat) (p : (Nat → Int32) × Int32) (j : Nat), (j < 72 ∨ 135 ≤ j) → (jfold (vp1 pl sz) n i p).1 j = p.1 j
  | 0, _, _, _, _ => rfl
  | n + 1, i, p, j, hj => by
    show (jfold (vp1 pl sz) n (i + 1) (vp1 pl sz i p)).1 j = p.1 j
    rw [vp_o hz n (i + 1) _ j hj]
    unfold vp1
    split
    · split
      · rfl
      · exact upd_ne _ (by omega)
    · rfl
theorem vp_rg {pl : Nat → Int32} (hz : sz ≤ 9) : ∀ (n i : Nat) (p : (Nat → Int32) × Int32), Rg sz p.1 → Rg sz (jfold (vp1 pl sz) n i p).1
  | 0, _, _, h => h
  | n + 1, i, p, h => by
    show Rg sz (jfold (vp1 pl sz) n (i + 1) (vp1 pl sz i p)).1
    refine vp_rg hz n (i + 1) _ ?_
    unfold vp1
    split
    · split
      · exact h
      · refine h.put (fun _ => ?_)
        rw [rgb_m i 4 (by omega)]
        exact (jcl0 (pl i)).2
    · exact h
theorem Q_pour {w : Int32} (h : IV S x sz M v) : jFi E mX10_pour (d + 3) 0 0 [.ref x, .int w] S (fun r S1 => jFm E mX11_pour (d + 3) (x + 94) [.int w] S1 (fun r' S2 => r = r' ∧ INV S2 x M)) := by
  obtain ⟨⟨hX, hM, hg⟩, hC, hGL, hjn, hT, hI, hS, hSl, hW, hTp⟩ := id h
  have hz := hX.sz9
  refine T_X10_pour ⟨hX.1, c_X10_findSheet hC (fun c => ⟨fun _ => U_X11_pour hM.k ⟨fun _ => ⟨rfl, h.inv⟩, fun c2 => absurd ((jissheet_wi w).trans c) c2⟩, fun b e => absurd e (by simp)⟩) (fun i hi e e1 => ⟨fun c => absurd c (by simp), fun b eb => ?_⟩)⟩
  obtain rfl : x + 66 + 2 * i = b := Option.some.inj eb
  subst e
  have hs1 : ¬ jissheet (nI i) = 0 := by rw [jissheet_wi, e1]; decide
  have hsh := hC.sh i hi
  obtain ⟨k6, r2, k12, l24⟩ := id hsh
  obtain ⟨so, n, a1, a2, a3, a4, a5, a6, a7⟩ := hS i hi
  have hM1 := hM.1
  have ci : Int32.toNatClampNeg (nI i) = i := jcl (by omega)
  have ms := SH1.miss (i := i) a2
  refine ⟨k6, ?_⟩
  rw [a3]
  refine ⟨fun c => U_X11_pour hM.k ⟨fun c => absurd c hs1, fun _ => ⟨hM.k, _, hM1.r4.1, hM1.r4.2.1, by rw [hM1.r4.2.2]; exact jin_nI hi (by omega), fun c0 => absurd c0 (by rw [ci, a4]; exact ms.mp c), fun _ => ⟨rfl, h.inv⟩⟩⟩, fun c => ?_⟩
  have so0 : 0 ≤ so := by
    rcases a2 with e | e | e
    · exact absurd e c
    · rw [e]; decide
    · rw [e]; decide
  have kC : ∀ (Q : Int32 → jM → Prop) (c k : Nat) (S1 : jM) (p : (Nat → Int32) × Int32), k + c = n → jch S S1 (x + 2) (x + 13) → XR S1 x sz p.1 → (∀ S', jch S S' (x + 2) (x + 13) → XR S' x sz (jfold (vp1 (ji S (x + 67 + 2 * i)) sz) c k p).1 → Q (jfold (vp1 (ji S (x + 67 + 2 * i)) sz) c k p).2 S') → L_X10_pour_30 E (d + 2) Q x (x + 66 + 2 * i) p.2 (nI k) S1 := by
    intro Q c
    induction c with
    | zero =>
      intro k S1 p hk c1 h1 hq
      obtain rfl : k = n := by omega
      refine T_X10_pour_30 ⟨by rw [c1.1.1]; exact k6, fun _ => hq S1 c1 h1, fun cc => absurd (by rw [c1.2 _ (by omega), a5]; exact Int32.le_rfl) cc⟩
    | succ c ih =>
      intro k S1 p hk c1 h1 hq
      have hsh1 : ShL S1 (x + 66 + 2 * i) (x + 67 + 2 * i) := ⟨by rw [c1.1.1]; exact k6, by rw [c1.1.2.2.1]; exact r2, by rw [c1.1.1]; exact k12, by rw [c1.1.2.1]; exact l24⟩
      have b5 : ji S1 (x + 66 + 2 * i) 1 = nI n := by rw [c1.2 _ (by omega)]; exact a5
      have bp : ji S1 (x + 67 + 2 * i) = ji S (x + 67 + 2 * i) := c1.2 _ (by omega)
      have nx : vp1 (ji S (x + 67 + 2 * i)) sz k p = p → L_X10_pour_30 E (d + 2) Q x (x + 66 + 2 * i) p.2 (nI (k + 1)) S1 := fun e =>
        ih (k + 1) S1 p (by omega) c1 h1 (by have hq2 : ∀ S', jch S S' (x + 2) (x + 13) → XR S' x sz (jfold (vp1 (ji S (x + 67 + 2 * i)) sz) c (k + 1) (vp1 (ji S (x + 67 + 2 * i)) sz k p)).1 → Q (jfold (vp1 (ji S (x + 67 + 2 * i)) sz) c (k + 1) (vp1 (ji S (x + 67 + 2 * i)) sz k p)).2 S' := hq
                                             rw [e] at hq2; exact hq2)
      refine T_X10_pour_30 ⟨hsh1.1, fun cc => absurd cc (by rw [b5]; exact nI_ge (by omega) (by omega)), fun _ => ⟨h1.1, x + 1, h1.2.1, h1.k3, x + 2, h1.r0, h1.g.1.1, c_X0_find h1.g.1 h1.g.2.1 hz (fun m hm e => ⟨fun c => absurd c (by simp), fun b eb => ⟨hsh1.1, c_X6_isNumber hsh1 a1 b5 (by omega) (fun e0 => ⟨fun _ => ?_, fun c => absurd rfl c⟩) (fun e0 => ⟨fun c => absurd c (by decide), fun _ => ⟨hsh1.1, _, hsh1.2.1, hsh1.2.2.1, by rw [hsh1.2.2.2]; exact jin_nI (by omega) (by omega), ?_⟩⟩)⟩⟩) (fun hno => ⟨fun _ => ?_, fun b e => absurd e (by simp)⟩)⟩⟩
      · obtain rfl : k = m := nI_inj (by omega) (by omega) e
        rw [bp] at e0
        rw [nI_1]
        exact nx (by unfold vp1; rw [if_pos hm, if_pos e0])
      · obtain rfl : k = m := nI_inj (by omega) (by omega) e
        obtain rfl : x + 2 + 2 + k = b := Option.some.inj eb
        rw [bp] at e0
        rw [bp, jcl (by omega), (jcl0 _).1, nI_1]
        have ev : vp1 (ji S (x + 67 + 2 * i)) sz k p = (upd p.1 (72 + 7 * k + 4) (jclamp (ji S (x + 67 + 2 * i) k) 0 99), if jclamp (ji S (x + 67 + 2 * i) k) 0 99 = mfv p.1 k 4 then p.2 else p.2 + 1) := by unfold vp1; rw [if_pos hm, if_neg e0]
        have hq2 : ∀ S', jch S S' (x + 2) (x + 13) → XR S' x sz (jfold (vp1 (ji S (x + 67 + 2 * i)) sz) c (k + 1) (vp1 (ji S (x + 67 + 2 * i)) sz k p)).1 → Q (jfold (vp1 (ji S (x + 67 + 2 * i)) sz) c (k + 1) (vp1 (ji S (x + 67 + 2 * i)) sz k p)).2 S' := hq
        rw [ev] at hq2
        have h2 := h1.mput (i := k) (f := 4) (w := jclamp (ji S (x + 67 + 2 * i) k) 0 99) (by omega) (by omega)
        have c2 : jch S (jput S1 (x + 2 + 2 + k) 4 (jclamp (ji S (x + 67 + 2 * i) k) 0 99)) (x + 2) (x + 13) := c1.trans (jch.put (by omega) (by omega))
        refine ⟨h1.mk (by omega), fun c9 => ?_, fun c9 => ?_⟩
        · rw [h1.ms (by omega) (by omega)] at c9
          rw [if_pos c9] at hq2
          rw [Int32.add_zero]
          exact ih (k + 1) _ (upd p.1 (72 + 7 * k + 4) (jclamp (ji S (x + 67 + 2 * i) k) 0 99), p.2) (by omega) c2 h2 hq2
        · rw [h1.ms (by omega) (by omega)] at c9
          rw [if_neg c9] at hq2
          exact ih (k + 1) _ (upd p.1 (72 + 7 * k + 4) (jclamp (ji S (x + 67 + 2 * i) k) 0 99), p.2 + 1) (by omega) c2 h2 hq2
      · rw [nI_1]
        exact nx (by
          unfold vp1
          rw [if_neg (fun hm => hno k hm rfl)])
  have kM : ∀ (Q : Int32 → jM → Prop) (S0 : jM) (c k : Nat) (S1 : jM) (p : (Nat → Int32) × Int32), k + c = n → ji S1 (x + 99) i = nI n → (∀ j, j < 24 → ji S1 (x + 100) (24 * i + j) = ji S (x + 67 + 2 * i) j) → p.1 0 = nI sz → jch S0 S1 (x + 95) (x + 96) → MR S1 (x + 94) p.1 → (∀ S', jch S0 S' (x + 95) (x + 96) → MR S' (x + 94) (jfold (vp1 (ji S (x + 67 + 2 * i)) sz) c k p).1 → Q (jfold (vp1 (ji S (x + 67 + 2 * i)) sz) c k p).2 S') → L_X11_pour_27 E (d + 1) Q (x + 94) (nI i) p.2 (nI k) S1 := by
    intro Q S0 c
    induction c with
    | zero =>
      intro k S1 p hk b9 b10 p0 c1 h1 hq
      obtain rfl : k = n := by omega
      refine T_X11_pour_27 ⟨h1.k, _, h1.1.r5.1, h1.1.r5.2.1, by rw [h1.1.r5.2.2]; exact jin_nI hi (by omega), fun _ => hq S1 c1 h1, fun cc => absurd (by rw [ci, b9]; exact Int32.le_rfl) cc⟩
    | succ c ih =>
      intro k S1 p hk b9 b10 p0 c1 h1 hq
      have i0 := h1.at (i := 0) 0 rfl (by omega)
      have e24 := nI_24 i k
      refine T_X11_pour_27 ⟨h1.k, _, h1.1.r5.1, h1.1.r5.2.1, by rw [h1.1.r5.2.2]; exact jin_nI hi (by omega), fun cc => absurd cc (by rw [ci, b9]; exact nI_ge (by omega) (by omega)), fun _ => ⟨_, h1.r, h1.k1, i0.1, fun cc => ?_, fun cc => ⟨_, h1.1.r6.1, h1.1.r6.2.1, by rw [e24, h1.1.r6.2.2]; exact jin_nI (by omega) (by omega), ?_⟩⟩⟩
      · rw [i0.2, p0, nI_leI (by omega) (by omega)] at cc
        have := hq S1 c1
        rw [vp_end (c + 1) k p cc] at this
        exact this h1
      · have hm : k < sz := by
          rcases Nat.lt_or_ge k sz with h9 | h9
          · exact h9
          · exact absurd (by rw [i0.2, p0]; exact nI_le h9 (by omega)) cc
        rw [e24, jcl (by omega), b10 k (by omega), nI_1]
        have hq2 : ∀ S', jch S0 S' (x + 95) (x + 96) → MR S' (x + 94) (jfold (vp1 (ji S (x + 67 + 2 * i)) sz) c (k + 1) (vp1 (ji S (x + 67 + 2 * i)) sz k p)).1 → Q (jfold (vp1 (ji S (x + 67 + 2 * i)) sz) c (k + 1) (vp1 (ji S (x + 67 + 2 * i)) sz k p)).2 S' := hq
        have e76 : (72 + 7 * nI k) + 4 = nI (72 + 7 * k + 4) := nI_mst k 4
        refine ⟨fun e0 => c_X11_of (f := 4) h1 (by omega) (by omega) ⟨h1.k, c_X11_becomes (72 + 7 * k + 4) h1 e76 (by omega) (fun S2 c2 h2 => ⟨fun _ => ?_, fun c9 => absurd rfl c9⟩)⟩, fun e0 => c_X11_becomes (72 + 7 * k + 4) h1 e76 (by omega) (fun S2 c2 h2 => ?_)⟩
        · have ev : vp1 (ji S (x + 67 + 2 * i)) sz k p = p := by unfold vp1; rw [if_pos hm, if_pos e0]
          rw [ev] at hq2
          rw [Int32.add_zero]
          have h3 : MR S2 (x + 94) p.1 := ⟨h2.1, fun j => (h2.2 j).trans (by
            by_cases hj : j = 72 + 7 * k + 4
            · subst hj; rw [upd_at]; rfl
            · exact upd_ne _ hj)⟩
          exact ih (k + 1) S2 p (by omega) (by rw [c2.2 _ (by omega)]; exact b9) (fun j hj => by rw [c2.2 _ (by omega)]; exact b10 j hj) p0 (c1.trans c2) h3 hq2
        · have ev : vp1 (ji S (x + 67 + 2 * i)) sz k p = (upd p.1 (72 + 7 * k + 4) (jclamp (ji S (x + 67 + 2 * i) k) 0 99), if jclamp (ji S (x + 67 + 2 * i) k) 0 99 = mfv p.1 k 4 then p.2 else p.2 + 1) := by unfold vp1; rw [if_pos hm, if_neg e0]
          rw [ev] at hq2
          refine ⟨fun c9 => ?_, fun c9 => ?_⟩
          · have c8 : jclamp (ji S (x + 67 + 2 * i) k) 0 99 = mfv p.1 k 4 := c9
            rw [if_pos c8] at hq2
            rw [Int32.add_zero]
            exact ih (k + 1) S2 (upd p.1 (72 + 7 * k + 4) (jclamp (ji S (x + 67 + 2 * i) k) 0 99), p.2) (by omega) (by rw [c2.2 _ (by omega)]; exact b9) (fun j hj => by rw [c2.2 _ (by omega)]; exact b10 j hj) (by show upd p.1 (72 + 7 * k + 4) (jclamp (ji S (x + 67 + 2 * i) k) 0 99) 0 = nI sz; rw [upd_ne _ (by omega)]; exact p0) (c1.trans c2) h2 hq2
          · have c8 : ¬ jclamp (ji S (x + 67 + 2 * i) k) 0 99 = mfv p.1 k 4 := c9
            rw [if_neg c8] at hq2
            exact ih (k + 1) S2 (upd p.1 (72 + 7 * k + 4) (jclamp (ji S (x + 67 + 2 * i) k) 0 99), p.2 + 1) (by omega) (by rw [c2.2 _ (by omega)]; exact b9) (fun j hj => by rw [c2.2 _ (by omega)]; exact b10 j hj) (by show upd p.1 (72 + 7 * k + 4) (jclamp (ji S (x + 67 + 2 * i) k) 0 99) 0 = nI sz; rw [upd_ne _ (by omega)]; exact p0) (c1.trans c2) h2 hq2
  refine kC _ n 0 S (v, 0) (by omega) jch.rfl hX (fun S1 c1 h1 => ?_)
  have hMs := hM.keep c1 (by omega)
  refine U_X11_pour hMs.k ⟨fun c => absurd c hs1, fun _ => ⟨hMs.k, _, hMs.1.r4.1, hMs.1.r4.2.1, by rw [hMs.1.r4.2.2]; exact jin_nI hi (by omega), fun _ => ?_, fun c0 => absurd (by rw [ci, c1.2 _ (by omega), a4]; exact so0) c0⟩⟩
  refine kM _ S1 n 0 S1 (v, 0) (by omega) (by rw [c1.2 _ (by omega)]; exact a6) (fun j hj => by rw [c1.2 _ (by omega)]; exact (a7 j hj).1.symm) hX.v0 jch.rfl hMs (fun S2 c2 h2 => ⟨rfl, sz, _, h.next ((jfq.of (jfr.realm c1 (by omega) (by omega))).trans (jfq.of (jfr.row c2))) ⟨h1.of c2.1 (h1.2.2.keep c2 (by omega)), h2, vp_rg hz n 0 (v, 0) hg⟩ (fun j hj _ => vp_o hz n 0 (v, 0) j (by omega))⟩)
theorem Q_reads {w : Int32} (h : IV S x sz M v) : jFi E mX10_reads (d + 3) 0 0 [.ref x, .int w] S (fun r S1 => jFm E mX11_reads (d + 3) (x + 94) [.int w] S1 (fun r' S2 => r = r' ∧ INV S2 x M)) := by
  obtain ⟨⟨hX, hM, hg⟩, hC, hGL, hjn, hT, hI, hS, hSl, hW, hTp⟩ := id h
  have hz := hX.sz9
  refine T_X10_reads ⟨hX.1, c_X10_findSheet hC (fun c => ⟨fun _ => U_X11_reads hM.k ⟨fun _ => ⟨rfl, h.inv⟩, fun c2 => absurd ((jissheet_wi w).trans c) c2⟩, fun b e => absurd e (by simp)⟩) (fun i hi e e1 => ⟨fun c => absurd c (by simp), fun b eb => ?_⟩)⟩
  obtain rfl : x + 66 + 2 * i = b := Option.some.inj eb
  subst e
  have hs1 : ¬ jissheet (nI i) = 0 := by rw [jissheet_wi, e1]; decide
  have hsh := hC.sh i hi
  obtain ⟨k6, r2, k12, l24⟩ := id hsh
  obtain ⟨so, n, a1, a2, a3, a4, a5, a6, a7⟩ := hS i hi
  have hM1 := hM.1
  have ci : Int32.toNatClampNeg (nI i) = i := jcl (by omega)
  have ms := SH1.miss (i := i) a2
  refine ⟨k6, ?_⟩
  rw [a3]
  refine ⟨fun c => U_X11_reads hM.k ⟨fun c => absurd c hs1, fun _ => ⟨hM.k, _, hM1.r4.1, hM1.r4.2.1, by rw [hM1.r4.2.2]; exact jin_nI hi (by omega), fun c0 => absurd c0 (by rw [ci, a4]; exact ms.mp c), fun _ => ⟨rfl, h.inv⟩⟩⟩, fun c => ?_⟩
  have so0 : 0 ≤ so := by
    rcases a2 with e | e | e
    · exact absurd e c
    · rw [e]; decide
    · rw [e]; decide
  have i0 := hM.at (i := 0) 0 rfl (by omega)
  -- both walk alike: what is left to answer from place k on
  have both : ∀ (c k : Nat), k + c = n → ∀ (Q : Int32 → jM → Prop), (∀ r, L_X11_reads_25 E (d + 1) (fun r' S2 => r = r' ∧ INV S2 x M) (x + 94) (nI i) (nI k) S → Q r S) → L_X10_reads_27 E (d + 2) Q x (x + 66 + 2 * i) (nI k) S := by
    intro c
    induction c with
    | zero =>
      intro k hk Q hq
      obtain rfl : k = n := by omega
      refine T_X10_reads_27 ⟨k6, fun _ => hq _ (T_X11_reads_25 ⟨hM.k, _, hM1.r5.1, hM1.r5.2.1, by rw [hM1.r5.2.2]; exact jin_nI hi (by omega), fun _ => ⟨rfl, h.inv⟩, fun cc => absurd (by rw [ci, a6]; exact Int32.le_rfl) cc⟩), fun cc => absurd (by rw [a5]; exact Int32.le_rfl) cc⟩
    | succ c ih =>
      intro k hk Q hq
      have e24 := nI_24 i k
      have ref : ∀ r, (ji S (x + 67 + 2 * i) k = kNONE → L_X11_reads_25 E (d + 1) (fun r' S2 => r = r' ∧ INV S2 x M) (x + 94) (nI i) (nI (k + 1)) S) → (¬ ji S (x + 67 + 2 * i) k = kNONE → sz ≤ k → r = nI k) → (¬ ji S (x + 67 + 2 * i) k = kNONE → k < sz → ji S (x + 67 + 2 * i) k = mfv v k 5 → L_X11_reads_25 E (d + 1) (fun r' S2 => r = r' ∧ INV S2 x M) (x + 94) (nI i) (nI (k + 1)) S) → (¬ ji S (x + 67 + 2 * i) k = kNONE → k < sz → ¬ ji S (x + 67 + 2 * i) k = mfv v k 5 → r = nI k) → L_X11_reads_25 E (d + 1) (fun r' S2 => r = r' ∧ INV S2 x M) (x + 94) (nI i) (nI k) S := by
        intro r q1 q2 q3 q4
        refine T_X11_reads_25 ⟨hM.k, _, hM1.r5.1, hM1.r5.2.1, by rw [hM1.r5.2.2]; exact jin_nI hi (by omega), fun cc => absurd cc (by rw [ci, a6]; exact nI_ge (by omega) (by omega)), fun _ => ⟨_, hM1.r6.1, hM1.r6.2.1, by rw [e24, hM1.r6.2.2]; exact jin_nI (by omega) (by omega), ?_⟩⟩
        rw [e24, jcl (by omega), ← (a7 k (by omega)).1, nI_1]
        refine ⟨q1, fun e0 => ⟨_, hM.r, hM.k1, i0.1, fun cc => ?_, fun cc => ?_⟩⟩
        · rw [i0.2, hX.v0, nI_leI (by omega) (by omega)] at cc
          exact ⟨q2 e0 cc, h.inv⟩
        · have hm : k < sz := by
            rcases Nat.lt_or_ge k sz with h9 | h9
            · exact h9
            · exact absurd (by rw [i0.2, hX.v0]; exact nI_le h9 (by omega)) cc
          exact c_X11_of (f := 5) hM (by omega) (by omega) ⟨fun e5 => q3 e0 hm e5, fun e5 => ⟨q4 e0 hm e5, h.inv⟩⟩
      have num : ∀ {Q2 : Int32 → jM → Prop}, (ji S (x + 67 + 2 * i) k = kNONE → Q2 0 S) → (¬ ji S (x + 67 + 2 * i) k = kNONE → Q2 1 S) → jFi E mX6_isNumber (d + 2) 0 0 [.ref (x + 66 + 2 * i), .int (nI k)] S Q2 := fun q0 q1 => c_X6_isNumber hsh a1 a5 (by omega) q0 q1
      refine T_X10_reads_27 ⟨k6, fun cc => absurd cc (by rw [a5]; exact nI_ge (by omega) (by omega)), fun _ => ⟨hX.1, x + 1, hX.2.1, hX.k3, x + 2, hX.r0, hX.g.1.1, c_X0_find hX.g.1 hX.g.2.1 hz (fun m hm e => ⟨fun c => absurd c (by simp), fun b eb => ⟨k6, num (fun e0 => ⟨fun _ => ?_, fun c => absurd rfl c⟩) (fun e0 => ⟨fun c => absurd c (by decide), fun _ => ⟨k6, _, r2, k12, by rw [l24]; exact jin_nI (by omega) (by omega), ?_⟩⟩)⟩⟩) (fun hno => ⟨fun _ => ⟨k6, num (fun e0 => ⟨fun _ => ?_, fun c => absurd rfl c⟩) (fun e0 => ⟨fun c => absurd c (by decide), fun _ => ?_⟩)⟩, fun b e => absurd e (by simp)⟩)⟩⟩
      · rw [nI_1]
        exact ih (k + 1) (by omega) Q (fun r hr => hq r (ref r (fun _ => hr) (fun c => absurd e0 c) (fun c => absurd e0 c) (fun c => absurd e0 c)))
      · obtain rfl : k = m := nI_inj (by omega) (by omega) e
        obtain rfl : x + 2 + 2 + k = b := Option.some.inj eb
        rw [jcl (by omega), nI_1]
        refine ⟨hX.mk (by omega), fun e5 => ?_, fun e5 => ?_⟩
        · rw [hX.ms (by omega) (by omega)] at e5
          exact ih (k + 1) (by omega) Q (fun r hr => hq r (ref r (fun c => absurd c e0) (fun _ c => absurd hm (by omega)) (fun _ _ _ => hr) (fun _ _ c => absurd e5 c)))
        · rw [hX.ms (by omega) (by omega)] at e5
          exact hq _ (ref _ (fun c => absurd c e0) (fun _ c => absurd hm (by omega)) (fun _ _ c => absurd c e5) (fun _ _ _ => rfl))
      · rw [nI_1]
        exact ih (k + 1) (by omega) Q (fun r hr => hq r (ref r (fun _ => hr) (fun c => absurd e0 c) (fun c => absurd e0 c) (fun c => absurd e0 c)))
      · have hk2 : sz ≤ k := by
          rcases Nat.lt_or_ge k sz with h9 | h9
          · exact absurd rfl (hno k h9)
          · exact h9
        exact hq _ (ref _ (fun c => absurd c e0) (fun _ _ => rfl) (fun _ c => absurd c (by omega)) (fun _ c => absurd c (by omega)))
  exact both n 0 (by omega) _ (fun r hr => U_X11_reads hM.k ⟨fun c => absurd c hs1, fun _ => ⟨hM.k, _, hM1.r4.1, hM1.r4.2.1, by rw [hM1.r4.2.2]; exact jin_nI hi (by omega), fun _ => hr, fun c0 => absurd (by rw [ci, a4]; exact so0) c0⟩⟩)
end jPour
end
section
/-! COPY; SLOTS: LAY, ASK, ITEM, REST on both sides -/
section jSlots
variable {E : jEnv} {d : Nat} {S S' : jM} {x sz M : Nat} {v : Nat → Int32}
theorem jl_sum {p n s : Nat} (hp : p < 2 ^ 31) (hn : n < 2 ^ 31) (hs : s < 2 ^ 31) : (0 < lg_cmp ((nI p).toInt64 + (nI n).toInt64) (nI s).toInt64) ↔ s < p + n := by
  rw [jcmp_gt, nI_l hp, nI_l hn, nI_l hs, lN_add, Int64.lt_iff_toInt_lt, lN_toInt hs]
  have e : (lN (p + n)).toInt = ((p + n : Nat) : Int) := lg_ofNat_toInt (by omega)
  rw [e]; omega
theorem c_X6_hasPlaces {Q : Int32 → jM → Prop} {a n : Nat} {p m : Int32} (hk : jk S a = 6) (hn : n ≤ 24) (e : ji S a 1 = nI n) (h0 : (p < 0 ∨ m < 0 ∨ ∀ i j, i < 2 ^ 31 → j < 2 ^ 31 → p = nI i → m = nI j → n < i + j) → Q 0 S) (h1 : ∀ i j, p = nI i → m = nI j → i + j ≤ n → Q 1 S) : jFi E mX6_hasPlaces d 0 0 [.ref a, .int p, .int m] S Q := by
  refine T_X6_hasPlaces ⟨fun c => h0 (Or.inl c), fun c1 => ⟨fun c => h0 (Or.inr (Or.inl c)), fun c2 => ⟨hk, ?_⟩⟩⟩
  obtain ⟨i, hi, ei⟩ := nI_of c1
  obtain ⟨j, hj, ej⟩ := nI_of c2
  subst ei; subst ej
  rw [e]
  refine ⟨fun c => h0 (Or.inr (Or.inr (fun i' j' hi' hj' ei ej => ?_))), fun c => ?_⟩
  · have := nI_inj hj hj' ej
    have := (nI_ltI (by omega) (by omega)).mp c
    omega
  · have hjn : j ≤ n := by
      rcases Nat.lt_or_ge n j with h9 | h9
      · exact absurd (nI_lt h9 (by omega)) c
      · exact h9
    have es : nI n - nI j = nI (n - j) := by
      have e2 : nI n = nI j + nI (n - j) := by rw [nI_add]; congr 1; omega
      rw [e2, Int32.add_comm, Int32.add_sub_cancel]
    rw [es]
    refine ⟨fun c3 => h0 (Or.inr (Or.inr (fun i' j' hi' hj' ei ej => ?_))), fun c3 => h1 i j rfl rfl ?_⟩
    · have := nI_inj hj hj' ej
      have := nI_inj hi hi' ei
      have := (nI_ltI (by omega) (by omega)).mp c3
      omega
    · rcases Nat.lt_or_ge (n - j) i with h9 | h9
      · exact absurd (nI_lt h9 (by omega)) c3
      · omega
theorem Q_copy {w u t a n : Int32} (h : IV S x sz M v) : jFi E mX10_copy (d + 2) 0 0 [.ref x, .int w, .int u, .int t, .int a, .int n] S (fun r S1 => jFm E mX11_copy (d + 2) (x + 94) [.int w, .int u, .int t, .int a, .int n] S1 (fun r' S2 => r = r' ∧ INV S2 x M)) := by
  obtain ⟨⟨hX, hM, hg⟩, hC, hGL, hjn, hT, hI, hS, hSl, hW, hTp⟩ := id h
  have hk := hM.k
  have bad : jwi w 4 = 0 ∨ jwi t 4 = 0 → jFm E mX11_copy (d + 2) (x + 94) [.int w, .int u, .int t, .int a, .int n] S (fun r' S2 => kBAD = r' ∧ INV S2 x M) := by
    intro hc
    refine U_X11_copy hk ⟨fun _ => ⟨rfl, h.inv⟩, fun c => ⟨fun _ => ⟨rfl, h.inv⟩, fun c2 => ?_⟩⟩
    rcases hc with hc | hc
    · exact absurd ((jissheet_wi w).trans hc) c
    · exact absurd ((jissheet_wi t).trans hc) c2
  refine T_X10_copy ⟨hX.1, c_X10_findSheet hC (fun c => ⟨fun _ => ⟨hX.1, c_X10_findSheet hC (fun c2 => ⟨fun _ => bad (Or.inl c), fun _ _ => bad (Or.inl c)⟩) (fun _ _ _ _ => ⟨fun _ => bad (Or.inl c), fun _ _ => bad (Or.inl c)⟩)⟩, fun b e => absurd e (by simp)⟩) (fun i hi e e1 => ⟨fun c => absurd c (by simp), fun b eb => ⟨hX.1, c_X10_findSheet hC (fun c2 => ⟨fun _ => bad (Or.inr c2), fun b e => absurd e (by simp)⟩) (fun k hk4 f f1 => ⟨fun c => absurd c (by simp), fun b2 eb2 => ?_⟩)⟩⟩)⟩
  obtain rfl : x + 66 + 2 * i = b := Option.some.inj eb
  obtain rfl : x + 66 + 2 * k = b2 := Option.some.inj eb2
  subst e
  subst f
  obtain ⟨k6, r2, k12, l24⟩ := hC.sh i hi
  obtain ⟨p6, q2, p12, q24⟩ := hC.sh k hk4
  obtain ⟨so, s1, a1, a2, a3, a4, a5, a6, a7⟩ := hS i hi
  obtain ⟨sp, s2, b1, b2, b3, b4, b5, b6, b7⟩ := hS k hk4
  have hM1 := hM.1
  have ci : Int32.toNatClampNeg (nI i) = i := jcl (by omega)
  have ck : Int32.toNatClampNeg (nI k) = k := jcl (by omega)
  have hs1 : ¬ jissheet (nI i) = 0 := by rw [jissheet_wi, e1]; decide
  have hs2 : ¬ jissheet (nI k) = 0 := by rw [jissheet_wi, f1]; decide
  have in4 : ∀ y, y < 4 → vp_in (nI y) (jl S (x + 98)) := fun y hy => by rw [hM1.r4.2.2]; exact jin_nI hy (by omega)
  have neg1 : ∀ z : Int32, (z = -1 ∨ z = 0 ∨ z = 1) → (z < 0 ↔ z = -1) := by
    intro z hz
    rcases hz with rfl | rfl | rfl <;> decide
  refine ⟨k6, ?_⟩
  rw [a3, b3]
  refine ⟨fun c => U_X11_copy hk ⟨fun c => absurd c hs1, fun _ => ⟨fun c => absurd c hs2, fun _ => ⟨hk, _, hM1.r4.1, hM1.r4.2.1, in4 i hi, fun _ => ⟨rfl, h.inv⟩, fun c0 => absurd (by rw [ci, a4]; exact (neg1 so a2).mpr c) c0⟩⟩⟩, fun c => ⟨p6, fun c2 => ?_, fun c2 => ⟨fun c3 => ?_, fun c3 => ?_⟩⟩⟩
  all_goals
    have n1 : ¬ ji S (x + 98) (Int32.toNatClampNeg (nI i)) < 0 := by rw [ci, a4]; exact fun q => c ((neg1 so a2).mp q)
  · exact U_X11_copy hk ⟨fun c => absurd c hs1, fun _ => ⟨fun c => absurd c hs2, fun _ => ⟨hk, _, hM1.r4.1, hM1.r4.2.1, in4 i hi, fun c0 => absurd c0 n1, fun _ => ⟨in4 k hk4, fun c0 => absurd c0 (by rw [ck, b4, c2]; decide), fun _ => ⟨rfl, h.inv⟩⟩⟩⟩⟩
  all_goals
    have n2 : (0 : Int32) ≤ ji S (x + 98) (Int32.toNatClampNeg (nI k)) := by rw [ck, b4]; exact Int32.not_lt.mp (fun q => c2 ((neg1 sp b2).mp q))
  · -- of one sort
    have ix : ∀ (r : Int32), r = (-1000000013) → (u < 0 ∨ n < 0 ∨ a < 0 ∨ (∀ p q, p < 2 ^ 31 → q < 2 ^ 31 → u = nI p → n = nI q → s1 < p + q) ∨ (∀ p q, p < 2 ^ 31 → q < 2 ^ 31 → a = nI p → n = nI q → s2 < p + q)) → jFm E mX11_copy (d + 2) (x + 94) [.int (nI i), .int u, .int (nI k), .int a, .int n] S (fun r' S2 => r = r' ∧ INV S2 x M) := by
      intro r hr hc
      subst hr
      refine U_X11_copy hk ⟨fun c => absurd c hs1, fun _ => ⟨fun c => absurd c hs2, fun _ => ⟨hk, _, hM1.r4.1, hM1.r4.2.1, in4 i hi, fun c0 => absurd c0 n1, fun _ => ⟨in4 k hk4, fun _ => ⟨fun _ => ⟨fun _ => ⟨rfl, h.inv⟩, fun u0 => ⟨fun _ => ⟨rfl, h.inv⟩, fun a0 => ⟨fun _ => ⟨rfl, h.inv⟩, fun n0 => ⟨_, hM1.r5.1, hM1.r5.2.1, by rw [hM1.r5.2.2]; exact jin_nI hi (by omega), fun _ => ⟨rfl, h.inv⟩, fun g1 => ⟨by rw [hM1.r5.2.2]; exact jin_nI hk4 (by omega), fun g2 => ?_, fun _ => ⟨rfl, h.inv⟩⟩⟩⟩⟩⟩, fun c0 => absurd (by rw [ci, ck, a4, b4]; exact c3) c0⟩, fun c0 => absurd n2 c0⟩⟩⟩⟩
      exfalso
      obtain ⟨p, hp, ep⟩ := nI_of u0
      obtain ⟨q, hq, eq⟩ := nI_of n0
      obtain ⟨o, ho, eo⟩ := nI_of a0
      rw [ci, a6, ep, eq, jl_sum hp hq (by omega)] at g1
      rw [ck, b6, eo, eq] at g2
      have g2' : ¬ 0 < lg_cmp ((nI o).toInt64 + (nI q).toInt64) (nI s2).toInt64 := Int32.not_lt.mpr g2
      rw [jl_sum ho hq (by omega)] at g2'
      rcases hc with hc | hc | hc | hc | hc
      · exact u0 hc
      · exact n0 hc
      · exact a0 hc
      · exact g1 (hc p q hp hq ep eq)
      · exact g2' (hc o q ho hq eo eq)
    refine c_X6_hasPlaces k6 a1 a5 (fun hc => ⟨fun _ => ix _ rfl ?_, fun c => absurd rfl c⟩) (fun p q ep eq hpq => ⟨fun c => absurd c (by decide), fun _ => ⟨p6, ?_⟩⟩)
    · rcases hc with hc | hc | hc
      · exact Or.inl hc
      · exact Or.inr (Or.inl hc)
      · exact Or.inr (Or.inr (Or.inr (Or.inl hc)))
    refine c_X6_hasPlaces p6 b1 b5 (fun hc => ⟨fun _ => ix _ rfl ?_, fun c => absurd rfl c⟩) (fun o q' eo eq' hoq => ⟨fun c => absurd c (by decide), fun _ => ?_⟩)
    · rcases hc with hc | hc | hc
      · exact Or.inr (Or.inr (Or.inl hc))
      · exact Or.inr (Or.inl hc)
      · exact Or.inr (Or.inr (Or.inr (Or.inr hc)))
    subst ep; subst eq; subst eo
    have hq24 : q ≤ 24 := by omega
    obtain rfl : q = q' := by
      have hq' : q' ≤ 24 := by omega
      exact nI_inj (by omega) (by omega) eq'
    refine ⟨k6, _, r2, p6, _, q2, k12, p12, ⟨nI_pos (by omega), nI_pos (by omega), nI_pos (by omega), by rw [jcl (by omega), jcl (by omega), l24]; omega, by rw [jcl (by omega), jcl (by omega), q24]; omega⟩, ?_⟩
    rw [jcl (n := p) (by omega), jcl (n := o) (by omega), jcl (n := q) (by omega)]
    have c1 : jch S (jrow S (x + 67 + 2 * k) (va_cpy (ji S (x + 67 + 2 * i)) (ji S (x + 67 + 2 * k)) p o q)) (x + 67 + 2 * k) (x + 68 + 2 * k) := jch.row (by omega) (by omega)
    have e1 : ji (jrow S (x + 67 + 2 * k) (va_cpy (ji S (x + 67 + 2 * i)) (ji S (x + 67 + 2 * k)) p o q)) (x + 67 + 2 * k) = va_cpy (ji S (x + 67 + 2 * i)) (ji S (x + 67 + 2 * k)) p o q := ji_row_same _ _ _
    generalize jrow S (x + 67 + 2 * k) (va_cpy (ji S (x + 67 + 2 * i)) (ji S (x + 67 + 2 * k)) p o q) = S1 at c1 e1 ⊢
    have hMs := hM.keep c1 (by omega)
    have m1 := hMs.1
    have r100 : ji S1 (x + 100) = ji S (x + 100) := c1.2 _ (by omega)
    -- the second row of steps
    have lB : ∀ (S0 : jM), jch S1 S0 (x + 112) (x + 113) → (∀ j, j < q → ji S0 (x + 112) j = ji S (x + 100) (24 * i + p + j)) → ∀ (c e : Nat) (S2 : jM), e + c = q → jch S0 S2 (x + 100) (x + 101) → (∀ j, ji S2 (x + 100) j = if 24 * k + o ≤ j ∧ j < 24 * k + o + e then ji S0 (x + 112) (j - (24 * k + o)) else ji S (x + 100) j) → L_X11_copy_150 E d (fun r' S2 => nI q = r' ∧ INV S2 x M) (x + 94) (nI k) (nI o) (nI q) (nI e) S2 := by
      intro S0 c0 hc0 c
      induction c with
      | zero =>
        intro e S2 he c2 h2
        obtain rfl : e = q := by omega
        refine T_X11_copy_150 ⟨fun _ => ⟨rfl, ?_⟩, fun cc => absurd Int32.le_rfl cc⟩
        have s3 : jsame S S2 := c1.1.trans (c0.1.trans c2.1)
        have o4 : ∀ y, y ≠ x + 67 + 2 * k → y ≠ x + 100 → y ≠ x + 112 → ji S2 y = ji S y := fun y a b c => (c2.2 y (by omega)).trans ((c0.2 y (by omega)).trans (c1.2 y (by omega)))
        refine h.rst s3 (fun y hy => o4 y (by omega) (by omega) (by omega)) ⟨hI.keep s3 (by rw [o4 x (by omega) (by omega) (by omega)]) (by rw [o4 (x + 94) (by omega) (by omega) (by omega)]) (fun y hy => o4 y (by omega) (by omega) (by omega)), fun l hl => ?_, hSl.keep (fun y hy => o4 y (by omega) (by omega) (by omega)), hW.keep (by rw [o4 x (by omega) (by omega) (by omega)]) (by rw [o4 (x + 94) (by omega) (by omega) (by omega)]) (o4 _ (by omega) (by omega) (by omega)) (o4 _ (by omega) (by omega) (by omega)), hTp.keep (by rw [o4 (x + 60) (by omega) (by omega) (by omega)]) (by rw [o4 (x + 94) (by omega) (by omega) (by omega)]) (o4 _ (by omega) (by omega) (by omega)) (o4 _ (by omega) (by omega) (by omega))⟩
        obtain ⟨z, s9, d1, d2, d3, d4, d5, d6, d7⟩ := hS l hl
        refine ⟨z, s9, d1, d2, by rw [o4 _ (by omega) (by omega) (by omega)]; exact d3, by rw [o4 _ (by omega) (by omega) (by omega)]; exact d4, by rw [o4 _ (by omega) (by omega) (by omega)]; exact d5, by rw [o4 _ (by omega) (by omega) (by omega)]; exact d6, fun j hj => ?_⟩
        rw [h2 (24 * l + j)]
        by_cases hlk : l = k
        · subst hlk
          have e9 : ji S2 (x + 67 + 2 * l) = va_cpy (ji S (x + 67 + 2 * i)) (ji S (x + 67 + 2 * l)) p o e := by rw [c2.2 _ (by omega), c0.2 _ (by omega)]; exact e1
          rw [e9]
          by_cases hin : o ≤ j ∧ j < o + e
          · rw [pk_cpy_in hin.1 hin.2, if_pos (by omega), hc0 _ (by omega), show 24 * i + p + (24 * l + j - (24 * l + o)) = 24 * i + (p + (j - o)) by omega]
            exact a7 _ (by omega)
          · rw [pk_cpy_out (by omega), if_neg (by omega)]
            exact d7 j hj
        · rw [if_neg (by omega), o4 _ (by omega) (by omega) (by omega)]
          exact d7 j hj
      | succ c ih =>
        intro e S2 he c2 h2
        have m2 := (m1.same c0.1).same c2.1
        have e24 : ((24 : Int32) * nI k + nI o) + nI e = nI (24 * k + o + e) := by rw [nI_24, nI_add]
        refine T_X11_copy_150 ⟨fun cc => absurd cc (nI_ge (by omega) (by omega)), fun _ => ⟨m2.1, _, m2.r6.1, _, m2.r32.1, m2.r32.2.1, by rw [m2.r32.2.2]; exact jin_nI (by omega) (by omega), m2.r6.2.1, by rw [e24, m2.r6.2.2]; exact jin_nI (by omega) (by omega), ?_⟩⟩
        rw [e24, jcl (n := 24 * k + o + e) (by omega), jcl (n := e) (by omega), nI_1, c2.2 (x + 112) (by omega)]
        refine ih (e + 1) _ (by omega) (c2.trans (jch.put (by omega) (by omega))) (fun j => ?_)
        rw [ji_put]
        by_cases hj : j = 24 * k + o + e
        · rw [if_pos ⟨rfl, hj⟩, if_pos (by omega), hj, show 24 * k + o + e - (24 * k + o) = e by omega]
        · rw [if_neg (fun cc => hj cc.2), h2 j]
          by_cases hc : 24 * k + o ≤ j ∧ j < 24 * k + o + e
          · rw [if_pos hc, if_pos (by omega)]
          · rw [if_neg hc, if_neg (by omega)]
    have lA : ∀ (c e : Nat) (S2 : jM), e + c = q → jch S1 S2 (x + 112) (x + 113) → (∀ j, j < e → ji S2 (x + 112) j = ji S (x + 100) (24 * i + p + j)) → L_X11_copy_113 E d (fun r' S2 => nI q = r' ∧ INV S2 x M) (x + 94) (nI i) (nI p) (nI k) (nI o) (nI q) (nI e) S2 := by
      intro c
      induction c with
      | zero =>
        intro e S2 he c2 h2
        obtain rfl : e = q := by omega
        exact T_X11_copy_113 ⟨fun _ => lB S2 c2 h2 e 0 S2 (by omega) jch.rfl (fun j => by rw [if_neg (by omega), c2.2 (x + 100) (by omega), r100]), fun cc => absurd Int32.le_rfl cc⟩
      | succ c ih =>
        intro e S2 he c2 h2
        have m2 := m1.same c2.1
        have e24 : ((24 : Int32) * nI i + nI p) + nI e = nI (24 * i + p + e) := by rw [nI_24, nI_add]
        refine T_X11_copy_113 ⟨fun cc => absurd cc (nI_ge (by omega) (by omega)), fun _ => ⟨m2.1, _, m2.r32.1, _, m2.r6.1, m2.r6.2.1, by rw [e24, m2.r6.2.2]; exact jin_nI (by omega) (by omega), m2.r32.2.1, by rw [m2.r32.2.2]; exact jin_nI (by omega) (by omega), ?_⟩⟩
        rw [e24, jcl (n := 24 * i + p + e) (by omega), jcl (n := e) (by omega), nI_1, c2.2 (x + 100) (by omega), r100]
        refine ih (e + 1) _ (by omega) (c2.trans (jch.put (by omega) (by omega))) (fun j hj => ?_)
        rw [ji_put]
        by_cases hje : j = e
        · rw [if_pos ⟨rfl, hje⟩, hje]
        · rw [if_neg (fun cc => hje cc.2)]; exact h2 j (by omega)
    have o98 : ji S1 (x + 98) = ji S (x + 98) := c1.2 _ (by omega)
    have o99 : ji S1 (x + 99) = ji S (x + 99) := c1.2 _ (by omega)
    refine U_X11_copy m1.1 ⟨fun c => absurd c hs1, fun _ => ⟨fun c => absurd c hs2, fun _ => ⟨m1.1, _, m1.r4.1, m1.r4.2.1, by rw [m1.r4.2.2]; exact jin_nI hi (by omega), fun c0 => absurd (by rw [o98] at c0; exact c0) n1, fun _ => ⟨by rw [m1.r4.2.2]; exact jin_nI hk4 (by omega), fun _ => ⟨fun _ => ⟨fun c0 => absurd c0 (nI_pos (by omega)), fun _ => ⟨fun c0 => absurd c0 (nI_pos (by omega)), fun _ => ⟨fun c0 => absurd c0 (nI_pos (by omega)), fun _ => ⟨_, m1.r5.1, m1.r5.2.1, by rw [m1.r5.2.2]; exact jin_nI hi (by omega), fun g1 => ?_, fun _ => ⟨by rw [m1.r5.2.2]; exact jin_nI hk4 (by omega), fun _ => lA q 0 S1 (by omega) jch.rfl (fun j hj => absurd hj (Nat.not_lt_zero _)), fun g2 => ?_⟩⟩⟩⟩⟩, fun c0 => absurd (by rw [o98, ci, ck, a4, b4]; exact c3) c0⟩, fun c0 => absurd (by rw [o98]; exact n2) c0⟩⟩⟩⟩
    · exfalso
      rw [ci, o99, a6, jl_sum (by omega) (by omega) (by omega)] at g1
      omega
    · exfalso
      rw [ck, o99, b6] at g2
      have g3 : 0 < lg_cmp ((nI o).toInt64 + (nI q).toInt64) (nI s2).toInt64 := Int32.not_le.mp g2
      rw [jl_sum (by omega) (by omega) (by omega)] at g3
      omega
  · exact U_X11_copy hk ⟨fun c => absurd c hs1, fun _ => ⟨fun c => absurd c hs2, fun _ => ⟨hk, _, hM1.r4.1, hM1.r4.2.1, in4 i hi, fun c0 => absurd c0 n1, fun _ => ⟨in4 k hk4, fun _ => ⟨fun c0 => absurd (by rw [ci, ck, a4, b4] at c0; exact c0) c3, fun _ => ⟨rfl, h.inv⟩⟩, fun c0 => absurd n2 c0⟩⟩⟩⟩
end jSlots
end
section
/-! SLOTS: LAY, ASK, ITEM, REST on both sides -/
def SL1 (S : jM) (x i : Nat) : Prop := ∃ th, th < 4 ∧ ji S (x + 74 + 4 * i) 0 = nI th ∧ ji S (x + 101) i = nI th ∧ (th = 1 → (∃ k, k < 6 ∧ ji S (x + 75 + 4 * i) 0 = nI k ∧ ji S (x + 102) i = nI k) ∧ ji S (x + 103) i = jworth (ji S (x + 75 + 4 * i) 0) (ji S (x + 75 + 4 * i) 4)) ∧ (th = 2 → (∃ n, n ≤ 24 ∧ ji S (x + 76 + 4 * i) 1 = nI n ∧ ji S (x + 104) i = nI n) ∧ ∀ j, j < 24 → ji S (x + 77 + 4 * i) j = ji S (x + 105) (24 * i + j)) ∧ (th = 3 → ji S (x + 74 + 4 * i) 3 = ji S (x + 102) i)
section jLay
variable {E : jEnv} {d : Nat} {S S' S2 : jM} {x sz M : Nat} {v : Nat → Int32}
theorem IV.slot {i : Nat} (h : IV S x sz M v) (hi : i < 5) (s : jsame S S2) (o : ∀ y, (y < x + 74 + 4 * i ∨ x + 78 + 4 * i ≤ y) → (y < x + 101 ∨ x + 106 ≤ y) → ji S2 y = ji S y) (ol : ∀ l, l < 5 → l ≠ i → ji S2 (x + 101) l = ji S (x + 101) l ∧ ji S2 (x + 102) l = ji S (x + 102) l ∧ ji S2 (x + 103) l = ji S (x + 103) l ∧ ji S2 (x + 104) l = ji S (x + 104) l ∧ ∀ j, j < 24 → ji S2 (x + 105) (24 * l + j) = ji S (x + 105) (24 * l + j)) (h1 : SL1 S2 x i) : INV S2 x M := by
  obtain ⟨⟨hX, hM, hg⟩, hC, hGL, hjn, hT, hI, hS, hSl, hW, hTp⟩ := id h
  refine h.rst s (fun y hy => o y (by omega) (by omega)) ⟨hI.keep s (by rw [o x (by omega) (by omega)]) (by rw [o (x + 94) (by omega) (by omega)]) (fun y hy => o y (by omega) (by omega)), hS.keep (fun y hy => o y (by omega) (by omega)), fun l hl => ?_, hW.keep (by rw [o x (by omega) (by omega)]) (by rw [o (x + 94) (by omega) (by omega)]) (o _ (by omega) (by omega)) (o _ (by omega) (by omega)), hTp.keep (by rw [o (x + 60) (by omega) (by omega)]) (by rw [o (x + 94) (by omega) (by omega)]) (o _ (by omega) (by omega)) (o _ (by omega) (by omega))⟩
  by_cases e : l = i
  · rw [e]; exact h1
  · obtain ⟨b1, b2, b3, b4, b5⟩ := ol l hl e
    have p0 := o (x + 74 + 4 * l) (by omega) (by omega)
    have p1 := o (x + 75 + 4 * l) (by omega) (by omega)
    have p2 := o (x + 76 + 4 * l) (by omega) (by omega)
    have p3 := o (x + 77 + 4 * l) (by omega) (by omega)
    obtain ⟨th, a1, a2, a3, a4, a5, a6⟩ := hSl l hl
    rw [p0, p1, p2, p3, b1, b2, b3, b4]
    refine ⟨th, a1, a2, a3, a4, fun c => ⟨(a5 c).1, fun j hj => ?_⟩, a6⟩
    rw [b5 j hj]; exact (a5 c).2 j hj
theorem c_X11_lay {Q : Int32 → jM → Prop} {i : Nat} {u t : Int32} (hM : MR S (x + 94) v) (hz0 : v 0 = nI sz) (hz : sz ≤ 9) (hi : i < 5)
    (hb : ((u ≠ 0 ∧ u ≠ 1 ∧ u ≠ 2 ∧ u ≠ 3) ∨ (u = 1 ∧ ∀ n, n < sz → t ≠ nI n) ∨ (u = 2 ∧ jwi t 4 = 0)) → Q kBAD S)
    (h0 : u = 0 ∨ u = 3 → Q (ji S (x + 101) i) (jput (jput (jput S (x + 101) i u) (x + 102) i t) (x + 103) i 0))
    (h1 : u = 1 → ∀ n, n < sz → t = nI n → Q (ji S (x + 101) i) (jput (jput (jput S (x + 101) i u) (x + 102) i (mfv v n 0)) (x + 103) i (jworth (mfv v n 0) (mfv v n 4))))
    (h2 : u = 2 → ∀ k, k < 4 → t = nI k → ¬ 0 ≤ ji S (x + 98) k → Q kNOTHING S)
    (h3 : u = 2 → ∀ k, k < 4 → t = nI k → 0 ≤ ji S (x + 98) k → ∀ S2, jsame S S2 → (∀ y, (y < x + 101 ∨ x + 106 ≤ y) → ji S2 y = ji S y) → (∀ l, l < 5 → l ≠ i → ji S2 (x + 101) l = ji S (x + 101) l ∧ ji S2 (x + 102) l = ji S (x + 102) l ∧ ji S2 (x + 103) l = ji S (x + 103) l ∧ ji S2 (x + 104) l = ji S (x + 104) l ∧ ∀ j, j < 24 → ji S2 (x + 105) (24 * l + j) = ji S (x + 105) (24 * l + j)) → ji S2 (x + 101) i = 2 → ji S2 (x + 104) i = ji S (x + 99) k → (∀ j, j < 24 → ji S2 (x + 105) (24 * i + j) = ji S (x + 100) (24 * k + j)) → Q (ji S (x + 101) i) S2) : jFm E mX11_lay (d + 2) (x + 94) [.int (nI i), .int u, .int t] S Q := by
  have e : jisslot (nI i) ≠ 0 := by rw [jisslot_wi, show (5 : Int32) = nI 5 from rfl, jwi_at hi (by omega)]; decide
  have m := hM.1
  have ci : Int32.toNatClampNeg (nI i) = i := jcl (by omega)
  have i5 : ∀ n, n = 5 → vp_in (nI i) n := fun n hn => by rw [hn]; exact jin_nI hi (by omega)
  have i7 := i5 _ m.r7.2.2
  have i8 := i5 _ m.r8.2.2
  have i9 := i5 _ m.r9.2.2
  have i10 := i5 _ m.r10.2.2
  refine U_X11_lay hM.k ⟨fun c0 => ⟨fun c => absurd c e, fun _ => ⟨fun c2 => absurd (c0.symm.trans c2) (by decide), fun _ => ⟨m.1, _, m.r7.1, m.r7.2.1, i7, _, m.r8.1, fun c1 => absurd (c0.symm.trans c1) (by decide), fun _ => ⟨m.r8.2.1, i8, _, m.r9.1, m.r9.2.1, i9, ?_⟩⟩⟩⟩, fun c0 => ⟨fun c3 => ⟨fun c => absurd c e, fun _ => ⟨fun c2 => absurd (c3.symm.trans c2) (by decide), fun _ => ⟨m.1, _, m.r7.1, m.r7.2.1, i7, _, m.r8.1, fun c1 => absurd (c3.symm.trans c1) (by decide), fun _ => ⟨m.r8.2.1, i8, _, m.r9.1, m.r9.2.1, i9, ?_⟩⟩⟩⟩, fun c3 => ⟨fun c1 => ⟨m.1, c_X11_isMaster hM hz0 hz (fun n hn en => ⟨fun c => absurd c (by decide), fun _ => ⟨fun c => absurd c e, fun _ => ⟨fun c2 => absurd (c1.symm.trans c2) (by decide), fun _ => ⟨m.1, _, m.r7.1, m.r7.2.1, i7, _, m.r8.1, ?_⟩⟩⟩⟩) (fun hn => ⟨fun _ => ⟨fun c2 => absurd (c1.symm.trans c2) (by decide), fun _ => ⟨fun _ => hb (Or.inr (Or.inl ⟨c1, hn⟩)), fun _ => hb (Or.inr (Or.inl ⟨c1, hn⟩))⟩⟩, fun c => absurd rfl c⟩)⟩, fun c1 => ⟨fun c2 => ⟨fun cs => ⟨fun c => absurd c e, fun _ => hb (Or.inr (Or.inr ⟨c2, (jissheet_wi t).symm.trans cs⟩))⟩, fun cs => ⟨fun c => absurd c e, fun _ => ?_⟩⟩, fun c2 => ⟨fun c => absurd c e, fun _ => hb (Or.inl ⟨c0, c1, c2, c3⟩)⟩⟩⟩⟩⟩
  · rw [ci]; exact h0 (Or.inl c0)
  · rw [ci]; exact h0 (Or.inr c3)
  · have q1 : jch S (jput S (x + 101) (Int32.toNatClampNeg (nI i)) u) (x + 101) (x + 102) := jch.put (by omega) (by omega)
    have hM1 := hM.keep q1 (by omega)
    have m1 := hM1.1
    subst en
    refine c_X11_of (f := 0) hM1 (by omega) (by omega) ⟨m1.r8.2.1, i8, m1.1, _, m1.r9.1, ?_⟩
    have q2 : jch (jput S (x + 101) (Int32.toNatClampNeg (nI i)) u) (jput (jput S (x + 101) (Int32.toNatClampNeg (nI i)) u) (x + 102) (Int32.toNatClampNeg (nI i)) (mfv v n 0)) (x + 102) (x + 103) := jch.put (by omega) (by omega)
    have hM2 := hM1.keep q2 (by omega)
    refine c_X11_worth hM2 (by omega) ⟨hM2.1.r9.2.1, i9, ?_⟩
    rw [ci]; exact h1 c1 n hn rfl
  · rcases jwi_cases t (b := 4) 4 rfl (by omega) with ⟨k, hk, rfl, -⟩ | ⟨-, e4⟩
    · have ck : Int32.toNatClampNeg (nI k) = k := jcl (by omega)
      refine ⟨m.1, _, m.r4.1, m.r4.2.1, by rw [m.r4.2.2]; exact jin_nI hk (by omega), fun c => ⟨_, m.r7.1, m.r7.2.1, i7, _, m.r8.1, m.r8.2.1, i8, _, m.r9.1, m.r9.2.1, i9, _, m.r10.1, _, m.r5.1, m.r5.2.1, by rw [m.r5.2.2]; exact jin_nI hk (by omega), m.r10.2.1, i10, ?_⟩, fun c => h2 c2 k hk rfl (by rw [ck] at c; exact c)⟩
      rw [ck] at c
      rw [ci, ck]
      have q0 : jch S (jput (jput (jput (jput S (x + 101) i u) (x + 102) i (nI k)) (x + 103) i 0) (x + 104) i (ji (jput (jput (jput S (x + 101) i u) (x + 102) i (nI k)) (x + 103) i 0) (x + 99) k)) (x + 101) (x + 105) := (((jch.put (by omega) (by omega)).trans (jch.put (by omega) (by omega))).trans (jch.put (by omega) (by omega))).trans (jch.put (by omega) (by omega))
      have f4 : ∀ l, ji (jput (jput (jput (jput S (x + 101) i u) (x + 102) i (nI k)) (x + 103) i 0) (x + 104) i (ji (jput (jput (jput S (x + 101) i u) (x + 102) i (nI k)) (x + 103) i 0) (x + 99) k)) (x + 104) l = if l = i then ji S (x + 99) k else ji S (x + 104) l := by
        intro l
        rw [ji_put, ji_put_ne _ _ _ _ (show x + 99 ≠ x + 103 by omega), ji_put_ne _ _ _ _ (show x + 99 ≠ x + 102 by omega), ji_put_ne _ _ _ _ (show x + 99 ≠ x + 101 by omega), ji_put_ne _ _ _ _ (show x + 104 ≠ x + 103 by omega), ji_put_ne _ _ _ _ (show x + 104 ≠ x + 102 by omega), ji_put_ne _ _ _ _ (show x + 104 ≠ x + 101 by omega)]
        by_cases hl : l = i
        · rw [if_pos ⟨rfl, hl⟩, if_pos hl]
        · rw [if_neg (fun c => hl c.2), if_neg hl]
      have f1 : ∀ l, ji (jput (jput (jput (jput S (x + 101) i u) (x + 102) i (nI k)) (x + 103) i 0) (x + 104) i (ji (jput (jput (jput S (x + 101) i u) (x + 102) i (nI k)) (x + 103) i 0) (x + 99) k)) (x + 101) l = if l = i then u else ji S (x + 101) l := by
        intro l
        rw [ji_put_ne _ _ _ _ (show x + 101 ≠ x + 104 by omega), ji_put_ne _ _ _ _ (show x + 101 ≠ x + 103 by omega), ji_put_ne _ _ _ _ (show x + 101 ≠ x + 102 by omega), ji_put]
        by_cases hl : l = i
        · rw [if_pos ⟨rfl, hl⟩, if_pos hl]
        · rw [if_neg (fun c => hl c.2), if_neg hl]
      have f2 : ∀ l, l ≠ i → ji (jput (jput (jput (jput S (x + 101) i u) (x + 102) i (nI k)) (x + 103) i 0) (x + 104) i (ji (jput (jput (jput S (x + 101) i u) (x + 102) i (nI k)) (x + 103) i 0) (x + 99) k)) (x + 102) l = ji S (x + 102) l := by
        intro l hl
        rw [ji_put_ne _ _ _ _ (show x + 102 ≠ x + 104 by omega), ji_put_ne _ _ _ _ (show x + 102 ≠ x + 103 by omega), ji_put, if_neg (fun c => hl c.2), ji_put_ne _ _ _ _ (show x + 102 ≠ x + 101 by omega)]
      have f3 : ∀ l, l ≠ i → ji (jput (jput (jput (jput S (x + 101) i u) (x + 102) i (nI k)) (x + 103) i 0) (x + 104) i (ji (jput (jput (jput S (x + 101) i u) (x + 102) i (nI k)) (x + 103) i 0) (x + 99) k)) (x + 103) l = ji S (x + 103) l := by
        intro l hl
        rw [ji_put_ne _ _ _ _ (show x + 103 ≠ x + 104 by omega), ji_put, if_neg (fun c => hl c.2), ji_put_ne _ _ _ _ (show x + 103 ≠ x + 102 by omega), ji_put_ne _ _ _ _ (show x + 103 ≠ x + 101 by omega)]
      generalize jput (jput (jput (jput S (x + 101) i u) (x + 102) i (nI k)) (x + 103) i 0) (x + 104) i (ji (jput (jput (jput S (x + 101) i u) (x + 102) i (nI k)) (x + 103) i 0) (x + 99) k) = S0 at q0 f1 f2 f3 f4 ⊢
      have m0 := m.same q0.1
      have lp : ∀ (c e : Nat) (S2 : jM), e + c = 24 → jch S0 S2 (x + 105) (x + 106) → (∀ j, ji S2 (x + 105) j = if 24 * i ≤ j ∧ j < 24 * i + e then ji S (x + 100) (24 * k + (j - 24 * i)) else ji S (x + 105) j) → L_X11_lay_150 E d Q (x + 94) (nI i) (nI k) (ji S (x + 101) i) (nI e) S2 := by
        intro c
        induction c with
        | zero =>
          intro e S2 he c2' r2
          obtain rfl : e = 24 := by omega
          refine T_X11_lay_150 ⟨fun _ => ?_, fun cc => absurd (by decide) cc⟩
          have s1 : ∀ y, y < x + 105 ∨ x + 106 ≤ y → ji S2 y = ji S0 y := fun y hy => c2'.2 y hy
          refine h3 c2 k hk rfl c S2 (q0.1.trans c2'.1) (fun y hy => (s1 y (by omega)).trans (q0.2 y (by omega))) (fun l hl hne => ⟨?_, ?_, ?_, ?_, fun j hj => ?_⟩) ?_ ?_ (fun j hj => ?_)
          · rw [s1 _ (by omega), f1, if_neg hne]
          · rw [s1 _ (by omega), f2 l hne]
          · rw [s1 _ (by omega), f3 l hne]
          · rw [s1 _ (by omega), f4, if_neg hne]
          · rw [r2, if_neg (by omega)]
          · rw [s1 _ (by omega), f1, if_pos rfl]; exact c2
          · rw [s1 _ (by omega), f4, if_pos rfl]
          · rw [r2, if_pos (by omega), show 24 * i + j - 24 * i = j by omega]
        | succ c ih =>
          intro e S2 he c2' r2
          have m2 := m0.same c2'.1
          refine T_X11_lay_150 ⟨fun cc => absurd cc (nI_ge (b := 24) (by omega) (by omega)), fun _ => ⟨m2.1, _, m2.r11.1, _, m2.r6.1, m2.r6.2.1, by rw [nI_24, m2.r6.2.2]; exact jin_nI (by omega) (by omega), m2.r11.2.1, by rw [nI_24, m2.r11.2.2]; exact jin_nI (by omega) (by omega), ?_⟩⟩
          rw [nI_24, nI_24, jcl (n := 24 * i + e) (by omega), jcl (n := 24 * k + e) (by omega), nI_1, c2'.2 (x + 100) (by omega), q0.2 (x + 100) (by omega)]
          refine ih (e + 1) _ (by omega) (c2'.trans (jch.put (by omega) (by omega))) (fun j => ?_)
          rw [ji_put]
          by_cases hj : j = 24 * i + e
          · rw [if_pos ⟨rfl, hj⟩, if_pos (by omega), hj, show 24 * i + e - 24 * i = e by omega]
          · rw [if_neg (fun cc => hj cc.2), r2 j]
            by_cases hc : 24 * i ≤ j ∧ j < 24 * i + e
            · rw [if_pos hc, if_pos (by omega)]
            · rw [if_neg hc, if_neg (by omega)]
      exact lp 24 0 S0 (by omega) jch.rfl (fun j => by rw [if_neg (by omega)]; rw [q0.2 (x + 105) (by omega)])
    · exact absurd ((jissheet_wi t).trans e4) cs
theorem g_layBad {Q : Int32 → jM → Prop} {w u t : Int32} (hM : MR S (x + 94) v) (hz0 : v 0 = nI sz) (hz : sz ≤ 9) (hs : jwi w 5 = 0) (hq : Q kBAD S) : jFm E mX11_lay (d + 2) (x + 94) [.int w, .int u, .int t] S Q := by
  have e : jisslot w = 0 := (jisslot_wi w).trans hs
  refine U_X11_lay hM.k ⟨fun _ => ⟨fun _ => hq, fun c => absurd e c⟩, fun c0 => ⟨fun _ => ⟨fun _ => hq, fun c => absurd e c⟩, fun c3 => ⟨fun c1 => ⟨hM.k, c_X11_isMaster hM hz0 hz (fun n hn en => ⟨fun c => absurd c (by decide), fun _ => ⟨fun _ => hq, fun c => absurd e c⟩⟩) (fun hn => ⟨fun _ => ⟨fun c2 => absurd (c1.symm.trans c2) (by decide), fun _ => ⟨fun _ => hq, fun c => absurd e c⟩⟩, fun c => absurd rfl c⟩)⟩, fun c1 => ⟨fun c2 => ⟨fun _ => ⟨fun _ => hq, fun c => absurd e c⟩, fun _ => ⟨fun _ => hq, fun c => absurd e c⟩⟩, fun c2 => ⟨fun _ => hq, fun c => absurd e c⟩⟩⟩⟩⟩
theorem Q_lay {w u t : Int32} (h : IV S x sz M v) : jFi E mX10_lay (d + 3) 0 0 [.ref x, .int w, .int u, .int t] S (fun r S1 => jFm E mX11_lay (d + 3) (x + 94) [.int w, .int u, .int t] S1 (fun r' S2 => r = r' ∧ INV S2 x M)) := by
  obtain ⟨⟨hX, hM, hg⟩, hC, hGL, hjn, hT, hI, hS, hSl, hW, hTp⟩ := id h
  have hz0 := hX.v0
  have hz := hX.sz9
  refine T_X10_lay ⟨hX.1, c_X10_findSlot hC (fun c => ⟨fun _ => g_layBad hM hz0 hz c ⟨rfl, h.inv⟩, fun b e => absurd e (by simp)⟩) (fun i hi e e1 => ⟨fun c => absurd c (by simp), fun b eb => ?_⟩)⟩
  obtain rfl : x + 74 + 4 * i = b := Option.some.inj eb
  subst e
  obtain ⟨th, t1, t2, t3, t4, t5, t6⟩ := hSl i hi
  obtain ⟨k7, r1, r2, k2, k6, r22, k12, l24⟩ := hC.sl i hi
  have was : ∀ S1 : jM, jch S S1 (x + 74 + 4 * i) (x + 78 + 4 * i) → ji S (x + 74 + 4 * i) 0 = ji S1 (x + 101) i := fun S1 c => by rw [c.2 _ (by omega), t2, t3]
  have out : ∀ S1 S2 : jM, jch S S1 (x + 74 + 4 * i) (x + 78 + 4 * i) → jsame S1 S2 → (∀ y, (y < x + 101 ∨ x + 106 ≤ y) → ji S2 y = ji S1 y) → (∀ l, l < 5 → l ≠ i → ji S2 (x + 101) l = ji S1 (x + 101) l ∧ ji S2 (x + 102) l = ji S1 (x + 102) l ∧ ji S2 (x + 103) l = ji S1 (x + 103) l ∧ ji S2 (x + 104) l = ji S1 (x + 104) l ∧ ∀ j, j < 24 → ji S2 (x + 105) (24 * l + j) = ji S1 (x + 105) (24 * l + j)) → SL1 S2 x i → INV S2 x M := by
    intro S1 S2 c s o ol hs
    refine h.slot hi (c.1.trans s) (fun y p q => (o y q).trans (c.2 y p)) (fun l hl hne => ?_) hs
    rw [← c.2 (x + 101) (by omega), ← c.2 (x + 102) (by omega), ← c.2 (x + 103) (by omega), ← c.2 (x + 104) (by omega), ← c.2 (x + 105) (by omega)]
    exact ol l hl hne
  have out3 : ∀ (S1 : jM) (a b c : Int32), jch S S1 (x + 74 + 4 * i) (x + 78 + 4 * i) → SL1 (jput (jput (jput S1 (x + 101) i a) (x + 102) i b) (x + 103) i c) x i → INV (jput (jput (jput S1 (x + 101) i a) (x + 102) i b) (x + 103) i c) x M := by
    intro S1 a b c c1 hs
    refine out S1 _ c1 ⟨rfl, rfl, rfl, rfl⟩ (fun y hy => ?_) (fun l hl hne => ⟨?_, ?_, ?_, ?_, fun j hj => ?_⟩) hs
    · rw [ji_put_ne _ _ _ _ (by omega), ji_put_ne _ _ _ _ (by omega), ji_put_ne _ _ _ _ (by omega)]
    · rw [ji_put_ne _ _ _ _ (by omega), ji_put_ne _ _ _ _ (by omega), ji_put, if_neg (fun q => hne q.2)]
    · rw [ji_put_ne _ _ _ _ (by omega), ji_put, if_neg (fun q => hne q.2), ji_put_ne _ _ _ _ (by omega)]
    · rw [ji_put, if_neg (fun q => hne q.2), ji_put_ne _ _ _ _ (by omega), ji_put_ne _ _ _ _ (by omega)]
    · rw [ji_put_ne _ _ _ _ (by omega), ji_put_ne _ _ _ _ (by omega), ji_put_ne _ _ _ _ (by omega)]
    · rw [ji_put_ne _ _ _ _ (by omega), ji_put_ne _ _ _ _ (by omega), ji_put_ne _ _ _ _ (by omega)]
  have p1 : ∀ (S1 : jM) (a b c : Int32), ji (jput (jput (jput S1 (x + 101) i a) (x + 102) i b) (x + 103) i c) (x + 101) i = a := fun S1 a b c => by rw [ji_put_ne _ _ _ _ (by omega), ji_put_ne _ _ _ _ (by omega), ji_put_same]
  have p2 : ∀ (S1 : jM) (a b c : Int32), ji (jput (jput (jput S1 (x + 101) i a) (x + 102) i b) (x + 103) i c) (x + 102) i = b := fun S1 a b c => by rw [ji_put_ne _ _ _ _ (by omega), ji_put_same]
  have p3 : ∀ (S1 : jM) (a b c : Int32) (y : Nat), y < x + 101 → ji (jput (jput (jput S1 (x + 101) i a) (x + 102) i b) (x + 103) i c) y = ji S1 y := fun S1 a b c y hy => by rw [ji_put_ne _ _ _ _ (by omega), ji_put_ne _ _ _ _ (by omega), ji_put_ne _ _ _ _ (by omega)]
  refine ⟨k7, fun c => ?_, fun c => ⟨hX.1, T_X10_layMaster ⟨hX.1, x + 1, hX.2.1, hX.k3, x + 2, hX.r0, hX.g.1.1, c_X0_find hX.g.1 hX.g.2.1 hz (fun n hn en => ⟨fun c => absurd c (by simp), fun b eb => ?_⟩) (fun hn => ⟨fun _ => ?_, fun b e => absurd e (by simp)⟩)⟩⟩, fun c => ⟨hX.1, T_X10_laySheet ⟨hX.1, c_X10_findSheet hC (fun c4 => ⟨fun _ => ?_, fun b e => absurd e (by simp)⟩) (fun k hk4 e e1 => ⟨fun c => absurd c (by simp), fun b eb => ?_⟩)⟩⟩, fun c => ?_, fun c0 c1 c2 c3 => ?_⟩
  · -- nothing
    subst c
    have c1 : jch S (jput S (x + 74 + 4 * i) 0 0) (x + 74 + 4 * i) (x + 78 + 4 * i) := jch.put (by omega) (by omega)
    rw [was _ c1]
    refine c_X11_lay (hM.keep c1 (by omega)) hz0 hz hi (fun c => ?_) (fun _ => ⟨rfl, ?_⟩) (fun c => absurd c (by decide)) (fun c => absurd c (by decide)) (fun c => absurd c (by decide))
    · rcases c with c | c | c
      · exact absurd rfl c.1
      · exact absurd c.1 (by decide)
      · exact absurd c.1 (by decide)
    · refine out3 _ _ _ _ c1 ⟨0, by omega, ?_, p1 _ _ _ _, fun c => absurd c (by omega), fun c => absurd c (by omega), fun c => absurd c (by omega)⟩
      rw [p3 _ _ _ _ _ (by omega), ji_put_same]; rfl
  · -- a master
    obtain rfl : x + 2 + 2 + n = b := Option.some.inj eb
    subst c
    subst en
    refine ⟨k7, _, r1, k2, c_X2_become k2 (hX.g.1.2.2.2.2 n (by omega)).2 ?_ ?_⟩
    · rw [ji_put_ne _ _ _ _ (by omega), XR.ms hX (by omega) (by omega)]
      exact hg.de (by omega)
    · have c1 : jch S (jrow (jput S (x + 74 + 4 * i) 0 1) (x + 74 + 4 * i + 1) (mrow (ji (jput S (x + 74 + 4 * i) 0 1) (x + 74 + 4 * i + 1)) (ji (jput S (x + 74 + 4 * i) 0 1) (x + 2 + 2 + n) 0) (ji (jput S (x + 74 + 4 * i) 0 1) (x + 2 + 2 + n) 1) (ji (jput S (x + 74 + 4 * i) 0 1) (x + 2 + 2 + n) 2) (ji (jput S (x + 74 + 4 * i) 0 1) (x + 2 + 2 + n) 3) (ji (jput S (x + 74 + 4 * i) 0 1) (x + 2 + 2 + n) 4) (ji (jput S (x + 74 + 4 * i) 0 1) (x + 2 + 2 + n) 5) (ji (jput S (x + 74 + 4 * i) 0 1) (x + 2 + 2 + n) 6))) (x + 74 + 4 * i) (x + 78 + 4 * i) := (jch.put (by omega) (by omega)).trans (jch.row (by omega) (by omega))
      have g0 : ji (jrow (jput S (x + 74 + 4 * i) 0 1) (x + 74 + 4 * i + 1) (mrow (ji (jput S (x + 74 + 4 * i) 0 1) (x + 74 + 4 * i + 1)) (ji (jput S (x + 74 + 4 * i) 0 1) (x + 2 + 2 + n) 0) (ji (jput S (x + 74 + 4 * i) 0 1) (x + 2 + 2 + n) 1) (ji (jput S (x + 74 + 4 * i) 0 1) (x + 2 + 2 + n) 2) (ji (jput S (x + 74 + 4 * i) 0 1) (x + 2 + 2 + n) 3) (ji (jput S (x + 74 + 4 * i) 0 1) (x + 2 + 2 + n) 4) (ji (jput S (x + 74 + 4 * i) 0 1) (x + 2 + 2 + n) 5) (ji (jput S (x + 74 + 4 * i) 0 1) (x + 2 + 2 + n) 6))) (x + 74 + 4 * i) 0 = 1 := by rw [ji_row_ne _ _ _ (by omega), ji_put_same]
      have g1 : ji (jrow (jput S (x + 74 + 4 * i) 0 1) (x + 74 + 4 * i + 1) (mrow (ji (jput S (x + 74 + 4 * i) 0 1) (x + 74 + 4 * i + 1)) (ji (jput S (x + 74 + 4 * i) 0 1) (x + 2 + 2 + n) 0) (ji (jput S (x + 74 + 4 * i) 0 1) (x + 2 + 2 + n) 1) (ji (jput S (x + 74 + 4 * i) 0 1) (x + 2 + 2 + n) 2) (ji (jput S (x + 74 + 4 * i) 0 1) (x + 2 + 2 + n) 3) (ji (jput S (x + 74 + 4 * i) 0 1) (x + 2 + 2 + n) 4) (ji (jput S (x + 74 + 4 * i) 0 1) (x + 2 + 2 + n) 5) (ji (jput S (x + 74 + 4 * i) 0 1) (x + 2 + 2 + n) 6))) (x + 75 + 4 * i) 0 = mfv v n 0 := by
        rw [show x + 75 + 4 * i = x + 74 + 4 * i + 1 by omega, ji_row_same]
        show ji (jput S (x + 74 + 4 * i) 0 1) (x + 2 + 2 + n) 0 = _
        rw [ji_put_ne _ _ _ _ (by omega), XR.ms hX (by omega) (by omega)]
      have g4 : ji (jrow (jput S (x + 74 + 4 * i) 0 1) (x + 74 + 4 * i + 1) (mrow (ji (jput S (x + 74 + 4 * i) 0 1) (x + 74 + 4 * i + 1)) (ji (jput S (x + 74 + 4 * i) 0 1) (x + 2 + 2 + n) 0) (ji (jput S (x + 74 + 4 * i) 0 1) (x + 2 + 2 + n) 1) (ji (jput S (x + 74 + 4 * i) 0 1) (x + 2 + 2 + n) 2) (ji (jput S (x + 74 + 4 * i) 0 1) (x + 2 + 2 + n) 3) (ji (jput S (x + 74 + 4 * i) 0 1) (x + 2 + 2 + n) 4) (ji (jput S (x + 74 + 4 * i) 0 1) (x + 2 + 2 + n) 5) (ji (jput S (x + 74 + 4 * i) 0 1) (x + 2 + 2 + n) 6))) (x + 75 + 4 * i) 4 = mfv v n 4 := by
        rw [show x + 75 + 4 * i = x + 74 + 4 * i + 1 by omega, ji_row_same]
        show ji (jput S (x + 74 + 4 * i) 0 1) (x + 2 + 2 + n) 4 = _
        rw [ji_put_ne _ _ _ _ (by omega), XR.ms hX (by omega) (by omega)]
      generalize jrow (jput S (x + 74 + 4 * i) 0 1) (x + 74 + 4 * i + 1) _ = S1 at c1 g0 g1 g4 ⊢
      rw [was _ c1]
      refine c_X11_lay (hM.keep c1 (by omega)) hz0 hz hi (fun c => ?_) (fun c => ?_) (fun _ n' hn' en' => ⟨rfl, ?_⟩) (fun c => absurd c (by decide)) (fun c => absurd c (by decide))
      · rcases c with c | c | c
        · exact absurd rfl c.2.1
        · exact absurd rfl (c.2 n hn)
        · exact absurd c.1 (by decide)
      · rcases c with c | c
        · exact absurd c (by decide)
        · exact absurd c (by decide)
      · obtain rfl : n = n' := nI_inj (by omega) (by omega) en'
        obtain ⟨k, hk, ek⟩ := hg.kd (i := n) (by omega)
        refine out3 _ _ _ _ c1 ⟨1, by omega, ?_, p1 _ _ _ _, fun _ => ⟨⟨k, hk, ?_, (p2 _ _ _ _).trans ek⟩, ?_⟩, fun c => absurd c (by omega), fun c => absurd c (by omega)⟩
        · rw [p3 _ _ _ _ _ (by omega), g0]; rfl
        · rw [p3 _ _ _ _ _ (by omega), g1]; exact ek
        · rw [ji_put_same, p3 _ _ _ _ _ (by omega), g1, g4]
  · subst c
    refine c_X11_lay hM hz0 hz hi (fun _ => ⟨rfl, h.inv⟩) (fun c => ?_) (fun _ n hn' en' => absurd en' (hn n hn')) (fun c => absurd c (by decide)) (fun c => absurd c (by decide))
    rcases c with c | c
    · exact absurd c (by decide)
    · exact absurd c (by decide)
  · subst c
    have no : ∀ k, k < 4 → t ≠ nI k := fun k hk e => by
      rw [e, show (4 : Int32) = nI 4 from rfl, jwi_at hk (by omega)] at c4
      exact absurd c4 (by decide)
    refine c_X11_lay hM hz0 hz hi (fun _ => ⟨rfl, h.inv⟩) (fun c => ?_) (fun c => absurd c (by decide)) (fun _ k hk e => absurd e (no k hk)) (fun _ k hk e => absurd e (no k hk))
    rcases c with c | c
    · exact absurd c (by decide)
    · exact absurd c (by decide)
  · -- a sheet
    obtain rfl : x + 66 + 2 * k = b := Option.some.inj eb
    subst c
    subst e
    obtain ⟨s6, s2, s12, s24⟩ := hC.sh k hk4
    obtain ⟨so, n, a1, a2, a3, a4, a5, a6, a7⟩ := hS k hk4
    have ms := SH1.miss (i := k) a2
    have bad : ∀ q : Prop, (((2 : Int32) ≠ 0 ∧ (2 : Int32) ≠ 1 ∧ (2 : Int32) ≠ 2 ∧ (2 : Int32) ≠ 3) ∨ ((2 : Int32) = 1 ∧ ∀ n, n < sz → nI k ≠ nI n) ∨ ((2 : Int32) = 2 ∧ jwi (nI k) 4 = 0)) → q := by
      intro q c
      rcases c with c | c | c
      · exact absurd rfl c.2.2.1
      · exact absurd c.1 (by decide)
      · rw [e1] at c; exact absurd c.2 (by decide)
    refine ⟨s6, fun c => ?_, fun c => ⟨k7, _, r2, k6, T_X6_become ⟨s6, k6, _, s2, _, r22, s12, k12, ⟨by decide, by decide, by decide, by show 0 + 24 ≤ jl S (x + 67 + 2 * k); rw [s24]; omega, by show 0 + 24 ≤ jl S (x + 74 + 4 * i + 3); rw [l24]; omega⟩, ?_⟩⟩⟩
    · rw [a3] at c
      refine c_X11_lay hM hz0 hz hi (bad _) (fun c => ?_) (fun c => absurd c (by decide)) (fun _ k' hk' e' c' => ⟨rfl, h.inv⟩) (fun _ k' hk' e' c' => ?_)
      · rcases c with c | c
        · exact absurd c (by decide)
        · exact absurd c (by decide)
      · obtain rfl : k = k' := nI_inj (by omega) (by omega) e'
        rw [a4] at c'
        exact absurd c' (ms.mp c)
    · rw [a3] at c
      rw [show Int32.toNatClampNeg 0 = 0 from rfl, show Int32.toNatClampNeg 24 = 24 from rfl]
      have c1 : jch S (jrow (jput (jput (jput S (x + 74 + 4 * i) 0 2) (x + 74 + 4 * i + 2) 0 (ji (jput S (x + 74 + 4 * i) 0 2) (x + 66 + 2 * k) 0)) (x + 74 + 4 * i + 2) 1 (ji (jput S (x + 74 + 4 * i) 0 2) (x + 66 + 2 * k) 1)) (x + 74 + 4 * i + 3) (va_cpy (ji (jput (jput (jput S (x + 74 + 4 * i) 0 2) (x + 74 + 4 * i + 2) 0 (ji (jput S (x + 74 + 4 * i) 0 2) (x + 66 + 2 * k) 0)) (x + 74 + 4 * i + 2) 1 (ji (jput S (x + 74 + 4 * i) 0 2) (x + 66 + 2 * k) 1)) (x + 67 + 2 * k)) (ji (jput (jput (jput S (x + 74 + 4 * i) 0 2) (x + 74 + 4 * i + 2) 0 (ji (jput S (x + 74 + 4 * i) 0 2) (x + 66 + 2 * k) 0)) (x + 74 + 4 * i + 2) 1 (ji (jput S (x + 74 + 4 * i) 0 2) (x + 66 + 2 * k) 1)) (x + 74 + 4 * i + 3)) 0 0 24)) (x + 74 + 4 * i) (x + 78 + 4 * i) := (((jch.put (by omega) (by omega)).trans (jch.put (by omega) (by omega))).trans (jch.put (by omega) (by omega))).trans (jch.row (by omega) (by omega))
      have g0 : ji (jrow (jput (jput (jput S (x + 74 + 4 * i) 0 2) (x + 74 + 4 * i + 2) 0 (ji (jput S (x + 74 + 4 * i) 0 2) (x + 66 + 2 * k) 0)) (x + 74 + 4 * i + 2) 1 (ji (jput S (x + 74 + 4 * i) 0 2) (x + 66 + 2 * k) 1)) (x + 74 + 4 * i + 3) (va_cpy (ji (jput (jput (jput S (x + 74 + 4 * i) 0 2) (x + 74 + 4 * i + 2) 0 (ji (jput S (x + 74 + 4 * i) 0 2) (x + 66 + 2 * k) 0)) (x + 74 + 4 * i + 2) 1 (ji (jput S (x + 74 + 4 * i) 0 2) (x + 66 + 2 * k) 1)) (x + 67 + 2 * k)) (ji (jput (jput (jput S (x + 74 + 4 * i) 0 2) (x + 74 + 4 * i + 2) 0 (ji (jput S (x + 74 + 4 * i) 0 2) (x + 66 + 2 * k) 0)) (x + 74 + 4 * i + 2) 1 (ji (jput S (x + 74 + 4 * i) 0 2) (x + 66 + 2 * k) 1)) (x + 74 + 4 * i + 3)) 0 0 24)) (x + 74 + 4 * i) 0 = 2 := by rw [ji_row_ne _ _ _ (by omega), ji_put_ne _ _ _ _ (by omega), ji_put_ne _ _ _ _ (by omega), ji_put_same]
      have g1 : ji (jrow (jput (jput (jput S (x + 74 + 4 * i) 0 2) (x + 74 + 4 * i + 2) 0 (ji (jput S (x + 74 + 4 * i) 0 2) (x + 66 + 2 * k) 0)) (x + 74 + 4 * i + 2) 1 (ji (jput S (x + 74 + 4 * i) 0 2) (x + 66 + 2 * k) 1)) (x + 74 + 4 * i + 3) (va_cpy (ji (jput (jput (jput S (x + 74 + 4 * i) 0 2) (x + 74 + 4 * i + 2) 0 (ji (jput S (x + 74 + 4 * i) 0 2) (x + 66 + 2 * k) 0)) (x + 74 + 4 * i + 2) 1 (ji (jput S (x + 74 + 4 * i) 0 2) (x + 66 + 2 * k) 1)) (x + 67 + 2 * k)) (ji (jput (jput (jput S (x + 74 + 4 * i) 0 2) (x + 74 + 4 * i + 2) 0 (ji (jput S (x + 74 + 4 * i) 0 2) (x + 66 + 2 * k) 0)) (x + 74 + 4 * i + 2) 1 (ji (jput S (x + 74 + 4 * i) 0 2) (x + 66 + 2 * k) 1)) (x + 74 + 4 * i + 3)) 0 0 24)) (x + 76 + 4 * i) 1 = nI n := by
        rw [show x + 76 + 4 * i = x + 74 + 4 * i + 2 by omega, ji_row_ne _ _ _ (by omega), ji_put_same, ji_put_ne _ _ _ _ (by omega), a5]
      have g2 : ∀ j, j < 24 → ji (jrow (jput (jput (jput S (x + 74 + 4 * i) 0 2) (x + 74 + 4 * i + 2) 0 (ji (jput S (x + 74 + 4 * i) 0 2) (x + 66 + 2 * k) 0)) (x + 74 + 4 * i + 2) 1 (ji (jput S (x + 74 + 4 * i) 0 2) (x + 66 + 2 * k) 1)) (x + 74 + 4 * i + 3) (va_cpy (ji (jput (jput (jput S (x + 74 + 4 * i) 0 2) (x + 74 + 4 * i + 2) 0 (ji (jput S (x + 74 + 4 * i) 0 2) (x + 66 + 2 * k) 0)) (x + 74 + 4 * i + 2) 1 (ji (jput S (x + 74 + 4 * i) 0 2) (x + 66 + 2 * k) 1)) (x + 67 + 2 * k)) (ji (jput (jput (jput S (x + 74 + 4 * i) 0 2) (x + 74 + 4 * i + 2) 0 (ji (jput S (x + 74 + 4 * i) 0 2) (x + 66 + 2 * k) 0)) (x + 74 + 4 * i + 2) 1 (ji (jput S (x + 74 + 4 * i) 0 2) (x + 66 + 2 * k) 1)) (x + 74 + 4 * i + 3)) 0 0 24)) (x + 77 + 4 * i) j = ji S (x + 67 + 2 * k) j := by
        intro j hj
        rw [show x + 77 + 4 * i = x + 74 + 4 * i + 3 by omega, ji_row_same, pk_cpy_in (by omega) (by omega), ji_put_ne _ _ _ _ (by omega), ji_put_ne _ _ _ _ (by omega), ji_put_ne _ _ _ _ (by omega), show 0 + (j - 0) = j by omega]
      generalize jrow (jput (jput (jput S (x + 74 + 4 * i) 0 2) (x + 74 + 4 * i + 2) 0 (ji (jput S (x + 74 + 4 * i) 0 2) (x + 66 + 2 * k) 0)) (x + 74 + 4 * i + 2) 1 (ji (jput S (x + 74 + 4 * i) 0 2) (x + 66 + 2 * k) 1)) (x + 74 + 4 * i + 3) _ = S1 at c1 g0 g1 g2 ⊢
      rw [was _ c1]
      refine c_X11_lay (hM.keep c1 (by omega)) hz0 hz hi (bad _) (fun c => ?_) (fun c => absurd c (by decide)) (fun _ k' hk' e' c' => ?_) (fun _ k' hk' e' c' S2 z1 z2 z3 z4 z5 z6 => ⟨rfl, ?_⟩)
      · rcases c with c | c
        · exact absurd c (by decide)
        · exact absurd c (by decide)
      · obtain rfl : k = k' := nI_inj (by omega) (by omega) e'
        rw [c1.2 _ (by omega), a4] at c'
        exact absurd (ms.mpr c') c
      · obtain rfl : k = k' := nI_inj (by omega) (by omega) e'
        refine out S1 S2 c1 z1 z2 z3 ⟨2, by omega, ?_, z4, fun c => absurd c (by omega), fun _ => ⟨⟨n, a1, ?_, ?_⟩, fun j hj => ?_⟩, fun c => absurd c (by omega)⟩
        · rw [z2 _ (by omega)]; exact g0
        · rw [z2 _ (by omega)]; exact g1
        · rw [z5, c1.2 _ (by omega)]; exact a6
        · rw [z2 _ (by omega), g2 j hj, z6 j hj, c1.2 _ (by omega)]; exact (a7 j hj).1
  · -- a number
    subst c
    have c1 : jch S (jput (jput S (x + 74 + 4 * i) 0 3) (x + 74 + 4 * i) 3 t) (x + 74 + 4 * i) (x + 78 + 4 * i) := (jch.put (by omega) (by omega)).trans (jch.put (by omega) (by omega))
    rw [was _ c1]
    refine c_X11_lay (hM.keep c1 (by omega)) hz0 hz hi (fun c => ?_) (fun _ => ⟨rfl, ?_⟩) (fun c => absurd c (by decide)) (fun c => absurd c (by decide)) (fun c => absurd c (by decide))
    · rcases c with c | c | c
      · exact absurd rfl c.2.2.2
      · exact absurd c.1 (by decide)
      · exact absurd c.1 (by decide)
    · refine out3 _ _ _ _ c1 ⟨3, by omega, ?_, p1 _ _ _ _, fun c => absurd c (by omega), fun c => absurd c (by omega), fun _ => ?_⟩
      · rw [p3 _ _ _ _ _ (by omega), ji_put, if_neg (by omega), ji_put_same]; rfl
      · rw [p2, p3 _ _ _ _ _ (by omega), ji_put_same]
  · refine c_X11_lay hM hz0 hz hi (fun _ => ⟨rfl, h.inv⟩) (fun c => ?_) (fun c => absurd c c1) (fun c => absurd c c2) (fun c => absurd c c2)
    rcases c with c | c
    · exact absurd c c0
    · exact absurd c c3
theorem Q_ask {w u : Int32} (h : IV S x sz M v) : jFi E mX10_ask (d + 2) 0 0 [.ref x, .int w, .int u] S (fun r S1 => jFm E mX11_ask (d + 2) (x + 94) [.int w, .int u] S1 (fun r' S2 => r = r' ∧ INV S2 x M)) := by
  obtain ⟨⟨hX, hM, hg⟩, hC, hGL, hjn, hT, hI, hS, hSl, hW, hTp⟩ := id h
  have m := hM.1
  have e6 : jisin (Int32.toInt64 u) 0 5 = jwi u 6 := jisin_wi u 6 5 rfl (jle_lt (by decide))
  refine T_X10_ask ⟨hX.1, c_X10_findSlot hC (fun c => ⟨fun _ => U_X11_ask hM.k ⟨fun _ => ⟨rfl, h.inv⟩, fun c2 => absurd ((jisslot_wi w).trans c) c2⟩, fun b e => absurd e (by simp)⟩) (fun i hi e e1 => ⟨fun c => absurd c (by simp), fun b eb => ?_⟩)⟩
  obtain rfl : x + 74 + 4 * i = b := Option.some.inj eb
  subst e
  have hs : ¬ jisslot (nI i) = 0 := by rw [jisslot_wi, e1]; decide
  obtain ⟨th, t1, t2, t3, t4, t5, t6⟩ := hSl i hi
  obtain ⟨k7, r1, r2, k2, k6, r22, k12, l24⟩ := hC.sl i hi
  have ci : Int32.toNatClampNeg (nI i) = i := jcl (by omega)
  have i5 : ∀ n, n = 5 → vp_in (nI i) n := fun n hn => by rw [hn]; exact jin_nI hi (by omega)
  have i7 := i5 _ m.r7.2.2
  have i8 := i5 _ m.r8.2.2
  have i9 := i5 _ m.r9.2.2
  have th0 : ∀ k, k < 4 → nI th = nI k → th = k := fun k hk e => nI_inj (by omega) (by omega) e
  refine ⟨fun c => U_X11_ask hM.k ⟨fun c => absurd c hs, fun _ => ⟨fun _ => ⟨rfl, h.inv⟩, fun c2 => absurd (e6.trans c) c2⟩⟩, fun c => ⟨k7, ?_⟩⟩
  have c6 : ¬ jisin (Int32.toInt64 u) 0 5 = 0 := by rw [e6]; exact c
  have ref : ∀ Q : Int32 → jM → Prop, (nI th = 0 → Q (-1000000011) S) → (¬ nI th = 0 → ¬ nI th = 1 → Q (-1000000012) S) → (nI th = 1 → jisof (ji S (x + 102) i) u = 0 → Q (-1000000012) S) → (nI th = 1 → ¬ jisof (ji S (x + 102) i) u = 0 → Q (ji S (x + 103) i) S) → jFm E mX11_ask (d + 2) (x + 94) [.int (nI i), .int u] S Q := by
    intro Q q1 q2 q3 q4
    refine U_X11_ask hM.k ⟨fun c => absurd c hs, fun _ => ⟨fun c => absurd c c6, fun _ => ⟨m.1, _, m.r7.1, m.r7.2.1, i7, ?_⟩⟩⟩
    rw [ci, t3]
    refine ⟨q1, fun n0 => ⟨fun n1 => ⟨_, m.r8.1, m.r8.2.1, i8, ?_⟩, fun n1 => q2 n0 n1⟩⟩
    exact ⟨q3 n1, fun c => ⟨_, m.r9.1, m.r9.2.1, i9, q4 n1 c⟩⟩
  rw [t2]
  refine ⟨fun n0 => ref _ (fun _ => ⟨rfl, h.inv⟩) (fun c => absurd n0 c) (fun c => absurd (n0.symm.trans c) (by decide)) (fun c => absurd (n0.symm.trans c) (by decide)), fun n0 => ⟨fun n1 => ?_, fun n1 => ref _ (fun c => absurd c n0) (fun _ _ => ⟨rfl, h.inv⟩) (fun c => absurd c n1) (fun c => absurd c n1)⟩⟩
  obtain rfl : th = 1 := th0 1 (by omega) n1
  obtain ⟨⟨k, hk, y1, y2⟩, y3⟩ := t4 rfl
  rcases jwi_cases u (b := 6) 6 rfl (by omega) with ⟨j, hj, ej, -⟩ | ⟨-, ej⟩
  · subst ej
    have y1' : ji S (x + 74 + 4 * i + 1) 0 = nI k := by rw [show x + 74 + 4 * i + 1 = x + 75 + 4 * i by omega]; exact y1
    refine ⟨_, r1, k2, c_X2_isOf k2 y1' hk hj ⟨fun c0 => ?_, fun c0 => ⟨k7, _, r1, k2, c_X2_worth k2 ?_⟩⟩⟩
    · refine ref _ (fun c => absurd c n0) (fun _ c => absurd n1 c) (fun _ _ => ⟨rfl, h.inv⟩) (fun _ c => ?_)
      rw [y2] at c; exact absurd c0 c
    · refine ref _ (fun c => absurd c n0) (fun _ c => absurd n1 c) (fun _ c => ?_) (fun _ _ => ⟨?_, h.inv⟩)
      · rw [y2] at c; exact absurd c c0
      · rw [show x + 74 + 4 * i + 1 = x + 75 + 4 * i by omega]; exact y3.symm
  · exact absurd ej c
theorem Q_item {w u : Int32} (h : IV S x sz M v) : jFi E mX10_item (d + 3) 0 0 [.ref x, .int w, .int u] S (fun r S1 => jFm E mX11_item (d + 3) (x + 94) [.int w, .int u] S1 (fun r' S2 => r = r' ∧ INV S2 x M)) := by
  obtain ⟨⟨hX, hM, hg⟩, hC, hGL, hjn, hT, hI, hS, hSl, hW, hTp⟩ := id h
  have m := hM.1
  refine T_X10_item ⟨hX.1, c_X10_findSlot hC (fun c => ⟨fun _ => U_X11_item hM.k ⟨fun _ => ⟨rfl, h.inv⟩, fun c2 => absurd ((jisslot_wi w).trans c) c2⟩, fun b e => absurd e (by simp)⟩) (fun i hi e e1 => ⟨fun c => absurd c (by simp), fun b eb => ?_⟩)⟩
  obtain rfl : x + 74 + 4 * i = b := Option.some.inj eb
  subst e
  have hs : ¬ jisslot (nI i) = 0 := by rw [jisslot_wi, e1]; decide
  obtain ⟨th, t1, t2, t3, t4, t5, t6⟩ := hSl i hi
  obtain ⟨k7, r1, r2, k2, hL⟩ := hC.sl i hi
  obtain ⟨k6, r22, k12, l24⟩ := id hL
  have ci : Int32.toNatClampNeg (nI i) = i := jcl (by omega)
  have i5 : ∀ n, n = 5 → vp_in (nI i) n := fun n hn => by rw [hn]; exact jin_nI hi (by omega)
  have i7 := i5 _ m.r7.2.2
  have i10 := i5 _ m.r10.2.2
  rw [t2]
  refine ⟨k7, fun n0 => ?_, fun n0 => ⟨fun n2 => ?_, fun n2 => ?_⟩⟩
  · refine U_X11_item hM.k ⟨fun c => absurd c hs, fun _ => ⟨m.1, _, m.r7.1, m.r7.2.1, i7, ?_⟩⟩
    rw [ci, t3]
    exact ⟨fun c => absurd (n0.symm.trans c) (by decide), fun _ => ⟨fun _ => ⟨rfl, h.inv⟩, fun c => absurd n0 c⟩⟩
  · obtain rfl : th = 2 := nI_inj (by omega) (by omega) n2
    obtain ⟨⟨n, hn, y1, y2⟩, y3⟩ := t5 rfl
    have y1' : ji S (x + 74 + 4 * i + 2) 1 = nI n := by rw [show x + 74 + 4 * i + 2 = x + 76 + 4 * i by omega]; exact y1
    have ref : ∀ Q : Int32 → jM → Prop, (jwi u (nI n) = 0 → Q (-1000000013) S) → (∀ j, j < n → u = nI j → (ji S (x + 105) (24 * i + j) = kNONE → Q (-1000000012) S) ∧ (¬ ji S (x + 105) (24 * i + j) = kNONE → Q (ji S (x + 105) (24 * i + j)) S)) → jFm E mX11_item (d + 3) (x + 94) [.int (nI i), .int u] S Q := by
      intro Q q1 q2
      refine U_X11_item hM.k ⟨fun c => absurd c hs, fun _ => ⟨m.1, _, m.r7.1, m.r7.2.1, i7, ?_⟩⟩
      rw [ci, t3]
      refine ⟨fun _ => ⟨_, m.r10.1, m.r10.2.1, i10, ?_⟩, fun c => absurd rfl c⟩
      rw [y2, jisin_sz u (by omega)]
      refine ⟨q1, fun cu => ?_⟩
      rcases jwi_cases u (b := nI n) n rfl (by omega) with ⟨j, hj, ej, -⟩ | ⟨-, ej⟩
      · subst ej
        refine ⟨_, m.r11.1, m.r11.2.1, by rw [nI_24, m.r11.2.2]; exact jin_nI (by omega) (by omega), ?_⟩
        rw [nI_24, jcl (by omega)]
        exact q2 j hj rfl
      · exact absurd ej cu
    refine ⟨_, r2, k6, c_X6_hasPlace k6 hn y1' ⟨fun cu => ref _ (fun _ => ⟨rfl, h.inv⟩) (fun j hj ej => ?_), fun cu => ?_⟩⟩
    · rw [ej, jwi_at hj (by omega)] at cu; exact absurd cu (by decide)
    · rcases jwi_cases u (b := nI n) n rfl (by omega) with ⟨j, hj, ej, -⟩ | ⟨-, ej⟩
      · subst ej
        have y3' := y3 j (by omega)
        rw [show x + 77 + 4 * i = x + 74 + 4 * i + 3 by omega] at y3'
        have one : ∀ j', nI j = nI j' → j' < n → j' = j := fun j' e hj' => (nI_inj (by omega) (by omega) e).symm
        refine ⟨k7, _, r2, k6, c_X6_isNumber (p := x + 74 + 4 * i + 3) hL hn y1' hj (fun c0 => ⟨fun _ => ref _ (fun c => absurd c cu) (fun j' hj' ej' => ?_), fun c => absurd rfl c⟩) (fun c0 => ⟨fun c => absurd c (by decide), fun _ => ⟨k7, _, r2, k6, _, r22, k12, by rw [l24]; exact jin_nI (by omega) (by omega), ?_⟩⟩)⟩
        · obtain rfl := one j' ej' hj'
          exact ⟨fun _ => ⟨rfl, h.inv⟩, fun c => absurd (y3'.symm.trans c0) c⟩
        · rw [jcl (by omega)]
          refine ref _ (fun c => absurd c cu) (fun j' hj' ej' => ?_)
          obtain rfl := one j' ej' hj'
          exact ⟨fun c => absurd (y3'.trans c) c0, fun _ => ⟨y3', h.inv⟩⟩
      · exact absurd ej cu
  · refine U_X11_item hM.k ⟨fun c => absurd c hs, fun _ => ⟨m.1, _, m.r7.1, m.r7.2.1, i7, ?_⟩⟩
    rw [ci, t3]
    exact ⟨fun c => absurd c n2, fun _ => ⟨fun c => absurd c n0, fun _ => ⟨rfl, h.inv⟩⟩⟩
theorem Q_rest {w u : Int32} (h : IV S x sz M v) : jFi E mX10_rest (d + 2) 0 0 [.ref x, .int w, .int u] S (fun r S1 => jFm E mX11_rest (d + 2) (x + 94) [.int w, .int u] S1 (fun r' S2 => r = r' ∧ INV S2 x M)) := by
  obtain ⟨⟨hX, hM, hg⟩, hC, hGL, hjn, hT, hI, hS, hSl, hW, hTp⟩ := id h
  have m := hM.1
  refine T_X10_rest ⟨hX.1, c_X10_findSlot hC (fun c => ⟨fun _ => U_X11_rest hM.k ⟨fun _ => ⟨rfl, h.inv⟩, fun c2 => absurd ((jisslot_wi w).trans c) c2⟩, fun b e => absurd e (by simp)⟩) (fun i hi e e1 => ⟨fun c => absurd c (by simp), fun b eb => ?_⟩)⟩
  obtain rfl : x + 74 + 4 * i = b := Option.some.inj eb
  subst e
  have hs : ¬ jisslot (nI i) = 0 := by rw [jisslot_wi, e1]; decide
  obtain ⟨th, t1, t2, t3, t4, t5, t6⟩ := hSl i hi
  obtain ⟨k7, r1, r2, k2, hL⟩ := hC.sl i hi
  have ci : Int32.toNatClampNeg (nI i) = i := jcl (by omega)
  have i5 : ∀ n, n = 5 → vp_in (nI i) n := fun n hn => by rw [hn]; exact jin_nI hi (by omega)
  have i7 := i5 _ m.r7.2.2
  have i8 := i5 _ m.r8.2.2
  rw [t2]
  have ref : ∀ Q : Int32 → jM → Prop, (nI th = 3 → (u = 0 → Q (-1000000002) S) ∧ (¬ u = 0 → Q (jrem (ji S (x + 102) i) u) S)) → (¬ nI th = 3 → (nI th = 0 → Q (-1000000011) S) ∧ (¬ nI th = 0 → Q (-1000000012) S)) → jFm E mX11_rest (d + 2) (x + 94) [.int (nI i), .int u] S Q := by
    intro Q q1 q2
    refine U_X11_rest hM.k ⟨fun c => absurd c hs, fun _ => ⟨m.1, _, m.r7.1, m.r7.2.1, i7, ?_⟩⟩
    rw [ci, t3]
    refine ⟨fun c => ⟨(q1 c).1, fun c2 => ⟨_, m.r8.1, m.r8.2.1, i8, c2, ?_⟩⟩, q2⟩
    exact (q1 c).2 c2
  refine ⟨k7, fun n0 => ref _ (fun c => absurd (n0.symm.trans c) (by decide)) (fun _ => ⟨fun _ => ⟨rfl, h.inv⟩, fun c => absurd n0 c⟩), fun n0 => ⟨fun n3 => ⟨fun u0 => ref _ (fun _ => ⟨fun _ => ⟨rfl, h.inv⟩, fun c => absurd u0 c⟩) (fun c => absurd n3 c), fun u0 => ⟨u0, ref _ (fun _ => ⟨fun c => absurd c u0, fun _ => ⟨?_, h.inv⟩⟩) (fun c => absurd n3 c)⟩⟩, fun n3 => ref _ (fun c => absurd c n3) (fun _ => ⟨fun c => absurd c n0, fun _ => ⟨rfl, h.inv⟩⟩)⟩⟩
  obtain rfl : th = 3 := nI_inj (by omega) (by omega) n3
  rw [t6 rfl]
end jLay
end
section
/-! TELL, TRIM, FEED on both sides -/
theorem jbyq (b : BitVec 32) {k : Nat} (hk : k ≤ 24) : (b >>> k) &&& 255#32 = (b.sshiftRight k) &&& 255#32 := by
  have h8 : ∀ i : Fin 32, 8 ≤ i.val → (255#32).getLsbD i.val = false := by decide
  apply BitVec.eq_of_getLsbD_eq
  intro i hi
  rw [BitVec.getLsbD_and, BitVec.getLsbD_and]
  by_cases h : 8 ≤ i
  · rw [h8 ⟨i, hi⟩ h, Bool.and_false, Bool.and_false]
  · rw [BitVec.getLsbD_ushiftRight, BitVec.getLsbD_sshiftRight]
    have h1 : k + i < 32 := by omega
    have h2 : ¬ 32 ≤ i := by omega
    simp [h1, h2]
theorem jbyN (y : Int32) : ∃ c, c < 256 ∧ y &&& 255 = nI c := by
  refine ⟨(y &&& 255).toBitVec.toNat, ?_, ?_⟩
  · have e : (y &&& 255).toBitVec = y.toBitVec &&& 255#32 := rfl
    rw [e, BitVec.toNat_and]
    exact Nat.lt_of_le_of_lt Nat.and_le_right (by decide)
  · apply Int32.toBitVec_inj.mp
    have e : (nI (y &&& 255).toBitVec.toNat).toBitVec = BitVec.ofNat 32 (y &&& 255).toBitVec.toNat := rfl
    rw [e, BitVec.ofNat_toNat, BitVec.setWidth_eq]
theorem jby24 (w : Int32) : jushr w 24 &&& 255 = jshr w 24 &&& 255 := Int32.toBitVec_inj.mp (jbyq w.toBitVec (k := 24) (by omega))
theorem jby16 (w : Int32) : jushr w 16 &&& 255 = jshr w 16 &&& 255 := Int32.toBitVec_inj.mp (jbyq w.toBitVec (k := 16) (by omega))
theorem jby8 (w : Int32) : jushr w 8 &&& 255 = jshr w 8 &&& 255 := Int32.toBitVec_inj.mp (jbyq w.toBitVec (k := 8) (by omega))
theorem jby0 (w : Int32) : jushr w 0 &&& 255 = jshr w 0 &&& 255 := Int32.toBitVec_inj.mp (jbyq w.toBitVec (k := 0) (by omega))
/-- byte e of four -/
def jbt (w : Int32) (e : Nat) : Int32 := jshr w (nI (24 - 8 * e)) &&& 255
theorem fb4_in (f : Nat → Int32) (n : Nat) (w : Int32) {j : Nat} (h1 : n ≤ j) (h2 : j < n + 4) : fb4 f n w j = jbt w (j - n) := by
  have hc : j = n ∨ j = n + 1 ∨ j = n + 2 ∨ j = n + 3 := by omega
  unfold fb4 jbt
  rcases hc with rfl | rfl | rfl | rfl
  · rw [upd_ne _ (by omega), upd_ne _ (by omega), upd_ne _ (by omega), upd_at, jby24, Nat.sub_self]; rfl
  · rw [upd_ne _ (by omega), upd_ne _ (by omega), upd_at, jby16, show n + 1 - n = 1 by omega]; rfl
  · rw [upd_ne _ (by omega), upd_at, jby8, show n + 2 - n = 2 by omega]; rfl
  · rw [upd_at, jby0, show n + 3 - n = 3 by omega]; rfl
theorem fb4_out (f : Nat → Int32) (n : Nat) (w : Int32) {j : Nat} (h : j < n ∨ n + 4 ≤ j) : fb4 f n w j = f j := by
  unfold fb4
  rw [upd_ne _ (by omega), upd_ne _ (by omega), upd_ne _ (by omega), upd_ne _ (by omega)]
section jTape
variable {E : jEnv} {d : Nat} {S S' : jM} {x sz M : Nat} {v : Nat → Int32}
theorem Q_tell {w : Int32} (h : IV S x sz M v) : jFi E mX10_tell (d + 1) 0 0 [.ref x, .int w] S (fun r S1 => jFm E mX11_tell (d + 1) (x + 94) [.int w] S1 (fun r' S2 => r = r' ∧ INV S2 x M)) := by
  obtain ⟨⟨hX, hM, hg⟩, hC, hGL, hjn, hT, hI, hS, hSl, hW, hTp⟩ := id h
  obtain ⟨n, n60, a1, a2, a3⟩ := hW
  have m := hM.1
  refine T_X10_tell ⟨hX.1, ?_⟩
  rw [a1]
  rcases Nat.lt_or_ge n 60 with h60 | h60
  · have e1 : ¬ jwi (nI n) 60 = 0 := by rw [show (60 : Int32) = nI 60 from rfl, jwi_at h60 (by omega)]; decide
    refine ⟨fun c => absurd c e1, fun _ => ⟨_, hC.2.1.2.2.2.2.2.2.2, hC.2.2.2.2.2.2.1.1, by rw [hC.2.2.2.2.2.2.1.2]; exact jin_nI h60 (by omega), ?_⟩⟩
    rw [jcl (by omega), nI_1]
    refine U_X11_tell m.1 ⟨m.1, fun c => ?_, fun _ => ⟨_, m.r33.1, m.r33.2.1, ?_, ?_⟩⟩
    · rw [ji_put_ne _ _ _ _ (by omega), ji_put_ne _ _ _ _ (by omega), a2] at c
      have := nI_inj (by omega) (by omega) (show nI n = nI 60 from c)
      omega
    · rw [ji_put_ne _ _ _ _ (by omega), ji_put_ne _ _ _ _ (by omega), a2]
      show vp_in (nI n) (jl S (x + 113))
      rw [m.r33.2.2]; exact jin_nI h60 (by omega)
    · have ea : ji (jput (jput S (x + 65) n w) x 9 (nI (n + 1))) (x + 94) 34 = nI n := by rw [ji_put_ne _ _ _ _ (by omega), ji_put_ne _ _ _ _ (by omega), a2]
      rw [ea, jcl (by omega), nI_1]
      have s3 : jsame S (jput (jput (jput (jput S (x + 65) n w) x 9 (nI (n + 1))) (x + 113) n w) (x + 94) 34 (nI (n + 1))) := ⟨rfl, rfl, rfl, rfl⟩
      have o : ∀ y, y ≠ x → y ≠ x + 65 → y ≠ x + 94 → y ≠ x + 113 → ji (jput (jput (jput (jput S (x + 65) n w) x 9 (nI (n + 1))) (x + 113) n w) (x + 94) 34 (nI (n + 1))) y = ji S y := fun y p q r s => by rw [ji_put_ne _ _ _ _ r, ji_put_ne _ _ _ _ s, ji_put_ne _ _ _ _ p, ji_put_ne _ _ _ _ q]
      have ox : ∀ j, j ≠ 9 → ji (jput (jput (jput (jput S (x + 65) n w) x 9 (nI (n + 1))) (x + 113) n w) (x + 94) 34 (nI (n + 1))) x j = ji S x j := fun j hj => by rw [ji_put_ne _ _ _ _ (by omega), ji_put_ne _ _ _ _ (by omega), ji_put, if_neg (fun c => hj c.2), ji_put_ne _ _ _ _ (by omega)]
      have om : ∀ j, j ≠ 34 → ji (jput (jput (jput (jput S (x + 65) n w) x 9 (nI (n + 1))) (x + 113) n w) (x + 94) 34 (nI (n + 1))) (x + 94) j = ji S (x + 94) j := fun j hj => by rw [ji_put, if_neg (fun c => hj c.2), ji_put_ne _ _ _ _ (by omega), ji_put_ne _ _ _ _ (by omega), ji_put_ne _ _ _ _ (by omega)]
      refine ⟨rfl, h.rst s3 (fun y hy => o y (by omega) (by omega) (by omega) (by omega)) ⟨hI.keep s3 (ox 2 (by omega)) (om 3 (by omega)) (fun y hy => o y (by omega) (by omega) (by omega) (by omega)), hS.keep (fun y hy => o y (by omega) (by omega) (by omega) (by omega)), hSl.keep (fun y hy => o y (by omega) (by omega) (by omega) (by omega)), ⟨n + 1, by omega, ?_, ?_, fun j hj => ?_⟩, hTp.keep (by rw [o (x + 60) (by omega) (by omega) (by omega) (by omega)]) (om 19 (by omega)) (o _ (by omega) (by omega) (by omega) (by omega)) (o _ (by omega) (by omega) (by omega) (by omega))⟩⟩
      · rw [ji_put_ne _ _ _ _ (by omega), ji_put_ne _ _ _ _ (by omega), ji_put_same]
      · rw [ji_put_same]
      · rw [ji_put_ne _ _ _ _ (show x + 65 ≠ x + 94 by omega), ji_put_ne _ _ _ _ (show x + 65 ≠ x + 113 by omega), ji_put_ne _ _ _ _ (show x + 65 ≠ x by omega), ji_put_ne _ _ _ _ (show x + 113 ≠ x + 94 by omega), ji_put, ji_put, ji_put_ne _ _ _ _ (show x + 113 ≠ x by omega), ji_put_ne _ _ _ _ (show x + 113 ≠ x + 65 by omega)]
        by_cases e : j = n
        · rw [if_pos ⟨rfl, e⟩, if_pos ⟨rfl, e⟩]
        · rw [if_neg (fun c => e c.2), if_neg (fun c => e c.2)]
          exact a3 j (by omega)
  · obtain rfl : n = 60 := by omega
    refine ⟨fun _ => U_X11_tell m.1 ⟨m.1, fun _ => ⟨rfl, h.inv⟩, fun c => absurd a2 c⟩, fun c => absurd (by decide) c⟩
theorem Q_trim {w : Int32} (h : IV S x sz M v) : jFi E mX10_trim (d + 1) 0 0 [.ref x, .int w] S (fun r S1 => jFm E mX11_trim (d + 1) (x + 94) [.int w] S1 (fun r' S2 => r = r' ∧ INV S2 x M)) := by
  obtain ⟨⟨hX, hM, hg⟩, hC, hGL, hjn, hT, hI, hS, hSl, hW, hTp⟩ := id h
  obtain ⟨n, n96, a1, a2, a3⟩ := hTp
  have m := hM.1
  have ej : ∀ z : Int32, jisin (Int32.toInt64 z) 0 (Int32.toInt64 (nI n)) = if z < 0 then 0 else if nI n < z then 0 else 1 := fun z => jisin_int z 0 (nI n)
  refine T_X10_trim ⟨fun c => ?_, fun c => ⟨hX.1, _, hC.2.1.2.2.2.2.1, hC.2.2.2.1.1, ?_⟩⟩
  · refine U_X11_trim m.1 ⟨m.1, ?_⟩
    rw [a2, ej, if_pos c]
    exact ⟨fun _ => ⟨rfl, h.inv⟩, fun c => absurd rfl c⟩
  · rw [a1]
    refine ⟨fun c1 => ?_, fun c1 => ?_⟩
    · refine U_X11_trim m.1 ⟨m.1, ?_⟩
      have ea : ji (jput S (x + 60) 1 w) (x + 94) 19 = nI n := by rw [ji_put_ne _ _ _ _ (by omega), a2]
      rw [ea, ej, if_neg c, if_neg (Int32.not_lt.mpr c1)]
      refine ⟨fun c => absurd c (by decide), fun _ => ⟨rfl, ?_⟩⟩
      obtain ⟨k, hk, rfl⟩ := nI_of c
      have hkn : k ≤ n := (nI_leI (by omega) (by omega)).mp c1
      have s3 : jsame S (jput (jput S (x + 60) 1 (nI k)) (x + 94) 19 (nI k)) := ⟨rfl, rfl, rfl, rfl⟩
      have o : ∀ y, y ≠ x + 60 → y ≠ x + 94 → ji (jput (jput S (x + 60) 1 (nI k)) (x + 94) 19 (nI k)) y = ji S y := fun y p q => by rw [ji_put_ne _ _ _ _ q, ji_put_ne _ _ _ _ p]
      have om : ∀ j, j ≠ 19 → ji (jput (jput S (x + 60) 1 (nI k)) (x + 94) 19 (nI k)) (x + 94) j = ji S (x + 94) j := fun j hj => by rw [ji_put, if_neg (fun c => hj c.2), ji_put_ne _ _ _ _ (by omega)]
      refine h.rst s3 (fun y hy => o y (by omega) (by omega)) ⟨hI.keep s3 (by rw [o x (by omega) (by omega)]) (om 3 (by omega)) (fun y hy => o y (by omega) (by omega)), hS.keep (fun y hy => o y (by omega) (by omega)), hSl.keep (fun y hy => o y (by omega) (by omega)), hW.keep (by rw [o x (by omega) (by omega)]) (om 34 (by omega)) (o _ (by omega) (by omega)) (o _ (by omega) (by omega)), ⟨k, by omega, ?_, ?_, fun j hj => ?_⟩⟩
      · rw [ji_put_ne _ _ _ _ (by omega), ji_put_same]
      · rw [ji_put_same]
      · rw [o _ (by omega) (by omega), o _ (by omega) (by omega)]; exact a3 j (by omega)
    · refine U_X11_trim m.1 ⟨m.1, ?_⟩
      rw [a2, ej, if_neg c, if_pos (Int32.not_le.mp c1)]
      exact ⟨fun _ => ⟨rfl, h.inv⟩, fun c => absurd rfl c⟩
/-- byte e of twelve -/
def jb12 (a b c : Int32) (e : Nat) : Int32 := if e < 4 then jbt a e else if e < 8 then jbt b (e - 4) else jbt c (e - 8)
theorem c_X11_feedB {Q : Int32 → jM → Prop} {n : Nat} {a b c : Int32} (hn : n + 12 ≤ 96) (h : ∀ S', ML S' (x + 94) → ji S' (x + 94) 19 = nI (n + 12) → jsame S S' → (∀ y, y ≠ x + 94 → y ≠ x + 109 → ji S' y = ji S y) → (∀ j, j ≠ 19 → ji S' (x + 94) j = ji S (x + 94) j) → (∀ j, ji S' (x + 109) j = if n ≤ j ∧ j < n + 12 then jb12 a b c (j - n) else ji S (x + 109) j) → Q (nI (n + 12)) S') :
    ∀ (r i : Nat) (S1 : jM), i + r = 12 → ML S1 (x + 94) → ji S1 (x + 94) 19 = nI (n + i) → jsame S S1 → (∀ y, y ≠ x + 94 → y ≠ x + 109 → ji S1 y = ji S y) → (∀ j, j ≠ 19 → ji S1 (x + 94) j = ji S (x + 94) j) → (∀ j, ji S1 (x + 109) j = if n ≤ j ∧ j < n + i then jb12 a b c (j - n) else ji S (x + 109) j) → L_X11_feed_18 E d Q (x + 94) a b c (nI i) S1 := by
  intro r
  induction r with
  | zero =>
    intro i S1 hi hM h19 hs ho hm hj
    obtain rfl : i = 12 := by omega
    refine T_X11_feed_18 ⟨fun _ => ⟨hM.1, ?_⟩, fun c => absurd (by decide) c⟩
    rw [h19]; exact h S1 hM h19 hs ho hm hj
  | succ r ih =>
    intro i S1 hi hM h19 hs ho hm hj
    have r18 := hM.r18
    have inn : vp_in (ji S1 (x + 94) 19) (jl S1 (x + 109)) := by rw [h19, r18.2.2]; exact jin_nI (by omega) (by omega)
    have sh : ∀ i : Fin 12, (24 : Int32) - 8 * jrem (nI i.val) 4 = nI (24 - 8 * (i.val % 4)) := by decide
    have nxt : ∀ w : Int32, w = jb12 a b c i → L_X11_feed_18 E d Q (x + 94) a b c (nI i + 1) (jput (jput S1 (x + 109) (Int32.toNatClampNeg (ji S1 (x + 94) 19)) w) (x + 94) 19 (ji S1 (x + 94) 19 + 1)) := by
      intro w hw
      rw [nI_1, h19, nI_1, jcl (by omega)]
      refine ih (i + 1) _ (by omega) hM (by rw [ji_put_same, show n + i + 1 = n + (i + 1) by omega]) ⟨hs.1, hs.2.1, hs.2.2.1, hs.2.2.2⟩ (fun y h1 h2 => (ji_put_ne _ _ _ _ h1).trans ((ji_put_ne _ _ _ _ (by omega)).trans (ho y h1 h2))) (fun j hj' => ?_) (fun j => ?_)
      · rw [ji_put, if_neg (fun c => hj' c.2), ji_put_ne _ _ _ _ (by omega)]; exact hm j hj'
      · rw [ji_put_ne _ _ _ _ (by omega), ji_put]
        by_cases e : j = n + i
        · rw [if_pos ⟨rfl, e⟩, if_pos (by omega), hw, e, show n + i - n = i by omega]
        · rw [if_neg (fun c => e c.2), hj j]
          by_cases e2 : n ≤ j ∧ j < n + i
          · rw [if_pos e2, if_pos (by omega)]
          · rw [if_neg e2, if_neg (by omega)]
    refine T_X11_feed_18 ⟨fun c => absurd c (nI_ge (b := 12) (by omega) (by omega)), fun _ => ⟨fun c4 => ⟨fun c8 => ⟨hM.1, _, r18.1, r18.2.1, inn, nxt _ ?_⟩, fun c8 => ⟨hM.1, _, r18.1, r18.2.1, inn, nxt _ ?_⟩⟩, fun c4 => ⟨hM.1, _, r18.1, r18.2.1, inn, nxt _ ?_⟩⟩⟩
    all_goals rw [sh ⟨i, by omega⟩]; unfold jb12 jbt
    · have := (nI_leI (a := 8) (by omega) (by omega)).mp c8
      rw [if_neg (by omega), if_neg (by omega), show i % 4 = i - 8 by omega]
    · have := (nI_leI (a := 4) (by omega) (by omega)).mp c4
      have : ¬ 8 ≤ i := fun q => c8 (nI_le (a := 8) q (by omega))
      rw [if_neg (by omega), if_pos (by omega), show i % 4 = i - 4 by omega]
    · have : ¬ 4 ≤ i := fun q => c4 (nI_le (a := 4) q (by omega))
      rw [if_pos (by omega), show i % 4 = i by omega]
theorem Q_feed {a b c : Int32} (h : IV S x sz M v) : jFi E mX10_feed (d + 2) 0 0 [.ref x, .int a, .int b, .int c] S (fun r S1 => jFm E mX11_feed (d + 2) (x + 94) [.int a, .int b, .int c] S1 (fun r' S2 => r = r' ∧ INV S2 x M)) := by
  obtain ⟨⟨hX, hM, hg⟩, hC, hGL, hjn, hT, hI, hS, hSl, hW, hTp⟩ := id h
  obtain ⟨n, n96, a1, a2, a3⟩ := hTp
  have m := hM.1
  have r5 := hC.2.1.2.2.2.2.1
  have hTL := hC.2.2.2.1
  refine T_X10_feed ⟨hX.1, _, r5, hTL.1, ?_⟩
  rw [a1]
  refine ⟨fun cn => ?_, fun cn => ?_⟩
  · have hn : n ≤ 84 := (nI_leI (b := 84) (by omega) (by omega)).mp cn
    refine c_X8_addNumber hTL a1 (by omega) (fun S1 c1 p1 p2 p3 => ⟨by rw [c1.1.1]; exact hX.1, _, by rw [c1.1.2.2.1]; exact r5, (hTL.same c1.1).1, ?_⟩)
    refine c_X8_addNumber (hTL.same c1.1) p1 (by omega) (fun S2 c2 q1 q2 q3 => ?_)
    have c12 := c1.trans c2
    refine ⟨by rw [c12.1.1]; exact hX.1, _, by rw [c12.1.2.2.1]; exact r5, (hTL.same c12.1).1, ?_⟩
    refine c_X8_addNumber (hTL.same c12.1) q1 (by omega) (fun S3 c3 t1 t2 t3 => ?_)
    have c13 := c12.trans c3
    refine ⟨by rw [c13.1.1]; exact hX.1, _, by rw [c13.1.2.2.1]; exact r5, (hTL.same c13.1).1, ?_⟩
    rw [t1]
    have m3 := m.same c13.1
    have b2 : ji S3 (x + 94) 19 = nI n := by rw [c13.2 _ (by omega)]; exact a2
    refine U_X11_feed m3.1 ⟨m3.1, fun _ => ?_, fun c => ?_⟩
    · refine c_X11_feedB (S := S3) (n := n) (by omega) (fun S4 m4 e1 s4 o4 om ob => ⟨rfl, ?_⟩) 12 0 S3 (by omega) m3 b2 jsame.rfl (fun _ _ _ => rfl) (fun _ _ => rfl) (fun j => by rw [if_neg (by omega)])
      have s : jsame S S4 := c13.1.trans s4
      have o : ∀ y, y ≠ x + 60 → y ≠ x + 61 → y ≠ x + 94 → y ≠ x + 109 → ji S4 y = ji S y := fun y p q r t => (o4 y r t).trans (c13.2 y (by omega))
      have om' : ∀ j, j ≠ 19 → ji S4 (x + 94) j = ji S (x + 94) j := fun j hj => (om j hj).trans (by rw [c13.2 _ (by omega)])
      refine h.rst s (fun y hy => o y (by omega) (by omega) (by omega) (by omega)) ⟨hI.keep s (by rw [o x (by omega) (by omega) (by omega) (by omega)]) (om' 3 (by omega)) (fun y hy => o y (by omega) (by omega) (by omega) (by omega)), hS.keep (fun y hy => o y (by omega) (by omega) (by omega) (by omega)), hSl.keep (fun y hy => o y (by omega) (by omega) (by omega) (by omega)), hW.keep (by rw [o x (by omega) (by omega) (by omega) (by omega)]) (om' 34 (by omega)) (o _ (by omega) (by omega) (by omega) (by omega)) (o _ (by omega) (by omega) (by omega) (by omega)), ⟨n + 12, by omega, ?_, e1, fun j hj => ?_⟩⟩
      · rw [o4 _ (by omega) (by omega)]; exact t1
      · rw [ob j, o4 _ (by omega) (by omega)]
        have e3 : ji S3 (x + 61) j = fb4 (ji S2 (x + 61)) (n + 4 + 4) c j := t3 j
        have e2 : ∀ j, ji S2 (x + 61) j = fb4 (ji S1 (x + 61)) (n + 4) b j := q3
        have e1 : ∀ j, ji S1 (x + 61) j = fb4 (ji S (x + 61)) n a j := p3
        rw [e3]
        by_cases g : n ≤ j
        · rw [if_pos ⟨g, hj⟩]
          unfold jb12
          by_cases g1 : j < n + 4
          · rw [fb4_out _ _ _ (by omega), e2, fb4_out _ _ _ (by omega), e1, fb4_in _ _ _ g g1, if_pos (by omega)]
            obtain ⟨c', hc', ec⟩ := jbyN (jshr a (nI (24 - 8 * (j - n))))
            exact ⟨c', hc', ec, ec⟩
          · rw [if_neg (by omega)]
            by_cases g2 : j < n + 8
            · rw [fb4_out _ _ _ (by omega), e2, fb4_in _ _ _ (by omega) (by omega), if_pos (by omega), show j - (n + 4) = j - n - 4 by omega]
              obtain ⟨c', hc', ec⟩ := jbyN (jshr b (nI (24 - 8 * (j - n - 4))))
              exact ⟨c', hc', ec, ec⟩
            · rw [fb4_in _ _ _ (by omega) (by omega), if_neg (by omega), show j - (n + 4 + 4) = j - n - 8 by omega]
              obtain ⟨c', hc', ec⟩ := jbyN (jshr c (nI (24 - 8 * (j - n - 8))))
              exact ⟨c', hc', ec, ec⟩
        · rw [if_neg (fun q => g q.1), fb4_out _ _ _ (by omega), e2, fb4_out _ _ _ (by omega), e1, fb4_out _ _ _ (by omega), c13.2 _ (by omega)]
          exact a3 j (by omega)
    · rw [b2, show (12 : Int32) = nI 12 from rfl, nI_add] at c
      exact absurd (nI_le (b := 96) (by omega) (by omega)) c
  · have hn : ¬ n ≤ 84 := fun q => cn (nI_le (b := 84) q (by omega))
    refine U_X11_feed m.1 ⟨m.1, fun c => ?_, fun _ => ⟨rfl, h.inv⟩⟩
    rw [a2, show (12 : Int32) = nI 12 from rfl, nI_add] at c
    have := (nI_leI (b := 96) (by omega) (by omega)).mp c
    omega
end jTape
end
section
/-! KEEP, BACK on both sides -/
section jKeep
variable {E : jEnv} {d : Nat} {S S' : jM} {x sz M : Nat} {v : Nat → Int32}
theorem CL.refs (h : CL S x) (hk : jk S' = jk S) (hl : jl S' = jl S) (hr : ∀ y, y ≠ x + 20 → y ≠ x + 40 → jr S' y = jr S y) : CL S' x := by
  obtain ⟨a1, ⟨a2, a3, a4, a5, a6, a7, a8, a9⟩, ⟨b1, b2, b3, b4, b5⟩, ⟨c1, c2, c3, c4, c5, c6, c7⟩, ⟨e1, e2, e3⟩, ⟨f1, f2, f3⟩, ⟨g1, g2⟩, hsh, hsl⟩ := h
  have q0 := hr x (by omega) (by omega)
  have q52 := hr (x + 52) (by omega) (by omega)
  have q60 := hr (x + 60) (by omega) (by omega)
  have q63 := hr (x + 63) (by omega) (by omega)
  have q64 := hr (x + 64) (by omega) (by omega)
  refine ⟨by rw [hk]; exact a1, by rw [q0]; exact ⟨a2, a3, a4, a5, a6, a7, a8, a9⟩, ⟨by rw [hk]; exact b1, fun k hk' => ?_, fun k hk' => by rw [hl]; exact b3 k hk', by rw [hl]; exact b4, by rw [hl]; exact b5⟩, ⟨by rw [hk]; exact c1, by rw [q60]; exact c2, by rw [q60]; exact c3, by rw [hk]; exact c4, by rw [hl]; exact c5, by rw [hk]; exact c6, by rw [hl]; exact c7⟩, ⟨by rw [hk]; exact e1, by rw [hl]; exact e2, by rw [q63]; exact e3⟩, ⟨by rw [hk]; exact f1, by rw [hl]; exact f2, by rw [q64]; exact f3⟩, ⟨by rw [hk]; exact g1, by rw [hl]; exact g2⟩, fun i hi => ?_, fun i hi => ?_⟩
  · rw [q52, hk]; exact b2 k hk'
  · obtain ⟨s1, s2, s3, s4⟩ := hsh i hi
    exact ⟨by rw [hk]; exact s1, by rw [hr _ (by omega) (by omega)]; exact s2, by rw [hk]; exact s3, by rw [hl]; exact s4⟩
  · obtain ⟨s1, s2, s3, s4, s5, s6, s7, s8⟩ := hsl i hi
    exact ⟨by rw [hk]; exact s1, by rw [hr _ (by omega) (by omega)]; exact s2, by rw [hr _ (by omega) (by omega)]; exact s3, by rw [hk]; exact s4, by rw [hk]; exact s5, by rw [hr _ (by omega) (by omega)]; exact s6, by rw [hk]; exact s7, by rw [hl]; exact s8⟩
theorem ML.rr0 (h : ML S (x + 94)) : jr S (x + 94) 0 = some (x + 95) := (h.2 0 (0, 3135) rfl).1
theorem ML.kk1 (h : ML S (x + 94)) : jk S (x + 95) = 12 := (h.2 0 (0, 3135) rfl).2.1
theorem ML.ll1 (h : ML S (x + 94)) : jl S (x + 95) = 3135 := (h.2 0 (0, 3135) rfl).2.2
theorem ML.refs2 {m : Nat} (h : ML S m) (hk : jk S' = jk S) (hl : jl S' = jl S) (hr : jr S' m = jr S m) : ML S' m := by
  unfold ML
  rw [hk, hl, hr]; exact h
theorem GL.refs {g : Nat} (h : GL S g) (hk : jk S' = jk S) (hl : jl S' = jl S) (hr : jr S' g = jr S g) (hr1 : jr S' (g + 1) = jr S (g + 1)) : GL S' g := by
  unfold GL
  rw [hk, hl, hr, hr1]; exact h
theorem RmR.cong {r : Nat} {v' : Nat → Int32} (h : RmR S r sz v) (he : ∀ j, j < 135 → v' j = v j) : RmR S r sz v' := by
  obtain ⟨a0, a1, a2, a3, a4, a5, a6, a7, a8⟩ := h
  refine ⟨a0, a1, by rw [he 0 (by omega)]; exact a2, ?_, a4.cong (fun i hi => he _ (by omega)), ?_, by rw [he 7 (by omega)]; exact a6, fun i hi => by rw [he _ (by omega)]; exact a7 i hi, by rw [he 1 (by omega)]; exact a8⟩
  · rw [he 8 (by omega)]
    exact a3.cong (fun i hi f hf => (he _ (by omega)).symm)
  · rw [he 3 (by omega), he 4 (by omega), he 5 (by omega), he 6 (by omega), he 2 (by omega)]
    exact a5.cong (fun i hi => (he _ (by omega)).symm) (fun i hi => (he _ (by omega)).symm)
theorem Rg.cong {v' : Nat → Int32} (h : Rg sz v) (he : ∀ j, j < 135 → v' j = v j) : Rg sz v' := fun j hj hb => by rw [he j hj]; exact h j hj hb
theorem Q_keep (h : IV S x sz M v) : jFi E mX10_keep (d + 3) 0 0 [.ref x] S (fun r S1 => jFm E mX11_keep (d + 3) (x + 94) [] S1 (fun r' S2 => r = r' ∧ INV S2 x M)) := by
  obtain ⟨⟨hX, hM, hg⟩, hC, hGL, hjn, hT, hI, hS, hSl, hW, hTp⟩ := id h
  obtain ⟨szi, vi, i1, i2, i3⟩ := hI
  have m := hM.1
  have hz := hT.choose_spec.2.2.2
  refine T_X10_keep ⟨hX.1, _, hC.2.1.2.1, _, hX.2.1, i1.1.1, ?_⟩
  refine c_X3_become i1 hX.2.2 hg (by omega) (fun t ht b hb => (hz t ht b hb).1) (fun S1 c1 r1 t1 => ?_)
  obtain ⟨ck, cl, cn, cr, ci⟩ := c1
  refine ⟨by rw [ck]; exact hX.1, _, by rw [cr _ (by omega)]; exact hC.2.1.2.1, r1.1.1, _, r1.1.2.1, r1.2.2.2.1.1.1, ?_⟩
  have e1 : ji S1 (x + 21 + 1) 1 = nI sz := r1.2.2.2.1.2.1
  rw [e1]
  have m1 : ML S1 (x + 94) := m.refs2 ck cl (cr _ (by omega))
  have m2 : ML (jput (jput S1 x 2 1) (x + 94) 3 1) (x + 94) := m1
  refine U_X11_keep m1.1 ⟨m1.1, _, m2.rr0, _, m2.r1.1, ?_⟩
  refine c_X11_setAside m2.kk1 m2.ll1 m2.r1.2.1 m2.r1.2.2 (by omega) (fun S4 c4 b4 => ?_)
  have m4 := m2.same c4.1
  have k4 : jk S4 = jk S := c4.1.1.trans ck
  have l4 : jl S4 = jl S := c4.1.2.1.trans cl
  have n4 : jn S4 = jn S := c4.1.2.2.2.trans cn
  have r4 : ∀ y, y ≠ x + 40 → jr S4 y = jr S y := fun y hy => by rw [c4.1.2.2.1]; exact cr y (by omega)
  have r40 : ∀ t, t < 14 → jr S4 (x + 40) t = jr S (x + 20) t := fun t ht => by rw [c4.1.2.2.1]; exact t1 t ht
  have o4 : ∀ y, (y < x + 21 ∨ x + 40 ≤ y) → y ≠ x → y ≠ x + 94 → y ≠ x + 96 → ji S4 y = ji S y := fun y p q r s => by
    rw [c4.2 y (by omega), ji_put_ne _ _ _ _ r, ji_put_ne _ _ _ _ q]; exact ci y (by omega)
  have ox : ∀ j, ji S4 x j = if j = 2 then 1 else ji S x j := fun j => by
    rw [c4.2 x (by omega), ji_put_ne _ _ _ _ (by omega), ji_put]
    by_cases e : j = 2
    · rw [if_pos ⟨rfl, e⟩, if_pos e]
    · rw [if_neg (fun c => e c.2), if_neg e, ci x (by omega)]
  have om : ∀ j, ji S4 (x + 94) j = if j = 3 then 1 else ji S (x + 94) j := fun j => by
    rw [c4.2 (x + 94) (by omega), ji_put]
    by_cases e : j = 3
    · rw [if_pos ⟨rfl, e⟩, if_pos e]
    · rw [if_neg (fun c => e c.2), if_neg e, ji_put_ne _ _ _ _ (by omega), ci _ (by omega)]
  have o95 : ∀ j, ji S4 (x + 95) j = v j := fun j => by rw [o4 _ (by omega) (by omega) (by omega) (by omega)]; exact hM.2 j
  refine ⟨m4.1, _, m4.rr0, m4.kk1, ?_, ?_, sz, v, ⟨⟨by rw [k4]; exact hX.1, by rw [r4 _ (by omega)]; exact hX.2.1, hX.2.2.grow (fun y p q => ⟨by rw [k4], by rw [l4], o4 y (by omega) (by omega) (by omega) (by omega), r4 y (by omega)⟩)⟩, ⟨m4, o95⟩, hg⟩, hC.refs k4 l4 (fun y _ q => r4 y q), hGL.refs k4 l4 (r4 _ (by omega)) (r4 _ (by omega)), by rw [n4]; exact hjn, ?_, ⟨sz, v, ?_, fun t ht b hb => ?_, Or.inr ⟨?_, ?_, hg, fun j hj => ?_, ?_⟩⟩, hS.keep (fun y hy => o4 y (by omega) (by omega) (by omega) (by omega)), hSl.keep (fun y hy => o4 y (by omega) (by omega) (by omega) (by omega)), hW.keep ?_ ?_ (o4 _ (by omega) (by omega) (by omega) (by omega)) (o4 _ (by omega) (by omega) (by omega) (by omega)), hTp.keep (by rw [o4 _ (by omega) (by omega) (by omega) (by omega)]) ?_ (o4 _ (by omega) (by omega) (by omega) (by omega)) (o4 _ (by omega) (by omega) (by omega) (by omega))⟩
  · show vp_in (nI 0) _
    rw [m4.ll1]; exact jin_nI (by omega) (by omega)
  · show nI sz = ji S4 (x + 95) 0
    rw [o95, hX.v0]
  · exact hT.move (by omega) (fun y _ => by rw [k4]) (fun y _ => by rw [l4]) (fun t _ => by rw [r4 _ (by omega)]) (fun y p _ => r4 y (by omega)) (fun y p _ _ => o4 y (by omega) (by omega) (by omega) (by omega)) (fun _ _ _ => rfl)
  · have r2 : RmR (jput (jput S1 x 2 1) (x + 94) 3 1) (x + 21) sz v := (r1.keep (jch.put (lo := x) (hi := x + 1) (by omega) (by omega)) (by omega)).keep (jch.put (lo := x + 94) (hi := x + 95) (by omega) (by omega)) (by omega)
    exact r2.keep c4 (by omega)
  · rw [r40 t ht] at hb
    rw [k4]; exact hz t ht b hb
  · rw [ox, if_pos rfl]
  · rw [om, if_pos rfl]
  · rw [b4 j, if_pos hj, ji_put_ne _ _ _ _ (by omega), ji_put_ne _ _ _ _ (by omega), ci _ (by omega)]
    exact hM.2 j
  · exact hT.move (by omega) (fun y _ => by rw [k4]) (fun y _ => by rw [l4]) r40 (fun y p _ => r4 y (by omega)) (fun y p _ _ => o4 y (by omega) (by omega) (by omega) (by omega)) (fun _ _ _ => rfl)
  · rw [ox, if_neg (by omega)]
  · rw [om, if_neg (by omega)]
  · rw [om, if_neg (by omega)]
theorem Q_back (h : IV S x sz M v) : jFi E mX10_back (d + 3) 0 0 [.ref x] S (fun r S1 => jFm E mX11_back (d + 3) (x + 94) [] S1 (fun r' S2 => r = r' ∧ INV S2 x M)) := by
  obtain ⟨⟨hX, hM, hg⟩, hC, hGL, hjn, hT, hI, hS, hSl, hW, hTp⟩ := id h
  obtain ⟨szi, vi, i1, i2, i3⟩ := hI
  have m := hM.1
  refine T_X10_back ⟨hX.1, fun c => ?_, fun c => ?_⟩
  · rcases i3 with ⟨-, j2⟩ | ⟨j1, -⟩
    · exact U_X11_back m.1 ⟨m.1, fun _ => ⟨rfl, h.inv⟩, fun c2 => absurd j2 c2⟩
    · rw [j1] at c; exact absurd c (by decide)
  · rcases i3 with ⟨j1, -⟩ | ⟨j1, j2, j3, j4, j5⟩
    · exact absurd j1 c
    · refine ⟨_, hX.2.1, _, hC.2.1.2.1, hX.k3, ?_⟩
      refine c_X3_become hX.2.2 i1 j3 (by omega) (fun t ht b hb => (i2 t ht b hb).1) (fun S1 c1 r1 t1 => ?_)
      obtain ⟨ck, cl, cn, cr, ci⟩ := c1
      refine ⟨by rw [ck]; exact hX.1, _, by rw [cr _ (by omega)]; exact hX.2.1, r1.1.1, _, r1.1.2.1, r1.2.2.2.1.1.1, ?_⟩
      have e1 : ji S1 (x + 1 + 1) 1 = nI szi := r1.2.2.2.1.2.1
      rw [e1]
      have m1 : ML S1 (x + 94) := m.refs2 ck cl (cr _ (by omega))
      refine U_X11_back m1.1 ⟨m1.1, fun c2 => ?_, fun _ => ⟨_, m1.r1.1, _, m1.rr0, ?_⟩⟩
      · rw [ci _ (by omega), j2] at c2; exact absurd c2 (by decide)
      refine c_X11_setAside m1.r1.2.1 m1.r1.2.2 m1.kk1 m1.ll1 (by omega) (fun S4 c4 b4 => ?_)
      have m4 := m1.same c4.1
      have k4 : jk S4 = jk S := c4.1.1.trans ck
      have l4 : jl S4 = jl S := c4.1.2.1.trans cl
      have n4 : jn S4 = jn S := c4.1.2.2.2.trans cn
      have r4 : ∀ y, y ≠ x + 20 → jr S4 y = jr S y := fun y hy => by rw [c4.1.2.2.1]; exact cr y (by omega)
      have r20 : ∀ t, t < 14 → jr S4 (x + 20) t = jr S (x + 40) t := fun t ht => by
        rw [c4.1.2.2.1]
        have := t1 t ht
        rw [show x + 21 + 19 = x + 40 by omega, show x + 1 + 19 = x + 20 by omega] at this
        exact this
      have o4 : ∀ y, (y < x + 1 ∨ x + 20 ≤ y) → y ≠ x + 95 → ji S4 y = ji S y := fun y p q => by
        rw [c4.2 y (by omega)]; exact ci y (by omega)
      have e2935 : ∀ j, j < 2935 → (fun j => if j < 2935 then vi j else v j) j = vi j := fun j hj => if_pos hj
      have o95 : ∀ j, ji S4 (x + 95) j = if j < 2935 then vi j else v j := fun j => by
        have b5 : ji S4 (x + 95) j = if j < 2935 then ji S1 (x + 96) j else ji S1 (x + 95) j := b4 j
        rw [b5, ci _ (by omega), ci _ (by omega)]
        by_cases hj : j < 2935
        · rw [if_pos hj, if_pos hj]; exact j4 j hj
        · rw [if_neg hj, if_neg hj]; exact hM.2 j
      refine ⟨m4.1, _, m4.rr0, m4.kk1, ?_, ?_, szi, (fun j => if j < 2935 then vi j else v j), ⟨⟨by rw [k4]; exact hX.1, by rw [r4 _ (by omega)]; exact hX.2.1, (r1.keep c4 (by omega)).cong (fun j hj => e2935 j (by omega))⟩, ⟨m4, o95⟩, j3.cong (fun j hj => e2935 j (by omega))⟩, hC.refs k4 l4 (fun y q _ => r4 y q), hGL.refs k4 l4 (r4 _ (by omega)) (r4 _ (by omega)), by rw [n4]; exact hjn, ?_, ⟨szi, vi, ?_, fun t ht b hb => ?_, Or.inr ⟨?_, ?_, j3, fun j hj => ?_, ?_⟩⟩, hS.keep (fun y hy => o4 y (by omega) (by omega)), hSl.keep (fun y hy => o4 y (by omega) (by omega)), hW.keep (by rw [o4 _ (by omega) (by omega)]) (by rw [o4 _ (by omega) (by omega)]) (o4 _ (by omega) (by omega)) (o4 _ (by omega) (by omega)), hTp.keep (by rw [o4 _ (by omega) (by omega)]) (by rw [o4 _ (by omega) (by omega)]) (o4 _ (by omega) (by omega)) (o4 _ (by omega) (by omega))⟩
      · show vp_in (nI 0) _
        rw [m4.ll1]; exact jin_nI (by omega) (by omega)
      · show nI szi = ji S4 (x + 95) 0
        rw [o95, if_pos (by omega)]; exact i1.2.2.1.symm
      · exact j5.move (by omega) (fun y _ => by rw [k4]) (fun y _ => by rw [l4]) r20 (fun y p _ => r4 y (by omega)) (fun y p _ _ => o4 y (by omega) (by omega)) (fun j _ hj => e2935 j hj)
      · exact i1.grow (fun y p q => ⟨by rw [k4], by rw [l4], o4 y (by omega) (by omega), r4 y (by omega)⟩)
      · rw [r4 _ (by omega)] at hb
        rw [k4]; exact i2 t ht b hb
      · rw [o4 _ (by omega) (by omega)]; exact j1
      · rw [o4 _ (by omega) (by omega)]; exact j2
      · rw [o4 _ (by omega) (by omega)]; exact j4 j hj
      · exact j5.move (by omega) (fun y _ => by rw [k4]) (fun y _ => by rw [l4]) (fun t _ => by rw [r4 _ (by omega)]) (fun y p _ => r4 y (by omega)) (fun y p _ _ => o4 y (by omega) (by omega)) (fun _ _ _ => rfl)
end jKeep
end
