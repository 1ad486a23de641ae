section
/-! SHEETS on both sides, by any state -/
def SH1 (S : jM) (x i : Nat) : Prop := ∃ so n, n ≤ 24 ∧ (so = -1 ∨ so = 0 ∨ so = 1) ∧ ji S (x + 66 + 2 * i) 0 = so ∧ ji S (x + 98) i = so ∧ ji S (x + 66 + 2 * i) 1 = nI n ∧ ji S (x + 99) i = nI n ∧ ∀ j, j < 24 → ji S (x + 67 + 2 * i) j = ji S (x + 100) (24 * i + j) ∧ jpl (ji S (x + 67 + 2 * i) j)
section jSheets
variable {E : jEnv} {d : Nat} {S S' : jM} {x sz M : Nat} {v : Nat → Int32}
theorem ML.r1 (h : ML S (x + 94)) : jr S (x + 94) 1 = some (x + 96) ∧ jk S (x + 96) = 12 ∧ jl S (x + 96) = 3135 := h.row 1 3135 (f := 1) rfl
theorem ML.r2 (h : ML S (x + 94)) : jr S (x + 94) 2 = some (x + 97) ∧ jk S (x + 97) = 12 ∧ jl S (x + 97) = 3135 := h.row 2 3135 (f := 2) rfl
theorem ML.r4 (h : ML S (x + 94)) : jr S (x + 94) 4 = some (x + 98) ∧ jk S (x + 98) = 12 ∧ jl S (x + 98) = 4 := h.row 3 4 (f := 4) rfl
theorem ML.r5 (h : ML S (x + 94)) : jr S (x + 94) 5 = some (x + 99) ∧ jk S (x + 99) = 12 ∧ jl S (x + 99) = 4 := h.row 4 4 (f := 5) rfl
theorem ML.r6 (h : ML S (x + 94)) : jr S (x + 94) 6 = some (x + 100) ∧ jk S (x + 100) = 12 ∧ jl S (x + 100) = 96 := h.row 5 96 (f := 6) rfl
theorem ML.r7 (h : ML S (x + 94)) : jr S (x + 94) 7 = some (x + 101) ∧ jk S (x + 101) = 12 ∧ jl S (x + 101) = 5 := h.row 6 5 (f := 7) rfl
theorem ML.r8 (h : ML S (x + 94)) : jr S (x + 94) 8 = some (x + 102) ∧ jk S (x + 102) = 12 ∧ jl S (x + 102) = 5 := h.row 7 5 (f := 8) rfl
theorem ML.r9 (h : ML S (x + 94)) : jr S (x + 94) 9 = some (x + 103) ∧ jk S (x + 103) = 12 ∧ jl S (x + 103) = 5 := h.row 8 5 (f := 9) rfl
theorem ML.r10 (h : ML S (x + 94)) : jr S (x + 94) 10 = some (x + 104) ∧ jk S (x + 104) = 12 ∧ jl S (x + 104) = 5 := h.row 9 5 (f := 10) rfl
theorem ML.r11 (h : ML S (x + 94)) : jr S (x + 94) 11 = some (x + 105) ∧ jk S (x + 105) = 12 ∧ jl S (x + 105) = 120 := h.row 10 120 (f := 11) rfl
theorem ML.r18 (h : ML S (x + 94)) : jr S (x + 94) 18 = some (x + 109) ∧ jk S (x + 109) = 12 ∧ jl S (x + 109) = 96 := h.row 14 96 (f := 18) rfl
theorem ML.r32 (h : ML S (x + 94)) : jr S (x + 94) 32 = some (x + 112) ∧ jk S (x + 112) = 12 ∧ jl S (x + 112) = 24 := h.row 17 24 (f := 32) rfl
theorem ML.r33 (h : ML S (x + 94)) : jr S (x + 94) 33 = some (x + 113) ∧ jk S (x + 113) = 12 ∧ jl S (x + 113) = 60 := h.row 18 60 (f := 33) rfl
theorem ML.r35 (h : ML S (x + 94)) : jr S (x + 94) 35 = some (x + 114) ∧ jk S (x + 114) = 12 ∧ jl S (x + 114) = 60 := h.row 19 60 (f := 35) rfl
/-! the rest's pieces stay where nothing of theirs is written -/
theorem IMG.keep (h : IMG S x M) (hs : jsame S S') (hx : ji S' x 2 = ji S x 2) (hm : ji S' (x + 94) 3 = ji S (x + 94) 3) (hi : ∀ y, ((x + 21 ≤ y ∧ y < x + 41) ∨ y = x + 96 ∨ x + 115 ≤ y) → ji S' y = ji S y) : IMG S' x M := by
  obtain ⟨sz, v, i1, i2, i3⟩ := h
  obtain ⟨k, l, rr, -⟩ := id hs
  refine ⟨sz, v, i1.grow (fun y p q => ⟨by rw [k], by rw [l], hi y (by omega), by rw [rr]⟩), fun t ht b hb => by rw [rr] at hb; rw [k]; exact i2 t ht b hb, ?_⟩
  rw [hx, hm]
  rcases i3 with i3 | ⟨a1, a2, a3, a4, a5⟩
  · exact Or.inl i3
  · exact Or.inr ⟨a1, a2, a3, fun j hj => by rw [hi (x + 96) (by omega)]; exact a4 j hj, a5.same hs (fun y p _ => hi y (by omega)) (fun _ _ _ => rfl)⟩
theorem SH1.keep {i : Nat} (h : SH1 S x i) (h1 : ji S' (x + 66 + 2 * i) = ji S (x + 66 + 2 * i)) (h2 : ji S' (x + 67 + 2 * i) = ji S (x + 67 + 2 * i)) (h3 : ji S' (x + 98) i = ji S (x + 98) i) (h4 : ji S' (x + 99) i = ji S (x + 99) i) (h5 : ∀ j, j < 24 → ji S' (x + 100) (24 * i + j) = ji S (x + 100) (24 * i + j)) : SH1 S' x i := by
  obtain ⟨so, n, a1, a2, a3, a4, a5, a6, a7⟩ := h
  refine ⟨so, n, a1, a2, by rw [h1]; exact a3, by rw [h3]; exact a4, by rw [h1]; exact a5, by rw [h4]; exact a6, fun j hj => ?_⟩
  rw [h2, h5 j hj]; exact a7 j hj
theorem SHR.keep (h : SHR S x) (hi : ∀ y, ((x + 66 ≤ y ∧ y < x + 74) ∨ (x + 98 ≤ y ∧ y ≤ x + 100)) → ji S' y = ji S y) : SHR S' x := fun i h4 =>
  SH1.keep (h i h4) (hi _ (by omega)) (hi _ (by omega)) (by rw [hi (x + 98) (by omega)]) (by rw [hi (x + 99) (by omega)]) (fun j _ => by rw [hi (x + 100) (by omega)])
theorem SLR.keep (h : SLR S x) (hi : ∀ y, ((x + 74 ≤ y ∧ y < x + 94) ∨ (x + 101 ≤ y ∧ y ≤ x + 105)) → ji S' y = ji S y) : SLR S' x := by
  intro i h5
  rw [hi (x + 74 + 4 * i) (by omega), hi (x + 75 + 4 * i) (by omega), hi (x + 76 + 4 * i) (by omega), hi (x + 77 + 4 * i) (by omega), hi (x + 101) (by omega), hi (x + 102) (by omega), hi (x + 103) (by omega), hi (x + 104) (by omega), hi (x + 105) (by omega)]
  exact h i h5
theorem WTR.keep (h : WTR S x) (h1 : ji S' x 9 = ji S x 9) (h2 : ji S' (x + 94) 34 = ji S (x + 94) 34) (h3 : ji S' (x + 65) = ji S (x + 65)) (h4 : ji S' (x + 113) = ji S (x + 113)) : WTR S' x := by
  unfold WTR
  rw [h1, h2, h3, h4]; exact h
theorem TPR.keep (h : TPR S x) (h1 : ji S' (x + 60) 1 = ji S (x + 60) 1) (h2 : ji S' (x + 94) 19 = ji S (x + 94) 19) (h3 : ji S' (x + 61) = ji S (x + 61)) (h4 : ji S' (x + 109) = ji S (x + 109)) : TPR S' x := by
  unfold TPR
  rw [h1, h2, h3, h4]; exact h
/-- only the rest changes -/
theorem IV.rst (h : IV S x sz M v) (hs : jsame S S') (hi : ∀ y, ((x + 1 ≤ y ∧ y < x + 21) ∨ y = x + 95 ∨ x + 115 ≤ y) → ji S' y = ji S y) (hr : RST S' x M) : INV S' x M := by
  obtain ⟨⟨hX, hM, hg⟩, h2, h3, h4, h5, h6⟩ := h
  obtain ⟨k, l, rr, nn⟩ := id hs
  exact ⟨sz, v, ⟨hX.of hs (hX.2.2.grow (fun y p q => ⟨by rw [k], by rw [l], hi y (by omega), by rw [rr]⟩)), ⟨hM.1.same hs, fun j => by rw [hi (x + 94 + 1) (by omega)]; exact hM.2 j⟩, hg⟩, h2.same hs, h3.same hs, by rw [nn]; exact h4, h5.same hs (fun y p _ => hi y (by omega)) (fun _ _ _ => rfl), hr⟩
/-! sheet -/
theorem Q_sheet {w u t : Int32} (h : IV S x sz M v) : jFi E mX10_sheet (d + 2) 0 0 [.ref x, .int w, .int u, .int t] S (fun r S1 => jFm E mX11_sheet (d + 2) (x + 94) [.int w, .int u, .int t] S1 (fun r' S2 => r = r' ∧ INV S2 x M)) := by
  obtain ⟨⟨hX, hM, hg⟩, hC, hGL, hjn, hT, hI, hS, hSl, hW, hTp⟩ := id h
  have eu : jisin (Int32.toInt64 u) (-1) 1 = if u < -1 then 0 else if 1 < u then 0 else 1 := jisin_int u (-1) 1
  refine T_X10_sheet ⟨hX.1, c_X10_findSheet hC (fun c => ⟨fun _ => g_sheetBad hM.k (Or.inl c) ⟨rfl, h.inv⟩, fun b e => absurd e (by simp)⟩) (fun i hi e e1 => ⟨fun c => absurd c (by simp), fun b eb => ⟨fun c1 => g_sheetBad hM.k (Or.inr (Or.inl c1)) ⟨rfl, h.inv⟩, fun c1 => ⟨fun c2 => ?_, fun c2 => g_sheetBad hM.k (Or.inr (Or.inr c2)) ⟨rfl, h.inv⟩⟩⟩⟩)⟩
  obtain rfl : x + 66 + 2 * i = b := Option.some.inj eb
  subst e
  have hs1 : ¬ jissheet (nI i) = 0 := by rw [jissheet_wi, e1]; decide
  have hu1 : ¬ jisin (Int32.toInt64 u) (-1) 1 = 0 := by rw [eu, if_neg c1, if_neg (Int32.not_lt.mpr c2)]; decide
  have hsh := hC.sh i hi
  have hup : u ≠ -1 → ¬ u < 0 := fun c3 => by
    rw [Int32.lt_iff_toInt_lt] at c1 ⊢
    have hne : u.toInt ≠ (-1 : Int32).toInt := fun e => c3 (Int32.toInt_inj.mp e)
    have e9 : (-1 : Int32).toInt = -1 := by decide
    have e0 : (0 : Int32).toInt = 0 := by decide
    rw [e9] at c1 hne; rw [e0]; omega
  have hso : u ≠ -1 → u = 0 ∨ u = 1 := fun c3 => by
    have h0 := hup c3
    rw [Int32.lt_iff_toInt_lt] at h0
    rw [Int32.le_iff_toInt_le] at c2
    have e0 : (0 : Int32).toInt = 0 := by decide
    have e1 : (1 : Int32).toInt = 1 := by decide
    rw [e0] at h0; rw [e1] at c2
    rcases (show u.toInt = 0 ∨ u.toInt = 1 by omega) with e | e
    · exact Or.inl (Int32.toInt_inj.mp (e.trans e0.symm))
    · exact Or.inr (Int32.toInt_inj.mp (e.trans e1.symm))
  -- behind both
  have fin : ∀ (S1 : jM) (so : Int32) (n : Nat), n ≤ 24 → (so = -1 ∨ so = 0 ∨ so = 1) → jsame S S1 → (∀ y, y ≠ x + 66 + 2 * i → y ≠ x + 67 + 2 * i → ji S1 y = ji S y) → ShR S1 (x + 66 + 2 * i) (x + 67 + 2 * i) so (nI n) (fun _ => 0) → ∀ (r : Int32), r = nI n → L_X11_sheet_69 E d (fun r' S2 => r = r' ∧ INV S2 x M) (x + 94) (nI i) 0 (jput (jput S1 (x + 98) i so) (x + 99) i (nI n)) := by
    intro S1 so n hn hso s1 o1 r1 r hr
    refine c_X11_sheetL hi ((hM.1.same s1).same ⟨rfl, rfl, rfl, rfl⟩) (fun S2 s2 o2 z2 => ⟨?_, ?_⟩)
    · rw [hr]
      exact (ji_put_same _ _ _ _).symm
    · have o3 : ∀ y, y ≠ x + 98 → y ≠ x + 99 → y ≠ x + 100 → ji S2 y = ji S1 y := fun y a b c => (o2 y c).trans ((ji_put_ne _ _ _ _ b).trans (ji_put_ne _ _ _ _ a))
      have s3 : jsame S S2 := s1.trans (jsame.trans (S1 := jput (jput S1 (x + 98) i so) (x + 99) i (nI n)) ⟨rfl, rfl, rfl, rfl⟩ s2)
      have o4 : ∀ y, (y < x + 66 ∨ x + 74 ≤ y) → y ≠ x + 98 → y ≠ x + 99 → y ≠ x + 100 → ji S2 y = ji S y := fun y a b c e => (o3 y b c e).trans (o1 y (by omega) (by omega))
      refine h.rst s3 (fun y hy => o4 y (by omega) (by omega) (by omega) (by omega)) ⟨hI.keep s3 (by rw [o4 x (by omega) (by omega) (by omega) (by omega)]) (by rw [o4 (x + 94) (by omega) (by omega) (by omega) (by omega)]) (fun y hy => o4 y (by omega) (by omega) (by omega) (by omega)), fun k hk => ?_, hSl.keep (fun y hy => o4 y (by omega) (by omega) (by omega) (by omega)), hW.keep (by rw [o4 x (by omega) (by omega) (by omega) (by omega)]) (by rw [o4 (x + 94) (by omega) (by omega) (by omega) (by omega)]) (o4 _ (by omega) (by omega) (by omega) (by omega)) (o4 _ (by omega) (by omega) (by omega) (by omega)), hTp.keep (by rw [o4 (x + 60) (by omega) (by omega) (by omega) (by omega)]) (by rw [o4 (x + 94) (by omega) (by omega) (by omega) (by omega)]) (o4 _ (by omega) (by omega) (by omega) (by omega)) (o4 _ (by omega) (by omega) (by omega) (by omega))⟩
      have e98 : ji S2 (x + 98) = ji (jput (jput S1 (x + 98) i so) (x + 99) i (nI n)) (x + 98) := o2 _ (by omega)
      have e99 : ji S2 (x + 99) = ji (jput (jput S1 (x + 98) i so) (x + 99) i (nI n)) (x + 99) := o2 _ (by omega)
      by_cases hki : k = i
      · subst hki
        obtain ⟨q1, q2, q3, q4⟩ := r1
        refine ⟨so, n, hn, hso, ?_, ?_, ?_, ?_, fun j hj => ⟨?_, ?_⟩⟩
        · rw [o3 _ (by omega) (by omega) (by omega)]; exact q2
        · rw [e98, ji_put_ne _ _ _ _ (by omega), ji_put_same]
        · rw [o3 _ (by omega) (by omega) (by omega)]; exact q3
        · rw [e99, ji_put_same]
        · rw [o3 _ (by omega) (by omega) (by omega), q4 j hj]
          have := z2 (24 * k + j)
          rw [if_pos (by omega)] at this
          exact this.symm
        · rw [o3 _ (by omega) (by omega) (by omega), q4 j hj]; exact Or.inr (by show (-99999 : Int32) ≤ 0 ∧ (0 : Int32) ≤ 99999; decide)
      · refine SH1.keep (hS k hk) ?_ ?_ ?_ ?_ (fun j hj => ?_)
        · rw [o3 _ (by omega) (by omega) (by omega)]; exact o1 _ (by omega) (by omega)
        · rw [o3 _ (by omega) (by omega) (by omega)]; exact o1 _ (by omega) (by omega)
        · rw [e98, ji_put_ne _ _ _ _ (by omega), ji_put, if_neg (fun c => hki c.2), o1 _ (by omega) (by omega)]
        · rw [e99, ji_put, if_neg (fun c => hki c.2), ji_put_ne _ _ _ _ (by omega), o1 _ (by omega) (by omega)]
        · have := z2 (24 * k + j)
          rw [if_neg (by omega)] at this
          refine this.trans ?_
          show ji (jput (jput S1 (x + 98) i so) (x + 99) i (nI n)) (x + 100) (24 * k + j) = _
          rw [ji_put_ne _ _ _ _ (by omega), ji_put_ne _ _ _ _ (by omega), o1 _ (by omega) (by omega)]
  have ci : Int32.toNatClampNeg (nI i) = i := jcl (by omega)
  refine ⟨fun c3 => ⟨hsh.1, c_X6_begin hsh (fun S1 s1 o1 r1 => ?_)⟩, fun c3 => ⟨fun c4 => ⟨fun c5 => ⟨hsh.1, c_X6_begin hsh (fun S1 s1 o1 r1 => ?_)⟩, fun c5 => ?_⟩, fun c4 => ?_⟩⟩
  · have hM1 := hM.1.same s1
    have hu0 : u < 0 := by rw [c3]; decide
    refine U_X11_sheet hM1.1 ⟨fun c => absurd c hs1, fun _ => ⟨fun c => absurd c hu1, fun _ => ⟨fun _ => ⟨hM1.1, _, hM1.r4.1, hM1.r4.2.1, by rw [hM1.r4.2.2]; exact jin_nI hi (by omega), _, hM1.r5.1, fun c => absurd c (Int32.not_le.mpr hu0), fun _ => ⟨hM1.r5.2.1, by rw [hM1.r5.2.2]; exact jin_nI hi (by omega), ?_⟩⟩, fun c => absurd hu0 c⟩⟩⟩
    rw [ci, c3]
    exact fin S1 (-1) 0 (by omega) (Or.inl rfl) s1 o1 r1 0 rfl
  · have hM1 := hM.1.same s1
    obtain ⟨n, hn, en⟩ := nI_of2 (x := t) (M := 24) (n := 24) (by decide) (Int32.not_lt.mpr c5) c4
    subst en
    refine U_X11_sheet hM1.1 ⟨fun c => absurd c hs1, fun _ => ⟨fun c => absurd c hu1, fun _ => ⟨fun c => absurd c (hup c3), fun _ => ⟨fun _ => ⟨fun _ => ⟨hM1.1, _, hM1.r4.1, hM1.r4.2.1, by rw [hM1.r4.2.2]; exact jin_nI hi (by omega), _, hM1.r5.1, fun _ => ⟨hM1.r5.2.1, by rw [hM1.r5.2.2]; exact jin_nI hi (by omega), ?_⟩, fun c => absurd (Int32.not_lt.mp (hup c3)) c⟩, fun c => absurd c5 c⟩, fun c => absurd c4 c⟩⟩⟩⟩
    rw [ci]
    exact fin S1 u n hn (Or.inr (hso c3)) s1 o1 r1 _ rfl
  · exact U_X11_sheet hM.k ⟨fun c => absurd c hs1, fun _ => ⟨fun c => absurd c hu1, fun _ => ⟨fun c => absurd c (hup c3), fun _ => ⟨fun _ => ⟨fun c => absurd c c5, fun _ => ⟨rfl, h.inv⟩⟩, fun c => absurd c4 c⟩⟩⟩⟩
  · exact U_X11_sheet hM.k ⟨fun c => absurd c hs1, fun _ => ⟨fun c => absurd c hu1, fun _ => ⟨fun c => absurd c (hup c3), fun _ => ⟨fun c => absurd c c4, fun _ => ⟨rfl, h.inv⟩⟩⟩⟩⟩
end jSheets
end
section
/-! MARK, POUR, READS, COPY on both sides -/
theorem jshort (t : Int32) : jshr (jshl t 16) 16 = Int16.toInt32 (Int32.toInt16 t) := by
  unfold jshr jshl
  rw [show (16 : Int32) &&& 31 = 16 by decide]
  apply Int32.toBitVec_inj.mp
  have e1 : (t <<< (16 : Int32) >>> (16 : Int32)).toBitVec = (t.toBitVec <<< 16).sshiftRight 16 := rfl
  have e2 : (Int16.toInt32 (Int32.toInt16 t)).toBitVec = (t.toBitVec.setWidth 16).signExtend 32 := by
    have e3 : (Int16.toInt32 (Int32.toInt16 t)).toBitVec = (t.toBitVec.signExtend 16).signExtend 32 := rfl
    rw [e3, BitVec.signExtend_eq_setWidth_of_le _ (by decide : 16 ≤ 32)]
  rw [e1, e2]
  apply BitVec.eq_of_getLsbD_eq
  intro i hi
  rw [BitVec.getLsbD_sshiftRight, BitVec.getLsbD_signExtend]
  by_cases h : i < 16
  · have h32 : ¬ 32 ≤ i := by omega
    have h16 : 16 + i < 32 := by omega
    simp [h, h32, h16, hi]
  · have h16 : ¬ 16 + i < 32 := by omega
    have h32 : ¬ 32 ≤ i := by omega
    simp [h, h32, h16, hi, BitVec.msb_eq_getLsbD_last]
theorem jpl_short (t : Int16) : jpl (Int16.toInt32 t) := by
  refine Or.inr ⟨?_, ?_⟩
  · rw [Int32.le_iff_toInt_le, Int16.toInt_toInt32]
    have := Int16.le_toInt t
    have e : (-99999 : Int32).toInt = -99999 := by decide
    rw [e]; omega
  · rw [Int32.le_iff_toInt_le, Int16.toInt_toInt32]
    have := Int16.toInt_lt t
    have e : (99999 : Int32).toInt = 99999 := by decide
    rw [e]; omega
theorem jcl0 (y : Int32) : jmax 0 (jmin 99 y) = jclamp y 0 99 ∧ ∃ k, k < 100 ∧ jclamp y 0 99 = nI k := by
  rw [show jclamp y 0 99 = (if 0 ≤ y then (if y ≤ 99 then y else 99) else 0) from rfl]
  by_cases h1 : (0 : Int32) ≤ y
  · rw [if_pos h1]
    by_cases h2 : y ≤ 99
    · rw [if_pos h2]
      have hlt : y < nI 100 := Int32.lt_of_le_of_lt h2 (by decide)
      obtain ⟨j, hj, e⟩ := jofI (x := y) (n := 100) (by omega) h1 hlt
      have hd : ∀ j : Fin 100, jmax 0 (jmin 99 (nI j.val)) = nI j.val := by decide +kernel
      exact ⟨by rw [e]; exact hd ⟨j, hj⟩, j, hj, e⟩
    · rw [if_neg h2]
      have h3 : ¬ y < 99 := fun h => h2 (Int32.le_of_lt h)
      unfold jmin
      rw [if_neg h3]
      exact ⟨by decide, 99, by omega, rfl⟩
  · rw [if_neg h1]
    have h2 : y < 0 := Int32.not_le.mp h1
    have h3 : y < 99 := Int32.lt_of_lt_of_le h2 (by decide)
    unfold jmin jmax
    rw [if_pos h3, if_neg (fun h => h1 (Int32.le_of_lt h))]
    exact ⟨rfl, 0, by omega, rfl⟩
theorem jisin_sz (w : Int32) {n : Nat} (hn : n < 2 ^ 31) : jisin (Int32.toInt64 w) 0 (Int32.toInt64 (nI n - 1)) = jwi w (nI n) := by
  refine jisin_wi w (nI n) (nI n - 1) rfl (jle_lt ?_)
  cases n with
  | zero => decide
  | succ y => rw [nI_pred, nI_toInt (by omega), nI_toInt (by omega)]; omega
theorem nI_24 (i j : Nat) : (24 : Int32) * nI i + nI j = nI (24 * i + j) := by rw [show (24 : Int32) = nI 24 from rfl, nI_mul, nI_add]
section jMarks
variable {E : jEnv} {d : Nat} {S S' : jM} {x sz M : Nat} {v : Nat → Int32}
theorem c_X6_hasPlace {Q : Int32 → jM → Prop} {a n : Nat} {w : Int32} (hk : jk S a = 6) (hn : n ≤ 24) (e : ji S a 1 = nI n) (h : Q (jwi w (nI n)) S) : jFi E mX6_hasPlace (d + 1) 0 0 [.ref a, .int w] S Q := by
  refine T_X6_hasPlace ⟨hk, ?_⟩
  rw [e]
  refine ⟨fun c => by rw [c] at h; exact h, fun c => ?_⟩
  rcases jwi_cases w (b := nI n) n rfl (by omega) with ⟨j, hj, ej, e1⟩ | ⟨-, e1⟩
  · rw [e1] at h
    exact ⟨fun c => absurd c (by rw [ej]; exact nI_ge (b := 24) (by omega) (by omega)), fun _ => h⟩
  · exact absurd e1 c
theorem c_X6_isNumber {Q : Int32 → jM → Prop} {a p n j : Nat} (hL : ShL S a p) (hn : n ≤ 24) (e : ji S a 1 = nI n) (hj : j < n) (h0 : ji S p j = kNONE → Q 0 S) (h1 : ¬ ji S p j = kNONE → Q 1 S) : jFi E mX6_isNumber (d + 2) 0 0 [.ref a, .int (nI j)] S Q := by
  obtain ⟨k6, r2, k12, l24⟩ := hL
  refine T_X6_isNumber ⟨k6, c_X6_hasPlace k6 hn e ?_⟩
  rw [jwi_at hj (by omega)]
  refine ⟨fun c => absurd c (by decide), fun _ => ⟨k6, p, r2, k12, by rw [l24]; exact jin_nI (by omega) (by omega), ?_⟩⟩
  rw [jcl (by omega)]
  exact ⟨h0, h1⟩
/-- the sheet at hand is there, on the class's side and on the reference's -/
theorem SH1.miss {i : Nat} {so : Int32} (hso : so = -1 ∨ so = 0 ∨ so = 1) : (so = -1 ↔ ¬ 0 ≤ so) := by
  rcases hso with rfl | rfl | rfl <;> decide
/-- one place of a sheet is otherwise on both sides -/
theorem IV.place {i j : Nat} {z : Int32} (h : IV S x sz M v) (hi : i < 4) (hj : j < 24) (hz : jpl z) : INV (jput (jput S (x + 67 + 2 * i) j z) (x + 100) (24 * i + j) z) x M := by
  obtain ⟨⟨hX, hM, hg⟩, hC, hGL, hjn, hT, hI, hS, hSl, hW, hTp⟩ := id h
  have s3 : jsame S (jput (jput S (x + 67 + 2 * i) j z) (x + 100) (24 * i + j) z) := ⟨rfl, rfl, rfl, rfl⟩
  have o4 : ∀ y, y ≠ x + 67 + 2 * i → y ≠ x + 100 → ji (jput (jput S (x + 67 + 2 * i) j z) (x + 100) (24 * i + j) z) y = ji S y := fun y a b => (ji_put_ne _ _ _ _ b).trans (ji_put_ne _ _ _ _ a)
  refine h.rst s3 (fun y hy => o4 y (by omega) (by omega)) ⟨hI.keep s3 (by rw [o4 x (by omega) (by omega)]) (by rw [o4 (x + 94) (by omega) (by omega)]) (fun y hy => o4 y (by omega) (by omega)), fun k hk => ?_, hSl.keep (fun y hy => o4 y (by omega) (by omega)), hW.keep (by rw [o4 x (by omega) (by omega)]) (by rw [o4 (x + 94) (by omega) (by omega)]) (o4 _ (by omega) (by omega)) (o4 _ (by omega) (by omega)), hTp.keep (by rw [o4 (x + 60) (by omega) (by omega)]) (by rw [o4 (x + 94) (by omega) (by omega)]) (o4 _ (by omega) (by omega)) (o4 _ (by omega) (by omega))⟩
  obtain ⟨so, n, a1, a2, a3, a4, a5, a6, a7⟩ := hS k hk
  refine ⟨so, n, a1, a2, by rw [o4 _ (by omega) (by omega)]; exact a3, by rw [o4 _ (by omega) (by omega)]; exact a4, by rw [o4 _ (by omega) (by omega)]; exact a5, by rw [o4 _ (by omega) (by omega)]; exact a6, fun l hl => ?_⟩
  obtain ⟨b1, b2⟩ := a7 l hl
  rw [ji_put_ne _ _ _ _ (show x + 67 + 2 * k ≠ x + 100 by omega), ji_put, ji_put, ji_put_ne _ _ _ _ (show x + 100 ≠ x + 67 + 2 * i by omega)]
  by_cases hkl : k = i ∧ l = j
  · obtain ⟨rfl, rfl⟩ := hkl
    rw [if_pos ⟨rfl, rfl⟩, if_pos ⟨rfl, rfl⟩]
    exact ⟨rfl, hz⟩
  · rw [if_neg (by omega), if_neg (by omega)]
    exact ⟨b1, b2⟩
theorem Q_mark {w u t : Int32} (h : IV S x sz M v) : jFi E mX10_mark (d + 2) 0 0 [.ref x, .int w, .int u, .int t] S (fun r S1 => jFm E mX11_mark (d + 2) (x + 94) [.int w, .int u, .int t] S1 (fun r' S2 => r = r' ∧ INV S2 x M)) := by
  obtain ⟨⟨hX, hM, hg⟩, hC, hGL, hjn, hT, hI, hS, hSl, hW, hTp⟩ := id h
  refine T_X10_mark ⟨hX.1, c_X10_findSheet hC (fun c => ⟨fun _ => U_X11_mark hM.k ⟨fun _ => ⟨rfl, h.inv⟩, fun c2 => absurd ((jissheet_wi w).trans c) c2⟩, fun b e => absurd e (by simp)⟩) (fun i hi e e1 => ⟨fun c => absurd c (by simp), fun b eb => ?_⟩)⟩
  obtain rfl : x + 66 + 2 * i = b := Option.some.inj eb
  subst e
  have hs1 : ¬ jissheet (nI i) = 0 := by rw [jissheet_wi, e1]; decide
  obtain ⟨k6, r2, k12, l24⟩ := hC.sh i hi
  obtain ⟨so, n, a1, a2, a3, a4, a5, a6, a7⟩ := hS i hi
  have hM1 := hM.1
  have ci : Int32.toNatClampNeg (nI i) = i := jcl (by omega)
  have ms := SH1.miss (i := i) a2
  have et : jisin (Int32.toInt64 t) (-99999) 99999 = if t < -99999 then 0 else if 99999 < t then 0 else 1 := jisin_int t (-99999) 99999
  refine ⟨k6, ?_⟩
  rw [a3]
  refine ⟨fun c => U_X11_mark hM.k ⟨fun c => absurd c hs1, fun _ => ⟨hM.k, _, hM1.r4.1, hM1.r4.2.1, by rw [hM1.r4.2.2]; exact jin_nI hi (by omega), fun c0 => absurd c0 (by rw [ci, a4]; exact ms.mp c), fun _ => ⟨rfl, h.inv⟩⟩⟩, fun c => ?_⟩
  have so0 : 0 ≤ so := by
    rcases a2 with e | e | e
    · exact absurd e c
    · rw [e]; decide
    · rw [e]; decide
  -- the reference, up to its place
  have ref : ∀ (S1 : jM) (Q : Int32 → jM → Prop), MR S1 (x + 94) v → ji S1 (x + 98) i = so → ji S1 (x + 99) i = nI n → (jwi u (nI n) = 0 → Q (-1000000013) S1) → (¬ jwi u (nI n) = 0 → so = 0 → t = kNONE → Q (-1000000012) S1) → (¬ jwi u (nI n) = 0 → so = 1 → ¬ t = kNONE → (t < -99999 ∨ 99999 < t) → Q (-1000000001) S1) → (∀ j, j < n → u = nI j → ((so = 0 ∧ ¬ t = kNONE) → Q 1 (jput S1 (x + 100) (24 * i + j) (Int16.toInt32 (Int32.toInt16 t)))) ∧ ((so = 1 ∧ (t = kNONE ∨ (¬ t < -99999 ∧ ¬ 99999 < t))) → Q 1 (jput S1 (x + 100) (24 * i + j) t))) → jFm E mX11_mark (d + 2) (x + 94) [.int (nI i), .int u, .int t] S1 Q := by
    intro S1 Q h1 b4 b6 q1 q2 q3 q4
    have m1 := h1.1
    refine U_X11_mark h1.k ⟨fun c => absurd c hs1, fun _ => ⟨h1.k, _, m1.r4.1, m1.r4.2.1, by rw [m1.r4.2.2]; exact jin_nI hi (by omega), ?_⟩⟩
    rw [ci, b4]
    refine ⟨fun _ => ⟨_, m1.r5.1, m1.r5.2.1, by rw [m1.r5.2.2]; exact jin_nI hi (by omega), ?_⟩, fun c0 => absurd so0 c0⟩
    rw [b6, jisin_sz u (by omega)]
    refine ⟨q1, fun cu => ?_⟩
    rcases jwi_cases u (b := nI n) n rfl (by omega) with ⟨j, hj, ej, -⟩ | ⟨-, ej⟩
    · obtain ⟨p1, p2⟩ := q4 j hj ej
      have e24 : (24 : Int32) * nI i + u = nI (24 * i + j) := by rw [ej, nI_24]
      have in24 : vp_in (24 * nI i + u) (jl S1 (x + 100)) := by rw [e24, m1.r6.2.2]; exact jin_nI (by omega) (by omega)
      refine ⟨fun s0 => ⟨fun t0 => q2 cu s0 t0, fun t0 => ⟨fun s1 => absurd (s0.symm.trans s1) (by decide), fun _ => ⟨_, m1.r6.1, m1.r6.2.1, in24, ?_⟩⟩⟩, fun s0 => ⟨fun s1 => ⟨fun t0 => ⟨_, m1.r6.1, m1.r6.2.1, in24, ?_⟩, fun t0 => ⟨fun ct => ?_, fun ct => ⟨_, m1.r6.1, m1.r6.2.1, in24, ?_⟩⟩⟩, fun s1 => ?_⟩⟩
      · rw [e24, jcl (by omega), jshort]; exact p1 ⟨s0, t0⟩
      · rw [e24, jcl (by omega)]; exact p2 ⟨s1, Or.inl t0⟩
      · refine q3 cu s1 t0 ?_
        rw [et] at ct
        by_cases c1 : t < -99999
        · exact Or.inl c1
        · rw [if_neg c1] at ct
          by_cases c2 : 99999 < t
          · exact Or.inr c2
          · rw [if_neg c2] at ct; exact absurd ct (by decide)
      · rw [e24, jcl (by omega)]
        refine p2 ⟨s1, Or.inr ?_⟩
        rw [et] at ct
        by_cases c1 : t < -99999
        · rw [if_pos c1] at ct; exact absurd rfl ct
        · rw [if_neg c1] at ct
          by_cases c2 : 99999 < t
          · rw [if_pos c2] at ct; exact absurd rfl ct
          · exact ⟨c1, c2⟩
      · rcases a2 with e | e | e
        · exact absurd e c
        · exact absurd e s0
        · exact absurd e s1
    · exact absurd ej cu
  have sim : ∀ (r : Int32), ((jwi u (nI n) = 0 → r = (-1000000013)) ∧ (¬ jwi u (nI n) = 0 → so = 0 → t = kNONE → r = (-1000000012)) ∧ (¬ jwi u (nI n) = 0 → so = 1 → ¬ t = kNONE → (t < -99999 ∨ 99999 < t) → r = (-1000000001)) ∧ (jwi u (nI n) = 0 ∨ (so = 0 ∧ t = kNONE) ∨ (so = 1 ∧ ¬ t = kNONE ∧ (t < -99999 ∨ 99999 < t)))) → jFm E mX11_mark (d + 2) (x + 94) [.int (nI i), .int u, .int t] S (fun r' S2 => r = r' ∧ INV S2 x M) := by
    intro r hr
    refine ref S _ hM a4 a6 (fun c1 => ⟨hr.1 c1, h.inv⟩) (fun c1 c2 c3 => ⟨hr.2.1 c1 c2 c3, h.inv⟩) (fun c1 c2 c3 c4 => ⟨hr.2.2.1 c1 c2 c3 c4, h.inv⟩) (fun j hj ej => ⟨fun p => ?_, fun p => ?_⟩)
    · rcases hr.2.2.2 with c1 | ⟨c1, c2⟩ | ⟨c1, c2, c3⟩
      · rw [ej, jwi_at hj (by omega)] at c1; exact absurd c1 (by decide)
      · exact absurd c2 p.2
      · exact absurd (p.1.symm.trans c1) (by decide)
    · rcases hr.2.2.2 with c1 | ⟨c1, c2⟩ | ⟨c1, c2, c3⟩
      · rw [ej, jwi_at hj (by omega)] at c1; exact absurd c1 (by decide)
      · exact absurd (c1.symm.trans p.1) (by decide)
      · rcases p.2 with q | q
        · exact absurd q c2
        · rcases c3 with c3 | c3
          · exact absurd c3 q.1
          · exact absurd c3 q.2
  refine c_X6_hasPlace k6 a1 a5 ⟨fun cu => sim _ ⟨fun _ => rfl, fun c1 => absurd cu c1, fun c1 => absurd cu c1, Or.inl cu⟩, fun cu => ⟨k6, ?_⟩⟩
  rw [a3]
  rcases jwi_cases u (b := nI n) n rfl (by omega) with ⟨j, hj, ej, -⟩ | ⟨-, ej⟩
  · have inj : vp_in u (jl S (x + 67 + 2 * i)) := by rw [ej, l24]; exact jin_nI (by omega) (by omega)
    have cj : Int32.toNatClampNeg u = j := by rw [ej]; exact jcl (by omega)
    have put : ∀ z : Int32, jpl z → ((so = 0 ∧ ¬ t = kNONE ∧ z = Int16.toInt32 (Int32.toInt16 t)) ∨ (so = 1 ∧ (t = kNONE ∨ (¬ t < -99999 ∧ ¬ 99999 < t)) ∧ z = t)) → jFm E mX11_mark (d + 2) (x + 94) [.int (nI i), .int u, .int t] (jput S (x + 67 + 2 * i) j z) (fun r' S2 => (1 : Int32) = r' ∧ INV S2 x M) := by
      intro z hz hc
      have c1 : jch S (jput S (x + 67 + 2 * i) j z) (x + 67 + 2 * i) (x + 68 + 2 * i) := jch.put (by omega) (by omega)
      refine ref _ _ (hM.keep c1 (by omega)) (by rw [c1.2 _ (by omega)]; exact a4) (by rw [c1.2 _ (by omega)]; exact a6) (fun c2 => absurd c2 cu) (fun _ s0 t0 => ?_) (fun _ s1 t0 t1 => ?_) (fun j' hj' ej' => ⟨fun p => ⟨rfl, ?_⟩, fun p => ⟨rfl, ?_⟩⟩)
      · rcases hc with hc | hc
        · exact absurd t0 hc.2.1
        · exact absurd (s0.symm.trans hc.1) (by decide)
      · rcases hc with hc | hc
        · exact absurd (s1.symm.trans hc.1) (by decide)
        · rcases hc.2.1 with q | q
          · exact absurd q t0
          · rcases t1 with t1 | t1
            · exact absurd t1 q.1
            · exact absurd t1 q.2
      · obtain rfl : j' = j := nI_inj (by omega) (by omega) (ej'.symm.trans ej)
        rcases hc with hc | hc
        · rw [← hc.2.2]; exact h.place hi (by omega) hz
        · exact absurd (p.1.symm.trans hc.1) (by decide)
      · obtain rfl : j' = j := nI_inj (by omega) (by omega) (ej'.symm.trans ej)
        rcases hc with hc | hc
        · exact absurd (p.1.symm.trans hc.1) (by decide)
        · rw [← hc.2.2]; exact h.place hi (by omega) hz
    refine ⟨fun s0 => ⟨fun t0 => sim _ ⟨fun c1 => absurd c1 cu, fun _ _ _ => rfl, fun _ s1 => absurd (s0.symm.trans s1) (by decide), Or.inr (Or.inl ⟨s0, t0⟩)⟩, fun t0 => ⟨_, r2, k12, inj, ?_⟩⟩, fun s0 => ⟨fun t0 => ⟨_, r2, k12, inj, ?_⟩, fun t0 => ⟨fun t1 => ?_, fun t1 => ⟨fun t2 => ⟨_, r2, k12, inj, ?_⟩, fun t2 => ?_⟩⟩⟩⟩
    · rw [cj]; exact put _ (jpl_short _) (Or.inl ⟨s0, t0, rfl⟩)
    all_goals
      have s1 : so = 1 := by
        rcases a2 with e | e | e
        · exact absurd e c
        · exact absurd e s0
        · exact e
    · rw [cj]; exact put _ (Or.inl t0) (Or.inr ⟨s1, Or.inl t0, rfl⟩)
    · exact sim _ ⟨fun c1 => absurd c1 cu, fun _ q => absurd q s0, fun _ _ _ _ => rfl, Or.inr (Or.inr ⟨s1, t0, Or.inl t1⟩)⟩
    · rw [cj]
      exact put _ (Or.inr ⟨Int32.not_lt.mp t1, t2⟩) (Or.inr ⟨s1, Or.inr ⟨t1, Int32.not_lt.mpr t2⟩, rfl⟩)
    · exact sim _ ⟨fun c1 => absurd c1 cu, fun _ q => absurd q s0, fun _ _ _ _ => rfl, Or.inr (Or.inr ⟨s1, t0, Or.inr (Int32.not_le.mp t2)⟩)⟩
  · exact absurd ej cu
end jMarks
end
