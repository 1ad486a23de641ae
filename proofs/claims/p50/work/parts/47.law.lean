section
/-! ONE CALL ON FRESH OBJECTS, first part: what is refused, what is not there -/
def FR (S : jM) (x : Nat) : Prop := CL S x ∧ CN S x ∧ ML S (x + 94) ∧ MN S (x + 94)
section jFresh1
variable {E : jEnv} {d : Nat} {S : jM} {x : Nat}
theorem FR.pi (h : FR S x) : PI S x 0 v0 := PI_start h.1 h.2.1 h.2.2.1 h.2.2.2
theorem FR.row (h : FR S x) (k n : Nat) {f : Nat} (hk : MT[k]? = some (f, n)) : jr S (x + 94) f = some (x + 95 + k) ∧ jk S (x + 95 + k) = 12 ∧ jl S (x + 95 + k) = n := by
  have := h.2.2.1.2 k (f, n) hk
  rw [show x + 94 + 1 + k = x + 95 + k by omega] at this
  exact this
theorem FR.zero (h : FR S x) (k : Nat) (h1 : 1 ≤ k) (h2 : k < 20) (h3 : k ≠ 3) (j : Nat) : ji S (x + 95 + k) j = 0 := by
  have := h.2.2.2.2.2.2 k h1 h2 h3 j
  rw [show x + 94 + 1 + k = x + 95 + k by omega] at this
  exact this
/-! sheets -/
theorem c_X10_findSheet {Q : Option Nat → jM → Prop} {w : Int32} (hC : CL S x) (h0 : jwi w 4 = 0 → Q none S) (h1 : ∀ i, i < 4 → w = nI i → jwi w 4 = 1 → Q (some (x + 66 + 2 * i)) S) : jFr E mX10_findSheet (d + 1) 0 0 [.ref x, .int w] S Q := by
  obtain ⟨a1, ⟨-, -, -, -, -, r6, -, -⟩, -, -, ⟨b1, b2, b3⟩, -⟩ := hC
  refine T_X10_findSheet ⟨h0, fun c => ⟨a1, x + 63, r6, b1, ?_⟩⟩
  rcases jwi_cases w (b := 4) 4 rfl (by omega) with ⟨i, hi, e, e1⟩ | ⟨-, e⟩
  · rw [e, b2, jcl (by omega)]
    exact ⟨jin_nI hi (by omega), x + 66 + 2 * i, b3 i hi, h1 i hi e e1⟩
  · exact absurd e c
theorem c_X10_findSlot {Q : Option Nat → jM → Prop} {w : Int32} (hC : CL S x) (h0 : jwi w 5 = 0 → Q none S) (h1 : ∀ i, i < 5 → w = nI i → jwi w 5 = 1 → Q (some (x + 74 + 4 * i)) S) : jFr E mX10_findSlot (d + 1) 0 0 [.ref x, .int w] S Q := by
  obtain ⟨a1, ⟨-, -, -, -, -, -, r7, -⟩, -, -, -, ⟨b1, b2, b3⟩, -⟩ := hC
  refine T_X10_findSlot ⟨h0, fun c => ⟨a1, x + 64, r7, b1, ?_⟩⟩
  rcases jwi_cases w (b := 5) 5 rfl (by omega) with ⟨i, hi, e, e1⟩ | ⟨-, e⟩
  · rw [e, b2, jcl (by omega)]
    exact ⟨jin_nI hi (by omega), x + 74 + 4 * i, b3 i hi, h1 i hi e e1⟩
  · exact absurd e c
theorem jissheet_wi (w : Int32) : jissheet w = jwi w 4 := jisin_wi w 4 3 rfl (jle_lt (by decide))
theorem jisslot_wi (w : Int32) : jisslot w = jwi w 5 := jisin_wi w 5 4 rfl (jle_lt (by decide))
theorem CL.sh (hC : CL S x) (i : Nat) (hi : i < 4) : ShL S (x + 66 + 2 * i) (x + 67 + 2 * i) := hC.2.2.2.2.2.2.2.1 i hi
theorem CL.sl (hC : CL S x) (i : Nat) (hi : i < 5) : SlL S (x + 74 + 4 * i) := hC.2.2.2.2.2.2.2.2 i hi
/-- a sheet that is missing, on both sides -/
theorem FR.miss (h : FR S x) (i : Nat) (hi : i < 4) : ji S (x + 66 + 2 * i) 0 = -1 := (h.2.1.2.2.2.2.2.2.2.1 i hi).1
theorem j0m1 : ¬ (0 : Int32) ≤ -1 := by decide
/-! slots -/
/-! texts, images, numbers that wait -/
theorem FR.x0 (h : FR S x) (j : Nat) : ji S x j = 0 := by rw [h.2.1.2.2.2.2.2.2.2.2.2]
theorem FR.m0 (h : FR S x) (j : Nat) : ji S (x + 94) j = 0 := h.2.2.2.1 j
end jFresh1
end
section
/-! ONE CALL ON FRESH OBJECTS, second part -/
section jFresh2
variable {E : jEnv} {d : Nat} {S : jM} {x : Nat}
/-- the reference alone is fresh -/
def GM (S : jM) (x : Nat) : Prop := ML S (x + 94) ∧ MN S (x + 94)
theorem GM.row (h : GM S x) (k n : Nat) {f : Nat} (hk : MT[k]? = some (f, n)) : jr S (x + 94) f = some (x + 95 + k) ∧ jk S (x + 95 + k) = 12 ∧ jl S (x + 95 + k) = n := by
  have := h.1.2 k (f, n) hk
  rw [show x + 94 + 1 + k = x + 95 + k by omega] at this
  exact this
theorem GM.zero (h : GM S x) (k : Nat) (h1 : 1 ≤ k) (h2 : k < 20) (h3 : k ≠ 3) (j : Nat) : ji S (x + 95 + k) j = 0 := by
  have := h.2.2.2.2 k h1 h2 h3 j
  rw [show x + 94 + 1 + k = x + 95 + k by omega] at this
  exact this
theorem GM.keep {S' : jM} {lo hi : Nat} (h : GM S x) (hc : jch S S' lo hi) (hd : x + 115 ≤ lo ∨ hi ≤ x + 94) : GM S' x := by
  obtain ⟨h1, a1, a2, a3, a4⟩ := h
  refine ⟨h1.same hc.1, fun j => ?_, fun j => ?_, fun j hj => ?_, fun k p q r j => ?_⟩
  · rw [hc.2 _ (by omega)]; exact a1 j
  · rw [hc.2 _ (by omega)]; exact a2 j
  · rw [hc.2 _ (by omega)]; exact a3 j hj
  · rw [hc.2 _ (by omega)]; exact a4 k p q r j
/-! texts -/
theorem RmR.n6 {r sz : Nat} {v : Nat → Int32} (h : RmR S r sz v) : ji S r 6 = v 1 := h.2.2.2.2.2.2.2.2
end jFresh2
end
section
/-! ONE CALL ON FRESH OBJECTS, third part: sheet, feed, made, count -/
section jFresh3
variable {E : jEnv} {d : Nat} {S : jM} {x : Nat}
theorem nI_mul (a b : Nat) : nI a * nI b = nI (a * b) := (Int32.ofNat_mul a b).symm
theorem GM.of {S' : jM} (h : GM S x) (hs : jsame S S') (he : ∀ y, x + 94 ≤ y → ji S' y = ji S y) : GM S' x := by
  obtain ⟨h1, a1, a2, a3, a4⟩ := h
  refine ⟨h1.same hs, fun j => ?_, fun j => ?_, fun j hj => ?_, fun k p q r j => ?_⟩
  · rw [he _ (by omega)]; exact a1 j
  · rw [he _ (by omega)]; exact a2 j
  · rw [he _ (by omega)]; exact a3 j hj
  · rw [he _ (by omega)]; exact a4 k p q r j
theorem c_X6_begin {Q : jM → Prop} {a p : Nat} {so si : Int32} (hL : ShL S a p) (h : ∀ S', jsame S S' → (∀ y, y ≠ a → y ≠ p → ji S' y = ji S y) → ShR S' a p so si (fun _ => 0) → Q S') : jFv E mX6_begin d 0 0 [.ref a, .int so, .int si] S Q := by
  obtain ⟨k6, r2, k12, l24⟩ := hL
  have hne : p ≠ a := jne k12 k6 (by decide)
  have key : ∀ (n i : Nat) (S1 : jM), i + n = 24 → jsame S S1 → (∀ y, y ≠ a → y ≠ p → ji S1 y = ji S y) → ji S1 a 0 = so → ji S1 a 1 = si → (∀ j, j < i → ji S1 p j = 0) → L_X6_begin_12 E d Q a (nI i) S1 := by
    intro n
    induction n with
    | zero =>
      intro i S1 hi hs ho h0 h1 hp
      obtain rfl : i = 24 := by omega
      exact T_X6_begin_12 ⟨fun _ => h S1 hs ho ⟨⟨by rw [hs.1]; exact k6, by rw [hs.2.2.1]; exact r2, by rw [hs.1]; exact k12, by rw [hs.2.1]; exact l24⟩, h0, h1, hp⟩, fun c => absurd (by decide) c⟩
    | succ n ih =>
      intro i S1 hi hs ho h0 h1 hp
      refine T_X6_begin_12 ⟨fun c => absurd c (nI_ge (b := 24) (by omega) (by omega)), fun _ => ⟨by rw [hs.1]; exact k6, p, by rw [hs.2.2.1]; exact r2, by rw [hs.1]; exact k12, by rw [hs.2.1, l24]; exact jin_nI (by omega) (by omega), ?_⟩⟩
      rw [jcl (by omega), nI_1]
      refine ih (i + 1) _ (by omega) ⟨hs.1, hs.2.1, hs.2.2.1, hs.2.2.2⟩ (fun y h1 h2 => (ji_put_ne _ _ _ _ h2).trans (ho y h1 h2)) ?_ ?_ (fun j hj => ?_)
      · rw [ji_put_ne _ _ _ _ (Ne.symm hne)]; exact h0
      · rw [ji_put_ne _ _ _ _ (Ne.symm hne)]; exact h1
      · rw [ji_put]
        by_cases hji : j = i
        · rw [if_pos ⟨rfl, hji⟩]
        · rw [if_neg (fun c => hji c.2)]; exact hp j (by omega)
  refine T_X6_begin ⟨k6, key 24 0 _ rfl ⟨rfl, rfl, rfl, rfl⟩ (fun y h1 h2 => (ji_put_ne _ _ _ _ h1).trans (ji_put_ne _ _ _ _ h1)) ?_ ?_ (fun j hj => absurd hj (Nat.not_lt_zero _))⟩
  · rw [ji_put, if_neg (by omega), ji_put_same]
  · rw [ji_put_same]
theorem ML.row {m : Nat} (h : ML S m) (k n : Nat) {f : Nat} (hk : MT[k]? = some (f, n)) : jr S m f = some (m + 1 + k) ∧ jk S (m + 1 + k) = 12 ∧ jl S (m + 1 + k) = n := h.2 k (f, n) hk
/-- the reference empties a sheet's places -/
theorem c_X11_sheetL {Q : Int32 → jM → Prop} {m i : Nat} (hi : i < 4) (hM : ML S m) (h : ∀ S', jsame S S' → (∀ y, y ≠ m + 6 → ji S' y = ji S y) → (∀ j, ji S' (m + 6) j = if 24 * i ≤ j ∧ j < 24 * i + 24 then 0 else ji S (m + 6) j) → Q (ji S (m + 5) i) S') : L_X11_sheet_69 E d Q m (nI i) 0 S := by
  have key : ∀ (n k : Nat) (S1 : jM), k + n = 24 → jsame S S1 → (∀ y, y ≠ m + 6 → ji S1 y = ji S y) → (∀ j, ji S1 (m + 6) j = if 24 * i ≤ j ∧ j < 24 * i + k then 0 else ji S (m + 6) j) → L_X11_sheet_69 E d Q m (nI i) (nI k) S1 := by
    intro n
    induction n with
    | zero =>
      intro k S1 hk hs ho hp
      obtain rfl : k = 24 := by omega
      have hM1 := hM.same hs
      have r5 := hM1.row 4 4 (f := 5) rfl
      have e5 : ji S1 (m + 1 + 4) (Int32.toNatClampNeg (nI i)) = ji S (m + 5) i := by
        rw [jcl (by omega), ho (m + 1 + 4) (by omega)]
      refine T_X11_sheet_69 ⟨fun _ => ⟨hM1.1, _, r5.1, r5.2.1, by rw [r5.2.2]; exact jin_nI hi (by omega), ?_⟩, fun c => absurd (by decide) c⟩
      rw [e5]; exact h S1 hs ho hp
    | succ n ih =>
      intro k S1 hk hs ho hp
      have hM1 := hM.same hs
      have r6 := hM1.row 5 96 (f := 6) rfl
      have e6 : (24 : Int32) * nI i + nI k = nI (24 * i + k) := by
        rw [show (24 : Int32) = nI 24 from rfl, nI_mul, nI_add]
      refine T_X11_sheet_69 ⟨fun c => absurd c (nI_ge (b := 24) (by omega) (by omega)), fun _ => ⟨hM1.1, _, r6.1, r6.2.1, by rw [e6, r6.2.2]; exact jin_nI (by omega) (by omega), ?_⟩⟩
      rw [e6, jcl (by omega), nI_1]
      refine ih (k + 1) _ (by omega) ⟨hs.1, hs.2.1, hs.2.2.1, hs.2.2.2⟩ (fun y hy => (ji_put_ne _ _ _ _ (by omega)).trans (ho y hy)) (fun j => ?_)
      rw [ji_put]
      by_cases hj : j = 24 * i + k
      · rw [if_pos ⟨by omega, hj⟩, if_pos (by omega)]
      · rw [if_neg (fun c => hj c.2), hp j]
        by_cases hc : 24 * i ≤ j ∧ j < 24 * i + k
        · rw [if_pos hc, if_pos (by omega)]
        · rw [if_neg hc, if_neg (by omega)]
  exact key 24 0 S rfl jsame.rfl (fun _ _ => rfl) (fun j => by rw [if_neg (by omega)])
theorem g_sheetBad {Q : Int32 → jM → Prop} {w u t : Int32} (hk : jk S (x + 94) = 11) (hc : jwi w 4 = 0 ∨ u < -1 ∨ ¬ u ≤ 1) (hq : Q kBAD S) : jFm E mX11_sheet (d + 2) (x + 94) [.int w, .int u, .int t] S Q := by
  have eu : jisin (Int32.toInt64 u) (-1) 1 = if u < -1 then 0 else if 1 < u then 0 else 1 := jisin_int u (-1) 1
  refine U_X11_sheet (by first | exact hk | exact hM.k | exact hM1.k | exact hP.2.1.k | exact h.2.2.1.1 | exact h.1.1 | exact g1.1.1 | exact g3.1.1 | exact gm.1.1 | exact h2.1.1 | exact hM2.k | (rw [c1.1.1]; exact hP.2.1.k)) ⟨fun _ => hq, fun c => ⟨fun _ => hq, fun c2 => ?_⟩⟩
  rcases hc with hc | hc | hc
  · exact absurd ((jissheet_wi w).trans hc) c
  · exact absurd (by rw [eu, if_pos hc]) c2
  · refine absurd ?_ c2
    rw [eu]
    by_cases h9 : u < -1
    · rw [if_pos h9]
    · rw [if_neg h9, if_pos (Int32.not_le.mp hc)]
/-! the tape is fed -/
theorem jwi96 {n : Nat} (h : n < 96) : ¬ jwi (nI n) 96 = 0 := by
  rw [show (96 : Int32) = nI 96 from rfl, jwi_at h (by omega)]; decide
/-- four bytes of a number, from place n on -/
def fb4 (f : Nat → Int32) (n : Nat) (w : Int32) : Nat → Int32 := upd (upd (upd (upd f n (jushr w 24 &&& 255)) (n + 1) (jushr w 16 &&& 255)) (n + 2) (jushr w 8 &&& 255)) (n + 3) (jushr w 0 &&& 255)
theorem l_X8_add {Q : jM → Prop} {t n : Nat} {w sh sh' : Int32} (hT : TpL S t) (hn : ji S t 1 = nI n) (h96 : n < 96) (h0 : ¬ sh < 0) (h1 : sh + (-8) = sh') (h : L_X8_addNumber_3 E d Q t w sh' (jput (jput S (t + 1) n (jushr w sh &&& 255)) t 1 (nI (n + 1)))) : L_X8_addNumber_3 E d Q t w sh S := by
  obtain ⟨k8, r0, -, k12, l96, -⟩ := hT
  refine T_X8_addNumber_3 ⟨fun c => absurd c h0, fun _ => ⟨k8, fun c => absurd c (by rw [hn]; exact jwi96 h96), fun _ => ⟨t + 1, r0, k12, by rw [hn, l96]; exact jin_nI h96 (by omega), ?_⟩⟩⟩
  rw [hn, jcl (by omega), nI_1, h1]; exact h
theorem c_X8_addNumber {Q : jM → Prop} {t n : Nat} {w : Int32} (hT : TpL S t) (hn : ji S t 1 = nI n) (h96 : n + 4 ≤ 96) (h : ∀ S', jch S S' t (t + 2) → ji S' t 1 = nI (n + 4) → (∀ j, j ≠ 1 → ji S' t j = ji S t j) → (∀ j, ji S' (t + 1) j = fb4 (ji S (t + 1)) n w j) → Q S') : jFv E mX8_addNumber (d + 1) 0 0 [.ref t, .int w] S Q := by
  have hp : ∀ {S1 : jM} {k : Nat} {b v : Int32}, TpL S1 t → TpL (jput (jput S1 (t + 1) k b) t 1 v) t := fun h => h
  have e1 : ∀ {S1 : jM} {k : Nat} {b v : Int32}, ji (jput (jput S1 (t + 1) k b) t 1 v) t 1 = v := ji_put_same _ _ _ _
  refine T_X8_addNumber (l_X8_add (sh' := 16) hT hn (by omega) (by decide) (by decide) (l_X8_add (sh' := 8) (hp hT) e1 (by omega) (by decide) (by decide) (l_X8_add (sh' := 0) (hp (hp hT)) e1 (by omega) (by decide) (by decide) (l_X8_add (sh' := -8) (hp (hp (hp hT))) e1 (by omega) (by decide) (by decide) (T_X8_addNumber_3 ⟨fun _ => ?_, fun c => absurd (by decide) c⟩)))))
  have hc : ∀ {S1 : jM} {k : Nat} {b v : Int32}, jch S1 (jput (jput S1 (t + 1) k b) t 1 v) t (t + 2) := (jch.put (by omega) (by omega)).trans (jch.put (by omega) (by omega))
  refine h _ (((hc.trans hc).trans hc).trans hc) e1 (fun j hj => ?_) (fun j => ?_)
  · simp [ji_put, hj]
  · unfold fb4 upd
    simp only [ji_put]
    have n1 : t + 1 ≠ t := by omega
    simp only [n1, false_and, if_false, true_and]
theorem TpL.same {S' : jM} {t : Nat} (h : TpL S t) (hs : jsame S S') : TpL S' t := by
  obtain ⟨e1, e2, e3, -⟩ := hs
  unfold TpL
  rw [e1, e2, e3]
  exact h
/-! made, count -/
theorem RmR.n4 {r sz : Nat} {v : Nat → Int32} (h : RmR S r sz v) : ji S r 4 = v 7 := h.2.2.2.2.2.2.1
/-- count, by any state where the tape's and the waiting numbers' counts are alike -/
theorem P_count {sz : Nat} {v : Nat → Int32} {w : Int32} (hP : PI S x sz v) (k10 : jr S x 5 = some (x + 60)) (k8 : jk S (x + 60) = 8) (h7 : ji S x 9 = ji S (x + 94) 34) (h8 : ji S (x + 60) 1 = ji S (x + 94) 19) : jFi E mX10_count (d + 3) 0 0 [.ref x, .int w] S (fun r S1 => jFm E mX11_count (d + 2) (x + 94) [.int w] S1 (fun r' S2 => PO S x r r' S2)) := by
  obtain ⟨hX, hM, hg⟩ := id hP
  obtain ⟨kn, hkn, ekn⟩ := hg.kn
  obtain ⟨wi, hwi, ewi⟩ := hg.wi
  have at_ := fun (n : Nat) (hn : n < 3135) => hM.at (i := nI n) n rfl hn
  have i0 := hM.at (i := 0) 0 rfl (by omega)
  have i1 := hM.at (i := 1) 1 rfl (by omega)
  have i2 := hM.at (i := 2) 2 rfl (by omega)
  have i4 := hM.at (i := 4) 4 rfl (by omega)
  have i7 := hM.at (i := 7) 7 rfl (by omega)
  have i8 := hM.at (i := 8) 8 rfl (by omega)
  have ec := jcanF01 (v 4) (fun i => v (9 + i)) wi 0
  refine T_X10_count ⟨fun c => ⟨hX.1, _, hX.2.1, hX.k3, _, hX.r0, hX.g.1.1, ?_⟩, fun c => ⟨hX.1, _, hX.2.1, hX.k3, _, hX.r0, hX.g.1.1, c_X0_countDead hX.g hX.sz9 ?_⟩, fun c => ⟨hX.1, _, hX.2.1, hX.k3, _, hX.r2, hX.l.1.1, ?_⟩, fun c => ⟨hX.1, _, hX.2.1, hX.k3, _, hX.r2, hX.l.1.1, ?_⟩, fun c => ⟨hX.1, _, hX.2.1, hX.k3, ?_⟩, fun c => ⟨hX.1, _, hX.2.1, hX.k3, c_X3_can hX.2.2 hg hwi ewi ⟨fun c5 => ?_, fun c5 => ?_⟩⟩, fun c => ⟨hX.1, _, hX.2.1, hX.k3, ?_⟩, fun c => ⟨hX.1, ?_⟩, fun c => ⟨hX.1, _, k10, k8, ?_⟩, fun c => ⟨hX.1, _, hX.2.1, hX.k3, _, hX.r0, hX.g.1.1, ?_⟩, fun c0 c1 c2 c3 c4 c5 c6 c7 c8 c9 => ?_⟩
  · subst c
    refine U_X11_count (by first | exact hk | exact hM.k | exact hM1.k | exact hP.2.1.k | exact h.2.2.1.1 | exact h.1.1 | exact g1.1.1 | exact g3.1.1 | exact gm.1.1 | exact h2.1.1 | exact hM2.k | (rw [c1.1.1]; exact hP.2.1.k)) ⟨fun _ => ⟨hM.k, _, hM.r, hM.k1, i0.1, ?_⟩, fun c => absurd c (by decide), fun c => absurd c (by decide), fun c => absurd c (by decide), fun c => absurd c (by decide), fun c => absurd c (by decide), fun c => absurd c (by decide), fun c => absurd c (by decide), fun c => absurd c (by decide), fun c => absurd c (by decide), fun c => absurd rfl c⟩
    rw [i0.2, hX.g.2.1, hX.v0]; exact hP.same
  · subst c
    exact U_X11_count (by first | exact hk | exact hM.k | exact hM1.k | exact hP.2.1.k | exact h.2.2.1.1 | exact h.1.1 | exact g1.1.1 | exact g3.1.1 | exact gm.1.1 | exact h2.1.1 | exact hM2.k | (rw [c1.1.1]; exact hP.2.1.k)) ⟨fun c => absurd c (by decide), fun _ => ⟨hM.k, c_X11_dead hM hX.v0 hX.sz9 hg hP.same⟩, fun c => absurd c (by decide), fun c => absurd c (by decide), fun c => absurd c (by decide), fun c => absurd c (by decide), fun c => absurd c (by decide), fun c => absurd c (by decide), fun c => absurd c (by decide), fun c => absurd c (by decide), fun _ c => absurd rfl c⟩
  · subst c
    refine U_X11_count (by first | exact hk | exact hM.k | exact hM1.k | exact hP.2.1.k | exact h.2.2.1.1 | exact h.1.1 | exact g1.1.1 | exact g3.1.1 | exact gm.1.1 | exact h2.1.1 | exact hM2.k | (rw [c1.1.1]; exact hP.2.1.k)) ⟨fun c => absurd c (by decide), fun c => absurd c (by decide), fun _ => ⟨hM.k, _, hM.r, hM.k1, i2.1, ?_⟩, fun c => absurd c (by decide), fun c => absurd c (by decide), fun c => absurd c (by decide), fun c => absurd c (by decide), fun c => absurd c (by decide), fun c => absurd c (by decide), fun c => absurd c (by decide), fun _ _ c => absurd rfl c⟩
    rw [i2.2, hX.l.2.2.2.2.2.1]; exact hP.same
  · subst c
    refine U_X11_count (by first | exact hk | exact hM.k | exact hM1.k | exact hP.2.1.k | exact h.2.2.1.1 | exact h.1.1 | exact g1.1.1 | exact g3.1.1 | exact gm.1.1 | exact h2.1.1 | exact hM2.k | (rw [c1.1.1]; exact hP.2.1.k)) ⟨fun c => absurd c (by decide), fun c => absurd c (by decide), fun c => absurd c (by decide), fun _ => ⟨hM.k, _, hM.r, hM.k1, i4.1, ?_⟩, fun c => absurd c (by decide), fun c => absurd c (by decide), fun c => absurd c (by decide), fun c => absurd c (by decide), fun c => absurd c (by decide), fun c => absurd c (by decide), fun _ _ _ c => absurd rfl c⟩
    rw [i4.2, hX.l.2.2.1, ekn, jbc_many ⟨kn, hkn⟩]; exact hP.same
  · subst c
    refine U_X11_count (by first | exact hk | exact hM.k | exact hM1.k | exact hP.2.1.k | exact h.2.2.1.1 | exact h.1.1 | exact g1.1.1 | exact g3.1.1 | exact gm.1.1 | exact h2.1.1 | exact hM2.k | (rw [c1.1.1]; exact hP.2.1.k)) ⟨fun c => absurd c (by decide), fun c => absurd c (by decide), fun c => absurd c (by decide), fun c => absurd c (by decide), fun _ => ⟨hM.k, _, hM.r, hM.k1, i7.1, ?_⟩, fun c => absurd c (by decide), fun c => absurd c (by decide), fun c => absurd c (by decide), fun c => absurd c (by decide), fun c => absurd c (by decide), fun _ _ _ _ c => absurd rfl c⟩
    rw [i7.2, hX.2.2.n4]; exact hP.same
  · subst c
    exact U_X11_count (by first | exact hk | exact hM.k | exact hM1.k | exact hP.2.1.k | exact h.2.2.1.1 | exact h.1.1 | exact g1.1.1 | exact g3.1.1 | exact gm.1.1 | exact h2.1.1 | exact hM2.k | (rw [c1.1.1]; exact hP.2.1.k)) ⟨fun c => absurd c (by decide), fun c => absurd c (by decide), fun c => absurd c (by decide), fun c => absurd c (by decide), fun c => absurd c (by decide), fun _ => ⟨hM.k, c_X11_can hM hg hwi ewi ⟨fun _ => hP.same, fun c6 => absurd c5 c6⟩⟩, fun c => absurd c (by decide), fun c => absurd c (by decide), fun c => absurd c (by decide), fun c => absurd c (by decide), fun _ _ _ _ _ c => absurd rfl c⟩
  · subst c
    exact U_X11_count (by first | exact hk | exact hM.k | exact hM1.k | exact hP.2.1.k | exact h.2.2.1.1 | exact h.1.1 | exact g1.1.1 | exact g3.1.1 | exact gm.1.1 | exact h2.1.1 | exact hM2.k | (rw [c1.1.1]; exact hP.2.1.k)) ⟨fun c => absurd c (by decide), fun c => absurd c (by decide), fun c => absurd c (by decide), fun c => absurd c (by decide), fun c => absurd c (by decide), fun _ => ⟨hM.k, c_X11_can hM hg hwi ewi ⟨fun c6 => absurd c6 c5, fun _ => hP.same⟩⟩, fun c => absurd c (by decide), fun c => absurd c (by decide), fun c => absurd c (by decide), fun c => absurd c (by decide), fun _ _ _ _ _ c => absurd rfl c⟩
  · subst c
    refine U_X11_count (by first | exact hk | exact hM.k | exact hM1.k | exact hP.2.1.k | exact h.2.2.1.1 | exact h.1.1 | exact g1.1.1 | exact g3.1.1 | exact gm.1.1 | exact h2.1.1 | exact hM2.k | (rw [c1.1.1]; exact hP.2.1.k)) ⟨fun c => absurd c (by decide), fun c => absurd c (by decide), fun c => absurd c (by decide), fun c => absurd c (by decide), fun c => absurd c (by decide), fun c => absurd c (by decide), fun _ => ⟨hM.k, _, hM.r, hM.k1, i1.1, ?_⟩, fun c => absurd c (by decide), fun c => absurd c (by decide), fun c => absurd c (by decide), fun _ _ _ _ _ _ c => absurd rfl c⟩
    rw [i1.2, hX.2.2.n6]; exact hP.same
  · subst c
    refine U_X11_count (by first | exact hk | exact hM.k | exact hM1.k | exact hP.2.1.k | exact h.2.2.1.1 | exact h.1.1 | exact g1.1.1 | exact g3.1.1 | exact gm.1.1 | exact h2.1.1 | exact hM2.k | (rw [c1.1.1]; exact hP.2.1.k)) ⟨fun c => absurd c (by decide), fun c => absurd c (by decide), fun c => absurd c (by decide), fun c => absurd c (by decide), fun c => absurd c (by decide), fun c => absurd c (by decide), fun c => absurd c (by decide), fun _ => ⟨hM.k, ?_⟩, fun c => absurd c (by decide), fun c => absurd c (by decide), fun _ _ _ _ _ _ _ c => absurd rfl c⟩
    rw [h7]; exact hP.same
  · subst c
    refine U_X11_count (by first | exact hk | exact hM.k | exact hM1.k | exact hP.2.1.k | exact h.2.2.1.1 | exact h.1.1 | exact g1.1.1 | exact g3.1.1 | exact gm.1.1 | exact h2.1.1 | exact hM2.k | (rw [c1.1.1]; exact hP.2.1.k)) ⟨fun c => absurd c (by decide), fun c => absurd c (by decide), fun c => absurd c (by decide), fun c => absurd c (by decide), fun c => absurd c (by decide), fun c => absurd c (by decide), fun c => absurd c (by decide), fun c => absurd c (by decide), fun _ => ⟨hM.k, ?_⟩, fun c => absurd c (by decide), fun _ _ _ _ _ _ _ _ c => absurd rfl c⟩
    rw [h8]; exact hP.same
  · subst c
    refine U_X11_count (by first | exact hk | exact hM.k | exact hM1.k | exact hP.2.1.k | exact h.2.2.1.1 | exact h.1.1 | exact g1.1.1 | exact g3.1.1 | exact gm.1.1 | exact h2.1.1 | exact hM2.k | (rw [c1.1.1]; exact hP.2.1.k)) ⟨fun c => absurd c (by decide), fun c => absurd c (by decide), fun c => absurd c (by decide), fun c => absurd c (by decide), fun c => absurd c (by decide), fun c => absurd c (by decide), fun c => absurd c (by decide), fun c => absurd c (by decide), fun c => absurd c (by decide), fun _ => ⟨hM.k, _, hM.r, hM.k1, i8.1, ?_⟩, fun _ _ _ _ _ _ _ _ _ c => absurd rfl c⟩
    rw [i8.2, hX.g.2.2.1]; exact hP.same
  · exact U_X11_count (by first | exact hk | exact hM.k | exact hM1.k | exact hP.2.1.k | exact h.2.2.1.1 | exact h.1.1 | exact g1.1.1 | exact g3.1.1 | exact gm.1.1 | exact h2.1.1 | exact hM2.k | (rw [c1.1.1]; exact hP.2.1.k)) ⟨fun c => absurd c c0, fun c => absurd c c1, fun c => absurd c c2, fun c => absurd c c3, fun c => absurd c c4, fun c => absurd c c5, fun c => absurd c c6, fun c => absurd c c7, fun c => absurd c c8, fun c => absurd c c9, fun _ _ _ _ _ _ _ _ _ _ => hP.same⟩
end jFresh3
end
section
/-! ONE CALL ON FRESH OBJECTS, fourth part: text, soonest, together, never -/
section jStr
variable {E : jEnv} {M : jMd} {R : Room} {Z : jZ} {pc : Nat} {lv lv1 : List (Nat × Value)} {st : List Value} {S : jM} {c k : Nat}
theorem jx_ldcS {index q : Nat} {tx : String} (hM : M.1.cls = RX8) (hq : ∀ s : State, jG E s → vk_R RX8 index tx q s) (hd : decode M.2.1 pc = .ok (.ldc index, 2)) (h : jX E M R Z (pc + 2) lv (.ref q :: st) S c k) : jX E M R Z pc lv st S c k := by
  intro p e s m args below meth c0 hB H locs ls hV hS hl
  exact va_ldcS hB.hx hB.hb (own := RX8) (by rw [← hM]; exact hB.hown) (hq s hB.hG) hd (h p e s m args below meth c0 hB H locs ls hV hS hl)
end jStr
section jFresh4
variable {E : jEnv} {d : Nat} {S : jM} {x : Nat}
theorem T_X8_wordOf {Q : Option Nat → jM → Prop} {x0 : Int32} (h : (x0 = 0 → Q (some (eK E 0)) S) ∧ (x0 = 1 → Q (some (eK E 1)) S) ∧ (¬ x0 = 0 → ¬ x0 = 1 → Q (some (eK E 2)) S)) : jFr E mX8_wordOf d 0 0 [.int x0] S Q := by
  refine jF_of (by decide) (jle rfl) ?_
  refine jx_lv (lv1 := [(0, .int x0)]) [0] rfl ?_
  refine jx_iload_n 0 kd283.1 rfl rfl ?_
  by_cases c1 : x0 = 0
  · refine jx_lookIn (v := 0) (tgt := 28) (off := 27) kd283.2.1 (by decide) c1 (by decide) (by decide) ?_
    refine jx_ldcS (q := eK E 0) rfl (fun s hG => hG.2.2.2.2.2.1) kd283.2.2.1 ?_
    exact jx_aret (o := some (eK E 0)) kd283.2.2.2.1 rfl (jle rfl) (jle rfl) ⟨_, rfl, h.1 c1⟩
  by_cases c2 : x0 = 1
  · refine jx_lookIn (v := 1) (tgt := 31) (off := 30) kd283.2.1 (by decide) c2 (by decide) (by decide) ?_
    refine jx_ldcS (q := eK E 1) rfl (fun s hG => hG.2.2.2.2.2.2.1) kd283.2.2.2.2.1 ?_
    exact jx_aret (o := some (eK E 1)) kd283.2.2.2.2.2.1 rfl (jle rfl) (jle rfl) ⟨_, rfl, h.2.1 c2⟩
  refine jx_lookD (tgt := 34) kd283.2.1 (by decide) (by simp only [List.mem_cons, List.not_mem_nil, or_false, forall_eq_or_imp, forall_eq]; exact ⟨lv_neT c1 (by decide), lv_neT c2 (by decide)⟩) (by decide) ?_
  refine jx_ldcS (q := eK E 2) rfl (fun s hG => hG.2.2.2.2.2.2.2.1) kd283.2.2.2.2.2.2.1 ?_
  exact jx_aret (o := some (eK E 2)) kd283.2.2.2.2.2.2.2.1 rfl (jle rfl) (jle rfl) ⟨_, rfl, h.2.2 c1 c2⟩
/-- a tape's object whose numbers are all 0 -/
def TZ (S S1 : jM) (t : Nat) : Prop := jch S S1 t (t + 1) ∧ ∀ j, ji S1 t j = 0
theorem TZ.put {S1 : jM} {t j : Nat} {w : Int32} (h : TZ S S1 t) (hw : w = 0) : TZ S (jput S1 t j w) t := by
  refine ⟨h.1.trans (jch.put (by omega) (by omega)), fun i => ?_⟩
  rw [ji_put]
  by_cases hi : i = j
  · rw [if_pos ⟨rfl, hi⟩]; exact hw
  · rw [if_neg (fun c => hi c.2)]; exact h.2 i
theorem TZ.k {S1 : jM} {t n : Nat} (h : TZ S S1 t) (hk : jk S t = n) : jk S1 t = n := by rw [h.1.1.1]; exact hk
/-- the reference's object while it reads nothing -/
def RZ (S1 : jM) (m : Nat) : Prop := jk S1 m = 11 ∧ ∀ j, j ≠ 22 → j ≠ 28 → ji S1 m j = 0
theorem RZ.put {m j : Nat} {w : Int32} (h : RZ S m) (hw : w = 0 ∨ j = 22 ∨ j = 28) : RZ (jput S m j w) m := by
  refine ⟨h.1, fun i h1 h2 => ?_⟩
  rw [ji_put]
  by_cases hi : i = j
  · rw [if_pos ⟨rfl, hi⟩]
    rcases hw with hw | hw | hw
    · exact hw
    · exact absurd (hi.trans hw) h1
    · exact absurd (hi.trans hw) h2
  · rw [if_neg (fun c => hi c.2)]; exact h.2 i h1 h2
/-! together, never: without masters -/
end jFresh4
end
section
/-! SOONEST on fresh objects; GONE and FRESH, on both sides, by any state -/
section jFresh5
variable {E : jEnv} {d : Nat} {S : jM} {x sz : Nat} {v : Nat → Int32}
theorem SrL.same {S' : jM} {t : Nat} (h : SrL S t) (hs : jsame S S') : SrL S' t := by
  obtain ⟨e1, e2, e3, -⟩ := hs
  unfold SrL
  rw [e1, e2, e3]
  exact h
theorem jtn0 : Int32.toNatClampNeg 0 = 0 := by decide
/-- what stands while SOONEST begins -/
def SV (S S1 : jM) (x : Nat) : Prop := jch S S1 (x + 52) (x + 60) ∧ ji S1 (x + 52) 7 = 0 ∧ ji S1 (x + 52) 9 = 1000000000
theorem SV.row {S1 : jM} {a j : Nat} {w : Int32} (h : SV S S1 x) (h1 : x + 53 ≤ a) (h2 : a < x + 60) : SV S (jput S1 a j w) x := by
  refine ⟨h.1.trans (jch.put (by omega) h2), ?_, ?_⟩
  · rw [ji_put_ne _ _ _ _ (by omega)]; exact h.2.1
  · rw [ji_put_ne _ _ _ _ (by omega)]; exact h.2.2
/-! gone -/
theorem jorF : ∀ k : Fin 1024, ∀ g : Fin 10, ∃ n : Fin 1024, nI k.val ||| jshl 1 (nI g.val) = nI n.val := by
  intro k g
  have hd : ∀ k : Fin 1024, ∀ g : Fin 10, (nI k.val ||| jshl 1 (nI g.val)).toBitVec.toNat < 1024 := by decide +kernel
  exact ⟨⟨_, hd k g⟩, nI_bv _⟩
theorem mtaught_lt {mf : Nat → Nat → Int32} (hm : ∀ i, i < 9 → ∃ g, g < 10 ∧ mf i 2 = nI g) : ∀ (n i : Nat) (k : Nat), i + n ≤ 9 → k < 1024 → ∃ k', k' < 1024 ∧ jfold (fun i a => if mf i 6 = 0 then a ||| jshl 1 (mf i 2) else a ||| 0) n i (nI k) = nI k'
  | 0, i, k, _, hk => ⟨k, hk, rfl⟩
  | n + 1, i, k, hi, hk => by
    show ∃ k', k' < 1024 ∧ jfold _ n (i + 1) (if mf i 6 = 0 then nI k ||| jshl 1 (mf i 2) else nI k ||| 0) = nI k'
    by_cases h6 : mf i 6 = 0
    · rw [if_pos h6]
      obtain ⟨g, hg, e⟩ := hm i (by omega)
      obtain ⟨⟨n', hn'⟩, e'⟩ := jorF ⟨k, hk⟩ ⟨g, hg⟩
      rw [e, show nI k ||| jshl 1 (nI g) = nI n' from e']
      exact mtaught_lt hm n (i + 1) n' (by omega) hn'
    · rw [if_neg h6, Int32.or_zero]
      exact mtaught_lt hm n (i + 1) k (by omega) hk
theorem Rg.msf (h : Rg sz v) (i f : Nat) (hi : i < 9) (hf : f < 7) : ∃ k, k < (if f = 0 then 6 else if f = 1 then 6 else if f = 2 then 10 else if f = 3 then 1024 else if f = 6 then 2 else 100) ∧ mfv v i f = nI k := by
  have := h (72 + 7 * i + f) (by omega) (by rw [rgb_m i f hf]; split <;> first | decide | (split <;> first | decide | (split <;> first | decide | (split <;> first | decide | (split <;> decide)))))
  rw [rgb_m i f hf] at this; exact this
theorem mtaught_cong {mf mf' : Nat → Nat → Int32} (h : ∀ i, i < 9 → ∀ f, f < 7 → mf i f = mf' i f) : ∀ (n i : Nat) (a : Int32), i + n ≤ 9 → jfold (fun i a => if mf i 6 = 0 then a ||| jshl 1 (mf i 2) else a ||| 0) n i a = jfold (fun i a => if mf' i 6 = 0 then a ||| jshl 1 (mf' i 2) else a ||| 0) n i a
  | 0, _, _, _ => rfl
  | n + 1, i, a, hi => by
    show jfold _ n (i + 1) (if mf i 6 = 0 then a ||| jshl 1 (mf i 2) else a ||| 0) = jfold _ n (i + 1) (if mf' i 6 = 0 then a ||| jshl 1 (mf' i 2) else a ||| 0)
    rw [h i (by omega) 6 (by omega), h i (by omega) 2 (by omega)]
    exact mtaught_cong h n (i + 1) _ (by omega)
theorem jfr.thought {S1 : jM} {lo hi : Nat} (h : jch S S1 lo hi) (a : x + 41 ≤ lo) (b : hi ≤ x + 60) : jfr S S1 x := ⟨h.1, fun y _ c _ _ _ _ => h.2 y (by omega)⟩
theorem jfr.scr {S1 : jM} {lo hi : Nat} (h : jch S S1 lo hi) (a : x + 106 ≤ lo) (b : hi ≤ x + 109) : jfr S S1 x := ⟨h.1, fun y _ _ _ _ c _ => h.2 y (by omega)⟩
theorem l_X11_gone {Q : Int32 → jM → Prop} {m n : Nat} {t : Int32} (hn : n < 1000) (h0 : v 0 = nI sz) (hz : sz ≤ 9) (h : ∀ S' : jM, ∀ p : gst, p = yyears sz n (v 8, mfv v) → jch S S' (m + 1) (m + 2) → MR S' m (vg v p) → jFv E mX11_laysBack (d + 2) 0 0 [.ref m] S' (fun S18 => Q (jmany (t &&& (mtaught (mfv (vg v p)) sz ^^^ (-1)))) S18)) :
    ∀ (c j : Nat) (p : gst) (a : Int32) (S1 : jM), j + c = n → yyears sz c p = yyears sz n (v 8, mfv v) → jch S S1 (m + 1) (m + 2) → MR S1 m (vg v p) → Rg sz (vg v p) → L_X11_gone_29 E (d + 2) Q m (nI n) t a (nI j) S1 := by
  intro c
  induction c with
  | zero =>
    intro j p a S1 hj hp hc hM hg
    obtain rfl : j = n := by omega
    refine T_X11_gone_29 ⟨fun _ => ⟨hM.k, c_X11_taughtNow hM (by rw [vg_o _ (by omega) (by omega)]; exact h0) hz ⟨hM.k, h S1 p hp hc hM⟩⟩, fun cc => absurd Int32.le_rfl cc⟩
  | succ c ih =>
    intro j p a S1 hj hp hc hM hg
    refine T_X11_gone_29 ⟨fun cc => absurd cc ?_, fun _ => ⟨hM.k, c_X11_year h0 hz hM hg (fun S2 c2 h2 g2 => ?_)⟩⟩
    · rw [Int32.le_iff_toInt_le, nI_toInt (by omega), nI_toInt (by omega)]; omega
    · rw [nI_1]
      exact ih (j + 1) (yyear sz p) _ S2 (by omega) hp (hc.trans c2) h2 g2
theorem P_gone {w : Int32} (hP : PI S x sz v) (hL : GL S (x + 41)) (r3 : jr S x 3 = some (x + 41)) : jFi E mX10_gone (d + 4) 0 0 [.ref x, .int w] S (fun r S1 => jFm E mX11_gone (d + 3) (x + 94) [.int w] S1 (fun r' S2 => PO S x r r' S2)) := by
  have hX := hP.1
  have hz := hX.sz9
  rcases jisin_ab w (lo := 0) (hi := 60) 0 60 rfl rfl (by omega) (by omega) with ⟨n, n1, n9, rfl, hj⟩ | ⟨hw, hj⟩
  · refine T_X10_gone ⟨fun c => absurd c (nI_pos (by omega)), fun _ => ⟨fun _ => ⟨hX.1, x + 41, r3, x + 1, hX.2.1, hX.k3, x + 2, hX.r0, hL.1, ?_⟩, fun c => absurd (by rw [show (60 : Int32) = nI 60 from rfl, Int32.le_iff_toInt_le, nI_toInt (by omega), nI_toInt (by omega)]; omega) c⟩⟩
    refine c_X0_become (g := x + 41) (sz := (ji S (x + 41) 1).toBitVec.toNat) (z := ji S (x + 41) 2) (mf := fun i f => ji S (x + 41 + 2 + i) f) ⟨hL, nI_bv _, rfl, fun _ _ _ _ => rfl⟩ hX.g (by omega) (fun i hi => ?_) (fun S1 c1 g1 => ?_)
    · obtain ⟨k, hk, e⟩ := hP.2.2.msf i 6 hi (by omega)
      have hk2 : k < 2 := hk
      rcases (show k = 0 ∨ k = 1 by omega) with rfl | rfl
      · exact Or.inl e
      · exact Or.inr e
    have hX1 := hX.of c1.1 (hX.2.2.keep c1 (by omega))
    refine ⟨hX1.1, x + 41, by rw [c1.1.2.2.1]; exact r3, g1.1.1, c_X0_liveYears g1 hz (by omega) (fun S2 c2 g2 => ?_)⟩
    have hX2 := hX1.of c2.1 (hX1.2.2.keep c2 (by omega))
    refine ⟨hX2.1, x + 1, hX2.2.1, hX2.k3, x + 2, hX2.r0, hX2.g.1.1, c_X0_taught hX2.g hz ⟨hX2.1, x + 41, by rw [c2.1.2.2.1, c1.1.2.2.1]; exact r3, g2.1.1, c_X0_taught g2 hz ?_⟩⟩
    have c12 : jch S S2 (x + 41) (x + 52) := c1.trans c2
    have hM := hP.2.1.keep c12 (by omega)
    refine U_X11_gone (by first | exact hM.k | exact hM1.k | exact hP.2.1.k | exact h.2.2.1.1 | exact h.1.1 | exact g1.1.1 | exact g3.1.1 | exact gm.1.1 | exact h2.1.1 | exact hM2.k | (rw [c1.1.1]; exact hP.2.1.k)) ⟨fun c => absurd (hj.symm.trans c) (by decide), fun _ => ⟨hM.k, c_X11_laysBy hM (fun S3 c3 h3 hr3 => ⟨h3.k, c_X11_taughtNow h3 hX.v0 hz ?_⟩)⟩⟩
    refine l_X11_gone (S := S3) (n := n) (v := v) (by omega) hX.v0 hz (fun S4 p hp c4 h4 => ?_) n 0 (v 8, mfv v) 0 S3 (by omega) rfl jch.rfl ⟨h3.1, fun j => (h3.2 j).trans (vg_self j).symm⟩ (fun j hj hb => by rw [vg_self]; exact hP.2.2 j hj hb)
    refine c_X11_laysBack (v := v) h4 (fun j hj => by rw [c4.2 _ (by omega)]; exact hr3 j hj) (fun S5 c5 h5 => ?_)
    have em : mtaught (mfv (vg v p)) sz = mtaught (yyears sz n (v 8, mfv v)).2 sz := by
      rw [← hp]
      exact mtaught_cong (fun i hi f hf => vg_m p hi hf) sz 0 0 (by omega)
    have h6 : MR S5 (x + 94) v := by
      refine ⟨h5.1, fun j => (h5.2 j).trans ?_⟩
      show (if j < 135 then v j else vg v p j) = v j
      by_cases h135 : j < 135
      · rw [if_pos h135]
      · rw [if_neg h135, vg_o _ (by omega) (by omega)]
    refine ⟨?_, ?_, tkOf hP.2.1 h6 (fun _ _ => rfl), sz, v, ?_, h6, hP.2.2⟩
    · rw [em]
      obtain ⟨k, hk, e⟩ := mtaught_lt (mf := mfv v) (fun i hi => hP.2.2.msf i 2 hi (by omega)) sz 0 0 (by omega) (by omega)
      have e' : mtaught (mfv v) sz = nI k := e
      rw [e']
      obtain ⟨k2, hk2, e2⟩ := nI_andle hk (mtaught (yyears sz n (v 8, mfv v)).2 sz ^^^ (-1))
      rw [e2]; exact jbc_many ⟨k2, hk2⟩
    · exact ((((jfr.thought c12 (by omega) (by omega)).trans (jfr.scr c3 (by omega) (by omega))).trans (jfr.row c4)).trans (jfr.row c5))
    · have a2 := hX2.of c3.1 (hX2.2.2.keep c3 (by omega))
      have a3 := a2.of c4.1 (a2.2.2.keep c4 (by omega))
      exact a3.of c5.1 (a3.2.2.keep c5 (by omega))
  · have bad : jFm E mX11_gone (d + 3) (x + 94) [.int w] S (fun r' S2 => PO S x kBAD r' S2) := U_X11_gone (by first | exact hM.k | exact hM1.k | exact hP.2.1.k | exact h.2.2.1.1 | exact h.1.1 | exact g1.1.1 | exact g3.1.1 | exact gm.1.1 | exact h2.1.1 | exact hM2.k | (rw [c1.1.1]; exact hP.2.1.k)) ⟨fun _ => hP.same, fun c => absurd hj c⟩
    refine T_X10_gone ⟨fun _ => bad, fun c1 => ⟨fun c2 => ?_, fun _ => bad⟩⟩
    obtain ⟨j, hj, e⟩ := jofI (x := w) (n := 61) (by omega) (Int32.not_lt.mp c1) (by rw [show (60 : Int32) = nI 60 from rfl, Int32.le_iff_toInt_le, nI_toInt (by omega)] at c2; rw [Int32.lt_iff_toInt_lt, nI_toInt (by omega)]; omega)
    exact absurd e (hw j (by omega) (by omega))
/-! fresh -/
def mways (wy : Nat → Int32) (mf : Nat → Nat → Int32) (t : Nat) (n i : Nat) (a : Int32) : Int32 := jfold (fun i a => if mf i 6 = 0 then a + wy (t * 6 + (mf i 1).toNatClampNeg) else a + 0) n i a
theorem c_X3_ways {Q : Int32 → jM → Prop} {r t : Nat} (hR : RmR S r sz v) (hg : Rg sz v) (ht : t < 6) (h : Q (mways (vfar v) (mfv v) t sz 0 0) S) : jFi E mX3_waysToMasters (d + 2) 0 0 [.ref r, .int (nI t)] S Q := by
  obtain ⟨a0, a1, a2, a3, a4, a5, a6, a7, a8⟩ := hR
  have key : ∀ (n i : Nat) (a : Int32), i + n = sz → Q (mways (vfar v) (mfv v) t n i a) S → L_X3_waysToMasters_4 E (d + 1) Q r (nI t) a (nI i) S := by
    intro n
    induction n with
    | zero =>
      intro i a hi hh
      obtain rfl : i = sz := by omega
      exact T_X3_waysToMasters_4 ⟨a0.1, r + 1, a0.2.1, a3.1.1, fun _ => hh, fun cc => absurd (by rw [a3.2.1]; exact Int32.le_rfl) cc⟩
    | succ n ih =>
      intro i a hi hh
      have e1 := a3.at (i := i) (f := 1) (by omega) (by omega)
      have e6 := a3.at (i := i) (f := 6) (by omega) (by omega)
      have k2 := a3.mk2 (i := i) (by omega)
      obtain ⟨tw, htw, etw⟩ := hg.msf i 1 (by omega) (by omega)
      have htw : tw < 6 := htw
      have hh2 : Q (mways (vfar v) (mfv v) t n (i + 1) (if mfv v i 6 = 0 then a + vfar v (t * 6 + (mfv v i 1).toNatClampNeg) else a + 0)) S := hh
      refine T_X3_waysToMasters_4 ⟨a0.1, r + 1, a0.2.1, a3.1.1, fun cc => absurd cc (by rw [a3.2.1]; exact nI_ge (by omega) (by omega)), fun _ => c_X0_findAt a3.1 a3.2.1 a1 (by omega) ⟨fun c => absurd c (by simp), fun b eb => ?_⟩⟩
      obtain rfl : r + 1 + 2 + i = b := Option.some.inj eb
      refine ⟨k2, fun c6 => ⟨a0.1, r + 12, a0.2.2.1, a4.1.1, ?_⟩, fun c6 => ?_⟩
      · rw [e6] at c6
        rw [e1, etw]
        rw [if_pos c6, etw, jcl (by omega)] at hh2
        exact c_X4_fewest a4 ht htw (by rw [nI_1]; exact ih (i + 1) _ (by omega) hh2)
      · rw [e6] at c6
        rw [if_neg c6] at hh2
        rw [nI_1]; exact ih (i + 1) _ (by omega) hh2
  exact T_X3_waysToMasters (key sz 0 0 (by omega) h)
theorem c_X11_farFrom {Q : Int32 → jM → Prop} {m t : Nat} (hM : MR S m v) (h0 : v 0 = nI sz) (hz : sz ≤ 9) (hg : Rg sz v) (hf : ∀ i, i < 36 → ji S (m + 12) i = vfar v i) (ht : t < 6) (h : Q (mways (vfar v) (mfv v) t sz 0 0) S) : jFi E mX11_farFrom (d + 1) 0 0 [.ref m, .int (nI t)] S Q := by
  have i0 := hM.at (i := 0) 0 rfl (by omega)
  obtain ⟨f1, f2, f3⟩ := hM.1.far
  have key : ∀ (n i : Nat) (a : Int32), i + n = sz → Q (mways (vfar v) (mfv v) t n i a) S → L_X11_farFrom_4 E d Q m (nI t) a (nI i) S := by
    intro n
    induction n with
    | zero =>
      intro i a hi hh
      obtain rfl : i = sz := by omega
      exact T_X11_farFrom_4 ⟨hM.k, _, hM.r, hM.k1, i0.1, fun _ => hh, fun cc => absurd (by rw [i0.2, h0]; exact Int32.le_rfl) cc⟩
    | succ n ih =>
      intro i a hi hh
      obtain ⟨tw, htw, etw⟩ := hg.msf i 1 (by omega) (by omega)
      have htw : tw < 6 := htw
      have hh2 : Q (mways (vfar v) (mfv v) t n (i + 1) (if mfv v i 6 = 0 then a + vfar v (t * 6 + (mfv v i 1).toNatClampNeg) else a + 0)) S := hh
      refine T_X11_farFrom_4 ⟨hM.k, _, hM.r, hM.k1, i0.1, fun cc => absurd cc (by rw [i0.2, h0]; exact nI_ge (by omega) (by omega)), fun _ => c_X11_of (f := 6) hM (by omega) (by omega) ⟨fun c6 => ⟨hM.k, _, f1, c_X11_of (f := 1) hM (by omega) (by omega) ⟨f2, ?_, ?_⟩⟩, fun c6 => ?_⟩⟩
      · rw [etw, f3, nI_6x]; exact jin_nI (by omega) (by omega)
      · rw [if_pos c6, etw, jcl (by omega)] at hh2
        rw [etw, nI_6x, jcl (by omega), hf _ (by omega), nI_1]
        exact ih (i + 1) _ (by omega) hh2
      · rw [if_neg c6] at hh2
        rw [nI_1]; exact ih (i + 1) _ (by omega) hh2
  exact T_X11_farFrom (key sz 0 0 (by omega) h)
def jbest (f : Nat → Int32) : Nat → Nat → Nat → Nat
  | 0, _, b => b
  | n + 1, t, b => if f b ≤ f t then jbest f n (t + 1) b else jbest f n (t + 1) t
theorem P_fresh (hP : PI S x sz v) : jFi E mX10_fresh (d + 3) 0 0 [.ref x] S (fun r S1 => jFm E mX11_fresh (d + 2) (x + 94) [] S1 (fun r' S2 => PO S x r r' S2)) := by
  obtain ⟨hX, hM, hg⟩ := id hP
  have kC : ∀ (Q : Int32 → jM → Prop) (n t b : Nat), t + n = 6 → b < 6 → Q (nI (jbest (fun t => mways (vfar v) (mfv v) t sz 0 0) n t b)) S → L_X10_fresh_4 E (d + 2) Q x (nI b) (nI t) S := by
    intro Q n
    induction n with
    | zero =>
      intro t b ht hb hq
      obtain rfl : t = 6 := by omega
      exact T_X10_fresh_4 ⟨fun _ => hq, fun c => absurd (by decide) c⟩
    | succ n ih =>
      intro t b ht hb hq
      refine T_X10_fresh_4 ⟨fun c => absurd c (nI_ge (b := 6) (by omega) (by omega)), fun _ => ⟨hX.1, x + 1, hX.2.1, hX.k3, c_X3_ways hX.2.2 hg (by omega) ⟨hX.1, x + 1, hX.2.1, hX.k3, c_X3_ways hX.2.2 hg hb ⟨fun c => ?_, fun c => ?_⟩⟩⟩⟩
      · unfold jbest at hq; rw [if_pos c] at hq; rw [nI_1]; exact ih (t + 1) b (by omega) hb hq
      · unfold jbest at hq; rw [if_neg c] at hq; rw [nI_1]; exact ih (t + 1) t (by omega) (by omega) hq
  refine T_X10_fresh (kC _ 5 1 0 rfl (by omega) ?_)
  refine U_X11_fresh (by first | exact hM.k | exact hM1.k | exact hP.2.1.k | exact h.2.2.1.1 | exact h.1.1 | exact g1.1.1 | exact g3.1.1 | exact gm.1.1 | exact h2.1.1 | exact hM2.k | (rw [c1.1.1]; exact hP.2.1.k)) ⟨hM.k, c_X11_findFar hM (fun S1 c1 hf => ?_)⟩
  have hM1 := hM.keep c1 (by omega)
  have hX1 := hX.of c1.1 (hX.2.2.keep c1 (by omega))
  have kM : ∀ (Q : Int32 → jM → Prop) (n t b : Nat), t + n = 6 → b < 6 → Q (nI (jbest (fun t => mways (vfar v) (mfv v) t sz 0 0) n t b)) S1 → L_X11_fresh_8 E (d + 1) Q (x + 94) (nI b) (nI t) S1 := by
    intro Q n
    induction n with
    | zero =>
      intro t b ht hb hq
      obtain rfl : t = 6 := by omega
      exact T_X11_fresh_8 ⟨fun _ => hq, fun c => absurd (by decide) c⟩
    | succ n ih =>
      intro t b ht hb hq
      refine T_X11_fresh_8 ⟨fun c => absurd c (nI_ge (b := 6) (by omega) (by omega)), fun _ => ⟨hM1.k, c_X11_farFrom hM1 hX.v0 hX.sz9 hg hf (by omega) ⟨hM1.k, c_X11_farFrom hM1 hX.v0 hX.sz9 hg hf hb ⟨fun c => ?_, fun c => ?_⟩⟩⟩⟩
      · unfold jbest at hq; rw [if_pos c] at hq; rw [nI_1]; exact ih (t + 1) b (by omega) hb hq
      · unfold jbest at hq; rw [if_neg c] at hq; rw [nI_1]; exact ih (t + 1) t (by omega) (by omega) hq
  exact kM _ 5 1 0 rfl (by omega) ⟨rfl, jfr.far (c1.wide (by omega) (by omega)), tkOf hM hM1 (fun _ _ => rfl), sz, v, hX1, hM1, hg⟩
end jFresh5
end
section
/-! THE IMAGE: a realm becomes as another; the reference's rows laid aside -/
/-- ints of lo .. hi - 1 and references of the cell q may change -/
def jcr (S S' : jM) (lo hi q : Nat) : Prop := jk S' = jk S ∧ jl S' = jl S ∧ jn S' = jn S ∧ (∀ y, y ≠ q → jr S' y = jr S y) ∧ ∀ y, (y < lo ∨ hi ≤ y) → ji S' y = ji S y
section jImage
variable {E : jEnv} {d : Nat} {S : jM} {x sz : Nat} {v : Nat → Int32}
theorem RmR.refs {S' : jM} {r : Nat} (h : RmR S r sz v) (hk : jk S' = jk S) (hl : jl S' = jl S) (hi : ji S' = ji S) (hr : ∀ y, r ≤ y → y < r + 19 → jr S' y = jr S y) : RmR S' r sz v := by
  obtain ⟨⟨k1, k2, k3, k4, k5, k6, k7, k8, k9, k10⟩, a1, a2, a3, a4, a5, a6, a7, a8⟩ := h
  have cs : ∀ y, r ≤ y → y < r + 19 → jcs S S' y := fun y h1 h2 => ⟨by rw [hk], by rw [hl], by rw [hi], hr y h1 h2⟩
  have e0 := hr r (by omega) (by omega)
  refine ⟨⟨by rw [hk]; exact k1, by rw [e0]; exact k2, by rw [e0]; exact k3, by rw [e0]; exact k4, by rw [e0]; exact k5, by rw [e0]; exact k6, by rw [hk]; exact k7, by rw [hl]; exact k8, by rw [hk]; exact k9, by rw [hl]; exact k10⟩, a1, a2, a3.grow (fun y h1 h2 => cs y (by omega) (by omega)), a4.grow (fun y h1 h2 => cs y (by omega) (by omega)), a5.grow (fun y h1 h2 => cs y (by omega) (by omega)), by rw [hi]; exact a6, fun i h9 => by rw [hi]; exact a7 i h9, by rw [hi]; exact a8⟩
theorem c_X3_become {Q : jM → Prop} {r r1 sz1 : Nat} {v1 : Nat → Int32} (hR : RmR S r sz v) (hR1 : RmR S r1 sz1 v1) (hg1 : Rg sz1 v1) (hne : r + 20 ≤ r1 ∨ r1 + 20 ≤ r) (hT : ∀ i, i < 14 → ∀ b, jr S (r1 + 19) i = some b → jk S b = 9)
    (h : ∀ S', jcr S S' r (r + 19) (r + 19) → RmR S' r sz1 v1 → (∀ k, k < 14 → jr S' (r + 19) k = jr S (r1 + 19) k) → Q S') : jFv E mX3_become (d + 2) 0 0 [.ref r, .ref r1] S Q := by
  obtain ⟨⟨k1, k2, k3, k4, k5, k6, k7, k8, k9, k10⟩, a1, a2, a3, a4, a5, a6, a7, a8⟩ := id hR
  obtain ⟨⟨l1, l2, l3, l4, l5, l6, l7, l8, l9, l10⟩, b1, b2, b3, b4, b5, b6, b7, b8⟩ := id hR1
  refine T_X3_become ⟨k1, r + 1, k2, l1, r1 + 1, l2, a3.1.1, ?_⟩
  refine c_X0_become a3 b3 (by omega) (fun i hi => ?_) (fun S1 c1 g1 => ?_)
  · obtain ⟨k, hk, e⟩ := hg1.msf i 6 hi (by omega)
    have hk2 : k < 2 := hk
    rcases (show k = 0 ∨ k = 1 by omega) with rfl | rfl
    · exact Or.inl e
    · exact Or.inr e
  have K1 : jk S1 = jk S := c1.1.1
  have R1 : jr S1 = jr S := c1.1.2.2.1
  refine ⟨by rw [K1]; exact k1, r + 12, by rw [R1]; exact k3, by rw [K1]; exact l1, r1 + 12, by rw [R1]; exact l3, by rw [K1]; exact a4.1.1, ?_⟩
  refine c_X4_become (a4.keep c1 (by omega)) (b4.keep c1 (by omega)) (by omega) (fun S2 c2 g2 => ?_)
  have K2 : jk S2 = jk S := c2.1.1.trans K1
  have R2 : jr S2 = jr S := c2.1.2.2.1.trans R1
  refine ⟨by rw [K2]; exact k1, r + 15, by rw [R2]; exact k4, by rw [K2]; exact l1, r1 + 15, by rw [R2]; exact l4, by rw [K2]; exact a5.1.1, ?_⟩
  refine c_X1_become ((a5.keep c1 (by omega)).keep c2 (by omega)) ((b5.keep c1 (by omega)).keep c2 (by omega)) (by omega) (fun S3 c3 g3 => ?_)
  have K3 : jk S3 = jk S := c3.1.1.trans K2
  have R3 : jr S3 = jr S := c3.1.2.2.1.trans R2
  have L3 : jl S3 = jl S := c3.1.2.1.trans (c2.1.2.1.trans c1.1.2.1)
  have N3 : jn S3 = jn S := c3.1.2.2.2.trans (c2.1.2.2.2.trans c1.1.2.2.2)
  have I3 : ∀ y, (y < r + 1 ∨ r + 18 ≤ y) → ji S3 y = ji S y := fun y hy => (c3.2 y (by omega)).trans ((c2.2 y (by omega)).trans (c1.2 y (by omega)))
  have G3 := (g1.keep c2 (by omega)).keep c3 (by omega)
  have Q3 := g2.keep c3 (by omega)
  have n6 : Int32.toNatClampNeg 6 = 6 := rfl
  have n0 : Int32.toNatClampNeg 0 = 0 := rfl
  refine ⟨by rw [K3]; exact l1, r1 + 18, by rw [R3]; exact l5, by rw [K3]; exact k1, r + 18, by rw [R3]; exact k5, by rw [K3]; exact l7, by rw [K3]; exact k7, ⟨by decide, by decide, by decide, by rw [L3, l8]; decide, by rw [L3, k8]; decide⟩, ?_⟩
  rw [n6, n0]
  have K4 : jk (jput (jrow S3 (r + 18) (va_cpy (ji S3 (r1 + 18)) (ji S3 (r + 18)) 0 0 6)) r 4 (ji S3 r1 4)) = jk S := K3
  have L4 : jl (jput (jrow S3 (r + 18) (va_cpy (ji S3 (r1 + 18)) (ji S3 (r + 18)) 0 0 6)) r 4 (ji S3 r1 4)) = jl S := L3
  have R4 : jr (jput (jrow S3 (r + 18) (va_cpy (ji S3 (r1 + 18)) (ji S3 (r + 18)) 0 0 6)) r 4 (ji S3 r1 4)) = jr S := R3
  have N4 : jn (jput (jrow S3 (r + 18) (va_cpy (ji S3 (r1 + 18)) (ji S3 (r + 18)) 0 0 6)) r 4 (ji S3 r1 4)) = jn S := N3
  have I4 : ∀ y, y ≠ r → y ≠ r + 18 → ji (jput (jrow S3 (r + 18) (va_cpy (ji S3 (r1 + 18)) (ji S3 (r + 18)) 0 0 6)) r 4 (ji S3 r1 4)) y = ji S3 y := fun y h1 h2 => (ji_put_ne _ _ _ _ h1).trans (ji_row_ne _ _ _ h2)
  have W4 : ∀ i, i < 6 → ji (jput (jrow S3 (r + 18) (va_cpy (ji S3 (r1 + 18)) (ji S3 (r + 18)) 0 0 6)) r 4 (ji S3 r1 4)) (r + 18) i = v1 (9 + i) := fun i hi => by
    rw [ji_put_ne _ _ _ _ (by omega), ji_row_same, va_cpy0 hi, I3 (r1 + 18) (by omega)]; exact b7 i hi
  have V4 : ji (jput (jrow S3 (r + 18) (va_cpy (ji S3 (r1 + 18)) (ji S3 (r + 18)) 0 0 6)) r 4 (ji S3 r1 4)) r 4 = v1 7 := by
    rw [ji_put_same, I3 r1 (by omega)]; exact b6
  generalize jput (jrow S3 (r + 18) (va_cpy (ji S3 (r1 + 18)) (ji S3 (r + 18)) 0 0 6)) r 4 (ji S3 r1 4) = S4 at K4 L4 R4 N4 I4 W4 V4 ⊢
  have key : ∀ (n i : Nat) (S5 : jM), i + n = 14 → jk S5 = jk S4 → jl S5 = jl S4 → jn S5 = jn S4 → ji S5 = ji S4 → (∀ y, y ≠ r + 19 → jr S5 y = jr S4 y) → (∀ k, k < i → jr S5 (r + 19) k = jr S (r1 + 19) k) → L_X3_become_58 E (d + 1) Q r r1 (nI i) S5 := by
    intro n
    induction n with
    | zero =>
      intro i S5 hi K5 L5 N5 I5 O5 T5
      obtain rfl : i = 14 := by omega
      refine T_X3_become_58 ⟨fun _ => ⟨by rw [K5, K4]; exact l1, by rw [K5, K4]; exact k1, ?_⟩, fun c => absurd (by decide) c⟩
      have s6 : ji S5 r1 6 = v1 1 := by rw [I5, I4 r1 (by omega) (by omega), I3 r1 (by omega)]; exact b8
      rw [s6]
      have O5' : ∀ y, y ≠ r + 19 → jr S5 y = jr S y := fun y hy => (O5 y hy).trans (by rw [R4])
      have c5 : ∀ y, r ≤ y → y < r + 19 → y ≠ r → y ≠ r + 18 → jcs S3 (jput S5 r 6 (v1 1)) y := fun y h1 h2 h3 h4 =>
        ⟨by show jk S5 y = _; rw [K5, K4, K3], by show jl S5 y = _; rw [L5, L4, L3], by rw [ji_put_ne _ _ _ _ h3, I5]; exact I4 y h3 h4, by show jr S5 y = _; rw [O5' y (by omega), R3]⟩
      have O0 := O5' r (by omega)
      refine h _ ⟨by show jk S5 = _; rw [K5, K4], by show jl S5 = _; rw [L5, L4], by show jn S5 = _; rw [N5, N4], O5', fun y hy => ?_⟩ ⟨⟨by show jk S5 _ = _; rw [K5, K4]; exact k1, by show jr S5 _ _ = _; rw [O0]; exact k2, by show jr S5 _ _ = _; rw [O0]; exact k3, by show jr S5 _ _ = _; rw [O0]; exact k4, by show jr S5 _ _ = _; rw [O0]; exact k5, by show jr S5 _ _ = _; rw [O0]; exact k6, by show jk S5 _ = _; rw [K5, K4]; exact k7, by show jl S5 _ = _; rw [L5, L4]; exact k8, by show jk S5 _ = _; rw [K5, K4]; exact k9, by show jl S5 _ = _; rw [L5, L4]; exact k10⟩, b1, b2, G3.grow (fun y h1 h2 => c5 y (by omega) (by omega) (by omega) (by omega)), Q3.grow (fun y h1 h2 => c5 y (by omega) (by omega) (by omega) (by omega)), g3.grow (fun y h1 h2 => c5 y (by omega) (by omega) (by omega) (by omega)), ?_, fun i hi => ?_, ?_⟩ T5
      · rw [ji_put_ne _ _ _ _ (by omega), I5, I4 y (by omega) (by omega)]; exact I3 y (by omega)
      · rw [ji_put, if_neg (by omega), I5]; exact V4
      · rw [ji_put_ne _ _ _ _ (by omega), I5]; exact W4 i hi
      · rw [ji_put_same]
    | succ n ih =>
      intro i S5 hi K5 L5 N5 I5 O5 T5
      have O5' : ∀ y, y ≠ r + 19 → jr S5 y = jr S y := fun y hy => (O5 y hy).trans (by rw [R4])
      have e1 := O5' (r1 + 19) (by omega)
      have nx : ∀ o : Option Nat, o = jr S (r1 + 19) i → L_X3_become_58 E (d + 1) Q r r1 (nI (i + 1)) (jputr S5 (r + 19) i o) := by
        intro o ho
        refine ih (i + 1) _ (by omega) K5 L5 N5 I5 (fun y hy => ?_) (fun k hk => ?_)
        · rw [show jr (jputr S5 (r + 19) i o) y = jr S5 y from by funext j; rw [jr_putr, if_neg (fun c => hy c.1)]]; exact O5 y hy
        · rw [jr_putr]
          by_cases hki : k = i
          · rw [if_pos ⟨rfl, hki⟩, hki]; exact ho
          · rw [if_neg (fun c => hki c.2)]; exact T5 k (by omega)
      refine T_X3_become_58 ⟨fun c => absurd c (nI_ge (b := 14) (by omega) (by omega)), fun _ => ⟨by rw [K5, K4]; exact k1, r + 19, by rw [O5' r (by omega)]; exact k6, by rw [K5, K4]; exact l1, r1 + 19, by rw [O5' r1 (by omega)]; exact l6, by rw [K5, K4]; exact l9, by rw [L5, L4, l10]; exact jin_nI (by omega) (by omega), fun c => ⟨by rw [K5, K4]; exact k9, by rw [L5, L4, k10]; exact jin_nI (by omega) (by omega), ?_⟩, fun b c => ⟨by rw [K5, K4]; exact k9, ?_, by rw [L5, L4, k10]; exact jin_nI (by omega) (by omega), ?_⟩⟩⟩
      · rw [jcl (by omega), e1] at c
        rw [jcl (by omega), nI_1]; exact nx none c.symm
      · rw [jcl (by omega), e1] at c
        rw [K5, K4]; exact hT i (by omega) b c
      · rw [jcl (by omega), e1] at c
        rw [jcl (by omega), nI_1]; exact nx (some b) c.symm
  exact key 14 0 S4 rfl rfl rfl rfl rfl (fun _ _ => rfl) (fun k hk => absurd hk (Nat.not_lt_zero _))
/-! the reference's rows -/
theorem c_X11_setAside {Q : jM → Prop} {m a b : Nat} (ka : jk S a = 12) (la : jl S a = 3135) (kb : jk S b = 12) (lb : jl S b = 3135) (hne : a ≠ b) (h : ∀ S', jch S S' b (b + 1) → (∀ j, ji S' b j = if j < 2935 then ji S a j else ji S b j) → Q S') : jFv E mX11_setAside d 0 0 [.ref m, .ref a, .ref b] S Q := by
  have key : ∀ (n i : Nat) (S1 : jM), i + n = 2935 → jch S S1 b (b + 1) → (∀ j, ji S1 b j = if j < i then ji S a j else ji S b j) → L_X11_setAside_2 E d Q a b (nI i) S1 := by
    intro n
    induction n with
    | zero =>
      intro i S1 hi c1 r1
      obtain rfl : i = 2935 := by omega
      exact T_X11_setAside_2 ⟨fun _ => h S1 c1 r1, fun c => absurd (by decide) c⟩
    | succ n ih =>
      intro i S1 hi c1 r1
      refine T_X11_setAside_2 ⟨fun c => absurd c (nI_ge (b := 2935) (by omega) (by omega)), fun _ => ⟨by rw [c1.1.1]; exact ka, by rw [c1.1.2.1, la]; exact jin_nI (by omega) (by omega), by rw [c1.1.1]; exact kb, by rw [c1.1.2.1, lb]; exact jin_nI (by omega) (by omega), ?_⟩⟩
      rw [jcl (by omega), nI_1, c1.2 a (by omega)]
      refine ih (i + 1) _ (by omega) (c1.trans (jch.put (by omega) (by omega))) (fun j => ?_)
      rw [ji_put]
      by_cases hj : j = i
      · rw [if_pos ⟨rfl, hj⟩, if_pos (by omega), hj]
      · rw [if_neg (fun c => hj c.2), r1 j]
        by_cases hl : j < i
        · rw [if_pos hl, if_pos (by omega)]
        · rw [if_neg hl, if_neg (by omega)]
  exact T_X11_setAside (key 2935 0 S rfl jch.rfl (fun j => by rw [if_neg (by omega)]))
theorem ML.refs {S' : jM} {m : Nat} (h : ML S m) (hk : jk S' = jk S) (hl : jl S' = jl S) (hr : jr S' m = jr S m) : ML S' m := by
  refine ⟨by rw [hk]; exact h.1, fun k p hp => ?_⟩
  rw [hk, hl, hr]; exact h.2 k p hp
theorem GM.refs {S' : jM} (h : GM S x) (hk : jk S' = jk S) (hl : jl S' = jl S) (hr : jr S' (x + 94) = jr S (x + 94)) (he : ∀ y, x + 94 ≤ y → ji S' y = ji S y) : GM S' x := by
  obtain ⟨h1, a1, a2, a3, a4⟩ := h
  refine ⟨h1.refs hk hl hr, fun j => ?_, fun j => ?_, fun j hj => ?_, fun k p q r j => ?_⟩
  · rw [he _ (by omega)]; exact a1 j
  · rw [he _ (by omega)]; exact a2 j
  · rw [he _ (by omega)]; exact a3 j hj
  · rw [he _ (by omega)]; exact a4 k p q r j
end jImage
end
section
/-! copy on fresh objects -/
section jFresh6
variable {E : jEnv} {d : Nat} {S : jM} {x : Nat}
end jFresh6
end
section
/-! THE CLAIM OUT OF ONE WALK OF THE LAW'S BODY. Your part is whole_start (and what it stands on); all else here is the same for every law, but numbers. -/
def R_law : String := "NineMastersLaw"
def lw_P (b : Addr) (xs : List Int32) (args : Array Value) (s : State) : Prop := args = #[.ref b] ∧ s.IntsAt b xs ∧ xs.length ≤ 384 ∧ (Jvm.Cond.and given_1 narrow_1).before args s = true
def lw_Q (_ : Array Value) (s : State) (o : Outcome) (t : State) : Prop := o = .returned (some (.int 1)) ∧ Framed s o t [] 600000 7302250
def lw_Z (below : List Frame) (a : Array Value) (s : State) : State → Prop := fun t => ∃ o, t.status = .running ∧ Ended t below o ∧ lw_Q a s o t
/-- the law's own end, with 1 on the stack, nothing written that was there before, its room as the claim has it -/
theorem lw_ret {p : Program} {l : Launch} {e : Env} {s : State} {m : MethodId} {below : List Frame} {meth : Method} {c : Code} {b : Nat} (hx : p.tables.exec = Jvm.exec) (hb : c.code = code) (hr : meth.sig.returnType = ret) (hlocks : meth.locks = false) {pc : Nat} {H : Heap} {ls : Array Slot} (hdg : decode code pc = .ok (.ireturn, 1)) : W p l e room_1 s m #[Value.ref b] below meth c H [] 600000 7302250 (lw_Z below #[Value.ref b] s) (F0 m pc ls [.int 1]) := by
  intro T hT X
  obtain ⟨fs, hret, hrun, hended, hW, hframe⟩ := X.leave (v := some (.int 1)) (hlocks := hlocks) (fun h => by rw [hr] at h; cases h)
  have hmeth' : T.vm.method? m = some meth := X.method'
  refine ⟨T.setFrames fs, ?_, .returned (some (.int 1)), hrun, hended, rfl, ⟨_, rfl⟩, hW, hframe⟩
  jvm_step X.here [X.here.top, hx, hb, hdg, hmeth', hr, ret, narrow_b1]
  (try refine ⟨rfl, ?_⟩); (try refine ⟨rfl, ?_⟩)
  first | (intro acts; rw [hret _ acts rfl rfl rfl]) | rw [hret _ _ rfl rfl rfl]
  exact Steps.refl _
/-- what holds at the law's entry: the machine, the code, the tables' words (any of lw_tbl by 'hts w (by decide +kernel)'), the script of L ints xs at the cell b, what the Statement gives of the start (any of its parts by flat_of_before) -/
def lw_At (p : Program) (s : State) (m : MethodId) (meth : Method) (c : Code) (b L : Nat) (xs : Nat → Int32) : Prop :=
  p.tables.exec = Jvm.exec ∧ c.code = code ∧ meth.sig.returnType = ret ∧ c.maxLocals = 4 ∧ s.vm.findClass R_law = some m.cls ∧ (∀ w ∈ lw_tbl, w.before #[Value.ref b] s = true) ∧ va_X b L xs s s.heap ∧ b < s.heap.size ∧ meth.locks = false ∧ (Jvm.Cond.and given_1 narrow_1).before #[Value.ref b] s = true
/-! THE LAW as a body of the layer -/
abbrev mLw (nm : String) : jMd := (⟨RL, nm, "([I)Z"⟩, code, 4, ret)
/-- what is so of the law's own start -/
def jLc (E : jEnv) (b L : Nat) (xs : Nat → Int32) (args : Array Value) (s : State) : Prop := args = #[Value.ref b] ∧ va_X b L xs s s.heap ∧ b < s.heap.size ∧ eB E = s.heap.size
def jZL (E : jEnv) (b L : Nat) (xs : Nat → Int32) : jZ := fun below args s t => jLc E b L xs args s → lw_Z below args s t
section jLaw
variable {E : jEnv} {M : jMd} {R : Room} {pc : Nat} {lv lv1 : List (Nat × Value)} {st : List Value} {S : jM} {c k b L : Nat} {xs : Nat → Int32}
theorem jx_sld {i : Int32} (hd : decode M.2.1 pc = .ok (.iaload, 1)) (hin : vp_in i L) (h : jX E M R (jZL E b L xs) (pc + 1) lv (.int (xs i.toNatClampNeg) :: st) S c k) : jX E M R (jZL E b L xs) pc lv (.int i :: .ref b :: st) S c k := by
  intro p e s m args below meth c0 hB H locs ls hV hS hl
  by_cases hc : jLc E b L xs args s
  · exact va_sld (H0 := s.heap) hB.hx hB.hb hc.2.1 hc.2.2.1 (by show ¬ eB E ≤ b; rw [hc.2.2.2]; exact Nat.not_le.mpr hc.2.2.1) hS hin hd (h p e s m args below meth c0 hB H locs ls hV hS hl)
  · intro T hT X
    exact ⟨_, Steps.refl _, fun h9 => absurd h9 hc⟩
theorem jx_slen (hd : decode M.2.1 pc = .ok (.arraylength, 1)) (h : jX E M R (jZL E b L xs) (pc + 1) lv (.int (nI L) :: st) S c k) : jX E M R (jZL E b L xs) pc lv (.ref b :: st) S c k := by
  intro p e s m args below meth c0 hB H locs ls hV hS hl
  by_cases hc : jLc E b L xs args s
  · exact va_slen (H0 := s.heap) hB.hx hB.hb hc.2.1 hc.2.2.1 (by show ¬ eB E ≤ b; rw [hc.2.2.2]; exact Nat.not_le.mpr hc.2.2.1) hS hd (h p e s m args below meth c0 hB H locs ls hV hS hl)
  · intro T hT X
    exact ⟨_, Steps.refl _, fun h9 => absurd h9 hc⟩
theorem jx_lawEnd {nm : String} (hd : decode code pc = .ok (.ireturn, 1)) (hc : c ≤ 600000) (hk : k ≤ 7302250) : jX E (mLw nm) room_1 (jZL E b L xs) pc lv [.int 1] S c k := by
  intro p e s m args below meth c0 hB H locs ls hV hS hl
  by_cases hcx : jLc E b L xs args s
  · obtain ⟨rfl, hX, hbl, hz⟩ := id hcx
    intro T hT X
    obtain ⟨t, a1, b1⟩ := (W.widen hc hk (va_forget (fun q hq => by rw [← hz]; exact hS.2.2 q hq) (lw_ret (l := eL E) hB.hx hB.hb hB.hr hB.hlk hd))) T hT X
    exact ⟨t, a1, fun _ => b1⟩
  · intro T hT X
    exact ⟨_, Steps.refl _, fun h9 => absurd h9 hcx⟩
end jLaw
end
section
/-! THE LAW, walked (program: wip/gen/law.py) -/
/-- the law at its loop's head 18 -/
abbrev L_L_law_18 (E : jEnv) (nm : String) (L : Nat) (xs : Nat → Int32) (a0 : Nat) (a1 : Nat) (a2 : Nat) (x3 : Int32) (S : jM) (c9 k9 : Nat) : Prop := jX E (mLw nm) room_1 (jZL E a0 L xs) 18 [(0, .ref a0), (1, .ref a1), (2, .ref a2), (3, .int x3)] [] S c9 k9
set_option maxRecDepth 100000 in
set_option maxHeartbeats 4000000 in
theorem T_L_law_18 {E : jEnv} {nm : String} {L : Nat} {xs : Nat → Int32} {a0 : Nat} {a1 : Nat} {a2 : Nat} {x3 : Int32} {S : jM} {c9 k9 : Nat} (h : (((nI L) - 6) < x3 → (c9 ≤ 600000 ∧ k9 ≤ 7302250)) ∧ (¬ ((nI L) - 6) < x3 → vp_in x3 L ∧ ((((xs (Int32.toNatClampNeg x3)) &&& 63) = 0 → vp_in (x3 + 1) L ∧ (vp_in (x3 + 2) L ∧ (vp_in (x3 + 3) L ∧ (vp_in (x3 + 4) L ∧ (jk S a1 = 10 ∧ (c9 + 0 ≤ 600000 ∧ k9 + 0 ≤ 7302250) ∧ ∃ d, jRok room_1 d ∧ jFi E mX10_master d 0 0 [.ref a1, .int (xs (Int32.toNatClampNeg (x3 + 1))), .int (xs (Int32.toNatClampNeg (x3 + 2))), .int (xs (Int32.toNatClampNeg (x3 + 3))), .int (xs (Int32.toNatClampNeg (x3 + 4)))] S (fun r11 S10 => ((((jk S10 a2 = 11 ∧ ((c9 + 0) + 0 ≤ 600000 ∧ (k9 + 0) + 0 ≤ 7302250) ∧ ∃ d, jRok room_1 d ∧ jFi E mX11_master d 0 0 [.ref a2, .int (xs (Int32.toNatClampNeg (x3 + 1))), .int (xs (Int32.toNatClampNeg (x3 + 2))), .int (xs (Int32.toNatClampNeg (x3 + 3))), .int (xs (Int32.toNatClampNeg (x3 + 4)))] S10 (fun r15 S14 => L_L_law_18 E nm L xs a0 a1 a2 (x3 + 6) S14 ((c9 + 0) + 0) ((k9 + 0) + 0)))))))))))) ∧ (((xs (Int32.toNatClampNeg x3)) &&& 63) = 1 → vp_in (x3 + 1) L ∧ (vp_in (x3 + 2) L ∧ (jk S a1 = 10 ∧ (c9 + 0 ≤ 600000 ∧ k9 + 0 ≤ 7302250) ∧ ∃ d, jRok room_1 d ∧ jFi E mX10_told d 0 0 [.ref a1, .int (xs (Int32.toNatClampNeg (x3 + 1))), .int (xs (Int32.toNatClampNeg (x3 + 2)))] S (fun r22 S21 => ((jk S21 a2 = 11 ∧ ((c9 + 0) + 0 ≤ 600000 ∧ (k9 + 0) + 0 ≤ 7302250) ∧ ∃ d, jRok room_1 d ∧ jFi E mX11_told d 0 0 [.ref a2, .int (xs (Int32.toNatClampNeg (x3 + 1))), .int (xs (Int32.toNatClampNeg (x3 + 2)))] S21 (fun r26 S25 => L_L_law_18 E nm L xs a0 a1 a2 (x3 + 6) S25 ((c9 + 0) + 0) ((k9 + 0) + 0)))))))) ∧ (((xs (Int32.toNatClampNeg x3)) &&& 63) = 2 → vp_in (x3 + 1) L ∧ (vp_in (x3 + 2) L ∧ (jk S a1 = 10 ∧ (c9 + 0 ≤ 600000 ∧ k9 + 0 ≤ 7302250) ∧ ∃ d, jRok room_1 d ∧ jFi E mX10_as d 0 0 [.ref a1, .int (xs (Int32.toNatClampNeg (x3 + 1))), .int (xs (Int32.toNatClampNeg (x3 + 2)))] S (fun r33 S32 => ((jk S32 a2 = 11 ∧ ((c9 + 0) + 0 ≤ 600000 ∧ (k9 + 0) + 0 ≤ 7302250) ∧ ∃ d, jRok room_1 d ∧ jFi E mX11_as d 0 0 [.ref a2, .int (xs (Int32.toNatClampNeg (x3 + 1))), .int (xs (Int32.toNatClampNeg (x3 + 2)))] S32 (fun r37 S36 => L_L_law_18 E nm L xs a0 a1 a2 (x3 + 6) S36 ((c9 + 0) + 0) ((k9 + 0) + 0)))))))) ∧ (((xs (Int32.toNatClampNeg x3)) &&& 63) = 3 → vp_in (x3 + 1) L ∧ (vp_in (x3 + 2) L ∧ (jk S a1 = 10 ∧ (c9 + 0 ≤ 600000 ∧ k9 + 0 ≤ 7302250) ∧ ∃ d, jRok room_1 d ∧ jFi E mX10_turns d 0 0 [.ref a1, .int (xs (Int32.toNatClampNeg (x3 + 1))), .int (xs (Int32.toNatClampNeg (x3 + 2)))] S (fun r44 S43 => ((jk S43 a2 = 11 ∧ ((c9 + 0) + 0 ≤ 600000 ∧ (k9 + 0) + 0 ≤ 7302250) ∧ ∃ d, jRok room_1 d ∧ jFi E mX11_turns d 0 0 [.ref a2, .int (xs (Int32.toNatClampNeg (x3 + 1))), .int (xs (Int32.toNatClampNeg (x3 + 2)))] S43 (fun r48 S47 => L_L_law_18 E nm L xs a0 a1 a2 (x3 + 6) S47 ((c9 + 0) + 0) ((k9 + 0) + 0)))))))) ∧ (((xs (Int32.toNatClampNeg x3)) &&& 63) = 4 → vp_in (x3 + 1) L ∧ (vp_in (x3 + 2) L ∧ (vp_in (x3 + 3) L ∧ (jk S a1 = 10 ∧ (c9 + 0 ≤ 600000 ∧ k9 + 0 ≤ 7302250) ∧ ∃ d, jRok room_1 d ∧ jFi E mX10_set d 0 0 [.ref a1, .int (xs (Int32.toNatClampNeg (x3 + 1))), .int (xs (Int32.toNatClampNeg (x3 + 2))), .int (xs (Int32.toNatClampNeg (x3 + 3)))] S (fun r56 S55 => (((jk S55 a2 = 11 ∧ ((c9 + 0) + 0 ≤ 600000 ∧ (k9 + 0) + 0 ≤ 7302250) ∧ ∃ d, jRok room_1 d ∧ jFi E mX11_set d 0 0 [.ref a2, .int (xs (Int32.toNatClampNeg (x3 + 1))), .int (xs (Int32.toNatClampNeg (x3 + 2))), .int (xs (Int32.toNatClampNeg (x3 + 3)))] S55 (fun r60 S59 => L_L_law_18 E nm L xs a0 a1 a2 (x3 + 6) S59 ((c9 + 0) + 0) ((k9 + 0) + 0)))))))))) ∧ (((xs (Int32.toNatClampNeg x3)) &&& 63) = 5 → vp_in (x3 + 1) L ∧ (vp_in (x3 + 2) L ∧ (vp_in (x3 + 3) L ∧ (jk S a1 = 10 ∧ (c9 + 0 ≤ 600000 ∧ k9 + 0 ≤ 7302250) ∧ ∃ d, jRok room_1 d ∧ jFi E mX10_bars d 0 0 [.ref a1, .int (xs (Int32.toNatClampNeg (x3 + 1))), .int (xs (Int32.toNatClampNeg (x3 + 2))), .int (xs (Int32.toNatClampNeg (x3 + 3)))] S (fun r68 S67 => (((jk S67 a2 = 11 ∧ ((c9 + 0) + 0 ≤ 600000 ∧ (k9 + 0) + 0 ≤ 7302250) ∧ ∃ d, jRok room_1 d ∧ jFi E mX11_bars d 0 0 [.ref a2, .int (xs (Int32.toNatClampNeg (x3 + 1))), .int (xs (Int32.toNatClampNeg (x3 + 2))), .int (xs (Int32.toNatClampNeg (x3 + 3)))] S67 (fun r72 S71 => L_L_law_18 E nm L xs a0 a1 a2 (x3 + 6) S71 ((c9 + 0) + 0) ((k9 + 0) + 0)))))))))) ∧ (((xs (Int32.toNatClampNeg x3)) &&& 63) = 6 → vp_in (x3 + 1) L ∧ (vp_in (x3 + 2) L ∧ (vp_in (x3 + 3) L ∧ (jk S a1 = 10 ∧ (c9 + 0 ≤ 600000 ∧ k9 + 0 ≤ 7302250) ∧ ∃ d, jRok room_1 d ∧ jFi E mX10_road d 0 0 [.ref a1, .int (xs (Int32.toNatClampNeg (x3 + 1))), .int (xs (Int32.toNatClampNeg (x3 + 2))), .int (xs (Int32.toNatClampNeg (x3 + 3)))] S (fun r80 S79 => (((jk S79 a2 = 11 ∧ ((c9 + 0) + 0 ≤ 600000 ∧ (k9 + 0) + 0 ≤ 7302250) ∧ ∃ d, jRok room_1 d ∧ jFi E mX11_road d 0 0 [.ref a2, .int (xs (Int32.toNatClampNeg (x3 + 1))), .int (xs (Int32.toNatClampNeg (x3 + 2))), .int (xs (Int32.toNatClampNeg (x3 + 3)))] S79 (fun r84 S83 => L_L_law_18 E nm L xs a0 a1 a2 (x3 + 6) S83 ((c9 + 0) + 0) ((k9 + 0) + 0)))))))))) ∧ (((xs (Int32.toNatClampNeg x3)) &&& 63) = 7 → vp_in (x3 + 1) L ∧ (vp_in (x3 + 2) L ∧ (jk S a1 = 10 ∧ (c9 + 0 ≤ 600000 ∧ k9 + 0 ≤ 7302250) ∧ ∃ d, jRok room_1 d ∧ jFi E mX10_far d 0 0 [.ref a1, .int (xs (Int32.toNatClampNeg (x3 + 1))), .int (xs (Int32.toNatClampNeg (x3 + 2)))] S (fun r91 S90 => ((jk S90 a2 = 11 ∧ ((c9 + 0) + 0 ≤ 600000 ∧ (k9 + 0) + 0 ≤ 7302250) ∧ ∃ d, jRok room_1 d ∧ jFi E mX11_far d 0 0 [.ref a2, .int (xs (Int32.toNatClampNeg (x3 + 1))), .int (xs (Int32.toNatClampNeg (x3 + 2)))] S90 (fun r95 S94 => L_L_law_18 E nm L xs a0 a1 a2 (x3 + 6) S94 ((c9 + 0) + 0) ((k9 + 0) + 0)))))))) ∧ (((xs (Int32.toNatClampNeg x3)) &&& 63) = 8 → vp_in (x3 + 1) L ∧ (jk S a1 = 10 ∧ (c9 + 0 ≤ 600000 ∧ k9 + 0 ≤ 7302250) ∧ ∃ d, jRok room_1 d ∧ jFi E mX10_deal d 0 0 [.ref a1, .int (xs (Int32.toNatClampNeg (x3 + 1)))] S (fun r101 S100 => (jk S100 a2 = 11 ∧ ((c9 + 0) + 0 ≤ 600000 ∧ (k9 + 0) + 0 ≤ 7302250) ∧ ∃ d, jRok room_1 d ∧ jFi E mX11_deal d 0 0 [.ref a2, .int (xs (Int32.toNatClampNeg (x3 + 1)))] S100 (fun r105 S104 => L_L_law_18 E nm L xs a0 a1 a2 (x3 + 6) S104 ((c9 + 0) + 0) ((k9 + 0) + 0)))))) ∧ (((xs (Int32.toNatClampNeg x3)) &&& 63) = 9 → vp_in (x3 + 1) L ∧ (jk S a1 = 10 ∧ (c9 + 0 ≤ 600000 ∧ k9 + 0 ≤ 7302250) ∧ ∃ d, jRok room_1 d ∧ jFi E mX10_seed d 0 0 [.ref a1, .int (xs (Int32.toNatClampNeg (x3 + 1)))] S (fun r111 S110 => (jk S110 a2 = 11 ∧ ((c9 + 0) + 0 ≤ 600000 ∧ (k9 + 0) + 0 ≤ 7302250) ∧ ∃ d, jRok room_1 d ∧ jFi E mX11_seed d 0 0 [.ref a2, .int (xs (Int32.toNatClampNeg (x3 + 1)))] S110 (fun r115 S114 => L_L_law_18 E nm L xs a0 a1 a2 (x3 + 6) S114 ((c9 + 0) + 0) ((k9 + 0) + 0)))))) ∧ (((xs (Int32.toNatClampNeg x3)) &&& 63) = 10 → vp_in (x3 + 1) L ∧ (jk S a1 = 10 ∧ (c9 + 0 ≤ 600000 ∧ k9 + 0 ≤ 7302250) ∧ ∃ d, jRok room_1 d ∧ jFi E mX10_apprentice d 0 0 [.ref a1, .int (xs (Int32.toNatClampNeg (x3 + 1)))] S (fun r121 S120 => (jk S120 a2 = 11 ∧ ((c9 + 0) + 0 ≤ 600000 ∧ (k9 + 0) + 0 ≤ 7302250) ∧ ∃ d, jRok room_1 d ∧ jFi E mX11_apprentice d 0 0 [.ref a2, .int (xs (Int32.toNatClampNeg (x3 + 1)))] S120 (fun r125 S124 => L_L_law_18 E nm L xs a0 a1 a2 (x3 + 6) S124 ((c9 + 0) + 0) ((k9 + 0) + 0)))))) ∧ (((xs (Int32.toNatClampNeg x3)) &&& 63) = 11 → vp_in (x3 + 1) L ∧ (vp_in (x3 + 2) L ∧ (jk S a1 = 10 ∧ (c9 + 0 ≤ 600000 ∧ k9 + 0 ≤ 7302250) ∧ ∃ d, jRok room_1 d ∧ jFi E mX10_has d 0 0 [.ref a1, .int (xs (Int32.toNatClampNeg (x3 + 1))), .int (xs (Int32.toNatClampNeg (x3 + 2)))] S (fun r132 S131 => ((jk S131 a2 = 11 ∧ ((c9 + 0) + 0 ≤ 600000 ∧ (k9 + 0) + 0 ≤ 7302250) ∧ ∃ d, jRok room_1 d ∧ jFi E mX11_has d 0 0 [.ref a2, .int (xs (Int32.toNatClampNeg (x3 + 1))), .int (xs (Int32.toNatClampNeg (x3 + 2)))] S131 (fun r136 S135 => L_L_law_18 E nm L xs a0 a1 a2 (x3 + 6) S135 ((c9 + 0) + 0) ((k9 + 0) + 0)))))))) ∧ (((xs (Int32.toNatClampNeg x3)) &&& 63) = 12 → vp_in (x3 + 1) L ∧ (vp_in (x3 + 2) L ∧ (jk S a1 = 10 ∧ (c9 + 0 ≤ 600000 ∧ k9 + 0 ≤ 7302250) ∧ ∃ d, jRok room_1 d ∧ jFi E mX10_knows d 0 0 [.ref a1, .int (xs (Int32.toNatClampNeg (x3 + 1))), .int (xs (Int32.toNatClampNeg (x3 + 2)))] S (fun r143 S142 => ((jk S142 a2 = 11 ∧ ((c9 + 0) + 0 ≤ 600000 ∧ (k9 + 0) + 0 ≤ 7302250) ∧ ∃ d, jRok room_1 d ∧ jFi E mX11_knows d 0 0 [.ref a2, .int (xs (Int32.toNatClampNeg (x3 + 1))), .int (xs (Int32.toNatClampNeg (x3 + 2)))] S142 (fun r147 S146 => L_L_law_18 E nm L xs a0 a1 a2 (x3 + 6) S146 ((c9 + 0) + 0) ((k9 + 0) + 0)))))))) ∧ (((xs (Int32.toNatClampNeg x3)) &&& 63) = 13 → vp_in (x3 + 1) L ∧ (jk S a1 = 10 ∧ (c9 + 0 ≤ 600000 ∧ k9 + 0 ≤ 7302250) ∧ ∃ d, jRok room_1 d ∧ jFi E mX10_go d 0 0 [.ref a1, .int (xs (Int32.toNatClampNeg (x3 + 1)))] S (fun r153 S152 => (jk S152 a2 = 11 ∧ ((c9 + 0) + 0 ≤ 600000 ∧ (k9 + 0) + 0 ≤ 7302250) ∧ ∃ d, jRok room_1 d ∧ jFi E mX11_go d 0 0 [.ref a2, .int (xs (Int32.toNatClampNeg (x3 + 1)))] S152 (fun r157 S156 => L_L_law_18 E nm L xs a0 a1 a2 (x3 + 6) S156 ((c9 + 0) + 0) ((k9 + 0) + 0)))))) ∧ (((xs (Int32.toNatClampNeg x3)) &&& 63) = 14 → vp_in (x3 + 1) L ∧ (jk S a1 = 10 ∧ (c9 + 0 ≤ 600000 ∧ k9 + 0 ≤ 7302250) ∧ ∃ d, jRok room_1 d ∧ jFi E mX10_learn d 0 0 [.ref a1, .int (xs (Int32.toNatClampNeg (x3 + 1)))] S (fun r163 S162 => (jk S162 a2 = 11 ∧ ((c9 + 0) + 0 ≤ 600000 ∧ (k9 + 0) + 0 ≤ 7302250) ∧ ∃ d, jRok room_1 d ∧ jFi E mX11_learn d 0 0 [.ref a2, .int (xs (Int32.toNatClampNeg (x3 + 1)))] S162 (fun r167 S166 => L_L_law_18 E nm L xs a0 a1 a2 (x3 + 6) S166 ((c9 + 0) + 0) ((k9 + 0) + 0)))))) ∧ (((xs (Int32.toNatClampNeg x3)) &&& 63) = 15 → vp_in (x3 + 1) L ∧ (jk S a1 = 10 ∧ (c9 + 0 ≤ 600000 ∧ k9 + 0 ≤ 7302250) ∧ ∃ d, jRok room_1 d ∧ jFi E mX10_use d 0 0 [.ref a1, .int (xs (Int32.toNatClampNeg (x3 + 1)))] S (fun r173 S172 => (jk S172 a2 = 11 ∧ ((c9 + 0) + 0 ≤ 600000 ∧ (k9 + 0) + 0 ≤ 7302250) ∧ ∃ d, jRok room_1 d ∧ jFi E mX11_use d 0 0 [.ref a2, .int (xs (Int32.toNatClampNeg (x3 + 1)))] S172 (fun r177 S176 => L_L_law_18 E nm L xs a0 a1 a2 (x3 + 6) S176 ((c9 + 0) + 0) ((k9 + 0) + 0)))))) ∧ (((xs (Int32.toNatClampNeg x3)) &&& 63) = 16 → vp_in (x3 + 1) L ∧ (jk S a1 = 10 ∧ (c9 + 0 ≤ 600000 ∧ k9 + 0 ≤ 7302250) ∧ ∃ d, jRok room_1 d ∧ jFi E mX10_rests d 0 0 [.ref a1, .int (xs (Int32.toNatClampNeg (x3 + 1)))] S (fun r183 S182 => (jk S182 a2 = 11 ∧ ((c9 + 0) + 0 ≤ 600000 ∧ (k9 + 0) + 0 ≤ 7302250) ∧ ∃ d, jRok room_1 d ∧ jFi E mX11_rests d 0 0 [.ref a2, .int (xs (Int32.toNatClampNeg (x3 + 1)))] S182 (fun r187 S186 => L_L_law_18 E nm L xs a0 a1 a2 (x3 + 6) S186 ((c9 + 0) + 0) ((k9 + 0) + 0)))))) ∧ (((xs (Int32.toNatClampNeg x3)) &&& 63) = 17 → vp_in (x3 + 1) L ∧ (jk S a1 = 10 ∧ (c9 + 0 ≤ 600000 ∧ k9 + 0 ≤ 7302250) ∧ ∃ d, jRok room_1 d ∧ jFi E mX10_wants d 0 0 [.ref a1, .int (xs (Int32.toNatClampNeg (x3 + 1)))] S (fun r193 S192 => (jk S192 a2 = 11 ∧ ((c9 + 0) + 0 ≤ 600000 ∧ (k9 + 0) + 0 ≤ 7302250) ∧ ∃ d, jRok room_1 d ∧ jFi E mX11_wants d 0 0 [.ref a2, .int (xs (Int32.toNatClampNeg (x3 + 1)))] S192 (fun r197 S196 => L_L_law_18 E nm L xs a0 a1 a2 (x3 + 6) S196 ((c9 + 0) + 0) ((k9 + 0) + 0)))))) ∧ (((xs (Int32.toNatClampNeg x3)) &&& 63) = 18 → jk S a1 = 10 ∧ (c9 + 0 ≤ 600000 ∧ k9 + 0 ≤ 7302250) ∧ ∃ d, jRok room_1 d ∧ jFi E mX10_clear d 0 0 [.ref a1] S (fun r202 S201 => jk S201 a2 = 11 ∧ ((c9 + 0) + 0 ≤ 600000 ∧ (k9 + 0) + 0 ≤ 7302250) ∧ ∃ d, jRok room_1 d ∧ jFi E mX11_clear d 0 0 [.ref a2] S201 (fun r206 S205 => L_L_law_18 E nm L xs a0 a1 a2 (x3 + 6) S205 ((c9 + 0) + 0) ((k9 + 0) + 0)))) ∧ (((xs (Int32.toNatClampNeg x3)) &&& 63) = 19 → jk S a1 = 10 ∧ (c9 + 0 ≤ 600000 ∧ k9 + 0 ≤ 7302250) ∧ ∃ d, jRok room_1 d ∧ jFi E mX10_made d 0 0 [.ref a1] S (fun r211 S210 => jk S210 a2 = 11 ∧ ((c9 + 0) + 0 ≤ 600000 ∧ (k9 + 0) + 0 ≤ 7302250) ∧ ∃ d, jRok room_1 d ∧ jFi E mX11_made d 0 0 [.ref a2] S210 (fun r215 S214 => L_L_law_18 E nm L xs a0 a1 a2 (x3 + 6) S214 ((c9 + 0) + 0) ((k9 + 0) + 0)))) ∧ (((xs (Int32.toNatClampNeg x3)) &&& 63) = 20 → vp_in (x3 + 1) L ∧ (jk S a1 = 10 ∧ (c9 + 0 ≤ 600000 ∧ k9 + 0 ≤ 7302250) ∧ ∃ d, jRok room_1 d ∧ jFi E mX10_soonest d 0 0 [.ref a1, .int (xs (Int32.toNatClampNeg (x3 + 1)))] S (fun r221 S220 => (jk S220 a2 = 11 ∧ ((c9 + 0) + 0 ≤ 600000 ∧ (k9 + 0) + 0 ≤ 7302250) ∧ ∃ d, jRok room_1 d ∧ jFi E mX11_soonest d 0 0 [.ref a2, .int (xs (Int32.toNatClampNeg (x3 + 1)))] S220 (fun r225 S224 => L_L_law_18 E nm L xs a0 a1 a2 (x3 + 6) S224 ((c9 + 0) + 0) ((k9 + 0) + 0)))))) ∧ (((xs (Int32.toNatClampNeg x3)) &&& 63) = 21 → vp_in (x3 + 1) L ∧ (jk S a1 = 10 ∧ (c9 + 0 ≤ 600000 ∧ k9 + 0 ≤ 7302250) ∧ ∃ d, jRok room_1 d ∧ jFi E mX10_together d 0 0 [.ref a1, .int (xs (Int32.toNatClampNeg (x3 + 1)))] S (fun r231 S230 => (jk S230 a2 = 11 ∧ ((c9 + 0) + 0 ≤ 600000 ∧ (k9 + 0) + 0 ≤ 7302250) ∧ ∃ d, jRok room_1 d ∧ jFi E mX11_together d 0 0 [.ref a2, .int (xs (Int32.toNatClampNeg (x3 + 1)))] S230 (fun r235 S234 => L_L_law_18 E nm L xs a0 a1 a2 (x3 + 6) S234 ((c9 + 0) + 0) ((k9 + 0) + 0)))))) ∧ (((xs (Int32.toNatClampNeg x3)) &&& 63) = 22 → jk S a1 = 10 ∧ (c9 + 0 ≤ 600000 ∧ k9 + 0 ≤ 7302250) ∧ ∃ d, jRok room_1 d ∧ jFi E mX10_never d 0 0 [.ref a1] S (fun r240 S239 => jk S239 a2 = 11 ∧ ((c9 + 0) + 0 ≤ 600000 ∧ (k9 + 0) + 0 ≤ 7302250) ∧ ∃ d, jRok room_1 d ∧ jFi E mX11_never d 0 0 [.ref a2] S239 (fun r244 S243 => L_L_law_18 E nm L xs a0 a1 a2 (x3 + 6) S243 ((c9 + 0) + 0) ((k9 + 0) + 0)))) ∧ (((xs (Int32.toNatClampNeg x3)) &&& 63) = 23 → vp_in (x3 + 1) L ∧ (jk S a1 = 10 ∧ (c9 + 0 ≤ 600000 ∧ k9 + 0 ≤ 7302250) ∧ ∃ d, jRok room_1 d ∧ jFi E mX10_last d 0 0 [.ref a1, .int (xs (Int32.toNatClampNeg (x3 + 1)))] S (fun r250 S249 => (jk S249 a2 = 11 ∧ ((c9 + 0) + 0 ≤ 600000 ∧ (k9 + 0) + 0 ≤ 7302250) ∧ ∃ d, jRok room_1 d ∧ jFi E mX11_last d 0 0 [.ref a2, .int (xs (Int32.toNatClampNeg (x3 + 1)))] S249 (fun r254 S253 => L_L_law_18 E nm L xs a0 a1 a2 (x3 + 6) S253 ((c9 + 0) + 0) ((k9 + 0) + 0)))))) ∧ (((xs (Int32.toNatClampNeg x3)) &&& 63) = 24 → vp_in (x3 + 1) L ∧ (jk S a1 = 10 ∧ (c9 + 0 ≤ 600000 ∧ k9 + 0 ≤ 7302250) ∧ ∃ d, jRok room_1 d ∧ jFi E mX10_years d 0 0 [.ref a1, .int (xs (Int32.toNatClampNeg (x3 + 1)))] S (fun r260 S259 => (jk S259 a2 = 11 ∧ ((c9 + 0) + 0 ≤ 600000 ∧ (k9 + 0) + 0 ≤ 7302250) ∧ ∃ d, jRok room_1 d ∧ jFi E mX11_years d 0 0 [.ref a2, .int (xs (Int32.toNatClampNeg (x3 + 1)))] S259 (fun r264 S263 => L_L_law_18 E nm L xs a0 a1 a2 (x3 + 6) S263 ((c9 + 0) + 0) ((k9 + 0) + 0)))))) ∧ (((xs (Int32.toNatClampNeg x3)) &&& 63) = 25 → vp_in (x3 + 1) L ∧ (jk S a1 = 10 ∧ (c9 + 0 ≤ 600000 ∧ k9 + 0 ≤ 7302250) ∧ ∃ d, jRok room_1 d ∧ jFi E mX10_gone d 0 0 [.ref a1, .int (xs (Int32.toNatClampNeg (x3 + 1)))] S (fun r270 S269 => (jk S269 a2 = 11 ∧ ((c9 + 0) + 0 ≤ 600000 ∧ (k9 + 0) + 0 ≤ 7302250) ∧ ∃ d, jRok room_1 d ∧ jFi E mX11_gone d 0 0 [.ref a2, .int (xs (Int32.toNatClampNeg (x3 + 1)))] S269 (fun r274 S273 => L_L_law_18 E nm L xs a0 a1 a2 (x3 + 6) S273 ((c9 + 0) + 0) ((k9 + 0) + 0)))))) ∧ (((xs (Int32.toNatClampNeg x3)) &&& 63) = 26 → jk S a1 = 10 ∧ (c9 + 0 ≤ 600000 ∧ k9 + 0 ≤ 7302250) ∧ ∃ d, jRok room_1 d ∧ jFi E mX10_fresh d 0 0 [.ref a1] S (fun r279 S278 => jk S278 a2 = 11 ∧ ((c9 + 0) + 0 ≤ 600000 ∧ (k9 + 0) + 0 ≤ 7302250) ∧ ∃ d, jRok room_1 d ∧ jFi E mX11_fresh d 0 0 [.ref a2] S278 (fun r283 S282 => L_L_law_18 E nm L xs a0 a1 a2 (x3 + 6) S282 ((c9 + 0) + 0) ((k9 + 0) + 0)))) ∧ (((xs (Int32.toNatClampNeg x3)) &&& 63) = 27 → vp_in (x3 + 1) L ∧ (vp_in (x3 + 2) L ∧ (jk S a1 = 10 ∧ (c9 + 0 ≤ 600000 ∧ k9 + 0 ≤ 7302250) ∧ ∃ d, jRok room_1 d ∧ jFi E mX10_cut d 0 0 [.ref a1, .int (xs (Int32.toNatClampNeg (x3 + 1))), .int (xs (Int32.toNatClampNeg (x3 + 2)))] S (fun r290 S289 => ((jk S289 a2 = 11 ∧ ((c9 + 0) + 0 ≤ 600000 ∧ (k9 + 0) + 0 ≤ 7302250) ∧ ∃ d, jRok room_1 d ∧ jFi E mX11_cut d 0 0 [.ref a2, .int (xs (Int32.toNatClampNeg (x3 + 1))), .int (xs (Int32.toNatClampNeg (x3 + 2)))] S289 (fun r294 S293 => L_L_law_18 E nm L xs a0 a1 a2 (x3 + 6) S293 ((c9 + 0) + 0) ((k9 + 0) + 0)))))))) ∧ (((xs (Int32.toNatClampNeg x3)) &&& 63) = 28 → vp_in (x3 + 1) L ∧ (jk S a1 = 10 ∧ (c9 + 0 ≤ 600000 ∧ k9 + 0 ≤ 7302250) ∧ ∃ d, jRok room_1 d ∧ jFi E mX10_fame d 0 0 [.ref a1, .int (xs (Int32.toNatClampNeg (x3 + 1)))] S (fun r300 S299 => (jk S299 a2 = 11 ∧ ((c9 + 0) + 0 ≤ 600000 ∧ (k9 + 0) + 0 ≤ 7302250) ∧ ∃ d, jRok room_1 d ∧ jFi E mX11_fame d 0 0 [.ref a2, .int (xs (Int32.toNatClampNeg (x3 + 1)))] S299 (fun r304 S303 => L_L_law_18 E nm L xs a0 a1 a2 (x3 + 6) S303 ((c9 + 0) + 0) ((k9 + 0) + 0)))))) ∧ (((xs (Int32.toNatClampNeg x3)) &&& 63) = 29 → jk S a1 = 10 ∧ (c9 + 0 ≤ 600000 ∧ k9 + 0 ≤ 7302250) ∧ ∃ d, jRok room_1 d ∧ jFi E mX10_fine d 0 0 [.ref a1] S (fun r309 S308 => jk S308 a2 = 11 ∧ ((c9 + 0) + 0 ≤ 600000 ∧ (k9 + 0) + 0 ≤ 7302250) ∧ ∃ d, jRok room_1 d ∧ jFi E mX11_fine d 0 0 [.ref a2] S308 (fun r313 S312 => L_L_law_18 E nm L xs a0 a1 a2 (x3 + 6) S312 ((c9 + 0) + 0) ((k9 + 0) + 0)))) ∧ (((xs (Int32.toNatClampNeg x3)) &&& 63) = 30 → vp_in (x3 + 1) L ∧ (vp_in (x3 + 2) L ∧ (vp_in (x3 + 3) L ∧ (jk S a1 = 10 ∧ (c9 + 0 ≤ 600000 ∧ k9 + 0 ≤ 7302250) ∧ ∃ d, jRok room_1 d ∧ jFi E mX10_feed d 0 0 [.ref a1, .int (xs (Int32.toNatClampNeg (x3 + 1))), .int (xs (Int32.toNatClampNeg (x3 + 2))), .int (xs (Int32.toNatClampNeg (x3 + 3)))] S (fun r321 S320 => (((jk S320 a2 = 11 ∧ ((c9 + 0) + 0 ≤ 600000 ∧ (k9 + 0) + 0 ≤ 7302250) ∧ ∃ d, jRok room_1 d ∧ jFi E mX11_feed d 0 0 [.ref a2, .int (xs (Int32.toNatClampNeg (x3 + 1))), .int (xs (Int32.toNatClampNeg (x3 + 2))), .int (xs (Int32.toNatClampNeg (x3 + 3)))] S320 (fun r325 S324 => L_L_law_18 E nm L xs a0 a1 a2 (x3 + 6) S324 ((c9 + 0) + 0) ((k9 + 0) + 0)))))))))) ∧ (((xs (Int32.toNatClampNeg x3)) &&& 63) = 31 → vp_in (x3 + 1) L ∧ (jk S a1 = 10 ∧ (c9 + 0 ≤ 600000 ∧ k9 + 0 ≤ 7302250) ∧ ∃ d, jRok room_1 d ∧ jFi E mX10_trim d 0 0 [.ref a1, .int (xs (Int32.toNatClampNeg (x3 + 1)))] S (fun r331 S330 => (jk S330 a2 = 11 ∧ ((c9 + 0) + 0 ≤ 600000 ∧ (k9 + 0) + 0 ≤ 7302250) ∧ ∃ d, jRok room_1 d ∧ jFi E mX11_trim d 0 0 [.ref a2, .int (xs (Int32.toNatClampNeg (x3 + 1)))] S330 (fun r335 S334 => L_L_law_18 E nm L xs a0 a1 a2 (x3 + 6) S334 ((c9 + 0) + 0) ((k9 + 0) + 0)))))) ∧ (((xs (Int32.toNatClampNeg x3)) &&& 63) = 32 → jk S a1 = 10 ∧ (c9 + 3 ≤ 600000 ∧ k9 + 196 ≤ 7302250) ∧ ∃ d, jRok room_1 d ∧ jFi E mX10_text d 3 196 [.ref a1] S (fun r340 S339 => jk S339 a2 = 11 ∧ ((c9 + 3) + 0 ≤ 600000 ∧ (k9 + 196) + 0 ≤ 7302250) ∧ ∃ d, jRok room_1 d ∧ jFi E mX11_text d 0 0 [.ref a2] S339 (fun r344 S343 => L_L_law_18 E nm L xs a0 a1 a2 (x3 + 6) S343 ((c9 + 3) + 0) ((k9 + 196) + 0)))) ∧ (((xs (Int32.toNatClampNeg x3)) &&& 63) = 33 → vp_in (x3 + 1) L ∧ (vp_in (x3 + 2) L ∧ (jk S a1 = 10 ∧ (c9 + 0 ≤ 600000 ∧ k9 + 0 ≤ 7302250) ∧ ∃ d, jRok room_1 d ∧ jFi E mX10_textTold d 0 0 [.ref a1, .int (xs (Int32.toNatClampNeg (x3 + 1))), .int (xs (Int32.toNatClampNeg (x3 + 2)))] S (fun r351 S350 => ((jk S350 a2 = 11 ∧ ((c9 + 0) + 0 ≤ 600000 ∧ (k9 + 0) + 0 ≤ 7302250) ∧ ∃ d, jRok room_1 d ∧ jFi E mX11_textTold d 0 0 [.ref a2, .int (xs (Int32.toNatClampNeg (x3 + 1))), .int (xs (Int32.toNatClampNeg (x3 + 2)))] S350 (fun r355 S354 => L_L_law_18 E nm L xs a0 a1 a2 (x3 + 6) S354 ((c9 + 0) + 0) ((k9 + 0) + 0)))))))) ∧ (((xs (Int32.toNatClampNeg x3)) &&& 63) = 34 → vp_in (x3 + 1) L ∧ (jk S a1 = 10 ∧ (c9 + 0 ≤ 600000 ∧ k9 + 0 ≤ 7302250) ∧ ∃ d, jRok room_1 d ∧ jFi E mX10_why d 0 0 [.ref a1, .int (xs (Int32.toNatClampNeg (x3 + 1)))] S (fun r361 S360 => (jk S360 a2 = 11 ∧ ((c9 + 0) + 0 ≤ 600000 ∧ (k9 + 0) + 0 ≤ 7302250) ∧ ∃ d, jRok room_1 d ∧ jFi E mX11_why d 0 0 [.ref a2, .int (xs (Int32.toNatClampNeg (x3 + 1)))] S360 (fun r365 S364 => L_L_law_18 E nm L xs a0 a1 a2 (x3 + 6) S364 ((c9 + 0) + 0) ((k9 + 0) + 0)))))) ∧ (((xs (Int32.toNatClampNeg x3)) &&& 63) = 35 → vp_in (x3 + 1) L ∧ (vp_in (x3 + 2) L ∧ (vp_in (x3 + 3) L ∧ (jk S a1 = 10 ∧ (c9 + 0 ≤ 600000 ∧ k9 + 0 ≤ 7302250) ∧ ∃ d, jRok room_1 d ∧ jFi E mX10_sheet d 0 0 [.ref a1, .int (xs (Int32.toNatClampNeg (x3 + 1))), .int (xs (Int32.toNatClampNeg (x3 + 2))), .int (xs (Int32.toNatClampNeg (x3 + 3)))] S (fun r373 S372 => (((jk S372 a2 = 11 ∧ ((c9 + 0) + 0 ≤ 600000 ∧ (k9 + 0) + 0 ≤ 7302250) ∧ ∃ d, jRok room_1 d ∧ jFi E mX11_sheet d 0 0 [.ref a2, .int (xs (Int32.toNatClampNeg (x3 + 1))), .int (xs (Int32.toNatClampNeg (x3 + 2))), .int (xs (Int32.toNatClampNeg (x3 + 3)))] S372 (fun r377 S376 => L_L_law_18 E nm L xs a0 a1 a2 (x3 + 6) S376 ((c9 + 0) + 0) ((k9 + 0) + 0)))))))))) ∧ (((xs (Int32.toNatClampNeg x3)) &&& 63) = 36 → vp_in (x3 + 1) L ∧ (vp_in (x3 + 2) L ∧ (vp_in (x3 + 3) L ∧ (jk S a1 = 10 ∧ (c9 + 0 ≤ 600000 ∧ k9 + 0 ≤ 7302250) ∧ ∃ d, jRok room_1 d ∧ jFi E mX10_mark d 0 0 [.ref a1, .int (xs (Int32.toNatClampNeg (x3 + 1))), .int (xs (Int32.toNatClampNeg (x3 + 2))), .int (xs (Int32.toNatClampNeg (x3 + 3)))] S (fun r385 S384 => (((jk S384 a2 = 11 ∧ ((c9 + 0) + 0 ≤ 600000 ∧ (k9 + 0) + 0 ≤ 7302250) ∧ ∃ d, jRok room_1 d ∧ jFi E mX11_mark d 0 0 [.ref a2, .int (xs (Int32.toNatClampNeg (x3 + 1))), .int (xs (Int32.toNatClampNeg (x3 + 2))), .int (xs (Int32.toNatClampNeg (x3 + 3)))] S384 (fun r389 S388 => L_L_law_18 E nm L xs a0 a1 a2 (x3 + 6) S388 ((c9 + 0) + 0) ((k9 + 0) + 0)))))))))) ∧ (((xs (Int32.toNatClampNeg x3)) &&& 63) = 37 → vp_in (x3 + 1) L ∧ (jk S a1 = 10 ∧ (c9 + 0 ≤ 600000 ∧ k9 + 0 ≤ 7302250) ∧ ∃ d, jRok room_1 d ∧ jFi E mX10_pour d 0 0 [.ref a1, .int (xs (Int32.toNatClampNeg (x3 + 1)))] S (fun r395 S394 => (jk S394 a2 = 11 ∧ ((c9 + 0) + 0 ≤ 600000 ∧ (k9 + 0) + 0 ≤ 7302250) ∧ ∃ d, jRok room_1 d ∧ jFi E mX11_pour d 0 0 [.ref a2, .int (xs (Int32.toNatClampNeg (x3 + 1)))] S394 (fun r399 S398 => L_L_law_18 E nm L xs a0 a1 a2 (x3 + 6) S398 ((c9 + 0) + 0) ((k9 + 0) + 0)))))) ∧ (((xs (Int32.toNatClampNeg x3)) &&& 63) = 38 → vp_in (x3 + 1) L ∧ (jk S a1 = 10 ∧ (c9 + 0 ≤ 600000 ∧ k9 + 0 ≤ 7302250) ∧ ∃ d, jRok room_1 d ∧ jFi E mX10_reads d 0 0 [.ref a1, .int (xs (Int32.toNatClampNeg (x3 + 1)))] S (fun r405 S404 => (jk S404 a2 = 11 ∧ ((c9 + 0) + 0 ≤ 600000 ∧ (k9 + 0) + 0 ≤ 7302250) ∧ ∃ d, jRok room_1 d ∧ jFi E mX11_reads d 0 0 [.ref a2, .int (xs (Int32.toNatClampNeg (x3 + 1)))] S404 (fun r409 S408 => L_L_law_18 E nm L xs a0 a1 a2 (x3 + 6) S408 ((c9 + 0) + 0) ((k9 + 0) + 0)))))) ∧ (((xs (Int32.toNatClampNeg x3)) &&& 63) = 39 → vp_in (x3 + 1) L ∧ (vp_in (x3 + 2) L ∧ (vp_in (x3 + 3) L ∧ (vp_in (x3 + 4) L ∧ (vp_in (x3 + 5) L ∧ (jk S a1 = 10 ∧ (c9 + 0 ≤ 600000 ∧ k9 + 0 ≤ 7302250) ∧ ∃ d, jRok room_1 d ∧ jFi E mX10_copy d 0 0 [.ref a1, .int (xs (Int32.toNatClampNeg (x3 + 1))), .int (xs (Int32.toNatClampNeg (x3 + 2))), .int (xs (Int32.toNatClampNeg (x3 + 3))), .int (xs (Int32.toNatClampNeg (x3 + 4))), .int (xs (Int32.toNatClampNeg (x3 + 5)))] S (fun r419 S418 => (((((jk S418 a2 = 11 ∧ ((c9 + 0) + 0 ≤ 600000 ∧ (k9 + 0) + 0 ≤ 7302250) ∧ ∃ d, jRok room_1 d ∧ jFi E mX11_copy d 0 0 [.ref a2, .int (xs (Int32.toNatClampNeg (x3 + 1))), .int (xs (Int32.toNatClampNeg (x3 + 2))), .int (xs (Int32.toNatClampNeg (x3 + 3))), .int (xs (Int32.toNatClampNeg (x3 + 4))), .int (xs (Int32.toNatClampNeg (x3 + 5)))] S418 (fun r423 S422 => L_L_law_18 E nm L xs a0 a1 a2 (x3 + 6) S422 ((c9 + 0) + 0) ((k9 + 0) + 0)))))))))))))) ∧ (((xs (Int32.toNatClampNeg x3)) &&& 63) = 40 → vp_in (x3 + 1) L ∧ (vp_in (x3 + 2) L ∧ (vp_in (x3 + 3) L ∧ (jk S a1 = 10 ∧ (c9 + 0 ≤ 600000 ∧ k9 + 0 ≤ 7302250) ∧ ∃ d, jRok room_1 d ∧ jFi E mX10_lay d 0 0 [.ref a1, .int (xs (Int32.toNatClampNeg (x3 + 1))), .int (xs (Int32.toNatClampNeg (x3 + 2))), .int (xs (Int32.toNatClampNeg (x3 + 3)))] S (fun r431 S430 => (((jk S430 a2 = 11 ∧ ((c9 + 0) + 0 ≤ 600000 ∧ (k9 + 0) + 0 ≤ 7302250) ∧ ∃ d, jRok room_1 d ∧ jFi E mX11_lay d 0 0 [.ref a2, .int (xs (Int32.toNatClampNeg (x3 + 1))), .int (xs (Int32.toNatClampNeg (x3 + 2))), .int (xs (Int32.toNatClampNeg (x3 + 3)))] S430 (fun r435 S434 => L_L_law_18 E nm L xs a0 a1 a2 (x3 + 6) S434 ((c9 + 0) + 0) ((k9 + 0) + 0)))))))))) ∧ (((xs (Int32.toNatClampNeg x3)) &&& 63) = 41 → vp_in (x3 + 1) L ∧ (vp_in (x3 + 2) L ∧ (jk S a1 = 10 ∧ (c9 + 0 ≤ 600000 ∧ k9 + 0 ≤ 7302250) ∧ ∃ d, jRok room_1 d ∧ jFi E mX10_ask d 0 0 [.ref a1, .int (xs (Int32.toNatClampNeg (x3 + 1))), .int (xs (Int32.toNatClampNeg (x3 + 2)))] S (fun r442 S441 => ((jk S441 a2 = 11 ∧ ((c9 + 0) + 0 ≤ 600000 ∧ (k9 + 0) + 0 ≤ 7302250) ∧ ∃ d, jRok room_1 d ∧ jFi E mX11_ask d 0 0 [.ref a2, .int (xs (Int32.toNatClampNeg (x3 + 1))), .int (xs (Int32.toNatClampNeg (x3 + 2)))] S441 (fun r446 S445 => L_L_law_18 E nm L xs a0 a1 a2 (x3 + 6) S445 ((c9 + 0) + 0) ((k9 + 0) + 0)))))))) ∧ (((xs (Int32.toNatClampNeg x3)) &&& 63) = 42 → vp_in (x3 + 1) L ∧ (vp_in (x3 + 2) L ∧ (jk S a1 = 10 ∧ (c9 + 0 ≤ 600000 ∧ k9 + 0 ≤ 7302250) ∧ ∃ d, jRok room_1 d ∧ jFi E mX10_item d 0 0 [.ref a1, .int (xs (Int32.toNatClampNeg (x3 + 1))), .int (xs (Int32.toNatClampNeg (x3 + 2)))] S (fun r453 S452 => ((jk S452 a2 = 11 ∧ ((c9 + 0) + 0 ≤ 600000 ∧ (k9 + 0) + 0 ≤ 7302250) ∧ ∃ d, jRok room_1 d ∧ jFi E mX11_item d 0 0 [.ref a2, .int (xs (Int32.toNatClampNeg (x3 + 1))), .int (xs (Int32.toNatClampNeg (x3 + 2)))] S452 (fun r457 S456 => L_L_law_18 E nm L xs a0 a1 a2 (x3 + 6) S456 ((c9 + 0) + 0) ((k9 + 0) + 0)))))))) ∧ (((xs (Int32.toNatClampNeg x3)) &&& 63) = 43 → vp_in (x3 + 1) L ∧ (vp_in (x3 + 2) L ∧ (jk S a1 = 10 ∧ (c9 + 0 ≤ 600000 ∧ k9 + 0 ≤ 7302250) ∧ ∃ d, jRok room_1 d ∧ jFi E mX10_rest d 0 0 [.ref a1, .int (xs (Int32.toNatClampNeg (x3 + 1))), .int (xs (Int32.toNatClampNeg (x3 + 2)))] S (fun r464 S463 => ((jk S463 a2 = 11 ∧ ((c9 + 0) + 0 ≤ 600000 ∧ (k9 + 0) + 0 ≤ 7302250) ∧ ∃ d, jRok room_1 d ∧ jFi E mX11_rest d 0 0 [.ref a2, .int (xs (Int32.toNatClampNeg (x3 + 1))), .int (xs (Int32.toNatClampNeg (x3 + 2)))] S463 (fun r468 S467 => L_L_law_18 E nm L xs a0 a1 a2 (x3 + 6) S467 ((c9 + 0) + 0) ((k9 + 0) + 0)))))))) ∧ (((xs (Int32.toNatClampNeg x3)) &&& 63) = 44 → vp_in (x3 + 1) L ∧ (jk S a1 = 10 ∧ (c9 + 0 ≤ 600000 ∧ k9 + 0 ≤ 7302250) ∧ ∃ d, jRok room_1 d ∧ jFi E mX10_tell d 0 0 [.ref a1, .int (xs (Int32.toNatClampNeg (x3 + 1)))] S (fun r474 S473 => (jk S473 a2 = 11 ∧ ((c9 + 0) + 0 ≤ 600000 ∧ (k9 + 0) + 0 ≤ 7302250) ∧ ∃ d, jRok room_1 d ∧ jFi E mX11_tell d 0 0 [.ref a2, .int (xs (Int32.toNatClampNeg (x3 + 1)))] S473 (fun r478 S477 => L_L_law_18 E nm L xs a0 a1 a2 (x3 + 6) S477 ((c9 + 0) + 0) ((k9 + 0) + 0)))))) ∧ (((xs (Int32.toNatClampNeg x3)) &&& 63) = 45 → vp_in (x3 + 1) L ∧ (jk S a1 = 10 ∧ (c9 + 0 ≤ 600000 ∧ k9 + 0 ≤ 7302250) ∧ ∃ d, jRok room_1 d ∧ jFi E mX10_check d 0 0 [.ref a1, .int (xs (Int32.toNatClampNeg (x3 + 1)))] S (fun r484 S483 => (jk S483 a2 = 11 ∧ ((c9 + 0) + 0 ≤ 600000 ∧ (k9 + 0) + 0 ≤ 7302250) ∧ ∃ d, jRok room_1 d ∧ jFi E mX11_check d 0 0 [.ref a2, .int (xs (Int32.toNatClampNeg (x3 + 1)))] S483 (fun r488 S487 => L_L_law_18 E nm L xs a0 a1 a2 (x3 + 6) S487 ((c9 + 0) + 0) ((k9 + 0) + 0)))))) ∧ (((xs (Int32.toNatClampNeg x3)) &&& 63) = 46 → jk S a1 = 10 ∧ (c9 + 0 ≤ 600000 ∧ k9 + 0 ≤ 7302250) ∧ ∃ d, jRok room_1 d ∧ jFi E mX10_keep d 0 0 [.ref a1] S (fun r493 S492 => jk S492 a2 = 11 ∧ ((c9 + 0) + 0 ≤ 600000 ∧ (k9 + 0) + 0 ≤ 7302250) ∧ ∃ d, jRok room_1 d ∧ jFi E mX11_keep d 0 0 [.ref a2] S492 (fun r497 S496 => L_L_law_18 E nm L xs a0 a1 a2 (x3 + 6) S496 ((c9 + 0) + 0) ((k9 + 0) + 0)))) ∧ (((xs (Int32.toNatClampNeg x3)) &&& 63) = 47 → jk S a1 = 10 ∧ (c9 + 0 ≤ 600000 ∧ k9 + 0 ≤ 7302250) ∧ ∃ d, jRok room_1 d ∧ jFi E mX10_back d 0 0 [.ref a1] S (fun r502 S501 => jk S501 a2 = 11 ∧ ((c9 + 0) + 0 ≤ 600000 ∧ (k9 + 0) + 0 ≤ 7302250) ∧ ∃ d, jRok room_1 d ∧ jFi E mX11_back d 0 0 [.ref a2] S501 (fun r506 S505 => L_L_law_18 E nm L xs a0 a1 a2 (x3 + 6) S505 ((c9 + 0) + 0) ((k9 + 0) + 0)))) ∧ (((xs (Int32.toNatClampNeg x3)) &&& 63) = 48 → vp_in (x3 + 1) L ∧ (jk S a1 = 10 ∧ (c9 + 0 ≤ 600000 ∧ k9 + 0 ≤ 7302250) ∧ ∃ d, jRok room_1 d ∧ jFi E mX10_count d 0 0 [.ref a1, .int (xs (Int32.toNatClampNeg (x3 + 1)))] S (fun r512 S511 => (jk S511 a2 = 11 ∧ ((c9 + 0) + 0 ≤ 600000 ∧ (k9 + 0) + 0 ≤ 7302250) ∧ ∃ d, jRok room_1 d ∧ jFi E mX11_count d 0 0 [.ref a2, .int (xs (Int32.toNatClampNeg (x3 + 1)))] S511 (fun r516 S515 => (r512 = r516 → L_L_law_18 E nm L xs a0 a1 a2 (x3 + 6) S515 ((c9 + 0) + 0) ((k9 + 0) + 0)) ∧ (¬ r512 = r516 → False)))))) ∧ (¬ ((xs (Int32.toNatClampNeg x3)) &&& 63) = 0 → ¬ ((xs (Int32.toNatClampNeg x3)) &&& 63) = 1 → ¬ ((xs (Int32.toNatClampNeg x3)) &&& 63) = 2 → ¬ ((xs (Int32.toNatClampNeg x3)) &&& 63) = 3 → ¬ ((xs (Int32.toNatClampNeg x3)) &&& 63) = 4 → ¬ ((xs (Int32.toNatClampNeg x3)) &&& 63) = 5 → ¬ ((xs (Int32.toNatClampNeg x3)) &&& 63) = 6 → ¬ ((xs (Int32.toNatClampNeg x3)) &&& 63) = 7 → ¬ ((xs (Int32.toNatClampNeg x3)) &&& 63) = 8 → ¬ ((xs (Int32.toNatClampNeg x3)) &&& 63) = 9 → ¬ ((xs (Int32.toNatClampNeg x3)) &&& 63) = 10 → ¬ ((xs (Int32.toNatClampNeg x3)) &&& 63) = 11 → ¬ ((xs (Int32.toNatClampNeg x3)) &&& 63) = 12 → ¬ ((xs (Int32.toNatClampNeg x3)) &&& 63) = 13 → ¬ ((xs (Int32.toNatClampNeg x3)) &&& 63) = 14 → ¬ ((xs (Int32.toNatClampNeg x3)) &&& 63) = 15 → ¬ ((xs (Int32.toNatClampNeg x3)) &&& 63) = 16 → ¬ ((xs (Int32.toNatClampNeg x3)) &&& 63) = 17 → ¬ ((xs (Int32.toNatClampNeg x3)) &&& 63) = 18 → ¬ ((xs (Int32.toNatClampNeg x3)) &&& 63) = 19 → ¬ ((xs (Int32.toNatClampNeg x3)) &&& 63) = 20 → ¬ ((xs (Int32.toNatClampNeg x3)) &&& 63) = 21 → ¬ ((xs (Int32.toNatClampNeg x3)) &&& 63) = 22 → ¬ ((xs (Int32.toNatClampNeg x3)) &&& 63) = 23 → ¬ ((xs (Int32.toNatClampNeg x3)) &&& 63) = 24 → ¬ ((xs (Int32.toNatClampNeg x3)) &&& 63) = 25 → ¬ ((xs (Int32.toNatClampNeg x3)) &&& 63) = 26 → ¬ ((xs (Int32.toNatClampNeg x3)) &&& 63) = 27 → ¬ ((xs (Int32.toNatClampNeg x3)) &&& 63) = 28 → ¬ ((xs (Int32.toNatClampNeg x3)) &&& 63) = 29 → ¬ ((xs (Int32.toNatClampNeg x3)) &&& 63) = 30 → ¬ ((xs (Int32.toNatClampNeg x3)) &&& 63) = 31 → ¬ ((xs (Int32.toNatClampNeg x3)) &&& 63) = 32 → ¬ ((xs (Int32.toNatClampNeg x3)) &&& 63) = 33 → ¬ ((xs (Int32.toNatClampNeg x3)) &&& 63) = 34 → ¬ ((xs (Int32.toNatClampNeg x3)) &&& 63) = 35 → ¬ ((xs (Int32.toNatClampNeg x3)) &&& 63) = 36 → ¬ ((xs (Int32.toNatClampNeg x3)) &&& 63) = 37 → ¬ ((xs (Int32.toNatClampNeg x3)) &&& 63) = 38 → ¬ ((xs (Int32.toNatClampNeg x3)) &&& 63) = 39 → ¬ ((xs (Int32.toNatClampNeg x3)) &&& 63) = 40 → ¬ ((xs (Int32.toNatClampNeg x3)) &&& 63) = 41 → ¬ ((xs (Int32.toNatClampNeg x3)) &&& 63) = 42 → ¬ ((xs (Int32.toNatClampNeg x3)) &&& 63) = 43 → ¬ ((xs (Int32.toNatClampNeg x3)) &&& 63) = 44 → ¬ ((xs (Int32.toNatClampNeg x3)) &&& 63) = 45 → ¬ ((xs (Int32.toNatClampNeg x3)) &&& 63) = 46 → ¬ ((xs (Int32.toNatClampNeg x3)) &&& 63) = 47 → ¬ ((xs (Int32.toNatClampNeg x3)) &&& 63) = 48 → L_L_law_18 E nm L xs a0 a1 a2 (x3 + 6) S c9 k9)))) : L_L_law_18 E nm L xs a0 a1 a2 x3 S c9 k9 := by
  show jX E (mLw nm) room_1 (jZL E a0 L xs) 18 [(0, .ref a0), (1, .ref a1), (2, .ref a2), (3, .int x3)] [] S c9 k9
  refine jx_iload_n 3 kd1094.2.1 rfl rfl ?_
  refine jx_aload_n 0 kd1094.2.2.1 rfl rfl ?_
  refine jx_slen kd1094.2.2.2.1 ?_
  refine jx_bipush (v := 6) kd1094.2.2.2.2.1 (by decide) ?_
  refine jx_isub kd1094.2.2.2.2.2.1 ?_
  refine jx_icmp_gt (tgt := 1617) kd1094.2.2.2.2.2.2.1 (by decide) (fun c1 => ?_) (fun c1 => ?_)
  · replace h := h.1 c1
    refine jx_iconst (v := 1) kd1214.2.2.2.2.2.2.2.2.1 (by decide) ?_
    exact jx_lawEnd kd1215.1 h.1 h.2
  replace h := h.2 c1
  refine jx_aload_n 0 kd1094.2.2.2.2.2.2.2.1 rfl rfl ?_
  refine jx_iload_n 3 kd1094.2.2.2.2.2.2.2.2.1 rfl rfl ?_
  obtain ⟨hi2, h⟩ := h
  refine jx_sld kd1095.1 hi2 ?_
  refine jx_bipush (v := 63) kd1095.2.1 (by decide) ?_
  refine jx_iand kd1095.2.2.1 ?_
  by_cases c3 : ((xs (Int32.toNatClampNeg x3)) &&& 63) = 0
  · replace h := h.1 c3
    refine jx_tableIn (v := 0) (tgt := 244) (off := 211) kd1095.2.2.2.1 c3 (by decide) (by decide) (by decide) (by decide) ?_
    refine jx_aload_n 1 kd1095.2.2.2.2.1 rfl rfl ?_
    refine jx_aload_n 0 kd1095.2.2.2.2.2.1 rfl rfl ?_
    refine jx_iload_n 3 kd1095.2.2.2.2.2.2.1 rfl rfl ?_
    refine jx_iconst (v := 1) kd1095.2.2.2.2.2.2.2.1 (by decide) ?_
    refine jx_iadd kd1095.2.2.2.2.2.2.2.2.1 ?_
    obtain ⟨hi4, h⟩ := h
    refine jx_sld kd1096.1 hi4 ?_
    refine jx_aload_n 0 kd1096.2.1 rfl rfl ?_
    refine jx_iload_n 3 kd1096.2.2.1 rfl rfl ?_
    refine jx_iconst (v := 2) kd1096.2.2.2.1 (by decide) ?_
    refine jx_iadd kd1096.2.2.2.2.1 ?_
    obtain ⟨hi5, h⟩ := h
    refine jx_sld kd1096.2.2.2.2.2.1 hi5 ?_
    refine jx_aload_n 0 kd1096.2.2.2.2.2.2.1 rfl rfl ?_
    refine jx_iload_n 3 kd1096.2.2.2.2.2.2.2.1 rfl rfl ?_
    refine jx_iconst (v := 3) kd1096.2.2.2.2.2.2.2.2.1 (by decide) ?_
    refine jx_iadd kd1097.1 ?_
    obtain ⟨hi6, h⟩ := h
    refine jx_sld kd1097.2.1 hi6 ?_
    refine jx_aload_n 0 kd1097.2.2.1 rfl rfl ?_
    refine jx_iload_n 3 kd1097.2.2.2.1 rfl rfl ?_
    refine jx_iconst (v := 4) kd1097.2.2.2.2.1 (by decide) ?_
    refine jx_iadd kd1097.2.2.2.2.2.1 ?_
    obtain ⟨hi7, h⟩ := h
    refine jx_sld kd1097.2.2.2.2.2.2.1 hi7 ?_
    obtain ⟨hk8, h⟩ := h
    obtain ⟨hm9, h⟩ := h
    obtain ⟨d, hR, h⟩ := h
    refine jx_callVi (M' := mX10_master) (As := [.int (xs (Int32.toNatClampNeg (x3 + 1))), .int (xs (Int32.toNatClampNeg (x3 + 2))), .int (xs (Int32.toNatClampNeg (x3 + 3))), .int (xs (Int32.toNatClampNeg (x3 + 4)))]) jo_X10_master jc_10 rfl jwM_L_13 jwN_X10_master jwX_X10_master kd1097.2.2.2.2.2.2.2.1 hR rfl (jle rfl) hm9 hk8 h (fun r11 S10 h => ?_)
    refine jx_pop kd1097.2.2.2.2.2.2.2.2.1 rfl ?_
    refine jx_aload_n 2 kd1098.1 rfl rfl ?_
    refine jx_aload_n 0 kd1098.2.1 rfl rfl ?_
    refine jx_iload_n 3 kd1098.2.2.1 rfl rfl ?_
    refine jx_iconst (v := 1) kd1098.2.2.2.1 (by decide) ?_
    refine jx_iadd kd1098.2.2.2.2.1 ?_
    refine jx_sld kd1098.2.2.2.2.2.1 hi4 ?_
    refine jx_aload_n 0 kd1098.2.2.2.2.2.2.1 rfl rfl ?_
    refine jx_iload_n 3 kd1098.2.2.2.2.2.2.2.1 rfl rfl ?_
    refine jx_iconst (v := 2) kd1098.2.2.2.2.2.2.2.2.1 (by decide) ?_
    refine jx_iadd kd1099.1 ?_
    refine jx_sld kd1099.2.1 hi5 ?_
    refine jx_aload_n 0 kd1099.2.2.1 rfl rfl ?_
    refine jx_iload_n 3 kd1099.2.2.2.1 rfl rfl ?_
    refine jx_iconst (v := 3) kd1099.2.2.2.2.1 (by decide) ?_
    refine jx_iadd kd1099.2.2.2.2.2.1 ?_
    refine jx_sld kd1099.2.2.2.2.2.2.1 hi6 ?_
    refine jx_aload_n 0 kd1099.2.2.2.2.2.2.2.1 rfl rfl ?_
    refine jx_iload_n 3 kd1099.2.2.2.2.2.2.2.2.1 rfl rfl ?_
    refine jx_iconst (v := 4) kd1100.1 (by decide) ?_
    refine jx_iadd kd1100.2.1 ?_
    refine jx_sld kd1100.2.2.1 hi7 ?_
    obtain ⟨hk12, h⟩ := h
    obtain ⟨hm13, h⟩ := h
    obtain ⟨d, hR, h⟩ := h
    refine jx_callVi (M' := mX11_master) (As := [.int (xs (Int32.toNatClampNeg (x3 + 1))), .int (xs (Int32.toNatClampNeg (x3 + 2))), .int (xs (Int32.toNatClampNeg (x3 + 3))), .int (xs (Int32.toNatClampNeg (x3 + 4)))]) jo_X11_master jc_11 rfl jwM_L_17 jwN_X11_master jwX_X11_master kd1100.2.2.2.1 hR rfl (jle rfl) hm13 hk12 h (fun r15 S14 h => ?_)
    refine jx_pop kd1100.2.2.2.2.1 rfl ?_
    refine jx_goto (tgt := 1611) kd1100.2.2.2.2.2.1 (by decide) ?_
    refine jx_iinc 3 (v := (x3 + 6)) (lv1 := [(3, .int (x3 + 6)), (0, .ref a0), (1, .ref a1), (2, .ref a2)]) kd1214.2.2.2.2.2.2.1 rfl rfl (by show _ < 4; decide) rfl ?_
    refine jx_goto (tgt := 18) kd1214.2.2.2.2.2.2.2.1 (by decide) ?_
    exact jx_lv [1, 2, 3, 0] rfl h
  replace h := h.2
  by_cases c16 : ((xs (Int32.toNatClampNeg x3)) &&& 63) = 1
  · replace h := h.1 c16
    refine jx_tableIn (v := 1) (tgt := 297) (off := 264) kd1095.2.2.2.1 c16 (by decide) (by decide) (by decide) (by decide) ?_
    refine jx_aload_n 1 kd1100.2.2.2.2.2.2.1 rfl rfl ?_
    refine jx_aload_n 0 kd1100.2.2.2.2.2.2.2.1 rfl rfl ?_
    refine jx_iload_n 3 kd1100.2.2.2.2.2.2.2.2.1 rfl rfl ?_
    refine jx_iconst (v := 1) kd1101.1 (by decide) ?_
    refine jx_iadd kd1101.2.1 ?_
    obtain ⟨hi17, h⟩ := h
    refine jx_sld kd1101.2.2.1 hi17 ?_
    refine jx_aload_n 0 kd1101.2.2.2.1 rfl rfl ?_
    refine jx_iload_n 3 kd1101.2.2.2.2.1 rfl rfl ?_
    refine jx_iconst (v := 2) kd1101.2.2.2.2.2.1 (by decide) ?_
    refine jx_iadd kd1101.2.2.2.2.2.2.1 ?_
    obtain ⟨hi18, h⟩ := h
    refine jx_sld kd1101.2.2.2.2.2.2.2.1 hi18 ?_
    obtain ⟨hk19, h⟩ := h
    obtain ⟨hm20, h⟩ := h
    obtain ⟨d, hR, h⟩ := h
    refine jx_callVi (M' := mX10_told) (As := [.int (xs (Int32.toNatClampNeg (x3 + 1))), .int (xs (Int32.toNatClampNeg (x3 + 2)))]) jo_X10_told jc_10 rfl jwM_L_18 jwN_X10_told jwX_X10_told kd1101.2.2.2.2.2.2.2.2.1 hR rfl (jle rfl) hm20 hk19 h (fun r22 S21 h => ?_)
    refine jx_pop kd1102.1 rfl ?_
    refine jx_aload_n 2 kd1102.2.1 rfl rfl ?_
    refine jx_aload_n 0 kd1102.2.2.1 rfl rfl ?_
    refine jx_iload_n 3 kd1102.2.2.2.1 rfl rfl ?_
    refine jx_iconst (v := 1) kd1102.2.2.2.2.1 (by decide) ?_
    refine jx_iadd kd1102.2.2.2.2.2.1 ?_
    refine jx_sld kd1102.2.2.2.2.2.2.1 hi17 ?_
    refine jx_aload_n 0 kd1102.2.2.2.2.2.2.2.1 rfl rfl ?_
    refine jx_iload_n 3 kd1102.2.2.2.2.2.2.2.2.1 rfl rfl ?_
    refine jx_iconst (v := 2) kd1103.1 (by decide) ?_
    refine jx_iadd kd1103.2.1 ?_
    refine jx_sld kd1103.2.2.1 hi18 ?_
    obtain ⟨hk23, h⟩ := h
    obtain ⟨hm24, h⟩ := h
    obtain ⟨d, hR, h⟩ := h
    refine jx_callVi (M' := mX11_told) (As := [.int (xs (Int32.toNatClampNeg (x3 + 1))), .int (xs (Int32.toNatClampNeg (x3 + 2)))]) jo_X11_told jc_11 rfl jwM_L_22 jwN_X11_told jwX_X11_told kd1103.2.2.2.1 hR rfl (jle rfl) hm24 hk23 h (fun r26 S25 h => ?_)
    refine jx_pop kd1103.2.2.2.2.1 rfl ?_
    refine jx_goto (tgt := 1611) kd1103.2.2.2.2.2.1 (by decide) ?_
    refine jx_iinc 3 (v := (x3 + 6)) (lv1 := [(3, .int (x3 + 6)), (0, .ref a0), (1, .ref a1), (2, .ref a2)]) kd1214.2.2.2.2.2.2.1 rfl rfl (by show _ < 4; decide) rfl ?_
    refine jx_goto (tgt := 18) kd1214.2.2.2.2.2.2.2.1 (by decide) ?_
    exact jx_lv [1, 2, 3, 0] rfl h
  replace h := h.2
  by_cases c27 : ((xs (Int32.toNatClampNeg x3)) &&& 63) = 2
  · replace h := h.1 c27
    refine jx_tableIn (v := 2) (tgt := 330) (off := 297) kd1095.2.2.2.1 c27 (by decide) (by decide) (by decide) (by decide) ?_
    refine jx_aload_n 1 kd1103.2.2.2.2.2.2.1 rfl rfl ?_
    refine jx_aload_n 0 kd1103.2.2.2.2.2.2.2.1 rfl rfl ?_
    refine jx_iload_n 3 kd1103.2.2.2.2.2.2.2.2.1 rfl rfl ?_
    refine jx_iconst (v := 1) kd1104.1 (by decide) ?_
    refine jx_iadd kd1104.2.1 ?_
    obtain ⟨hi28, h⟩ := h
    refine jx_sld kd1104.2.2.1 hi28 ?_
    refine jx_aload_n 0 kd1104.2.2.2.1 rfl rfl ?_
    refine jx_iload_n 3 kd1104.2.2.2.2.1 rfl rfl ?_
    refine jx_iconst (v := 2) kd1104.2.2.2.2.2.1 (by decide) ?_
    refine jx_iadd kd1104.2.2.2.2.2.2.1 ?_
    obtain ⟨hi29, h⟩ := h
    refine jx_sld kd1104.2.2.2.2.2.2.2.1 hi29 ?_
    obtain ⟨hk30, h⟩ := h
    obtain ⟨hm31, h⟩ := h
    obtain ⟨d, hR, h⟩ := h
    refine jx_callVi (M' := mX10_as) (As := [.int (xs (Int32.toNatClampNeg (x3 + 1))), .int (xs (Int32.toNatClampNeg (x3 + 2)))]) jo_X10_as jc_10 rfl jwM_L_23 jwN_X10_as jwX_X10_as kd1104.2.2.2.2.2.2.2.2.1 hR rfl (jle rfl) hm31 hk30 h (fun r33 S32 h => ?_)
    refine jx_pop kd1105.1 rfl ?_
    refine jx_aload_n 2 kd1105.2.1 rfl rfl ?_
    refine jx_aload_n 0 kd1105.2.2.1 rfl rfl ?_
    refine jx_iload_n 3 kd1105.2.2.2.1 rfl rfl ?_
    refine jx_iconst (v := 1) kd1105.2.2.2.2.1 (by decide) ?_
    refine jx_iadd kd1105.2.2.2.2.2.1 ?_
    refine jx_sld kd1105.2.2.2.2.2.2.1 hi28 ?_
    refine jx_aload_n 0 kd1105.2.2.2.2.2.2.2.1 rfl rfl ?_
    refine jx_iload_n 3 kd1105.2.2.2.2.2.2.2.2.1 rfl rfl ?_
    refine jx_iconst (v := 2) kd1106.1 (by decide) ?_
    refine jx_iadd kd1106.2.1 ?_
    refine jx_sld kd1106.2.2.1 hi29 ?_
    obtain ⟨hk34, h⟩ := h
    obtain ⟨hm35, h⟩ := h
    obtain ⟨d, hR, h⟩ := h
    refine jx_callVi (M' := mX11_as) (As := [.int (xs (Int32.toNatClampNeg (x3 + 1))), .int (xs (Int32.toNatClampNeg (x3 + 2)))]) jo_X11_as jc_11 rfl jwM_L_26 jwN_X11_as jwX_X11_as kd1106.2.2.2.1 hR rfl (jle rfl) hm35 hk34 h (fun r37 S36 h => ?_)
    refine jx_pop kd1106.2.2.2.2.1 rfl ?_
    refine jx_goto (tgt := 1611) kd1106.2.2.2.2.2.1 (by decide) ?_
    refine jx_iinc 3 (v := (x3 + 6)) (lv1 := [(3, .int (x3 + 6)), (0, .ref a0), (1, .ref a1), (2, .ref a2)]) kd1214.2.2.2.2.2.2.1 rfl rfl (by show _ < 4; decide) rfl ?_
    refine jx_goto (tgt := 18) kd1214.2.2.2.2.2.2.2.1 (by decide) ?_
    exact jx_lv [1, 2, 3, 0] rfl h
  replace h := h.2
  by_cases c38 : ((xs (Int32.toNatClampNeg x3)) &&& 63) = 3
  · replace h := h.1 c38
    refine jx_tableIn (v := 3) (tgt := 363) (off := 330) kd1095.2.2.2.1 c38 (by decide) (by decide) (by decide) (by decide) ?_
    refine jx_aload_n 1 kd1106.2.2.2.2.2.2.1 rfl rfl ?_
    refine jx_aload_n 0 kd1106.2.2.2.2.2.2.2.1 rfl rfl ?_
    refine jx_iload_n 3 kd1106.2.2.2.2.2.2.2.2.1 rfl rfl ?_
    refine jx_iconst (v := 1) kd1107.1 (by decide) ?_
    refine jx_iadd kd1107.2.1 ?_
    obtain ⟨hi39, h⟩ := h
    refine jx_sld kd1107.2.2.1 hi39 ?_
    refine jx_aload_n 0 kd1107.2.2.2.1 rfl rfl ?_
    refine jx_iload_n 3 kd1107.2.2.2.2.1 rfl rfl ?_
    refine jx_iconst (v := 2) kd1107.2.2.2.2.2.1 (by decide) ?_
    refine jx_iadd kd1107.2.2.2.2.2.2.1 ?_
    obtain ⟨hi40, h⟩ := h
    refine jx_sld kd1107.2.2.2.2.2.2.2.1 hi40 ?_
    obtain ⟨hk41, h⟩ := h
    obtain ⟨hm42, h⟩ := h
    obtain ⟨d, hR, h⟩ := h
    refine jx_callVi (M' := mX10_turns) (As := [.int (xs (Int32.toNatClampNeg (x3 + 1))), .int (xs (Int32.toNatClampNeg (x3 + 2)))]) jo_X10_turns jc_10 rfl jwM_L_27 jwN_X10_turns jwX_X10_turns kd1107.2.2.2.2.2.2.2.2.1 hR rfl (jle rfl) hm42 hk41 h (fun r44 S43 h => ?_)
    refine jx_pop kd1108.1 rfl ?_
    refine jx_aload_n 2 kd1108.2.1 rfl rfl ?_
    refine jx_aload_n 0 kd1108.2.2.1 rfl rfl ?_
    refine jx_iload_n 3 kd1108.2.2.2.1 rfl rfl ?_
    refine jx_iconst (v := 1) kd1108.2.2.2.2.1 (by decide) ?_
    refine jx_iadd kd1108.2.2.2.2.2.1 ?_
    refine jx_sld kd1108.2.2.2.2.2.2.1 hi39 ?_
    refine jx_aload_n 0 kd1108.2.2.2.2.2.2.2.1 rfl rfl ?_
    refine jx_iload_n 3 kd1108.2.2.2.2.2.2.2.2.1 rfl rfl ?_
    refine jx_iconst (v := 2) kd1109.1 (by decide) ?_
    refine jx_iadd kd1109.2.1 ?_
    refine jx_sld kd1109.2.2.1 hi40 ?_
    obtain ⟨hk45, h⟩ := h
    obtain ⟨hm46, h⟩ := h
    obtain ⟨d, hR, h⟩ := h
    refine jx_callVi (M' := mX11_turns) (As := [.int (xs (Int32.toNatClampNeg (x3 + 1))), .int (xs (Int32.toNatClampNeg (x3 + 2)))]) jo_X11_turns jc_11 rfl jwM_L_30 jwN_X11_turns jwX_X11_turns kd1109.2.2.2.1 hR rfl (jle rfl) hm46 hk45 h (fun r48 S47 h => ?_)
    refine jx_pop kd1109.2.2.2.2.1 rfl ?_
    refine jx_goto (tgt := 1611) kd1109.2.2.2.2.2.1 (by decide) ?_
    refine jx_iinc 3 (v := (x3 + 6)) (lv1 := [(3, .int (x3 + 6)), (0, .ref a0), (1, .ref a1), (2, .ref a2)]) kd1214.2.2.2.2.2.2.1 rfl rfl (by show _ < 4; decide) rfl ?_
    refine jx_goto (tgt := 18) kd1214.2.2.2.2.2.2.2.1 (by decide) ?_
    exact jx_lv [1, 2, 3, 0] rfl h
  replace h := h.2
  by_cases c49 : ((xs (Int32.toNatClampNeg x3)) &&& 63) = 4
  · replace h := h.1 c49
    refine jx_tableIn (v := 4) (tgt := 396) (off := 363) kd1095.2.2.2.1 c49 (by decide) (by decide) (by decide) (by decide) ?_
    refine jx_aload_n 1 kd1109.2.2.2.2.2.2.1 rfl rfl ?_
    refine jx_aload_n 0 kd1109.2.2.2.2.2.2.2.1 rfl rfl ?_
    refine jx_iload_n 3 kd1109.2.2.2.2.2.2.2.2.1 rfl rfl ?_
    refine jx_iconst (v := 1) kd1110.1 (by decide) ?_
    refine jx_iadd kd1110.2.1 ?_
    obtain ⟨hi50, h⟩ := h
    refine jx_sld kd1110.2.2.1 hi50 ?_
    refine jx_aload_n 0 kd1110.2.2.2.1 rfl rfl ?_
    refine jx_iload_n 3 kd1110.2.2.2.2.1 rfl rfl ?_
    refine jx_iconst (v := 2) kd1110.2.2.2.2.2.1 (by decide) ?_
    refine jx_iadd kd1110.2.2.2.2.2.2.1 ?_
    obtain ⟨hi51, h⟩ := h
    refine jx_sld kd1110.2.2.2.2.2.2.2.1 hi51 ?_
    refine jx_aload_n 0 kd1110.2.2.2.2.2.2.2.2.1 rfl rfl ?_
    refine jx_iload_n 3 kd1111.1 rfl rfl ?_
    refine jx_iconst (v := 3) kd1111.2.1 (by decide) ?_
    refine jx_iadd kd1111.2.2.1 ?_
    obtain ⟨hi52, h⟩ := h
    refine jx_sld kd1111.2.2.2.1 hi52 ?_
    obtain ⟨hk53, h⟩ := h
    obtain ⟨hm54, h⟩ := h
    obtain ⟨d, hR, h⟩ := h
    refine jx_callVi (M' := mX10_set) (As := [.int (xs (Int32.toNatClampNeg (x3 + 1))), .int (xs (Int32.toNatClampNeg (x3 + 2))), .int (xs (Int32.toNatClampNeg (x3 + 3)))]) jo_X10_set jc_10 rfl jwM_L_31 jwN_X10_set jwX_X10_set kd1111.2.2.2.2.1 hR rfl (jle rfl) hm54 hk53 h (fun r56 S55 h => ?_)
    refine jx_pop kd1111.2.2.2.2.2.1 rfl ?_
    refine jx_aload_n 2 kd1111.2.2.2.2.2.2.1 rfl rfl ?_
    refine jx_aload_n 0 kd1111.2.2.2.2.2.2.2.1 rfl rfl ?_
    refine jx_iload_n 3 kd1111.2.2.2.2.2.2.2.2.1 rfl rfl ?_
    refine jx_iconst (v := 1) kd1112.1 (by decide) ?_
    refine jx_iadd kd1112.2.1 ?_
    refine jx_sld kd1112.2.2.1 hi50 ?_
    refine jx_aload_n 0 kd1112.2.2.2.1 rfl rfl ?_
    refine jx_iload_n 3 kd1112.2.2.2.2.1 rfl rfl ?_
    refine jx_iconst (v := 2) kd1112.2.2.2.2.2.1 (by decide) ?_
    refine jx_iadd kd1112.2.2.2.2.2.2.1 ?_
    refine jx_sld kd1112.2.2.2.2.2.2.2.1 hi51 ?_
    refine jx_aload_n 0 kd1112.2.2.2.2.2.2.2.2.1 rfl rfl ?_
    refine jx_iload_n 3 kd1113.1 rfl rfl ?_
    refine jx_iconst (v := 3) kd1113.2.1 (by decide) ?_
    refine jx_iadd kd1113.2.2.1 ?_
    refine jx_sld kd1113.2.2.2.1 hi52 ?_
    obtain ⟨hk57, h⟩ := h
    obtain ⟨hm58, h⟩ := h
    obtain ⟨d, hR, h⟩ := h
    refine jx_callVi (M' := mX11_set) (As := [.int (xs (Int32.toNatClampNeg (x3 + 1))), .int (xs (Int32.toNatClampNeg (x3 + 2))), .int (xs (Int32.toNatClampNeg (x3 + 3)))]) jo_X11_set jc_11 rfl jwM_L_35 jwN_X11_set jwX_X11_set kd1113.2.2.2.2.1 hR rfl (jle rfl) hm58 hk57 h (fun r60 S59 h => ?_)
    refine jx_pop kd1113.2.2.2.2.2.1 rfl ?_
    refine jx_goto (tgt := 1611) kd1113.2.2.2.2.2.2.1 (by decide) ?_
    refine jx_iinc 3 (v := (x3 + 6)) (lv1 := [(3, .int (x3 + 6)), (0, .ref a0), (1, .ref a1), (2, .ref a2)]) kd1214.2.2.2.2.2.2.1 rfl rfl (by show _ < 4; decide) rfl ?_
    refine jx_goto (tgt := 18) kd1214.2.2.2.2.2.2.2.1 (by decide) ?_
    exact jx_lv [1, 2, 3, 0] rfl h
  replace h := h.2
  by_cases c61 : ((xs (Int32.toNatClampNeg x3)) &&& 63) = 5
  · replace h := h.1 c61
    refine jx_tableIn (v := 5) (tgt := 439) (off := 406) kd1095.2.2.2.1 c61 (by decide) (by decide) (by decide) (by decide) ?_
    refine jx_aload_n 1 kd1113.2.2.2.2.2.2.2.1 rfl rfl ?_
    refine jx_aload_n 0 kd1113.2.2.2.2.2.2.2.2.1 rfl rfl ?_
    refine jx_iload_n 3 kd1114.1 rfl rfl ?_
    refine jx_iconst (v := 1) kd1114.2.1 (by decide) ?_
    refine jx_iadd kd1114.2.2.1 ?_
    obtain ⟨hi62, h⟩ := h
    refine jx_sld kd1114.2.2.2.1 hi62 ?_
    refine jx_aload_n 0 kd1114.2.2.2.2.1 rfl rfl ?_
    refine jx_iload_n 3 kd1114.2.2.2.2.2.1 rfl rfl ?_
    refine jx_iconst (v := 2) kd1114.2.2.2.2.2.2.1 (by decide) ?_
    refine jx_iadd kd1114.2.2.2.2.2.2.2.1 ?_
    obtain ⟨hi63, h⟩ := h
    refine jx_sld kd1114.2.2.2.2.2.2.2.2.1 hi63 ?_
    refine jx_aload_n 0 kd1115.1 rfl rfl ?_
    refine jx_iload_n 3 kd1115.2.1 rfl rfl ?_
    refine jx_iconst (v := 3) kd1115.2.2.1 (by decide) ?_
    refine jx_iadd kd1115.2.2.2.1 ?_
    obtain ⟨hi64, h⟩ := h
    refine jx_sld kd1115.2.2.2.2.1 hi64 ?_
    obtain ⟨hk65, h⟩ := h
    obtain ⟨hm66, h⟩ := h
    obtain ⟨d, hR, h⟩ := h
    refine jx_callVi (M' := mX10_bars) (As := [.int (xs (Int32.toNatClampNeg (x3 + 1))), .int (xs (Int32.toNatClampNeg (x3 + 2))), .int (xs (Int32.toNatClampNeg (x3 + 3)))]) jo_X10_bars jc_10 rfl jwM_L_36 jwN_X10_bars jwX_X10_bars kd1115.2.2.2.2.2.1 hR rfl (jle rfl) hm66 hk65 h (fun r68 S67 h => ?_)
    refine jx_pop kd1115.2.2.2.2.2.2.1 rfl ?_
    refine jx_aload_n 2 kd1115.2.2.2.2.2.2.2.1 rfl rfl ?_
    refine jx_aload_n 0 kd1115.2.2.2.2.2.2.2.2.1 rfl rfl ?_
    refine jx_iload_n 3 kd1116.1 rfl rfl ?_
    refine jx_iconst (v := 1) kd1116.2.1 (by decide) ?_
    refine jx_iadd kd1116.2.2.1 ?_
    refine jx_sld kd1116.2.2.2.1 hi62 ?_
    refine jx_aload_n 0 kd1116.2.2.2.2.1 rfl rfl ?_
    refine jx_iload_n 3 kd1116.2.2.2.2.2.1 rfl rfl ?_
    refine jx_iconst (v := 2) kd1116.2.2.2.2.2.2.1 (by decide) ?_
    refine jx_iadd kd1116.2.2.2.2.2.2.2.1 ?_
    refine jx_sld kd1116.2.2.2.2.2.2.2.2.1 hi63 ?_
    refine jx_aload_n 0 kd1117.1 rfl rfl ?_
    refine jx_iload_n 3 kd1117.2.1 rfl rfl ?_
    refine jx_iconst (v := 3) kd1117.2.2.1 (by decide) ?_
    refine jx_iadd kd1117.2.2.2.1 ?_
    refine jx_sld kd1117.2.2.2.2.1 hi64 ?_
    obtain ⟨hk69, h⟩ := h
    obtain ⟨hm70, h⟩ := h
    obtain ⟨d, hR, h⟩ := h
    refine jx_callVi (M' := mX11_bars) (As := [.int (xs (Int32.toNatClampNeg (x3 + 1))), .int (xs (Int32.toNatClampNeg (x3 + 2))), .int (xs (Int32.toNatClampNeg (x3 + 3)))]) jo_X11_bars jc_11 rfl jwM_L_39 jwN_X11_bars jwX_X11_bars kd1117.2.2.2.2.2.1 hR rfl (jle rfl) hm70 hk69 h (fun r72 S71 h => ?_)
    refine jx_pop kd1117.2.2.2.2.2.2.1 rfl ?_
    refine jx_goto (tgt := 1611) kd1117.2.2.2.2.2.2.2.1 (by decide) ?_
    refine jx_iinc 3 (v := (x3 + 6)) (lv1 := [(3, .int (x3 + 6)), (0, .ref a0), (1, .ref a1), (2, .ref a2)]) kd1214.2.2.2.2.2.2.1 rfl rfl (by show _ < 4; decide) rfl ?_
    refine jx_goto (tgt := 18) kd1214.2.2.2.2.2.2.2.1 (by decide) ?_
    exact jx_lv [1, 2, 3, 0] rfl h
  replace h := h.2
  by_cases c73 : ((xs (Int32.toNatClampNeg x3)) &&& 63) = 6
  · replace h := h.1 c73
    refine jx_tableIn (v := 6) (tgt := 482) (off := 449) kd1095.2.2.2.1 c73 (by decide) (by decide) (by decide) (by decide) ?_
    refine jx_aload_n 1 kd1117.2.2.2.2.2.2.2.2.1 rfl rfl ?_
    refine jx_aload_n 0 kd1118.1 rfl rfl ?_
    refine jx_iload_n 3 kd1118.2.1 rfl rfl ?_
    refine jx_iconst (v := 1) kd1118.2.2.1 (by decide) ?_
    refine jx_iadd kd1118.2.2.2.1 ?_
    obtain ⟨hi74, h⟩ := h
    refine jx_sld kd1118.2.2.2.2.1 hi74 ?_
    refine jx_aload_n 0 kd1118.2.2.2.2.2.1 rfl rfl ?_
    refine jx_iload_n 3 kd1118.2.2.2.2.2.2.1 rfl rfl ?_
    refine jx_iconst (v := 2) kd1118.2.2.2.2.2.2.2.1 (by decide) ?_
    refine jx_iadd kd1118.2.2.2.2.2.2.2.2.1 ?_
    obtain ⟨hi75, h⟩ := h
    refine jx_sld kd1119.1 hi75 ?_
    refine jx_aload_n 0 kd1119.2.1 rfl rfl ?_
    refine jx_iload_n 3 kd1119.2.2.1 rfl rfl ?_
    refine jx_iconst (v := 3) kd1119.2.2.2.1 (by decide) ?_
    refine jx_iadd kd1119.2.2.2.2.1 ?_
    obtain ⟨hi76, h⟩ := h
    refine jx_sld kd1119.2.2.2.2.2.1 hi76 ?_
    obtain ⟨hk77, h⟩ := h
    obtain ⟨hm78, h⟩ := h
    obtain ⟨d, hR, h⟩ := h
    refine jx_callVi (M' := mX10_road) (As := [.int (xs (Int32.toNatClampNeg (x3 + 1))), .int (xs (Int32.toNatClampNeg (x3 + 2))), .int (xs (Int32.toNatClampNeg (x3 + 3)))]) jo_X10_road jc_10 rfl jwM_L_40 jwN_X10_road jwX_X10_road kd1119.2.2.2.2.2.2.1 hR rfl (jle rfl) hm78 hk77 h (fun r80 S79 h => ?_)
    refine jx_pop kd1119.2.2.2.2.2.2.2.1 rfl ?_
    refine jx_aload_n 2 kd1119.2.2.2.2.2.2.2.2.1 rfl rfl ?_
    refine jx_aload_n 0 kd1120.1 rfl rfl ?_
    refine jx_iload_n 3 kd1120.2.1 rfl rfl ?_
    refine jx_iconst (v := 1) kd1120.2.2.1 (by decide) ?_
    refine jx_iadd kd1120.2.2.2.1 ?_
    refine jx_sld kd1120.2.2.2.2.1 hi74 ?_
    refine jx_aload_n 0 kd1120.2.2.2.2.2.1 rfl rfl ?_
    refine jx_iload_n 3 kd1120.2.2.2.2.2.2.1 rfl rfl ?_
    refine jx_iconst (v := 2) kd1120.2.2.2.2.2.2.2.1 (by decide) ?_
    refine jx_iadd kd1120.2.2.2.2.2.2.2.2.1 ?_
    refine jx_sld kd1121.1 hi75 ?_
    refine jx_aload_n 0 kd1121.2.1 rfl rfl ?_
    refine jx_iload_n 3 kd1121.2.2.1 rfl rfl ?_
    refine jx_iconst (v := 3) kd1121.2.2.2.1 (by decide) ?_
    refine jx_iadd kd1121.2.2.2.2.1 ?_
    refine jx_sld kd1121.2.2.2.2.2.1 hi76 ?_
    obtain ⟨hk81, h⟩ := h
    obtain ⟨hm82, h⟩ := h
    obtain ⟨d, hR, h⟩ := h
    refine jx_callVi (M' := mX11_road) (As := [.int (xs (Int32.toNatClampNeg (x3 + 1))), .int (xs (Int32.toNatClampNeg (x3 + 2))), .int (xs (Int32.toNatClampNeg (x3 + 3)))]) jo_X11_road jc_11 rfl jwM_L_43 jwN_X11_road jwX_X11_road kd1121.2.2.2.2.2.2.1 hR rfl (jle rfl) hm82 hk81 h (fun r84 S83 h => ?_)
    refine jx_pop kd1121.2.2.2.2.2.2.2.1 rfl ?_
    refine jx_goto (tgt := 1611) kd1121.2.2.2.2.2.2.2.2.1 (by decide) ?_
    refine jx_iinc 3 (v := (x3 + 6)) (lv1 := [(3, .int (x3 + 6)), (0, .ref a0), (1, .ref a1), (2, .ref a2)]) kd1214.2.2.2.2.2.2.1 rfl rfl (by show _ < 4; decide) rfl ?_
    refine jx_goto (tgt := 18) kd1214.2.2.2.2.2.2.2.1 (by decide) ?_
    exact jx_lv [1, 2, 3, 0] rfl h
  replace h := h.2
  by_cases c85 : ((xs (Int32.toNatClampNeg x3)) &&& 63) = 7
  · replace h := h.1 c85
    refine jx_tableIn (v := 7) (tgt := 525) (off := 492) kd1095.2.2.2.1 c85 (by decide) (by decide) (by decide) (by decide) ?_
    refine jx_aload_n 1 kd1122.1 rfl rfl ?_
    refine jx_aload_n 0 kd1122.2.1 rfl rfl ?_
    refine jx_iload_n 3 kd1122.2.2.1 rfl rfl ?_
    refine jx_iconst (v := 1) kd1122.2.2.2.1 (by decide) ?_
    refine jx_iadd kd1122.2.2.2.2.1 ?_
    obtain ⟨hi86, h⟩ := h
    refine jx_sld kd1122.2.2.2.2.2.1 hi86 ?_
    refine jx_aload_n 0 kd1122.2.2.2.2.2.2.1 rfl rfl ?_
    refine jx_iload_n 3 kd1122.2.2.2.2.2.2.2.1 rfl rfl ?_
    refine jx_iconst (v := 2) kd1122.2.2.2.2.2.2.2.2.1 (by decide) ?_
    refine jx_iadd kd1123.1 ?_
    obtain ⟨hi87, h⟩ := h
    refine jx_sld kd1123.2.1 hi87 ?_
    obtain ⟨hk88, h⟩ := h
    obtain ⟨hm89, h⟩ := h
    obtain ⟨d, hR, h⟩ := h
    refine jx_callVi (M' := mX10_far) (As := [.int (xs (Int32.toNatClampNeg (x3 + 1))), .int (xs (Int32.toNatClampNeg (x3 + 2)))]) jo_X10_far jc_10 rfl jwM_L_44 jwN_X10_far jwX_X10_far kd1123.2.2.1 hR rfl (jle rfl) hm89 hk88 h (fun r91 S90 h => ?_)
    refine jx_pop kd1123.2.2.2.1 rfl ?_
    refine jx_aload_n 2 kd1123.2.2.2.2.1 rfl rfl ?_
    refine jx_aload_n 0 kd1123.2.2.2.2.2.1 rfl rfl ?_
    refine jx_iload_n 3 kd1123.2.2.2.2.2.2.1 rfl rfl ?_
    refine jx_iconst (v := 1) kd1123.2.2.2.2.2.2.2.1 (by decide) ?_
    refine jx_iadd kd1123.2.2.2.2.2.2.2.2.1 ?_
    refine jx_sld kd1124.1 hi86 ?_
    refine jx_aload_n 0 kd1124.2.1 rfl rfl ?_
    refine jx_iload_n 3 kd1124.2.2.1 rfl rfl ?_
    refine jx_iconst (v := 2) kd1124.2.2.2.1 (by decide) ?_
    refine jx_iadd kd1124.2.2.2.2.1 ?_
    refine jx_sld kd1124.2.2.2.2.2.1 hi87 ?_
    obtain ⟨hk92, h⟩ := h
    obtain ⟨hm93, h⟩ := h
    obtain ⟨d, hR, h⟩ := h
    refine jx_callVi (M' := mX11_far) (As := [.int (xs (Int32.toNatClampNeg (x3 + 1))), .int (xs (Int32.toNatClampNeg (x3 + 2)))]) jo_X11_far jc_11 rfl jwM_L_47 jwN_X11_far jwX_X11_far kd1124.2.2.2.2.2.2.1 hR rfl (jle rfl) hm93 hk92 h (fun r95 S94 h => ?_)
    refine jx_pop kd1124.2.2.2.2.2.2.2.1 rfl ?_
    refine jx_goto (tgt := 1611) kd1124.2.2.2.2.2.2.2.2.1 (by decide) ?_
    refine jx_iinc 3 (v := (x3 + 6)) (lv1 := [(3, .int (x3 + 6)), (0, .ref a0), (1, .ref a1), (2, .ref a2)]) kd1214.2.2.2.2.2.2.1 rfl rfl (by show _ < 4; decide) rfl ?_
    refine jx_goto (tgt := 18) kd1214.2.2.2.2.2.2.2.1 (by decide) ?_
    exact jx_lv [1, 2, 3, 0] rfl h
  replace h := h.2
  by_cases c96 : ((xs (Int32.toNatClampNeg x3)) &&& 63) = 8
  · replace h := h.1 c96
    refine jx_tableIn (v := 8) (tgt := 558) (off := 525) kd1095.2.2.2.1 c96 (by decide) (by decide) (by decide) (by decide) ?_
    refine jx_aload_n 1 kd1125.1 rfl rfl ?_
    refine jx_aload_n 0 kd1125.2.1 rfl rfl ?_
    refine jx_iload_n 3 kd1125.2.2.1 rfl rfl ?_
    refine jx_iconst (v := 1) kd1125.2.2.2.1 (by decide) ?_
    refine jx_iadd kd1125.2.2.2.2.1 ?_
    obtain ⟨hi97, h⟩ := h
    refine jx_sld kd1125.2.2.2.2.2.1 hi97 ?_
    obtain ⟨hk98, h⟩ := h
    obtain ⟨hm99, h⟩ := h
    obtain ⟨d, hR, h⟩ := h
    refine jx_callVi (M' := mX10_deal) (As := [.int (xs (Int32.toNatClampNeg (x3 + 1)))]) jo_X10_deal jc_10 rfl jwM_L_48 jwN_X10_deal jwX_X10_deal kd1125.2.2.2.2.2.2.1 hR rfl (jle rfl) hm99 hk98 h (fun r101 S100 h => ?_)
    refine jx_pop kd1125.2.2.2.2.2.2.2.1 rfl ?_
    refine jx_aload_n 2 kd1125.2.2.2.2.2.2.2.2.1 rfl rfl ?_
    refine jx_aload_n 0 kd1126.1 rfl rfl ?_
    refine jx_iload_n 3 kd1126.2.1 rfl rfl ?_
    refine jx_iconst (v := 1) kd1126.2.2.1 (by decide) ?_
    refine jx_iadd kd1126.2.2.2.1 ?_
    refine jx_sld kd1126.2.2.2.2.1 hi97 ?_
    obtain ⟨hk102, h⟩ := h
    obtain ⟨hm103, h⟩ := h
    obtain ⟨d, hR, h⟩ := h
    refine jx_callVi (M' := mX11_deal) (As := [.int (xs (Int32.toNatClampNeg (x3 + 1)))]) jo_X11_deal jc_11 rfl jwM_L_52 jwN_X11_deal jwX_X11_deal kd1126.2.2.2.2.2.1 hR rfl (jle rfl) hm103 hk102 h (fun r105 S104 h => ?_)
    refine jx_pop kd1126.2.2.2.2.2.2.1 rfl ?_
    refine jx_goto (tgt := 1611) kd1126.2.2.2.2.2.2.2.1 (by decide) ?_
    refine jx_iinc 3 (v := (x3 + 6)) (lv1 := [(3, .int (x3 + 6)), (0, .ref a0), (1, .ref a1), (2, .ref a2)]) kd1214.2.2.2.2.2.2.1 rfl rfl (by show _ < 4; decide) rfl ?_
    refine jx_goto (tgt := 18) kd1214.2.2.2.2.2.2.2.1 (by decide) ?_
    exact jx_lv [1, 2, 3, 0] rfl h
  replace h := h.2
  by_cases c106 : ((xs (Int32.toNatClampNeg x3)) &&& 63) = 9
  · replace h := h.1 c106
    refine jx_tableIn (v := 9) (tgt := 581) (off := 548) kd1095.2.2.2.1 c106 (by decide) (by decide) (by decide) (by decide) ?_
    refine jx_aload_n 1 kd1126.2.2.2.2.2.2.2.2.1 rfl rfl ?_
    refine jx_aload_n 0 kd1127.1 rfl rfl ?_
    refine jx_iload_n 3 kd1127.2.1 rfl rfl ?_
    refine jx_iconst (v := 1) kd1127.2.2.1 (by decide) ?_
    refine jx_iadd kd1127.2.2.2.1 ?_
    obtain ⟨hi107, h⟩ := h
    refine jx_sld kd1127.2.2.2.2.1 hi107 ?_
    obtain ⟨hk108, h⟩ := h
    obtain ⟨hm109, h⟩ := h
    obtain ⟨d, hR, h⟩ := h
    refine jx_callVi (M' := mX10_seed) (As := [.int (xs (Int32.toNatClampNeg (x3 + 1)))]) jo_X10_seed jc_10 rfl jwM_L_53 jwN_X10_seed jwX_X10_seed kd1127.2.2.2.2.2.1 hR rfl (jle rfl) hm109 hk108 h (fun r111 S110 h => ?_)
    refine jx_pop kd1127.2.2.2.2.2.2.1 rfl ?_
    refine jx_aload_n 2 kd1127.2.2.2.2.2.2.2.1 rfl rfl ?_
    refine jx_aload_n 0 kd1127.2.2.2.2.2.2.2.2.1 rfl rfl ?_
    refine jx_iload_n 3 kd1128.1 rfl rfl ?_
    refine jx_iconst (v := 1) kd1128.2.1 (by decide) ?_
    refine jx_iadd kd1128.2.2.1 ?_
    refine jx_sld kd1128.2.2.2.1 hi107 ?_
    obtain ⟨hk112, h⟩ := h
    obtain ⟨hm113, h⟩ := h
    obtain ⟨d, hR, h⟩ := h
    refine jx_callVi (M' := mX11_seed) (As := [.int (xs (Int32.toNatClampNeg (x3 + 1)))]) jo_X11_seed jc_11 rfl jwM_L_56 jwN_X11_seed jwX_X11_seed kd1128.2.2.2.2.1 hR rfl (jle rfl) hm113 hk112 h (fun r115 S114 h => ?_)
    refine jx_pop kd1128.2.2.2.2.2.1 rfl ?_
    refine jx_goto (tgt := 1611) kd1128.2.2.2.2.2.2.1 (by decide) ?_
    refine jx_iinc 3 (v := (x3 + 6)) (lv1 := [(3, .int (x3 + 6)), (0, .ref a0), (1, .ref a1), (2, .ref a2)]) kd1214.2.2.2.2.2.2.1 rfl rfl (by show _ < 4; decide) rfl ?_
    refine jx_goto (tgt := 18) kd1214.2.2.2.2.2.2.2.1 (by decide) ?_
    exact jx_lv [1, 2, 3, 0] rfl h
  replace h := h.2
  by_cases c116 : ((xs (Int32.toNatClampNeg x3)) &&& 63) = 10
  · replace h := h.1 c116
    refine jx_tableIn (v := 10) (tgt := 604) (off := 571) kd1095.2.2.2.1 c116 (by decide) (by decide) (by decide) (by decide) ?_
    refine jx_aload_n 1 kd1128.2.2.2.2.2.2.2.1 rfl rfl ?_
    refine jx_aload_n 0 kd1128.2.2.2.2.2.2.2.2.1 rfl rfl ?_
    refine jx_iload_n 3 kd1129.1 rfl rfl ?_
    refine jx_iconst (v := 1) kd1129.2.1 (by decide) ?_
    refine jx_iadd kd1129.2.2.1 ?_
    obtain ⟨hi117, h⟩ := h
    refine jx_sld kd1129.2.2.2.1 hi117 ?_
    obtain ⟨hk118, h⟩ := h
    obtain ⟨hm119, h⟩ := h
    obtain ⟨d, hR, h⟩ := h
    refine jx_callVi (M' := mX10_apprentice) (As := [.int (xs (Int32.toNatClampNeg (x3 + 1)))]) jo_X10_apprentice jc_10 rfl jwM_L_57 jwN_X10_apprentice jwX_X10_apprentice kd1129.2.2.2.2.1 hR rfl (jle rfl) hm119 hk118 h (fun r121 S120 h => ?_)
    refine jx_pop kd1129.2.2.2.2.2.1 rfl ?_
    refine jx_aload_n 2 kd1129.2.2.2.2.2.2.1 rfl rfl ?_
    refine jx_aload_n 0 kd1129.2.2.2.2.2.2.2.1 rfl rfl ?_
    refine jx_iload_n 3 kd1129.2.2.2.2.2.2.2.2.1 rfl rfl ?_
    refine jx_iconst (v := 1) kd1130.1 (by decide) ?_
    refine jx_iadd kd1130.2.1 ?_
    refine jx_sld kd1130.2.2.1 hi117 ?_
    obtain ⟨hk122, h⟩ := h
    obtain ⟨hm123, h⟩ := h
    obtain ⟨d, hR, h⟩ := h
    refine jx_callVi (M' := mX11_apprentice) (As := [.int (xs (Int32.toNatClampNeg (x3 + 1)))]) jo_X11_apprentice jc_11 rfl jwM_L_60 jwN_X11_apprentice jwX_X11_apprentice kd1130.2.2.2.1 hR rfl (jle rfl) hm123 hk122 h (fun r125 S124 h => ?_)
    refine jx_pop kd1130.2.2.2.2.1 rfl ?_
    refine jx_goto (tgt := 1611) kd1130.2.2.2.2.2.1 (by decide) ?_
    refine jx_iinc 3 (v := (x3 + 6)) (lv1 := [(3, .int (x3 + 6)), (0, .ref a0), (1, .ref a1), (2, .ref a2)]) kd1214.2.2.2.2.2.2.1 rfl rfl (by show _ < 4; decide) rfl ?_
    refine jx_goto (tgt := 18) kd1214.2.2.2.2.2.2.2.1 (by decide) ?_
    exact jx_lv [1, 2, 3, 0] rfl h
  replace h := h.2
  by_cases c126 : ((xs (Int32.toNatClampNeg x3)) &&& 63) = 11
  · replace h := h.1 c126
    refine jx_tableIn (v := 11) (tgt := 627) (off := 594) kd1095.2.2.2.1 c126 (by decide) (by decide) (by decide) (by decide) ?_
    refine jx_aload_n 1 kd1130.2.2.2.2.2.2.1 rfl rfl ?_
    refine jx_aload_n 0 kd1130.2.2.2.2.2.2.2.1 rfl rfl ?_
    refine jx_iload_n 3 kd1130.2.2.2.2.2.2.2.2.1 rfl rfl ?_
    refine jx_iconst (v := 1) kd1131.1 (by decide) ?_
    refine jx_iadd kd1131.2.1 ?_
    obtain ⟨hi127, h⟩ := h
    refine jx_sld kd1131.2.2.1 hi127 ?_
    refine jx_aload_n 0 kd1131.2.2.2.1 rfl rfl ?_
    refine jx_iload_n 3 kd1131.2.2.2.2.1 rfl rfl ?_
    refine jx_iconst (v := 2) kd1131.2.2.2.2.2.1 (by decide) ?_
    refine jx_iadd kd1131.2.2.2.2.2.2.1 ?_
    obtain ⟨hi128, h⟩ := h
    refine jx_sld kd1131.2.2.2.2.2.2.2.1 hi128 ?_
    obtain ⟨hk129, h⟩ := h
    obtain ⟨hm130, h⟩ := h
    obtain ⟨d, hR, h⟩ := h
    refine jx_callVi (M' := mX10_has) (As := [.int (xs (Int32.toNatClampNeg (x3 + 1))), .int (xs (Int32.toNatClampNeg (x3 + 2)))]) jo_X10_has jc_10 rfl jwM_L_61 jwN_X10_has jwX_X10_has kd1131.2.2.2.2.2.2.2.2.1 hR rfl (jle rfl) hm130 hk129 h (fun r132 S131 h => ?_)
    refine jx_pop kd1132.1 rfl ?_
    refine jx_aload_n 2 kd1132.2.1 rfl rfl ?_
    refine jx_aload_n 0 kd1132.2.2.1 rfl rfl ?_
    refine jx_iload_n 3 kd1132.2.2.2.1 rfl rfl ?_
    refine jx_iconst (v := 1) kd1132.2.2.2.2.1 (by decide) ?_
    refine jx_iadd kd1132.2.2.2.2.2.1 ?_
    refine jx_sld kd1132.2.2.2.2.2.2.1 hi127 ?_
    refine jx_aload_n 0 kd1132.2.2.2.2.2.2.2.1 rfl rfl ?_
    refine jx_iload_n 3 kd1132.2.2.2.2.2.2.2.2.1 rfl rfl ?_
    refine jx_iconst (v := 2) kd1133.1 (by decide) ?_
    refine jx_iadd kd1133.2.1 ?_
    refine jx_sld kd1133.2.2.1 hi128 ?_
    obtain ⟨hk133, h⟩ := h
    obtain ⟨hm134, h⟩ := h
    obtain ⟨d, hR, h⟩ := h
    refine jx_callVi (M' := mX11_has) (As := [.int (xs (Int32.toNatClampNeg (x3 + 1))), .int (xs (Int32.toNatClampNeg (x3 + 2)))]) jo_X11_has jc_11 rfl jwM_L_64 jwN_X11_has jwX_X11_has kd1133.2.2.2.1 hR rfl (jle rfl) hm134 hk133 h (fun r136 S135 h => ?_)
    refine jx_pop kd1133.2.2.2.2.1 rfl ?_
    refine jx_goto (tgt := 1611) kd1133.2.2.2.2.2.1 (by decide) ?_
    refine jx_iinc 3 (v := (x3 + 6)) (lv1 := [(3, .int (x3 + 6)), (0, .ref a0), (1, .ref a1), (2, .ref a2)]) kd1214.2.2.2.2.2.2.1 rfl rfl (by show _ < 4; decide) rfl ?_
    refine jx_goto (tgt := 18) kd1214.2.2.2.2.2.2.2.1 (by decide) ?_
    exact jx_lv [1, 2, 3, 0] rfl h
  replace h := h.2
  by_cases c137 : ((xs (Int32.toNatClampNeg x3)) &&& 63) = 12
  · replace h := h.1 c137
    refine jx_tableIn (v := 12) (tgt := 660) (off := 627) kd1095.2.2.2.1 c137 (by decide) (by decide) (by decide) (by decide) ?_
    refine jx_aload_n 1 kd1133.2.2.2.2.2.2.1 rfl rfl ?_
    refine jx_aload_n 0 kd1133.2.2.2.2.2.2.2.1 rfl rfl ?_
    refine jx_iload_n 3 kd1133.2.2.2.2.2.2.2.2.1 rfl rfl ?_
    refine jx_iconst (v := 1) kd1134.1 (by decide) ?_
    refine jx_iadd kd1134.2.1 ?_
    obtain ⟨hi138, h⟩ := h
    refine jx_sld kd1134.2.2.1 hi138 ?_
    refine jx_aload_n 0 kd1134.2.2.2.1 rfl rfl ?_
    refine jx_iload_n 3 kd1134.2.2.2.2.1 rfl rfl ?_
    refine jx_iconst (v := 2) kd1134.2.2.2.2.2.1 (by decide) ?_
    refine jx_iadd kd1134.2.2.2.2.2.2.1 ?_
    obtain ⟨hi139, h⟩ := h
    refine jx_sld kd1134.2.2.2.2.2.2.2.1 hi139 ?_
    obtain ⟨hk140, h⟩ := h
    obtain ⟨hm141, h⟩ := h
    obtain ⟨d, hR, h⟩ := h
    refine jx_callVi (M' := mX10_knows) (As := [.int (xs (Int32.toNatClampNeg (x3 + 1))), .int (xs (Int32.toNatClampNeg (x3 + 2)))]) jo_X10_knows jc_10 rfl jwM_L_65 jwN_X10_knows jwX_X10_knows kd1134.2.2.2.2.2.2.2.2.1 hR rfl (jle rfl) hm141 hk140 h (fun r143 S142 h => ?_)
    refine jx_pop kd1135.1 rfl ?_
    refine jx_aload_n 2 kd1135.2.1 rfl rfl ?_
    refine jx_aload_n 0 kd1135.2.2.1 rfl rfl ?_
    refine jx_iload_n 3 kd1135.2.2.2.1 rfl rfl ?_
    refine jx_iconst (v := 1) kd1135.2.2.2.2.1 (by decide) ?_
    refine jx_iadd kd1135.2.2.2.2.2.1 ?_
    refine jx_sld kd1135.2.2.2.2.2.2.1 hi138 ?_
    refine jx_aload_n 0 kd1135.2.2.2.2.2.2.2.1 rfl rfl ?_
    refine jx_iload_n 3 kd1135.2.2.2.2.2.2.2.2.1 rfl rfl ?_
    refine jx_iconst (v := 2) kd1136.1 (by decide) ?_
    refine jx_iadd kd1136.2.1 ?_
    refine jx_sld kd1136.2.2.1 hi139 ?_
    obtain ⟨hk144, h⟩ := h
    obtain ⟨hm145, h⟩ := h
    obtain ⟨d, hR, h⟩ := h
    refine jx_callVi (M' := mX11_knows) (As := [.int (xs (Int32.toNatClampNeg (x3 + 1))), .int (xs (Int32.toNatClampNeg (x3 + 2)))]) jo_X11_knows jc_11 rfl jwM_L_68 jwN_X11_knows jwX_X11_knows kd1136.2.2.2.1 hR rfl (jle rfl) hm145 hk144 h (fun r147 S146 h => ?_)
    refine jx_pop kd1136.2.2.2.2.1 rfl ?_
    refine jx_goto (tgt := 1611) kd1136.2.2.2.2.2.1 (by decide) ?_
    refine jx_iinc 3 (v := (x3 + 6)) (lv1 := [(3, .int (x3 + 6)), (0, .ref a0), (1, .ref a1), (2, .ref a2)]) kd1214.2.2.2.2.2.2.1 rfl rfl (by show _ < 4; decide) rfl ?_
    refine jx_goto (tgt := 18) kd1214.2.2.2.2.2.2.2.1 (by decide) ?_
    exact jx_lv [1, 2, 3, 0] rfl h
  replace h := h.2
  by_cases c148 : ((xs (Int32.toNatClampNeg x3)) &&& 63) = 13
  · replace h := h.1 c148
    refine jx_tableIn (v := 13) (tgt := 693) (off := 660) kd1095.2.2.2.1 c148 (by decide) (by decide) (by decide) (by decide) ?_
    refine jx_aload_n 1 kd1136.2.2.2.2.2.2.1 rfl rfl ?_
    refine jx_aload_n 0 kd1136.2.2.2.2.2.2.2.1 rfl rfl ?_
    refine jx_iload_n 3 kd1136.2.2.2.2.2.2.2.2.1 rfl rfl ?_
    refine jx_iconst (v := 1) kd1137.1 (by decide) ?_
    refine jx_iadd kd1137.2.1 ?_
    obtain ⟨hi149, h⟩ := h
    refine jx_sld kd1137.2.2.1 hi149 ?_
    obtain ⟨hk150, h⟩ := h
    obtain ⟨hm151, h⟩ := h
    obtain ⟨d, hR, h⟩ := h
    refine jx_callVi (M' := mX10_go) (As := [.int (xs (Int32.toNatClampNeg (x3 + 1)))]) jo_X10_go jc_10 rfl jwM_L_69 jwN_X10_go jwX_X10_go kd1137.2.2.2.1 hR rfl (jle rfl) hm151 hk150 h (fun r153 S152 h => ?_)
    refine jx_pop kd1137.2.2.2.2.1 rfl ?_
    refine jx_aload_n 2 kd1137.2.2.2.2.2.1 rfl rfl ?_
    refine jx_aload_n 0 kd1137.2.2.2.2.2.2.1 rfl rfl ?_
    refine jx_iload_n 3 kd1137.2.2.2.2.2.2.2.1 rfl rfl ?_
    refine jx_iconst (v := 1) kd1137.2.2.2.2.2.2.2.2.1 (by decide) ?_
    refine jx_iadd kd1138.1 ?_
    refine jx_sld kd1138.2.1 hi149 ?_
    obtain ⟨hk154, h⟩ := h
    obtain ⟨hm155, h⟩ := h
    obtain ⟨d, hR, h⟩ := h
    refine jx_callVi (M' := mX11_go) (As := [.int (xs (Int32.toNatClampNeg (x3 + 1)))]) jo_X11_go jc_11 rfl jwM_L_72 jwN_X11_go jwX_X11_go kd1138.2.2.1 hR rfl (jle rfl) hm155 hk154 h (fun r157 S156 h => ?_)
    refine jx_pop kd1138.2.2.2.1 rfl ?_
    refine jx_goto (tgt := 1611) kd1138.2.2.2.2.1 (by decide) ?_
    refine jx_iinc 3 (v := (x3 + 6)) (lv1 := [(3, .int (x3 + 6)), (0, .ref a0), (1, .ref a1), (2, .ref a2)]) kd1214.2.2.2.2.2.2.1 rfl rfl (by show _ < 4; decide) rfl ?_
    refine jx_goto (tgt := 18) kd1214.2.2.2.2.2.2.2.1 (by decide) ?_
    exact jx_lv [1, 2, 3, 0] rfl h
  replace h := h.2
  by_cases c158 : ((xs (Int32.toNatClampNeg x3)) &&& 63) = 14
  · replace h := h.1 c158
    refine jx_tableIn (v := 14) (tgt := 716) (off := 683) kd1095.2.2.2.1 c158 (by decide) (by decide) (by decide) (by decide) ?_
    refine jx_aload_n 1 kd1138.2.2.2.2.2.1 rfl rfl ?_
    refine jx_aload_n 0 kd1138.2.2.2.2.2.2.1 rfl rfl ?_
    refine jx_iload_n 3 kd1138.2.2.2.2.2.2.2.1 rfl rfl ?_
    refine jx_iconst (v := 1) kd1138.2.2.2.2.2.2.2.2.1 (by decide) ?_
    refine jx_iadd kd1139.1 ?_
    obtain ⟨hi159, h⟩ := h
    refine jx_sld kd1139.2.1 hi159 ?_
    obtain ⟨hk160, h⟩ := h
    obtain ⟨hm161, h⟩ := h
    obtain ⟨d, hR, h⟩ := h
    refine jx_callVi (M' := mX10_learn) (As := [.int (xs (Int32.toNatClampNeg (x3 + 1)))]) jo_X10_learn jc_10 rfl jwM_L_73 jwN_X10_learn jwX_X10_learn kd1139.2.2.1 hR rfl (jle rfl) hm161 hk160 h (fun r163 S162 h => ?_)
    refine jx_pop kd1139.2.2.2.1 rfl ?_
    refine jx_aload_n 2 kd1139.2.2.2.2.1 rfl rfl ?_
    refine jx_aload_n 0 kd1139.2.2.2.2.2.1 rfl rfl ?_
    refine jx_iload_n 3 kd1139.2.2.2.2.2.2.1 rfl rfl ?_
    refine jx_iconst (v := 1) kd1139.2.2.2.2.2.2.2.1 (by decide) ?_
    refine jx_iadd kd1139.2.2.2.2.2.2.2.2.1 ?_
    refine jx_sld kd1140.1 hi159 ?_
    obtain ⟨hk164, h⟩ := h
    obtain ⟨hm165, h⟩ := h
    obtain ⟨d, hR, h⟩ := h
    refine jx_callVi (M' := mX11_learn) (As := [.int (xs (Int32.toNatClampNeg (x3 + 1)))]) jo_X11_learn jc_11 rfl jwM_L_76 jwN_X11_learn jwX_X11_learn kd1140.2.1 hR rfl (jle rfl) hm165 hk164 h (fun r167 S166 h => ?_)
    refine jx_pop kd1140.2.2.1 rfl ?_
    refine jx_goto (tgt := 1611) kd1140.2.2.2.1 (by decide) ?_
    refine jx_iinc 3 (v := (x3 + 6)) (lv1 := [(3, .int (x3 + 6)), (0, .ref a0), (1, .ref a1), (2, .ref a2)]) kd1214.2.2.2.2.2.2.1 rfl rfl (by show _ < 4; decide) rfl ?_
    refine jx_goto (tgt := 18) kd1214.2.2.2.2.2.2.2.1 (by decide) ?_
    exact jx_lv [1, 2, 3, 0] rfl h
  replace h := h.2
  by_cases c168 : ((xs (Int32.toNatClampNeg x3)) &&& 63) = 15
  · replace h := h.1 c168
    refine jx_tableIn (v := 15) (tgt := 739) (off := 706) kd1095.2.2.2.1 c168 (by decide) (by decide) (by decide) (by decide) ?_
    refine jx_aload_n 1 kd1140.2.2.2.2.1 rfl rfl ?_
    refine jx_aload_n 0 kd1140.2.2.2.2.2.1 rfl rfl ?_
    refine jx_iload_n 3 kd1140.2.2.2.2.2.2.1 rfl rfl ?_
    refine jx_iconst (v := 1) kd1140.2.2.2.2.2.2.2.1 (by decide) ?_
    refine jx_iadd kd1140.2.2.2.2.2.2.2.2.1 ?_
    obtain ⟨hi169, h⟩ := h
    refine jx_sld kd1141.1 hi169 ?_
    obtain ⟨hk170, h⟩ := h
    obtain ⟨hm171, h⟩ := h
    obtain ⟨d, hR, h⟩ := h
    refine jx_callVi (M' := mX10_use) (As := [.int (xs (Int32.toNatClampNeg (x3 + 1)))]) jo_X10_use jc_10 rfl jwM_L_77 jwN_X10_use jwX_X10_use kd1141.2.1 hR rfl (jle rfl) hm171 hk170 h (fun r173 S172 h => ?_)
    refine jx_pop kd1141.2.2.1 rfl ?_
    refine jx_aload_n 2 kd1141.2.2.2.1 rfl rfl ?_
    refine jx_aload_n 0 kd1141.2.2.2.2.1 rfl rfl ?_
    refine jx_iload_n 3 kd1141.2.2.2.2.2.1 rfl rfl ?_
    refine jx_iconst (v := 1) kd1141.2.2.2.2.2.2.1 (by decide) ?_
    refine jx_iadd kd1141.2.2.2.2.2.2.2.1 ?_
    refine jx_sld kd1141.2.2.2.2.2.2.2.2.1 hi169 ?_
    obtain ⟨hk174, h⟩ := h
    obtain ⟨hm175, h⟩ := h
    obtain ⟨d, hR, h⟩ := h
    refine jx_callVi (M' := mX11_use) (As := [.int (xs (Int32.toNatClampNeg (x3 + 1)))]) jo_X11_use jc_11 rfl jwM_L_80 jwN_X11_use jwX_X11_use kd1142.1 hR rfl (jle rfl) hm175 hk174 h (fun r177 S176 h => ?_)
    refine jx_pop kd1142.2.1 rfl ?_
    refine jx_goto (tgt := 1611) kd1142.2.2.1 (by decide) ?_
    refine jx_iinc 3 (v := (x3 + 6)) (lv1 := [(3, .int (x3 + 6)), (0, .ref a0), (1, .ref a1), (2, .ref a2)]) kd1214.2.2.2.2.2.2.1 rfl rfl (by show _ < 4; decide) rfl ?_
    refine jx_goto (tgt := 18) kd1214.2.2.2.2.2.2.2.1 (by decide) ?_
    exact jx_lv [1, 2, 3, 0] rfl h
  replace h := h.2
  by_cases c178 : ((xs (Int32.toNatClampNeg x3)) &&& 63) = 16
  · replace h := h.1 c178
    refine jx_tableIn (v := 16) (tgt := 762) (off := 729) kd1095.2.2.2.1 c178 (by decide) (by decide) (by decide) (by decide) ?_
    refine jx_aload_n 1 kd1142.2.2.2.1 rfl rfl ?_
    refine jx_aload_n 0 kd1142.2.2.2.2.1 rfl rfl ?_
    refine jx_iload_n 3 kd1142.2.2.2.2.2.1 rfl rfl ?_
    refine jx_iconst (v := 1) kd1142.2.2.2.2.2.2.1 (by decide) ?_
    refine jx_iadd kd1142.2.2.2.2.2.2.2.1 ?_
    obtain ⟨hi179, h⟩ := h
    refine jx_sld kd1142.2.2.2.2.2.2.2.2.1 hi179 ?_
    obtain ⟨hk180, h⟩ := h
    obtain ⟨hm181, h⟩ := h
    obtain ⟨d, hR, h⟩ := h
    refine jx_callVi (M' := mX10_rests) (As := [.int (xs (Int32.toNatClampNeg (x3 + 1)))]) jo_X10_rests jc_10 rfl jwM_L_81 jwN_X10_rests jwX_X10_rests kd1143.1 hR rfl (jle rfl) hm181 hk180 h (fun r183 S182 h => ?_)
    refine jx_pop kd1143.2.1 rfl ?_
    refine jx_aload_n 2 kd1143.2.2.1 rfl rfl ?_
    refine jx_aload_n 0 kd1143.2.2.2.1 rfl rfl ?_
    refine jx_iload_n 3 kd1143.2.2.2.2.1 rfl rfl ?_
    refine jx_iconst (v := 1) kd1143.2.2.2.2.2.1 (by decide) ?_
    refine jx_iadd kd1143.2.2.2.2.2.2.1 ?_
    refine jx_sld kd1143.2.2.2.2.2.2.2.1 hi179 ?_
    obtain ⟨hk184, h⟩ := h
    obtain ⟨hm185, h⟩ := h
    obtain ⟨d, hR, h⟩ := h
    refine jx_callVi (M' := mX11_rests) (As := [.int (xs (Int32.toNatClampNeg (x3 + 1)))]) jo_X11_rests jc_11 rfl jwM_L_84 jwN_X11_rests jwX_X11_rests kd1143.2.2.2.2.2.2.2.2.1 hR rfl (jle rfl) hm185 hk184 h (fun r187 S186 h => ?_)
    refine jx_pop kd1144.1 rfl ?_
    refine jx_goto (tgt := 1611) kd1144.2.1 (by decide) ?_
    refine jx_iinc 3 (v := (x3 + 6)) (lv1 := [(3, .int (x3 + 6)), (0, .ref a0), (1, .ref a1), (2, .ref a2)]) kd1214.2.2.2.2.2.2.1 rfl rfl (by show _ < 4; decide) rfl ?_
    refine jx_goto (tgt := 18) kd1214.2.2.2.2.2.2.2.1 (by decide) ?_
    exact jx_lv [1, 2, 3, 0] rfl h
  replace h := h.2
  by_cases c188 : ((xs (Int32.toNatClampNeg x3)) &&& 63) = 17
  · replace h := h.1 c188
    refine jx_tableIn (v := 17) (tgt := 785) (off := 752) kd1095.2.2.2.1 c188 (by decide) (by decide) (by decide) (by decide) ?_
    refine jx_aload_n 1 kd1144.2.2.1 rfl rfl ?_
    refine jx_aload_n 0 kd1144.2.2.2.1 rfl rfl ?_
    refine jx_iload_n 3 kd1144.2.2.2.2.1 rfl rfl ?_
    refine jx_iconst (v := 1) kd1144.2.2.2.2.2.1 (by decide) ?_
    refine jx_iadd kd1144.2.2.2.2.2.2.1 ?_
    obtain ⟨hi189, h⟩ := h
    refine jx_sld kd1144.2.2.2.2.2.2.2.1 hi189 ?_
    obtain ⟨hk190, h⟩ := h
    obtain ⟨hm191, h⟩ := h
    obtain ⟨d, hR, h⟩ := h
    refine jx_callVi (M' := mX10_wants) (As := [.int (xs (Int32.toNatClampNeg (x3 + 1)))]) jo_X10_wants jc_10 rfl jwM_L_85 jwN_X10_wants jwX_X10_wants kd1144.2.2.2.2.2.2.2.2.1 hR rfl (jle rfl) hm191 hk190 h (fun r193 S192 h => ?_)
    refine jx_pop kd1145.1 rfl ?_
    refine jx_aload_n 2 kd1145.2.1 rfl rfl ?_
    refine jx_aload_n 0 kd1145.2.2.1 rfl rfl ?_
    refine jx_iload_n 3 kd1145.2.2.2.1 rfl rfl ?_
    refine jx_iconst (v := 1) kd1145.2.2.2.2.1 (by decide) ?_
    refine jx_iadd kd1145.2.2.2.2.2.1 ?_
    refine jx_sld kd1145.2.2.2.2.2.2.1 hi189 ?_
    obtain ⟨hk194, h⟩ := h
    obtain ⟨hm195, h⟩ := h
    obtain ⟨d, hR, h⟩ := h
    refine jx_callVi (M' := mX11_wants) (As := [.int (xs (Int32.toNatClampNeg (x3 + 1)))]) jo_X11_wants jc_11 rfl jwM_L_88 jwN_X11_wants jwX_X11_wants kd1145.2.2.2.2.2.2.2.1 hR rfl (jle rfl) hm195 hk194 h (fun r197 S196 h => ?_)
    refine jx_pop kd1145.2.2.2.2.2.2.2.2.1 rfl ?_
    refine jx_goto (tgt := 1611) kd1146.1 (by decide) ?_
    refine jx_iinc 3 (v := (x3 + 6)) (lv1 := [(3, .int (x3 + 6)), (0, .ref a0), (1, .ref a1), (2, .ref a2)]) kd1214.2.2.2.2.2.2.1 rfl rfl (by show _ < 4; decide) rfl ?_
    refine jx_goto (tgt := 18) kd1214.2.2.2.2.2.2.2.1 (by decide) ?_
    exact jx_lv [1, 2, 3, 0] rfl h
  replace h := h.2
  by_cases c198 : ((xs (Int32.toNatClampNeg x3)) &&& 63) = 18
  · replace h := h.1 c198
    refine jx_tableIn (v := 18) (tgt := 808) (off := 775) kd1095.2.2.2.1 c198 (by decide) (by decide) (by decide) (by decide) ?_
    refine jx_aload_n 1 kd1146.2.1 rfl rfl ?_
    obtain ⟨hk199, h⟩ := h
    obtain ⟨hm200, h⟩ := h
    obtain ⟨d, hR, h⟩ := h
    refine jx_callVi (M' := mX10_clear) (As := []) jo_X10_clear jc_10 rfl jwM_L_89 jwN_X10_clear jwX_X10_clear kd1146.2.2.1 hR rfl (jle rfl) hm200 hk199 h (fun r202 S201 h => ?_)
    refine jx_pop kd1146.2.2.2.1 rfl ?_
    refine jx_aload_n 2 kd1146.2.2.2.2.1 rfl rfl ?_
    obtain ⟨hk203, h⟩ := h
    obtain ⟨hm204, h⟩ := h
    obtain ⟨d, hR, h⟩ := h
    refine jx_callVi (M' := mX11_clear) (As := []) jo_X11_clear jc_11 rfl jwM_L_93 jwN_X11_clear jwX_X11_clear kd1146.2.2.2.2.2.1 hR rfl (jle rfl) hm204 hk203 h (fun r206 S205 h => ?_)
    refine jx_pop kd1146.2.2.2.2.2.2.1 rfl ?_
    refine jx_goto (tgt := 1611) kd1146.2.2.2.2.2.2.2.1 (by decide) ?_
    refine jx_iinc 3 (v := (x3 + 6)) (lv1 := [(3, .int (x3 + 6)), (0, .ref a0), (1, .ref a1), (2, .ref a2)]) kd1214.2.2.2.2.2.2.1 rfl rfl (by show _ < 4; decide) rfl ?_
    refine jx_goto (tgt := 18) kd1214.2.2.2.2.2.2.2.1 (by decide) ?_
    exact jx_lv [1, 2, 3, 0] rfl h
  replace h := h.2
  by_cases c207 : ((xs (Int32.toNatClampNeg x3)) &&& 63) = 19
  · replace h := h.1 c207
    refine jx_tableIn (v := 19) (tgt := 821) (off := 788) kd1095.2.2.2.1 c207 (by decide) (by decide) (by decide) (by decide) ?_
    refine jx_aload_n 1 kd1146.2.2.2.2.2.2.2.2.1 rfl rfl ?_
    obtain ⟨hk208, h⟩ := h
    obtain ⟨hm209, h⟩ := h
    obtain ⟨d, hR, h⟩ := h
    refine jx_callVi (M' := mX10_made) (As := []) jo_X10_made jc_10 rfl jwM_L_94 jwN_X10_made jwX_X10_made kd1147.1 hR rfl (jle rfl) hm209 hk208 h (fun r211 S210 h => ?_)
    refine jx_pop kd1147.2.1 rfl ?_
    refine jx_aload_n 2 kd1147.2.2.1 rfl rfl ?_
    obtain ⟨hk212, h⟩ := h
    obtain ⟨hm213, h⟩ := h
    obtain ⟨d, hR, h⟩ := h
    refine jx_callVi (M' := mX11_made) (As := []) jo_X11_made jc_11 rfl jwM_L_97 jwN_X11_made jwX_X11_made kd1147.2.2.2.1 hR rfl (jle rfl) hm213 hk212 h (fun r215 S214 h => ?_)
    refine jx_pop kd1147.2.2.2.2.1 rfl ?_
    refine jx_goto (tgt := 1611) kd1147.2.2.2.2.2.1 (by decide) ?_
    refine jx_iinc 3 (v := (x3 + 6)) (lv1 := [(3, .int (x3 + 6)), (0, .ref a0), (1, .ref a1), (2, .ref a2)]) kd1214.2.2.2.2.2.2.1 rfl rfl (by show _ < 4; decide) rfl ?_
    refine jx_goto (tgt := 18) kd1214.2.2.2.2.2.2.2.1 (by decide) ?_
    exact jx_lv [1, 2, 3, 0] rfl h
  replace h := h.2
  by_cases c216 : ((xs (Int32.toNatClampNeg x3)) &&& 63) = 20
  · replace h := h.1 c216
    refine jx_tableIn (v := 20) (tgt := 834) (off := 801) kd1095.2.2.2.1 c216 (by decide) (by decide) (by decide) (by decide) ?_
    refine jx_aload_n 1 kd1147.2.2.2.2.2.2.1 rfl rfl ?_
    refine jx_aload_n 0 kd1147.2.2.2.2.2.2.2.1 rfl rfl ?_
    refine jx_iload_n 3 kd1147.2.2.2.2.2.2.2.2.1 rfl rfl ?_
    refine jx_iconst (v := 1) kd1148.1 (by decide) ?_
    refine jx_iadd kd1148.2.1 ?_
    obtain ⟨hi217, h⟩ := h
    refine jx_sld kd1148.2.2.1 hi217 ?_
    obtain ⟨hk218, h⟩ := h
    obtain ⟨hm219, h⟩ := h
    obtain ⟨d, hR, h⟩ := h
    refine jx_callVi (M' := mX10_soonest) (As := [.int (xs (Int32.toNatClampNeg (x3 + 1)))]) jo_X10_soonest jc_10 rfl jwM_L_98 jwN_X10_soonest jwX_X10_soonest kd1148.2.2.2.1 hR rfl (jle rfl) hm219 hk218 h (fun r221 S220 h => ?_)
    refine jx_pop kd1148.2.2.2.2.1 rfl ?_
    refine jx_aload_n 2 kd1148.2.2.2.2.2.1 rfl rfl ?_
    refine jx_aload_n 0 kd1148.2.2.2.2.2.2.1 rfl rfl ?_
    refine jx_iload_n 3 kd1148.2.2.2.2.2.2.2.1 rfl rfl ?_
    refine jx_iconst (v := 1) kd1148.2.2.2.2.2.2.2.2.1 (by decide) ?_
    refine jx_iadd kd1149.1 ?_
    refine jx_sld kd1149.2.1 hi217 ?_
    obtain ⟨hk222, h⟩ := h
    obtain ⟨hm223, h⟩ := h
    obtain ⟨d, hR, h⟩ := h
    refine jx_callVi (M' := mX11_soonest) (As := [.int (xs (Int32.toNatClampNeg (x3 + 1)))]) jo_X11_soonest jc_11 rfl jwM_L_101 jwN_X11_soonest jwX_X11_soonest kd1149.2.2.1 hR rfl (jle rfl) hm223 hk222 h (fun r225 S224 h => ?_)
    refine jx_pop kd1149.2.2.2.1 rfl ?_
    refine jx_goto (tgt := 1611) kd1149.2.2.2.2.1 (by decide) ?_
    refine jx_iinc 3 (v := (x3 + 6)) (lv1 := [(3, .int (x3 + 6)), (0, .ref a0), (1, .ref a1), (2, .ref a2)]) kd1214.2.2.2.2.2.2.1 rfl rfl (by show _ < 4; decide) rfl ?_
    refine jx_goto (tgt := 18) kd1214.2.2.2.2.2.2.2.1 (by decide) ?_
    exact jx_lv [1, 2, 3, 0] rfl h
  replace h := h.2
  by_cases c226 : ((xs (Int32.toNatClampNeg x3)) &&& 63) = 21
  · replace h := h.1 c226
    refine jx_tableIn (v := 21) (tgt := 857) (off := 824) kd1095.2.2.2.1 c226 (by decide) (by decide) (by decide) (by decide) ?_
    refine jx_aload_n 1 kd1149.2.2.2.2.2.1 rfl rfl ?_
    refine jx_aload_n 0 kd1149.2.2.2.2.2.2.1 rfl rfl ?_
    refine jx_iload_n 3 kd1149.2.2.2.2.2.2.2.1 rfl rfl ?_
    refine jx_iconst (v := 1) kd1149.2.2.2.2.2.2.2.2.1 (by decide) ?_
    refine jx_iadd kd1150.1 ?_
    obtain ⟨hi227, h⟩ := h
    refine jx_sld kd1150.2.1 hi227 ?_
    obtain ⟨hk228, h⟩ := h
    obtain ⟨hm229, h⟩ := h
    obtain ⟨d, hR, h⟩ := h
    refine jx_callVi (M' := mX10_together) (As := [.int (xs (Int32.toNatClampNeg (x3 + 1)))]) jo_X10_together jc_10 rfl jwM_L_102 jwN_X10_together jwX_X10_together kd1150.2.2.1 hR rfl (jle rfl) hm229 hk228 h (fun r231 S230 h => ?_)
    refine jx_pop kd1150.2.2.2.1 rfl ?_
    refine jx_aload_n 2 kd1150.2.2.2.2.1 rfl rfl ?_
    refine jx_aload_n 0 kd1150.2.2.2.2.2.1 rfl rfl ?_
    refine jx_iload_n 3 kd1150.2.2.2.2.2.2.1 rfl rfl ?_
    refine jx_iconst (v := 1) kd1150.2.2.2.2.2.2.2.1 (by decide) ?_
    refine jx_iadd kd1150.2.2.2.2.2.2.2.2.1 ?_
    refine jx_sld kd1151.1 hi227 ?_
    obtain ⟨hk232, h⟩ := h
    obtain ⟨hm233, h⟩ := h
    obtain ⟨d, hR, h⟩ := h
    refine jx_callVi (M' := mX11_together) (As := [.int (xs (Int32.toNatClampNeg (x3 + 1)))]) jo_X11_together jc_11 rfl jwM_L_105 jwN_X11_together jwX_X11_together kd1151.2.1 hR rfl (jle rfl) hm233 hk232 h (fun r235 S234 h => ?_)
    refine jx_pop kd1151.2.2.1 rfl ?_
    refine jx_goto (tgt := 1611) kd1151.2.2.2.1 (by decide) ?_
    refine jx_iinc 3 (v := (x3 + 6)) (lv1 := [(3, .int (x3 + 6)), (0, .ref a0), (1, .ref a1), (2, .ref a2)]) kd1214.2.2.2.2.2.2.1 rfl rfl (by show _ < 4; decide) rfl ?_
    refine jx_goto (tgt := 18) kd1214.2.2.2.2.2.2.2.1 (by decide) ?_
    exact jx_lv [1, 2, 3, 0] rfl h
  replace h := h.2
  by_cases c236 : ((xs (Int32.toNatClampNeg x3)) &&& 63) = 22
  · replace h := h.1 c236
    refine jx_tableIn (v := 22) (tgt := 880) (off := 847) kd1095.2.2.2.1 c236 (by decide) (by decide) (by decide) (by decide) ?_
    refine jx_aload_n 1 kd1151.2.2.2.2.1 rfl rfl ?_
    obtain ⟨hk237, h⟩ := h
    obtain ⟨hm238, h⟩ := h
    obtain ⟨d, hR, h⟩ := h
    refine jx_callVi (M' := mX10_never) (As := []) jo_X10_never jc_10 rfl jwM_L_106 jwN_X10_never jwX_X10_never kd1151.2.2.2.2.2.1 hR rfl (jle rfl) hm238 hk237 h (fun r240 S239 h => ?_)
    refine jx_pop kd1151.2.2.2.2.2.2.1 rfl ?_
    refine jx_aload_n 2 kd1151.2.2.2.2.2.2.2.1 rfl rfl ?_
    obtain ⟨hk241, h⟩ := h
    obtain ⟨hm242, h⟩ := h
    obtain ⟨d, hR, h⟩ := h
    refine jx_callVi (M' := mX11_never) (As := []) jo_X11_never jc_11 rfl jwM_L_109 jwN_X11_never jwX_X11_never kd1151.2.2.2.2.2.2.2.2.1 hR rfl (jle rfl) hm242 hk241 h (fun r244 S243 h => ?_)
    refine jx_pop kd1152.1 rfl ?_
    refine jx_goto (tgt := 1611) kd1152.2.1 (by decide) ?_
    refine jx_iinc 3 (v := (x3 + 6)) (lv1 := [(3, .int (x3 + 6)), (0, .ref a0), (1, .ref a1), (2, .ref a2)]) kd1214.2.2.2.2.2.2.1 rfl rfl (by show _ < 4; decide) rfl ?_
    refine jx_goto (tgt := 18) kd1214.2.2.2.2.2.2.2.1 (by decide) ?_
    exact jx_lv [1, 2, 3, 0] rfl h
  replace h := h.2
  by_cases c245 : ((xs (Int32.toNatClampNeg x3)) &&& 63) = 23
  · replace h := h.1 c245
    refine jx_tableIn (v := 23) (tgt := 893) (off := 860) kd1095.2.2.2.1 c245 (by decide) (by decide) (by decide) (by decide) ?_
    refine jx_aload_n 1 kd1152.2.2.1 rfl rfl ?_
    refine jx_aload_n 0 kd1152.2.2.2.1 rfl rfl ?_
    refine jx_iload_n 3 kd1152.2.2.2.2.1 rfl rfl ?_
    refine jx_iconst (v := 1) kd1152.2.2.2.2.2.1 (by decide) ?_
    refine jx_iadd kd1152.2.2.2.2.2.2.1 ?_
    obtain ⟨hi246, h⟩ := h
    refine jx_sld kd1152.2.2.2.2.2.2.2.1 hi246 ?_
    obtain ⟨hk247, h⟩ := h
    obtain ⟨hm248, h⟩ := h
    obtain ⟨d, hR, h⟩ := h
    refine jx_callVi (M' := mX10_last) (As := [.int (xs (Int32.toNatClampNeg (x3 + 1)))]) jo_X10_last jc_10 rfl jwM_L_110 jwN_X10_last jwX_X10_last kd1152.2.2.2.2.2.2.2.2.1 hR rfl (jle rfl) hm248 hk247 h (fun r250 S249 h => ?_)
    refine jx_pop kd1153.1 rfl ?_
    refine jx_aload_n 2 kd1153.2.1 rfl rfl ?_
    refine jx_aload_n 0 kd1153.2.2.1 rfl rfl ?_
    refine jx_iload_n 3 kd1153.2.2.2.1 rfl rfl ?_
    refine jx_iconst (v := 1) kd1153.2.2.2.2.1 (by decide) ?_
    refine jx_iadd kd1153.2.2.2.2.2.1 ?_
    refine jx_sld kd1153.2.2.2.2.2.2.1 hi246 ?_
    obtain ⟨hk251, h⟩ := h
    obtain ⟨hm252, h⟩ := h
    obtain ⟨d, hR, h⟩ := h
    refine jx_callVi (M' := mX11_last) (As := [.int (xs (Int32.toNatClampNeg (x3 + 1)))]) jo_X11_last jc_11 rfl jwM_L_113 jwN_X11_last jwX_X11_last kd1153.2.2.2.2.2.2.2.1 hR rfl (jle rfl) hm252 hk251 h (fun r254 S253 h => ?_)
    refine jx_pop kd1153.2.2.2.2.2.2.2.2.1 rfl ?_
    refine jx_goto (tgt := 1611) kd1154.1 (by decide) ?_
    refine jx_iinc 3 (v := (x3 + 6)) (lv1 := [(3, .int (x3 + 6)), (0, .ref a0), (1, .ref a1), (2, .ref a2)]) kd1214.2.2.2.2.2.2.1 rfl rfl (by show _ < 4; decide) rfl ?_
    refine jx_goto (tgt := 18) kd1214.2.2.2.2.2.2.2.1 (by decide) ?_
    exact jx_lv [1, 2, 3, 0] rfl h
  replace h := h.2
  by_cases c255 : ((xs (Int32.toNatClampNeg x3)) &&& 63) = 24
  · replace h := h.1 c255
    refine jx_tableIn (v := 24) (tgt := 916) (off := 883) kd1095.2.2.2.1 c255 (by decide) (by decide) (by decide) (by decide) ?_
    refine jx_aload_n 1 kd1154.2.1 rfl rfl ?_
    refine jx_aload_n 0 kd1154.2.2.1 rfl rfl ?_
    refine jx_iload_n 3 kd1154.2.2.2.1 rfl rfl ?_
    refine jx_iconst (v := 1) kd1154.2.2.2.2.1 (by decide) ?_
    refine jx_iadd kd1154.2.2.2.2.2.1 ?_
    obtain ⟨hi256, h⟩ := h
    refine jx_sld kd1154.2.2.2.2.2.2.1 hi256 ?_
    obtain ⟨hk257, h⟩ := h
    obtain ⟨hm258, h⟩ := h
    obtain ⟨d, hR, h⟩ := h
    refine jx_callVi (M' := mX10_years) (As := [.int (xs (Int32.toNatClampNeg (x3 + 1)))]) jo_X10_years jc_10 rfl jwM_L_114 jwN_X10_years jwX_X10_years kd1154.2.2.2.2.2.2.2.1 hR rfl (jle rfl) hm258 hk257 h (fun r260 S259 h => ?_)
    refine jx_pop kd1154.2.2.2.2.2.2.2.2.1 rfl ?_
    refine jx_aload_n 2 kd1155.1 rfl rfl ?_
    refine jx_aload_n 0 kd1155.2.1 rfl rfl ?_
    refine jx_iload_n 3 kd1155.2.2.1 rfl rfl ?_
    refine jx_iconst (v := 1) kd1155.2.2.2.1 (by decide) ?_
    refine jx_iadd kd1155.2.2.2.2.1 ?_
    refine jx_sld kd1155.2.2.2.2.2.1 hi256 ?_
    obtain ⟨hk261, h⟩ := h
    obtain ⟨hm262, h⟩ := h
    obtain ⟨d, hR, h⟩ := h
    refine jx_callVi (M' := mX11_years) (As := [.int (xs (Int32.toNatClampNeg (x3 + 1)))]) jo_X11_years jc_11 rfl jwM_L_117 jwN_X11_years jwX_X11_years kd1155.2.2.2.2.2.2.1 hR rfl (jle rfl) hm262 hk261 h (fun r264 S263 h => ?_)
    refine jx_pop kd1155.2.2.2.2.2.2.2.1 rfl ?_
    refine jx_goto (tgt := 1611) kd1155.2.2.2.2.2.2.2.2.1 (by decide) ?_
    refine jx_iinc 3 (v := (x3 + 6)) (lv1 := [(3, .int (x3 + 6)), (0, .ref a0), (1, .ref a1), (2, .ref a2)]) kd1214.2.2.2.2.2.2.1 rfl rfl (by show _ < 4; decide) rfl ?_
    refine jx_goto (tgt := 18) kd1214.2.2.2.2.2.2.2.1 (by decide) ?_
    exact jx_lv [1, 2, 3, 0] rfl h
  replace h := h.2
  by_cases c265 : ((xs (Int32.toNatClampNeg x3)) &&& 63) = 25
  · replace h := h.1 c265
    refine jx_tableIn (v := 25) (tgt := 939) (off := 906) kd1095.2.2.2.1 c265 (by decide) (by decide) (by decide) (by decide) ?_
    refine jx_aload_n 1 kd1156.1 rfl rfl ?_
    refine jx_aload_n 0 kd1156.2.1 rfl rfl ?_
    refine jx_iload_n 3 kd1156.2.2.1 rfl rfl ?_
    refine jx_iconst (v := 1) kd1156.2.2.2.1 (by decide) ?_
    refine jx_iadd kd1156.2.2.2.2.1 ?_
    obtain ⟨hi266, h⟩ := h
    refine jx_sld kd1156.2.2.2.2.2.1 hi266 ?_
    obtain ⟨hk267, h⟩ := h
    obtain ⟨hm268, h⟩ := h
    obtain ⟨d, hR, h⟩ := h
    refine jx_callVi (M' := mX10_gone) (As := [.int (xs (Int32.toNatClampNeg (x3 + 1)))]) jo_X10_gone jc_10 rfl jwM_L_118 jwN_X10_gone jwX_X10_gone kd1156.2.2.2.2.2.2.1 hR rfl (jle rfl) hm268 hk267 h (fun r270 S269 h => ?_)
    refine jx_pop kd1156.2.2.2.2.2.2.2.1 rfl ?_
    refine jx_aload_n 2 kd1156.2.2.2.2.2.2.2.2.1 rfl rfl ?_
    refine jx_aload_n 0 kd1157.1 rfl rfl ?_
    refine jx_iload_n 3 kd1157.2.1 rfl rfl ?_
    refine jx_iconst (v := 1) kd1157.2.2.1 (by decide) ?_
    refine jx_iadd kd1157.2.2.2.1 ?_
    refine jx_sld kd1157.2.2.2.2.1 hi266 ?_
    obtain ⟨hk271, h⟩ := h
    obtain ⟨hm272, h⟩ := h
    obtain ⟨d, hR, h⟩ := h
    refine jx_callVi (M' := mX11_gone) (As := [.int (xs (Int32.toNatClampNeg (x3 + 1)))]) jo_X11_gone jc_11 rfl jwM_L_121 jwN_X11_gone jwX_X11_gone kd1157.2.2.2.2.2.1 hR rfl (jle rfl) hm272 hk271 h (fun r274 S273 h => ?_)
    refine jx_pop kd1157.2.2.2.2.2.2.1 rfl ?_
    refine jx_goto (tgt := 1611) kd1157.2.2.2.2.2.2.2.1 (by decide) ?_
    refine jx_iinc 3 (v := (x3 + 6)) (lv1 := [(3, .int (x3 + 6)), (0, .ref a0), (1, .ref a1), (2, .ref a2)]) kd1214.2.2.2.2.2.2.1 rfl rfl (by show _ < 4; decide) rfl ?_
    refine jx_goto (tgt := 18) kd1214.2.2.2.2.2.2.2.1 (by decide) ?_
    exact jx_lv [1, 2, 3, 0] rfl h
  replace h := h.2
  by_cases c275 : ((xs (Int32.toNatClampNeg x3)) &&& 63) = 26
  · replace h := h.1 c275
    refine jx_tableIn (v := 26) (tgt := 962) (off := 929) kd1095.2.2.2.1 c275 (by decide) (by decide) (by decide) (by decide) ?_
    refine jx_aload_n 1 kd1157.2.2.2.2.2.2.2.2.1 rfl rfl ?_
    obtain ⟨hk276, h⟩ := h
    obtain ⟨hm277, h⟩ := h
    obtain ⟨d, hR, h⟩ := h
    refine jx_callVi (M' := mX10_fresh) (As := []) jo_X10_fresh jc_10 rfl jwM_L_122 jwN_X10_fresh jwX_X10_fresh kd1158.1 hR rfl (jle rfl) hm277 hk276 h (fun r279 S278 h => ?_)
    refine jx_pop kd1158.2.1 rfl ?_
    refine jx_aload_n 2 kd1158.2.2.1 rfl rfl ?_
    obtain ⟨hk280, h⟩ := h
    obtain ⟨hm281, h⟩ := h
    obtain ⟨d, hR, h⟩ := h
    refine jx_callVi (M' := mX11_fresh) (As := []) jo_X11_fresh jc_11 rfl jwM_L_125 jwN_X11_fresh jwX_X11_fresh kd1158.2.2.2.1 hR rfl (jle rfl) hm281 hk280 h (fun r283 S282 h => ?_)
    refine jx_pop kd1158.2.2.2.2.1 rfl ?_
    refine jx_goto (tgt := 1611) kd1158.2.2.2.2.2.1 (by decide) ?_
    refine jx_iinc 3 (v := (x3 + 6)) (lv1 := [(3, .int (x3 + 6)), (0, .ref a0), (1, .ref a1), (2, .ref a2)]) kd1214.2.2.2.2.2.2.1 rfl rfl (by show _ < 4; decide) rfl ?_
    refine jx_goto (tgt := 18) kd1214.2.2.2.2.2.2.2.1 (by decide) ?_
    exact jx_lv [1, 2, 3, 0] rfl h
  replace h := h.2
  by_cases c284 : ((xs (Int32.toNatClampNeg x3)) &&& 63) = 27
  · replace h := h.1 c284
    refine jx_tableIn (v := 27) (tgt := 975) (off := 942) kd1095.2.2.2.1 c284 (by decide) (by decide) (by decide) (by decide) ?_
    refine jx_aload_n 1 kd1158.2.2.2.2.2.2.1 rfl rfl ?_
    refine jx_aload_n 0 kd1158.2.2.2.2.2.2.2.1 rfl rfl ?_
    refine jx_iload_n 3 kd1158.2.2.2.2.2.2.2.2.1 rfl rfl ?_
    refine jx_iconst (v := 1) kd1159.1 (by decide) ?_
    refine jx_iadd kd1159.2.1 ?_
    obtain ⟨hi285, h⟩ := h
    refine jx_sld kd1159.2.2.1 hi285 ?_
    refine jx_aload_n 0 kd1159.2.2.2.1 rfl rfl ?_
    refine jx_iload_n 3 kd1159.2.2.2.2.1 rfl rfl ?_
    refine jx_iconst (v := 2) kd1159.2.2.2.2.2.1 (by decide) ?_
    refine jx_iadd kd1159.2.2.2.2.2.2.1 ?_
    obtain ⟨hi286, h⟩ := h
    refine jx_sld kd1159.2.2.2.2.2.2.2.1 hi286 ?_
    obtain ⟨hk287, h⟩ := h
    obtain ⟨hm288, h⟩ := h
    obtain ⟨d, hR, h⟩ := h
    refine jx_callVi (M' := mX10_cut) (As := [.int (xs (Int32.toNatClampNeg (x3 + 1))), .int (xs (Int32.toNatClampNeg (x3 + 2)))]) jo_X10_cut jc_10 rfl jwM_L_126 jwN_X10_cut jwX_X10_cut kd1159.2.2.2.2.2.2.2.2.1 hR rfl (jle rfl) hm288 hk287 h (fun r290 S289 h => ?_)
    refine jx_pop kd1160.1 rfl ?_
    refine jx_aload_n 2 kd1160.2.1 rfl rfl ?_
    refine jx_aload_n 0 kd1160.2.2.1 rfl rfl ?_
    refine jx_iload_n 3 kd1160.2.2.2.1 rfl rfl ?_
    refine jx_iconst (v := 1) kd1160.2.2.2.2.1 (by decide) ?_
    refine jx_iadd kd1160.2.2.2.2.2.1 ?_
    refine jx_sld kd1160.2.2.2.2.2.2.1 hi285 ?_
    refine jx_aload_n 0 kd1160.2.2.2.2.2.2.2.1 rfl rfl ?_
    refine jx_iload_n 3 kd1160.2.2.2.2.2.2.2.2.1 rfl rfl ?_
    refine jx_iconst (v := 2) kd1161.1 (by decide) ?_
    refine jx_iadd kd1161.2.1 ?_
    refine jx_sld kd1161.2.2.1 hi286 ?_
    obtain ⟨hk291, h⟩ := h
    obtain ⟨hm292, h⟩ := h
    obtain ⟨d, hR, h⟩ := h
    refine jx_callVi (M' := mX11_cut) (As := [.int (xs (Int32.toNatClampNeg (x3 + 1))), .int (xs (Int32.toNatClampNeg (x3 + 2)))]) jo_X11_cut jc_11 rfl jwM_L_129 jwN_X11_cut jwX_X11_cut kd1161.2.2.2.1 hR rfl (jle rfl) hm292 hk291 h (fun r294 S293 h => ?_)
    refine jx_pop kd1161.2.2.2.2.1 rfl ?_
    refine jx_goto (tgt := 1611) kd1161.2.2.2.2.2.1 (by decide) ?_
    refine jx_iinc 3 (v := (x3 + 6)) (lv1 := [(3, .int (x3 + 6)), (0, .ref a0), (1, .ref a1), (2, .ref a2)]) kd1214.2.2.2.2.2.2.1 rfl rfl (by show _ < 4; decide) rfl ?_
    refine jx_goto (tgt := 18) kd1214.2.2.2.2.2.2.2.1 (by decide) ?_
    exact jx_lv [1, 2, 3, 0] rfl h
  replace h := h.2
  by_cases c295 : ((xs (Int32.toNatClampNeg x3)) &&& 63) = 28
  · replace h := h.1 c295
    refine jx_tableIn (v := 28) (tgt := 1008) (off := 975) kd1095.2.2.2.1 c295 (by decide) (by decide) (by decide) (by decide) ?_
    refine jx_aload_n 1 kd1161.2.2.2.2.2.2.1 rfl rfl ?_
    refine jx_aload_n 0 kd1161.2.2.2.2.2.2.2.1 rfl rfl ?_
    refine jx_iload_n 3 kd1161.2.2.2.2.2.2.2.2.1 rfl rfl ?_
    refine jx_iconst (v := 1) kd1162.1 (by decide) ?_
    refine jx_iadd kd1162.2.1 ?_
    obtain ⟨hi296, h⟩ := h
    refine jx_sld kd1162.2.2.1 hi296 ?_
    obtain ⟨hk297, h⟩ := h
    obtain ⟨hm298, h⟩ := h
    obtain ⟨d, hR, h⟩ := h
    refine jx_callVi (M' := mX10_fame) (As := [.int (xs (Int32.toNatClampNeg (x3 + 1)))]) jo_X10_fame jc_10 rfl jwM_L_130 jwN_X10_fame jwX_X10_fame kd1162.2.2.2.1 hR rfl (jle rfl) hm298 hk297 h (fun r300 S299 h => ?_)
    refine jx_pop kd1162.2.2.2.2.1 rfl ?_
    refine jx_aload_n 2 kd1162.2.2.2.2.2.1 rfl rfl ?_
    refine jx_aload_n 0 kd1162.2.2.2.2.2.2.1 rfl rfl ?_
    refine jx_iload_n 3 kd1162.2.2.2.2.2.2.2.1 rfl rfl ?_
    refine jx_iconst (v := 1) kd1162.2.2.2.2.2.2.2.2.1 (by decide) ?_
    refine jx_iadd kd1163.1 ?_
    refine jx_sld kd1163.2.1 hi296 ?_
    obtain ⟨hk301, h⟩ := h
    obtain ⟨hm302, h⟩ := h
    obtain ⟨d, hR, h⟩ := h
    refine jx_callVi (M' := mX11_fame) (As := [.int (xs (Int32.toNatClampNeg (x3 + 1)))]) jo_X11_fame jc_11 rfl jwM_L_133 jwN_X11_fame jwX_X11_fame kd1163.2.2.1 hR rfl (jle rfl) hm302 hk301 h (fun r304 S303 h => ?_)
    refine jx_pop kd1163.2.2.2.1 rfl ?_
    refine jx_goto (tgt := 1611) kd1163.2.2.2.2.1 (by decide) ?_
    refine jx_iinc 3 (v := (x3 + 6)) (lv1 := [(3, .int (x3 + 6)), (0, .ref a0), (1, .ref a1), (2, .ref a2)]) kd1214.2.2.2.2.2.2.1 rfl rfl (by show _ < 4; decide) rfl ?_
    refine jx_goto (tgt := 18) kd1214.2.2.2.2.2.2.2.1 (by decide) ?_
    exact jx_lv [1, 2, 3, 0] rfl h
  replace h := h.2
  by_cases c305 : ((xs (Int32.toNatClampNeg x3)) &&& 63) = 29
  · replace h := h.1 c305
    refine jx_tableIn (v := 29) (tgt := 1031) (off := 998) kd1095.2.2.2.1 c305 (by decide) (by decide) (by decide) (by decide) ?_
    refine jx_aload_n 1 kd1163.2.2.2.2.2.1 rfl rfl ?_
    obtain ⟨hk306, h⟩ := h
    obtain ⟨hm307, h⟩ := h
    obtain ⟨d, hR, h⟩ := h
    refine jx_callVi (M' := mX10_fine) (As := []) jo_X10_fine jc_10 rfl jwM_L_134 jwN_X10_fine jwX_X10_fine kd1163.2.2.2.2.2.2.1 hR rfl (jle rfl) hm307 hk306 h (fun r309 S308 h => ?_)
    refine jx_pop kd1163.2.2.2.2.2.2.2.1 rfl ?_
    refine jx_aload_n 2 kd1163.2.2.2.2.2.2.2.2.1 rfl rfl ?_
    obtain ⟨hk310, h⟩ := h
    obtain ⟨hm311, h⟩ := h
    obtain ⟨d, hR, h⟩ := h
    refine jx_callVi (M' := mX11_fine) (As := []) jo_X11_fine jc_11 rfl jwM_L_137 jwN_X11_fine jwX_X11_fine kd1164.1 hR rfl (jle rfl) hm311 hk310 h (fun r313 S312 h => ?_)
    refine jx_pop kd1164.2.1 rfl ?_
    refine jx_goto (tgt := 1611) kd1164.2.2.1 (by decide) ?_
    refine jx_iinc 3 (v := (x3 + 6)) (lv1 := [(3, .int (x3 + 6)), (0, .ref a0), (1, .ref a1), (2, .ref a2)]) kd1214.2.2.2.2.2.2.1 rfl rfl (by show _ < 4; decide) rfl ?_
    refine jx_goto (tgt := 18) kd1214.2.2.2.2.2.2.2.1 (by decide) ?_
    exact jx_lv [1, 2, 3, 0] rfl h
  replace h := h.2
  by_cases c314 : ((xs (Int32.toNatClampNeg x3)) &&& 63) = 30
  · replace h := h.1 c314
    refine jx_tableIn (v := 30) (tgt := 1044) (off := 1011) kd1095.2.2.2.1 c314 (by decide) (by decide) (by decide) (by decide) ?_
    refine jx_aload_n 1 kd1164.2.2.2.1 rfl rfl ?_
    refine jx_aload_n 0 kd1164.2.2.2.2.1 rfl rfl ?_
    refine jx_iload_n 3 kd1164.2.2.2.2.2.1 rfl rfl ?_
    refine jx_iconst (v := 1) kd1164.2.2.2.2.2.2.1 (by decide) ?_
    refine jx_iadd kd1164.2.2.2.2.2.2.2.1 ?_
    obtain ⟨hi315, h⟩ := h
    refine jx_sld kd1164.2.2.2.2.2.2.2.2.1 hi315 ?_
    refine jx_aload_n 0 kd1165.1 rfl rfl ?_
    refine jx_iload_n 3 kd1165.2.1 rfl rfl ?_
    refine jx_iconst (v := 2) kd1165.2.2.1 (by decide) ?_
    refine jx_iadd kd1165.2.2.2.1 ?_
    obtain ⟨hi316, h⟩ := h
    refine jx_sld kd1165.2.2.2.2.1 hi316 ?_
    refine jx_aload_n 0 kd1165.2.2.2.2.2.1 rfl rfl ?_
    refine jx_iload_n 3 kd1165.2.2.2.2.2.2.1 rfl rfl ?_
    refine jx_iconst (v := 3) kd1165.2.2.2.2.2.2.2.1 (by decide) ?_
    refine jx_iadd kd1165.2.2.2.2.2.2.2.2.1 ?_
    obtain ⟨hi317, h⟩ := h
    refine jx_sld kd1166.1 hi317 ?_
    obtain ⟨hk318, h⟩ := h
    obtain ⟨hm319, h⟩ := h
    obtain ⟨d, hR, h⟩ := h
    refine jx_callVi (M' := mX10_feed) (As := [.int (xs (Int32.toNatClampNeg (x3 + 1))), .int (xs (Int32.toNatClampNeg (x3 + 2))), .int (xs (Int32.toNatClampNeg (x3 + 3)))]) jo_X10_feed jc_10 rfl jwM_L_138 jwN_X10_feed jwX_X10_feed kd1166.2.1 hR rfl (jle rfl) hm319 hk318 h (fun r321 S320 h => ?_)
    refine jx_pop kd1166.2.2.1 rfl ?_
    refine jx_aload_n 2 kd1166.2.2.2.1 rfl rfl ?_
    refine jx_aload_n 0 kd1166.2.2.2.2.1 rfl rfl ?_
    refine jx_iload_n 3 kd1166.2.2.2.2.2.1 rfl rfl ?_
    refine jx_iconst (v := 1) kd1166.2.2.2.2.2.2.1 (by decide) ?_
    refine jx_iadd kd1166.2.2.2.2.2.2.2.1 ?_
    refine jx_sld kd1166.2.2.2.2.2.2.2.2.1 hi315 ?_
    refine jx_aload_n 0 kd1167.1 rfl rfl ?_
    refine jx_iload_n 3 kd1167.2.1 rfl rfl ?_
    refine jx_iconst (v := 2) kd1167.2.2.1 (by decide) ?_
    refine jx_iadd kd1167.2.2.2.1 ?_
    refine jx_sld kd1167.2.2.2.2.1 hi316 ?_
    refine jx_aload_n 0 kd1167.2.2.2.2.2.1 rfl rfl ?_
    refine jx_iload_n 3 kd1167.2.2.2.2.2.2.1 rfl rfl ?_
    refine jx_iconst (v := 3) kd1167.2.2.2.2.2.2.2.1 (by decide) ?_
    refine jx_iadd kd1167.2.2.2.2.2.2.2.2.1 ?_
    refine jx_sld kd1168.1 hi317 ?_
    obtain ⟨hk322, h⟩ := h
    obtain ⟨hm323, h⟩ := h
    obtain ⟨d, hR, h⟩ := h
    refine jx_callVi (M' := mX11_feed) (As := [.int (xs (Int32.toNatClampNeg (x3 + 1))), .int (xs (Int32.toNatClampNeg (x3 + 2))), .int (xs (Int32.toNatClampNeg (x3 + 3)))]) jo_X11_feed jc_11 rfl jwM_L_141 jwN_X11_feed jwX_X11_feed kd1168.2.1 hR rfl (jle rfl) hm323 hk322 h (fun r325 S324 h => ?_)
    refine jx_pop kd1168.2.2.1 rfl ?_
    refine jx_goto (tgt := 1611) kd1168.2.2.2.1 (by decide) ?_
    refine jx_iinc 3 (v := (x3 + 6)) (lv1 := [(3, .int (x3 + 6)), (0, .ref a0), (1, .ref a1), (2, .ref a2)]) kd1214.2.2.2.2.2.2.1 rfl rfl (by show _ < 4; decide) rfl ?_
    refine jx_goto (tgt := 18) kd1214.2.2.2.2.2.2.2.1 (by decide) ?_
    exact jx_lv [1, 2, 3, 0] rfl h
  replace h := h.2
  by_cases c326 : ((xs (Int32.toNatClampNeg x3)) &&& 63) = 31
  · replace h := h.1 c326
    refine jx_tableIn (v := 31) (tgt := 1087) (off := 1054) kd1095.2.2.2.1 c326 (by decide) (by decide) (by decide) (by decide) ?_
    refine jx_aload_n 1 kd1168.2.2.2.2.1 rfl rfl ?_
    refine jx_aload_n 0 kd1168.2.2.2.2.2.1 rfl rfl ?_
    refine jx_iload_n 3 kd1168.2.2.2.2.2.2.1 rfl rfl ?_
    refine jx_iconst (v := 1) kd1168.2.2.2.2.2.2.2.1 (by decide) ?_
    refine jx_iadd kd1168.2.2.2.2.2.2.2.2.1 ?_
    obtain ⟨hi327, h⟩ := h
    refine jx_sld kd1169.1 hi327 ?_
    obtain ⟨hk328, h⟩ := h
    obtain ⟨hm329, h⟩ := h
    obtain ⟨d, hR, h⟩ := h
    refine jx_callVi (M' := mX10_trim) (As := [.int (xs (Int32.toNatClampNeg (x3 + 1)))]) jo_X10_trim jc_10 rfl jwM_L_142 jwN_X10_trim jwX_X10_trim kd1169.2.1 hR rfl (jle rfl) hm329 hk328 h (fun r331 S330 h => ?_)
    refine jx_pop kd1169.2.2.1 rfl ?_
    refine jx_aload_n 2 kd1169.2.2.2.1 rfl rfl ?_
    refine jx_aload_n 0 kd1169.2.2.2.2.1 rfl rfl ?_
    refine jx_iload_n 3 kd1169.2.2.2.2.2.1 rfl rfl ?_
    refine jx_iconst (v := 1) kd1169.2.2.2.2.2.2.1 (by decide) ?_
    refine jx_iadd kd1169.2.2.2.2.2.2.2.1 ?_
    refine jx_sld kd1169.2.2.2.2.2.2.2.2.1 hi327 ?_
    obtain ⟨hk332, h⟩ := h
    obtain ⟨hm333, h⟩ := h
    obtain ⟨d, hR, h⟩ := h
    refine jx_callVi (M' := mX11_trim) (As := [.int (xs (Int32.toNatClampNeg (x3 + 1)))]) jo_X11_trim jc_11 rfl jwM_L_145 jwN_X11_trim jwX_X11_trim kd1170.1 hR rfl (jle rfl) hm333 hk332 h (fun r335 S334 h => ?_)
    refine jx_pop kd1170.2.1 rfl ?_
    refine jx_goto (tgt := 1611) kd1170.2.2.1 (by decide) ?_
    refine jx_iinc 3 (v := (x3 + 6)) (lv1 := [(3, .int (x3 + 6)), (0, .ref a0), (1, .ref a1), (2, .ref a2)]) kd1214.2.2.2.2.2.2.1 rfl rfl (by show _ < 4; decide) rfl ?_
    refine jx_goto (tgt := 18) kd1214.2.2.2.2.2.2.2.1 (by decide) ?_
    exact jx_lv [1, 2, 3, 0] rfl h
  replace h := h.2
  by_cases c336 : ((xs (Int32.toNatClampNeg x3)) &&& 63) = 32
  · replace h := h.1 c336
    refine jx_tableIn (v := 32) (tgt := 1110) (off := 1077) kd1095.2.2.2.1 c336 (by decide) (by decide) (by decide) (by decide) ?_
    refine jx_aload_n 1 kd1170.2.2.2.1 rfl rfl ?_
    obtain ⟨hk337, h⟩ := h
    obtain ⟨hm338, h⟩ := h
    obtain ⟨d, hR, h⟩ := h
    refine jx_callVi (M' := mX10_text) (As := []) jo_X10_text jc_10 rfl jwM_L_146 jwN_X10_text jwX_X10_text kd1170.2.2.2.2.1 hR rfl (jle rfl) hm338 hk337 h (fun r340 S339 h => ?_)
    refine jx_pop kd1170.2.2.2.2.2.1 rfl ?_
    refine jx_aload_n 2 kd1170.2.2.2.2.2.2.1 rfl rfl ?_
    obtain ⟨hk341, h⟩ := h
    obtain ⟨hm342, h⟩ := h
    obtain ⟨d, hR, h⟩ := h
    refine jx_callVi (M' := mX11_text) (As := []) jo_X11_text jc_11 rfl jwM_L_149 jwN_X11_text jwX_X11_text kd1170.2.2.2.2.2.2.2.1 hR rfl (jle rfl) hm342 hk341 h (fun r344 S343 h => ?_)
    refine jx_pop kd1170.2.2.2.2.2.2.2.2.1 rfl ?_
    refine jx_goto (tgt := 1611) kd1171.1 (by decide) ?_
    refine jx_iinc 3 (v := (x3 + 6)) (lv1 := [(3, .int (x3 + 6)), (0, .ref a0), (1, .ref a1), (2, .ref a2)]) kd1214.2.2.2.2.2.2.1 rfl rfl (by show _ < 4; decide) rfl ?_
    refine jx_goto (tgt := 18) kd1214.2.2.2.2.2.2.2.1 (by decide) ?_
    exact jx_lv [1, 2, 3, 0] rfl h
  replace h := h.2
  by_cases c345 : ((xs (Int32.toNatClampNeg x3)) &&& 63) = 33
  · replace h := h.1 c345
    refine jx_tableIn (v := 33) (tgt := 1123) (off := 1090) kd1095.2.2.2.1 c345 (by decide) (by decide) (by decide) (by decide) ?_
    refine jx_aload_n 1 kd1171.2.1 rfl rfl ?_
    refine jx_aload_n 0 kd1171.2.2.1 rfl rfl ?_
    refine jx_iload_n 3 kd1171.2.2.2.1 rfl rfl ?_
    refine jx_iconst (v := 1) kd1171.2.2.2.2.1 (by decide) ?_
    refine jx_iadd kd1171.2.2.2.2.2.1 ?_
    obtain ⟨hi346, h⟩ := h
    refine jx_sld kd1171.2.2.2.2.2.2.1 hi346 ?_
    refine jx_aload_n 0 kd1171.2.2.2.2.2.2.2.1 rfl rfl ?_
    refine jx_iload_n 3 kd1171.2.2.2.2.2.2.2.2.1 rfl rfl ?_
    refine jx_iconst (v := 2) kd1172.1 (by decide) ?_
    refine jx_iadd kd1172.2.1 ?_
    obtain ⟨hi347, h⟩ := h
    refine jx_sld kd1172.2.2.1 hi347 ?_
    obtain ⟨hk348, h⟩ := h
    obtain ⟨hm349, h⟩ := h
    obtain ⟨d, hR, h⟩ := h
    refine jx_callVi (M' := mX10_textTold) (As := [.int (xs (Int32.toNatClampNeg (x3 + 1))), .int (xs (Int32.toNatClampNeg (x3 + 2)))]) jo_X10_textTold jc_10 rfl jwM_L_150 jwN_X10_textTold jwX_X10_textTold kd1172.2.2.2.1 hR rfl (jle rfl) hm349 hk348 h (fun r351 S350 h => ?_)
    refine jx_pop kd1172.2.2.2.2.1 rfl ?_
    refine jx_aload_n 2 kd1172.2.2.2.2.2.1 rfl rfl ?_
    refine jx_aload_n 0 kd1172.2.2.2.2.2.2.1 rfl rfl ?_
    refine jx_iload_n 3 kd1172.2.2.2.2.2.2.2.1 rfl rfl ?_
    refine jx_iconst (v := 1) kd1172.2.2.2.2.2.2.2.2.1 (by decide) ?_
    refine jx_iadd kd1173.1 ?_
    refine jx_sld kd1173.2.1 hi346 ?_
    refine jx_aload_n 0 kd1173.2.2.1 rfl rfl ?_
    refine jx_iload_n 3 kd1173.2.2.2.1 rfl rfl ?_
    refine jx_iconst (v := 2) kd1173.2.2.2.2.1 (by decide) ?_
    refine jx_iadd kd1173.2.2.2.2.2.1 ?_
    refine jx_sld kd1173.2.2.2.2.2.2.1 hi347 ?_
    obtain ⟨hk352, h⟩ := h
    obtain ⟨hm353, h⟩ := h
    obtain ⟨d, hR, h⟩ := h
    refine jx_callVi (M' := mX11_textTold) (As := [.int (xs (Int32.toNatClampNeg (x3 + 1))), .int (xs (Int32.toNatClampNeg (x3 + 2)))]) jo_X11_textTold jc_11 rfl jwM_L_153 jwN_X11_textTold jwX_X11_textTold kd1173.2.2.2.2.2.2.2.1 hR rfl (jle rfl) hm353 hk352 h (fun r355 S354 h => ?_)
    refine jx_pop kd1173.2.2.2.2.2.2.2.2.1 rfl ?_
    refine jx_goto (tgt := 1611) kd1174.1 (by decide) ?_
    refine jx_iinc 3 (v := (x3 + 6)) (lv1 := [(3, .int (x3 + 6)), (0, .ref a0), (1, .ref a1), (2, .ref a2)]) kd1214.2.2.2.2.2.2.1 rfl rfl (by show _ < 4; decide) rfl ?_
    refine jx_goto (tgt := 18) kd1214.2.2.2.2.2.2.2.1 (by decide) ?_
    exact jx_lv [1, 2, 3, 0] rfl h
  replace h := h.2
  by_cases c356 : ((xs (Int32.toNatClampNeg x3)) &&& 63) = 34
  · replace h := h.1 c356
    refine jx_tableIn (v := 34) (tgt := 1156) (off := 1123) kd1095.2.2.2.1 c356 (by decide) (by decide) (by decide) (by decide) ?_
    refine jx_aload_n 1 kd1174.2.1 rfl rfl ?_
    refine jx_aload_n 0 kd1174.2.2.1 rfl rfl ?_
    refine jx_iload_n 3 kd1174.2.2.2.1 rfl rfl ?_
    refine jx_iconst (v := 1) kd1174.2.2.2.2.1 (by decide) ?_
    refine jx_iadd kd1174.2.2.2.2.2.1 ?_
    obtain ⟨hi357, h⟩ := h
    refine jx_sld kd1174.2.2.2.2.2.2.1 hi357 ?_
    obtain ⟨hk358, h⟩ := h
    obtain ⟨hm359, h⟩ := h
    obtain ⟨d, hR, h⟩ := h
    refine jx_callVi (M' := mX10_why) (As := [.int (xs (Int32.toNatClampNeg (x3 + 1)))]) jo_X10_why jc_10 rfl jwM_L_154 jwN_X10_why jwX_X10_why kd1174.2.2.2.2.2.2.2.1 hR rfl (jle rfl) hm359 hk358 h (fun r361 S360 h => ?_)
    refine jx_pop kd1174.2.2.2.2.2.2.2.2.1 rfl ?_
    refine jx_aload_n 2 kd1175.1 rfl rfl ?_
    refine jx_aload_n 0 kd1175.2.1 rfl rfl ?_
    refine jx_iload_n 3 kd1175.2.2.1 rfl rfl ?_
    refine jx_iconst (v := 1) kd1175.2.2.2.1 (by decide) ?_
    refine jx_iadd kd1175.2.2.2.2.1 ?_
    refine jx_sld kd1175.2.2.2.2.2.1 hi357 ?_
    obtain ⟨hk362, h⟩ := h
    obtain ⟨hm363, h⟩ := h
    obtain ⟨d, hR, h⟩ := h
    refine jx_callVi (M' := mX11_why) (As := [.int (xs (Int32.toNatClampNeg (x3 + 1)))]) jo_X11_why jc_11 rfl jwM_L_157 jwN_X11_why jwX_X11_why kd1175.2.2.2.2.2.2.1 hR rfl (jle rfl) hm363 hk362 h (fun r365 S364 h => ?_)
    refine jx_pop kd1175.2.2.2.2.2.2.2.1 rfl ?_
    refine jx_goto (tgt := 1611) kd1175.2.2.2.2.2.2.2.2.1 (by decide) ?_
    refine jx_iinc 3 (v := (x3 + 6)) (lv1 := [(3, .int (x3 + 6)), (0, .ref a0), (1, .ref a1), (2, .ref a2)]) kd1214.2.2.2.2.2.2.1 rfl rfl (by show _ < 4; decide) rfl ?_
    refine jx_goto (tgt := 18) kd1214.2.2.2.2.2.2.2.1 (by decide) ?_
    exact jx_lv [1, 2, 3, 0] rfl h
  replace h := h.2
  by_cases c366 : ((xs (Int32.toNatClampNeg x3)) &&& 63) = 35
  · replace h := h.1 c366
    refine jx_tableIn (v := 35) (tgt := 1179) (off := 1146) kd1095.2.2.2.1 c366 (by decide) (by decide) (by decide) (by decide) ?_
    refine jx_aload_n 1 kd1176.1 rfl rfl ?_
    refine jx_aload_n 0 kd1176.2.1 rfl rfl ?_
    refine jx_iload_n 3 kd1176.2.2.1 rfl rfl ?_
    refine jx_iconst (v := 1) kd1176.2.2.2.1 (by decide) ?_
    refine jx_iadd kd1176.2.2.2.2.1 ?_
    obtain ⟨hi367, h⟩ := h
    refine jx_sld kd1176.2.2.2.2.2.1 hi367 ?_
    refine jx_aload_n 0 kd1176.2.2.2.2.2.2.1 rfl rfl ?_
    refine jx_iload_n 3 kd1176.2.2.2.2.2.2.2.1 rfl rfl ?_
    refine jx_iconst (v := 2) kd1176.2.2.2.2.2.2.2.2.1 (by decide) ?_
    refine jx_iadd kd1177.1 ?_
    obtain ⟨hi368, h⟩ := h
    refine jx_sld kd1177.2.1 hi368 ?_
    refine jx_aload_n 0 kd1177.2.2.1 rfl rfl ?_
    refine jx_iload_n 3 kd1177.2.2.2.1 rfl rfl ?_
    refine jx_iconst (v := 3) kd1177.2.2.2.2.1 (by decide) ?_
    refine jx_iadd kd1177.2.2.2.2.2.1 ?_
    obtain ⟨hi369, h⟩ := h
    refine jx_sld kd1177.2.2.2.2.2.2.1 hi369 ?_
    obtain ⟨hk370, h⟩ := h
    obtain ⟨hm371, h⟩ := h
    obtain ⟨d, hR, h⟩ := h
    refine jx_callVi (M' := mX10_sheet) (As := [.int (xs (Int32.toNatClampNeg (x3 + 1))), .int (xs (Int32.toNatClampNeg (x3 + 2))), .int (xs (Int32.toNatClampNeg (x3 + 3)))]) jo_X10_sheet jc_10 rfl jwM_L_158 jwN_X10_sheet jwX_X10_sheet kd1177.2.2.2.2.2.2.2.1 hR rfl (jle rfl) hm371 hk370 h (fun r373 S372 h => ?_)
    refine jx_pop kd1177.2.2.2.2.2.2.2.2.1 rfl ?_
    refine jx_aload_n 2 kd1178.1 rfl rfl ?_
    refine jx_aload_n 0 kd1178.2.1 rfl rfl ?_
    refine jx_iload_n 3 kd1178.2.2.1 rfl rfl ?_
    refine jx_iconst (v := 1) kd1178.2.2.2.1 (by decide) ?_
    refine jx_iadd kd1178.2.2.2.2.1 ?_
    refine jx_sld kd1178.2.2.2.2.2.1 hi367 ?_
    refine jx_aload_n 0 kd1178.2.2.2.2.2.2.1 rfl rfl ?_
    refine jx_iload_n 3 kd1178.2.2.2.2.2.2.2.1 rfl rfl ?_
    refine jx_iconst (v := 2) kd1178.2.2.2.2.2.2.2.2.1 (by decide) ?_
    refine jx_iadd kd1179.1 ?_
    refine jx_sld kd1179.2.1 hi368 ?_
    refine jx_aload_n 0 kd1179.2.2.1 rfl rfl ?_
    refine jx_iload_n 3 kd1179.2.2.2.1 rfl rfl ?_
    refine jx_iconst (v := 3) kd1179.2.2.2.2.1 (by decide) ?_
    refine jx_iadd kd1179.2.2.2.2.2.1 ?_
    refine jx_sld kd1179.2.2.2.2.2.2.1 hi369 ?_
    obtain ⟨hk374, h⟩ := h
    obtain ⟨hm375, h⟩ := h
    obtain ⟨d, hR, h⟩ := h
    refine jx_callVi (M' := mX11_sheet) (As := [.int (xs (Int32.toNatClampNeg (x3 + 1))), .int (xs (Int32.toNatClampNeg (x3 + 2))), .int (xs (Int32.toNatClampNeg (x3 + 3)))]) jo_X11_sheet jc_11 rfl jwM_L_161 jwN_X11_sheet jwX_X11_sheet kd1179.2.2.2.2.2.2.2.1 hR rfl (jle rfl) hm375 hk374 h (fun r377 S376 h => ?_)
    refine jx_pop kd1179.2.2.2.2.2.2.2.2.1 rfl ?_
    refine jx_goto (tgt := 1611) kd1180.1 (by decide) ?_
    refine jx_iinc 3 (v := (x3 + 6)) (lv1 := [(3, .int (x3 + 6)), (0, .ref a0), (1, .ref a1), (2, .ref a2)]) kd1214.2.2.2.2.2.2.1 rfl rfl (by show _ < 4; decide) rfl ?_
    refine jx_goto (tgt := 18) kd1214.2.2.2.2.2.2.2.1 (by decide) ?_
    exact jx_lv [1, 2, 3, 0] rfl h
  replace h := h.2
  by_cases c378 : ((xs (Int32.toNatClampNeg x3)) &&& 63) = 36
  · replace h := h.1 c378
    refine jx_tableIn (v := 36) (tgt := 1222) (off := 1189) kd1095.2.2.2.1 c378 (by decide) (by decide) (by decide) (by decide) ?_
    refine jx_aload_n 1 kd1180.2.1 rfl rfl ?_
    refine jx_aload_n 0 kd1180.2.2.1 rfl rfl ?_
    refine jx_iload_n 3 kd1180.2.2.2.1 rfl rfl ?_
    refine jx_iconst (v := 1) kd1180.2.2.2.2.1 (by decide) ?_
    refine jx_iadd kd1180.2.2.2.2.2.1 ?_
    obtain ⟨hi379, h⟩ := h
    refine jx_sld kd1180.2.2.2.2.2.2.1 hi379 ?_
    refine jx_aload_n 0 kd1180.2.2.2.2.2.2.2.1 rfl rfl ?_
    refine jx_iload_n 3 kd1180.2.2.2.2.2.2.2.2.1 rfl rfl ?_
    refine jx_iconst (v := 2) kd1181.1 (by decide) ?_
    refine jx_iadd kd1181.2.1 ?_
    obtain ⟨hi380, h⟩ := h
    refine jx_sld kd1181.2.2.1 hi380 ?_
    refine jx_aload_n 0 kd1181.2.2.2.1 rfl rfl ?_
    refine jx_iload_n 3 kd1181.2.2.2.2.1 rfl rfl ?_
    refine jx_iconst (v := 3) kd1181.2.2.2.2.2.1 (by decide) ?_
    refine jx_iadd kd1181.2.2.2.2.2.2.1 ?_
    obtain ⟨hi381, h⟩ := h
    refine jx_sld kd1181.2.2.2.2.2.2.2.1 hi381 ?_
    obtain ⟨hk382, h⟩ := h
    obtain ⟨hm383, h⟩ := h
    obtain ⟨d, hR, h⟩ := h
    refine jx_callVi (M' := mX10_mark) (As := [.int (xs (Int32.toNatClampNeg (x3 + 1))), .int (xs (Int32.toNatClampNeg (x3 + 2))), .int (xs (Int32.toNatClampNeg (x3 + 3)))]) jo_X10_mark jc_10 rfl jwM_L_162 jwN_X10_mark jwX_X10_mark kd1181.2.2.2.2.2.2.2.2.1 hR rfl (jle rfl) hm383 hk382 h (fun r385 S384 h => ?_)
    refine jx_pop kd1182.1 rfl ?_
    refine jx_aload_n 2 kd1182.2.1 rfl rfl ?_
    refine jx_aload_n 0 kd1182.2.2.1 rfl rfl ?_
    refine jx_iload_n 3 kd1182.2.2.2.1 rfl rfl ?_
    refine jx_iconst (v := 1) kd1182.2.2.2.2.1 (by decide) ?_
    refine jx_iadd kd1182.2.2.2.2.2.1 ?_
    refine jx_sld kd1182.2.2.2.2.2.2.1 hi379 ?_
    refine jx_aload_n 0 kd1182.2.2.2.2.2.2.2.1 rfl rfl ?_
    refine jx_iload_n 3 kd1182.2.2.2.2.2.2.2.2.1 rfl rfl ?_
    refine jx_iconst (v := 2) kd1183.1 (by decide) ?_
    refine jx_iadd kd1183.2.1 ?_
    refine jx_sld kd1183.2.2.1 hi380 ?_
    refine jx_aload_n 0 kd1183.2.2.2.1 rfl rfl ?_
    refine jx_iload_n 3 kd1183.2.2.2.2.1 rfl rfl ?_
    refine jx_iconst (v := 3) kd1183.2.2.2.2.2.1 (by decide) ?_
    refine jx_iadd kd1183.2.2.2.2.2.2.1 ?_
    refine jx_sld kd1183.2.2.2.2.2.2.2.1 hi381 ?_
    obtain ⟨hk386, h⟩ := h
    obtain ⟨hm387, h⟩ := h
    obtain ⟨d, hR, h⟩ := h
    refine jx_callVi (M' := mX11_mark) (As := [.int (xs (Int32.toNatClampNeg (x3 + 1))), .int (xs (Int32.toNatClampNeg (x3 + 2))), .int (xs (Int32.toNatClampNeg (x3 + 3)))]) jo_X11_mark jc_11 rfl jwM_L_165 jwN_X11_mark jwX_X11_mark kd1183.2.2.2.2.2.2.2.2.1 hR rfl (jle rfl) hm387 hk386 h (fun r389 S388 h => ?_)
    refine jx_pop kd1184.1 rfl ?_
    refine jx_goto (tgt := 1611) kd1184.2.1 (by decide) ?_
    refine jx_iinc 3 (v := (x3 + 6)) (lv1 := [(3, .int (x3 + 6)), (0, .ref a0), (1, .ref a1), (2, .ref a2)]) kd1214.2.2.2.2.2.2.1 rfl rfl (by show _ < 4; decide) rfl ?_
    refine jx_goto (tgt := 18) kd1214.2.2.2.2.2.2.2.1 (by decide) ?_
    exact jx_lv [1, 2, 3, 0] rfl h
  replace h := h.2
  by_cases c390 : ((xs (Int32.toNatClampNeg x3)) &&& 63) = 37
  · replace h := h.1 c390
    refine jx_tableIn (v := 37) (tgt := 1265) (off := 1232) kd1095.2.2.2.1 c390 (by decide) (by decide) (by decide) (by decide) ?_
    refine jx_aload_n 1 kd1184.2.2.1 rfl rfl ?_
    refine jx_aload_n 0 kd1184.2.2.2.1 rfl rfl ?_
    refine jx_iload_n 3 kd1184.2.2.2.2.1 rfl rfl ?_
    refine jx_iconst (v := 1) kd1184.2.2.2.2.2.1 (by decide) ?_
    refine jx_iadd kd1184.2.2.2.2.2.2.1 ?_
    obtain ⟨hi391, h⟩ := h
    refine jx_sld kd1184.2.2.2.2.2.2.2.1 hi391 ?_
    obtain ⟨hk392, h⟩ := h
    obtain ⟨hm393, h⟩ := h
    obtain ⟨d, hR, h⟩ := h
    refine jx_callVi (M' := mX10_pour) (As := [.int (xs (Int32.toNatClampNeg (x3 + 1)))]) jo_X10_pour jc_10 rfl jwM_L_166 jwN_X10_pour jwX_X10_pour kd1184.2.2.2.2.2.2.2.2.1 hR rfl (jle rfl) hm393 hk392 h (fun r395 S394 h => ?_)
    refine jx_pop kd1185.1 rfl ?_
    refine jx_aload_n 2 kd1185.2.1 rfl rfl ?_
    refine jx_aload_n 0 kd1185.2.2.1 rfl rfl ?_
    refine jx_iload_n 3 kd1185.2.2.2.1 rfl rfl ?_
    refine jx_iconst (v := 1) kd1185.2.2.2.2.1 (by decide) ?_
    refine jx_iadd kd1185.2.2.2.2.2.1 ?_
    refine jx_sld kd1185.2.2.2.2.2.2.1 hi391 ?_
    obtain ⟨hk396, h⟩ := h
    obtain ⟨hm397, h⟩ := h
    obtain ⟨d, hR, h⟩ := h
    refine jx_callVi (M' := mX11_pour) (As := [.int (xs (Int32.toNatClampNeg (x3 + 1)))]) jo_X11_pour jc_11 rfl jwM_L_169 jwN_X11_pour jwX_X11_pour kd1185.2.2.2.2.2.2.2.1 hR rfl (jle rfl) hm397 hk396 h (fun r399 S398 h => ?_)
    refine jx_pop kd1185.2.2.2.2.2.2.2.2.1 rfl ?_
    refine jx_goto (tgt := 1611) kd1186.1 (by decide) ?_
    refine jx_iinc 3 (v := (x3 + 6)) (lv1 := [(3, .int (x3 + 6)), (0, .ref a0), (1, .ref a1), (2, .ref a2)]) kd1214.2.2.2.2.2.2.1 rfl rfl (by show _ < 4; decide) rfl ?_
    refine jx_goto (tgt := 18) kd1214.2.2.2.2.2.2.2.1 (by decide) ?_
    exact jx_lv [1, 2, 3, 0] rfl h
  replace h := h.2
  by_cases c400 : ((xs (Int32.toNatClampNeg x3)) &&& 63) = 38
  · replace h := h.1 c400
    refine jx_tableIn (v := 38) (tgt := 1288) (off := 1255) kd1095.2.2.2.1 c400 (by decide) (by decide) (by decide) (by decide) ?_
    refine jx_aload_n 1 kd1186.2.1 rfl rfl ?_
    refine jx_aload_n 0 kd1186.2.2.1 rfl rfl ?_
    refine jx_iload_n 3 kd1186.2.2.2.1 rfl rfl ?_
    refine jx_iconst (v := 1) kd1186.2.2.2.2.1 (by decide) ?_
    refine jx_iadd kd1186.2.2.2.2.2.1 ?_
    obtain ⟨hi401, h⟩ := h
    refine jx_sld kd1186.2.2.2.2.2.2.1 hi401 ?_
    obtain ⟨hk402, h⟩ := h
    obtain ⟨hm403, h⟩ := h
    obtain ⟨d, hR, h⟩ := h
    refine jx_callVi (M' := mX10_reads) (As := [.int (xs (Int32.toNatClampNeg (x3 + 1)))]) jo_X10_reads jc_10 rfl jwM_L_170 jwN_X10_reads jwX_X10_reads kd1186.2.2.2.2.2.2.2.1 hR rfl (jle rfl) hm403 hk402 h (fun r405 S404 h => ?_)
    refine jx_pop kd1186.2.2.2.2.2.2.2.2.1 rfl ?_
    refine jx_aload_n 2 kd1187.1 rfl rfl ?_
    refine jx_aload_n 0 kd1187.2.1 rfl rfl ?_
    refine jx_iload_n 3 kd1187.2.2.1 rfl rfl ?_
    refine jx_iconst (v := 1) kd1187.2.2.2.1 (by decide) ?_
    refine jx_iadd kd1187.2.2.2.2.1 ?_
    refine jx_sld kd1187.2.2.2.2.2.1 hi401 ?_
    obtain ⟨hk406, h⟩ := h
    obtain ⟨hm407, h⟩ := h
    obtain ⟨d, hR, h⟩ := h
    refine jx_callVi (M' := mX11_reads) (As := [.int (xs (Int32.toNatClampNeg (x3 + 1)))]) jo_X11_reads jc_11 rfl jwM_L_173 jwN_X11_reads jwX_X11_reads kd1187.2.2.2.2.2.2.1 hR rfl (jle rfl) hm407 hk406 h (fun r409 S408 h => ?_)
    refine jx_pop kd1187.2.2.2.2.2.2.2.1 rfl ?_
    refine jx_goto (tgt := 1611) kd1187.2.2.2.2.2.2.2.2.1 (by decide) ?_
    refine jx_iinc 3 (v := (x3 + 6)) (lv1 := [(3, .int (x3 + 6)), (0, .ref a0), (1, .ref a1), (2, .ref a2)]) kd1214.2.2.2.2.2.2.1 rfl rfl (by show _ < 4; decide) rfl ?_
    refine jx_goto (tgt := 18) kd1214.2.2.2.2.2.2.2.1 (by decide) ?_
    exact jx_lv [1, 2, 3, 0] rfl h
  replace h := h.2
  by_cases c410 : ((xs (Int32.toNatClampNeg x3)) &&& 63) = 39
  · replace h := h.1 c410
    refine jx_tableIn (v := 39) (tgt := 1311) (off := 1278) kd1095.2.2.2.1 c410 (by decide) (by decide) (by decide) (by decide) ?_
    refine jx_aload_n 1 kd1188.1 rfl rfl ?_
    refine jx_aload_n 0 kd1188.2.1 rfl rfl ?_
    refine jx_iload_n 3 kd1188.2.2.1 rfl rfl ?_
    refine jx_iconst (v := 1) kd1188.2.2.2.1 (by decide) ?_
    refine jx_iadd kd1188.2.2.2.2.1 ?_
    obtain ⟨hi411, h⟩ := h
    refine jx_sld kd1188.2.2.2.2.2.1 hi411 ?_
    refine jx_aload_n 0 kd1188.2.2.2.2.2.2.1 rfl rfl ?_
    refine jx_iload_n 3 kd1188.2.2.2.2.2.2.2.1 rfl rfl ?_
    refine jx_iconst (v := 2) kd1188.2.2.2.2.2.2.2.2.1 (by decide) ?_
    refine jx_iadd kd1189.1 ?_
    obtain ⟨hi412, h⟩ := h
    refine jx_sld kd1189.2.1 hi412 ?_
    refine jx_aload_n 0 kd1189.2.2.1 rfl rfl ?_
    refine jx_iload_n 3 kd1189.2.2.2.1 rfl rfl ?_
    refine jx_iconst (v := 3) kd1189.2.2.2.2.1 (by decide) ?_
    refine jx_iadd kd1189.2.2.2.2.2.1 ?_
    obtain ⟨hi413, h⟩ := h
    refine jx_sld kd1189.2.2.2.2.2.2.1 hi413 ?_
    refine jx_aload_n 0 kd1189.2.2.2.2.2.2.2.1 rfl rfl ?_
    refine jx_iload_n 3 kd1189.2.2.2.2.2.2.2.2.1 rfl rfl ?_
    refine jx_iconst (v := 4) kd1190.1 (by decide) ?_
    refine jx_iadd kd1190.2.1 ?_
    obtain ⟨hi414, h⟩ := h
    refine jx_sld kd1190.2.2.1 hi414 ?_
    refine jx_aload_n 0 kd1190.2.2.2.1 rfl rfl ?_
    refine jx_iload_n 3 kd1190.2.2.2.2.1 rfl rfl ?_
    refine jx_iconst (v := 5) kd1190.2.2.2.2.2.1 (by decide) ?_
    refine jx_iadd kd1190.2.2.2.2.2.2.1 ?_
    obtain ⟨hi415, h⟩ := h
    refine jx_sld kd1190.2.2.2.2.2.2.2.1 hi415 ?_
    obtain ⟨hk416, h⟩ := h
    obtain ⟨hm417, h⟩ := h
    obtain ⟨d, hR, h⟩ := h
    refine jx_callVi (M' := mX10_copy) (As := [.int (xs (Int32.toNatClampNeg (x3 + 1))), .int (xs (Int32.toNatClampNeg (x3 + 2))), .int (xs (Int32.toNatClampNeg (x3 + 3))), .int (xs (Int32.toNatClampNeg (x3 + 4))), .int (xs (Int32.toNatClampNeg (x3 + 5)))]) jo_X10_copy jc_10 rfl jwM_L_174 jwN_X10_copy jwX_X10_copy kd1190.2.2.2.2.2.2.2.2.1 hR rfl (jle rfl) hm417 hk416 h (fun r419 S418 h => ?_)
    refine jx_pop kd1191.1 rfl ?_
    refine jx_aload_n 2 kd1191.2.1 rfl rfl ?_
    refine jx_aload_n 0 kd1191.2.2.1 rfl rfl ?_
    refine jx_iload_n 3 kd1191.2.2.2.1 rfl rfl ?_
    refine jx_iconst (v := 1) kd1191.2.2.2.2.1 (by decide) ?_
    refine jx_iadd kd1191.2.2.2.2.2.1 ?_
    refine jx_sld kd1191.2.2.2.2.2.2.1 hi411 ?_
    refine jx_aload_n 0 kd1191.2.2.2.2.2.2.2.1 rfl rfl ?_
    refine jx_iload_n 3 kd1191.2.2.2.2.2.2.2.2.1 rfl rfl ?_
    refine jx_iconst (v := 2) kd1192.1 (by decide) ?_
    refine jx_iadd kd1192.2.1 ?_
    refine jx_sld kd1192.2.2.1 hi412 ?_
    refine jx_aload_n 0 kd1192.2.2.2.1 rfl rfl ?_
    refine jx_iload_n 3 kd1192.2.2.2.2.1 rfl rfl ?_
    refine jx_iconst (v := 3) kd1192.2.2.2.2.2.1 (by decide) ?_
    refine jx_iadd kd1192.2.2.2.2.2.2.1 ?_
    refine jx_sld kd1192.2.2.2.2.2.2.2.1 hi413 ?_
    refine jx_aload_n 0 kd1192.2.2.2.2.2.2.2.2.1 rfl rfl ?_
    refine jx_iload_n 3 kd1193.1 rfl rfl ?_
    refine jx_iconst (v := 4) kd1193.2.1 (by decide) ?_
    refine jx_iadd kd1193.2.2.1 ?_
    refine jx_sld kd1193.2.2.2.1 hi414 ?_
    refine jx_aload_n 0 kd1193.2.2.2.2.1 rfl rfl ?_
    refine jx_iload_n 3 kd1193.2.2.2.2.2.1 rfl rfl ?_
    refine jx_iconst (v := 5) kd1193.2.2.2.2.2.2.1 (by decide) ?_
    refine jx_iadd kd1193.2.2.2.2.2.2.2.1 ?_
    refine jx_sld kd1193.2.2.2.2.2.2.2.2.1 hi415 ?_
    obtain ⟨hk420, h⟩ := h
    obtain ⟨hm421, h⟩ := h
    obtain ⟨d, hR, h⟩ := h
    refine jx_callVi (M' := mX11_copy) (As := [.int (xs (Int32.toNatClampNeg (x3 + 1))), .int (xs (Int32.toNatClampNeg (x3 + 2))), .int (xs (Int32.toNatClampNeg (x3 + 3))), .int (xs (Int32.toNatClampNeg (x3 + 4))), .int (xs (Int32.toNatClampNeg (x3 + 5)))]) jo_X11_copy jc_11 rfl jwM_L_178 jwN_X11_copy jwX_X11_copy kd1194.1 hR rfl (jle rfl) hm421 hk420 h (fun r423 S422 h => ?_)
    refine jx_pop kd1194.2.1 rfl ?_
    refine jx_goto (tgt := 1611) kd1194.2.2.1 (by decide) ?_
    refine jx_iinc 3 (v := (x3 + 6)) (lv1 := [(3, .int (x3 + 6)), (0, .ref a0), (1, .ref a1), (2, .ref a2)]) kd1214.2.2.2.2.2.2.1 rfl rfl (by show _ < 4; decide) rfl ?_
    refine jx_goto (tgt := 18) kd1214.2.2.2.2.2.2.2.1 (by decide) ?_
    exact jx_lv [1, 2, 3, 0] rfl h
  replace h := h.2
  by_cases c424 : ((xs (Int32.toNatClampNeg x3)) &&& 63) = 40
  · replace h := h.1 c424
    refine jx_tableIn (v := 40) (tgt := 1374) (off := 1341) kd1095.2.2.2.1 c424 (by decide) (by decide) (by decide) (by decide) ?_
    refine jx_aload_n 1 kd1194.2.2.2.1 rfl rfl ?_
    refine jx_aload_n 0 kd1194.2.2.2.2.1 rfl rfl ?_
    refine jx_iload_n 3 kd1194.2.2.2.2.2.1 rfl rfl ?_
    refine jx_iconst (v := 1) kd1194.2.2.2.2.2.2.1 (by decide) ?_
    refine jx_iadd kd1194.2.2.2.2.2.2.2.1 ?_
    obtain ⟨hi425, h⟩ := h
    refine jx_sld kd1194.2.2.2.2.2.2.2.2.1 hi425 ?_
    refine jx_aload_n 0 kd1195.1 rfl rfl ?_
    refine jx_iload_n 3 kd1195.2.1 rfl rfl ?_
    refine jx_iconst (v := 2) kd1195.2.2.1 (by decide) ?_
    refine jx_iadd kd1195.2.2.2.1 ?_
    obtain ⟨hi426, h⟩ := h
    refine jx_sld kd1195.2.2.2.2.1 hi426 ?_
    refine jx_aload_n 0 kd1195.2.2.2.2.2.1 rfl rfl ?_
    refine jx_iload_n 3 kd1195.2.2.2.2.2.2.1 rfl rfl ?_
    refine jx_iconst (v := 3) kd1195.2.2.2.2.2.2.2.1 (by decide) ?_
    refine jx_iadd kd1195.2.2.2.2.2.2.2.2.1 ?_
    obtain ⟨hi427, h⟩ := h
    refine jx_sld kd1196.1 hi427 ?_
    obtain ⟨hk428, h⟩ := h
    obtain ⟨hm429, h⟩ := h
    obtain ⟨d, hR, h⟩ := h
    refine jx_callVi (M' := mX10_lay) (As := [.int (xs (Int32.toNatClampNeg (x3 + 1))), .int (xs (Int32.toNatClampNeg (x3 + 2))), .int (xs (Int32.toNatClampNeg (x3 + 3)))]) jo_X10_lay jc_10 rfl jwM_L_179 jwN_X10_lay jwX_X10_lay kd1196.2.1 hR rfl (jle rfl) hm429 hk428 h (fun r431 S430 h => ?_)
    refine jx_pop kd1196.2.2.1 rfl ?_
    refine jx_aload_n 2 kd1196.2.2.2.1 rfl rfl ?_
    refine jx_aload_n 0 kd1196.2.2.2.2.1 rfl rfl ?_
    refine jx_iload_n 3 kd1196.2.2.2.2.2.1 rfl rfl ?_
    refine jx_iconst (v := 1) kd1196.2.2.2.2.2.2.1 (by decide) ?_
    refine jx_iadd kd1196.2.2.2.2.2.2.2.1 ?_
    refine jx_sld kd1196.2.2.2.2.2.2.2.2.1 hi425 ?_
    refine jx_aload_n 0 kd1197.1 rfl rfl ?_
    refine jx_iload_n 3 kd1197.2.1 rfl rfl ?_
    refine jx_iconst (v := 2) kd1197.2.2.1 (by decide) ?_
    refine jx_iadd kd1197.2.2.2.1 ?_
    refine jx_sld kd1197.2.2.2.2.1 hi426 ?_
    refine jx_aload_n 0 kd1197.2.2.2.2.2.1 rfl rfl ?_
    refine jx_iload_n 3 kd1197.2.2.2.2.2.2.1 rfl rfl ?_
    refine jx_iconst (v := 3) kd1197.2.2.2.2.2.2.2.1 (by decide) ?_
    refine jx_iadd kd1197.2.2.2.2.2.2.2.2.1 ?_
    refine jx_sld kd1198.1 hi427 ?_
    obtain ⟨hk432, h⟩ := h
    obtain ⟨hm433, h⟩ := h
    obtain ⟨d, hR, h⟩ := h
    refine jx_callVi (M' := mX11_lay) (As := [.int (xs (Int32.toNatClampNeg (x3 + 1))), .int (xs (Int32.toNatClampNeg (x3 + 2))), .int (xs (Int32.toNatClampNeg (x3 + 3)))]) jo_X11_lay jc_11 rfl jwM_L_182 jwN_X11_lay jwX_X11_lay kd1198.2.1 hR rfl (jle rfl) hm433 hk432 h (fun r435 S434 h => ?_)
    refine jx_pop kd1198.2.2.1 rfl ?_
    refine jx_goto (tgt := 1611) kd1198.2.2.2.1 (by decide) ?_
    refine jx_iinc 3 (v := (x3 + 6)) (lv1 := [(3, .int (x3 + 6)), (0, .ref a0), (1, .ref a1), (2, .ref a2)]) kd1214.2.2.2.2.2.2.1 rfl rfl (by show _ < 4; decide) rfl ?_
    refine jx_goto (tgt := 18) kd1214.2.2.2.2.2.2.2.1 (by decide) ?_
    exact jx_lv [1, 2, 3, 0] rfl h
  replace h := h.2
  by_cases c436 : ((xs (Int32.toNatClampNeg x3)) &&& 63) = 41
  · replace h := h.1 c436
    refine jx_tableIn (v := 41) (tgt := 1417) (off := 1384) kd1095.2.2.2.1 c436 (by decide) (by decide) (by decide) (by decide) ?_
    refine jx_aload_n 1 kd1198.2.2.2.2.1 rfl rfl ?_
    refine jx_aload_n 0 kd1198.2.2.2.2.2.1 rfl rfl ?_
    refine jx_iload_n 3 kd1198.2.2.2.2.2.2.1 rfl rfl ?_
    refine jx_iconst (v := 1) kd1198.2.2.2.2.2.2.2.1 (by decide) ?_
    refine jx_iadd kd1198.2.2.2.2.2.2.2.2.1 ?_
    obtain ⟨hi437, h⟩ := h
    refine jx_sld kd1199.1 hi437 ?_
    refine jx_aload_n 0 kd1199.2.1 rfl rfl ?_
    refine jx_iload_n 3 kd1199.2.2.1 rfl rfl ?_
    refine jx_iconst (v := 2) kd1199.2.2.2.1 (by decide) ?_
    refine jx_iadd kd1199.2.2.2.2.1 ?_
    obtain ⟨hi438, h⟩ := h
    refine jx_sld kd1199.2.2.2.2.2.1 hi438 ?_
    obtain ⟨hk439, h⟩ := h
    obtain ⟨hm440, h⟩ := h
    obtain ⟨d, hR, h⟩ := h
    refine jx_callVi (M' := mX10_ask) (As := [.int (xs (Int32.toNatClampNeg (x3 + 1))), .int (xs (Int32.toNatClampNeg (x3 + 2)))]) jo_X10_ask jc_10 rfl jwM_L_183 jwN_X10_ask jwX_X10_ask kd1199.2.2.2.2.2.2.1 hR rfl (jle rfl) hm440 hk439 h (fun r442 S441 h => ?_)
    refine jx_pop kd1199.2.2.2.2.2.2.2.1 rfl ?_
    refine jx_aload_n 2 kd1199.2.2.2.2.2.2.2.2.1 rfl rfl ?_
    refine jx_aload_n 0 kd1200.1 rfl rfl ?_
    refine jx_iload_n 3 kd1200.2.1 rfl rfl ?_
    refine jx_iconst (v := 1) kd1200.2.2.1 (by decide) ?_
    refine jx_iadd kd1200.2.2.2.1 ?_
    refine jx_sld kd1200.2.2.2.2.1 hi437 ?_
    refine jx_aload_n 0 kd1200.2.2.2.2.2.1 rfl rfl ?_
    refine jx_iload_n 3 kd1200.2.2.2.2.2.2.1 rfl rfl ?_
    refine jx_iconst (v := 2) kd1200.2.2.2.2.2.2.2.1 (by decide) ?_
    refine jx_iadd kd1200.2.2.2.2.2.2.2.2.1 ?_
    refine jx_sld kd1201.1 hi438 ?_
    obtain ⟨hk443, h⟩ := h
    obtain ⟨hm444, h⟩ := h
    obtain ⟨d, hR, h⟩ := h
    refine jx_callVi (M' := mX11_ask) (As := [.int (xs (Int32.toNatClampNeg (x3 + 1))), .int (xs (Int32.toNatClampNeg (x3 + 2)))]) jo_X11_ask jc_11 rfl jwM_L_186 jwN_X11_ask jwX_X11_ask kd1201.2.1 hR rfl (jle rfl) hm444 hk443 h (fun r446 S445 h => ?_)
    refine jx_pop kd1201.2.2.1 rfl ?_
    refine jx_goto (tgt := 1611) kd1201.2.2.2.1 (by decide) ?_
    refine jx_iinc 3 (v := (x3 + 6)) (lv1 := [(3, .int (x3 + 6)), (0, .ref a0), (1, .ref a1), (2, .ref a2)]) kd1214.2.2.2.2.2.2.1 rfl rfl (by show _ < 4; decide) rfl ?_
    refine jx_goto (tgt := 18) kd1214.2.2.2.2.2.2.2.1 (by decide) ?_
    exact jx_lv [1, 2, 3, 0] rfl h
  replace h := h.2
  by_cases c447 : ((xs (Int32.toNatClampNeg x3)) &&& 63) = 42
  · replace h := h.1 c447
    refine jx_tableIn (v := 42) (tgt := 1450) (off := 1417) kd1095.2.2.2.1 c447 (by decide) (by decide) (by decide) (by decide) ?_
    refine jx_aload_n 1 kd1201.2.2.2.2.1 rfl rfl ?_
    refine jx_aload_n 0 kd1201.2.2.2.2.2.1 rfl rfl ?_
    refine jx_iload_n 3 kd1201.2.2.2.2.2.2.1 rfl rfl ?_
    refine jx_iconst (v := 1) kd1201.2.2.2.2.2.2.2.1 (by decide) ?_
    refine jx_iadd kd1201.2.2.2.2.2.2.2.2.1 ?_
    obtain ⟨hi448, h⟩ := h
    refine jx_sld kd1202.1 hi448 ?_
    refine jx_aload_n 0 kd1202.2.1 rfl rfl ?_
    refine jx_iload_n 3 kd1202.2.2.1 rfl rfl ?_
    refine jx_iconst (v := 2) kd1202.2.2.2.1 (by decide) ?_
    refine jx_iadd kd1202.2.2.2.2.1 ?_
    obtain ⟨hi449, h⟩ := h
    refine jx_sld kd1202.2.2.2.2.2.1 hi449 ?_
    obtain ⟨hk450, h⟩ := h
    obtain ⟨hm451, h⟩ := h
    obtain ⟨d, hR, h⟩ := h
    refine jx_callVi (M' := mX10_item) (As := [.int (xs (Int32.toNatClampNeg (x3 + 1))), .int (xs (Int32.toNatClampNeg (x3 + 2)))]) jo_X10_item jc_10 rfl jwM_L_187 jwN_X10_item jwX_X10_item kd1202.2.2.2.2.2.2.1 hR rfl (jle rfl) hm451 hk450 h (fun r453 S452 h => ?_)
    refine jx_pop kd1202.2.2.2.2.2.2.2.1 rfl ?_
    refine jx_aload_n 2 kd1202.2.2.2.2.2.2.2.2.1 rfl rfl ?_
    refine jx_aload_n 0 kd1203.1 rfl rfl ?_
    refine jx_iload_n 3 kd1203.2.1 rfl rfl ?_
    refine jx_iconst (v := 1) kd1203.2.2.1 (by decide) ?_
    refine jx_iadd kd1203.2.2.2.1 ?_
    refine jx_sld kd1203.2.2.2.2.1 hi448 ?_
    refine jx_aload_n 0 kd1203.2.2.2.2.2.1 rfl rfl ?_
    refine jx_iload_n 3 kd1203.2.2.2.2.2.2.1 rfl rfl ?_
    refine jx_iconst (v := 2) kd1203.2.2.2.2.2.2.2.1 (by decide) ?_
    refine jx_iadd kd1203.2.2.2.2.2.2.2.2.1 ?_
    refine jx_sld kd1204.1 hi449 ?_
    obtain ⟨hk454, h⟩ := h
    obtain ⟨hm455, h⟩ := h
    obtain ⟨d, hR, h⟩ := h
    refine jx_callVi (M' := mX11_item) (As := [.int (xs (Int32.toNatClampNeg (x3 + 1))), .int (xs (Int32.toNatClampNeg (x3 + 2)))]) jo_X11_item jc_11 rfl jwM_L_190 jwN_X11_item jwX_X11_item kd1204.2.1 hR rfl (jle rfl) hm455 hk454 h (fun r457 S456 h => ?_)
    refine jx_pop kd1204.2.2.1 rfl ?_
    refine jx_goto (tgt := 1611) kd1204.2.2.2.1 (by decide) ?_
    refine jx_iinc 3 (v := (x3 + 6)) (lv1 := [(3, .int (x3 + 6)), (0, .ref a0), (1, .ref a1), (2, .ref a2)]) kd1214.2.2.2.2.2.2.1 rfl rfl (by show _ < 4; decide) rfl ?_
    refine jx_goto (tgt := 18) kd1214.2.2.2.2.2.2.2.1 (by decide) ?_
    exact jx_lv [1, 2, 3, 0] rfl h
  replace h := h.2
  by_cases c458 : ((xs (Int32.toNatClampNeg x3)) &&& 63) = 43
  · replace h := h.1 c458
    refine jx_tableIn (v := 43) (tgt := 1483) (off := 1450) kd1095.2.2.2.1 c458 (by decide) (by decide) (by decide) (by decide) ?_
    refine jx_aload_n 1 kd1204.2.2.2.2.1 rfl rfl ?_
    refine jx_aload_n 0 kd1204.2.2.2.2.2.1 rfl rfl ?_
    refine jx_iload_n 3 kd1204.2.2.2.2.2.2.1 rfl rfl ?_
    refine jx_iconst (v := 1) kd1204.2.2.2.2.2.2.2.1 (by decide) ?_
    refine jx_iadd kd1204.2.2.2.2.2.2.2.2.1 ?_
    obtain ⟨hi459, h⟩ := h
    refine jx_sld kd1205.1 hi459 ?_
    refine jx_aload_n 0 kd1205.2.1 rfl rfl ?_
    refine jx_iload_n 3 kd1205.2.2.1 rfl rfl ?_
    refine jx_iconst (v := 2) kd1205.2.2.2.1 (by decide) ?_
    refine jx_iadd kd1205.2.2.2.2.1 ?_
    obtain ⟨hi460, h⟩ := h
    refine jx_sld kd1205.2.2.2.2.2.1 hi460 ?_
    obtain ⟨hk461, h⟩ := h
    obtain ⟨hm462, h⟩ := h
    obtain ⟨d, hR, h⟩ := h
    refine jx_callVi (M' := mX10_rest) (As := [.int (xs (Int32.toNatClampNeg (x3 + 1))), .int (xs (Int32.toNatClampNeg (x3 + 2)))]) jo_X10_rest jc_10 rfl jwM_L_191 jwN_X10_rest jwX_X10_rest kd1205.2.2.2.2.2.2.1 hR rfl (jle rfl) hm462 hk461 h (fun r464 S463 h => ?_)
    refine jx_pop kd1205.2.2.2.2.2.2.2.1 rfl ?_
    refine jx_aload_n 2 kd1205.2.2.2.2.2.2.2.2.1 rfl rfl ?_
    refine jx_aload_n 0 kd1206.1 rfl rfl ?_
    refine jx_iload_n 3 kd1206.2.1 rfl rfl ?_
    refine jx_iconst (v := 1) kd1206.2.2.1 (by decide) ?_
    refine jx_iadd kd1206.2.2.2.1 ?_
    refine jx_sld kd1206.2.2.2.2.1 hi459 ?_
    refine jx_aload_n 0 kd1206.2.2.2.2.2.1 rfl rfl ?_
    refine jx_iload_n 3 kd1206.2.2.2.2.2.2.1 rfl rfl ?_
    refine jx_iconst (v := 2) kd1206.2.2.2.2.2.2.2.1 (by decide) ?_
    refine jx_iadd kd1206.2.2.2.2.2.2.2.2.1 ?_
    refine jx_sld kd1207.1 hi460 ?_
    obtain ⟨hk465, h⟩ := h
    obtain ⟨hm466, h⟩ := h
    obtain ⟨d, hR, h⟩ := h
    refine jx_callVi (M' := mX11_rest) (As := [.int (xs (Int32.toNatClampNeg (x3 + 1))), .int (xs (Int32.toNatClampNeg (x3 + 2)))]) jo_X11_rest jc_11 rfl jwM_L_194 jwN_X11_rest jwX_X11_rest kd1207.2.1 hR rfl (jle rfl) hm466 hk465 h (fun r468 S467 h => ?_)
    refine jx_pop kd1207.2.2.1 rfl ?_
    refine jx_goto (tgt := 1611) kd1207.2.2.2.1 (by decide) ?_
    refine jx_iinc 3 (v := (x3 + 6)) (lv1 := [(3, .int (x3 + 6)), (0, .ref a0), (1, .ref a1), (2, .ref a2)]) kd1214.2.2.2.2.2.2.1 rfl rfl (by show _ < 4; decide) rfl ?_
    refine jx_goto (tgt := 18) kd1214.2.2.2.2.2.2.2.1 (by decide) ?_
    exact jx_lv [1, 2, 3, 0] rfl h
  replace h := h.2
  by_cases c469 : ((xs (Int32.toNatClampNeg x3)) &&& 63) = 44
  · replace h := h.1 c469
    refine jx_tableIn (v := 44) (tgt := 1516) (off := 1483) kd1095.2.2.2.1 c469 (by decide) (by decide) (by decide) (by decide) ?_
    refine jx_aload_n 1 kd1207.2.2.2.2.1 rfl rfl ?_
    refine jx_aload_n 0 kd1207.2.2.2.2.2.1 rfl rfl ?_
    refine jx_iload_n 3 kd1207.2.2.2.2.2.2.1 rfl rfl ?_
    refine jx_iconst (v := 1) kd1207.2.2.2.2.2.2.2.1 (by decide) ?_
    refine jx_iadd kd1207.2.2.2.2.2.2.2.2.1 ?_
    obtain ⟨hi470, h⟩ := h
    refine jx_sld kd1208.1 hi470 ?_
    obtain ⟨hk471, h⟩ := h
    obtain ⟨hm472, h⟩ := h
    obtain ⟨d, hR, h⟩ := h
    refine jx_callVi (M' := mX10_tell) (As := [.int (xs (Int32.toNatClampNeg (x3 + 1)))]) jo_X10_tell jc_10 rfl jwM_L_195 jwN_X10_tell jwX_X10_tell kd1208.2.1 hR rfl (jle rfl) hm472 hk471 h (fun r474 S473 h => ?_)
    refine jx_pop kd1208.2.2.1 rfl ?_
    refine jx_aload_n 2 kd1208.2.2.2.1 rfl rfl ?_
    refine jx_aload_n 0 kd1208.2.2.2.2.1 rfl rfl ?_
    refine jx_iload_n 3 kd1208.2.2.2.2.2.1 rfl rfl ?_
    refine jx_iconst (v := 1) kd1208.2.2.2.2.2.2.1 (by decide) ?_
    refine jx_iadd kd1208.2.2.2.2.2.2.2.1 ?_
    refine jx_sld kd1208.2.2.2.2.2.2.2.2.1 hi470 ?_
    obtain ⟨hk475, h⟩ := h
    obtain ⟨hm476, h⟩ := h
    obtain ⟨d, hR, h⟩ := h
    refine jx_callVi (M' := mX11_tell) (As := [.int (xs (Int32.toNatClampNeg (x3 + 1)))]) jo_X11_tell jc_11 rfl jwM_L_198 jwN_X11_tell jwX_X11_tell kd1209.1 hR rfl (jle rfl) hm476 hk475 h (fun r478 S477 h => ?_)
    refine jx_pop kd1209.2.1 rfl ?_
    refine jx_goto (tgt := 1611) kd1209.2.2.1 (by decide) ?_
    refine jx_iinc 3 (v := (x3 + 6)) (lv1 := [(3, .int (x3 + 6)), (0, .ref a0), (1, .ref a1), (2, .ref a2)]) kd1214.2.2.2.2.2.2.1 rfl rfl (by show _ < 4; decide) rfl ?_
    refine jx_goto (tgt := 18) kd1214.2.2.2.2.2.2.2.1 (by decide) ?_
    exact jx_lv [1, 2, 3, 0] rfl h
  replace h := h.2
  by_cases c479 : ((xs (Int32.toNatClampNeg x3)) &&& 63) = 45
  · replace h := h.1 c479
    refine jx_tableIn (v := 45) (tgt := 1539) (off := 1506) kd1095.2.2.2.1 c479 (by decide) (by decide) (by decide) (by decide) ?_
    refine jx_aload_n 1 kd1209.2.2.2.1 rfl rfl ?_
    refine jx_aload_n 0 kd1209.2.2.2.2.1 rfl rfl ?_
    refine jx_iload_n 3 kd1209.2.2.2.2.2.1 rfl rfl ?_
    refine jx_iconst (v := 1) kd1209.2.2.2.2.2.2.1 (by decide) ?_
    refine jx_iadd kd1209.2.2.2.2.2.2.2.1 ?_
    obtain ⟨hi480, h⟩ := h
    refine jx_sld kd1209.2.2.2.2.2.2.2.2.1 hi480 ?_
    obtain ⟨hk481, h⟩ := h
    obtain ⟨hm482, h⟩ := h
    obtain ⟨d, hR, h⟩ := h
    refine jx_callVi (M' := mX10_check) (As := [.int (xs (Int32.toNatClampNeg (x3 + 1)))]) jo_X10_check jc_10 rfl jwM_L_199 jwN_X10_check jwX_X10_check kd1210.1 hR rfl (jle rfl) hm482 hk481 h (fun r484 S483 h => ?_)
    refine jx_pop kd1210.2.1 rfl ?_
    refine jx_aload_n 2 kd1210.2.2.1 rfl rfl ?_
    refine jx_aload_n 0 kd1210.2.2.2.1 rfl rfl ?_
    refine jx_iload_n 3 kd1210.2.2.2.2.1 rfl rfl ?_
    refine jx_iconst (v := 1) kd1210.2.2.2.2.2.1 (by decide) ?_
    refine jx_iadd kd1210.2.2.2.2.2.2.1 ?_
    refine jx_sld kd1210.2.2.2.2.2.2.2.1 hi480 ?_
    obtain ⟨hk485, h⟩ := h
    obtain ⟨hm486, h⟩ := h
    obtain ⟨d, hR, h⟩ := h
    refine jx_callVi (M' := mX11_check) (As := [.int (xs (Int32.toNatClampNeg (x3 + 1)))]) jo_X11_check jc_11 rfl jwM_L_202 jwN_X11_check jwX_X11_check kd1210.2.2.2.2.2.2.2.2.1 hR rfl (jle rfl) hm486 hk485 h (fun r488 S487 h => ?_)
    refine jx_pop kd1211.1 rfl ?_
    refine jx_goto (tgt := 1611) kd1211.2.1 (by decide) ?_
    refine jx_iinc 3 (v := (x3 + 6)) (lv1 := [(3, .int (x3 + 6)), (0, .ref a0), (1, .ref a1), (2, .ref a2)]) kd1214.2.2.2.2.2.2.1 rfl rfl (by show _ < 4; decide) rfl ?_
    refine jx_goto (tgt := 18) kd1214.2.2.2.2.2.2.2.1 (by decide) ?_
    exact jx_lv [1, 2, 3, 0] rfl h
  replace h := h.2
  by_cases c489 : ((xs (Int32.toNatClampNeg x3)) &&& 63) = 46
  · replace h := h.1 c489
    refine jx_tableIn (v := 46) (tgt := 1562) (off := 1529) kd1095.2.2.2.1 c489 (by decide) (by decide) (by decide) (by decide) ?_
    refine jx_aload_n 1 kd1211.2.2.1 rfl rfl ?_
    obtain ⟨hk490, h⟩ := h
    obtain ⟨hm491, h⟩ := h
    obtain ⟨d, hR, h⟩ := h
    refine jx_callVi (M' := mX10_keep) (As := []) jo_X10_keep jc_10 rfl jwM_L_203 jwN_X10_keep jwX_X10_keep kd1211.2.2.2.1 hR rfl (jle rfl) hm491 hk490 h (fun r493 S492 h => ?_)
    refine jx_pop kd1211.2.2.2.2.1 rfl ?_
    refine jx_aload_n 2 kd1211.2.2.2.2.2.1 rfl rfl ?_
    obtain ⟨hk494, h⟩ := h
    obtain ⟨hm495, h⟩ := h
    obtain ⟨d, hR, h⟩ := h
    refine jx_callVi (M' := mX11_keep) (As := []) jo_X11_keep jc_11 rfl jwM_L_206 jwN_X11_keep jwX_X11_keep kd1211.2.2.2.2.2.2.1 hR rfl (jle rfl) hm495 hk494 h (fun r497 S496 h => ?_)
    refine jx_pop kd1211.2.2.2.2.2.2.2.1 rfl ?_
    refine jx_goto (tgt := 1611) kd1211.2.2.2.2.2.2.2.2.1 (by decide) ?_
    refine jx_iinc 3 (v := (x3 + 6)) (lv1 := [(3, .int (x3 + 6)), (0, .ref a0), (1, .ref a1), (2, .ref a2)]) kd1214.2.2.2.2.2.2.1 rfl rfl (by show _ < 4; decide) rfl ?_
    refine jx_goto (tgt := 18) kd1214.2.2.2.2.2.2.2.1 (by decide) ?_
    exact jx_lv [1, 2, 3, 0] rfl h
  replace h := h.2
  by_cases c498 : ((xs (Int32.toNatClampNeg x3)) &&& 63) = 47
  · replace h := h.1 c498
    refine jx_tableIn (v := 47) (tgt := 1575) (off := 1542) kd1095.2.2.2.1 c498 (by decide) (by decide) (by decide) (by decide) ?_
    refine jx_aload_n 1 kd1212.1 rfl rfl ?_
    obtain ⟨hk499, h⟩ := h
    obtain ⟨hm500, h⟩ := h
    obtain ⟨d, hR, h⟩ := h
    refine jx_callVi (M' := mX10_back) (As := []) jo_X10_back jc_10 rfl jwM_L_207 jwN_X10_back jwX_X10_back kd1212.2.1 hR rfl (jle rfl) hm500 hk499 h (fun r502 S501 h => ?_)
    refine jx_pop kd1212.2.2.1 rfl ?_
    refine jx_aload_n 2 kd1212.2.2.2.1 rfl rfl ?_
    obtain ⟨hk503, h⟩ := h
    obtain ⟨hm504, h⟩ := h
    obtain ⟨d, hR, h⟩ := h
    refine jx_callVi (M' := mX11_back) (As := []) jo_X11_back jc_11 rfl jwM_L_210 jwN_X11_back jwX_X11_back kd1212.2.2.2.2.1 hR rfl (jle rfl) hm504 hk503 h (fun r506 S505 h => ?_)
    refine jx_pop kd1212.2.2.2.2.2.1 rfl ?_
    refine jx_goto (tgt := 1611) kd1212.2.2.2.2.2.2.1 (by decide) ?_
    refine jx_iinc 3 (v := (x3 + 6)) (lv1 := [(3, .int (x3 + 6)), (0, .ref a0), (1, .ref a1), (2, .ref a2)]) kd1214.2.2.2.2.2.2.1 rfl rfl (by show _ < 4; decide) rfl ?_
    refine jx_goto (tgt := 18) kd1214.2.2.2.2.2.2.2.1 (by decide) ?_
    exact jx_lv [1, 2, 3, 0] rfl h
  replace h := h.2
  by_cases c507 : ((xs (Int32.toNatClampNeg x3)) &&& 63) = 48
  · replace h := h.1 c507
    refine jx_tableIn (v := 48) (tgt := 1588) (off := 1555) kd1095.2.2.2.1 c507 (by decide) (by decide) (by decide) (by decide) ?_
    refine jx_aload_n 1 kd1212.2.2.2.2.2.2.2.1 rfl rfl ?_
    refine jx_aload_n 0 kd1212.2.2.2.2.2.2.2.2.1 rfl rfl ?_
    refine jx_iload_n 3 kd1213.1 rfl rfl ?_
    refine jx_iconst (v := 1) kd1213.2.1 (by decide) ?_
    refine jx_iadd kd1213.2.2.1 ?_
    obtain ⟨hi508, h⟩ := h
    refine jx_sld kd1213.2.2.2.1 hi508 ?_
    obtain ⟨hk509, h⟩ := h
    obtain ⟨hm510, h⟩ := h
    obtain ⟨d, hR, h⟩ := h
    refine jx_callVi (M' := mX10_count) (As := [.int (xs (Int32.toNatClampNeg (x3 + 1)))]) jo_X10_count jc_10 rfl jwM_L_211 jwN_X10_count jwX_X10_count kd1213.2.2.2.2.1 hR rfl (jle rfl) hm510 hk509 h (fun r512 S511 h => ?_)
    refine jx_aload_n 2 kd1213.2.2.2.2.2.1 rfl rfl ?_
    refine jx_aload_n 0 kd1213.2.2.2.2.2.2.1 rfl rfl ?_
    refine jx_iload_n 3 kd1213.2.2.2.2.2.2.2.1 rfl rfl ?_
    refine jx_iconst (v := 1) kd1213.2.2.2.2.2.2.2.2.1 (by decide) ?_
    refine jx_iadd kd1214.1 ?_
    refine jx_sld kd1214.2.1 hi508 ?_
    obtain ⟨hk513, h⟩ := h
    obtain ⟨hm514, h⟩ := h
    obtain ⟨d, hR, h⟩ := h
    refine jx_callVi (M' := mX11_count) (As := [.int (xs (Int32.toNatClampNeg (x3 + 1)))]) jo_X11_count jc_11 rfl jwM_L_214 jwN_X11_count jwX_X11_count kd1214.2.2.1 hR rfl (jle rfl) hm514 hk513 h (fun r516 S515 h => ?_)
    refine jx_icmp_eq (tgt := 1611) kd1214.2.2.2.1 (by decide) (fun c517 => ?_) (fun c517 => ?_)
    · replace h := h.1 c517
      refine jx_iinc 3 (v := (x3 + 6)) (lv1 := [(3, .int (x3 + 6)), (0, .ref a0), (1, .ref a1), (2, .ref a2)]) kd1214.2.2.2.2.2.2.1 rfl rfl (by show _ < 4; decide) rfl ?_
      refine jx_goto (tgt := 18) kd1214.2.2.2.2.2.2.2.1 (by decide) ?_
      exact jx_lv [1, 2, 3, 0] rfl h
    replace h := h.2 c517
    refine jx_iconst (v := 0) kd1214.2.2.2.2.1 (by decide) ?_
    exact h.elim
  replace h := h.2
  replace h := h c3 c16 c27 c38 c49 c61 c73 c85 c96 c106 c116 c126 c137 c148 c158 c168 c178 c188 c198 c207 c216 c226 c236 c245 c255 c265 c275 c284 c295 c305 c314 c326 c336 c345 c356 c366 c378 c390 c400 c410 c424 c436 c447 c458 c469 c479 c489 c498 c507
  refine jx_tableD (tgt := 1611) ([0, 1, 2, 3, 4, 5, 6, 7, 8, 9, 10, 11, 12, 13, 14, 15, 16, 17, 18, 19, 20, 21, 22, 23, 24, 25, 26, 27, 28, 29, 30, 31, 32, 33, 34, 35, 36, 37, 38, 39, 40, 41, 42, 43, 44, 45, 46, 47, 48] : List Int) kd1095.2.2.2.1 (by simp only [List.mem_cons, List.not_mem_nil, or_false, forall_eq_or_imp, forall_eq]; exact ⟨lv_neT c3 (by decide), lv_neT c16 (by decide), lv_neT c27 (by decide), lv_neT c38 (by decide), lv_neT c49 (by decide), lv_neT c61 (by decide), lv_neT c73 (by decide), lv_neT c85 (by decide), lv_neT c96 (by decide), lv_neT c106 (by decide), lv_neT c116 (by decide), lv_neT c126 (by decide), lv_neT c137 (by decide), lv_neT c148 (by decide), lv_neT c158 (by decide), lv_neT c168 (by decide), lv_neT c178 (by decide), lv_neT c188 (by decide), lv_neT c198 (by decide), lv_neT c207 (by decide), lv_neT c216 (by decide), lv_neT c226 (by decide), lv_neT c236 (by decide), lv_neT c245 (by decide), lv_neT c255 (by decide), lv_neT c265 (by decide), lv_neT c275 (by decide), lv_neT c284 (by decide), lv_neT c295 (by decide), lv_neT c305 (by decide), lv_neT c314 (by decide), lv_neT c326 (by decide), lv_neT c336 (by decide), lv_neT c345 (by decide), lv_neT c356 (by decide), lv_neT c366 (by decide), lv_neT c378 (by decide), lv_neT c390 (by decide), lv_neT c400 (by decide), lv_neT c410 (by decide), lv_neT c424 (by decide), lv_neT c436 (by decide), lv_neT c447 (by decide), lv_neT c458 (by decide), lv_neT c469 (by decide), lv_neT c479 (by decide), lv_neT c489 (by decide), lv_neT c498 (by decide), lv_neT c507 (by decide)⟩) (by decide) (by decide) (by decide) ?_
  refine jx_iinc 3 (v := (x3 + 6)) (lv1 := [(3, .int (x3 + 6)), (0, .ref a0), (1, .ref a1), (2, .ref a2)]) kd1214.2.2.2.2.2.2.1 rfl rfl (by show _ < 4; decide) rfl ?_
  refine jx_goto (tgt := 18) kd1214.2.2.2.2.2.2.2.1 (by decide) ?_
  exact jx_lv [1, 2, 3, 0] rfl h
set_option maxRecDepth 100000 in
set_option maxHeartbeats 4000000 in
theorem T_L_law {E : jEnv} {nm : String} {L : Nat} {xs : Nat → Int32} {a0 : Nat} {S : jM} (h : ∀ q1, q1 = jn S → ∃ d, jRok room_1 d ∧ jFv E mX10_init d 93 1196 [.ref q1] (jnew S 10 0) (fun S2 => ∀ q3, q3 = jn S2 → ∃ d, jRok room_1 d ∧ jFv E mX11_init d 20 10292 [.ref q3] (jnew S2 11 0) (fun S4 => L_L_law_18 E nm L xs a0 q1 q3 0 S4 115 11534))) : jX E (mLw nm) room_1 (jZL E a0 L xs) 0 [(0, .ref a0)] [] S 0 0 := by
  refine jx_new jc_10 jwK_L_7 jwI_X10 jwZ_X10 jdv_10 kd1093.1 ⟨jle rfl, jle rfl⟩ ?_
  obtain ⟨q1, hq1⟩ : ∃ q, q = jn S := ⟨_, rfl⟩
  rw [← hq1]
  replace h := h q1 hq1
  refine jx_dup kd1093.2.1 rfl ?_
  obtain ⟨d, hR, h⟩ := h
  refine jx_callIv (M' := mX10_init) (As := []) (b := q1) jo_X10_init rfl jwM_L_9 jwN_X10_init rfl kd1093.2.2.1 hR rfl (jle rfl) ⟨jle rfl, jle rfl⟩ h (fun S2 h => ?_)
  refine jx_astore_n (lv1 := [(1, .ref q1), (0, .ref a0)]) kd1093.2.2.2.1 rfl (by show _ < 4; decide) rfl ?_
  refine jx_new jc_11 jwK_L_10 jwI_X11 jwZ_X11 jdv_11 kd1093.2.2.2.2.1 ⟨jle rfl, jle rfl⟩ ?_
  obtain ⟨q3, hq3⟩ : ∃ q, q = jn S2 := ⟨_, rfl⟩
  rw [← hq3]
  replace h := h q3 hq3
  refine jx_dup kd1093.2.2.2.2.2.1 rfl ?_
  obtain ⟨d, hR, h⟩ := h
  refine jx_callIv (M' := mX11_init) (As := []) (b := q3) jo_X11_init rfl jwM_L_12 jwN_X11_init rfl kd1093.2.2.2.2.2.2.1 hR rfl (jle rfl) ⟨jle rfl, jle rfl⟩ h (fun S4 h => ?_)
  refine jx_astore_n (lv1 := [(2, .ref q3), (1, .ref q1), (0, .ref a0)]) kd1093.2.2.2.2.2.2.2.1 rfl (by show _ < 4; decide) rfl ?_
  refine jx_iconst (v := 0) kd1093.2.2.2.2.2.2.2.2.1 (by decide) ?_
  refine jx_istore_n (lv1 := [(3, .int 0), (2, .ref q3), (1, .ref q1), (0, .ref a0)]) kd1094.1 rfl (by show _ < 4; decide) rfl ?_
  exact jx_lv [3, 2, 1, 0] rfl h
end
section
/-! THE LAW OF p1: one call on fresh objects -/
theorem jFi_mono {E : jEnv} {M : jMd} {d mc ms : Nat} {args : List Value} {S : jM} {Q Q' : Int32 → jM → Prop} (h : jFi E M d mc ms args S Q) (hq : ∀ v S', Q v S' → Q' v S') : jFi E M d mc ms args S Q' :=
  jF.mono h (fun r S' ⟨v, e, h9⟩ => ⟨v, e, hq v S' h9⟩)
/-- a pair of calls of which the law wants that they answer alike -/
def jPr (E : jEnv) (M M' : jMd) (mc ms x : Nat) (As : List Value) (S : jM) (J : jM → Prop) : Prop := ∃ d, jRok room_1 d ∧ jFi E M d mc ms (.ref x :: As) S (fun r S1 => jk S1 (x + 94) = 11 ∧ ∃ d', jRok room_1 d' ∧ jFi E M' d' 0 0 (.ref (x + 94) :: As) S1 (fun r' S2 => r = r' ∧ J S2))
theorem jok (d : Nat) (h : Nat.ble d 1000 = true) : jRok room_1 d := by
  have h1 : d ≤ 1000 := Nat.le_of_ble_eq_true h
  refine ⟨?_, ?_⟩
  · show d + 1 ≤ 2048; omega
  · show 64 * d + 64 ≤ 84000; omega
section jOne
variable {E : jEnv} {S : jM} {x : Nat}
end jOne
end
section
/-! THE START of the law: classes, arrays, constants (program: wip/gen/env.py) -/
theorem jT_sub {w : Cond} (h : w ∈ jT) : w ∈ lw_tbl := (List.mem_filter.mp h).1
theorem env_cls {s : State} {A : Array Value} (hts : ∀ w ∈ jT, w.before A s = true) : ∃ D : va_G, ∀ (k : Nat) (q : vw_C), vwCl[k]? = some q → u_Kn s q.1 q.2.1 q.2.2 (D.1 k) (D.2 k) := by
  obtain ⟨c0, i0, h0⟩ := u_known (C := RX0) (T := TX0) (N := 3) (n := 3) hts jc_0.2.1 (hts _ jwI_X0)
  obtain ⟨c1, i1, h1⟩ := u_known (C := RX1) (T := TX1) (N := 7) (n := 7) hts jc_1.2.1 (hts _ jwI_X1)
  obtain ⟨c2, i2, h2⟩ := u_known (C := RX2) (T := TX2) (N := 7) (n := 7) hts jc_2.2.1 (hts _ jwI_X2)
  obtain ⟨c3, i3, h3⟩ := u_known (C := RX3) (T := TX3) (N := 7) (n := 7) hts jc_3.2.1 (hts _ jwI_X3)
  obtain ⟨c4, i4, h4⟩ := u_known (C := RX4) (T := TX4) (N := 2) (n := 2) hts jc_4.2.1 (hts _ jwI_X4)
  obtain ⟨c5, i5, h5⟩ := u_known (C := RX5) (T := TX5) (N := 12) (n := 12) hts jc_5.2.1 (hts _ jwI_X5)
  obtain ⟨c6, i6, h6⟩ := u_known (C := RX6) (T := TX6) (N := 3) (n := 3) hts jc_6.2.1 (hts _ jwI_X6)
  obtain ⟨c7, i7, h7⟩ := u_known (C := RX7) (T := TX7) (N := 4) (n := 4) hts jc_7.2.1 (hts _ jwI_X7)
  obtain ⟨c8, i8, h8⟩ := u_known (C := RX8) (T := TX8) (N := 10) (n := 10) hts jc_8.2.1 (hts _ jwI_X8)
  obtain ⟨c9, i9, h9⟩ := u_known (C := RX9) (T := TX9) (N := 4) (n := 4) hts jc_9.2.1 (hts _ jwI_X9)
  obtain ⟨c10, i10, h10⟩ := u_known (C := RX10) (T := TX10) (N := 10) (n := 10) hts jc_10.2.1 (hts _ jwI_X10)
  obtain ⟨c11, i11, h11⟩ := u_known (C := RX11) (T := TX11) (N := 36) (n := 36) hts jc_11.2.1 (hts _ jwI_X11)
  refine ⟨(fun k => if k = 0 then c0 else if k = 1 then c1 else if k = 2 then c2 else if k = 3 then c3 else if k = 4 then c4 else if k = 5 then c5 else if k = 6 then c6 else if k = 7 then c7 else if k = 8 then c8 else if k = 9 then c9 else if k = 10 then c10 else c11, fun k => if k = 0 then i0 else if k = 1 then i1 else if k = 2 then i2 else if k = 3 then i3 else if k = 4 then i4 else if k = 5 then i5 else if k = 6 then i6 else if k = 7 then i7 else if k = 8 then i8 else if k = 9 then i9 else if k = 10 then i10 else i11), fun k q hq => ?_⟩
  match k, hq with
  | 0, hq => cases hq; exact h0
  | 1, hq => cases hq; exact h1
  | 2, hq => cases hq; exact h2
  | 3, hq => cases hq; exact h3
  | 4, hq => cases hq; exact h4
  | 5, hq => cases hq; exact h5
  | 6, hq => cases hq; exact h6
  | 7, hq => cases hq; exact h7
  | 8, hq => cases hq; exact h8
  | 9, hq => cases hq; exact h9
  | 10, hq => cases hq; exact h10
  | 11, hq => cases hq; exact h11
  | k + 12, hq => simp [vwCl] at hq
theorem env_obj {s : State} {C : String} (h : va_AO C s) : ∃ cA : ClassId, ArrOfT s cA (.object C) ∧ va_RA s cA (.object C) := by
  obtain ⟨comp, c, k, h1, h2, h3, h4, h5⟩ := Cond.arrayOver_spec h
  exact ⟨c, fun n z => ⟨(fun k h => by cases h), k, h3, comp, h4⟩, k, comp, h3, h4, h1, h5⟩
theorem env_int {s : State} {A : Array Value} (h : (Cond.arrayClass .int).before A s = true) : ∃ cA : ClassId, ArrOfT s cA .int ∧ va_RA s cA .int := by
  obtain ⟨cA, kA, comp, h1, h2, h3⟩ := Cond.arrayClass_spec h
  exact ⟨cA, fun n z => ⟨(fun k h => by cases h), kA, h2, comp, h3⟩, h1⟩
theorem env_nest {s : State} {A : Array Value} (hts : ∀ w ∈ lw_tbl, w.before A s = true) : ∀ q ∈ jNest, va_Nw (.methodLinkNest q.1 q.2.1 q.2.2.1 q.2.2.2) s := by
  have one : ∀ q : String × Nat × MethodName × String, Cond.methodLinkNest q.1 q.2.1 q.2.2.1 q.2.2.2 ∈ tables_1 → va_Nw (.methodLinkNest q.1 q.2.1 q.2.2.1 q.2.2.2) s := fun q h => va_Nw.of rfl (hts _ (List.mem_append_right _ h))
  exact List.forall_mem_cons.mpr ⟨one _ (List.mem_of_getElem? (i := 31) (by decide +kernel)), List.forall_mem_cons.mpr ⟨one _ (List.mem_of_getElem? (i := 44) (by decide +kernel)), List.forall_mem_cons.mpr ⟨one _ (List.mem_of_getElem? (i := 130) (by decide +kernel)), List.forall_mem_cons.mpr ⟨one _ (List.mem_of_getElem? (i := 207) (by decide +kernel)), List.forall_mem_cons.mpr ⟨one _ (List.mem_of_getElem? (i := 253) (by decide +kernel)), List.forall_mem_cons.mpr ⟨one _ (List.mem_of_getElem? (i := 295) (by decide +kernel)), List.forall_mem_cons.mpr ⟨one _ (List.mem_of_getElem? (i := 315) (by decide +kernel)), List.forall_mem_cons.mpr ⟨one _ (List.mem_of_getElem? (i := 320) (by decide +kernel)), List.forall_mem_cons.mpr ⟨one _ (List.mem_of_getElem? (i := 322) (by decide +kernel)), List.forall_mem_cons.mpr ⟨one _ (List.mem_of_getElem? (i := 382) (by decide +kernel)), List.forall_mem_cons.mpr ⟨one _ (List.mem_of_getElem? (i := 414) (by decide +kernel)), List.forall_mem_cons.mpr ⟨one _ (List.mem_of_getElem? (i := 419) (by decide +kernel)), List.forall_mem_cons.mpr ⟨one _ (List.mem_of_getElem? (i := 452) (by decide +kernel)), List.forall_mem_cons.mpr ⟨one _ (List.mem_of_getElem? (i := 485) (by decide +kernel)), List.forall_mem_cons.mpr ⟨one _ (List.mem_of_getElem? (i := 534) (by decide +kernel)), List.forall_mem_cons.mpr ⟨one _ (List.mem_of_getElem? (i := 625) (by decide +kernel)), List.forall_mem_cons.mpr ⟨one _ (List.mem_of_getElem? (i := 744) (by decide +kernel)), List.forall_mem_cons.mpr ⟨one _ (List.mem_of_getElem? (i := 774) (by decide +kernel)), fun _ h => absurd h List.not_mem_nil⟩⟩⟩⟩⟩⟩⟩⟩⟩⟩⟩⟩⟩⟩⟩⟩⟩⟩
def envT (i : Nat) : Term := .string RX8 (94 + 2 * i)
def envL : List Nat := [4, 4, 4, 3, 2, 2]
def envB : List (List Int32) := [[116, 101, 114, 109], [102, 97, 109, 101], [102, 105, 110, 101], [107, 103, 97], [102, 97], [99, 100]]
theorem env6 {P : Nat → Prop} (h0 : P 0) (h1 : P 1) (h2 : P 2) (h3 : P 3) (h4 : P 4) (h5 : P 5) : ∀ i, i < 6 → P i := by
  intro i hi
  match i, hi with
  | 0, _ => exact h0
  | 1, _ => exact h1
  | 2, _ => exact h2
  | 3, _ => exact h3
  | 4, _ => exact h4
  | 5, _ => exact h5
  | k + 6, hi => omega
theorem env_str {s : State} {A : Array Value} {B : Nat → Prop} (hs : (Jvm.Cond.and given_1 narrow_1).before A s = true) (hA : ∀ a : Nat, a < s.heap.size → ¬ B a) : ∃ adK adV : Nat → Nat, vk_S 6 envL envB adK adV B s s.heap ∧ ∀ i : Nat, i < 6 → (envT i).eval A s none [] s = some (.ref (adK i)) := by
  have hf := flat_of_before _ hs
  refine vk_Sof (tm := envT) (len := envL) (byt := envB) (env6 (by decide) (by decide) (by decide) (by decide) (by decide) (by decide)) (env6 (hf _ (by decide +kernel)) (hf _ (by decide +kernel)) (hf _ (by decide +kernel)) (hf _ (by decide +kernel)) (hf _ (by decide +kernel)) (hf _ (by decide +kernel))) (env6 (hf _ (by decide +kernel)) (hf _ (by decide +kernel)) (hf _ (by decide +kernel)) (hf _ (by decide +kernel)) (hf _ (by decide +kernel)) (hf _ (by decide +kernel))) (env6 (hf _ (by decide +kernel)) (hf _ (by decide +kernel)) (hf _ (by decide +kernel)) (hf _ (by decide +kernel)) (hf _ (by decide +kernel)) (hf _ (by decide +kernel))) (env6 (hf _ (by decide +kernel)) (hf _ (by decide +kernel)) (hf _ (by decide +kernel)) (hf _ (by decide +kernel)) (hf _ (by decide +kernel)) (hf _ (by decide +kernel))) ?_ ?_ hA
  · exact env6 (fun j hj => match j, hj with | 0, _ => hf _ (by decide +kernel) | 1, _ => hf _ (by decide +kernel) | 2, _ => hf _ (by decide +kernel) | 3, _ => hf _ (by decide +kernel) | k + 4, hj => absurd hj (by show ¬ k + 4 < 4; omega)) (fun j hj => match j, hj with | 0, _ => hf _ (by decide +kernel) | 1, _ => hf _ (by decide +kernel) | 2, _ => hf _ (by decide +kernel) | 3, _ => hf _ (by decide +kernel) | k + 4, hj => absurd hj (by show ¬ k + 4 < 4; omega)) (fun j hj => match j, hj with | 0, _ => hf _ (by decide +kernel) | 1, _ => hf _ (by decide +kernel) | 2, _ => hf _ (by decide +kernel) | 3, _ => hf _ (by decide +kernel) | k + 4, hj => absurd hj (by show ¬ k + 4 < 4; omega)) (fun j hj => match j, hj with | 0, _ => hf _ (by decide +kernel) | 1, _ => hf _ (by decide +kernel) | 2, _ => hf _ (by decide +kernel) | k + 3, hj => absurd hj (by show ¬ k + 3 < 3; omega)) (fun j hj => match j, hj with | 0, _ => hf _ (by decide +kernel) | 1, _ => hf _ (by decide +kernel) | k + 2, hj => absurd hj (by show ¬ k + 2 < 2; omega)) (fun j hj => match j, hj with | 0, _ => hf _ (by decide +kernel) | 1, _ => hf _ (by decide +kernel) | k + 2, hj => absurd hj (by show ¬ k + 2 < 2; omega))
  · have hn : ∀ i, i < 6 → ∀ j, j < 6 → i < j → (Cond.not (Cond.eq (envT i) (envT j))).before A s = true := env6 (env6 (fun h => absurd h (by decide)) (fun _ => hf _ (by decide +kernel)) (fun _ => hf _ (by decide +kernel)) (fun _ => hf _ (by decide +kernel)) (fun _ => hf _ (by decide +kernel)) (fun _ => hf _ (by decide +kernel))) (env6 (fun h => absurd h (by decide)) (fun h => absurd h (by decide)) (fun _ => hf _ (by decide +kernel)) (fun _ => hf _ (by decide +kernel)) (fun _ => hf _ (by decide +kernel)) (fun _ => hf _ (by decide +kernel))) (env6 (fun h => absurd h (by decide)) (fun h => absurd h (by decide)) (fun h => absurd h (by decide)) (fun _ => hf _ (by decide +kernel)) (fun _ => hf _ (by decide +kernel)) (fun _ => hf _ (by decide +kernel))) (env6 (fun h => absurd h (by decide)) (fun h => absurd h (by decide)) (fun h => absurd h (by decide)) (fun h => absurd h (by decide)) (fun _ => hf _ (by decide +kernel)) (fun _ => hf _ (by decide +kernel))) (env6 (fun h => absurd h (by decide)) (fun h => absurd h (by decide)) (fun h => absurd h (by decide)) (fun h => absurd h (by decide)) (fun h => absurd h (by decide)) (fun _ => hf _ (by decide +kernel))) (env6 (fun h => absurd h (by decide)) (fun h => absurd h (by decide)) (fun h => absurd h (by decide)) (fun h => absurd h (by decide)) (fun h => absurd h (by decide)) (fun h => absurd h (by decide)))
    intro i j hi hj hij
    rcases Nat.lt_or_gt_of_ne hij with h | h
    · exact Or.inl (hn i hi j hj h)
    · exact Or.inr (hn j hj i hi h)
theorem env_start {s : State} {A : Array Value} (l : Launch) (hts : ∀ w ∈ lw_tbl, w.before A s = true) (hs : (Jvm.Cond.and given_1 narrow_1).before A s = true) : ∃ E : jEnv, eL E = l ∧ eB E = s.heap.size ∧ eG E = s.heap ∧ va_K (eD E) vwCl (jtys E) s ∧ jG E s := by
  have hj : ∀ w ∈ jT, w.before A s = true := fun w hw => hts w (jT_sub hw)
  have hf := flat_of_before _ hs
  obtain ⟨D, hD⟩ := env_cls hj
  have o2 : va_AO RX2 s := va_AO.of (hts _ (List.mem_append_right _ (jm_1 (List.mem_of_getElem? (i := 42) (by decide +kernel)))))
  have o6 : va_AO RX6 s := va_AO.of (hts _ (List.mem_append_right _ (jm_2 (List.mem_of_getElem? (i := 51) (by decide +kernel)))))
  have o7 : va_AO RX7 s := va_AO.of (hts _ (List.mem_append_right _ (jm_2 (List.mem_of_getElem? (i := 53) (by decide +kernel)))))
  have o9 : va_AO RX9 s := va_AO.of (hts _ (List.mem_append_right _ (jm_1 (List.mem_of_getElem? (i := 172) (by decide +kernel)))))
  obtain ⟨a12, k12⟩ := env_int (hj _ jwA)
  obtain ⟨a13, k13⟩ := env_obj o2
  obtain ⟨a14, k14⟩ := env_obj o6
  obtain ⟨a15, k15⟩ := env_obj o7
  obtain ⟨a16, k16⟩ := env_obj o9
  have hA : ∀ a : Nat, a < s.heap.size → ¬ (fun q : Nat => s.heap.size ≤ q) a := fun a h => Nat.not_le.mpr h
  obtain ⟨t, ht, hT⟩ := va_Tof (A := fun q : Nat => s.heap.size ≤ q) (tm := .static "NineMasters" "ABOVE" "[I") (ty := .int) (N := 6) (f := fun j => .int (([-1, 0, 0, 1, 2, 0] : List Int32).getD j 0)) (by decide) (hf _ (by decide +kernel)) (va_eqt (z := 6) (hf _ (by decide +kernel))) (env6 (va_eqt (hf _ (by decide +kernel))) (va_eqt (hf _ (by decide +kernel))) (va_eqt (hf _ (by decide +kernel))) (va_eqt (hf _ (by decide +kernel))) (va_eqt (hf _ (by decide +kernel))) (va_eqt (hf _ (by decide +kernel)))) hA
  obtain ⟨adK, adV, hS, hE⟩ := env_str (B := fun q : Nat => s.heap.size ≤ q) hs hA
  refine ⟨(l, D, (fun k => if k = 12 then a12 else if k = 13 then a13 else if k = 14 then a14 else if k = 15 then a15 else a16), s.heap.size, s.heap, t, adK, adV), rfl, rfl, rfl, ⟨hD, fun k q hk => ?_⟩, ?_⟩
  · match k, hk with
    | 0, hk => cases hk; exact k12
    | 1, hk => cases hk; exact k13
    | 2, hk => cases hk; exact k14
    | 3, hk => cases hk; exact k15
    | 4, hk => cases hk; exact k16
    | k + 5, hk => simp [jtys] at hk
  · refine ⟨va_Zof (hts _ (List.mem_append_right _ (jm_2 (List.mem_of_getElem? (i := 214) (by decide +kernel))))) (hj _ jwZ_X10) ht hA, hT, va_Zof (hts _ (List.mem_append_right _ (jm_4 (List.mem_of_getElem? (i := 102) (by decide +kernel))))) (hj _ jwZ_J0) (va_eqt (hf _ (by decide +kernel))) hA, va_Zqof (hts _ (List.mem_append_right _ (jm_4 (List.mem_of_getElem? (i := 118) (by decide +kernel))))) (hj _ jwZ_J3) (hf _ (by decide +kernel)) hA, hS, vk_R.of (hts _ (List.mem_append_right _ (jm_4 (List.mem_of_getElem? (i := 86) (by decide +kernel))))) (hE 0 (by decide)), vk_R.of (hts _ (List.mem_append_right _ (jm_4 (List.mem_of_getElem? (i := 87) (by decide +kernel))))) (hE 1 (by decide)), vk_R.of (hts _ (List.mem_append_right _ (jm_4 (List.mem_of_getElem? (i := 88) (by decide +kernel))))) (hE 2 (by decide)), vk_R.of (hts _ (List.mem_append_right _ (jm_4 (List.mem_of_getElem? (i := 164) (by decide +kernel))))) (hE 3 (by decide)), vk_R.of (hts _ (List.mem_append_right _ (jm_4 (List.mem_of_getElem? (i := 165) (by decide +kernel))))) (hE 4 (by decide)), vk_R.of (hts _ (List.mem_append_right _ (jm_4 (List.mem_of_getElem? (i := 166) (by decide +kernel))))) (hE 5 (by decide)), env_nest hts, va_Nw.of rfl (hts _ (List.mem_append_right _ (jm_2 (List.mem_of_getElem? (i := 213) (by decide +kernel))))), o2, o6, o7, o9⟩
end
