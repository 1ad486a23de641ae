/-! ONE CALL ON FRESH OBJECTS, third part: sheet, feed, made, count -/
section jFresh3
variable {E : jEnv} {d : Nat} {S : jM} {x : Nat}
theorem nI_mul (a b : Nat) : nI a * nI b = nI (a * b) := (Int32.ofNat_mul a b).symm
theorem GM.of {S' : jM} (h : GM S x) (hs : jsame S S') (he : ∀ y, x + 94 ≤ y → ji S' y = ji S y) : GM S' x := by
  obtain ⟨h1, a1, a2, a3, a4⟩ := h
  refine ⟨h1.same hs, fun j => ?_, fun j => ?_, fun j hj => ?_, fun k p q r j => ?_⟩
  · rw [he _ (by omega)]; exact a1 j
  · rw [he _ (by omega)]; exact a2 j
  · rw [he _ (by omega)]; exact a3 j hj
  · rw [he _ (by omega)]; exact a4 k p q r j
theorem c_X6_begin {Q : jM → Prop} {a p : Nat} {so si : Int32} (hL : ShL S a p) (h : ∀ S', jsame S S' → (∀ y, y ≠ a → y ≠ p → ji S' y = ji S y) → ShR S' a p so si (fun _ => 0) → Q S') : jFv E mX6_begin d 0 0 [.ref a, .int so, .int si] S Q := by
  obtain ⟨k6, r2, k12, l24⟩ := hL
  have hne : p ≠ a := jne k12 k6 (by decide)
  have key : ∀ (n i : Nat) (S1 : jM), i + n = 24 → jsame S S1 → (∀ y, y ≠ a → y ≠ p → ji S1 y = ji S y) → ji S1 a 0 = so → ji S1 a 1 = si → (∀ j, j < i → ji S1 p j = 0) → L_X6_begin_12 E d Q a (nI i) S1 := by
    intro n
    induction n with
    | zero =>
      intro i S1 hi hs ho h0 h1 hp
      obtain rfl : i = 24 := by omega
      exact T_X6_begin_12 ⟨fun _ => h S1 hs ho ⟨⟨by rw [hs.1]; exact k6, by rw [hs.2.2.1]; exact r2, by rw [hs.1]; exact k12, by rw [hs.2.1]; exact l24⟩, h0, h1, hp⟩, fun c => absurd (by decide) c⟩
    | succ n ih =>
      intro i S1 hi hs ho h0 h1 hp
      refine T_X6_begin_12 ⟨fun c => absurd c (nI_ge (b := 24) (by omega) (by omega)), fun _ => ⟨by rw [hs.1]; exact k6, p, by rw [hs.2.2.1]; exact r2, by rw [hs.1]; exact k12, by rw [hs.2.1, l24]; exact jin_nI (by omega) (by omega), ?_⟩⟩
      rw [jcl (by omega), nI_1]
      refine ih (i + 1) _ (by omega) ⟨hs.1, hs.2.1, hs.2.2.1, hs.2.2.2⟩ (fun y h1 h2 => (ji_put_ne _ _ _ _ h2).trans (ho y h1 h2)) ?_ ?_ (fun j hj => ?_)
      · rw [ji_put_ne _ _ _ _ (Ne.symm hne)]; exact h0
      · rw [ji_put_ne _ _ _ _ (Ne.symm hne)]; exact h1
      · rw [ji_put]
        by_cases hji : j = i
        · rw [if_pos ⟨rfl, hji⟩]
        · rw [if_neg (fun c => hji c.2)]; exact hp j (by omega)
  refine T_X6_begin ⟨k6, key 24 0 _ rfl ⟨rfl, rfl, rfl, rfl⟩ (fun y h1 h2 => (ji_put_ne _ _ _ _ h1).trans (ji_put_ne _ _ _ _ h1)) ?_ ?_ (fun j hj => absurd hj (Nat.not_lt_zero _))⟩
  · rw [ji_put, if_neg (by omega), ji_put_same]
  · rw [ji_put_same]
theorem ML.row {m : Nat} (h : ML S m) (k n : Nat) {f : Nat} (hk : MT[k]? = some (f, n)) : jr S m f = some (m + 1 + k) ∧ jk S (m + 1 + k) = 12 ∧ jl S (m + 1 + k) = n := h.2 k (f, n) hk
/-- the reference empties a sheet's places -/
theorem c_X11_sheetL {Q : Int32 → jM → Prop} {m i : Nat} (hi : i < 4) (hM : ML S m) (h : ∀ S', jsame S S' → (∀ y, y ≠ m + 6 → ji S' y = ji S y) → (∀ j, ji S' (m + 6) j = if 24 * i ≤ j ∧ j < 24 * i + 24 then 0 else ji S (m + 6) j) → Q (ji S (m + 5) i) S') : L_X11_sheet_69 E d Q m (nI i) 0 S := by
  have key : ∀ (n k : Nat) (S1 : jM), k + n = 24 → jsame S S1 → (∀ y, y ≠ m + 6 → ji S1 y = ji S y) → (∀ j, ji S1 (m + 6) j = if 24 * i ≤ j ∧ j < 24 * i + k then 0 else ji S (m + 6) j) → L_X11_sheet_69 E d Q m (nI i) (nI k) S1 := by
    intro n
    induction n with
    | zero =>
      intro k S1 hk hs ho hp
      obtain rfl : k = 24 := by omega
      have hM1 := hM.same hs
      have r5 := hM1.row 4 4 (f := 5) rfl
      have e5 : ji S1 (m + 1 + 4) (Int32.toNatClampNeg (nI i)) = ji S (m + 5) i := by
        rw [jcl (by omega), ho (m + 1 + 4) (by omega)]
      refine T_X11_sheet_69 ⟨fun _ => ⟨hM1.1, _, r5.1, r5.2.1, by rw [r5.2.2]; exact jin_nI hi (by omega), ?_⟩, fun c => absurd (by decide) c⟩
      rw [e5]; exact h S1 hs ho hp
    | succ n ih =>
      intro k S1 hk hs ho hp
      have hM1 := hM.same hs
      have r6 := hM1.row 5 96 (f := 6) rfl
      have e6 : (24 : Int32) * nI i + nI k = nI (24 * i + k) := by
        rw [show (24 : Int32) = nI 24 from rfl, nI_mul, nI_add]
      refine T_X11_sheet_69 ⟨fun c => absurd c (nI_ge (b := 24) (by omega) (by omega)), fun _ => ⟨hM1.1, _, r6.1, r6.2.1, by rw [e6, r6.2.2]; exact jin_nI (by omega) (by omega), ?_⟩⟩
      rw [e6, jcl (by omega), nI_1]
      refine ih (k + 1) _ (by omega) ⟨hs.1, hs.2.1, hs.2.2.1, hs.2.2.2⟩ (fun y hy => (ji_put_ne _ _ _ _ (by omega)).trans (ho y hy)) (fun j => ?_)
      rw [ji_put]
      by_cases hj : j = 24 * i + k
      · rw [if_pos ⟨by omega, hj⟩, if_pos (by omega)]
      · rw [if_neg (fun c => hj c.2), hp j]
        by_cases hc : 24 * i ≤ j ∧ j < 24 * i + k
        · rw [if_pos hc, if_pos (by omega)]
        · rw [if_neg hc, if_neg (by omega)]
  exact key 24 0 S rfl jsame.rfl (fun _ _ => rfl) (fun j => by rw [if_neg (by omega)])
theorem g_sheetBad {Q : Int32 → jM → Prop} {w u t : Int32} (hk : jk S (x + 94) = 11) (hc : jwi w 4 = 0 ∨ u < -1 ∨ ¬ u ≤ 1) (hq : Q kBAD S) : jFm E mX11_sheet (d + 2) (x + 94) [.int w, .int u, .int t] S Q := by
  have eu : jisin (Int32.toInt64 u) (-1) 1 = if u < -1 then 0 else if 1 < u then 0 else 1 := jisin_int u (-1) 1
  refine U_X11_sheet (by first | exact hk | exact hM.k | exact hM1.k | exact hP.2.1.k | exact h.2.2.1.1 | exact h.1.1 | exact g1.1.1 | exact g3.1.1 | exact gm.1.1 | exact h2.1.1 | exact hM2.k | (rw [c1.1.1]; exact hP.2.1.k)) ⟨fun _ => hq, fun c => ⟨fun _ => hq, fun c2 => ?_⟩⟩
  rcases hc with hc | hc | hc
  · exact absurd ((jissheet_wi w).trans hc) c
  · exact absurd (by rw [eu, if_pos hc]) c2
  · refine absurd ?_ c2
    rw [eu]
    by_cases h9 : u < -1
    · rw [if_pos h9]
    · rw [if_neg h9, if_pos (Int32.not_le.mp hc)]
theorem F_sheet {w u t : Int32} (h : FR S x) : jFi E mX10_sheet (d + 2) 0 0 [.ref x, .int w, .int u, .int t] S (fun r S1 => jFm E mX11_sheet (d + 2) (x + 94) [.int w, .int u, .int t] S1 (fun r' _ => r = r')) := by
  have eu : jisin (Int32.toInt64 u) (-1) 1 = if u < -1 then 0 else if 1 < u then 0 else 1 := jisin_int u (-1) 1
  refine T_X10_sheet ⟨h.1.1, c_X10_findSheet h.1 (fun c => ⟨fun _ => g_sheetBad h.2.2.1.1 (Or.inl c) rfl, fun b e => absurd e (by simp)⟩) (fun i hi e e1 => ⟨fun c => absurd c (by simp), fun b eb => ⟨fun c1 => g_sheetBad h.2.2.1.1 (Or.inr (Or.inl c1)) rfl, fun c1 => ⟨fun c2 => ?_, fun c2 => g_sheetBad h.2.2.1.1 (Or.inr (Or.inr c2)) rfl⟩⟩⟩)⟩
  obtain rfl : x + 66 + 2 * i = b := Option.some.inj eb
  subst e
  have hs1 : ¬ jissheet (nI i) = 0 := by rw [jissheet_wi, e1]; decide
  have hu1 : ¬ jisin (Int32.toInt64 u) (-1) 1 = 0 := by rw [eu, if_neg c1, if_neg (Int32.not_lt.mpr c2)]; decide
  have hsh := h.1.sh i hi
  refine ⟨fun c3 => ⟨hsh.1, c_X6_begin hsh (fun S1 s1 o1 _ => ?_)⟩, fun c3 => ⟨fun c4 => ⟨fun c5 => ⟨hsh.1, c_X6_begin hsh (fun S1 s1 o1 _ => ?_)⟩, fun c5 => ?_⟩, fun c4 => ?_⟩⟩
  · have g1 := h.gm.of s1 (fun y hy => o1 y (by omega) (by omega))
    have r4 := g1.row 3 4 (f := 4) rfl
    have r5 := g1.row 4 4 (f := 5) rfl
    have hu0 : u < 0 := by rw [c3]; decide
    refine U_X11_sheet (by first | exact hk | exact hM.k | exact hM1.k | exact hP.2.1.k | exact h.2.2.1.1 | exact h.1.1 | exact g1.1.1 | exact g3.1.1 | exact gm.1.1 | exact h2.1.1 | exact hM2.k | (rw [c1.1.1]; exact hP.2.1.k)) ⟨fun c => absurd c hs1, fun _ => ⟨fun c => absurd c hu1, fun _ => ⟨fun _ => ⟨g1.1.1, _, r4.1, r4.2.1, by rw [r4.2.2]; exact jin_nI hi (by omega), _, r5.1, fun c => absurd c (Int32.not_le.mpr hu0), fun _ => ⟨r5.2.1, by rw [r5.2.2]; exact jin_nI hi (by omega), ?_⟩⟩, fun c => absurd hu0 c⟩⟩⟩
    refine c_X11_sheetL hi (g1.1.same ⟨rfl, rfl, rfl, rfl⟩) (fun S2 _ _ _ => ?_)
    rw [jcl (by omega), show x + 95 + 4 = x + 94 + 5 by omega, ji_put_same]
  · have g1 := h.gm.of s1 (fun y hy => o1 y (by omega) (by omega))
    have r4 := g1.row 3 4 (f := 4) rfl
    have r5 := g1.row 4 4 (f := 5) rfl
    have hu0 : ¬ u < 0 := by
      rw [Int32.lt_iff_toInt_lt] at c1 ⊢
      have hne : u.toInt ≠ (-1 : Int32).toInt := fun e => c3 (Int32.toInt_inj.mp e)
      have e9 : (-1 : Int32).toInt = -1 := by decide
      have e0 : (0 : Int32).toInt = 0 := by decide
      rw [e9] at c1 hne; rw [e0]; omega
    refine U_X11_sheet (by first | exact hk | exact hM.k | exact hM1.k | exact hP.2.1.k | exact h.2.2.1.1 | exact h.1.1 | exact g1.1.1 | exact g3.1.1 | exact gm.1.1 | exact h2.1.1 | exact hM2.k | (rw [c1.1.1]; exact hP.2.1.k)) ⟨fun c => absurd c hs1, fun _ => ⟨fun c => absurd c hu1, fun _ => ⟨fun c => absurd c hu0, fun _ => ⟨fun _ => ⟨fun _ => ⟨g1.1.1, _, r4.1, r4.2.1, by rw [r4.2.2]; exact jin_nI hi (by omega), _, r5.1, fun _ => ⟨r5.2.1, by rw [r5.2.2]; exact jin_nI hi (by omega), ?_⟩, fun c => absurd (Int32.not_lt.mp hu0) c⟩, fun c => absurd c5 c⟩, fun c => absurd c4 c⟩⟩⟩⟩
    refine c_X11_sheetL hi (g1.1.same ⟨rfl, rfl, rfl, rfl⟩) (fun S2 _ _ _ => ?_)
    rw [jcl (by omega), show x + 95 + 4 = x + 94 + 5 by omega, ji_put_same]
  all_goals
    have hu0 : ¬ u < 0 := by
      rw [Int32.lt_iff_toInt_lt] at c1 ⊢
      have hne : u.toInt ≠ (-1 : Int32).toInt := fun e => c3 (Int32.toInt_inj.mp e)
      have e9 : (-1 : Int32).toInt = -1 := by decide
      have e0 : (0 : Int32).toInt = 0 := by decide
      rw [e9] at c1 hne; rw [e0]; omega
  · exact U_X11_sheet (by first | exact hk | exact hM.k | exact hM1.k | exact hP.2.1.k | exact h.2.2.1.1 | exact h.1.1 | exact g1.1.1 | exact g3.1.1 | exact gm.1.1 | exact h2.1.1 | exact hM2.k | (rw [c1.1.1]; exact hP.2.1.k)) ⟨fun c => absurd c hs1, fun _ => ⟨fun c => absurd c hu1, fun _ => ⟨fun c => absurd c hu0, fun _ => ⟨fun _ => ⟨fun c => absurd c c5, fun _ => rfl⟩, fun c => absurd c4 c⟩⟩⟩⟩
  · exact U_X11_sheet (by first | exact hk | exact hM.k | exact hM1.k | exact hP.2.1.k | exact h.2.2.1.1 | exact h.1.1 | exact g1.1.1 | exact g3.1.1 | exact gm.1.1 | exact h2.1.1 | exact hM2.k | (rw [c1.1.1]; exact hP.2.1.k)) ⟨fun c => absurd c hs1, fun _ => ⟨fun c => absurd c hu1, fun _ => ⟨fun c => absurd c hu0, fun _ => ⟨fun c => absurd c c4, fun _ => rfl⟩⟩⟩⟩
/-! the tape is fed -/
theorem jwi96 {n : Nat} (h : n < 96) : ¬ jwi (nI n) 96 = 0 := by
  rw [show (96 : Int32) = nI 96 from rfl, jwi_at h (by omega)]; decide
/-- four bytes of a number, from place n on -/
def fb4 (f : Nat → Int32) (n : Nat) (w : Int32) : Nat → Int32 := upd (upd (upd (upd f n (jushr w 24 &&& 255)) (n + 1) (jushr w 16 &&& 255)) (n + 2) (jushr w 8 &&& 255)) (n + 3) (jushr w 0 &&& 255)
theorem l_X8_add {Q : jM → Prop} {t n : Nat} {w sh sh' : Int32} (hT : TpL S t) (hn : ji S t 1 = nI n) (h96 : n < 96) (h0 : ¬ sh < 0) (h1 : sh + (-8) = sh') (h : L_X8_addNumber_3 E d Q t w sh' (jput (jput S (t + 1) n (jushr w sh &&& 255)) t 1 (nI (n + 1)))) : L_X8_addNumber_3 E d Q t w sh S := by
  obtain ⟨k8, r0, -, k12, l96, -⟩ := hT
  refine T_X8_addNumber_3 ⟨fun c => absurd c h0, fun _ => ⟨k8, fun c => absurd c (by rw [hn]; exact jwi96 h96), fun _ => ⟨t + 1, r0, k12, by rw [hn, l96]; exact jin_nI h96 (by omega), ?_⟩⟩⟩
  rw [hn, jcl (by omega), nI_1, h1]; exact h
theorem c_X8_addNumber {Q : jM → Prop} {t n : Nat} {w : Int32} (hT : TpL S t) (hn : ji S t 1 = nI n) (h96 : n + 4 ≤ 96) (h : ∀ S', jch S S' t (t + 2) → ji S' t 1 = nI (n + 4) → (∀ j, j ≠ 1 → ji S' t j = ji S t j) → (∀ j, ji S' (t + 1) j = fb4 (ji S (t + 1)) n w j) → Q S') : jFv E mX8_addNumber (d + 1) 0 0 [.ref t, .int w] S Q := by
  have hp : ∀ {S1 : jM} {k : Nat} {b v : Int32}, TpL S1 t → TpL (jput (jput S1 (t + 1) k b) t 1 v) t := fun h => h
  have e1 : ∀ {S1 : jM} {k : Nat} {b v : Int32}, ji (jput (jput S1 (t + 1) k b) t 1 v) t 1 = v := ji_put_same _ _ _ _
  refine T_X8_addNumber (l_X8_add (sh' := 16) hT hn (by omega) (by decide) (by decide) (l_X8_add (sh' := 8) (hp hT) e1 (by omega) (by decide) (by decide) (l_X8_add (sh' := 0) (hp (hp hT)) e1 (by omega) (by decide) (by decide) (l_X8_add (sh' := -8) (hp (hp (hp hT))) e1 (by omega) (by decide) (by decide) (T_X8_addNumber_3 ⟨fun _ => ?_, fun c => absurd (by decide) c⟩)))))
  have hc : ∀ {S1 : jM} {k : Nat} {b v : Int32}, jch S1 (jput (jput S1 (t + 1) k b) t 1 v) t (t + 2) := (jch.put (by omega) (by omega)).trans (jch.put (by omega) (by omega))
  refine h _ (((hc.trans hc).trans hc).trans hc) e1 (fun j hj => ?_) (fun j => ?_)
  · simp [ji_put, hj]
  · unfold fb4 upd
    simp only [ji_put]
    have n1 : t + 1 ≠ t := by omega
    simp only [n1, false_and, if_false, true_and]
theorem c_X11_feedL {Q : Int32 → jM → Prop} {m n : Nat} {a b c : Int32} (hn : n + 12 ≤ 96) (h : ∀ S', ML S' m → ji S' m 19 = nI (n + 12) → jsame S S' → (∀ y, y ≠ m → y ≠ m + 15 → ji S' y = ji S y) → Q (nI (n + 12)) S') :
    ∀ (r i : Nat) (S1 : jM), i + r = 12 → ML S1 m → ji S1 m 19 = nI (n + i) → jsame S S1 → (∀ y, y ≠ m → y ≠ m + 15 → ji S1 y = ji S y) → L_X11_feed_18 E d Q m a b c (nI i) S1 := by
  intro r
  induction r with
  | zero =>
    intro i S1 hi hM h19 hs ho
    obtain rfl : i = 12 := by omega
    refine T_X11_feed_18 ⟨fun _ => ⟨hM.1, ?_⟩, fun c => absurd (by decide) c⟩
    rw [h19]; exact h S1 hM h19 hs ho
  | succ r ih =>
    intro i S1 hi hM h19 hs ho
    have r18 := hM.row 14 96 (f := 18) rfl
    have inn : vp_in (ji S1 m 19) (jl S1 (m + 1 + 14)) := by rw [h19, r18.2.2]; exact jin_nI (by omega) (by omega)
    have nxt : ∀ w : Int32, L_X11_feed_18 E d Q m a b c (nI i + 1) (jput (jput S1 (m + 1 + 14) (Int32.toNatClampNeg (ji S1 m 19)) w) m 19 (ji S1 m 19 + 1)) := by
      intro w
      rw [nI_1, h19, nI_1]
      exact ih (i + 1) _ (by omega) hM (by rw [ji_put_same, show n + i + 1 = n + (i + 1) by omega]) ⟨hs.1, hs.2.1, hs.2.2.1, hs.2.2.2⟩ (fun y h1 h2 => (ji_put_ne _ _ _ _ h1).trans ((ji_put_ne _ _ _ _ (by omega)).trans (ho y h1 h2)))
    exact T_X11_feed_18 ⟨fun c => absurd c (nI_ge (b := 12) (by omega) (by omega)), fun _ => ⟨fun _ => ⟨fun _ => ⟨hM.1, _, r18.1, r18.2.1, inn, nxt _⟩, fun _ => ⟨hM.1, _, r18.1, r18.2.1, inn, nxt _⟩⟩, fun _ => ⟨hM.1, _, r18.1, r18.2.1, inn, nxt _⟩⟩⟩
theorem TpL.same {S' : jM} {t : Nat} (h : TpL S t) (hs : jsame S S') : TpL S' t := by
  obtain ⟨e1, e2, e3, -⟩ := hs
  unfold TpL
  rw [e1, e2, e3]
  exact h
theorem F_feed {a b c : Int32} (h : FR S x) : jFi E mX10_feed (d + 2) 0 0 [.ref x, .int a, .int b, .int c] S (fun r S1 => jFm E mX11_feed (d + 2) (x + 94) [.int a, .int b, .int c] S1 (fun r' _ => r = r')) := by
  have ht := h.2.1.2.2.2.2.2.1
  have hT := h.1.2.2.2.1
  have r5 := h.1.2.1.2.2.2.2.1
  refine T_X10_feed ⟨h.1.1, x + 60, r5, hT.1, fun _ => ?_, fun c => absurd (by rw [ht]; decide) c⟩
  refine c_X8_addNumber (n := 0) hT (ht 1) (by omega) (fun S1 c1 n1 _ _ => ?_)
  refine ⟨by rw [c1.1.1]; exact h.1.1, x + 60, by rw [c1.1.2.2.1]; exact r5, (hT.same c1.1).1, ?_⟩
  refine c_X8_addNumber (n := 4) (hT.same c1.1) n1 (by omega) (fun S2 c2 n2 _ _ => ?_)
  have c12 := c1.trans c2
  refine ⟨by rw [c12.1.1]; exact h.1.1, x + 60, by rw [c12.1.2.2.1]; exact r5, (hT.same c12.1).1, ?_⟩
  refine c_X8_addNumber (n := 8) (hT.same c12.1) n2 (by omega) (fun S3 c3 n3 _ _ => ?_)
  have c13 := c12.trans c3
  refine ⟨by rw [c13.1.1]; exact h.1.1, x + 60, by rw [c13.1.2.2.1]; exact r5, (hT.same c13.1).1, ?_⟩
  have g3 := h.gm.keep c13 (by omega)
  rw [n3]
  refine U_X11_feed (by first | exact hk | exact hM.k | exact hM1.k | exact hP.2.1.k | exact h.2.2.1.1 | exact h.1.1 | exact g1.1.1 | exact g3.1.1 | exact gm.1.1 | exact h2.1.1 | exact hM2.k | (rw [c1.1.1]; exact hP.2.1.k)) ⟨g3.1.1, fun _ => ?_, fun c => absurd (by rw [g3.2.1]; decide) c⟩
  exact c_X11_feedL (S := S3) (n := 0) (by omega) (fun S4 _ _ _ _ => rfl) 12 0 S3 rfl g3.1 (g3.2.1 19) jsame.rfl (fun _ _ _ => rfl)
/-! made, count -/
theorem RmR.n4 {r sz : Nat} {v : Nat → Int32} (h : RmR S r sz v) : ji S r 4 = v 7 := h.2.2.2.2.2.2.1
theorem F_made (h : FR S x) : jFi E mX10_made (d + 2) 0 0 [.ref x] S (fun r S1 => jFm E mX11_made (d + 2) (x + 94) [] S1 (fun r' _ => r = r')) := by
  obtain ⟨hX, hM, hg⟩ := h.pi
  have i7 := hM.at (i := 7) 7 rfl (by omega)
  have i2 := hM.at (i := 2) 2 rfl (by omega)
  refine T_X10_made ⟨hX.1, x + 1, hX.2.1, hX.k3, c_X3_can (w := 0) hX.2.2 hg (by omega) rfl ⟨fun c => absurd c (by decide), fun _ => ⟨hX.1, x + 1, hX.2.1, hX.k3, T_X3_makeChair (T_X3_makeChair_2 ⟨hX.k3, fun _ => ⟨hX.1, x + 1, hX.2.1, hX.k3, x + 16, hX.r2, hX.l.1.1, ?_⟩, fun c => absurd (by rw [hX.2.2.n4]; decide) c⟩)⟩⟩⟩
  refine U_X11_made (by first | exact hk | exact hM.k | exact hM1.k | exact hP.2.1.k | exact h.2.2.1.1 | exact h.1.1 | exact g1.1.1 | exact g3.1.1 | exact gm.1.1 | exact h2.1.1 | exact hM2.k | (rw [c1.1.1]; exact hP.2.1.k)) ⟨hM.k, c_X11_can (w := 0) hM hg (by omega) rfl ⟨fun c => absurd c (by decide), fun _ => T_X11_made_12 ⟨hM.k, _, hM.r, hM.k1, i7.1, fun _ => ⟨i2.1, ?_⟩, fun c => absurd (by rw [i7.2]; decide) c⟩⟩⟩
  rw [i2.2]; exact hX.l.2.2.2.2.2.1
/-- count, by any state where the tape's and the waiting numbers' counts are alike -/
theorem P_count {sz : Nat} {v : Nat → Int32} {w : Int32} (hP : PI S x sz v) (k10 : jr S x 5 = some (x + 60)) (k8 : jk S (x + 60) = 8) (h7 : ji S x 9 = ji S (x + 94) 34) (h8 : ji S (x + 60) 1 = ji S (x + 94) 19) : jFi E mX10_count (d + 3) 0 0 [.ref x, .int w] S (fun r S1 => jFm E mX11_count (d + 2) (x + 94) [.int w] S1 (fun r' S2 => PO S x r r' S2)) := by
  obtain ⟨hX, hM, hg⟩ := id hP
  obtain ⟨kn, hkn, ekn⟩ := hg.kn
  obtain ⟨wi, hwi, ewi⟩ := hg.wi
  have at_ := fun (n : Nat) (hn : n < 3135) => hM.at (i := nI n) n rfl hn
  have i0 := hM.at (i := 0) 0 rfl (by omega)
  have i1 := hM.at (i := 1) 1 rfl (by omega)
  have i2 := hM.at (i := 2) 2 rfl (by omega)
  have i4 := hM.at (i := 4) 4 rfl (by omega)
  have i7 := hM.at (i := 7) 7 rfl (by omega)
  have i8 := hM.at (i := 8) 8 rfl (by omega)
  have ec := jcanF01 (v 4) (fun i => v (9 + i)) wi 0
  refine T_X10_count ⟨fun c => ⟨hX.1, _, hX.2.1, hX.k3, _, hX.r0, hX.g.1.1, ?_⟩, fun c => ⟨hX.1, _, hX.2.1, hX.k3, _, hX.r0, hX.g.1.1, c_X0_countDead hX.g hX.sz9 ?_⟩, fun c => ⟨hX.1, _, hX.2.1, hX.k3, _, hX.r2, hX.l.1.1, ?_⟩, fun c => ⟨hX.1, _, hX.2.1, hX.k3, _, hX.r2, hX.l.1.1, ?_⟩, fun c => ⟨hX.1, _, hX.2.1, hX.k3, ?_⟩, fun c => ⟨hX.1, _, hX.2.1, hX.k3, c_X3_can hX.2.2 hg hwi ewi ⟨fun c5 => ?_, fun c5 => ?_⟩⟩, fun c => ⟨hX.1, _, hX.2.1, hX.k3, ?_⟩, fun c => ⟨hX.1, ?_⟩, fun c => ⟨hX.1, _, k10, k8, ?_⟩, fun c => ⟨hX.1, _, hX.2.1, hX.k3, _, hX.r0, hX.g.1.1, ?_⟩, fun c0 c1 c2 c3 c4 c5 c6 c7 c8 c9 => ?_⟩
  · subst c
    refine U_X11_count (by first | exact hk | exact hM.k | exact hM1.k | exact hP.2.1.k | exact h.2.2.1.1 | exact h.1.1 | exact g1.1.1 | exact g3.1.1 | exact gm.1.1 | exact h2.1.1 | exact hM2.k | (rw [c1.1.1]; exact hP.2.1.k)) ⟨fun _ => ⟨hM.k, _, hM.r, hM.k1, i0.1, ?_⟩, fun c => absurd c (by decide), fun c => absurd c (by decide), fun c => absurd c (by decide), fun c => absurd c (by decide), fun c => absurd c (by decide), fun c => absurd c (by decide), fun c => absurd c (by decide), fun c => absurd c (by decide), fun c => absurd c (by decide), fun c => absurd rfl c⟩
    rw [i0.2, hX.g.2.1, hX.v0]; exact hP.same
  · subst c
    exact U_X11_count (by first | exact hk | exact hM.k | exact hM1.k | exact hP.2.1.k | exact h.2.2.1.1 | exact h.1.1 | exact g1.1.1 | exact g3.1.1 | exact gm.1.1 | exact h2.1.1 | exact hM2.k | (rw [c1.1.1]; exact hP.2.1.k)) ⟨fun c => absurd c (by decide), fun _ => ⟨hM.k, c_X11_dead hM hX.v0 hX.sz9 hg hP.same⟩, fun c => absurd c (by decide), fun c => absurd c (by decide), fun c => absurd c (by decide), fun c => absurd c (by decide), fun c => absurd c (by decide), fun c => absurd c (by decide), fun c => absurd c (by decide), fun c => absurd c (by decide), fun _ c => absurd rfl c⟩
  · subst c
    refine U_X11_count (by first | exact hk | exact hM.k | exact hM1.k | exact hP.2.1.k | exact h.2.2.1.1 | exact h.1.1 | exact g1.1.1 | exact g3.1.1 | exact gm.1.1 | exact h2.1.1 | exact hM2.k | (rw [c1.1.1]; exact hP.2.1.k)) ⟨fun c => absurd c (by decide), fun c => absurd c (by decide), fun _ => ⟨hM.k, _, hM.r, hM.k1, i2.1, ?_⟩, fun c => absurd c (by decide), fun c => absurd c (by decide), fun c => absurd c (by decide), fun c => absurd c (by decide), fun c => absurd c (by decide), fun c => absurd c (by decide), fun c => absurd c (by decide), fun _ _ c => absurd rfl c⟩
    rw [i2.2, hX.l.2.2.2.2.2.1]; exact hP.same
  · subst c
    refine U_X11_count (by first | exact hk | exact hM.k | exact hM1.k | exact hP.2.1.k | exact h.2.2.1.1 | exact h.1.1 | exact g1.1.1 | exact g3.1.1 | exact gm.1.1 | exact h2.1.1 | exact hM2.k | (rw [c1.1.1]; exact hP.2.1.k)) ⟨fun c => absurd c (by decide), fun c => absurd c (by decide), fun c => absurd c (by decide), fun _ => ⟨hM.k, _, hM.r, hM.k1, i4.1, ?_⟩, fun c => absurd c (by decide), fun c => absurd c (by decide), fun c => absurd c (by decide), fun c => absurd c (by decide), fun c => absurd c (by decide), fun c => absurd c (by decide), fun _ _ _ c => absurd rfl c⟩
    rw [i4.2, hX.l.2.2.1, ekn, jbc_many ⟨kn, hkn⟩]; exact hP.same
  · subst c
    refine U_X11_count (by first | exact hk | exact hM.k | exact hM1.k | exact hP.2.1.k | exact h.2.2.1.1 | exact h.1.1 | exact g1.1.1 | exact g3.1.1 | exact gm.1.1 | exact h2.1.1 | exact hM2.k | (rw [c1.1.1]; exact hP.2.1.k)) ⟨fun c => absurd c (by decide), fun c => absurd c (by decide), fun c => absurd c (by decide), fun c => absurd c (by decide), fun _ => ⟨hM.k, _, hM.r, hM.k1, i7.1, ?_⟩, fun c => absurd c (by decide), fun c => absurd c (by decide), fun c => absurd c (by decide), fun c => absurd c (by decide), fun c => absurd c (by decide), fun _ _ _ _ c => absurd rfl c⟩
    rw [i7.2, hX.2.2.n4]; exact hP.same
  · subst c
    exact U_X11_count (by first | exact hk | exact hM.k | exact hM1.k | exact hP.2.1.k | exact h.2.2.1.1 | exact h.1.1 | exact g1.1.1 | exact g3.1.1 | exact gm.1.1 | exact h2.1.1 | exact hM2.k | (rw [c1.1.1]; exact hP.2.1.k)) ⟨fun c => absurd c (by decide), fun c => absurd c (by decide), fun c => absurd c (by decide), fun c => absurd c (by decide), fun c => absurd c (by decide), fun _ => ⟨hM.k, c_X11_can hM hg hwi ewi ⟨fun _ => hP.same, fun c6 => absurd c5 c6⟩⟩, fun c => absurd c (by decide), fun c => absurd c (by decide), fun c => absurd c (by decide), fun c => absurd c (by decide), fun _ _ _ _ _ c => absurd rfl c⟩
  · subst c
    exact U_X11_count (by first | exact hk | exact hM.k | exact hM1.k | exact hP.2.1.k | exact h.2.2.1.1 | exact h.1.1 | exact g1.1.1 | exact g3.1.1 | exact gm.1.1 | exact h2.1.1 | exact hM2.k | (rw [c1.1.1]; exact hP.2.1.k)) ⟨fun c => absurd c (by decide), fun c => absurd c (by decide), fun c => absurd c (by decide), fun c => absurd c (by decide), fun c => absurd c (by decide), fun _ => ⟨hM.k, c_X11_can hM hg hwi ewi ⟨fun c6 => absurd c6 c5, fun _ => hP.same⟩⟩, fun c => absurd c (by decide), fun c => absurd c (by decide), fun c => absurd c (by decide), fun c => absurd c (by decide), fun _ _ _ _ _ c => absurd rfl c⟩
  · subst c
    refine U_X11_count (by first | exact hk | exact hM.k | exact hM1.k | exact hP.2.1.k | exact h.2.2.1.1 | exact h.1.1 | exact g1.1.1 | exact g3.1.1 | exact gm.1.1 | exact h2.1.1 | exact hM2.k | (rw [c1.1.1]; exact hP.2.1.k)) ⟨fun c => absurd c (by decide), fun c => absurd c (by decide), fun c => absurd c (by decide), fun c => absurd c (by decide), fun c => absurd c (by decide), fun c => absurd c (by decide), fun _ => ⟨hM.k, _, hM.r, hM.k1, i1.1, ?_⟩, fun c => absurd c (by decide), fun c => absurd c (by decide), fun c => absurd c (by decide), fun _ _ _ _ _ _ c => absurd rfl c⟩
    rw [i1.2, hX.2.2.n6]; exact hP.same
  · subst c
    refine U_X11_count (by first | exact hk | exact hM.k | exact hM1.k | exact hP.2.1.k | exact h.2.2.1.1 | exact h.1.1 | exact g1.1.1 | exact g3.1.1 | exact gm.1.1 | exact h2.1.1 | exact hM2.k | (rw [c1.1.1]; exact hP.2.1.k)) ⟨fun c => absurd c (by decide), fun c => absurd c (by decide), fun c => absurd c (by decide), fun c => absurd c (by decide), fun c => absurd c (by decide), fun c => absurd c (by decide), fun c => absurd c (by decide), fun _ => ⟨hM.k, ?_⟩, fun c => absurd c (by decide), fun c => absurd c (by decide), fun _ _ _ _ _ _ _ c => absurd rfl c⟩
    rw [h7]; exact hP.same
  · subst c
    refine U_X11_count (by first | exact hk | exact hM.k | exact hM1.k | exact hP.2.1.k | exact h.2.2.1.1 | exact h.1.1 | exact g1.1.1 | exact g3.1.1 | exact gm.1.1 | exact h2.1.1 | exact hM2.k | (rw [c1.1.1]; exact hP.2.1.k)) ⟨fun c => absurd c (by decide), fun c => absurd c (by decide), fun c => absurd c (by decide), fun c => absurd c (by decide), fun c => absurd c (by decide), fun c => absurd c (by decide), fun c => absurd c (by decide), fun c => absurd c (by decide), fun _ => ⟨hM.k, ?_⟩, fun c => absurd c (by decide), fun _ _ _ _ _ _ _ _ c => absurd rfl c⟩
    rw [h8]; exact hP.same
  · subst c
    refine U_X11_count (by first | exact hk | exact hM.k | exact hM1.k | exact hP.2.1.k | exact h.2.2.1.1 | exact h.1.1 | exact g1.1.1 | exact g3.1.1 | exact gm.1.1 | exact h2.1.1 | exact hM2.k | (rw [c1.1.1]; exact hP.2.1.k)) ⟨fun c => absurd c (by decide), fun c => absurd c (by decide), fun c => absurd c (by decide), fun c => absurd c (by decide), fun c => absurd c (by decide), fun c => absurd c (by decide), fun c => absurd c (by decide), fun c => absurd c (by decide), fun c => absurd c (by decide), fun _ => ⟨hM.k, _, hM.r, hM.k1, i8.1, ?_⟩, fun _ _ _ _ _ _ _ _ _ c => absurd rfl c⟩
    rw [i8.2, hX.g.2.2.1]; exact hP.same
  · exact U_X11_count (by first | exact hk | exact hM.k | exact hM1.k | exact hP.2.1.k | exact h.2.2.1.1 | exact h.1.1 | exact g1.1.1 | exact g3.1.1 | exact gm.1.1 | exact h2.1.1 | exact hM2.k | (rw [c1.1.1]; exact hP.2.1.k)) ⟨fun c => absurd c c0, fun c => absurd c c1, fun c => absurd c c2, fun c => absurd c c3, fun c => absurd c c4, fun c => absurd c c5, fun c => absurd c c6, fun c => absurd c c7, fun c => absurd c c8, fun c => absurd c c9, fun _ _ _ _ _ _ _ _ _ _ => hP.same⟩
end jFresh3
