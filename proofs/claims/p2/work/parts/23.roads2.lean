/-! ROADS (class): asked, built, copied; FAR depends on the days alone -/
def agr (n : Nat) (f g : Nat → Int32) : Prop := ∀ i, i < n → f i = g i
theorem agr_upd {n : Nat} {f g : Nat → Int32} (h : agr n f g) (i : Nat) {v w : Int32} (e : v = w) : agr n (upd f i v) (upd g i w) := by
  intro j hj
  unfold upd
  by_cases hji : j = i
  · rw [if_pos hji, if_pos hji]; exact e
  · rw [if_neg hji, if_neg hji]; exact h j hj
theorem agr_fold {n : Nat} {st st' : Nat → (Nat → Int32) → (Nat → Int32)} : ∀ (k i : Nat) (f g : Nat → Int32), (∀ j, i ≤ j → j < i + k → ∀ f g, agr n f g → agr n (st j f) (st' j g)) → agr n f g → agr n (jfold st k i f) (jfold st' k i g)
  | 0, _, _, _, _, h => h
  | k + 1, i, f, g, hs, h => agr_fold k (i + 1) (st i f) (st' i g) (fun j h1 h2 => hs j (by omega) (by omega)) (hs i (by omega) (by omega) f g h)
theorem w0_at (dy : Nat → Int32) : ∀ (k i : Nat) (w : Nat → Int32) (j : Nat), jfold (w0step dy) k i w j = if i ≤ j ∧ j < i + k then (if j / 6 = j % 6 then 0 else if dy j = 0 then 9999 else dy j) else w j
  | 0, i, w, j => by rw [if_neg (by omega)]; rfl
  | k + 1, i, w, j => by
    show jfold (w0step dy) k (i + 1) (w0step dy i w) j = _
    rw [w0_at dy k (i + 1) (w0step dy i w) j]
    by_cases h1 : i + 1 ≤ j ∧ j < i + 1 + k
    · rw [if_pos h1, if_pos (c := i ≤ j ∧ j < i + (k + 1)) (by omega)]
    · rw [if_neg h1]
      by_cases h2 : j = i
      · subst h2; rw [if_pos (by omega)]; simp [w0step, upd]
      · rw [if_neg (by omega)]; simp [w0step, upd, h2]
theorem wfar_agr {dy dy' w w' : Nat → Int32} (h : agr 36 dy dy') : agr 36 (wfar dy w) (wfar dy' w') := by
  unfold wfar
  refine agr_fold 6 0 _ _ (fun o _ ho f g hfg => ?_) (fun i hi => ?_)
  · refine agr_fold 36 0 _ _ (fun i _ hi f g hfg => ?_) hfg
    exact agr_upd hfg i (by rw [hfg i (by omega), hfg (i / 6 * 6 + o) (by omega), hfg (o * 6 + i % 6) (by omega)])
  · rw [w0_at, w0_at, if_pos (c := 0 ≤ i ∧ i < 0 + 36) (by omega), if_pos (c := 0 ≤ i ∧ i < 0 + 36) (by omega), h i hi]
theorem RdR.same {S S' : jM} {q : Nat} {dy wy : Nat → Int32} (h : RdR S q dy wy) (hs : jsame S S') (h1 : ji S' (q + 1) = ji S (q + 1)) (h2 : ji S' (q + 2) = ji S (q + 2)) : RdR S' q dy wy :=
  ⟨h.1.same hs, fun i hi => by rw [h1]; exact h.2.1 i hi, fun i hi => by rw [h2]; exact h.2.2 i hi⟩
/-- a road is built: both ways -/
def dbuild (dy : Nat → Int32) (a b : Nat) (v : Int32) : Nat → Int32 := upd (upd dy (a * 6 + b) v) (b * 6 + a) v
section jRoads2
variable {E : jEnv} {d : Nat} {S : jM} {q : Nat} {dy wy : Nat → Int32}
theorem c_X4_direct {Q : Int32 → jM → Prop} {a b : Nat} (hR : RdR S q dy wy) (ha : a < 6) (hb : b < 6) (h : Q (dy (a * 6 + b)) S) : jFi E mX4_direct (d + 1) 0 0 [.ref q, .int (nI a), .int (nI b)] S Q := by
  refine T_X4_direct ?_
  rw [show (6 : Int32) = nI 6 from rfl, jwi_at ha (by omega), jwi_at hb (by omega)]
  refine ⟨fun c => absurd c (by decide), fun _ => ⟨fun c => absurd c (by decide), fun _ => ⟨hR.1.1, q + 1, hR.1.2.1, hR.1.2.2.2.1, ?_, ?_⟩⟩⟩
  · rw [pk_mul, nI_add, hR.1.2.2.2.2.1]; exact jin_nI (by omega) (by omega)
  · rw [pk_mul, nI_add, jcl (by omega), hR.2.1 _ (by omega)]; exact h
theorem c_X4_fewest {Q : Int32 → jM → Prop} {a b : Nat} (hR : RdR S q dy wy) (ha : a < 6) (hb : b < 6) (h : Q (wy (a * 6 + b)) S) : jFi E mX4_fewest (d + 1) 0 0 [.ref q, .int (nI a), .int (nI b)] S Q := by
  refine T_X4_fewest ?_
  rw [show (6 : Int32) = nI 6 from rfl, jwi_at ha (by omega), jwi_at hb (by omega)]
  refine ⟨fun c => absurd c (by decide), fun _ => ⟨fun c => absurd c (by decide), fun _ => ⟨hR.1.1, q + 2, hR.1.2.2.1, hR.1.2.2.2.2.2.1, ?_, ?_⟩⟩⟩
  · rw [pk_mul, nI_add, hR.1.2.2.2.2.2.2]; exact jin_nI (by omega) (by omega)
  · rw [pk_mul, nI_add, jcl (by omega), hR.2.2 _ (by omega)]; exact h
theorem c_X4_build {Q : jM → Prop} {a b : Nat} {v : Int32} (hR : RdR S q dy wy) (ha : a < 6) (hb : b < 6) (h : ∀ S', jch S S' q (q + 3) → RdR S' q (dbuild dy a b v) (wfar (dbuild dy a b v) (fun _ => 0)) → Q S') : jFv E mX4_build (d + 2) 0 0 [.ref q, .int (nI a), .int (nI b), .int v] S Q := by
  refine T_X4_build ?_
  rw [show (6 : Int32) = nI 6 from rfl, jwi_at ha (by omega), jwi_at hb (by omega)]
  refine ⟨fun c => absurd c (by decide), fun _ => ⟨fun c => absurd c (by decide), fun _ => ⟨hR.1.1, q + 1, hR.1.2.1, hR.1.2.2.2.1, ?_, ?_, ?_⟩⟩⟩
  · rw [pk_mul, nI_add, hR.1.2.2.2.2.1]; exact jin_nI (by omega) (by omega)
  · rw [pk_mul, nI_add, hR.1.2.2.2.2.1]; exact jin_nI (by omega) (by omega)
  · rw [pk_mul, nI_add, pk_mul, nI_add, jcl (by omega), jcl (by omega)]
    refine c_X4_measure (S := jput (jput S (q + 1) (a * 6 + b) v) (q + 1) (b * 6 + a) v) hR.1 (fun S' hc e1 e2 => ?_)
    have hdy : agr 36 (ji (jput (jput S (q + 1) (a * 6 + b) v) (q + 1) (b * 6 + a) v) (q + 1)) (dbuild dy a b v) := by
      rw [jput_eq, ji_row_same, jput_eq, ji_row_same]
      exact agr_upd (agr_upd (fun i hi => hR.2.1 i hi) _ rfl) _ rfl
    refine h S' (((jch.put (by omega) (by omega)).trans (jch.put (by omega) (by omega))).trans hc) ⟨RdL.same (S := S) hR.1 hc.1, fun i hi => ?_, fun i hi => ?_⟩
    · rw [e2]; exact hdy i hi
    · rw [e1]; exact wfar_agr hdy i hi
theorem va_cpy0 {f g : Nat → Int32} {n j : Nat} (h : j < n) : va_cpy f g 0 0 n j = f j := by
  rw [pk_cpy_in (Nat.zero_le _) (by omega)]
  congr 1
  omega
theorem c_X4_become {Q : jM → Prop} {q1 : Nat} {dy1 wy1 : Nat → Int32} (hR : RdR S q dy wy) (hR1 : RdR S q1 dy1 wy1) (hne : q + 3 ≤ q1 ∨ q1 + 3 ≤ q) (h : ∀ S', jch S S' q (q + 3) → RdR S' q dy1 wy1 → Q S') : jFv E mX4_become (d + 1) 0 0 [.ref q, .ref q1] S Q := by
  obtain ⟨⟨a1, a2, a3, a4, a5, a6, a7⟩, b1, b2⟩ := hR
  obtain ⟨⟨c1, c2, c3, c4, c5, c6, c7⟩, e1, e2⟩ := hR1
  have n36 : Int32.toNatClampNeg 36 = 36 := rfl
  have n0 : Int32.toNatClampNeg 0 = 0 := rfl
  refine T_X4_become ⟨c1, q1 + 1, c2, a1, q + 1, a2, c4, a4, ⟨by decide, by decide, by decide, by rw [c5]; decide, by rw [a5]; decide⟩, q1 + 2, c3, q + 2, a3, c6, a6, ⟨by decide, by decide, by decide, by rw [c7]; decide, by rw [a7]; decide⟩, ?_⟩
  rw [n36, n0]
  refine h _ ((jch.row (by omega) (by omega)).trans (jch.row (by omega) (by omega))) ⟨⟨a1, a2, a3, a4, a5, a6, a7⟩, fun i hi => ?_, fun i hi => ?_⟩
  · rw [ji_row_ne _ _ _ (by omega), ji_row_same, va_cpy0 hi]; exact e1 i hi
  · rw [ji_row_same, va_cpy0 hi, ji_row_ne _ _ _ (by omega)]; exact e2 i hi
end jRoads2
