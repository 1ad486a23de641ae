/-! THE TWO SIDES: the reference's row, the frame of a pair of calls, ranges -/
theorem jcmp_lt (a b : Int64) : lg_cmp a b < 0 ↔ a < b := by
  unfold lg_cmp
  by_cases h1 : a > b
  · have : ¬ a < b := Int64.not_lt.mpr (Int64.le_of_lt h1)
    simp [h1, this]
  · by_cases h2 : a = b
    · subst h2; simp
    · have : a < b := by
        rcases Int64.lt_or_eq_of_le (Int64.not_lt.mp h1) with h | h
        · exact h
        · exact absurd h h2
      simp [h1, h2, this]
theorem jcmp_gt (a b : Int64) : 0 < lg_cmp a b ↔ b < a := by
  unfold lg_cmp
  by_cases h1 : a > b
  · simp [h1]
  · have h1' : ¬ b < a := h1
    by_cases h2 : a = b
    · subst h2; simp
    · simp [h1, h2]
theorem jisin_int (x lo hi : Int32) : jisin x.toInt64 lo.toInt64 hi.toInt64 = if x < lo then 0 else if hi < x then 0 else 1 := by
  have c : ∀ a b : Int32, a.toInt64 < b.toInt64 ↔ a < b := fun a b => by
    rw [Int64.lt_iff_toInt_lt, Int32.lt_iff_toInt_lt, Int32.toInt_toInt64, Int32.toInt_toInt64]
  unfold jisin
  simp only [jcmp_lt, jcmp_gt, c]
theorem jisin_ab (x : Int32) {lo hi : Int64} (a n : Nat) (hl : lo = (nI a).toInt64) (hh : hi = (nI n).toInt64) (hn : n < 2 ^ 31 - 1) (ha : a ≤ n) : (∃ j, a ≤ j ∧ j ≤ n ∧ x = nI j ∧ jisin x.toInt64 lo hi = 1) ∨ ((∀ j, a ≤ j → j ≤ n → x ≠ nI j) ∧ jisin x.toInt64 lo hi = 0) := by
  subst hl; subst hh
  rw [jisin_int]
  by_cases h1 : x < nI a
  · rw [if_pos h1]
    refine Or.inr ⟨fun j p q e => ?_, rfl⟩
    rw [e, Int32.lt_iff_toInt_lt, nI_toInt (by omega), nI_toInt (by omega)] at h1
    omega
  · rw [if_neg h1]
    by_cases h2 : nI n < x
    · rw [if_pos h2]
      refine Or.inr ⟨fun j p q e => ?_, rfl⟩
      rw [e, Int32.lt_iff_toInt_lt, nI_toInt (by omega), nI_toInt (by omega)] at h2
      omega
    · rw [if_neg h2]
      rw [Int32.lt_iff_toInt_lt, nI_toInt (by omega)] at h1 h2
      obtain ⟨j, hj, rfl⟩ := jofI (x := x) (n := n + 1) (by omega) (by rw [Int32.le_iff_toInt_le]; show (0 : Int) ≤ _; omega) (by rw [Int32.lt_iff_toInt_lt, nI_toInt (by omega)]; omega)
      rw [nI_toInt (by omega)] at h1
      exact Or.inl ⟨j, by omega, by omega, rfl, rfl⟩
/-- both sides ask alike whether a number lies below a bound -/
theorem jisin_wi (x b : Int32) (c : Int32) {hi : Int64} (hh : hi = c.toInt64) (hb : ∀ y : Int32, b ≤ y ↔ c < y) : jisin x.toInt64 0 hi = jwi x b := by
  subst hh
  have e : (0 : Int64) = (0 : Int32).toInt64 := rfl
  rw [e, jisin_int]
  unfold jwi
  simp only [hb]
theorem jle_lt {b c : Int32} (h : c.toInt + 1 = b.toInt) (y : Int32) : b ≤ y ↔ c < y := by
  rw [Int32.le_iff_toInt_le, Int32.lt_iff_toInt_lt]; omega
theorem jisg_wi (x : Int32) : jisg x = jwi x 10 := rfl
theorem jist_wi (x : Int32) : jist x = jwi x 6 := rfl
/-- the reference with its row -/
def MR (S : jM) (m : Nat) (v : Nat → Int32) : Prop := ML S m ∧ ∀ j, ji S (m + 1) j = v j
section jPair
variable {E : jEnv} {d : Nat} {S : jM} {x m sz : Nat} {v : Nat → Int32}
theorem MR.k (h : MR S m v) : jk S m = 11 := h.1.1
theorem MR.r (h : MR S m v) : jr S m 0 = some (m + 1) := (h.1.2 0 (0, 3135) rfl).1
theorem MR.k1 (h : MR S m v) : jk S (m + 1) = 12 := (h.1.2 0 (0, 3135) rfl).2.1
theorem MR.l1 (h : MR S m v) : jl S (m + 1) = 3135 := (h.1.2 0 (0, 3135) rfl).2.2
theorem ML.same {S' : jM} (h : ML S m) (hs : jsame S S') : ML S' m := by
  obtain ⟨e1, e2, e3, -⟩ := hs
  unfold ML
  rw [e1, e2, e3]
  exact h
theorem CL.same {S' : jM} (h : CL S x) (hs : jsame S S') : CL S' x := by
  obtain ⟨e1, e2, e3, -⟩ := hs
  unfold CL SrL TpL ShL SlL ShL at *
  rw [e1, e2, e3]
  exact h
theorem MR.at {i : Int32} (n : Nat) (h : MR S m v) (e : i = nI n) (hn : n < 3135) : vp_in i (jl S (m + 1)) ∧ ji S (m + 1) (Int32.toNatClampNeg i) = v n := by
  subst e
  rw [jcl (by omega), h.l1]
  exact ⟨jin_nI hn (by omega), h.2 n⟩
theorem MR.keep {S' : jM} {lo hi : Nat} (h : MR S m v) (hc : jch S S' lo hi) (hd : m + 2 ≤ lo ∨ hi ≤ m + 1) : MR S' m v :=
  ⟨h.1.same hc.1, fun j => by rw [hc.2 (m + 1) (by omega)]; exact h.2 j⟩
theorem MR.put {n : Nat} {w : Int32} (h : MR S m v) : MR (jput S (m + 1) n w) m (upd v n w) := by
  refine ⟨h.1, fun j => ?_⟩
  rw [ji_put]
  unfold upd
  by_cases hj : j = n
  · rw [if_pos ⟨rfl, hj⟩, if_pos hj]
  · rw [if_neg (fun c => hj c.2), if_neg hj]; exact h.2 j
theorem MR.puts {i w : Int32} (n : Nat) (h : MR S m v) (e : i = nI n) (hn : n < 3135) : MR (jput S (m + 1) (Int32.toNatClampNeg i) w) m (upd v n w) := by
  subst e
  rw [jcl (by omega)]
  exact h.put
theorem c_X11_becomes {Q : Int32 → jM → Prop} {i w : Int32} (n : Nat) (hM : MR S m v) (e : i = nI n) (hn : n < 3135) (h : ∀ S', jch S S' (m + 1) (m + 2) → MR S' m (upd v n w) → Q (v n) S') : jFi E mX11_becomes d 0 0 [.ref m, .int i, .int w] S Q := by
  obtain ⟨a1, a2⟩ := hM.at n e hn
  refine T_X11_becomes ⟨hM.k, m + 1, hM.r, hM.k1, a1, ?_⟩
  rw [a2]
  exact h _ (jch.put (by omega) (by omega)) (hM.puts n e hn)
/-- what a pair of calls may change: the realm, what is only thought, the reference's row and its scratch rows -/
def jfr (S S' : jM) (x : Nat) : Prop := jsame S S' ∧ ∀ y, (y < x + 1 ∨ x + 21 ≤ y) → (y < x + 41 ∨ x + 60 ≤ y) → y ≠ x + 95 → y ≠ x + 97 → (y < x + 106 ∨ x + 109 ≤ y) → (y < x + 110 ∨ x + 112 ≤ y) → ji S' y = ji S y
theorem jfr.rfl : jfr S S x := ⟨jsame.rfl, fun _ _ _ _ _ _ _ => _root_.rfl⟩
theorem jfr.trans {S1 S2 : jM} (h1 : jfr S S1 x) (h2 : jfr S1 S2 x) : jfr S S2 x := ⟨h1.1.trans h2.1, fun y a b c d e f => (h2.2 y a b c d e f).trans (h1.2 y a b c d e f)⟩
theorem jfr.realm {S1 : jM} {lo hi : Nat} (h : jch S S1 lo hi) (a : x + 1 ≤ lo) (b : hi ≤ x + 21) : jfr S S1 x := ⟨h.1, fun y c _ _ _ _ _ => h.2 y (by omega)⟩
theorem jfr.row {S1 : jM} (h : jch S S1 (x + 95) (x + 96)) : jfr S S1 x := ⟨h.1, fun y _ _ c _ _ _ => h.2 y (by omega)⟩
/-- what holds of the row at all times: the bound of each place, 0 where there is none -/
def rgb (j : Nat) : Nat :=
  if j < 72 then (if j = 1 then 15 else if j = 2 then 10000 else if j = 3 then 6 else if j = 4 then 1024 else if j = 5 then 10000 else if j = 6 then 100 else if j = 7 then 7 else if j < 9 then 0 else if j < 15 then 10 else if j < 36 then 0 else 10)
  else (if (j - 72) % 7 = 0 then 6 else if (j - 72) % 7 = 1 then 6 else if (j - 72) % 7 = 2 then 10 else if (j - 72) % 7 = 3 then 1024 else if (j - 72) % 7 = 6 then 2 else 100)
def Rg (_sz : Nat) (v : Nat → Int32) : Prop := ∀ j, j < 135 → rgb j ≠ 0 → ∃ k, k < rgb j ∧ v j = nI k
theorem Rg.put {n : Nat} {w : Int32} (h : Rg sz v) (hw : rgb n ≠ 0 → ∃ k, k < rgb n ∧ w = nI k) : Rg sz (upd v n w) := by
  intro j hj hb
  unfold upd
  by_cases hjn : j = n
  · rw [if_pos hjn]; subst hjn; exact hw hb
  · rw [if_neg hjn]; exact h j hj hb
theorem rgb_m (i f : Nat) (hf : f < 7) : rgb (72 + 7 * i + f) = if f = 0 then 6 else if f = 1 then 6 else if f = 2 then 10 else if f = 3 then 1024 else if f = 6 then 2 else 100 := by
  unfold rgb
  rw [if_neg (by omega)]
  have e : (72 + 7 * i + f - 72) % 7 = f := by omega
  rw [e]
theorem rgb_road (i : Nat) (hi : i < 36) : rgb (36 + i) = 10 := by
  unfold rgb
  rw [if_pos (by omega), if_neg (by omega), if_neg (by omega), if_neg (by omega), if_neg (by omega), if_neg (by omega), if_neg (by omega), if_neg (by omega), if_neg (by omega), if_neg (by omega), if_neg (by omega)]
theorem rgb_wish (i : Nat) (hi : i < 6) : rgb (9 + i) = 10 := by
  unfold rgb
  rw [if_pos (by omega), if_neg (by omega), if_neg (by omega), if_neg (by omega), if_neg (by omega), if_neg (by omega), if_neg (by omega), if_neg (by omega), if_neg (by omega), if_pos (by omega)]
theorem rgb_from (i : Nat) (hi : i < 20) : rgb (16 + i) = 0 := by
  unfold rgb
  rw [if_pos (by omega), if_neg (by omega), if_neg (by omega), if_neg (by omega), if_neg (by omega), if_neg (by omega), if_neg (by omega), if_neg (by omega), if_neg (by omega), if_neg (by omega), if_pos (by omega)]
theorem Rg.at_ (h : Rg sz v) : ∃ k, k < 6 ∧ v 3 = nI k := h 3 (by omega) (by decide)
theorem Rg.kn (h : Rg sz v) : ∃ k, k < 1024 ∧ v 4 = nI k := h 4 (by omega) (by decide)
theorem Rg.wi (h : Rg sz v) : ∃ k, k < 7 ∧ v 7 = nI k := h 7 (by omega) (by decide)
theorem Rg.rd (h : Rg sz v) (i : Nat) (hi : i < 36) : ∃ k, k < 10 ∧ v (36 + i) = nI k := by
  have := h (36 + i) (by omega) (by rw [rgb_road i hi]; decide)
  rw [rgb_road i hi] at this; exact this
theorem Rg.wd (h : Rg sz v) (i : Nat) (hi : i < 6) : ∃ k, k < 10 ∧ v (9 + i) = nI k := by
  have := h (9 + i) (by omega) (by rw [rgb_wish i hi]; decide)
  rw [rgb_wish i hi] at this; exact this
/-- the two sides stand alike -/
def PI (S : jM) (x sz : Nat) (v : Nat → Int32) : Prop := XR S x sz v ∧ MR S (x + 94) v ∧ Rg sz v
/-- the texts' rows of the reference stay -/
def TK (S S' : jM) (x : Nat) : Prop := ∀ j, (j = 1 ∨ 135 ≤ j) → ji S' (x + 95) j = ji S (x + 95) j
theorem tkOf {S' : jM} {v' : Nat → Int32} (h : MR S (x + 94) v) (h' : MR S' (x + 94) v') (e : ∀ j, (j = 1 ∨ 135 ≤ j) → v' j = v j) : TK S S' x := fun j hj => (h'.2 j).trans ((e j hj).trans (h.2 j).symm)
def PO (S : jM) (x : Nat) (r r' : Int32) (S' : jM) : Prop := r = r' ∧ jfr S S' x ∧ TK S S' x ∧ ∃ sz v, PI S' x sz v
theorem PI.same {r : Int32} (h : PI S x sz v) : PO S x r r S := ⟨rfl, jfr.rfl, fun _ _ => rfl, sz, v, h⟩
theorem C_seed {Q : Int32 → jM → Prop} {w : Int32} (hX : XR S x sz v) (h : ∀ S', jch S S' (x + 2) (x + 3) → XR S' x sz (upd v 8 w) → Q (v 8) S') : jFi E mX10_seed d 0 0 [.ref x, .int w] S Q := by
  refine T_X10_seed ⟨hX.1, x + 1, hX.2.1, hX.k3, x + 2, hX.r0, hX.g.1.1, ?_⟩
  rw [hX.g.2.2.1]
  have hc : jch S (jput S (x + 2) 2 w) (x + 2) (x + 3) := jch.put (by omega) (by omega)
  refine h _ hc (hX.of hc.1 (hX.2.2.guild (hc.wide (by omega) (by omega)) ?_ hX.sz9 hX.v0 (fun j h0 h8 hj => by unfold upd; rw [if_neg h8])))
  have e8 : upd v 8 w 8 = w := by unfold upd; rw [if_pos rfl]
  rw [e8]
  refine hX.g.putz.cong (fun i hi f hf => ?_)
  unfold mfv upd
  rw [if_neg (by omega)]
theorem P_seed {w : Int32} (hP : PI S x sz v) : jFi E mX10_seed d 0 0 [.ref x, .int w] S (fun r S1 => jFm E mX11_seed (d + 1) (x + 94) [.int w] S1 (fun r' S2 => PO S x r r' S2)) := by
  refine C_seed hP.1 (fun S1 c1 h1 => ?_)
  have hM := hP.2.1.keep c1 (by omega)
  refine U_X11_seed (by first | exact hM.k | exact hM1.k | exact hP.2.1.k | exact h.2.2.1.1 | exact h.1.1 | exact g1.1.1 | exact g3.1.1 | exact gm.1.1 | exact h2.1.1 | exact hM2.k | (rw [c1.1.1]; exact hP.2.1.k)) ⟨hM.k, c_X11_becomes 8 hM rfl (by omega) (fun S2 c2 h2 => ⟨rfl, (jfr.realm c1 (by omega) (by omega)).trans (jfr.row c2), tkOf hP.2.1 h2 (fun j hj => by unfold upd; rw [if_neg (by omega)]), sz, _, ?_, h2, hP.2.2.put (fun c => absurd rfl c)⟩)⟩
  exact h1.of c2.1 (h1.2.2.keep c2 (by omega))
end jPair
