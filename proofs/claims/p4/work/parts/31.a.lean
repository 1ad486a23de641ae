section
/-! THE TWO SIDES: the reference's row, the frame of a pair of calls, ranges -/
theorem jcmp_lt (a b : Int64) : lg_cmp a b < 0 ↔ a < b := by
  unfold lg_cmp
  by_cases h1 : a > b
  · have : ¬ a < b := Int64.not_lt.mpr (Int64.le_of_lt h1)
    simp [h1, this]
  · by_cases h2 : a = b
    · subst h2; simp
    · have : a < b := by
        rcases Int64.lt_or_eq_of_le (Int64.not_lt.mp h1) with h | h
        · exact h
        · exact absurd h h2
      simp [h1, h2, this]
theorem jcmp_gt (a b : Int64) : 0 < lg_cmp a b ↔ b < a := by
  unfold lg_cmp
  by_cases h1 : a > b
  · simp [h1]
  · have h1' : ¬ b < a := h1
    by_cases h2 : a = b
    · subst h2; simp
    · simp [h1, h2]
theorem jisin_int (x lo hi : Int32) : jisin x.toInt64 lo.toInt64 hi.toInt64 = if x < lo then 0 else if hi < x then 0 else 1 := by
  have c : ∀ a b : Int32, a.toInt64 < b.toInt64 ↔ a < b := fun a b => by
    rw [Int64.lt_iff_toInt_lt, Int32.lt_iff_toInt_lt, Int32.toInt_toInt64, Int32.toInt_toInt64]
  unfold jisin
  simp only [jcmp_lt, jcmp_gt, c]
theorem jisin_ab (x : Int32) {lo hi : Int64} (a n : Nat) (hl : lo = (nI a).toInt64) (hh : hi = (nI n).toInt64) (hn : n < 2 ^ 31 - 1) (ha : a ≤ n) : (∃ j, a ≤ j ∧ j ≤ n ∧ x = nI j ∧ jisin x.toInt64 lo hi = 1) ∨ ((∀ j, a ≤ j → j ≤ n → x ≠ nI j) ∧ jisin x.toInt64 lo hi = 0) := by
  subst hl; subst hh
  rw [jisin_int]
  by_cases h1 : x < nI a
  · rw [if_pos h1]
    refine Or.inr ⟨fun j p q e => ?_, rfl⟩
    rw [e, Int32.lt_iff_toInt_lt, nI_toInt (by omega), nI_toInt (by omega)] at h1
    omega
  · rw [if_neg h1]
    by_cases h2 : nI n < x
    · rw [if_pos h2]
      refine Or.inr ⟨fun j p q e => ?_, rfl⟩
      rw [e, Int32.lt_iff_toInt_lt, nI_toInt (by omega), nI_toInt (by omega)] at h2
      omega
    · rw [if_neg h2]
      rw [Int32.lt_iff_toInt_lt, nI_toInt (by omega)] at h1 h2
      obtain ⟨j, hj, rfl⟩ := jofI (x := x) (n := n + 1) (by omega) (by rw [Int32.le_iff_toInt_le]; show (0 : Int) ≤ _; omega) (by rw [Int32.lt_iff_toInt_lt, nI_toInt (by omega)]; omega)
      rw [nI_toInt (by omega)] at h1
      exact Or.inl ⟨j, by omega, by omega, rfl, rfl⟩
/-- both sides ask alike whether a number lies below a bound -/
theorem jisin_wi (x b : Int32) (c : Int32) {hi : Int64} (hh : hi = c.toInt64) (hb : ∀ y : Int32, b ≤ y ↔ c < y) : jisin x.toInt64 0 hi = jwi x b := by
  subst hh
  have e : (0 : Int64) = (0 : Int32).toInt64 := rfl
  rw [e, jisin_int]
  unfold jwi
  simp only [hb]
theorem jle_lt {b c : Int32} (h : c.toInt + 1 = b.toInt) (y : Int32) : b ≤ y ↔ c < y := by
  rw [Int32.le_iff_toInt_le, Int32.lt_iff_toInt_lt]; omega
/-- the reference with its row -/
def MR (S : jM) (m : Nat) (v : Nat → Int32) : Prop := ML S m ∧ ∀ j, ji S (m + 1) j = v j
section jPair
variable {E : jEnv} {d : Nat} {S : jM} {x m sz : Nat} {v : Nat → Int32}
theorem MR.k (h : MR S m v) : jk S m = 11 := h.1.1
theorem MR.r (h : MR S m v) : jr S m 0 = some (m + 1) := (h.1.2 0 (0, 3135) rfl).1
theorem MR.k1 (h : MR S m v) : jk S (m + 1) = 12 := (h.1.2 0 (0, 3135) rfl).2.1
theorem MR.l1 (h : MR S m v) : jl S (m + 1) = 3135 := (h.1.2 0 (0, 3135) rfl).2.2
theorem ML.same {S' : jM} (h : ML S m) (hs : jsame S S') : ML S' m := by
  obtain ⟨e1, e2, e3, -⟩ := hs
  unfold ML
  rw [e1, e2, e3]
  exact h
theorem CL.same {S' : jM} (h : CL S x) (hs : jsame S S') : CL S' x := by
  obtain ⟨e1, e2, e3, -⟩ := hs
  unfold CL SrL TpL ShL SlL ShL at *
  rw [e1, e2, e3]
  exact h
theorem MR.at {i : Int32} (n : Nat) (h : MR S m v) (e : i = nI n) (hn : n < 3135) : vp_in i (jl S (m + 1)) ∧ ji S (m + 1) (Int32.toNatClampNeg i) = v n := by
  subst e
  rw [jcl (by omega), h.l1]
  exact ⟨jin_nI hn (by omega), h.2 n⟩
theorem MR.keep {S' : jM} {lo hi : Nat} (h : MR S m v) (hc : jch S S' lo hi) (hd : m + 2 ≤ lo ∨ hi ≤ m + 1) : MR S' m v :=
  ⟨h.1.same hc.1, fun j => by rw [hc.2 (m + 1) (by omega)]; exact h.2 j⟩
theorem MR.put {n : Nat} {w : Int32} (h : MR S m v) : MR (jput S (m + 1) n w) m (upd v n w) := by
  refine ⟨h.1, fun j => ?_⟩
  rw [ji_put]
  unfold upd
  by_cases hj : j = n
  · rw [if_pos ⟨rfl, hj⟩, if_pos hj]
  · rw [if_neg (fun c => hj c.2), if_neg hj]; exact h.2 j
theorem MR.puts {i w : Int32} (n : Nat) (h : MR S m v) (e : i = nI n) (hn : n < 3135) : MR (jput S (m + 1) (Int32.toNatClampNeg i) w) m (upd v n w) := by
  subst e
  rw [jcl (by omega)]
  exact h.put
theorem c_X11_becomes {Q : Int32 → jM → Prop} {i w : Int32} (n : Nat) (hM : MR S m v) (e : i = nI n) (hn : n < 3135) (h : ∀ S', jch S S' (m + 1) (m + 2) → MR S' m (upd v n w) → Q (v n) S') : jFi E mX11_becomes d 0 0 [.ref m, .int i, .int w] S Q := by
  obtain ⟨a1, a2⟩ := hM.at n e hn
  refine T_X11_becomes ⟨hM.k, m + 1, hM.r, hM.k1, a1, ?_⟩
  rw [a2]
  exact h _ (jch.put (by omega) (by omega)) (hM.puts n e hn)
/-- what a pair of calls may change: the realm, what is only thought, the reference's row and its scratch rows -/
def jfr (S S' : jM) (x : Nat) : Prop := jsame S S' ∧ ∀ y, (y < x + 1 ∨ x + 21 ≤ y) → (y < x + 41 ∨ x + 60 ≤ y) → y ≠ x + 95 → y ≠ x + 97 → (y < x + 106 ∨ x + 109 ≤ y) → (y < x + 110 ∨ x + 112 ≤ y) → ji S' y = ji S y
theorem jfr.rfl : jfr S S x := ⟨jsame.rfl, fun _ _ _ _ _ _ _ => _root_.rfl⟩
theorem jfr.trans {S1 S2 : jM} (h1 : jfr S S1 x) (h2 : jfr S1 S2 x) : jfr S S2 x := ⟨h1.1.trans h2.1, fun y a b c d e f => (h2.2 y a b c d e f).trans (h1.2 y a b c d e f)⟩
theorem jfr.realm {S1 : jM} {lo hi : Nat} (h : jch S S1 lo hi) (a : x + 1 ≤ lo) (b : hi ≤ x + 21) : jfr S S1 x := ⟨h.1, fun y c _ _ _ _ _ => h.2 y (by omega)⟩
theorem jfr.row {S1 : jM} (h : jch S S1 (x + 95) (x + 96)) : jfr S S1 x := ⟨h.1, fun y _ _ c _ _ _ => h.2 y (by omega)⟩
/-- what holds of the row at all times: the bound of each place, 0 where there is none -/
def rgb (j : Nat) : Nat :=
  if j < 72 then (if j = 1 then 15 else if j = 2 then 10000 else if j = 3 then 6 else if j = 4 then 1024 else if j = 5 then 10000 else if j = 6 then 100 else if j = 7 then 7 else if j < 9 then 0 else if j < 15 then 10 else if j < 36 then 0 else 10)
  else (if (j - 72) % 7 = 0 then 6 else if (j - 72) % 7 = 1 then 6 else if (j - 72) % 7 = 2 then 10 else if (j - 72) % 7 = 3 then 1024 else if (j - 72) % 7 = 6 then 2 else 100)
def Rg (_sz : Nat) (v : Nat → Int32) : Prop := ∀ j, j < 135 → rgb j ≠ 0 → ∃ k, k < rgb j ∧ v j = nI k
theorem Rg.put {n : Nat} {w : Int32} (h : Rg sz v) (hw : rgb n ≠ 0 → ∃ k, k < rgb n ∧ w = nI k) : Rg sz (upd v n w) := by
  intro j hj hb
  unfold upd
  by_cases hjn : j = n
  · rw [if_pos hjn]; subst hjn; exact hw hb
  · rw [if_neg hjn]; exact h j hj hb
theorem rgb_m (i f : Nat) (hf : f < 7) : rgb (72 + 7 * i + f) = if f = 0 then 6 else if f = 1 then 6 else if f = 2 then 10 else if f = 3 then 1024 else if f = 6 then 2 else 100 := by
  unfold rgb
  rw [if_neg (by omega)]
  have e : (72 + 7 * i + f - 72) % 7 = f := by omega
  rw [e]
theorem rgb_road (i : Nat) (hi : i < 36) : rgb (36 + i) = 10 := by
  unfold rgb
  rw [if_pos (by omega), if_neg (by omega), if_neg (by omega), if_neg (by omega), if_neg (by omega), if_neg (by omega), if_neg (by omega), if_neg (by omega), if_neg (by omega), if_neg (by omega), if_neg (by omega)]
theorem rgb_wish (i : Nat) (hi : i < 6) : rgb (9 + i) = 10 := by
  unfold rgb
  rw [if_pos (by omega), if_neg (by omega), if_neg (by omega), if_neg (by omega), if_neg (by omega), if_neg (by omega), if_neg (by omega), if_neg (by omega), if_neg (by omega), if_pos (by omega)]
theorem rgb_from (i : Nat) (hi : i < 20) : rgb (16 + i) = 0 := by
  unfold rgb
  rw [if_pos (by omega), if_neg (by omega), if_neg (by omega), if_neg (by omega), if_neg (by omega), if_neg (by omega), if_neg (by omega), if_neg (by omega), if_neg (by omega), if_neg (by omega), if_pos (by omega)]
theorem Rg.at_ (h : Rg sz v) : ∃ k, k < 6 ∧ v 3 = nI k := h 3 (by omega) (by decide)
theorem Rg.kn (h : Rg sz v) : ∃ k, k < 1024 ∧ v 4 = nI k := h 4 (by omega) (by decide)
theorem Rg.wi (h : Rg sz v) : ∃ k, k < 7 ∧ v 7 = nI k := h 7 (by omega) (by decide)
theorem Rg.rd (h : Rg sz v) (i : Nat) (hi : i < 36) : ∃ k, k < 10 ∧ v (36 + i) = nI k := by
  have := h (36 + i) (by omega) (by rw [rgb_road i hi]; decide)
  rw [rgb_road i hi] at this; exact this
theorem Rg.wd (h : Rg sz v) (i : Nat) (hi : i < 6) : ∃ k, k < 10 ∧ v (9 + i) = nI k := by
  have := h (9 + i) (by omega) (by rw [rgb_wish i hi]; decide)
  rw [rgb_wish i hi] at this; exact this
/-- the two sides stand alike -/
def PI (S : jM) (x sz : Nat) (v : Nat → Int32) : Prop := XR S x sz v ∧ MR S (x + 94) v ∧ Rg sz v
/-- the texts' rows of the reference stay -/
def TK (S S' : jM) (x : Nat) : Prop := ∀ j, (j = 1 ∨ 135 ≤ j) → ji S' (x + 95) j = ji S (x + 95) j
theorem tkOf {S' : jM} {v' : Nat → Int32} (h : MR S (x + 94) v) (h' : MR S' (x + 94) v') (e : ∀ j, (j = 1 ∨ 135 ≤ j) → v' j = v j) : TK S S' x := fun j hj => (h'.2 j).trans ((e j hj).trans (h.2 j).symm)
def PO (S : jM) (x : Nat) (r r' : Int32) (S' : jM) : Prop := r = r' ∧ jfr S S' x ∧ TK S S' x ∧ ∃ sz v, PI S' x sz v
theorem PI.same {r : Int32} (h : PI S x sz v) : PO S x r r S := ⟨rfl, jfr.rfl, fun _ _ => rfl, sz, v, h⟩
theorem C_seed {Q : Int32 → jM → Prop} {w : Int32} (hX : XR S x sz v) (h : ∀ S', jch S S' (x + 2) (x + 3) → XR S' x sz (upd v 8 w) → Q (v 8) S') : jFi E mX10_seed d 0 0 [.ref x, .int w] S Q := by
  refine T_X10_seed ⟨hX.1, x + 1, hX.2.1, hX.k3, x + 2, hX.r0, hX.g.1.1, ?_⟩
  rw [hX.g.2.2.1]
  have hc : jch S (jput S (x + 2) 2 w) (x + 2) (x + 3) := jch.put (by omega) (by omega)
  refine h _ hc (hX.of hc.1 (hX.2.2.guild (hc.wide (by omega) (by omega)) ?_ hX.sz9 hX.v0 (fun j h0 h8 hj => by unfold upd; rw [if_neg h8])))
  have e8 : upd v 8 w 8 = w := by unfold upd; rw [if_pos rfl]
  rw [e8]
  refine hX.g.putz.cong (fun i hi f hf => ?_)
  unfold mfv upd
  rw [if_neg (by omega)]
theorem P_seed {w : Int32} (hP : PI S x sz v) : jFi E mX10_seed d 0 0 [.ref x, .int w] S (fun r S1 => jFm E mX11_seed (d + 1) (x + 94) [.int w] S1 (fun r' S2 => PO S x r r' S2)) := by
  refine C_seed hP.1 (fun S1 c1 h1 => ?_)
  have hM := hP.2.1.keep c1 (by omega)
  refine U_X11_seed (by first | exact hM.k | exact hM1.k | exact hP.2.1.k | exact h.2.2.1.1 | exact h.1.1 | exact g1.1.1 | exact g3.1.1 | exact gm.1.1 | exact h2.1.1 | exact hM2.k | (rw [c1.1.1]; exact hP.2.1.k)) ⟨hM.k, c_X11_becomes 8 hM rfl (by omega) (fun S2 c2 h2 => ⟨rfl, (jfr.realm c1 (by omega) (by omega)).trans (jfr.row c2), tkOf hP.2.1 h2 (fun j hj => by unfold upd; rw [if_neg (by omega)]), sz, _, ?_, h2, hP.2.2.put (fun c => absurd rfl c)⟩)⟩
  exact h1.of c2.1 (h1.2.2.keep c2 (by omega))
end jPair
end
section
/-! LIGHT CALLS of the apprentice, on both sides -/
section jLight
variable {E : jEnv} {d : Nat} {S : jM} {x m sz : Nat} {v : Nat → Int32}
theorem upd_at (n : Nat) (w : Int32) : upd v n w n = w := by unfold upd; rw [if_pos rfl]
theorem upd_ne {n j : Nat} (w : Int32) (h : j ≠ n) : upd v n w j = v j := by unfold upd; rw [if_neg h]
theorem XR.kl (h : XR S x sz v) : jk S (x + 16) = 1 := h.l.1.1
/-- the learner alone changes -/
theorem XR.lear {S' : jM} {v' : Nat → Int32} (h : XR S x sz v) (hc : jch S S' (x + 16) (x + 19)) (hl : LdR S' (x + 16) (v' 3) (v' 4) (v' 5) (v' 6) (v' 2) (fun i => v' (16 + i)) (fun i => v' (26 + i))) (he : ∀ j, (j < 2 ∨ 7 ≤ j) → (j < 16 ∨ 36 ≤ j) → v' j = v j) : XR S' x sz v' :=
  h.of hc.1 (h.2.2.learner hc hl he)
/-- the wishes alone change -/
theorem RmR.wish {S' : jM} {r : Nat} {v' : Nat → Int32} (h : RmR S r sz v) (hs : jsame S S') (hc : ∀ y, y ≠ r → y ≠ r + 18 → ji S' y = ji S y) (h6 : ji S' r 6 = ji S r 6) (h4 : ji S' r 4 = v' 7) (hw : ∀ i, i < 6 → ji S' (r + 18) i = v' (9 + i)) (he : ∀ j, j ≠ 7 → (j < 9 ∨ 15 ≤ j) → v' j = v j) : RmR S' r sz v' := by
  obtain ⟨a0, a1, a2, a3, a4, a5, a6, a7, a8⟩ := h
  have c1 : jch S (S') r r → True := fun _ => trivial
  have g3 : GR S' (r + 1) sz (v 8) (mfv v) := ⟨a3.1.same hs, by rw [hc _ (by omega) (by omega)]; exact a3.2.1, by rw [hc _ (by omega) (by omega)]; exact a3.2.2.1, fun i hi f hf => by rw [hc _ (by omega) (by omega)]; exact a3.2.2.2 i hi f hf⟩
  have g4 : RdR S' (r + 12) (fun i => v (36 + i)) (vfar v) := ⟨a4.1.same hs, fun i hi => by rw [hc _ (by omega) (by omega)]; exact a4.2.1 i hi, fun i hi => by rw [hc _ (by omega) (by omega)]; exact a4.2.2 i hi⟩
  have g5 : LdR S' (r + 15) (v 3) (v 4) (v 5) (v 6) (v 2) (fun i => v (16 + i)) (fun i => v (26 + i)) := by
    obtain ⟨b0, b1, b2, b3, b4, b5, b6, b7⟩ := a5
    have e := hc (r + 15) (by omega) (by omega)
    exact ⟨b0.same hs, by rw [e]; exact b1, by rw [e]; exact b2, by rw [e]; exact b3, by rw [e]; exact b4, by rw [e]; exact b5, fun i hi => by rw [hc _ (by omega) (by omega)]; exact b6 i hi, fun i hi => by rw [hc _ (by omega) (by omega)]; exact b7 i hi⟩
  refine ⟨a0.same hs, a1, by rw [he 0 (by omega) (by omega)]; exact a2, ?_, ?_, ?_, h4, hw, by rw [h6, he 1 (by omega) (by omega)]; exact a8⟩
  · rw [he 8 (by omega) (by omega)]
    exact g3.cong (fun i hi f hf => (he _ (by omega) (by omega)).symm)
  · exact g4.cong (fun i hi => he _ (by omega) (by omega))
  · rw [he 3 (by omega) (by omega), he 4 (by omega) (by omega), he 5 (by omega) (by omega), he 6 (by omega) (by omega), he 2 (by omega) (by omega)]
    exact g5.cong (fun i hi => (he _ (by omega) (by omega)).symm) (fun i hi => (he _ (by omega) (by omega)).symm)
theorem P_apprentice {w : Int32} (hP : PI S x sz v) : jFi E mX10_apprentice d 0 0 [.ref x, .int w] S (fun r S1 => jFm E mX11_apprentice (d + 1) (x + 94) [.int w] S1 (fun r' S2 => PO S x r r' S2)) := by
  have hX := hP.1
  have hM := hP.2.1
  obtain ⟨b0, b1, b2, b3, b4, b5, b6, b7⟩ := hX.l
  have key : ∀ j, j < 4 → w = nI j → jFm E mX11_apprentice (d + 1) (x + 94) [.int w] S (fun r' S2 => PO S x (v (3 + j)) r' S2) := by
    intro j hj e
    refine U_X11_apprentice (by first | exact hM.k | exact hM1.k | exact hP.2.1.k | exact h.2.2.1.1 | exact h.1.1 | exact g1.1.1 | exact g3.1.1 | exact gm.1.1 | exact h2.1.1 | exact hM2.k | (rw [c1.1.1]; exact hP.2.1.k)) ⟨fun c => ?_, fun _ => ?_⟩
    · rcases jisin_ab w (lo := 0) (hi := 3) 0 3 rfl rfl (by omega) (by omega) with ⟨j, _, _, _, h⟩ | ⟨h, _⟩
      · rw [h] at c; exact absurd c (by decide)
      · exact absurd e (h j (by omega) (by omega))
    · obtain ⟨a1, a2⟩ := hM.at (i := 3 + w) (3 + j) (by rw [e]; exact nI_add 3 j) (by omega)
      refine ⟨hM.k, _, hM.r, hM.k1, a1, ?_⟩
      rw [a2]
      exact hP.same
  refine T_X10_apprentice ⟨fun e => ⟨hX.1, x + 1, hX.2.1, hX.k3, x + 16, hX.r2, b0.1, ?_⟩, fun e => ⟨hX.1, x + 1, hX.2.1, hX.k3, x + 16, hX.r2, b0.1, ?_⟩, fun e => ⟨hX.1, x + 1, hX.2.1, hX.k3, x + 16, hX.r2, b0.1, ?_⟩, fun e => ⟨hX.1, x + 1, hX.2.1, hX.k3, x + 16, hX.r2, b0.1, ?_⟩, fun e0 e1 e2 e3 => ?_⟩
  · rw [b1]; exact key 0 (by omega) e
  · rw [b2]; exact key 1 (by omega) e
  · rw [b3]; exact key 2 (by omega) e
  · rw [b4]; exact key 3 (by omega) e
  · refine U_X11_apprentice (by first | exact hM.k | exact hM1.k | exact hP.2.1.k | exact h.2.2.1.1 | exact h.1.1 | exact g1.1.1 | exact g3.1.1 | exact gm.1.1 | exact h2.1.1 | exact hM2.k | (rw [c1.1.1]; exact hP.2.1.k)) ⟨fun _ => hP.same, fun c => absurd ?_ c⟩
    rcases jisin_ab w (lo := 0) (hi := 3) 0 3 rfl rfl (by omega) (by omega) with ⟨j, _, hj, h, _⟩ | ⟨_, h⟩
    · exfalso
      rcases (show j = 0 ∨ j = 1 ∨ j = 2 ∨ j = 3 by omega) with rfl | rfl | rfl | rfl
      · exact e0 h
      · exact e1 h
      · exact e2 h
      · exact e3 h
    · exact h
theorem P_clear (hP : PI S x sz v) : jFi E mX10_clear d 0 0 [.ref x] S (fun r S1 => jFm E mX11_clear (d + 1) (x + 94) [] S1 (fun r' S2 => PO S x r r' S2)) := by
  have hX := hP.1
  have h7 : ji S (x + 1) 4 = v 7 := hX.2.2.2.2.2.2.2.2.1
  refine T_X10_clear ⟨hX.1, x + 1, hX.2.1, hX.k3, ?_⟩
  rw [h7]
  have c1 : jch S (jput S (x + 1) 4 0) (x + 1) (x + 2) := jch.put (by omega) (by omega)
  have hM := hP.2.1.keep c1 (by omega)
  have hr : RmR (jput S (x + 1) 4 0) (x + 1) sz (upd v 7 0) := by
    refine hX.2.2.wish c1.1 (fun y h1 h2 => c1.2 y (by omega)) ?_ ?_ (fun i hi => ?_) (fun j h1 h2 => upd_ne 0 h1)
    · rw [ji_put, if_neg (by omega)]
    · rw [ji_put, if_pos ⟨rfl, rfl⟩, upd_at]
    · rw [ji_put, if_neg (by omega), upd_ne 0 (by omega)]
      exact hX.2.2.2.2.2.2.2.2.2.1 i hi
  refine U_X11_clear (by first | exact hM.k | exact hM1.k | exact hP.2.1.k | exact h.2.2.1.1 | exact h.1.1 | exact g1.1.1 | exact g3.1.1 | exact gm.1.1 | exact h2.1.1 | exact hM2.k | (rw [c1.1.1]; exact hP.2.1.k)) ⟨hM.k, c_X11_becomes 7 hM rfl (by omega) (fun S2 c2 h2 => ⟨rfl, (jfr.realm c1 (by omega) (by omega)).trans (jfr.row c2), tkOf hP.2.1 h2 (fun j hj => by rw [upd_ne _ (by omega)]), sz, _, ?_, h2, hP.2.2.put (fun _ => ⟨0, by decide, rfl⟩)⟩)⟩
  exact (hX.of c1.1 hr).of c2.1 (hr.keep c2 (by omega))
theorem P_has {w u : Int32} (hP : PI S x sz v) : jFi E mX10_has (d + 1) 0 0 [.ref x, .int w, .int u] S (fun r S1 => jFm E mX11_has (d + 1) (x + 94) [.int w, .int u] S1 (fun r' S2 => PO S x r r' S2)) := by
  have hX := hP.1
  have hl := hX.l
  have e1 : jisin u.toInt64 0 9999 = jwi u 10000 := jisin_wi u 10000 9999 rfl (jle_lt (by decide))
  have e2 : jisin u.toInt64 0 99 = jwi u 100 := jisin_wi u 100 99 rfl (jle_lt (by decide))
  have bad : (w ≠ 2 → w ≠ 3 → jFm E mX11_has (d + 1) (x + 94) [.int w, .int u] S (fun r' S2 => PO S x kBAD r' S2)) := by
    intro n2 n3
    refine U_X11_has (by first | exact hM.k | exact hM1.k | exact hP.2.1.k | exact h.2.2.1.1 | exact h.1.1 | exact g1.1.1 | exact g3.1.1 | exact gm.1.1 | exact h2.1.1 | exact hM2.k | (rw [c1.1.1]; exact hP.2.1.k)) ⟨fun _ => hP.same, fun c => absurd ?_ c⟩
    rcases jisin_ab w (lo := 2) (hi := 3) 2 3 rfl rfl (by omega) (by omega) with ⟨j, h1, h2, h, _⟩ | ⟨_, h⟩
    · rcases (show j = 2 ∨ j = 3 by omega) with rfl | rfl
      · exact absurd h n2
      · exact absurd h n3
    · exact h
  have i2 : jisin (2 : Int32).toInt64 2 3 ≠ 0 := by decide
  have i3 : jisin (3 : Int32).toInt64 2 3 ≠ 0 := by decide
  have put : ∀ (f n : Nat) (q : Int32), (f = 2 ∧ n = 5 ∧ q = 2 ∧ jwi u 10000 ≠ 0) ∨ (f = 3 ∧ n = 6 ∧ q = 3 ∧ jwi u 100 ≠ 0) → jFm E mX11_has (d + 1) (x + 94) [.int q, .int u] (jput S (x + 16) f u) (fun r' S2 => PO S x (v n) r' S2) := by
    intro f n q hf
    have c1 : jch S (jput S (x + 16) f u) (x + 16) (x + 17) := jch.put (by omega) (by omega)
    have hM := hP.2.1.keep c1 (by omega)
    have h1 : XR (jput S (x + 16) f u) x sz (upd v n u) := by
      refine hX.lear (c1.wide (by omega) (by omega)) ?_ (fun j p1 p2 => upd_ne u (by omega))
      rcases hf with ⟨rfl, rfl, -, -⟩ | ⟨rfl, rfl, -, -⟩
      · rw [upd_ne u (j := 3) (by omega), upd_ne u (j := 4) (by omega), upd_at, upd_ne u (j := 6) (by omega), upd_ne u (j := 2) (by omega)]
        exact hl.put2.cong (fun i hi => (upd_ne u (by omega)).symm) (fun i hi => (upd_ne u (by omega)).symm)
      · rw [upd_ne u (j := 3) (by omega), upd_ne u (j := 4) (by omega), upd_ne u (j := 5) (by omega), upd_at, upd_ne u (j := 2) (by omega)]
        exact hl.put3.cong (fun i hi => (upd_ne u (by omega)).symm) (fun i hi => (upd_ne u (by omega)).symm)
    have hg : Rg sz (upd v n u) := by
      refine hP.2.2.put (fun _ => ?_)
      rcases hf with ⟨rfl, rfl, -, hu⟩ | ⟨rfl, rfl, -, hu⟩
      · rcases jwi_cases u (b := 10000) 10000 rfl (by omega) with ⟨j, hj, e, _⟩ | ⟨_, e⟩
        · exact ⟨j, hj, e⟩
        · exact absurd e hu
      · rcases jwi_cases u (b := 100) 100 rfl (by omega) with ⟨j, hj, e, _⟩ | ⟨_, e⟩
        · exact ⟨j, hj, e⟩
        · exact absurd e hu
    have fin : ∀ i : Int32, i = nI n → n < 3135 → jFi E mX11_becomes d 0 0 [.ref (x + 94), .int i, .int u] (jput S (x + 16) f u) (fun r' S2 => PO S x (v n) r' S2) := by
      intro i hi hn
      refine c_X11_becomes n hM hi hn (fun S2 c2 h2 => ⟨rfl, (jfr.realm c1 (by omega) (by omega)).trans (jfr.row c2), tkOf hP.2.1 h2 (fun j hj => by rw [upd_ne _ (by omega)]), sz, _, ?_, h2, hg⟩)
      exact h1.of c2.1 (h1.2.2.keep c2 (by omega))
    rcases hf with ⟨rfl, rfl, rfl, hu⟩ | ⟨rfl, rfl, rfl, hu⟩
    · exact U_X11_has (by first | exact hM.k | exact hM1.k | exact hP.2.1.k | exact h.2.2.1.1 | exact h.1.1 | exact g1.1.1 | exact g3.1.1 | exact gm.1.1 | exact h2.1.1 | exact hM2.k | (rw [c1.1.1]; exact hP.2.1.k)) ⟨fun c => absurd c i2, fun _ => ⟨fun _ => ⟨fun c => absurd (e1.symm.trans c) hu, fun _ => ⟨hM.k, fin _ rfl (by omega)⟩⟩, fun c => absurd rfl c⟩⟩
    · exact U_X11_has (by first | exact hM.k | exact hM1.k | exact hP.2.1.k | exact h.2.2.1.1 | exact h.1.1 | exact g1.1.1 | exact g3.1.1 | exact gm.1.1 | exact h2.1.1 | exact hM2.k | (rw [c1.1.1]; exact hP.2.1.k)) ⟨fun c => absurd c i3, fun _ => ⟨fun c => absurd c (by decide), fun _ => ⟨fun c => absurd (e2.symm.trans c) hu, fun _ => ⟨hM.k, fin _ rfl (by omega)⟩⟩⟩⟩
  refine T_X10_has ⟨hX.1, x + 1, hX.2.1, hX.k3, x + 16, hX.r2, ⟨fun w2 => ⟨fun hu => ⟨fun w3 => absurd (w2.symm.trans w3) (by decide), fun _ => ?_⟩, fun hu => ⟨hX.kl, ?_⟩⟩, fun w2 => ⟨fun w3 => ⟨fun hu => ?_, fun hu => ⟨hX.kl, ?_⟩⟩, fun w3 => bad w2 w3⟩⟩⟩
  · subst w2
    exact U_X11_has (by first | exact hM.k | exact hM1.k | exact hP.2.1.k | exact h.2.2.1.1 | exact h.1.1 | exact g1.1.1 | exact g3.1.1 | exact gm.1.1 | exact h2.1.1 | exact hM2.k | (rw [c1.1.1]; exact hP.2.1.k)) ⟨fun _ => hP.same, fun _ => ⟨fun _ => ⟨fun _ => hP.same, fun c => absurd (e1.trans hu) c⟩, fun c => absurd rfl c⟩⟩
  · subst w2
    rw [hl.2.2.2.1]
    exact put 2 5 2 (Or.inl ⟨rfl, rfl, rfl, hu⟩)
  · subst w3
    exact U_X11_has (by first | exact hM.k | exact hM1.k | exact hP.2.1.k | exact h.2.2.1.1 | exact h.1.1 | exact g1.1.1 | exact g3.1.1 | exact gm.1.1 | exact h2.1.1 | exact hM2.k | (rw [c1.1.1]; exact hP.2.1.k)) ⟨fun _ => hP.same, fun _ => ⟨fun c => absurd c (by decide), fun _ => ⟨fun _ => hP.same, fun c => absurd (e2.trans hu) c⟩⟩⟩
  · subst w3
    rw [hl.2.2.2.2.1]
    exact put 3 6 3 (Or.inr ⟨rfl, rfl, rfl, hu⟩)
end jLight
end
section
/-! KNOWS, WANTS, DAYS that go by, on both sides -/
theorem jknowF : ∀ k : Fin 1024, ∀ g : Fin 10, (nI k.val &&& jshl 1 (nI g.val) = 0) = ¬ ((jshr (nI k.val) (nI g.val) &&& 1) = 1) := by decide +kernel
theorem jknow {k g : Nat} (hk : k < 1024) (hg : g < 10) : (nI k &&& jshl 1 (nI g) = 0) = ¬ ((jshr (nI k) (nI g) &&& 1) = 1) := jknowF ⟨k, hk⟩ ⟨g, hg⟩
theorem nI_bv (x : Int32) : x = nI x.toBitVec.toNat := by
  apply Int32.toBitVec_inj.mp
  apply BitVec.eq_of_toNat_eq
  show _ = (BitVec.ofNat 32 x.toBitVec.toNat).toNat
  rw [BitVec.toNat_ofNat, Nat.mod_eq_of_lt x.toBitVec.isLt]
theorem nI_andle {k b : Nat} (hk : k < b) (y : Int32) : ∃ k', k' < b ∧ nI k &&& y = nI k' := by
  refine ⟨(nI k &&& y).toBitVec.toNat, ?_, nI_bv _⟩
  have e1 : (nI k &&& y).toBitVec = (nI k).toBitVec &&& y.toBitVec := rfl
  rw [e1, BitVec.toNat_and]
  have h1 : (nI k).toBitVec.toNat ≤ k := by
    show (BitVec.ofNat 32 k).toNat ≤ k
    rw [BitVec.toNat_ofNat]
    exact Nat.mod_le _ _
  exact Nat.lt_of_le_of_lt Nat.and_le_left (by omega)
theorem j_and_m1 (y : Int32) : y &&& (-1) = y := by
  apply Int32.toBitVec_inj.mp
  show y.toBitVec &&& (-1 : Int32).toBitVec = y.toBitVec
  have e : (-1 : Int32).toBitVec = BitVec.allOnes 32 := by decide
  rw [e, BitVec.and_allOnes]
/-- days go by, on the row -/
def vrow (v : Nat → Int32) (da : Int32) (p : lst) : Nat → Int32 := fun j => if j = 2 then da else if j = 4 then p.1 else if 26 ≤ j ∧ j < 36 then p.2 (j - 26) else v j
def vday (n : Int32) (v : Nat → Int32) : Nat → Int32 := vrow v (jclamp (v 2 + n) 0 9999) (pdays n (v 6) (v 4, fun i => v (26 + i)))
section jLight2
variable {E : jEnv} {d : Nat} {S : jM} {x m sz : Nat} {v : Nat → Int32}
theorem pone_kn {n fo : Int32} {g : Nat} {p : lst} (h : ∃ k, k < 1024 ∧ p.1 = nI k) : ∃ k, k < 1024 ∧ (pone n fo g p).1 = nI k := by
  unfold pone
  split
  · exact h
  · simp only
    split
    · exact h
    · split
      · exact h
      · obtain ⟨k, hk, e⟩ := h
        rw [e]
        exact nI_andle hk _
theorem pfold_kn {n fo : Int32} : ∀ (c i : Nat) (p : lst), (∃ k, k < 1024 ∧ p.1 = nI k) → ∃ k, k < 1024 ∧ (jfold (pone n fo) c i p).1 = nI k
  | 0, _, _, h => h
  | c + 1, i, p, h => pfold_kn c (i + 1) _ (pone_kn h)
theorem c_X11_doesKnow {Q : Int32 → jM → Prop} {g : Nat} (hM : MR S m v) (hk : ∃ k, k < 1024 ∧ v 4 = nI k) (hg : g < 10) (h : Q (jable (v 4) (nI g)) S) : jFi E mX11_doesKnow d 0 0 [.ref m, .int (nI g)] S Q := by
  obtain ⟨k, hk, e⟩ := hk
  obtain ⟨a1, a2⟩ := hM.at (i := 4) 4 rfl (by omega)
  refine T_X11_doesKnow ⟨hM.k, m + 1, hM.r, hM.k1, a1, ?_⟩
  rw [jable_at hg, e] at h
  rw [a2, e]
  have hq := jknow hk hg
  exact ⟨fun c => by rw [if_neg (by rw [hq]; exact fun f => f c)] at h; exact h, fun c => by rw [if_pos (by rw [hq]; exact c)] at h; exact h⟩
theorem P_knows {w u : Int32} (hP : PI S x sz v) : jFi E mX10_knows (d + 2) 0 0 [.ref x, .int w, .int u] S (fun r S1 => jFm E mX11_knows (d + 1) (x + 94) [.int w, .int u] S1 (fun r' S2 => PO S x r r' S2)) := by
  have hX := hP.1
  have hM := hP.2.1
  have hl := hX.l
  have e2 : jisin u.toInt64 0 1 = jwi u 2 := jisin_wi u 2 1 rfl (jle_lt (by decide))
  refine T_X10_knows ⟨fun c => U_X11_knows (by first | exact hM.k | exact hM1.k | exact hP.2.1.k | exact h.2.2.1.1 | exact h.1.1 | exact g1.1.1 | exact g3.1.1 | exact gm.1.1 | exact h2.1.1 | exact hM2.k | (rw [c1.1.1]; exact hP.2.1.k)) ⟨fun _ => hP.same, fun c' => absurd c c'⟩, fun cw => ⟨fun c => U_X11_knows (by first | exact hM.k | exact hM1.k | exact hP.2.1.k | exact h.2.2.1.1 | exact h.1.1 | exact g1.1.1 | exact g3.1.1 | exact gm.1.1 | exact h2.1.1 | exact hM2.k | (rw [c1.1.1]; exact hP.2.1.k)) ⟨fun c' => absurd c' cw, fun _ => ⟨fun _ => hP.same, fun c' => absurd (e2.trans c) c'⟩⟩, fun cu => ⟨hX.1, x + 1, hX.2.1, hX.k3, x + 16, hX.r2, hX.kl, c_X1_isAble hX.kl ?_⟩⟩⟩
  rw [hl.2.2.1]
  obtain ⟨g, hg, rfl, -⟩ : ∃ j, j < 10 ∧ w = nI j ∧ jwi w 10 = 1 := by
    rcases jwi_cases w (b := 10) 10 rfl (by omega) with h | ⟨_, h⟩
    · exact h
    · exact absurd h cw
  have m0 : ∀ r, (jable (v 4) (nI g) = 0 → r = kNO) → (jable (v 4) (nI g) ≠ 0 → u = 0 → r = v (16 + g)) → (jable (v 4) (nI g) ≠ 0 → u ≠ 0 → r = v (26 + g)) → jFm E mX11_knows (d + 1) (x + 94) [.int (nI g), .int u] S (fun r' S2 => PO S x r r' S2) := by
    intro r h1 h2 h3
    refine U_X11_knows (by first | exact hM.k | exact hM1.k | exact hP.2.1.k | exact h.2.2.1.1 | exact h.1.1 | exact g1.1.1 | exact g3.1.1 | exact gm.1.1 | exact h2.1.1 | exact hM2.k | (rw [c1.1.1]; exact hP.2.1.k)) ⟨fun c => absurd c cw, fun _ => ⟨fun c => absurd (e2.symm.trans c) cu, fun _ => ⟨hM.k, c_X11_doesKnow hM hP.2.2.kn hg ⟨fun c => ?_, fun c => ⟨hM.k, x + 94 + 1, hM.r, fun cu0 => ?_, fun cu0 => ?_⟩⟩⟩⟩⟩
    · rw [h1 c]; exact hP.same
    · obtain ⟨a1, a2⟩ := hM.at (i := 16 + nI g) (16 + g) (nI_add 16 g) (by omega)
      rw [a2, h2 c cu0]
      exact ⟨hM.k1, a1, hP.same⟩
    · obtain ⟨a1, a2⟩ := hM.at (i := 26 + nI g) (26 + g) (nI_add 26 g) (by omega)
      rw [a2, h3 c cu0]
      exact ⟨hM.k1, a1, hP.same⟩
  have hb := hl.1
  refine ⟨fun c => m0 _ (fun _ => rfl) (fun c' => absurd c c') (fun c' => absurd c c'), fun c => ⟨fun cu0 => ⟨hX.kl, x + 17, hb.2.1, hb.2.2.2.1, ?_, ?_⟩, fun cu0 => ⟨hX.kl, x + 18, hb.2.2.1, hb.2.2.2.2.2.1, ?_, ?_⟩⟩⟩
  · rw [hb.2.2.2.2.1]; exact jin_nI hg (by omega)
  · rw [jcl (by omega), hl.2.2.2.2.2.2.1 g hg]
    exact m0 _ (fun c' => absurd c' c) (fun _ _ => rfl) (fun _ c' => absurd cu0 c')
  · rw [hb.2.2.2.2.2.2]; exact jin_nI hg (by omega)
  · rw [jcl (by omega), hl.2.2.2.2.2.2.2 g hg]
    exact m0 _ (fun c' => absurd c' c) (fun _ c' => absurd c' cu0) (fun _ _ => rfl)
/-- days go by: the reference's loop -/
theorem l_X11_goesBy {Q : jM → Prop} {n da : Int32} {f : Nat} (hf : f < 100) (h6 : v 6 = nI f) (hkn : ∃ k, k < 1024 ∧ v 4 = nI k)
    (h : ∀ S', jch S S' (m + 1) (m + 2) → MR S' m (vrow v da (pdays n (v 6) (v 4, fun i => v (26 + i)))) → Q S') :
    ∀ (c g : Nat) (S1 : jM), g + c = 10 → jch S S1 (m + 1) (m + 2) → MR S1 m (vrow v da (jfold (pone n (v 6)) g 0 (v 4, fun i => v (26 + i)))) → L_X11_goesBy_23 E (d + 1) Q m n (nI g) S1 := by
  intro c
  induction c with
  | zero =>
    intro g S1 hg hc hM
    obtain rfl : g = 10 := by omega
    exact T_X11_goesBy_23 ⟨fun _ => h S1 hc hM, fun c => absurd (by decide) c⟩
  | succ c ih =>
    intro g S1 hg hc hM
    have hp := pfold_kn (n := n) (fo := v 6) g 0 (v 4, fun i => v (26 + i)) hkn
    have hsn : jfold (pone n (v 6)) (g + 1) 0 (v 4, fun i => v (26 + i)) = pone n (v 6) g (jfold (pone n (v 6)) g 0 (v 4, fun i => v (26 + i))) := by rw [jfold_snoc, Nat.zero_add]
    have ih1 := ih (g + 1)
    rw [hsn] at ih1
    generalize jfold (pone n (v 6)) g 0 (v 4, fun i => v (26 + i)) = p at *
    have ea : vrow v da p 4 = p.1 := by unfold vrow; rw [if_neg (by omega), if_pos rfl]
    have eb : vrow v da p (26 + g) = p.2 g := by unfold vrow; rw [if_neg (by omega), if_neg (by omega), if_pos (by omega), show 26 + g - 26 = g by omega]
    have ec : vrow v da p 6 = nI f := by unfold vrow; rw [if_neg (by omega), if_neg (by omega), if_neg (by omega)]; exact h6
    obtain ⟨b1, b2⟩ := hM.at (i := 26 + nI g) (26 + g) (nI_add 26 g) (by omega)
    refine T_X11_goesBy_23 ⟨fun c => absurd c (nI_ge (b := 10) (by omega) (by omega)), fun _ => ⟨hM.k, c_X11_doesKnow hM (by rw [ea]; exact hp) (by omega) ?_⟩⟩
    rw [ea, jable_at (by omega), nI_1]
    have e26 : Int32.toNatClampNeg (26 + nI g) = 26 + g := by
      have : (26 : Int32) + nI g = nI (26 + g) := nI_add 26 g
      rw [this, jcl (by omega)]
    have e4 : Int32.toNatClampNeg 4 = 4 := by decide
    have e6 : Int32.toNatClampNeg 6 = 6 := by decide
    refine ⟨fun c => ih1 S1 (by omega) hc ?_, fun c => ⟨hM.k, m + 1, hM.r, hM.k1, b1, (hM.at (i := 4) 4 rfl (by omega)).1, (hM.at (i := 6) 6 rfl (by omega)).1, ?_⟩⟩
    · have e : pone n (v 6) g p = p := by
        unfold pone
        by_cases hz : p.1 &&& jshl 1 (nI g) = 0
        · rw [if_pos hz]
        · rw [if_neg hz] at c; exact absurd c (by decide)
      rw [e]; exact hM
    · have hz : ¬ (p.1 &&& jshl 1 (nI g) = 0) := fun hz => c (by rw [if_pos hz])
      rw [e4, e6, e26, ji_put, if_neg (by omega), ji_put, if_neg (by omega), hM.2 6, hM.2 4, hM.2 (26 + g), ea, eb, ec]
      -- the row after one gesture
      have row : ∀ kn : Int32, pone n (v 6) g p = (kn, upd p.2 g (p.2 g + n)) → MR (jput (jput S1 (m + 1) (26 + g) (p.2 g + n)) (m + 1) 4 kn) m (vrow v da (pone n (v 6) g p)) := by
        intro kn e
        have h2 := (hM.put (n := 26 + g) (w := p.2 g + n)).put (n := 4) (w := kn)
        refine ⟨h2.1, fun j => (h2.2 j).trans ?_⟩
        rw [e]
        unfold upd vrow
        by_cases j4 : j = 4
        · rw [if_pos j4, if_neg (by omega), if_pos j4]
        · rw [if_neg j4]
          by_cases jg : j = 26 + g
          · rw [if_pos jg, if_neg (by omega), if_neg (by omega), if_pos (by omega)]
            show _ = if j - 26 = g then _ else _
            rw [if_pos (by omega)]
          · rw [if_neg jg]
            by_cases j2 : j = 2
            · rw [if_pos j2, if_pos j2]
            · rw [if_neg j2, if_neg j2, if_neg j4, if_neg j4]
              by_cases jr : 26 ≤ j ∧ j < 36
              · rw [if_pos jr, if_pos jr]
                show _ = if j - 26 = g then _ else _
                rw [if_neg (by omega)]
              · rw [if_neg jr, if_neg jr]
      have ch : ∀ kn : Int32, jch S (jput (jput S1 (m + 1) (26 + g) (p.2 g + n)) (m + 1) 4 kn) (m + 1) (m + 2) := fun kn => (hc.trans (jch.put (by omega) (by omega))).trans (jch.put (by omega) (by omega))
      have po : pone n (v 6) g p = (if v 6 = 0 then p.1 else if p.2 g + n ≤ v 6 then p.1 else p.1 &&& (jshl 1 (nI g) ^^^ (-1)), upd p.2 g (p.2 g + n)) := by unfold pone; rw [if_neg hz]
      have f0 : nI f ≤ 0 ↔ v 6 = 0 := by
        rw [h6]
        constructor
        · intro hle
          by_cases hf0 : f = 0
          · subst hf0; rfl
          · exfalso
            rw [Int32.le_iff_toInt_le, nI_toInt (by omega)] at hle
            have : (0 : Int32).toInt = 0 := rfl
            omega
        · intro e; rw [e]; decide
      refine ⟨fun h0 => ?_, fun h0 => ⟨fun h1 => ?_, fun h1 => ?_⟩⟩
      · rw [j_and_m1]
        exact ih1 _ (by omega) (ch _) (row _ (by rw [po, if_pos (f0.mp h0)]))
      · rw [j_and_m1]
        exact ih1 _ (by omega) (ch _) (row _ (by rw [po, if_neg (fun e => h0 (f0.mpr e)), if_pos (by rw [h6]; exact h1)]))
      · exact ih1 _ (by omega) (ch _) (row _ (by rw [po, if_neg (fun e => h0 (f0.mpr e)), if_neg (by rw [h6]; exact h1)]))
theorem c_X11_goesBy {Q : jM → Prop} {n : Int32} (hM : MR S m v) (hg : Rg sz v) (h : ∀ S', jch S S' (m + 1) (m + 2) → MR S' m (vday n v) → Q S') : jFv E mX11_goesBy (d + 2) 0 0 [.ref m, .int n] S Q := by
  obtain ⟨f, hf, h6⟩ := hg 6 (by omega) (by decide)
  obtain ⟨a1, a2⟩ := hM.at (i := 2) 2 rfl (by omega)
  refine T_X11_goesBy ⟨hM.k, m + 1, hM.r, hM.k1, a1, ?_⟩
  rw [a2]
  refine l_X11_goesBy (S := S) (v := v) (da := jclamp (v 2 + n) 0 9999) hf h6 hg.kn (fun S' hc h2 => h S' hc h2) 10 0 _ (by omega) (jch.put (by omega) (by omega)) ?_
  have h2 := hM.puts (i := 2) (w := jclamp (v 2 + n) 0 9999) 2 rfl (by omega)
  refine ⟨h2.1, fun j => (h2.2 j).trans ?_⟩
  unfold upd vrow jfold
  by_cases j2 : j = 2
  · rw [if_pos j2, if_pos j2]
  · rw [if_neg j2, if_neg j2]
    by_cases j4 : j = 4
    · rw [if_pos j4, j4]
    · rw [if_neg j4]
      by_cases jr : 26 ≤ j ∧ j < 36
      · rw [if_pos jr]
        show v j = v (26 + (j - 26))
        congr 1; omega
      · rw [if_neg jr]
end jLight2
end
section
/-! RESTS, USE, GO, WANTS, ROAD on both sides -/
theorem jday {a b : Nat} (ha : a < 10000) (hb : b < 1000000) : jmin 9999 (nI a + nI b) = jclamp (nI a + nI b) 0 9999 ∧ ∃ k, k < 10000 ∧ jclamp (nI a + nI b) 0 9999 = nI k := by
  rw [nI_add]
  have h0 : (0 : Int32) ≤ nI (a + b) := by rw [Int32.le_iff_toInt_le, nI_toInt (by omega)]; show (0 : Int) ≤ _; omega
  have e9 : (9999 : Int32) = nI 9999 := rfl
  unfold jmin jclamp
  rw [if_pos h0, e9]
  by_cases h : a + b < 9999
  · have h1 : nI (a + b) < nI 9999 := by rw [Int32.lt_iff_toInt_lt, nI_toInt (by omega), nI_toInt (by omega)]; omega
    rw [if_pos h1, if_pos (Int32.le_of_lt h1)]
    exact ⟨rfl, a + b, by omega, rfl⟩
  · have h1 : ¬ nI (a + b) < nI 9999 := by rw [Int32.lt_iff_toInt_lt, nI_toInt (by omega), nI_toInt (by omega)]; omega
    rw [if_neg h1]
    by_cases h2 : nI (a + b) ≤ nI 9999
    · rw [if_pos h2]
      have e : a + b = 9999 := by
        rw [Int32.le_iff_toInt_le, nI_toInt (by omega), nI_toInt (by omega)] at h2
        omega
      rw [e]
      exact ⟨rfl, 9999, by omega, rfl⟩
    · rw [if_neg h2]
      exact ⟨rfl, 9999, by omega, rfl⟩
theorem nI_road (a b : Nat) : (36 + 6 * nI a) + nI b = nI (36 + (a * 6 + b)) := by
  rw [show (36 : Int32) = nI 36 from rfl, show (6 : Int32) = nI 6 from rfl, pk_mul, nI_add, nI_add]
  congr 1; omega
theorem jist_of {w : Int32} (h : ¬ jwi w 6 = 0) : ∃ j, j < 6 ∧ w = nI j := by
  rcases jwi_cases w (b := 6) 6 rfl (by omega) with ⟨j, hj, e, _⟩ | ⟨_, e⟩
  · exact ⟨j, hj, e⟩
  · exact absurd e h
theorem jisg_of {w : Int32} (h : ¬ jwi w 10 = 0) : ∃ j, j < 10 ∧ w = nI j := by
  rcases jwi_cases w (b := 10) 10 rfl (by omega) with ⟨j, hj, e, _⟩ | ⟨_, e⟩
  · exact ⟨j, hj, e⟩
  · exact absurd e h
section jLight3
variable {E : jEnv} {d : Nat} {S : jM} {x m sz : Nat} {v : Nat → Int32}
theorem vday_at (n : Int32) (u : Nat → Int32) : vday n u 2 = jclamp (u 2 + n) 0 9999 ∧ vday n u 4 = (pdays n (u 6) (u 4, fun i => u (26 + i))).1 ∧ (∀ i, i < 10 → vday n u (26 + i) = (pdays n (u 6) (u 4, fun i => u (26 + i))).2 i) ∧ ∀ j, j ≠ 2 → j ≠ 4 → (j < 26 ∨ 36 ≤ j) → vday n u j = u j := by
  unfold vday vrow
  refine ⟨by rw [if_pos rfl], by rw [if_neg (by omega), if_pos rfl], fun i hi => ?_, fun j h2 h4 hj => ?_⟩
  · rw [if_neg (by omega), if_neg (by omega), if_pos (by omega), show 26 + i - 26 = i by omega]
  · rw [if_neg h2, if_neg h4, if_neg (by omega)]
/-- days go by, and the two sides stand alike -/
theorem PI.day {S' : jM} {u : Nat → Int32} {n : Int32} {b : Nat} (hX : XR S x sz v) (hg : Rg sz v) (he : ∀ j, j < 26 ∨ 36 ≤ j → u j = v j) (hn : n = nI b) (hb : b < 1000000) (hc : jch S S' (x + 16) (x + 19))
    (hl : LdR S' (x + 16) (v 3) (pdays n (v 6) (v 4, fun i => u (26 + i))).1 (v 5) (v 6) (jmin 9999 (v 2 + n)) (fun i => v (16 + i)) (pdays n (v 6) (v 4, fun i => u (26 + i))).2) : XR S' x sz (vday n u) ∧ Rg sz (vday n u) := by
  obtain ⟨a1, a2, a3, a4⟩ := vday_at n u
  have e2 := he 2 (by omega)
  have e4 := he 4 (by omega)
  have e6 := he 6 (by omega)
  rw [e2] at a1
  rw [e4, e6] at a2 a3
  obtain ⟨a, ha, h2⟩ := hg 2 (by omega) (by decide)
  have hd := jday (a := a) (b := b) ha hb
  rw [← h2, ← hn] at hd
  refine ⟨hX.lear hc ?_ (fun j p1 p2 => ?_), fun j hj hr => ?_⟩
  · rw [a1, a2, a4 3 (by omega) (by omega) (by omega), a4 5 (by omega) (by omega) (by omega), a4 6 (by omega) (by omega) (by omega), he 3 (by omega), he 5 (by omega), he 6 (by omega), ← hd.1]
    exact hl.cong (fun i hi => by rw [a4 _ (by omega) (by omega) (by omega), he _ (by omega)]) (fun i hi => (a3 i hi).symm)
  · rw [a4 j (by omega) (by omega) (by omega)]; exact he j (by omega)
  · by_cases j2 : j = 2
    · subst j2; rw [a1]; exact hd.2
    · by_cases j4 : j = 4
      · subst j4; rw [a2]; exact pfold_kn 10 0 _ hg.kn
      · by_cases jr : j < 26 ∨ 36 ≤ j
        · rw [a4 j j2 j4 jr, he j jr]; exact hg j hj hr
        · exfalso
          have := rgb_from (j - 16) (by omega)
          rw [show 16 + (j - 16) = j by omega] at this
          exact hr this
theorem P_rests {w : Int32} (hP : PI S x sz v) : jFi E mX10_rests (d + 3) 0 0 [.ref x, .int w] S (fun r S1 => jFm E mX11_rests (d + 3) (x + 94) [.int w] S1 (fun r' S2 => PO S x r r' S2)) := by
  have hX := hP.1
  rcases jisin_ab w (lo := 1) (hi := 100) 1 100 rfl rfl (by omega) (by omega) with ⟨j, j1, j2, rfl, hj⟩ | ⟨hw, hj⟩
  · refine T_X10_rests ⟨fun c => absurd c (by rw [show (1 : Int32) = nI 1 from rfl, Int32.lt_iff_toInt_lt, nI_toInt (by omega), nI_toInt (by omega)]; omega), fun _ => ⟨fun _ => ⟨hX.1, x + 1, hX.2.1, hX.k3, x + 16, hX.r2, hX.kl, c_X1_passDays hX.l (fun S1 c1 l1 => ?_)⟩, fun c => absurd (by rw [show (100 : Int32) = nI 100 from rfl, Int32.le_iff_toInt_le, nI_toInt (by omega), nI_toInt (by omega)]; omega) c⟩⟩
    obtain ⟨h1, g1⟩ := PI.day (u := v) (n := nI j) hX hP.2.2 (fun _ _ => rfl) rfl (by omega) c1 l1
    refine ⟨h1.1, x + 1, h1.2.1, h1.k3, x + 16, h1.r2, h1.kl, ?_⟩
    rw [h1.l.2.2.1]
    have hM := hP.2.1.keep c1 (by omega)
    refine U_X11_rests (by first | exact hM.k | exact hM1.k | exact hP.2.1.k | exact h.2.2.1.1 | exact h.1.1 | exact g1.1.1 | exact g3.1.1 | exact gm.1.1 | exact h2.1.1 | exact hM2.k | (rw [c1.1.1]; exact hP.2.1.k)) ⟨fun c => absurd (hj.symm.trans c) (by decide), fun _ => ⟨hM.k, c_X11_goesBy hM hP.2.2 (fun S2 c2 h2 => ?_)⟩⟩
    obtain ⟨a1, a2⟩ := h2.at (i := 4) 4 rfl (by omega)
    refine ⟨h2.k, _, h2.r, h2.k1, a1, ?_⟩
    rw [a2]
    exact ⟨rfl, (jfr.realm c1 (by omega) (by omega)).trans (jfr.row c2), tkOf hP.2.1 h2 (fun j hj => by unfold vday vrow; rw [if_neg (by omega), if_neg (by omega), if_neg (by omega)]), sz, _, h1.of c2.1 (h1.2.2.keep c2 (by omega)), h2, g1⟩
  · have bad : jFm E mX11_rests (d + 3) (x + 94) [.int w] S (fun r' S2 => PO S x kBAD r' S2) := U_X11_rests (by first | exact hM.k | exact hM1.k | exact hP.2.1.k | exact h.2.2.1.1 | exact h.1.1 | exact g1.1.1 | exact g3.1.1 | exact gm.1.1 | exact h2.1.1 | exact hM2.k | (rw [c1.1.1]; exact hP.2.1.k)) ⟨fun _ => hP.same, fun c => absurd hj c⟩
    refine T_X10_rests ⟨fun _ => bad, fun c1 => ⟨fun c2 => ?_, fun _ => bad⟩⟩
    exfalso
    rw [show (1 : Int32) = nI 1 from rfl, Int32.lt_iff_toInt_lt, nI_toInt (by omega)] at c1
    obtain ⟨j, hj, e⟩ := jofI (x := w) (n := 101) (by omega) (by rw [Int32.le_iff_toInt_le]; show (0 : Int) ≤ _; omega) (by rw [show (100 : Int32) = nI 100 from rfl, Int32.le_iff_toInt_le, nI_toInt (by omega)] at c2; rw [Int32.lt_iff_toInt_lt, nI_toInt (by omega)]; omega)
    rw [e, nI_toInt (by omega)] at c1
    exact hw j (by omega) (by omega) e
theorem P_use {w : Int32} (hP : PI S x sz v) : jFi E mX10_use (d + 4) 0 0 [.ref x, .int w] S (fun r S1 => jFm E mX11_use (d + 4) (x + 94) [.int w] S1 (fun r' S2 => PO S x r r' S2)) := by
  have hX := hP.1
  refine T_X10_use ⟨fun c => U_X11_use (by first | exact hM.k | exact hM1.k | exact hP.2.1.k | exact h.2.2.1.1 | exact h.1.1 | exact g1.1.1 | exact g3.1.1 | exact gm.1.1 | exact h2.1.1 | exact hM2.k | (rw [c1.1.1]; exact hP.2.1.k)) ⟨fun _ => hP.same, fun c' => absurd c c'⟩, fun cw => ⟨hX.1, x + 1, hX.2.1, hX.k3, x + 16, hX.r2, hX.kl, c_X1_practise hX.l (fun h0 => ⟨fun _ => ?_, fun c => absurd rfl c⟩) (fun g hg e h0 S1 c1 l1 => ⟨fun c => absurd c (by decide), fun _ => ?_⟩)⟩⟩
  · obtain ⟨g, hg, rfl⟩ := jisg_of cw
    exact U_X11_use (by first | exact hM.k | exact hM1.k | exact hP.2.1.k | exact h.2.2.1.1 | exact h.1.1 | exact g1.1.1 | exact g3.1.1 | exact gm.1.1 | exact h2.1.1 | exact hM2.k | (rw [c1.1.1]; exact hP.2.1.k)) ⟨fun _ => absurd ‹_› cw, fun _ => ⟨hP.2.1.k, c_X11_doesKnow hP.2.1 hP.2.2.kn hg ⟨fun _ => hP.same, fun c => absurd h0 c⟩⟩⟩
  · subst e
    obtain ⟨h1, g1⟩ := PI.day (u := upd v (26 + g) 0) (n := 1) (b := 1) hX hP.2.2 (fun j hj => upd_ne 0 (by omega)) rfl (by omega) c1 (by
      have e : (fun i => upd v (26 + g) 0 (26 + i)) = upd (fun i => v (26 + i)) g 0 := by
        funext i
        unfold upd
        by_cases hi : i = g
        · rw [if_pos hi, if_pos (by omega)]
        · rw [if_neg hi, if_neg (by omega)]
      rw [e]; exact l1)
    refine ⟨h1.1, x + 1, h1.2.1, h1.k3, x + 16, h1.r2, h1.kl, ?_⟩
    rw [h1.l.2.2.1]
    have hM := hP.2.1.keep c1 (by omega)
    refine U_X11_use (by first | exact hM.k | exact hM1.k | exact hP.2.1.k | exact h.2.2.1.1 | exact h.1.1 | exact g1.1.1 | exact g3.1.1 | exact gm.1.1 | exact h2.1.1 | exact hM2.k | (rw [c1.1.1]; exact hP.2.1.k)) ⟨fun _ => absurd ‹_› cw, fun _ => ⟨hM.k, c_X11_doesKnow hM hP.2.2.kn hg ⟨fun c => absurd c h0, fun _ => ⟨hM.k, ?_⟩⟩⟩⟩
    have ei : (26 : Int32) + nI g = nI (26 + g) := nI_add 26 g
    refine T_X11_uses ⟨hM.k, x + 94 + 1, hM.r, hM.k1, (hM.at _ ei (by omega)).1, ?_⟩
    refine c_X11_goesBy (sz := sz) (hM.puts _ ei (by omega)) (hP.2.2.put (fun c => absurd (by rw [show 26 + g = 16 + (10 + g) by omega]; exact rgb_from _ (by omega)) c)) (fun S2 c2 h2 => ?_)
    obtain ⟨a1, a2⟩ := h2.at (i := 4) 4 rfl (by omega)
    refine ⟨h2.k, _, h2.r, h2.k1, a1, ?_⟩
    rw [a2]
    have c3 : jch S1 S2 (x + 95) (x + 96) := (jch.put (by omega) (by omega)).trans c2
    exact ⟨rfl, (jfr.realm c1 (by omega) (by omega)).trans (jfr.row c3), tkOf hP.2.1 h2 (fun j hj => by unfold vday vrow; rw [if_neg (by omega), if_neg (by omega), if_neg (by omega)]; exact upd_ne _ (by omega)), sz, _, h1.of c3.1 (h1.2.2.keep c3 (by omega)), h2, g1⟩
theorem P_go {w : Int32} (hP : PI S x sz v) : jFi E mX10_go (d + 3) 0 0 [.ref x, .int w] S (fun r S1 => jFm E mX11_go (d + 3) (x + 94) [.int w] S1 (fun r' S2 => PO S x r r' S2)) := by
  have hX := hP.1
  have hl := hX.l
  obtain ⟨a, ha, e3⟩ := hP.2.2.at_
  have i3 := hP.2.1.at (i := 3) 3 rfl (by omega)
  refine T_X10_go ⟨hX.1, x + 1, hX.2.1, hX.k3, x + 16, hX.r2, fun c => U_X11_go (by first | exact hM.k | exact hM1.k | exact hP.2.1.k | exact h.2.2.1.1 | exact h.1.1 | exact g1.1.1 | exact g3.1.1 | exact gm.1.1 | exact h2.1.1 | exact hM2.k | (rw [c1.1.1]; exact hP.2.1.k)) ⟨fun _ => hP.same, fun c' => absurd c c'⟩, fun cw => ⟨hX.kl, ?_⟩⟩
  rw [hl.2.1]
  refine ⟨fun c => U_X11_go (by first | exact hM.k | exact hM1.k | exact hP.2.1.k | exact h.2.2.1.1 | exact h.1.1 | exact g1.1.1 | exact g3.1.1 | exact gm.1.1 | exact h2.1.1 | exact hM2.k | (rw [c1.1.1]; exact hP.2.1.k)) ⟨fun c' => absurd c' cw, fun _ => ⟨hP.2.1.k, _, hP.2.1.r, hP.2.1.k1, i3.1, fun _ => hP.same, fun c' => absurd (c.trans i3.2.symm) c'⟩⟩, fun cat => ⟨x + 13, hX.r1, hX.q.1.1, ?_⟩⟩
  obtain ⟨b, hb, rfl⟩ := jist_of cw
  have er : (36 + 6 * v 3) + nI b = nI (36 + (a * 6 + b)) := by rw [e3]; exact nI_road a b
  obtain ⟨k, hk, ek⟩ := hP.2.2.rd (a * 6 + b) (by omega)
  rw [e3]
  refine c_X4_direct hX.q ha hb ⟨fun h0 => ?_, fun h0 => ⟨hX.kl, c_X1_passDays hl (fun S1 c1 l1 => ?_)⟩⟩
  · obtain ⟨r1, r2⟩ := hP.2.1.at _ er (by omega)
    refine U_X11_go (by first | exact hM.k | exact hM1.k | exact hP.2.1.k | exact h.2.2.1.1 | exact h.1.1 | exact g1.1.1 | exact g3.1.1 | exact gm.1.1 | exact h2.1.1 | exact hM2.k | (rw [c1.1.1]; exact hP.2.1.k)) ⟨fun c' => absurd c' cw, fun _ => ⟨hP.2.1.k, _, hP.2.1.r, hP.2.1.k1, i3.1, fun c' => absurd (c'.trans i3.2) cat, fun _ => ?_⟩⟩
    rw [i3.2]
    refine ⟨r1, fun _ => hP.same, fun c' => absurd (r2.trans h0) c'⟩
  · obtain ⟨h1, g1⟩ := PI.day (u := v) (n := v (36 + (a * 6 + b))) (b := k) hX hP.2.2 (fun _ _ => rfl) ek (by omega) c1 l1
    refine ⟨h1.kl, ?_⟩
    have c1b : jch S (jput S1 (x + 16) 0 (nI b)) (x + 16) (x + 19) := c1.trans (jch.put (by omega) (by omega))
    have h3 : XR (jput S1 (x + 16) 0 (nI b)) x sz (upd (vday (v (36 + (a * 6 + b))) v) 3 (nI b)) := by
      refine h1.lear (jch.put (by omega) (by omega)) ?_ (fun j p1 p2 => upd_ne _ (by omega))
      rw [upd_at, upd_ne _ (j := 4) (by omega), upd_ne _ (j := 5) (by omega), upd_ne _ (j := 6) (by omega), upd_ne _ (j := 2) (by omega)]
      exact h1.l.put0.cong (fun i hi => (upd_ne _ (by omega)).symm) (fun i hi => (upd_ne _ (by omega)).symm)
    rw [h1.l.2.2.2.2.2.1]
    have hM := hP.2.1.keep c1b (by omega)
    have j3 := hM.at (i := 3) 3 rfl (by omega)
    obtain ⟨r1, r2⟩ := hM.at _ er (by omega)
    refine U_X11_go (by first | exact hM.k | exact hM1.k | exact hP.2.1.k | exact h.2.2.1.1 | exact h.1.1 | exact g1.1.1 | exact g3.1.1 | exact gm.1.1 | exact h2.1.1 | exact hM2.k | (rw [c1.1.1]; exact hP.2.1.k)) ⟨fun c' => absurd c' cw, fun _ => ⟨hM.k, _, hM.r, hM.k1, j3.1, fun c' => absurd (c'.trans j3.2) cat, fun _ => ?_⟩⟩
    rw [j3.2]
    refine ⟨r1, fun c' => absurd (r2.symm.trans c') h0, fun _ => ?_⟩
    rw [r2]
    refine c_X11_goesBy hM hP.2.2 (fun S2 c2 h2 => ?_)
    refine ⟨h2.k, _, h2.r, h2.k1, (h2.at (i := 3) 3 rfl (by omega)).1, (h2.at (i := 2) 2 rfl (by omega)).1, ?_⟩
    have h4 := h2.puts (i := 3) (w := nI b) 3 rfl (by omega)
    rw [(h4.at (i := 2) 2 rfl (by omega)).2, upd_ne _ (by omega)]
    have c3 : jch (jput S1 (x + 16) 0 (nI b)) (jput S2 (x + 94 + 1) (Int32.toNatClampNeg 3) (nI b)) (x + 95) (x + 96) := c2.trans (jch.put (by omega) (by omega))
    exact ⟨rfl, (jfr.realm c1b (by omega) (by omega)).trans (jfr.row c3), tkOf hP.2.1 h4 (fun j hj => by rw [upd_ne _ (by omega)]; unfold vday vrow; rw [if_neg (by omega), if_neg (by omega), if_neg (by omega)]), sz, _, h3.of c3.1 (h3.2.2.keep c3 (by omega)), h4, g1.put (fun _ => ⟨b, hb, rfl⟩)⟩
end jLight3
end
section
/-! WANTS, ROAD, MASTER on both sides -/
theorem nI_mst (i f : Nat) : (72 + 7 * nI i) + nI f = nI (72 + 7 * i + f) := by
  rw [show (72 : Int32) = nI 72 from rfl, show (7 : Int32) = nI 7 from rfl, pk_mul, nI_add, nI_add]
section jLight4
variable {E : jEnv} {d : Nat} {S : jM} {x m sz : Nat} {v : Nat → Int32}
theorem P_wants {w : Int32} (hP : PI S x sz v) : jFi E mX10_wants (d + 2) 0 0 [.ref x, .int w] S (fun r S1 => jFm E mX11_wants (d + 1) (x + 94) [.int w] S1 (fun r' S2 => PO S x r r' S2)) := by
  have hX := hP.1
  have hM := hP.2.1
  obtain ⟨a0, a1, a2, a3, a4, a5, a6, a7, a8⟩ := hX.2.2
  obtain ⟨n, hn, e7⟩ := hP.2.2.wi
  have m7 := hM.at (i := 7) 7 rfl (by omega)
  refine T_X10_wants ⟨fun c => U_X11_wants (by first | exact hM.k | exact hM1.k | exact hP.2.1.k | exact h.2.2.1.1 | exact h.1.1 | exact g1.1.1 | exact g3.1.1 | exact gm.1.1 | exact h2.1.1 | exact hM2.k | (rw [c1.1.1]; exact hP.2.1.k)) ⟨fun _ => hP.same, fun c' => absurd c c'⟩, fun cw => ⟨hX.1, x + 1, hX.2.1, hX.k3, T_X3_addWish ⟨hX.k3, ?_⟩⟩⟩
  rw [a6, e7]
  by_cases h6 : n = 6
  · subst h6
    refine ⟨fun _ => ⟨fun _ => ?_, fun c => absurd rfl c⟩, fun c => absurd (by decide) c⟩
    refine U_X11_wants (by first | exact hM.k | exact hM1.k | exact hP.2.1.k | exact h.2.2.1.1 | exact h.1.1 | exact g1.1.1 | exact g3.1.1 | exact gm.1.1 | exact h2.1.1 | exact hM2.k | (rw [c1.1.1]; exact hP.2.1.k)) ⟨fun c => absurd c cw, fun _ => ⟨hM.k, _, hM.r, hM.k1, m7.1, fun _ => hP.same, fun c => absurd (m7.2.trans e7) c⟩⟩
  · have hn6 : n < 6 := by omega
    have hw1 : jwi (nI n) 6 = 1 := jwi_at (n := 6) hn6 (by omega)
    refine ⟨fun c => absurd (hw1.symm.trans c) (by decide), fun _ => ⟨x + 19, a0.2.2.2.2.1, a0.2.2.2.2.2.2.1, by rw [a0.2.2.2.2.2.2.2.1]; exact jin_nI hn6 (by omega), ⟨fun c => absurd c (by decide), fun _ => ?_⟩⟩⟩
    obtain ⟨g, hg, rfl⟩ := jisg_of cw
    rw [jcl (by omega)]
    have s1 : jsame S (jput (jput S (x + 19) n (nI g)) (x + 1) 4 (nI n + 1)) := ⟨rfl, rfl, rfl, rfl⟩
    have o1 : ∀ y, y ≠ x + 1 → y ≠ x + 19 → ji (jput (jput S (x + 19) n (nI g)) (x + 1) 4 (nI n + 1)) y = ji S y := fun y h1 h2 => by rw [ji_put_ne _ _ _ _ h1, ji_put_ne _ _ _ _ h2]
    have c1 : jch S (jput (jput S (x + 19) n (nI g)) (x + 1) 4 (nI n + 1)) (x + 1) (x + 20) := ⟨s1, fun y hy => o1 y (by omega) (by omega)⟩
    have e4 : ji (jput (jput S (x + 19) n (nI g)) (x + 1) 4 (nI n + 1)) (x + 1) 4 = nI n + 1 := by rw [ji_put, if_pos ⟨rfl, rfl⟩]
    have hr : RmR (jput (jput S (x + 19) n (nI g)) (x + 1) 4 (nI n + 1)) (x + 1) sz (upd (upd v (9 + n) (nI g)) 7 (nI n + 1)) := by
      refine hX.2.2.wish s1 o1 ?_ ?_ (fun i hi => ?_) (fun j h1 h2 => ?_)
      · rw [ji_put, if_neg (by omega), ji_put, if_neg (by omega)]
      · rw [e4, upd_at]
      · rw [ji_put, if_neg (by omega), upd_ne _ (by omega), ji_put]
        unfold upd
        by_cases hi2 : i = n
        · rw [if_pos ⟨rfl, hi2⟩, if_pos (by omega)]
        · rw [if_neg (fun c => hi2 c.2), if_neg (by omega)]; exact a7 i hi
      · rw [upd_ne _ h1, upd_ne _ (by omega)]
    have hX1 := hX.of s1 hr
    have hM1 := hM.keep c1 (by omega)
    have n7 := hM1.at (i := 7) 7 rfl (by omega)
    refine ⟨s1.1 ▸ hX.1, x + 1, hX1.2.1, hX1.k3, ?_⟩
    rw [e4]
    refine U_X11_wants (by first | exact hM.k | exact hM1.k | exact hP.2.1.k | exact h.2.2.1.1 | exact h.1.1 | exact g1.1.1 | exact g3.1.1 | exact gm.1.1 | exact h2.1.1 | exact hM2.k | (rw [c1.1.1]; exact hP.2.1.k)) ⟨fun c => absurd c cw, fun _ => ⟨hM1.k, _, hM1.r, hM1.k1, n7.1, fun c => ?_, fun _ => ?_⟩⟩
    · rw [n7.2, e7] at c
      exact absurd (nI_inj (by omega) (by omega) (show nI n = nI 6 from c)) h6
    · rw [n7.2, e7]
      have e9 : (9 : Int32) + nI n = nI (9 + n) := nI_add 9 n
      have h1 := hM1.puts (w := nI g) (9 + n) e9 (by omega)
      have k7 := h1.at (i := 7) 7 rfl (by omega)
      refine ⟨(hM1.at _ e9 (by omega)).1, ?_⟩
      rw [k7.2, upd_ne _ (by omega), e7]
      have h2 := h1.puts (i := 7) (w := nI n + 1) 7 rfl (by omega)
      have c3 : jch (jput (jput S (x + 19) n (nI g)) (x + 1) 4 (nI n + 1)) (jput (jput (jput (jput S (x + 19) n (nI g)) (x + 1) 4 (nI n + 1)) (x + 94 + 1) (Int32.toNatClampNeg (9 + nI n)) (nI g)) (x + 94 + 1) (Int32.toNatClampNeg 7) (nI n + 1)) (x + 95) (x + 96) := (jch.put (by omega) (by omega)).trans (jch.put (by omega) (by omega))
      refine ⟨rfl, (jfr.realm c1 (by omega) (by omega)).trans (jfr.row c3), tkOf hP.2.1 h2 (fun j hj => by rw [upd_ne _ (by omega), upd_ne _ (by omega)]), sz, _, hX1.of c3.1 (hr.keep c3 (by omega)), h2, (hP.2.2.put (fun _ => ⟨g, by rw [rgb_wish n hn6]; exact hg, rfl⟩)).put (fun _ => ⟨n + 1, ?_, nI_1 n⟩)⟩
      show n + 1 < 7
      omega
theorem P_road {w u t : Int32} (hP : PI S x sz v) : jFi E mX10_road (d + 3) 0 0 [.ref x, .int w, .int u, .int t] S (fun r S1 => jFm E mX11_road (d + 1) (x + 94) [.int w, .int u, .int t] S1 (fun r' S2 => PO S x r r' S2)) := by
  have hX := hP.1
  have et : jisin t.toInt64 0 9 = jwi t 10 := jisin_wi t 10 9 rfl (jle_lt (by decide))
  refine T_X10_road ⟨fun c => U_X11_road (by first | exact hM.k | exact hM1.k | exact hP.2.1.k | exact h.2.2.1.1 | exact h.1.1 | exact g1.1.1 | exact g3.1.1 | exact gm.1.1 | exact h2.1.1 | exact hM2.k | (rw [c1.1.1]; exact hP.2.1.k)) ⟨fun _ => hP.same, fun c' => absurd c c'⟩, fun cw => ⟨fun c => U_X11_road (by first | exact hM.k | exact hM1.k | exact hP.2.1.k | exact h.2.2.1.1 | exact h.1.1 | exact g1.1.1 | exact g3.1.1 | exact gm.1.1 | exact h2.1.1 | exact hM2.k | (rw [c1.1.1]; exact hP.2.1.k)) ⟨fun c' => absurd c' cw, fun _ => ⟨fun _ => hP.same, fun c' => absurd c c'⟩⟩, fun cu => ⟨fun c => U_X11_road (by first | exact hM.k | exact hM1.k | exact hP.2.1.k | exact h.2.2.1.1 | exact h.1.1 | exact g1.1.1 | exact g3.1.1 | exact gm.1.1 | exact h2.1.1 | exact hM2.k | (rw [c1.1.1]; exact hP.2.1.k)) ⟨fun c' => absurd c' cw, fun _ => ⟨fun c' => absurd c' cu, fun _ => ⟨fun _ => hP.same, fun c' => absurd c c'⟩⟩⟩, fun ne => ⟨fun c => U_X11_road (by first | exact hM.k | exact hM1.k | exact hP.2.1.k | exact h.2.2.1.1 | exact h.1.1 | exact g1.1.1 | exact g3.1.1 | exact gm.1.1 | exact h2.1.1 | exact hM2.k | (rw [c1.1.1]; exact hP.2.1.k)) ⟨fun c' => absurd c' cw, fun _ => ⟨fun c' => absurd c' cu, fun _ => ⟨fun c' => absurd c' ne, fun _ => ⟨fun _ => hP.same, fun c' => absurd (et.trans c) c'⟩⟩⟩⟩, fun ct => ⟨hX.1, x + 1, hX.2.1, hX.k3, x + 13, hX.r1, hX.q.1.1, ?_⟩⟩⟩⟩⟩
  obtain ⟨a, ha, rfl⟩ := jist_of cw
  obtain ⟨b, hb, rfl⟩ := jist_of cu
  obtain ⟨k, hk, rfl⟩ := jisg_of ct
  have hab : a ≠ b := fun e => ne (by rw [e])
  refine c_X4_direct hX.q ha hb ⟨hX.1, x + 1, hX.2.1, hX.k3, x + 13, hX.r1, hX.q.1.1, c_X4_build hX.q ha hb (fun S1 c1 q1 => ?_)⟩
  have ed : dbuild (fun i => v (36 + i)) a b (nI k) = fun i => upd (upd v (36 + (b * 6 + a)) (nI k)) (36 + (a * 6 + b)) (nI k) (36 + i) := by
    funext i
    unfold dbuild upd
    by_cases h1 : i = b * 6 + a
    · rw [if_pos h1]
      by_cases h2 : 36 + i = 36 + (a * 6 + b)
      · rw [if_pos h2]
      · rw [if_neg h2, if_pos (by omega)]
    · rw [if_neg h1]
      by_cases h2 : i = a * 6 + b
      · rw [if_pos h2, if_pos (by omega)]
      · rw [if_neg h2, if_neg (by omega), if_neg (by omega)]
  rw [ed] at q1
  have h1 : XR S1 x sz (upd (upd v (36 + (b * 6 + a)) (nI k)) (36 + (a * 6 + b)) (nI k)) := hX.of c1.1 (hX.2.2.roads (c1.wide (by omega) (by omega)) q1 (fun j hj => by rw [upd_ne _ (by omega), upd_ne _ (by omega)]))
  have hM := hP.2.1.keep c1 (by omega)
  have e1 := nI_road b a
  have e2 := nI_road a b
  refine U_X11_road (by first | exact hM.k | exact hM1.k | exact hP.2.1.k | exact h.2.2.1.1 | exact h.1.1 | exact g1.1.1 | exact g3.1.1 | exact gm.1.1 | exact h2.1.1 | exact hM2.k | (rw [c1.1.1]; exact hP.2.1.k)) ⟨fun c' => absurd c' cw, fun _ => ⟨fun c' => absurd c' cu, fun _ => ⟨fun c' => absurd c' ne, fun _ => ⟨fun c' => absurd (et.symm.trans c') ct, fun _ => ⟨hM.k, _, hM.r, hM.k1, (hM.at _ e1 (by omega)).1, ?_⟩⟩⟩⟩⟩
  refine c_X11_becomes (36 + (a * 6 + b)) (hM.puts _ e1 (by omega)) e2 (by omega) (fun S2 c2 h2 => ⟨?_, (jfr.realm c1 (by omega) (by omega)).trans (jfr.row ((jch.put (by omega) (by omega)).trans c2)), tkOf hP.2.1 h2 (fun j hj => by rw [upd_ne _ (by omega), upd_ne _ (by omega)]), sz, _, ?_, h2, (hP.2.2.put (fun _ => ⟨k, by rw [rgb_road _ (by omega)]; exact hk, rfl⟩)).put (fun _ => ⟨k, by rw [rgb_road _ (by omega)]; exact hk, rfl⟩)⟩)
  · rw [upd_ne _ (by omega)]
  · have c3 : jch S1 S2 (x + 95) (x + 96) := (jch.put (by omega) (by omega)).trans c2
    exact h1.of c3.1 (h1.2.2.keep c3 (by omega))
end jLight4
end
section
/-! AS, TURNS, BARS, MASTER on both sides -/
/-- of a KIND, by going up -/
def jisC : Nat → Int32 → Int32 → Int32 → Int32
  | 0, _, _, _ => 0
  | f + 1, w, own, s => if 6 ≤ s then 0 else if jwi own 6 = 0 then 0 else if own = w then 1 else jisC f w (jab own) (s + 1)
theorem jisC_of : ∀ k : Fin 6, ∀ j : Fin 6, jisC 7 (nI j.val) (nI k.val) (nI 0) = jisof (nI k.val) (nI j.val) := by decide +kernel
theorem j_or_lt : ∀ a : Fin 10, ∀ b : Fin 10, (jshl 1 (nI a.val) ||| jshl 1 (nI b.val)).toBitVec.toNat < 1024 := by decide +kernel
section jLight5
variable {E : jEnv} {d : Nat} {S : jM} {x m sz : Nat} {v : Nat → Int32}
theorem l_X2_isOf {Q : Int32 → jM → Prop} {w : Int32} : ∀ (c n : Nat) (own : Int32), n + c = 6 → Q (jisC (c + 1) w own (nI n)) S → L_X2_isOf_7 E d Q w own (nI n) S := by
  intro c
  induction c with
  | zero =>
    intro n own hn h
    obtain rfl : n = 6 := by omega
    have e : jisC (0 + 1) w own (nI 6) = 0 := by unfold jisC; rw [if_pos (by decide)]
    rw [e] at h
    exact T_X2_isOf_7 ⟨fun _ => h, fun c => absurd (by decide) c⟩
  | succ c ih =>
    intro n own hn h
    have h6 : ¬ (6 : Int32) ≤ nI n := nI_ge (b := 6) (by omega) (by omega)
    have e : jisC (c + 1 + 1) w own (nI n) = if 6 ≤ nI n then 0 else if jwi own 6 = 0 then 0 else if own = w then 1 else jisC (c + 1) w (jab own) (nI n + 1) := rfl
    rw [e, if_neg h6] at h
    refine T_X2_isOf_7 ⟨fun c => absurd c h6, fun _ => ⟨fun c1 => by rw [if_pos c1] at h; exact h, fun c1 => ⟨fun c2 => by rw [if_neg c1, if_pos c2] at h; exact h, fun c2 => ?_⟩⟩⟩
    rw [if_neg c1, if_neg c2] at h
    obtain ⟨j, hj, rfl⟩ := jist_of c1
    refine ⟨jin_nI hj (by omega), ?_⟩
    rw [nI_1] at h ⊢
    exact ih (n + 1) _ (by omega) h
theorem c_X2_isOf {Q : Int32 → jM → Prop} {a k j : Nat} (hk : jk S a = 2) (h0 : ji S a 0 = nI k) (hk6 : k < 6) (hj : j < 6) (h : Q (jisof (nI k) (nI j)) S) : jFi E mX2_isOf (d + 1) 0 0 [.ref a, .int (nI j)] S Q := by
  refine T_X2_isOf ⟨hk, ?_⟩
  rw [h0]
  refine l_X2_isOf 6 0 (nI k) (by omega) ?_
  have := jisC_of ⟨k, hk6⟩ ⟨j, hj⟩
  rw [this]
  exact h
theorem c_X11_isMaster {Q : Int32 → jM → Prop} {w : Int32} (hM : MR S m v) (h0 : v 0 = nI sz) (hz : sz ≤ 9) (h1 : ∀ j, j < sz → w = nI j → Q 1 S) (h2 : (∀ j, j < sz → w ≠ nI j) → Q 0 S) : jFi E mX11_isMaster (d + 1) 0 0 [.ref m, .int w] S Q := by
  obtain ⟨a1, a2⟩ := hM.at (i := 0) 0 rfl (by omega)
  refine T_X11_isMaster ⟨hM.k, m + 1, hM.r, hM.k1, a1, jisin01 _ _ _, ?_⟩
  rw [a2, h0]
  cases sz with
  | zero =>
    have e : jisin w.toInt64 0 (Int32.toInt64 (nI 0 - 1)) = 0 := by
      have e0 : (0 : Int64) = (0 : Int32).toInt64 := rfl
      rw [e0, jisin_int]
      by_cases hw : w < 0
      · rw [if_pos hw]
      · rw [if_neg hw, if_pos]
        have e1 : (nI 0 - 1 : Int32) = -1 := rfl
        rw [e1, Int32.lt_iff_toInt_lt]
        rw [Int32.lt_iff_toInt_lt] at hw
        have e2 : (-1 : Int32).toInt = -1 := rfl
        have e3 : (0 : Int32).toInt = 0 := rfl
        omega
    rw [e]
    exact h2 (fun j hj => absurd hj (by omega))
  | succ n =>
    rw [nI_pred]
    rcases jisin_ab w (lo := 0) (hi := (nI n).toInt64) 0 n rfl rfl (by omega) (by omega) with ⟨j, -, hj, e, h⟩ | ⟨hw, h⟩
    · rw [h]; exact h1 j (by omega) e
    · rw [h]; exact h2 (fun j hj => hw j (by omega) (by omega))
theorem c_X11_of {Q : Int32 → jM → Prop} {i f : Nat} (hM : MR S m v) (hi : i < 9) (hf : f < 7) (h : Q (mfv v i f) S) : jFi E mX11_of d 0 0 [.ref m, .int (nI i), .int (nI f)] S Q := by
  obtain ⟨a1, a2⟩ := hM.at _ (nI_mst i f) (by omega)
  refine T_X11_of ⟨hM.k, m + 1, hM.r, hM.k1, a1, ?_⟩
  rw [a2]
  exact h
theorem Rg.ms (h : Rg sz v) {i f : Nat} (hi : i < 9) (hf : f < 7) : ∃ k, k < rgb (72 + 7 * i + f) ∧ mfv v i f = nI k := by
  refine h (72 + 7 * i + f) (by omega) ?_
  rw [rgb_m i f hf]
  split <;> first | decide | (split <;> first | decide | (split <;> first | decide | (split <;> first | decide | (split <;> decide))))
/-- one number of one master is otherwise -/
theorem XR.mput {i f : Nat} {w : Int32} (h : XR S x sz v) (hi : i < 9) (hf : f < 7) : XR (jput S (x + 2 + 2 + i) f w) x sz (upd v (72 + 7 * i + f) w) := by
  have c1 : jch S (jput S (x + 2 + 2 + i) f w) (x + 2) (x + 13) := jch.put (by omega) (by omega)
  refine h.of c1.1 (h.2.2.guild c1 ?_ h.sz9 (by rw [upd_ne _ (by omega)]; exact h.v0) (fun j p0 p8 pj => upd_ne _ (by omega)))
  rw [upd_ne _ (by omega)]
  exact (h.g.putm hi).cong (mset_upd hi hf)
/-- the class puts one number of a master, the reference puts it too -/
theorem PI.mput {i f : Nat} {ix w : Int32} (hP : PI S x sz v) (hi : i < sz) (hf : f < 7) (hix : ix = nI (72 + 7 * i + f)) (hw : ∃ k, k < rgb (72 + 7 * i + f) ∧ w = nI k) : jFi E mX11_becomes d 0 0 [.ref (x + 94), .int ix, .int w] (jput S (x + 2 + 2 + i) f w) (fun r' S2 => PO S x (mfv v i f) r' S2) := by
  have hz := hP.1.sz9
  have c1 : jch S (jput S (x + 2 + 2 + i) f w) (x + 2) (x + 13) := jch.put (by omega) (by omega)
  have h1 := hP.1.mput (w := w) (show i < 9 by omega) hf
  refine c_X11_becomes (72 + 7 * i + f) (hP.2.1.keep c1 (by omega)) hix (by omega) (fun S2 c2 h2 => ⟨rfl, (jfr.realm c1 (by omega) (by omega)).trans (jfr.row c2), tkOf hP.2.1 h2 (fun j hj => upd_ne _ (by have := hP.1.sz9; omega)), sz, _, h1.of c2.1 (h1.2.2.keep c2 (by omega)), h2, hP.2.2.put (fun _ => hw)⟩)
theorem P_turns {w u : Int32} (hP : PI S x sz v) : jFi E mX10_turns (d + 2) 0 0 [.ref x, .int w, .int u] S (fun r S1 => jFm E mX11_turns (d + 2) (x + 94) [.int w, .int u] S1 (fun r' S2 => PO S x r r' S2)) := by
  have hX := hP.1
  have hM := hP.2.1
  have hz := hX.sz9
  have eu : jisin u.toInt64 0 5 = jwi u 6 := jisin_wi u 6 5 rfl (jle_lt (by decide))
  refine T_X10_turns ⟨hX.1, x + 1, hX.2.1, hX.k3, x + 2, hX.r0, hX.g.1.1, c_X0_find hX.g.1 hX.g.2.1 hz (fun n hn e => ⟨fun c => absurd c (by simp), fun b hb => ?_⟩) (fun hno => ⟨fun _ => ?_, fun b hb => absurd hb (by simp)⟩)⟩
  · obtain rfl : x + 2 + 2 + n = b := by simpa using hb
    subst e
    refine ⟨fun c => ?_, fun cu => ⟨hX.g.mk2 (by omega), ?_⟩⟩
    · exact U_X11_turns (by first | exact hM.k | exact hM1.k | exact hP.2.1.k | exact h.2.2.1.1 | exact h.1.1 | exact g1.1.1 | exact g3.1.1 | exact gm.1.1 | exact h2.1.1 | exact hM2.k | (rw [c1.1.1]; exact hP.2.1.k)) ⟨hM.k, c_X11_isMaster hM hX.v0 hz (fun j hj e => ⟨fun c' => absurd c' (by decide), fun _ => ⟨fun _ => hP.same, fun c' => absurd (eu.trans c) c'⟩⟩) (fun h => absurd rfl (h n hn))⟩
    · rw [hX.g.at (by omega) (by omega)]
      have c1 : jch S (jput S (x + 2 + 2 + n) 0 u) (x + 2) (x + 13) := jch.put (by omega) (by omega)
      have hM1 := hM.keep c1 (by omega)
      obtain ⟨k, hk, rfl⟩ := jist_of cu
      refine U_X11_turns (by first | exact hM.k | exact hM1.k | exact hP.2.1.k | exact h.2.2.1.1 | exact h.1.1 | exact g1.1.1 | exact g3.1.1 | exact gm.1.1 | exact h2.1.1 | exact hM2.k | (rw [c1.1.1]; exact hP.2.1.k)) ⟨hM1.k, c_X11_isMaster hM1 hX.v0 hz (fun j hj e => ⟨fun c' => absurd c' (by decide), fun _ => ⟨fun c' => absurd (eu.symm.trans c') cu, fun _ => ⟨hM1.k, ?_⟩⟩⟩) (fun h => absurd rfl (h n hn))⟩
      refine hP.mput (i := n) (f := 0) hn (by omega) ?_ ⟨k, by rw [rgb_m n 0 (by omega), if_pos rfl]; exact hk, rfl⟩
      rw [show (72 : Int32) = nI 72 from rfl, show (7 : Int32) = nI 7 from rfl, pk_mul, nI_add]
      rfl
  · exact U_X11_turns (by first | exact hM.k | exact hM1.k | exact hP.2.1.k | exact h.2.2.1.1 | exact h.1.1 | exact g1.1.1 | exact g3.1.1 | exact gm.1.1 | exact h2.1.1 | exact hM2.k | (rw [c1.1.1]; exact hP.2.1.k)) ⟨hM.k, c_X11_isMaster hM hX.v0 hz (fun j hj e => absurd e (hno j hj)) (fun _ => ⟨fun _ => hP.same, fun c => absurd rfl c⟩)⟩
theorem P_as {w u : Int32} (hP : PI S x sz v) : jFi E mX10_as (d + 2) 0 0 [.ref x, .int w, .int u] S (fun r S1 => jFm E mX11_as (d + 2) (x + 94) [.int w, .int u] S1 (fun r' S2 => PO S x r r' S2)) := by
  have hX := hP.1
  have hM := hP.2.1
  have hz := hX.sz9
  have eu : jisin u.toInt64 0 5 = jwi u 6 := jisin_wi u 6 5 rfl (jle_lt (by decide))
  refine T_X10_as ⟨hX.1, x + 1, hX.2.1, hX.k3, x + 2, hX.r0, hX.g.1.1, c_X0_find hX.g.1 hX.g.2.1 hz (fun n hn e => ⟨fun c => absurd c (by simp), fun b hb => ?_⟩) (fun hno => ⟨fun _ => ?_, fun b hb => absurd hb (by simp)⟩)⟩
  · obtain rfl : x + 2 + 2 + n = b := by simpa using hb
    subst e
    refine ⟨fun c => ?_, fun cu => ⟨hX.g.mk2 (by omega), ?_⟩⟩
    · exact U_X11_as (by first | exact hM.k | exact hM1.k | exact hP.2.1.k | exact h.2.2.1.1 | exact h.1.1 | exact g1.1.1 | exact g3.1.1 | exact gm.1.1 | exact h2.1.1 | exact hM2.k | (rw [c1.1.1]; exact hP.2.1.k)) ⟨hM.k, c_X11_isMaster hM hX.v0 hz (fun j hj e => ⟨fun c' => absurd c' (by decide), fun _ => ⟨fun _ => hP.same, fun c' => absurd (eu.trans c) c'⟩⟩) (fun h => absurd rfl (h n hn))⟩
    · obtain ⟨j, hj, rfl⟩ := jist_of cu
      obtain ⟨k, hk, ek⟩ := hP.2.2.ms (i := n) (f := 0) (by omega) (by omega)
      rw [rgb_m n 0 (by omega), if_pos rfl] at hk
      have ref : ∀ r, (jisof (nI k) (nI j) = 0 → r = kKIND) → (jisof (nI k) (nI j) ≠ 0 → r = mfv v n 4) → jFm E mX11_as (d + 2) (x + 94) [.int (nI n), .int (nI j)] S (fun r' S2 => PO S x r r' S2) := by
        intro r h1 h2
        refine U_X11_as (by first | exact hM.k | exact hM1.k | exact hP.2.1.k | exact h.2.2.1.1 | exact h.1.1 | exact g1.1.1 | exact g3.1.1 | exact gm.1.1 | exact h2.1.1 | exact hM2.k | (rw [c1.1.1]; exact hP.2.1.k)) ⟨hM.k, c_X11_isMaster hM hX.v0 hz (fun _ _ _ => ⟨fun c' => absurd c' (by decide), fun _ => ⟨fun c' => absurd (eu.symm.trans c') cu, fun _ => ⟨hM.k, c_X11_of (f := 0) hM (by omega) (by omega) ?_⟩⟩⟩) (fun h => absurd rfl (h n hn))⟩
        rw [ek]
        refine ⟨fun c => ?_, fun c => ⟨hM.k, c_X11_of (f := 4) hM (by omega) (by omega) ?_⟩⟩
        · rw [h1 c]; exact hP.same
        · rw [h2 c]; exact hP.same
      refine c_X2_isOf (hX.g.mk2 (by omega)) ((hX.g.at (by omega) (by omega)).trans ek) hk hj ⟨fun c => ref _ (fun _ => rfl) (fun c' => absurd c c'), fun c => ⟨hX.g.mk2 (by omega), ?_⟩⟩
      rw [hX.g.at (by omega) (by omega)]
      exact ref _ (fun c' => absurd c' c) (fun _ => rfl)
  · exact U_X11_as (by first | exact hM.k | exact hM1.k | exact hP.2.1.k | exact h.2.2.1.1 | exact h.1.1 | exact g1.1.1 | exact g3.1.1 | exact gm.1.1 | exact h2.1.1 | exact hM2.k | (rw [c1.1.1]; exact hP.2.1.k)) ⟨hM.k, c_X11_isMaster hM hX.v0 hz (fun j hj e => absurd e (hno j hj)) (fun _ => ⟨fun _ => hP.same, fun c => absurd rfl c⟩)⟩
end jLight5
end
section
/-! BARS, SET, MASTER on both sides -/
section jLight6
variable {E : jEnv} {d : Nat} {S : jM} {x m sz : Nat} {v : Nat → Int32}
theorem P_bars {w u t : Int32} (hP : PI S x sz v) : jFi E mX10_bars (d + 2) 0 0 [.ref x, .int w, .int u, .int t] S (fun r S1 => jFm E mX11_bars (d + 2) (x + 94) [.int w, .int u, .int t] S1 (fun r' S2 => PO S x r r' S2)) := by
  have hX := hP.1
  have hM := hP.2.1
  have hz := hX.sz9
  refine T_X10_bars ⟨hX.1, x + 1, hX.2.1, hX.k3, x + 2, hX.r0, hX.g.1.1, c_X0_find hX.g.1 hX.g.2.1 hz (fun n hn e => ⟨fun c => absurd c (by simp), fun b hb => ?_⟩) (fun hno => ⟨fun _ => ?_, fun b hb => absurd hb (by simp)⟩)⟩
  · obtain rfl : x + 2 + 2 + n = b := by simpa using hb
    subst e
    have g2 : ji S (x + 2 + 2 + n) 2 = mfv v n 2 := hX.g.at (by omega) (by omega)
    have g3 : ji S (x + 2 + 2 + n) 3 = mfv v n 3 := hX.g.at (by omega) (by omega)
    refine ⟨fun c => ?_, fun cu => ⟨fun c => ?_, fun ct => ⟨hX.g.mk2 (by omega), ?_⟩⟩⟩
    · exact U_X11_bars (by first | exact hM.k | exact hM1.k | exact hP.2.1.k | exact h.2.2.1.1 | exact h.1.1 | exact g1.1.1 | exact g3.1.1 | exact gm.1.1 | exact h2.1.1 | exact hM2.k | (rw [c1.1.1]; exact hP.2.1.k)) ⟨hM.k, c_X11_isMaster hM hX.v0 hz (fun j hj e => ⟨fun c' => absurd c' (by decide), fun _ => ⟨fun _ => hP.same, fun c' => absurd c c'⟩⟩) (fun h => absurd rfl (h n hn))⟩
    · exact U_X11_bars (by first | exact hM.k | exact hM1.k | exact hP.2.1.k | exact h.2.2.1.1 | exact h.1.1 | exact g1.1.1 | exact g3.1.1 | exact gm.1.1 | exact h2.1.1 | exact hM2.k | (rw [c1.1.1]; exact hP.2.1.k)) ⟨hM.k, c_X11_isMaster hM hX.v0 hz (fun j hj e => ⟨fun c' => absurd c' (by decide), fun _ => ⟨fun c' => absurd c' cu, fun _ => ⟨fun _ => hP.same, fun c' => absurd c c'⟩⟩⟩) (fun h => absurd rfl (h n hn))⟩
    · rw [g2, g3]
      refine ⟨fun c => ?_, fun c2 => ⟨fun c => ?_, fun c3 => ?_⟩⟩
      · exact U_X11_bars (by first | exact hM.k | exact hM1.k | exact hP.2.1.k | exact h.2.2.1.1 | exact h.1.1 | exact g1.1.1 | exact g3.1.1 | exact gm.1.1 | exact h2.1.1 | exact hM2.k | (rw [c1.1.1]; exact hP.2.1.k)) ⟨hM.k, c_X11_isMaster hM hX.v0 hz (fun j hj e => ⟨fun c' => absurd c' (by decide), fun _ => ⟨fun c' => absurd c' cu, fun _ => ⟨fun c' => absurd c' ct, fun _ => ⟨hM.k, c_X11_of (f := 2) hM (by omega) (by omega) ⟨fun _ => hP.same, fun c' => absurd c c'⟩⟩⟩⟩⟩) (fun h => absurd rfl (h n hn))⟩
      · exact U_X11_bars (by first | exact hM.k | exact hM1.k | exact hP.2.1.k | exact h.2.2.1.1 | exact h.1.1 | exact g1.1.1 | exact g3.1.1 | exact gm.1.1 | exact h2.1.1 | exact hM2.k | (rw [c1.1.1]; exact hP.2.1.k)) ⟨hM.k, c_X11_isMaster hM hX.v0 hz (fun j hj e => ⟨fun c' => absurd c' (by decide), fun _ => ⟨fun c' => absurd c' cu, fun _ => ⟨fun c' => absurd c' ct, fun _ => ⟨hM.k, c_X11_of (f := 2) hM (by omega) (by omega) ⟨fun c' => absurd c' c2, fun _ => ⟨hM.k, c_X11_of (f := 2) hM (by omega) (by omega) ⟨fun _ => hP.same, fun c' => absurd c c'⟩⟩⟩⟩⟩⟩⟩) (fun h => absurd rfl (h n hn))⟩
      · obtain ⟨a, ha, rfl⟩ := jisg_of cu
        obtain ⟨b, hb, rfl⟩ := jisg_of ct
        have c1 : jch S (jput S (x + 2 + 2 + n) 3 (jshl 1 (nI a) ||| jshl 1 (nI b))) (x + 2) (x + 13) := jch.put (by omega) (by omega)
        have hM1 := hM.keep c1 (by omega)
        refine U_X11_bars (by first | exact hM.k | exact hM1.k | exact hP.2.1.k | exact h.2.2.1.1 | exact h.1.1 | exact g1.1.1 | exact g3.1.1 | exact gm.1.1 | exact h2.1.1 | exact hM2.k | (rw [c1.1.1]; exact hP.2.1.k)) ⟨hM1.k, c_X11_isMaster hM1 hX.v0 hz (fun j hj e => ⟨fun c' => absurd c' (by decide), fun _ => ⟨fun c' => absurd c' cu, fun _ => ⟨fun c' => absurd c' ct, fun _ => ⟨hM1.k, c_X11_of (f := 2) hM1 (by omega) (by omega) ⟨fun c' => absurd c' c2, fun _ => ⟨hM1.k, c_X11_of (f := 2) hM1 (by omega) (by omega) ⟨fun c' => absurd c' c3, fun _ => ⟨hM1.k, ?_⟩⟩⟩⟩⟩⟩⟩⟩) (fun h => absurd rfl (h n hn))⟩
        refine hP.mput (i := n) (f := 3) hn (by omega) (nI_mst n 3) ⟨_, ?_, nI_bv _⟩
        rw [rgb_m n 3 (by omega)]
        exact j_or_lt ⟨a, ha⟩ ⟨b, hb⟩
  · exact U_X11_bars (by first | exact hM.k | exact hM1.k | exact hP.2.1.k | exact h.2.2.1.1 | exact h.1.1 | exact g1.1.1 | exact g3.1.1 | exact gm.1.1 | exact h2.1.1 | exact hM2.k | (rw [c1.1.1]; exact hP.2.1.k)) ⟨hM.k, c_X11_isMaster hM hX.v0 hz (fun j hj e => absurd e (hno j hj)) (fun _ => ⟨fun _ => hP.same, fun c => absurd rfl c⟩)⟩
theorem P_set {w u t : Int32} (hP : PI S x sz v) : jFi E mX10_set (d + 3) 0 0 [.ref x, .int w, .int u, .int t] S (fun r S1 => jFm E mX11_set (d + 2) (x + 94) [.int w, .int u, .int t] S1 (fun r' S2 => PO S x r r' S2)) := by
  have hX := hP.1
  have hM := hP.2.1
  have hz := hX.sz9
  have e2 : jisin t.toInt64 0 1 = jwi t 2 := jisin_wi t 2 1 rfl (jle_lt (by decide))
  have e99 : jisin t.toInt64 0 99 = jwi t 100 := jisin_wi t 100 99 rfl (jle_lt (by decide))
  refine T_X10_set ⟨hX.1, x + 1, hX.2.1, hX.k3, x + 2, hX.r0, hX.g.1.1, c_X0_find hX.g.1 hX.g.2.1 hz (fun n hn e => ⟨fun c => absurd c (by simp), fun b hb => ?_⟩) (fun hno => ⟨fun _ => ?_, fun b hb => absurd hb (by simp)⟩)⟩
  · obtain rfl : x + 2 + 2 + n = b := by simpa using hb
    subst e
    have k2 : jk S (x + 2 + 2 + n) = 2 := hX.g.mk2 (by omega)
    have i46 : ∀ f : Nat, 4 ≤ f → f ≤ 6 → jisin (nI f).toInt64 4 6 ≠ 0 := by
      intro f h1 h2
      rcases jisin_ab (nI f) (lo := 4) (hi := 6) 4 6 rfl rfl (by omega) (by omega) with ⟨j, _, _, _, h⟩ | ⟨h, _⟩
      · rw [h]; decide
      · exact absurd rfl (h f h1 h2)
    -- fee and age
    have small : ∀ f : Nat, (f = 4 ∨ f = 5) → ∀ r S1, S1 = jput S (x + 2 + 2 + n) f t → r = mfv v n f → ¬ jwi t 100 = 0 → jFm E mX11_set (d + 2) (x + 94) [.int (nI n), .int (nI f), .int t] S1 (fun r' S2 => PO S x r r' S2) := by
      intro f hf r S1 hS hr ht
      subst hS; subst hr
      have c1 : jch S (jput S (x + 2 + 2 + n) f t) (x + 2) (x + 13) := jch.put (by omega) (by omega)
      have hM1 := hM.keep c1 (by omega)
      have hf6 : nI f ≠ 6 := nI_ne (b := 6) (by omega) (by omega) (by omega)
      refine U_X11_set (by first | exact hM.k | exact hM1.k | exact hP.2.1.k | exact h.2.2.1.1 | exact h.1.1 | exact g1.1.1 | exact g3.1.1 | exact gm.1.1 | exact h2.1.1 | exact hM2.k | (rw [c1.1.1]; exact hP.2.1.k)) ⟨hM1.k, c_X11_isMaster hM1 hX.v0 hz (fun j hj e => ⟨fun c' => absurd c' (by decide), fun _ => ⟨fun c' => absurd c' (i46 f (by omega) (by omega)), fun _ => ⟨fun c' => absurd c' hf6, fun _ => ⟨fun c' => absurd (e99.symm.trans c') ht, fun _ => ⟨hM1.k, ?_⟩⟩⟩⟩⟩) (fun h => absurd rfl (h n hn))⟩
      refine hP.mput hn (by omega) (nI_mst n f) ?_
      rcases jwi_cases t (b := 100) 100 rfl (by omega) with ⟨j, hj, e, _⟩ | ⟨_, e⟩
      · refine ⟨j, ?_, e⟩
        rw [rgb_m n f (by omega)]
        rcases hf with rfl | rfl <;> exact hj
      · exact absurd e ht
    have bad : ∀ f : Nat, (f = 4 ∨ f = 5) → jwi t 100 = 0 → jFm E mX11_set (d + 2) (x + 94) [.int (nI n), .int (nI f), .int t] S (fun r' S2 => PO S x kBAD r' S2) := by
      intro f hf ht
      have hf6 : nI f ≠ 6 := nI_ne (b := 6) (by omega) (by omega) (by omega)
      exact U_X11_set (by first | exact hM.k | exact hM1.k | exact hP.2.1.k | exact h.2.2.1.1 | exact h.1.1 | exact g1.1.1 | exact g3.1.1 | exact gm.1.1 | exact h2.1.1 | exact hM2.k | (rw [c1.1.1]; exact hP.2.1.k)) ⟨hM.k, c_X11_isMaster hM hX.v0 hz (fun j hj e => ⟨fun c' => absurd c' (by decide), fun _ => ⟨fun _ => hP.same, fun _ => ⟨fun c' => absurd c' hf6, fun _ => ⟨fun _ => hP.same, fun c' => absurd (e99.trans ht) c'⟩⟩⟩⟩) (fun h => absurd rfl (h n hn))⟩
    have dead : ∀ r q : Int32, r = mfv v n 6 → q = t → ¬ jwi t 2 = 0 → jFm E mX11_set (d + 2) (x + 94) [.int (nI n), .int 6, .int t] (jput S (x + 2 + 2 + n) 6 q) (fun r' S2 => PO S x r r' S2) := by
      intro r q hr hq ht
      subst hr; subst hq
      have c1 : jch S (jput S (x + 2 + 2 + n) 6 q) (x + 2) (x + 13) := jch.put (by omega) (by omega)
      have hM1 := hM.keep c1 (by omega)
      refine U_X11_set (by first | exact hM.k | exact hM1.k | exact hP.2.1.k | exact h.2.2.1.1 | exact h.1.1 | exact g1.1.1 | exact g3.1.1 | exact gm.1.1 | exact h2.1.1 | exact hM2.k | (rw [c1.1.1]; exact hP.2.1.k)) ⟨hM1.k, c_X11_isMaster hM1 hX.v0 hz (fun j hj e => ⟨fun c' => absurd c' (by decide), fun _ => ⟨fun c' => absurd c' (i46 6 (by omega) (by omega)), fun _ => ⟨fun _ => ⟨fun c' => absurd (e2.symm.trans c') ht, fun _ => ⟨hM1.k, ?_⟩⟩, fun c' => absurd rfl c'⟩⟩⟩) (fun h => absurd rfl (h n hn))⟩
      refine hP.mput hn (by omega) (nI_mst n 6) ?_
      rcases jwi_cases q (b := 2) 2 rfl (by omega) with ⟨j, hj, e, _⟩ | ⟨_, e⟩
      · exact ⟨j, by rw [rgb_m n 6 (by omega)]; exact hj, e⟩
      · exact absurd e ht
    refine ⟨fun c => ?_, fun c => ?_, fun c => ?_, fun c4 c5 c6 => ?_⟩
    · subst c
      refine T_X10_setFee ⟨fun ht => bad 4 (Or.inl rfl) ht, fun ht => ⟨k2, small 4 (Or.inl rfl) _ _ rfl (hX.g.at (by omega) (by omega)) ht⟩⟩
    · subst c
      refine T_X10_setAge ⟨fun ht => bad 5 (Or.inr rfl) ht, fun ht => ⟨k2, small 5 (Or.inr rfl) _ _ rfl (hX.g.at (by omega) (by omega)) ht⟩⟩
    · subst c
      have h6 : ji S (x + 2 + 2 + n) 6 = mfv v n 6 := hX.g.at (by omega) (by omega)
      obtain ⟨k, hk, ek⟩ := hP.2.2.ms (i := n) (f := 6) (by omega) (by omega)
      rw [rgb_m n 6 (by omega)] at hk
      have hk : k < 2 := hk
      refine T_X10_setDead ⟨fun ht => ?_, fun ht => ⟨k2, ?_⟩⟩
      · exact U_X11_set (by first | exact hM.k | exact hM1.k | exact hP.2.1.k | exact h.2.2.1.1 | exact h.1.1 | exact g1.1.1 | exact g3.1.1 | exact gm.1.1 | exact h2.1.1 | exact hM2.k | (rw [c1.1.1]; exact hP.2.1.k)) ⟨hM.k, c_X11_isMaster hM hX.v0 hz (fun j hj e => ⟨fun c' => absurd c' (by decide), fun _ => ⟨fun _ => hP.same, fun _ => ⟨fun _ => ⟨fun _ => hP.same, fun c' => absurd (e2.trans ht) c'⟩, fun c' => absurd rfl c'⟩⟩⟩) (fun h => absurd rfl (h n hn))⟩
      · have ht01 : t = 0 ∨ t = 1 := by
          rcases jwi_cases t (b := 2) 2 rfl (by omega) with ⟨j, hj, e, _⟩ | ⟨_, e⟩
          · rcases (show j = 0 ∨ j = 1 by omega) with rfl | rfl
            · exact Or.inl e
            · exact Or.inr e
          · exact absurd e ht
        have hm01 : mfv v n 6 = 0 ∨ mfv v n 6 = 1 := by
          rw [ek]
          rcases (show k = 0 ∨ k = 1 by omega) with rfl | rfl
          · exact Or.inl rfl
          · exact Or.inr rfl
        rw [h6]
        refine ⟨fun c => ⟨fun c1 => dead _ _ c.symm c1.symm ht, fun c1 => dead _ _ c.symm ?_ ht⟩, fun c => ⟨fun c1 => dead _ _ ?_ c1.symm ht, fun c1 => dead _ _ ?_ ?_ ht⟩⟩
        · rcases ht01 with h | h
          · exact h.symm
          · exact absurd h c1
        · rcases hm01 with h | h
          · exact absurd h c
          · exact h.symm
        · rcases hm01 with h | h
          · exact absurd h c
          · exact h.symm
        · rcases ht01 with h | h
          · exact h.symm
          · exact absurd h c1
    · refine U_X11_set (by first | exact hM.k | exact hM1.k | exact hP.2.1.k | exact h.2.2.1.1 | exact h.1.1 | exact g1.1.1 | exact g3.1.1 | exact gm.1.1 | exact h2.1.1 | exact hM2.k | (rw [c1.1.1]; exact hP.2.1.k)) ⟨hM.k, c_X11_isMaster hM hX.v0 hz (fun j hj e => ⟨fun c' => absurd c' (by decide), fun _ => ⟨fun _ => hP.same, fun c' => absurd ?_ c'⟩⟩) (fun h => absurd rfl (h n hn))⟩
      rcases jisin_ab u (lo := 4) (hi := 6) 4 6 rfl rfl (by omega) (by omega) with ⟨f, h1, h2, h, _⟩ | ⟨_, h⟩
      · exfalso
        rcases (show f = 4 ∨ f = 5 ∨ f = 6 by omega) with rfl | rfl | rfl
        · exact c4 h
        · exact c5 h
        · exact c6 h
      · exact h
  · exact U_X11_set (by first | exact hM.k | exact hM1.k | exact hP.2.1.k | exact h.2.2.1.1 | exact h.1.1 | exact g1.1.1 | exact g3.1.1 | exact gm.1.1 | exact h2.1.1 | exact hM2.k | (rw [c1.1.1]; exact hP.2.1.k)) ⟨hM.k, c_X11_isMaster hM hX.v0 hz (fun j hj e => absurd e (hno j hj)) (fun _ => ⟨fun _ => hP.same, fun c => absurd rfl c⟩)⟩
end jLight6
end
section
/-! MASTER on both sides -/
section jLight7
variable {E : jEnv} {d : Nat} {S : jM} {x m sz : Nat} {v : Nat → Int32}
theorem c_X11_comes {Q : jM → Prop} {k t g f : Int32} (hM : MR S m v) (h0 : v 0 = nI sz) (hz : sz < 9) (h : ∀ S', jch S S' (m + 1) (m + 2) → MR S' m (vjoin v sz (mnew k t g f)) → Q S') : jFv E mX11_comes d 0 0 [.ref m, .int k, .int t, .int g, .int f] S Q := by
  have i0 := hM.at (i := 0) 0 rfl (by omega)
  have b0 : (72 + 7 * nI sz : Int32) = nI (72 + 7 * sz) := by
    rw [show (72 : Int32) = nI 72 from rfl, show (7 : Int32) = nI 7 from rfl, pk_mul, nI_add]
  have b1 : (72 + 7 * nI sz + 1 : Int32) = nI (72 + 7 * sz + 1) := nI_mst sz 1
  have b2 : (72 + 7 * nI sz + 2 : Int32) = nI (72 + 7 * sz + 2) := nI_mst sz 2
  have b3 : (72 + 7 * nI sz + 3 : Int32) = nI (72 + 7 * sz + 3) := nI_mst sz 3
  have b4 : (72 + 7 * nI sz + 4 : Int32) = nI (72 + 7 * sz + 4) := nI_mst sz 4
  have b5 : (72 + 7 * nI sz + 5 : Int32) = nI (72 + 7 * sz + 5) := nI_mst sz 5
  have b6 : (72 + 7 * nI sz + 6 : Int32) = nI (72 + 7 * sz + 6) := nI_mst sz 6
  refine T_X11_comes ⟨hM.k, m + 1, hM.r, hM.k1, i0.1, ?_⟩
  rw [i0.2, h0]
  have h1 := hM.puts (w := k) _ b0 (by omega)
  have h2 := h1.puts (w := t) _ b1 (by omega)
  have h3 := h2.puts (w := g) _ b2 (by omega)
  have h4 := h3.puts (w := 0) _ b3 (by omega)
  have h5 := h4.puts (w := f) _ b4 (by omega)
  have h6 := h5.puts (w := 40) _ b5 (by omega)
  have h7 := h6.puts (w := 0) _ b6 (by omega)
  have j0 := (h7.at (i := 0) 0 rfl (by omega)).2
  have h8 := h7.puts (i := 0) (w := nI sz + 1) 0 rfl (by omega)
  refine ⟨(hM.at _ b0 (by omega)).1, (hM.at _ b1 (by omega)).1, (hM.at _ b2 (by omega)).1, (hM.at _ b3 (by omega)).1, (hM.at _ b4 (by omega)).1, (hM.at _ b5 (by omega)).1, (hM.at _ b6 (by omega)).1, ?_⟩
  rw [j0, upd_ne _ (by omega), upd_ne _ (by omega), upd_ne _ (by omega), upd_ne _ (by omega), upd_ne _ (by omega), upd_ne _ (by omega), upd_ne _ (by omega), h0]
  refine h _ ?_ ⟨h8.1, fun j => (h8.2 j).trans ?_⟩
  · exact (((((((jch.put (by omega) (by omega)).trans (jch.put (by omega) (by omega))).trans (jch.put (by omega) (by omega))).trans (jch.put (by omega) (by omega))).trans (jch.put (by omega) (by omega))).trans (jch.put (by omega) (by omega))).trans (jch.put (by omega) (by omega))).trans (jch.put (by omega) (by omega))
  · unfold vjoin
    by_cases p0 : j = 0
    · subst p0; rw [upd_at, if_pos rfl, nI_1]
    · rw [upd_ne _ p0, if_neg p0]
      by_cases pr : 72 + 7 * sz ≤ j ∧ j < 72 + 7 * sz + 7
      · rw [if_pos pr]
        rcases (show j = 72 + 7 * sz ∨ j = 72 + 7 * sz + 1 ∨ j = 72 + 7 * sz + 2 ∨ j = 72 + 7 * sz + 3 ∨ j = 72 + 7 * sz + 4 ∨ j = 72 + 7 * sz + 5 ∨ j = 72 + 7 * sz + 6 by omega) with e | e | e | e | e | e | e
        · rw [show j - (72 + 7 * sz) = 0 by omega, upd_ne _ (by omega), upd_ne _ (by omega), upd_ne _ (by omega), upd_ne _ (by omega), upd_ne _ (by omega), upd_ne _ (by omega), e, upd_at]; rfl
        · rw [show j - (72 + 7 * sz) = 1 by omega, upd_ne _ (by omega), upd_ne _ (by omega), upd_ne _ (by omega), upd_ne _ (by omega), upd_ne _ (by omega), e, upd_at]; rfl
        · rw [show j - (72 + 7 * sz) = 2 by omega, upd_ne _ (by omega), upd_ne _ (by omega), upd_ne _ (by omega), upd_ne _ (by omega), e, upd_at]; rfl
        · rw [show j - (72 + 7 * sz) = 3 by omega, upd_ne _ (by omega), upd_ne _ (by omega), upd_ne _ (by omega), e, upd_at]; rfl
        · rw [show j - (72 + 7 * sz) = 4 by omega, upd_ne _ (by omega), upd_ne _ (by omega), e, upd_at]; rfl
        · rw [show j - (72 + 7 * sz) = 5 by omega, upd_ne _ (by omega), e, upd_at]; rfl
        · rw [show j - (72 + 7 * sz) = 6 by omega, e, upd_at]; rfl
      · rw [if_neg pr, upd_ne _ (by omega), upd_ne _ (by omega), upd_ne _ (by omega), upd_ne _ (by omega), upd_ne _ (by omega), upd_ne _ (by omega), upd_ne _ (by omega)]
theorem vjoin_0 {w : Nat → Int32} : vjoin v sz w 0 = nI (sz + 1) := by unfold vjoin; rw [if_pos rfl]
/-- ranges when a master comes -/
theorem Rg.join {k t g f : Nat} (h : Rg sz v) (hk : k < 6) (ht : t < 6) (hg : g < 10) (hf : f < 100) : Rg (sz + 1) (vjoin v sz (mnew (nI k) (nI t) (nI g) (nI f))) := by
  intro j hj hb
  unfold vjoin
  by_cases p0 : j = 0
  · subst p0; exact absurd rfl hb
  · rw [if_neg p0]
    by_cases pr : 72 + 7 * sz ≤ j ∧ j < 72 + 7 * sz + 7
    · rw [if_pos pr]
      obtain ⟨i, hi, rfl⟩ : ∃ i, i < 7 ∧ j = 72 + 7 * sz + i := ⟨j - (72 + 7 * sz), by omega, by omega⟩
      rw [rgb_m sz i hi, show 72 + 7 * sz + i - (72 + 7 * sz) = i by omega]
      rcases (show i = 0 ∨ i = 1 ∨ i = 2 ∨ i = 3 ∨ i = 4 ∨ i = 5 ∨ i = 6 by omega) with rfl | rfl | rfl | rfl | rfl | rfl | rfl
      · exact ⟨k, hk, rfl⟩
      · exact ⟨t, ht, rfl⟩
      · exact ⟨g, hg, rfl⟩
      · exact ⟨0, by decide, rfl⟩
      · exact ⟨f, hf, rfl⟩
      · exact ⟨40, by decide, rfl⟩
      · exact ⟨0, by decide, rfl⟩
    · rw [if_neg pr]
      exact h j (by omega) hb
theorem P_master {k t g f : Int32} (hP : PI S x sz v) : jFi E mX10_master (d + 2) 0 0 [.ref x, .int k, .int t, .int g, .int f] S (fun r S1 => jFm E mX11_master (d + 1) (x + 94) [.int k, .int t, .int g, .int f] S1 (fun r' S2 => PO S x r r' S2)) := by
  have hX := hP.1
  have hM := hP.2.1
  have hz := hX.sz9
  have ek : jisin k.toInt64 0 5 = jwi k 6 := jisin_wi k 6 5 rfl (jle_lt (by decide))
  have ef : jisin f.toInt64 0 99 = jwi f 100 := jisin_wi f 100 99 rfl (jle_lt (by decide))
  have i0 := hM.at (i := 0) 0 rfl (by omega)
  refine C_master hX (fun c => ?_) (fun c1 c2 c3 c4 h9 => ?_) (fun c1 c2 c3 c4 h9 S1 ch1 h1 => ?_)
  · refine U_X11_master (by first | exact hM.k | exact hM1.k | exact hP.2.1.k | exact h.2.2.1.1 | exact h.1.1 | exact g1.1.1 | exact g3.1.1 | exact gm.1.1 | exact h2.1.1 | exact hM2.k | (rw [c1.1.1]; exact hP.2.1.k)) ⟨fun _ => hP.same, fun c1 => ⟨fun _ => hP.same, fun c2 => ⟨fun _ => hP.same, fun c3 => ⟨fun _ => hP.same, fun c4 => ?_⟩⟩⟩⟩
    rcases c with c | c | c | c
    · exact absurd (ek.trans c) c1
    · exact absurd c c2
    · exact absurd c c3
    · exact absurd (ef.trans c) c4
  · refine U_X11_master (by first | exact hM.k | exact hM1.k | exact hP.2.1.k | exact h.2.2.1.1 | exact h.1.1 | exact g1.1.1 | exact g3.1.1 | exact gm.1.1 | exact h2.1.1 | exact hM2.k | (rw [c1.1.1]; exact hP.2.1.k)) ⟨fun c => absurd (ek.symm.trans c) c1, fun _ => ⟨fun c => absurd c c2, fun _ => ⟨fun c => absurd c c3, fun _ => ⟨fun c => absurd (ef.symm.trans c) c4, fun _ => ⟨hM.k, _, hM.r, hM.k1, i0.1, fun _ => hP.same, fun c => absurd (i0.2.trans (hX.v0.trans (by rw [h9]; rfl))) c⟩⟩⟩⟩⟩
  · have hM1 := hM.keep ch1 (by omega)
    have j0 := hM1.at (i := 0) 0 rfl (by omega)
    refine U_X11_master (by first | exact hM.k | exact hM1.k | exact hP.2.1.k | exact h.2.2.1.1 | exact h.1.1 | exact g1.1.1 | exact g3.1.1 | exact gm.1.1 | exact h2.1.1 | exact hM2.k | (rw [c1.1.1]; exact hP.2.1.k)) ⟨fun c => absurd (ek.symm.trans c) c1, fun _ => ⟨fun c => absurd c c2, fun _ => ⟨fun c => absurd c c3, fun _ => ⟨fun c => absurd (ef.symm.trans c) c4, fun _ => ⟨hM1.k, _, hM1.r, hM1.k1, j0.1, fun c => ?_, fun _ => c_X11_comes hM1 hX.v0 h9 (fun S2 ch2 h2 => ?_)⟩⟩⟩⟩⟩
    · rw [j0.2, hX.v0] at c
      exact absurd (nI_inj (by omega) (by omega) (show nI sz = nI 9 from c)) (by omega)
    · have l0 := h2.at (i := 0) 0 rfl (by omega)
      refine ⟨h2.k, _, h2.r, h2.k1, l0.1, ?_⟩
      rw [l0.2, vjoin_0, nI_pred]
      obtain ⟨k', hk, rfl⟩ := jist_of c1
      obtain ⟨t', ht, rfl⟩ := jist_of c2
      obtain ⟨g', hg, rfl⟩ := jisg_of c3
      obtain ⟨f', hf, rfl⟩ : ∃ j, j < 100 ∧ f = nI j := by
        rcases jwi_cases f (b := 100) 100 rfl (by omega) with ⟨j, hj, e, _⟩ | ⟨_, e⟩
        · exact ⟨j, hj, e⟩
        · exact absurd e c4
      exact ⟨rfl, (jfr.realm ch1 (by omega) (by omega)).trans (jfr.row ch2), tkOf hP.2.1 h2 (fun j hj => by unfold vjoin; rw [if_neg (by omega), if_neg (by omega)]), sz + 1, _, h1.of ch2.1 (h1.2.2.keep ch2 (by omega)), h2, hP.2.2.join hk ht hg hf⟩
end jLight7
end
