/-! TEXT: the reference's tokens -/
def RB (S : jM) (x n : Nat) (b : Nat → Nat) : Prop := ML S (x + 94) ∧ n ≤ 96 ∧ ji S (x + 94) 19 = nI n ∧ ∀ j, j < n → b j < 256 ∧ ji S (x + 109) j = nI (b j)
def ptn (k : jtk) : Nat := if k.2.2.1 = 0 then 0 else if k.2.2.1 = 1 then (if k.2.2.2 = 1 then 4 else 1) else if k.2.2.1 = 2 then (if k.2.2.2 = 1 ∨ 4 < k.2.1 - k.1 then 4 else 2) else 3
def TKM (S : jM) (x : Nat) (b : Nat → Nat) (k : jtk) : Prop := ji S (x + 94) 20 = nI k.1 ∧ ji S (x + 94) 21 = nI k.2.1 ∧ ji S (x + 94) 22 = nI (ptn k) ∧ (k.2.2.1 = 3 → ji S (x + 94) 24 = nI (b k.1)) ∧ (k.2.2.1 = 1 → ji S (x + 94) 24 = if k.2.1 - k.1 = 1 then nI (b k.1) else 0) ∧ (k.2.2.1 = 2 → k.2.1 - k.1 ≤ 4 → ji S (x + 94) 23 = nI (pnum b (k.2.1 - k.1) k.1 0))
/-- what a token changes -/
def rts (S S' : jM) (x : Nat) : Prop := jsame S S' ∧ (∀ y, y ≠ x + 94 → ji S' y = ji S y) ∧ ∀ j, (j < 20 ∨ 25 ≤ j) → ji S' (x + 94) j = ji S (x + 94) j
theorem pnum_snoc (b : Nat → Nat) : ∀ (c p a : Nat), pnum b (c + 1) p a = 10 * pnum b c p a + b (p + c) - 48
  | 0, p, a => rfl
  | c + 1, p, a => by
    show pnum b (c + 1) (p + 1) (10 * a + b p - 48) = 10 * pnum b c (p + 1) (10 * a + b p - 48) + b (p + (c + 1)) - 48
    rw [pnum_snoc b c (p + 1) (10 * a + b p - 48), show p + 1 + c = p + (c + 1) by omega]
theorem psrt_1 {b : Nat → Nat} {n p : Nat} : psrt b n p = 1 ↔ p < n ∧ 97 ≤ b p ∧ b p ≤ 122 := by
  unfold psrt
  by_cases c : n ≤ p
  · rw [if_pos c]; constructor
    · intro h; exact absurd h (by decide)
    · intro h; omega
  · rw [if_neg c]
    by_cases c1 : 97 ≤ b p ∧ b p ≤ 122
    · rw [if_pos c1]; exact ⟨fun _ => ⟨by omega, c1⟩, fun _ => rfl⟩
    · rw [if_neg c1]
      constructor
      · intro h; split at h <;> exact absurd h (by decide)
      · intro h; exact absurd h.2 c1
theorem psrt_22 {b : Nat → Nat} {n p : Nat} : psrt b n p = 2 ↔ p < n ∧ 48 ≤ b p ∧ b p ≤ 57 := by
  unfold psrt
  by_cases c : n ≤ p
  · rw [if_pos c]; constructor
    · intro h; exact absurd h (by decide)
    · intro h; omega
  · rw [if_neg c]
    by_cases c1 : 97 ≤ b p ∧ b p ≤ 122
    · rw [if_pos c1]; constructor
      · intro h; exact absurd h (by decide)
      · intro h; omega
    · rw [if_neg c1]
      by_cases c2 : 48 ≤ b p ∧ b p ≤ 57
      · rw [if_pos c2]; exact ⟨fun _ => ⟨by omega, c2⟩, fun _ => rfl⟩
      · rw [if_neg c2]; constructor
        · intro h; exact absurd h (by decide)
        · intro h; exact absurd h.2 c2
section jRef1
variable {E : jEnv} {d : Nat} {S S' : jM} {x n : Nat} {b : Nat → Nat}
theorem rts.rfl : rts S S x := ⟨jsame.rfl, fun _ _ => _root_.rfl, fun _ _ => _root_.rfl⟩
theorem rts.trans {S1 S2 : jM} (h1 : rts S S1 x) (h2 : rts S1 S2 x) : rts S S2 x := ⟨h1.1.trans h2.1, fun y a => (h2.2.1 y a).trans (h1.2.1 y a), fun j a => (h2.2.2 j a).trans (h1.2.2 j a)⟩
theorem rts.put {j : Nat} {w : Int32} (h1 : 20 ≤ j) (h2 : j < 25) : rts S (jput S (x + 94) j w) x := ⟨⟨_root_.rfl, _root_.rfl, _root_.rfl, _root_.rfl⟩, fun y a => ji_put_ne _ _ _ _ a, fun k hk => by rw [ji_put, if_neg (by omega)]⟩
theorem RB.ts (h : RB S x n b) (g : rts S S' x) : RB S' x n b := by
  obtain ⟨h1, h2, h3, h4⟩ := h
  exact ⟨h1.same g.1, h2, (g.2.2 19 (by omega)).trans h3, fun j hj => ⟨(h4 j hj).1, by rw [g.2.1 _ (by omega)]; exact (h4 j hj).2⟩⟩
theorem RB.inn {p : Nat} (h : RB S x n b) (hp : p < n) : vp_in (nI p) (jl S (x + 109)) := by
  have := h.2.1
  rw [h.1.r18.2.2]; exact jin_nI (by omega) (by omega)
theorem RB.by {p : Nat} (h : RB S x n b) (hp : p < n) : ji S (x + 109) (Int32.toNatClampNeg (nI p)) = nI (b p) := by
  have := h.2.1
  rw [jcl (by omega)]; exact (h.2.2.2 p hp).2
theorem jisin_nat {c lo hi : Nat} (hc : c < 256) (hl : lo < 256) (hh : hi < 256) : jisin (Int32.toInt64 (nI c)) (Int32.toInt64 (nI lo)) (Int32.toInt64 (nI hi)) = if lo ≤ c ∧ c ≤ hi then 1 else 0 := by
  rw [jisin_int]
  by_cases c1 : nI c < nI lo
  · have := (nI_ltI (by omega) (by omega)).mp c1
    rw [if_pos c1, if_neg (by omega)]
  · have q1 : ¬ c < lo := fun z => c1 (nI_lt z (by omega))
    rw [if_neg c1]
    by_cases c2 : nI hi < nI c
    · have := (nI_ltI (by omega) (by omega)).mp c2
      rw [if_pos c2, if_neg (by omega)]
    · have q2 : ¬ hi < c := fun z => c2 (nI_lt z (by omega))
      rw [if_neg c2, if_pos (by omega)]
theorem c_X11_isLetter {Q : Int32 → jM → Prop} {p : Nat} (hT : RB S x n b) (hp : p ≤ 96) (h1 : psrt b n p = 1 → Q 1 S) (h0 : ¬ psrt b n p = 1 → Q 0 S) : jFi E mX11_isLetter (d + 1) 0 0 [.ref (x + 94), .int (nI p)] S Q := by
  have h96 := hT.2.1
  refine T_X11_isLetter ⟨hT.1.1, ?_⟩
  rw [hT.2.2.1]
  refine ⟨fun c => h0 (fun z => ?_), fun c => ?_⟩
  · have := (nI_leI (by omega) (by omega)).mp c
    have := (psrt_1.mp z).1
    omega
  · have hpn : p < n := by
      rcases Nat.lt_or_ge p n with q | q
      · exact q
      · exact absurd (nI_le q (by omega)) c
    have hb := (hT.2.2.2 p hpn).1
    refine ⟨_, hT.1.r18.1, hT.1.r18.2.1, hT.inn hpn, ?_⟩
    rw [hT.by hpn]
    have e : jisin (Int32.toInt64 (nI (b p))) 97 122 = if 97 ≤ b p ∧ b p ≤ 122 then 1 else 0 := jisin_nat hb (lo := 97) (hi := 122) (by omega) (by omega)
    rw [e]
    by_cases c1 : 97 ≤ b p ∧ b p ≤ 122
    · rw [if_pos c1]; exact ⟨fun z => absurd z (by decide), fun _ => h1 (psrt_1.mpr ⟨hpn, c1⟩)⟩
    · rw [if_neg c1]; exact ⟨fun _ => h0 (fun z => c1 (psrt_1.mp z).2), fun z => absurd _root_.rfl z⟩
theorem c_X11_isDigit {Q : Int32 → jM → Prop} {p : Nat} (hT : RB S x n b) (hp : p ≤ 96) (h1 : psrt b n p = 2 → Q 1 S) (h0 : ¬ psrt b n p = 2 → Q 0 S) : jFi E mX11_isDigit (d + 1) 0 0 [.ref (x + 94), .int (nI p)] S Q := by
  have h96 := hT.2.1
  refine T_X11_isDigit ⟨hT.1.1, ?_⟩
  rw [hT.2.2.1]
  refine ⟨fun c => h0 (fun z => ?_), fun c => ?_⟩
  · have := (nI_leI (by omega) (by omega)).mp c
    have := (psrt_22.mp z).1
    omega
  · have hpn : p < n := by
      rcases Nat.lt_or_ge p n with q | q
      · exact q
      · exact absurd (nI_le q (by omega)) c
    have hb := (hT.2.2.2 p hpn).1
    refine ⟨_, hT.1.r18.1, hT.1.r18.2.1, hT.inn hpn, ?_⟩
    rw [hT.by hpn]
    have e : jisin (Int32.toInt64 (nI (b p))) 48 57 = if 48 ≤ b p ∧ b p ≤ 57 then 1 else 0 := jisin_nat hb (lo := 48) (hi := 57) (by omega) (by omega)
    rw [e]
    by_cases c1 : 48 ≤ b p ∧ b p ≤ 57
    · rw [if_pos c1]; exact ⟨fun z => absurd z (by decide), fun _ => h1 (psrt_22.mpr ⟨hpn, c1⟩)⟩
    · rw [if_neg c1]; exact ⟨fun _ => h0 (fun z => c1 (psrt_22.mp z).2), fun z => absurd _root_.rfl z⟩
end jRef1
