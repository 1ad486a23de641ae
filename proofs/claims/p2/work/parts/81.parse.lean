/-! TEXT, the plain reading of a tape: bytes b, n of them. A word in hand: (start, end, sort, needs a blank); a reading: (good, the word in hand behind it, the code) -/
abbrev jtk : Type := Nat × Nat × Nat × Nat
abbrev jrs : Type := Bool × jtk × List Nat
def psrt (b : Nat → Nat) (n p : Nat) : Nat := if n ≤ p then 0 else if 97 ≤ b p ∧ b p ≤ 122 then 1 else if 48 ≤ b p ∧ b p ≤ 57 then 2 else 3
def pskp (b : Nat → Nat) : Nat → Nat → Nat
  | 0, p => p
  | c + 1, p => if b p = 32 then pskp b c (p + 1) else p
def prun (b : Nat → Nat) (n s : Nat) : Nat → Nat → Nat
  | 0, p => p
  | c + 1, p => if psrt b n p = s then prun b n s c (p + 1) else p
/-- the next word behind place e, w = 1: what was in hand was letters or digits -/
def ptok (b : Nat → Nat) (n w e : Nat) : jtk :=
  let st := pskp b (n - e) e
  let so := psrt b n st
  (st, (if so = 0 then st else if so = 3 then st + 1 else prun b n so (n - (st + 1)) (st + 1)), so, (if w = 1 ∧ st = e then 1 else 0))
def pnext (b : Nat → Nat) (n : Nat) (t : jtk) : jtk := ptok b n (if t.2.2.1 = 1 ∨ t.2.2.1 = 2 then 1 else 0) t.2.1
def plev (b : Nat → Nat) (t : jtk) : Nat :=
  if t.2.2.1 = 3 then (if b t.1 = 124 then 0 else if b t.1 = 38 then 1 else if b t.1 = 60 then 2 else if b t.1 = 61 then 2 else if b t.1 = 62 then 2 else if b t.1 = 43 then 3 else if b t.1 = 45 then 3 else if b t.1 = 42 then 4 else if b t.1 = 47 then 4 else 9) else 9
def pnum (b : Nat → Nat) : Nat → Nat → Nat → Nat
  | 0, _, a => a
  | c + 1, p, a => pnum b c (p + 1) (10 * a + b p - 48)
/-- the name in hand: its place among a key's names, or 9 -/
def pnam (key c : Nat) : Nat := if key = 0 then (if c = 107 then 0 else if c = 103 then 1 else if c = 97 then 2 else 9) else if key = 1 then (if c = 102 then 0 else if c = 97 then 1 else 9) else (if c = 99 then 0 else if c = 100 then 1 else 9)
/-- the operand in hand as a word of the code, 30000: none -/
def popd (b : Nat → Nat) (key : Nat) (t : jtk) : Nat :=
  if t.2.2.2 = 1 then 30000 else if t.2.2.1 = 2 then (if 4 < t.2.1 - t.1 then 30000 else pnum b (t.2.1 - t.1) t.1 0) else if t.2.2.1 = 1 then (if t.2.1 - t.1 = 1 then (if pnam key (b t.1) = 9 then 30000 else 10000 + pnam key (b t.1)) else 30000) else 30000
/-- parts of a level, each by f, joined by its signs -/
def ploop (b : Nat → Nat) (n lev : Nat) (f : jtk → List Nat → jrs) : Nat → jtk → List Nat → jrs
  | 0, t, L => (true, t, L)
  | c + 1, t, L => if plev b t = lev then
      (if (f (pnext b n t) L).1 = true then ploop b n lev f c (f (pnext b n t) L).2.1 ((f (pnext b n t) L).2.2 ++ [20000 + b t.1]) else (false, (f (pnext b n t) L).2.1, []))
    else (true, t, L)
def pread (b : Nat → Nat) (n key : Nat) : Nat → Nat → Nat → Nat → jtk → List Nat → jrs
  | 0, _, _, _, t, _ => (false, t, [])
  | F + 1, lev, par, bang, t, L =>
    if lev < 5 then
      (if (pread b n key F (lev + 1) par bang t L).1 = true then ploop b n lev (pread b n key F (lev + 1) par bang) (if lev = 2 then 1 else 96) (pread b n key F (lev + 1) par bang t L).2.1 (pread b n key F (lev + 1) par bang t L).2.2 else (false, (pread b n key F (lev + 1) par bang t L).2.1, []))
    else if t.2.2.1 = 1 ∨ t.2.2.1 = 2 then (if popd b key t = 30000 then (false, t, []) else (true, pnext b n t, L ++ [popd b key t]))
    else if t.2.2.1 = 3 ∧ b t.1 = 33 ∧ bang < 8 then
      (if (pread b n key F 5 par (bang + 1) (pnext b n t) L).1 = true then (true, (pread b n key F 5 par (bang + 1) (pnext b n t) L).2.1, (pread b n key F 5 par (bang + 1) (pnext b n t) L).2.2 ++ [20033]) else (false, (pread b n key F 5 par (bang + 1) (pnext b n t) L).2.1, []))
    else if t.2.2.1 = 3 ∧ b t.1 = 40 ∧ par < 8 then
      (if (pread b n key F 0 (par + 1) bang (pnext b n t) L).1 = true ∧ (pread b n key F 0 (par + 1) bang (pnext b n t) L).2.1.2.2.1 = 3 ∧ b (pread b n key F 0 (par + 1) bang (pnext b n t) L).2.1.1 = 41 then (true, pnext b n (pread b n key F 0 (par + 1) bang (pnext b n t) L).2.1, (pread b n key F 0 (par + 1) bang (pnext b n t) L).2.2)
        else (false, (pread b n key F 0 (par + 1) bang (pnext b n t) L).2.1, []))
    else (false, t, [])
/-- fuel enough -/
def pmu (lev par bang : Nat) : Nat := 7 * (8 - par) + (8 - bang) + (6 - lev)
/-! what holds of it -/
theorem pskp_ge (b : Nat → Nat) : ∀ (c p : Nat), p ≤ pskp b c p ∧ pskp b c p ≤ p + c
  | 0, p => ⟨Nat.le_refl _, Nat.le_refl _⟩
  | c + 1, p => by
    show p ≤ (if b p = 32 then pskp b c (p + 1) else p) ∧ (if b p = 32 then pskp b c (p + 1) else p) ≤ p + (c + 1)
    have := pskp_ge b c (p + 1)
    split <;> omega
theorem prun_ge (b : Nat → Nat) (n s : Nat) : ∀ (c p : Nat), p ≤ prun b n s c p ∧ prun b n s c p ≤ p + c
  | 0, p => ⟨Nat.le_refl _, Nat.le_refl _⟩
  | c + 1, p => by
    show p ≤ (if psrt b n p = s then prun b n s c (p + 1) else p) ∧ (if psrt b n p = s then prun b n s c (p + 1) else p) ≤ p + (c + 1)
    have := prun_ge b n s c (p + 1)
    split <;> omega
/-- a word in hand as it may be -/
def TKok (b : Nat → Nat) (n : Nat) (t : jtk) : Prop := t.1 ≤ t.2.1 ∧ t.2.1 ≤ n ∧ t.2.2.1 = psrt b n t.1 ∧ (t.2.2.1 ≠ 0 → t.1 < t.2.1) ∧ (t.2.2.2 = 0 ∨ t.2.2.2 = 1) ∧ (t.2.2.1 = 3 → t.2.1 = t.1 + 1) ∧ (∀ p, t.1 ≤ p → p < t.2.1 → psrt b n p = t.2.2.1)
theorem psrt_0 {b : Nat → Nat} {n p : Nat} : psrt b n p = 0 ↔ n ≤ p := by
  unfold psrt
  constructor
  · intro h
    split at h
    · assumption
    · split at h
      · exact absurd h (by decide)
      · split at h <;> exact absurd h (by decide)
  · intro h; rw [if_pos h]
theorem psrt_le {b : Nat → Nat} {n p : Nat} : psrt b n p ≤ 3 := by
  unfold psrt
  split
  · omega
  · split
    · omega
    · split <;> omega
theorem prun_all (b : Nat → Nat) (n s : Nat) : ∀ (c p q : Nat), p ≤ q → q < prun b n s c p → psrt b n q = s
  | 0, p, q, h1, h2 => by
    have : prun b n s 0 p = p := rfl
    omega
  | c + 1, p, q, h1, h2 => by
    have e : prun b n s (c + 1) p = if psrt b n p = s then prun b n s c (p + 1) else p := rfl
    rw [e] at h2
    by_cases hc : psrt b n p = s
    · rw [if_pos hc] at h2
      by_cases hq : q = p
      · rw [hq]; exact hc
      · exact prun_all b n s c (p + 1) q (by omega) h2
    · rw [if_neg hc] at h2; omega
theorem ptok_ok {b : Nat → Nat} {n w e : Nat} (he : e ≤ n) : TKok b n (ptok b n w e) ∧ e ≤ (ptok b n w e).1 := by
  have h1 := pskp_ge b (n - e) e
  have z := psrt_0 (b := b) (n := n) (p := pskp b (n - e) e)
  have le := psrt_le (b := b) (n := n) (p := pskp b (n - e) e)
  unfold TKok ptok
  show ((pskp b (n - e) e ≤ _) ∧ _) ∧ _
  generalize hst : pskp b (n - e) e = st at h1 z le ⊢
  have r := prun_ge b n (psrt b n st) (n - (st + 1)) (st + 1)
  have ra := prun_all b n (psrt b n st) (n - (st + 1)) (st + 1)
  refine ⟨⟨?_, ?_, rfl, fun h => ?_, ?_, fun h => ?_, fun p p1 p2 => ?_⟩, h1.1⟩
  · show st ≤ if psrt b n st = 0 then st else if psrt b n st = 3 then st + 1 else _
    split
    · omega
    · split <;> omega
  · show (if psrt b n st = 0 then st else if psrt b n st = 3 then st + 1 else prun b n (psrt b n st) (n - (st + 1)) (st + 1)) ≤ n
    by_cases c : psrt b n st = 0
    · rw [if_pos c]; omega
    · have : ¬ n ≤ st := fun q => c (z.mpr q)
      rw [if_neg c]
      split <;> omega
  · show st < if psrt b n st = 0 then st else if psrt b n st = 3 then st + 1 else _
    have h' : ¬ psrt b n st = 0 := h
    rw [if_neg h']
    split <;> omega
  · show (if w = 1 ∧ st = e then 1 else 0) = 0 ∨ (if w = 1 ∧ st = e then 1 else 0) = 1
    split <;> simp
  · show (if psrt b n st = 0 then st else if psrt b n st = 3 then st + 1 else _) = st + 1
    have h' : psrt b n st = 3 := h
    rw [if_neg (by rw [h']; decide), if_pos h']
  · have p1' : st ≤ p := p1
    have p2' : p < if psrt b n st = 0 then st else if psrt b n st = 3 then st + 1 else prun b n (psrt b n st) (n - (st + 1)) (st + 1) := p2
    show psrt b n p = psrt b n st
    by_cases hp : p = st
    · rw [hp]
    · by_cases c : psrt b n st = 0
      · rw [if_pos c] at p2'; omega
      · rw [if_neg c] at p2'
        by_cases c3 : psrt b n st = 3
        · rw [if_pos c3] at p2'; omega
        · rw [if_neg c3] at p2'
          exact ra p (by omega) p2'
theorem pnext_ok {b : Nat → Nat} {n : Nat} {t : jtk} (h : TKok b n t) : TKok b n (pnext b n t) ∧ t.2.1 ≤ (pnext b n t).1 := ptok_ok h.2.1
