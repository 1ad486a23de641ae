section
/-! TEXT: the reference's tokens -/
def RB (S : jM) (x n : Nat) (b : Nat → Nat) : Prop := ML S (x + 94) ∧ n ≤ 96 ∧ ji S (x + 94) 19 = nI n ∧ ∀ j, j < n → b j < 256 ∧ ji S (x + 109) j = nI (b j)
def ptn (k : jtk) : Nat := if k.2.2.1 = 0 then 0 else if k.2.2.1 = 1 then (if k.2.2.2 = 1 then 4 else 1) else if k.2.2.1 = 2 then (if k.2.2.2 = 1 ∨ 4 < k.2.1 - k.1 then 4 else 2) else 3
def TKM (S : jM) (x : Nat) (b : Nat → Nat) (k : jtk) : Prop := ji S (x + 94) 20 = nI k.1 ∧ ji S (x + 94) 21 = nI k.2.1 ∧ ji S (x + 94) 22 = nI (ptn k) ∧ (k.2.2.1 = 3 → ji S (x + 94) 24 = nI (b k.1)) ∧ (k.2.2.1 = 1 → ji S (x + 94) 24 = if k.2.1 - k.1 = 1 then nI (b k.1) else 0) ∧ (k.2.2.1 = 2 → k.2.1 - k.1 ≤ 4 → ji S (x + 94) 23 = nI (pnum b (k.2.1 - k.1) k.1 0))
/-- what a token changes -/
def rts (S S' : jM) (x : Nat) : Prop := jsame S S' ∧ (∀ y, y ≠ x + 94 → ji S' y = ji S y) ∧ ∀ j, (j < 20 ∨ 25 ≤ j) → ji S' (x + 94) j = ji S (x + 94) j
theorem pnum_snoc (b : Nat → Nat) : ∀ (c p a : Nat), pnum b (c + 1) p a = 10 * pnum b c p a + b (p + c) - 48
  | 0, p, a => rfl
  | c + 1, p, a => by
    show pnum b (c + 1) (p + 1) (10 * a + b p - 48) = 10 * pnum b c (p + 1) (10 * a + b p - 48) + b (p + (c + 1)) - 48
    rw [pnum_snoc b c (p + 1) (10 * a + b p - 48), show p + 1 + c = p + (c + 1) by omega]
theorem psrt_1 {b : Nat → Nat} {n p : Nat} : psrt b n p = 1 ↔ p < n ∧ 97 ≤ b p ∧ b p ≤ 122 := by
  unfold psrt
  by_cases c : n ≤ p
  · rw [if_pos c]; constructor
    · intro h; exact absurd h (by decide)
    · intro h; omega
  · rw [if_neg c]
    by_cases c1 : 97 ≤ b p ∧ b p ≤ 122
    · rw [if_pos c1]; exact ⟨fun _ => ⟨by omega, c1⟩, fun _ => rfl⟩
    · rw [if_neg c1]
      constructor
      · intro h; split at h <;> exact absurd h (by decide)
      · intro h; exact absurd h.2 c1
theorem psrt_22 {b : Nat → Nat} {n p : Nat} : psrt b n p = 2 ↔ p < n ∧ 48 ≤ b p ∧ b p ≤ 57 := by
  unfold psrt
  by_cases c : n ≤ p
  · rw [if_pos c]; constructor
    · intro h; exact absurd h (by decide)
    · intro h; omega
  · rw [if_neg c]
    by_cases c1 : 97 ≤ b p ∧ b p ≤ 122
    · rw [if_pos c1]; constructor
      · intro h; exact absurd h (by decide)
      · intro h; omega
    · rw [if_neg c1]
      by_cases c2 : 48 ≤ b p ∧ b p ≤ 57
      · rw [if_pos c2]; exact ⟨fun _ => ⟨by omega, c2⟩, fun _ => rfl⟩
      · rw [if_neg c2]; constructor
        · intro h; exact absurd h (by decide)
        · intro h; exact absurd h.2 c2
section jRef1
variable {E : jEnv} {d : Nat} {S S' : jM} {x n : Nat} {b : Nat → Nat}
theorem rts.rfl : rts S S x := ⟨jsame.rfl, fun _ _ => _root_.rfl, fun _ _ => _root_.rfl⟩
theorem rts.trans {S1 S2 : jM} (h1 : rts S S1 x) (h2 : rts S1 S2 x) : rts S S2 x := ⟨h1.1.trans h2.1, fun y a => (h2.2.1 y a).trans (h1.2.1 y a), fun j a => (h2.2.2 j a).trans (h1.2.2 j a)⟩
theorem rts.put {j : Nat} {w : Int32} (h1 : 20 ≤ j) (h2 : j < 25) : rts S (jput S (x + 94) j w) x := ⟨⟨_root_.rfl, _root_.rfl, _root_.rfl, _root_.rfl⟩, fun y a => ji_put_ne _ _ _ _ a, fun k hk => by rw [ji_put, if_neg (by omega)]⟩
theorem RB.ts (h : RB S x n b) (g : rts S S' x) : RB S' x n b := by
  obtain ⟨h1, h2, h3, h4⟩ := h
  exact ⟨h1.same g.1, h2, (g.2.2 19 (by omega)).trans h3, fun j hj => ⟨(h4 j hj).1, by rw [g.2.1 _ (by omega)]; exact (h4 j hj).2⟩⟩
theorem RB.inn {p : Nat} (h : RB S x n b) (hp : p < n) : vp_in (nI p) (jl S (x + 109)) := by
  have := h.2.1
  rw [h.1.r18.2.2]; exact jin_nI (by omega) (by omega)
theorem RB.by {p : Nat} (h : RB S x n b) (hp : p < n) : ji S (x + 109) (Int32.toNatClampNeg (nI p)) = nI (b p) := by
  have := h.2.1
  rw [jcl (by omega)]; exact (h.2.2.2 p hp).2
theorem jisin_nat {c lo hi : Nat} (hc : c < 256) (hl : lo < 256) (hh : hi < 256) : jisin (Int32.toInt64 (nI c)) (Int32.toInt64 (nI lo)) (Int32.toInt64 (nI hi)) = if lo ≤ c ∧ c ≤ hi then 1 else 0 := by
  rw [jisin_int]
  by_cases c1 : nI c < nI lo
  · have := (nI_ltI (by omega) (by omega)).mp c1
    rw [if_pos c1, if_neg (by omega)]
  · have q1 : ¬ c < lo := fun z => c1 (nI_lt z (by omega))
    rw [if_neg c1]
    by_cases c2 : nI hi < nI c
    · have := (nI_ltI (by omega) (by omega)).mp c2
      rw [if_pos c2, if_neg (by omega)]
    · have q2 : ¬ hi < c := fun z => c2 (nI_lt z (by omega))
      rw [if_neg c2, if_pos (by omega)]
theorem c_X11_isLetter {Q : Int32 → jM → Prop} {p : Nat} (hT : RB S x n b) (hp : p ≤ 96) (h1 : psrt b n p = 1 → Q 1 S) (h0 : ¬ psrt b n p = 1 → Q 0 S) : jFi E mX11_isLetter (d + 1) 0 0 [.ref (x + 94), .int (nI p)] S Q := by
  have h96 := hT.2.1
  refine T_X11_isLetter ⟨hT.1.1, ?_⟩
  rw [hT.2.2.1]
  refine ⟨fun c => h0 (fun z => ?_), fun c => ?_⟩
  · have := (nI_leI (by omega) (by omega)).mp c
    have := (psrt_1.mp z).1
    omega
  · have hpn : p < n := by
      rcases Nat.lt_or_ge p n with q | q
      · exact q
      · exact absurd (nI_le q (by omega)) c
    have hb := (hT.2.2.2 p hpn).1
    refine ⟨_, hT.1.r18.1, hT.1.r18.2.1, hT.inn hpn, ?_⟩
    rw [hT.by hpn]
    have e : jisin (Int32.toInt64 (nI (b p))) 97 122 = if 97 ≤ b p ∧ b p ≤ 122 then 1 else 0 := jisin_nat hb (lo := 97) (hi := 122) (by omega) (by omega)
    rw [e]
    by_cases c1 : 97 ≤ b p ∧ b p ≤ 122
    · rw [if_pos c1]; exact ⟨fun z => absurd z (by decide), fun _ => h1 (psrt_1.mpr ⟨hpn, c1⟩)⟩
    · rw [if_neg c1]; exact ⟨fun _ => h0 (fun z => c1 (psrt_1.mp z).2), fun z => absurd _root_.rfl z⟩
theorem c_X11_isDigit {Q : Int32 → jM → Prop} {p : Nat} (hT : RB S x n b) (hp : p ≤ 96) (h1 : psrt b n p = 2 → Q 1 S) (h0 : ¬ psrt b n p = 2 → Q 0 S) : jFi E mX11_isDigit (d + 1) 0 0 [.ref (x + 94), .int (nI p)] S Q := by
  have h96 := hT.2.1
  refine T_X11_isDigit ⟨hT.1.1, ?_⟩
  rw [hT.2.2.1]
  refine ⟨fun c => h0 (fun z => ?_), fun c => ?_⟩
  · have := (nI_leI (by omega) (by omega)).mp c
    have := (psrt_22.mp z).1
    omega
  · have hpn : p < n := by
      rcases Nat.lt_or_ge p n with q | q
      · exact q
      · exact absurd (nI_le q (by omega)) c
    have hb := (hT.2.2.2 p hpn).1
    refine ⟨_, hT.1.r18.1, hT.1.r18.2.1, hT.inn hpn, ?_⟩
    rw [hT.by hpn]
    have e : jisin (Int32.toInt64 (nI (b p))) 48 57 = if 48 ≤ b p ∧ b p ≤ 57 then 1 else 0 := jisin_nat hb (lo := 48) (hi := 57) (by omega) (by omega)
    rw [e]
    by_cases c1 : 48 ≤ b p ∧ b p ≤ 57
    · rw [if_pos c1]; exact ⟨fun z => absurd z (by decide), fun _ => h1 (psrt_22.mpr ⟨hpn, c1⟩)⟩
    · rw [if_neg c1]; exact ⟨fun _ => h0 (fun z => c1 (psrt_22.mp z).2), fun z => absurd _root_.rfl z⟩
end jRef1
end
section
/-! TEXT: the reference's next token -/
section jRef2
variable {E : jEnv} {d : Nat} {S S' : jM} {x n : Nat} {b : Nat → Nat}
theorem c_X11_token {Q : jM → Prop} {e tk : Nat} (hT : RB S x n b) (h21 : ji S (x + 94) 21 = nI e) (h22 : ji S (x + 94) 22 = nI tk) (he : e ≤ n) (htk : tk ≤ 4) (hq : ∀ S', rts S S' x → TKM S' x b (ptok b n (if 0 < e ∧ (tk = 1 ∨ tk = 2) then 1 else 0) e) → Q S') : jFv E mX11_nextToken (d + 2) 0 0 [.ref (x + 94)] S Q := by
  have h96 := hT.2.1
  generalize hw : (if 0 < e ∧ (tk = 1 ∨ tk = 2) then 1 else 0) = w at hq
  have w01 : w = 0 ∨ w = 1 := by rw [← hw]; split <;> simp
  -- behind the blanks
  have aft : ∀ (st nb : Nat) (S1 : jM), pskp b (n - e) e = st → nb = (if w = 1 ∧ st = e then 1 else 0) → rts S S1 x → ji S1 (x + 94) 21 = nI st → ((ji S1 (x + 94) 21) = (ji S1 (x + 94) 19) → Q (jput (jput S1 (x + 94) 20 (ji S1 (x + 94) 21)) (x + 94) 22 0)) ∧ (¬ (ji S1 (x + 94) 21) = (ji S1 (x + 94) 19) → jFi E mX11_isLetter (d + 1) 0 0 [.ref (x + 94), .int (ji S1 (x + 94) 21)] (jput S1 (x + 94) 20 (ji S1 (x + 94) 21)) (fun r10 S9 => (r10 = 0 → jk S9 (x + 94) = 11 ∧ jFi E mX11_isDigit (d + 1) 0 0 [.ref (x + 94), .int (ji S9 (x + 94) 20)] S9 (fun r14 S13 => (r14 = 0 → jk S13 (x + 94) = 11 ∧ ∃ b17, jr S13 (x + 94) 18 = some b17 ∧ (jk S13 b17 = 12 ∧ vp_in (ji S13 (x + 94) 20) (jl S13 b17) ∧ (Q (jput (jput (jput S13 (x + 94) 22 3) (x + 94) 24 (ji S13 b17 (Int32.toNatClampNeg (ji S13 (x + 94) 20)))) (x + 94) 21 ((ji S13 (x + 94) 21) + 1))))) ∧ (¬ r14 = 0 → jk S13 (x + 94) = 11 ∧ L_X11_nextToken_214 E (d + 1) Q (x + 94) (nI nb) (jput S13 (x + 94) 23 0)))) ∧ (¬ r10 = 0 → L_X11_nextToken_128 E (d + 1) Q (x + 94) (nI nb) S9))) := by
    intro st nb S1 hst hnb g1 f21
    have hge := pskp_ge b (n - e) e
    rw [hst] at hge
    have nb01 : nb = 0 ∨ nb = 1 := by rw [hnb]; split <;> simp
    have et : ptok b n w e = (st, (if psrt b n st = 0 then st else if psrt b n st = 3 then st + 1 else prun b n (psrt b n st) (n - (st + 1)) (st + 1)), psrt b n st, nb) := by
      unfold ptok
      rw [hst, hnb]
    rw [et] at hq
    have T1 := hT.ts g1
    -- letters
    have l128 : ∀ (c q : Nat) (S2 : jM), psrt b n st = 1 → (q + c = n ∨ (n ≤ q ∧ c = 0)) → q ≤ 96 → st ≤ q → rts S S2 x → ji S2 (x + 94) 20 = nI st → ji S2 (x + 94) 21 = nI q → prun b n 1 c q = prun b n 1 (n - (st + 1)) (st + 1) → L_X11_nextToken_128 E (d + 1) Q (x + 94) (nI nb) S2 := by
      intro c
      induction c with
      | zero =>
        intro q S2 e1 hqc hq96 hsq g2 p20 p21 hr
        have hr' : q = prun b n 1 (n - (st + 1)) (st + 1) := hr
        have T2 := hT.ts g2
        have hl : st < n := (psrt_1.mp e1).1
        refine T_X11_nextToken_128 ⟨T2.1.1, ?_⟩
        rw [p21]
        refine c_X11_isLetter T2 hq96 (fun z => ?_) (fun z => ⟨fun _ => ?_, fun z2 => absurd rfl z2⟩)
        · have := (psrt_1.mp z).1
          omega
        · rw [p21, p20, nI_sub hsq]
          have hh : ∀ (y : Nat) (w24 : Int32), y = ptn (st, q, 1, nb) → w24 = (if q - st = 1 then nI (b st) else 0) → Q (jput (jput S2 (x + 94) 22 (nI y)) (x + 94) 24 w24) := by
            intro y w24 ey ew
            refine hq _ (g2.trans ((rts.put (by omega) (by omega)).trans (rts.put (by omega) (by omega)))) ?_
            rw [e1, if_neg (by decide), if_neg (by decide), ← hr']
            refine ⟨by rw [ji_put, if_neg (by omega), ji_put, if_neg (by omega)]; exact p20, by rw [ji_put, if_neg (by omega), ji_put, if_neg (by omega)]; exact p21, by rw [ji_put, if_neg (by omega), ji_put_same, ey], fun z => absurd (show (1 : Nat) = 3 from z) (by decide), fun _ => by rw [ji_put_same]; exact ew, fun z => absurd (show (1 : Nat) = 2 from z) (by decide)⟩
          have nq : ∀ z : Nat, z < 256 → (nI (q - st) = nI z ↔ q - st = z) := fun z hz => ⟨fun h => nI_inj (by omega) (by omega) h, fun h => by rw [h]⟩
          have n1 := nq 1 (by omega)
          refine ⟨fun x0 => ⟨T2.1.1, fun c1 => ⟨_, T2.1.r18.1, T2.1.r18.2.1, T2.inn hl, ?_⟩, fun c1 => ?_⟩, fun x0 => ⟨T2.1.1, fun c1 => ⟨_, T2.1.r18.1, T2.1.r18.2.1, T2.inn hl, ?_⟩, fun c1 => ?_⟩⟩
          · have e0 : nb = 0 := nI_inj (b := 0) (by omega) (by omega) x0
            rw [T2.by hl]
            exact hh 1 _ (by rw [e0]; rfl) (by rw [if_pos (n1.mp c1)])
          · have e0 : nb = 0 := nI_inj (b := 0) (by omega) (by omega) x0
            exact hh 1 _ (by rw [e0]; rfl) (by rw [if_neg (fun z => c1 (n1.mpr z))])
          · have e0 : nb = 1 := by
              rcases nb01 with q0 | q0
              · rw [q0] at x0; exact absurd rfl x0
              · exact q0
            rw [T2.by hl]
            exact hh 4 _ (by rw [e0]; rfl) (by rw [if_pos (n1.mp c1)])
          · have e0 : nb = 1 := by
              rcases nb01 with q0 | q0
              · rw [q0] at x0; exact absurd rfl x0
              · exact q0
            exact hh 4 _ (by rw [e0]; rfl) (by rw [if_neg (fun z => c1 (n1.mpr z))])
      | succ c ih =>
        intro q S2 e1 hqc hq96 hsq g2 p20 p21 hr
        have T2 := hT.ts g2
        have hl : st < n := (psrt_1.mp e1).1
        have er : prun b n 1 (c + 1) q = if psrt b n q = 1 then prun b n 1 c (q + 1) else q := rfl
        rw [er] at hr
        refine T_X11_nextToken_128 ⟨T2.1.1, ?_⟩
        rw [p21]
        refine c_X11_isLetter T2 hq96 (fun z => ⟨fun z2 => absurd z2 (by decide), fun _ => ⟨T2.1.1, ?_⟩⟩) (fun z => ⟨fun _ => ?_, fun z2 => absurd rfl z2⟩)
        · rw [if_pos z] at hr
          rw [p21, nI_1]
          exact ih (q + 1) _ e1 (by omega) (by omega) (by omega) (g2.trans (rts.put (by omega) (by omega))) (by rw [ji_put, if_neg (by omega)]; exact p20) (by rw [ji_put_same]) hr
        · rw [if_neg z] at hr
          rw [p21, p20, nI_sub hsq]
          have hh : ∀ (y : Nat) (w24 : Int32), y = ptn (st, q, 1, nb) → w24 = (if q - st = 1 then nI (b st) else 0) → Q (jput (jput S2 (x + 94) 22 (nI y)) (x + 94) 24 w24) := by
            intro y w24 ey ew
            refine hq _ (g2.trans ((rts.put (by omega) (by omega)).trans (rts.put (by omega) (by omega)))) ?_
            rw [e1, if_neg (by decide), if_neg (by decide), ← hr]
            refine ⟨by rw [ji_put, if_neg (by omega), ji_put, if_neg (by omega)]; exact p20, by rw [ji_put, if_neg (by omega), ji_put, if_neg (by omega)]; exact p21, by rw [ji_put, if_neg (by omega), ji_put_same, ey], fun z => absurd (show (1 : Nat) = 3 from z) (by decide), fun _ => by rw [ji_put_same]; exact ew, fun z => absurd (show (1 : Nat) = 2 from z) (by decide)⟩
          have nq : ∀ z : Nat, z < 256 → (nI (q - st) = nI z ↔ q - st = z) := fun z hz => ⟨fun h => nI_inj (by omega) (by omega) h, fun h => by rw [h]⟩
          have n1 := nq 1 (by omega)
          refine ⟨fun x0 => ⟨T2.1.1, fun c1 => ⟨_, T2.1.r18.1, T2.1.r18.2.1, T2.inn hl, ?_⟩, fun c1 => ?_⟩, fun x0 => ⟨T2.1.1, fun c1 => ⟨_, T2.1.r18.1, T2.1.r18.2.1, T2.inn hl, ?_⟩, fun c1 => ?_⟩⟩
          · have e0 : nb = 0 := nI_inj (b := 0) (by omega) (by omega) x0
            rw [T2.by hl]
            exact hh 1 _ (by rw [e0]; rfl) (by rw [if_pos (n1.mp c1)])
          · have e0 : nb = 0 := nI_inj (b := 0) (by omega) (by omega) x0
            exact hh 1 _ (by rw [e0]; rfl) (by rw [if_neg (fun z => c1 (n1.mpr z))])
          · have e0 : nb = 1 := by
              rcases nb01 with q0 | q0
              · rw [q0] at x0; exact absurd rfl x0
              · exact q0
            rw [T2.by hl]
            exact hh 4 _ (by rw [e0]; rfl) (by rw [if_pos (n1.mp c1)])
          · have e0 : nb = 1 := by
              rcases nb01 with q0 | q0
              · rw [q0] at x0; exact absurd rfl x0
              · exact q0
            exact hh 4 _ (by rw [e0]; rfl) (by rw [if_neg (fun z => c1 (n1.mpr z))])
    -- digits
    have dfin : ∀ (q : Nat) (S2 : jM), psrt b n st = 2 → st ≤ q → q ≤ 96 → rts S S2 x → ji S2 (x + 94) 20 = nI st → ji S2 (x + 94) 21 = nI q → ji S2 (x + 94) 23 = nI (pnum b (if q - st ≤ 4 then q - st else 4) st 0) → q = prun b n 2 (n - (st + 1)) (st + 1) → (nI nb = 0 → jk S2 (x + 94) = 11 ∧ (((ji S2 (x + 94) 21) - (ji S2 (x + 94) 20)) ≤ 4 → Q (jput S2 (x + 94) 22 2)) ∧ (¬ ((ji S2 (x + 94) 21) - (ji S2 (x + 94) 20)) ≤ 4 → Q (jput S2 (x + 94) 22 4))) ∧ (¬ nI nb = 0 → jk S2 (x + 94) = 11 ∧ Q (jput S2 (x + 94) 22 4)) := by
      intro q S2 e2 hsq hq96 g2 p20 p21 p23 hr
      have T2 := hT.ts g2
      have hh : ∀ y : Nat, y = ptn (st, q, 2, nb) → Q (jput S2 (x + 94) 22 (nI y)) := by
        intro y ey
        refine hq _ (g2.trans (rts.put (by omega) (by omega))) ?_
        rw [e2, if_neg (by decide), if_neg (by decide), ← hr]
        refine ⟨by rw [ji_put, if_neg (by omega)]; exact p20, by rw [ji_put, if_neg (by omega)]; exact p21, by rw [ji_put_same, ey], fun z => absurd (show (2 : Nat) = 3 from z) (by decide), fun z => absurd (show (2 : Nat) = 1 from z) (by decide), fun _ h4 => ?_⟩
        have h4' : q - st ≤ 4 := h4
        rw [ji_put, if_neg (by omega), p23, if_pos h4']
      have pt : ptn (st, q, 2, nb) = if nb = 1 ∨ 4 < q - st then 4 else 2 := rfl
      rw [p21, p20, nI_sub hsq]
      refine ⟨fun x0 => ⟨T2.1.1, fun c4 => hh 2 ?_, fun c4 => hh 4 ?_⟩, fun x0 => ⟨T2.1.1, hh 4 ?_⟩⟩
      · have e0 : nb = 0 := nI_inj (b := 0) (by omega) (by omega) x0
        have := (nI_leI (b := 4) (by omega) (by omega)).mp c4
        rw [pt, if_neg (by omega)]
      · have : ¬ q - st ≤ 4 := fun z => c4 (nI_le (b := 4) z (by omega))
        rw [pt, if_pos (by omega)]
      · have e0 : nb = 1 := by
          rcases nb01 with q0 | q0
          · rw [q0] at x0; exact absurd rfl x0
          · exact q0
        rw [pt, if_pos (Or.inl e0)]
    have l214 : ∀ (c q : Nat) (S2 : jM), psrt b n st = 2 → (q + c = n ∨ (n ≤ q ∧ c = 0)) → q ≤ 96 → st ≤ q → rts S S2 x → ji S2 (x + 94) 20 = nI st → ji S2 (x + 94) 21 = nI q → ji S2 (x + 94) 23 = nI (pnum b (if q - st ≤ 4 then q - st else 4) st 0) → prun b n 2 c q = prun b n 2 (n - (st + 1)) (st + 1) → L_X11_nextToken_214 E (d + 1) Q (x + 94) (nI nb) S2 := by
      intro c
      induction c with
      | zero =>
        intro q S2 e2 hqc hq96 hsq g2 p20 p21 p23 hr
        have T2 := hT.ts g2
        refine T_X11_nextToken_214 ⟨T2.1.1, ?_⟩
        rw [p21]
        refine c_X11_isDigit T2 hq96 (fun z => ?_) (fun z => ⟨fun _ => dfin q S2 e2 hsq hq96 g2 p20 p21 p23 hr, fun z2 => absurd rfl z2⟩)
        have := (psrt_22.mp z).1
        omega
      | succ c ih =>
        intro q S2 e2 hqc hq96 hsq g2 p20 p21 p23 hr
        have T2 := hT.ts g2
        have er : prun b n 2 (c + 1) q = if psrt b n q = 2 then prun b n 2 c (q + 1) else q := rfl
        rw [er] at hr
        refine T_X11_nextToken_214 ⟨T2.1.1, ?_⟩
        rw [p21]
        refine c_X11_isDigit T2 hq96 (fun z => ⟨fun z2 => absurd z2 (by decide), fun _ => ⟨T2.1.1, ?_⟩⟩) (fun z => ⟨fun _ => dfin q S2 e2 hsq hq96 g2 p20 p21 p23 (by rw [if_neg z] at hr; exact hr), fun z2 => absurd rfl z2⟩)
        rw [if_pos z] at hr
        have hz := psrt_22.mp z
        rw [p21, p20, nI_sub hsq, nI_1]
        have go : ∀ w23 : Int32, w23 = nI (pnum b (if q + 1 - st ≤ 4 then q + 1 - st else 4) st 0) → L_X11_nextToken_214 E (d + 1) Q (x + 94) (nI nb) (jput (jput S2 (x + 94) 23 w23) (x + 94) 21 (nI (q + 1))) := fun w23 ew =>
          ih (q + 1) _ e2 (by omega) (by omega) (by omega) (g2.trans ((rts.put (by omega) (by omega)).trans (rts.put (by omega) (by omega)))) (by rw [ji_put, if_neg (by omega), ji_put, if_neg (by omega)]; exact p20) (by rw [ji_put_same]) (by rw [ji_put, if_neg (by omega), ji_put_same, ew]) hr
        refine ⟨fun c4 => go _ ?_, fun c4 => ⟨_, T2.1.r18.1, T2.1.r18.2.1, T2.inn hz.1, go _ ?_⟩⟩
        · have h4 := (nI_leI (a := 4) (by omega) (by omega)).mp c4
          rw [p23, if_neg (c := q + 1 - st ≤ 4) (by omega)]
          by_cases e4 : q - st ≤ 4
          · rw [if_pos e4, show q - st = 4 by omega]
          · rw [if_neg e4]
        · have h4 : ¬ 4 ≤ q - st := fun z => c4 (nI_le (a := 4) z (by omega))
          rw [p23, if_pos (c := q - st ≤ 4) (by omega), if_pos (c := q + 1 - st ≤ 4) (by omega), T2.by hz.1, show q + 1 - st = (q - st) + 1 by omega, pnum_snoc, show st + (q - st) = q by omega, show (10 : Int32) = nI 10 from rfl, nI_mul, nI_add, show (48 : Int32) = nI 48 from rfl, nI_sub (by omega)]
    rw [T1.2.2.1, f21]
    refine ⟨fun c0 => ?_, fun c0 => ?_⟩
    · have e0 : st = n := nI_inj (by omega) (by omega) c0
      have z0 : psrt b n st = 0 := psrt_0.mpr (by omega)
      refine hq _ (g1.trans ((rts.put (by omega) (by omega)).trans (rts.put (by omega) (by omega)))) ?_
      rw [z0, if_pos rfl]
      exact ⟨by rw [ji_put, if_neg (by omega), ji_put_same], by rw [ji_put, if_neg (by omega), ji_put, if_neg (by omega)]; exact f21, by rw [ji_put_same]; rfl, fun z => absurd (show (0 : Nat) = 3 from z) (by decide), fun z => absurd (show (0 : Nat) = 1 from z) (by decide), fun z => absurd (show (0 : Nat) = 2 from z) (by decide)⟩
    · have hl : st < n := by
        have : st ≠ n := fun z => c0 (by rw [z])
        omega
      have ns : ¬ psrt b n st = 0 := fun z => by have := psrt_0.mp z; omega
      have le3 := psrt_le (b := b) (n := n) (p := st)
      have g2 : rts S (jput S1 (x + 94) 20 (nI st)) x := g1.trans (rts.put (by omega) (by omega))
      have T2 := hT.ts g2
      have p20 : ji (jput S1 (x + 94) 20 (nI st)) (x + 94) 20 = nI st := ji_put_same _ _ _ _
      have p21 : ji (jput S1 (x + 94) 20 (nI st)) (x + 94) 21 = nI st := by rw [ji_put, if_neg (by omega)]; exact f21
      have one : ∀ s, psrt b n st = s → prun b n s (n - st) st = prun b n s (n - (st + 1)) (st + 1) := fun s hs => by
        rw [show n - st = (n - (st + 1)) + 1 by omega]
        show (if psrt b n st = s then _ else _) = _
        rw [if_pos hs]
      refine c_X11_isLetter T2 (by omega) (fun e1 => ⟨fun z => absurd z (by decide), fun _ => l128 (n - st) st _ e1 (by omega) (by omega) (Nat.le_refl _) g2 p20 p21 (one 1 e1)⟩) (fun n1 => ⟨fun _ => ⟨T2.1.1, ?_⟩, fun z => absurd rfl z⟩)
      rw [p20]
      refine c_X11_isDigit T2 (by omega) (fun e2 => ⟨fun z => absurd z (by decide), fun _ => ⟨T2.1.1, ?_⟩⟩) (fun n2 => ⟨fun _ => ⟨T2.1.1, _, T2.1.r18.1, T2.1.r18.2.1, ?_, ?_⟩, fun z => absurd rfl z⟩)
      · refine l214 (n - st) st _ e2 (by omega) (by omega) (Nat.le_refl _) (g2.trans (rts.put (by omega) (by omega))) (by rw [ji_put, if_neg (by omega)]; exact p20) (by rw [ji_put, if_neg (by omega)]; exact p21) ?_ (one 2 e2)
        rw [ji_put_same, Nat.sub_self, if_pos (by omega)]; rfl
      · rw [p20]; exact T2.inn hl
      · have e3 : psrt b n st = 3 := by omega
        rw [p20, p21, nI_1, T2.by hl]
        refine hq _ (g2.trans (((rts.put (by omega) (by omega)).trans (rts.put (by omega) (by omega))).trans (rts.put (by omega) (by omega)))) ?_
        rw [e3, if_neg (by decide), if_pos rfl]
        exact ⟨by rw [ji_put, if_neg (by omega), ji_put, if_neg (by omega), ji_put, if_neg (by omega)]; exact p20, by rw [ji_put_same], by rw [ji_put, if_neg (by omega), ji_put, if_neg (by omega), ji_put_same]; rfl, fun _ => by rw [ji_put, if_neg (by omega), ji_put_same], fun z => absurd (show (3 : Nat) = 1 from z) (by decide), fun z => absurd (show (3 : Nat) = 2 from z) (by decide)⟩
  have l34 : ∀ (c p : Nat) (S1 : jM), p + c = n → e ≤ p → pskp b (n - e) e = pskp b c p → rts S S1 x → ji S1 (x + 94) 21 = nI p → L_X11_nextToken_34 E (d + 1) Q (x + 94) (nI w) (nI e) S1 := by
    intro c
    induction c with
    | zero =>
      intro p S1 hp hep hsk g1 f21
      obtain rfl : p = n := by omega
      have T1 := hT.ts g1
      have a0 := aft p 0 S1 hsk
      have a1 := aft p 1 S1 hsk
      refine T_X11_nextToken_34 ⟨T1.1.1, fun _ => ⟨fun x0 => a0 ?_ g1 f21, fun x0 => ⟨fun xe => a1 ?_ g1 f21, fun xe => a0 ?_ g1 f21⟩⟩, fun cc => absurd (by rw [T1.2.2.1, f21]; exact Int32.le_rfl) cc⟩
      · have : w = 0 := nI_inj (b := 0) (by omega) (by omega) x0
        rw [if_neg (by omega)]
      · have hw1 : w = 1 := by
          rcases w01 with q | q
          · rw [q] at x0; exact absurd rfl x0
          · exact q
        rw [f21] at xe
        have : e = p := nI_inj (by omega) (by omega) xe
        rw [if_pos ⟨hw1, this.symm⟩]
      · rw [f21] at xe
        rw [if_neg (fun z => xe (by rw [z.2]))]
    | succ c ih =>
      intro p S1 hp hep hsk g1 f21
      have T1 := hT.ts g1
      have hpn : p < n := by omega
      have hb := (hT.2.2.2 p hpn).1
      have ek : pskp b (c + 1) p = if b p = 32 then pskp b c (p + 1) else p := rfl
      refine T_X11_nextToken_34 ⟨T1.1.1, fun cc => absurd (by rw [T1.2.2.1, f21] at cc; exact cc) (nI_ge (by omega) (by omega)), fun _ => ⟨_, T1.1.r18.1, T1.1.r18.2.1, by rw [f21]; exact T1.inn hpn, fun c32 => ?_, fun c32 => ?_⟩⟩
      · rw [f21, T1.by hpn] at c32
        have e32 : b p = 32 := nI_inj (b := 32) (by omega) (by omega) c32
        rw [f21, nI_1]
        refine ih (p + 1) _ (by omega) (by omega) ?_ (g1.trans (rts.put (by omega) (by omega))) (by rw [ji_put_same])
        rw [hsk, ek, if_pos e32]
      · rw [f21, T1.by hpn] at c32
        have e32 : ¬ b p = 32 := fun z => c32 (by rw [z]; rfl)
        have hsk' : pskp b (n - e) e = p := by rw [hsk, ek, if_neg e32]
        have a0 := aft p 0 S1 hsk'
        have a1 := aft p 1 S1 hsk'
        refine ⟨fun x0 => a0 ?_ g1 f21, fun x0 => ⟨fun xe => a1 ?_ g1 f21, fun xe => a0 ?_ g1 f21⟩⟩
        · have : w = 0 := nI_inj (b := 0) (by omega) (by omega) x0
          rw [if_neg (by omega)]
        · have hw1 : w = 1 := by
            rcases w01 with q | q
            · rw [q] at x0; exact absurd rfl x0
            · exact q
          rw [f21] at xe
          have : e = p := nI_inj (by omega) (by omega) xe
          rw [if_pos ⟨hw1, this.symm⟩]
        · rw [f21] at xe
          rw [if_neg (fun z => xe (by rw [z.2]))]
  refine T_X11_nextToken ⟨hT.1.1, ?_⟩
  rw [h21, h22]
  have g34 : ∀ y : Nat, y = w → L_X11_nextToken_34 E (d + 1) Q (x + 94) (nI y) (nI e) S := fun y hy => by rw [hy]; exact l34 (n - e) e S (by omega) (Nat.le_refl _) rfl rts.rfl h21
  refine ⟨fun c0 => g34 0 ?_, fun c0 => ⟨fun c1 => g34 1 ?_, fun c1 => ⟨fun c2 => g34 1 ?_, fun c2 => g34 0 ?_⟩⟩⟩
  · have := (nI_leI (b := 0) (by omega) (by omega)).mp c0
    rw [← hw, if_neg (by omega)]
  · have e0 : 0 < e := by
      rcases Nat.eq_zero_or_pos e with q | q
      · rw [q] at c0; exact absurd (by decide) c0
      · exact q
    have : tk = 1 := nI_inj (b := 1) (by omega) (by omega) c1
    rw [← hw, if_pos ⟨e0, Or.inl this⟩]
  · have e0 : 0 < e := by
      rcases Nat.eq_zero_or_pos e with q | q
      · rw [q] at c0; exact absurd (by decide) c0
      · exact q
    have : tk = 2 := nI_inj (b := 2) (by omega) (by omega) c2
    rw [← hw, if_pos ⟨e0, Or.inr this⟩]
  · rw [← hw, if_neg (fun z => ?_)]
    rcases z.2 with q | q
    · exact c1 (by rw [q]; rfl)
    · exact c2 (by rw [q]; rfl)
end jRef2
end
section
/-! TEXT: the reference's signs, keys and steps -/
/-- the reference's code L behind place la of its row -/
def CDM (S : jM) (x la key : Nat) (L : List Nat) : Prop := ji S (x + 94) 27 = nI L.length ∧ ji S (x + 94) 29 = nI (pops L) ∧ ji S (x + 94) 28 = nI la ∧ ∀ i, i < L.length → ji S (x + 95) (la + 2 * i) = nI (whatw (L.getD i 0)) ∧ ji S (x + 95) (la + 2 * i + 1) = nI (valw key (L.getD i 0))
/-- what its reading changes -/
def rtp (S S' : jM) (x la : Nat) : Prop := jsame S S' ∧ (∀ y, y ≠ x + 94 → y ≠ x + 95 → ji S' y = ji S y) ∧ (∀ j, (j < 20 ∨ 30 ≤ j ∨ j = 28) → ji S' (x + 94) j = ji S (x + 94) j) ∧ ∀ j, (j < la ∨ la + 196 ≤ j) → ji S' (x + 95) j = ji S (x + 95) j
theorem ptn_3 {k : jtk} (h : k.2.2.1 ≤ 3) : ptn k = 3 ↔ k.2.2.1 = 3 := by
  unfold ptn
  rcases (show k.2.2.1 = 0 ∨ k.2.2.1 = 1 ∨ k.2.2.1 = 2 ∨ k.2.2.1 = 3 by omega) with e | e | e | e
  · rw [e, if_pos rfl]
  · rw [e, if_neg (by decide), if_pos rfl]
    split <;> decide
  · rw [e, if_neg (by decide), if_neg (by decide), if_pos rfl]
    split <;> decide
  · rw [e, if_neg (by decide), if_neg (by decide), if_neg (by decide)]
theorem ptn_le (k : jtk) : ptn k ≤ 4 := by
  unfold ptn
  repeat' split
  all_goals omega
theorem ptn_0 {k : jtk} (h : k.2.2.1 ≤ 3) : ptn k = 0 ↔ k.2.2.1 = 0 := by
  unfold ptn
  rcases (show k.2.2.1 = 0 ∨ k.2.2.1 = 1 ∨ k.2.2.1 = 2 ∨ k.2.2.1 = 3 by omega) with e | e | e | e
  · rw [e, if_pos rfl]
  · rw [e, if_neg (by decide), if_pos rfl]
    split <;> decide
  · rw [e, if_neg (by decide), if_neg (by decide), if_pos rfl]
    split <;> decide
  · rw [e, if_neg (by decide), if_neg (by decide), if_neg (by decide)]
theorem ptn_12 {k : jtk} (h4 : ¬ ptn k = 4) : (ptn k = 1 ∨ ptn k = 2) ↔ (k.2.2.1 = 1 ∨ k.2.2.1 = 2) := by
  unfold ptn at h4 ⊢
  by_cases c0 : k.2.2.1 = 0
  · rw [if_pos c0]; omega
  · rw [if_neg c0] at h4 ⊢
    by_cases c1 : k.2.2.1 = 1
    · rw [if_pos c1] at h4 ⊢
      by_cases q : k.2.2.2 = 1
      · rw [if_pos q] at h4; exact absurd rfl h4
      · rw [if_neg q]; omega
    · rw [if_neg c1] at h4 ⊢
      by_cases c2 : k.2.2.1 = 2
      · rw [if_pos c2] at h4 ⊢
        by_cases q : k.2.2.2 = 1 ∨ 4 < k.2.1 - k.1
        · rw [if_pos q] at h4; exact absurd rfl h4
        · rw [if_neg q]; omega
      · rw [if_neg c2]; omega
section jRef3
variable {E : jEnv} {d : Nat} {S S' : jM} {x n la key : Nat} {b : Nat → Nat} {k : jtk}
theorem rtp.rfl : rtp S S x la := ⟨jsame.rfl, fun _ _ _ => _root_.rfl, fun _ _ => _root_.rfl, fun _ _ => _root_.rfl⟩
theorem rtp.trans {S1 S2 : jM} (h1 : rtp S S1 x la) (h2 : rtp S1 S2 x la) : rtp S S2 x la := ⟨h1.1.trans h2.1, fun y a b => (h2.2.1 y a b).trans (h1.2.1 y a b), fun j a => (h2.2.2.1 j a).trans (h1.2.2.1 j a), fun j a => (h2.2.2.2 j a).trans (h1.2.2.2 j a)⟩
theorem rts.tp (h : rts S S' x) : rtp S S' x la := ⟨h.1, fun y a _ => h.2.1 y a, fun j hj => h.2.2 j (by omega), fun j _ => by rw [h.2.1 _ (by omega)]⟩
theorem RB.tp (h : RB S x n b) (g : rtp S S' x la) : RB S' x n b := by
  obtain ⟨h1, h2, h3, h4⟩ := h
  exact ⟨h1.same g.1, h2, (g.2.2.1 19 (by omega)).trans h3, fun j hj => ⟨(h4 j hj).1, by rw [g.2.1 _ (by omega) (by omega)]; exact (h4 j hj).2⟩⟩
theorem CDM.ts {L : List Nat} (h : CDM S x la key L) (g : rts S S' x) : CDM S' x la key L := ⟨(g.2.2 27 (by omega)).trans h.1, (g.2.2 29 (by omega)).trans h.2.1, (g.2.2 28 (by omega)).trans h.2.2.1, fun i hi => by rw [g.2.1 _ (by omega)]; exact h.2.2.2 i hi⟩
theorem c_X11_next {Q : jM → Prop} (hT : RB S x n b) (hK : TKM S x b k) (ok : TKok b n k) (h4 : ¬ ptn k = 4) (hq : ∀ S', rts S S' x → TKM S' x b (pnext b n k) → Q S') : jFv E mX11_nextToken (d + 2) 0 0 [.ref (x + 94)] S Q := by
  refine c_X11_token hT hK.2.1 hK.2.2.1 ok.2.1 (ptn_le k) (fun S' g K => hq S' g ?_)
  have e : (if 0 < k.2.1 ∧ (ptn k = 1 ∨ ptn k = 2) then 1 else 0) = (if k.2.2.1 = 1 ∨ k.2.2.1 = 2 then 1 else 0) := by
    by_cases c : k.2.2.1 = 1 ∨ k.2.2.1 = 2
    · have := ok.2.2.2.1 (by omega)
      rw [if_pos c, if_pos ⟨by omega, (ptn_12 h4).mpr c⟩]
    · rw [if_neg c, if_neg (fun z => c ((ptn_12 h4).mp z.2))]
  rw [e] at K
  exact K
theorem c_X11_isSign {Q : Int32 → jM → Prop} {c : Nat} (hT : RB S x n b) (hK : TKM S x b k) (ok : TKok b n k) (hc : c < 256) (h1 : k.2.2.1 = 3 → b k.1 = c → Q 1 S) (h0 : ¬ (k.2.2.1 = 3 ∧ b k.1 = c) → Q 0 S) : jFi E mX11_isSign d 0 0 [.ref (x + 94), .int (nI c)] S Q := by
  have h96 := hT.2.1
  have s3 := ok.so
  have p4 := ptn_le k
  refine T_X11_isSign ⟨hT.1.1, ?_⟩
  rw [hK.2.2.1]
  refine ⟨fun c3 => ?_, fun c3 => h0 (fun z => c3 (by rw [(ptn_3 s3).mpr z.1]; rfl))⟩
  have e3 : k.2.2.1 = 3 := (ptn_3 s3).mp (nI_inj (b := 3) (by omega) (by omega) c3)
  have hl := ok.lt (by omega)
  have hb := (hT.2.2.2 k.1 hl).1
  rw [hK.2.2.2.1 e3]
  exact ⟨fun e => h1 e3 (nI_inj (by omega) (by omega) e), fun e => h0 (fun z => e (by rw [z.2]))⟩
theorem c_X11_stepW {Q : jM → Prop} {L : List Nat} {w y z : Nat} (hM : ML S (x + 94)) (hC : CDM S x la key L) (hl : L.length ≤ 95) (hla : la + 196 ≤ 3135) (ey : y = whatw w) (ez : z = valw key w)
    (hq : ∀ S', rtp S S' x la → (∀ j, j ≠ 27 → ji S' (x + 94) j = ji S (x + 94) j) → ji S' (x + 94) 27 = nI (L.length + 1) → (∀ i, i < L.length + 1 → ji S' (x + 95) (la + 2 * i) = nI (whatw ((L ++ [w]).getD i 0)) ∧ ji S' (x + 95) (la + 2 * i + 1) = nI (valw key ((L ++ [w]).getD i 0))) → Q S') : jFv E mX11_step d 0 0 [.ref (x + 94), .int (nI y), .int (nI z)] S Q := by
  obtain ⟨l1, l2, l3, l4⟩ := hC
  have ea : ji S (x + 94) 28 + 2 * ji S (x + 94) 27 = nI (la + 2 * L.length) := by rw [l1, l3, nI_2, nI_add]
  refine T_X11_step ⟨hM.1, _, hM.rr0, hM.kk1, ?_, ?_, ?_⟩
  · rw [ea, hM.ll1]; exact jin_nI (by omega) (by omega)
  · rw [ea, nI_1, hM.ll1]; exact jin_nI (by omega) (by omega)
  · rw [ea, nI_1 (la + 2 * L.length), l1, nI_1 L.length, jcl (by omega), jcl (by omega)]
    refine hq _ ⟨⟨_root_.rfl, _root_.rfl, _root_.rfl, _root_.rfl⟩, fun q a c => by rw [ji_put_ne _ _ _ _ a, ji_put_ne _ _ _ _ c, ji_put_ne _ _ _ _ c], fun j hj => by rw [ji_put, if_neg (by omega), ji_put_ne _ _ _ _ (by omega), ji_put_ne _ _ _ _ (by omega)], fun j hj => by rw [ji_put_ne _ _ _ _ (by omega), ji_put, if_neg (by omega), ji_put, if_neg (by omega)]⟩ (fun j hj => by rw [ji_put, if_neg (by omega), ji_put_ne _ _ _ _ (by omega), ji_put_ne _ _ _ _ (by omega)]) (ji_put_same _ _ _ _) (fun i hi => ?_)
    rw [getD_app, ji_put_ne _ _ _ _ (show x + 95 ≠ x + 94 by omega), ji_put, ji_put, ji_put, ji_put]
    by_cases e : i = L.length
    · rw [if_pos e, e, if_neg (by omega), if_pos ⟨_root_.rfl, _root_.rfl⟩, if_pos ⟨_root_.rfl, _root_.rfl⟩, ey, ez]
      exact ⟨_root_.rfl, _root_.rfl⟩
    · rw [if_neg e, if_neg (by omega), if_neg (by omega), if_neg (by omega), if_neg (by omega)]
      exact l4 i (by omega)
theorem c_X11_isWordAt {Q : Int32 → jM → Prop} {c0 c1 c2 c3 : Nat} (hT : RB S x n b) (hK : TKM S x b k) (ok : TKok b n k) (nb : k.2.2.2 = 0) (h0 : c0 < 256) (h1 : c1 < 256) (h2 : c2 < 256) (h3 : c3 < 256) (hz : c3 ≠ 0) (hy : (k.2.2.1 = 1 ∧ k.2.1 - k.1 = 4 ∧ b k.1 = c0 ∧ b (k.1 + 1) = c1 ∧ b (k.1 + 2) = c2 ∧ b (k.1 + 3) = c3) → Q 1 S) (hn : ¬ (k.2.2.1 = 1 ∧ k.2.1 - k.1 = 4 ∧ b k.1 = c0 ∧ b (k.1 + 1) = c1 ∧ b (k.1 + 2) = c2 ∧ b (k.1 + 3) = c3) → Q 0 S) : jFi E mX11_isWordAt d 0 0 [.ref (x + 94), .int (nI c0), .int (nI c1), .int (nI c2), .int (nI c3)] S Q := by
  have h96 := hT.2.1
  have s3 := ok.so
  have kl := ok.1
  have ke := ok.2.1
  have p4 := ptn_le k
  have e1 : ptn k = 1 ↔ k.2.2.1 = 1 := by
    unfold ptn
    rw [nb]
    rcases (show k.2.2.1 = 0 ∨ k.2.2.1 = 1 ∨ k.2.2.1 = 2 ∨ k.2.2.1 = 3 by omega) with e | e | e | e
    · rw [e, if_pos _root_.rfl]
    · rw [e, if_neg (by decide), if_pos _root_.rfl, if_neg (by decide)]
    · rw [e, if_neg (by decide), if_neg (by decide), if_pos _root_.rfl]
      split <;> decide
    · rw [e, if_neg (by decide), if_neg (by decide), if_neg (by decide)]
  refine T_X11_isWordAt ⟨fun c => absurd (nI_inj (b := 0) (by omega) (by omega) c) hz, fun _ => ⟨hT.1.1, ?_⟩⟩
  rw [hK.2.2.1, hK.2.1, hK.1, nI_sub kl]
  refine ⟨fun q1 => ⟨fun q4 => ?_, fun q4 => hn (fun z => q4 (by rw [z.2.1]; rfl))⟩, fun q1 => hn (fun z => q1 (by rw [e1.mpr z.1]; rfl))⟩
  have es : k.2.2.1 = 1 := e1.mp (nI_inj (b := 1) (by omega) (by omega) q1)
  have e4 : k.2.1 - k.1 = 4 := nI_inj (b := 4) (by omega) (by omega) q4
  have a1 : nI k.1 + 1 = nI (k.1 + 1) := nI_1 _
  have a2 : nI k.1 + 2 = nI (k.1 + 2) := nI_add k.1 2
  have a3 : nI k.1 + 3 = nI (k.1 + 3) := nI_add k.1 3
  have eq : ∀ j c, j < 4 → c < 256 → (nI (b (k.1 + j)) = nI c ↔ b (k.1 + j) = c) := fun j c hj hc => by
    have := (hT.2.2.2 (k.1 + j) (by omega)).1
    exact ⟨fun h => nI_inj (by omega) (by omega) h, fun h => by rw [h]⟩
  have b0 : ji S (x + 109) (Int32.toNatClampNeg (nI k.1)) = nI (b (k.1 + 0)) := hT.by (by omega)
  refine ⟨_, hT.1.r18.1, hT.1.r18.2.1, hT.inn (by omega), ?_⟩
  rw [b0, a1, a2, a3, hT.by (p := k.1 + 1) (by omega), hT.by (p := k.1 + 2) (by omega), hT.by (p := k.1 + 3) (by omega)]
  exact ⟨fun r0 => ⟨hT.inn (by omega), fun r1 => ⟨hT.inn (by omega), fun r2 => ⟨hT.inn (by omega), fun r3 => hy ⟨es, e4, (eq 0 c0 (by omega) h0).mp r0, (eq 1 c1 (by omega) h1).mp r1, (eq 2 c2 (by omega) h2).mp r2, (eq 3 c3 (by omega) h3).mp r3⟩, fun r3 => hn (fun z => r3 ((eq 3 c3 (by omega) h3).mpr z.2.2.2.2.2))⟩, fun r2 => hn (fun z => r2 ((eq 2 c2 (by omega) h2).mpr z.2.2.2.2.1))⟩, fun r1 => hn (fun z => r1 ((eq 1 c1 (by omega) h1).mpr z.2.2.2.1))⟩, fun r0 => hn (fun z => r0 ((eq 0 c0 (by omega) h0).mpr z.2.2.1))⟩
theorem c_X11_key {Q : Int32 → jM → Prop} (hT : RB S x n b) (hK : TKM S x b k) (ok : TKok b n k) (nb : k.2.2.2 = 0) (h : Q (if pkey b k = 9 then -1 else nI (pkey b k)) S) : jFi E mX11_key (d + 1) 0 0 [.ref (x + 94)] S Q := by
  unfold pkey at h
  refine T_X11_key ⟨hT.1.1, c_X11_isWordAt (c0 := 116) (c1 := 101) (c2 := 114) (c3 := 109) hT hK ok nb (by omega) (by omega) (by omega) (by omega) (by omega) (fun y0 => ⟨fun z => absurd z (by decide), fun _ => ?_⟩) (fun n0 => ⟨fun _ => ⟨hT.1.1, c_X11_isWordAt (c0 := 102) (c1 := 97) (c2 := 109) (c3 := 101) hT hK ok nb (by omega) (by omega) (by omega) (by omega) (by omega) (fun y1 => ⟨fun z => absurd z (by decide), fun _ => ?_⟩) (fun n1 => ⟨fun _ => ⟨hT.1.1, c_X11_isWordAt (c0 := 102) (c1 := 105) (c2 := 110) (c3 := 101) hT hK ok nb (by omega) (by omega) (by omega) (by omega) (by omega) (fun y2 => ⟨fun z => absurd z (by decide), fun _ => ?_⟩) (fun n2 => ⟨fun _ => ?_, fun z => absurd _root_.rfl z⟩)⟩, fun z => absurd _root_.rfl z⟩)⟩, fun z => absurd _root_.rfl z⟩)⟩
  · rw [if_pos y0] at h; exact h
  · rw [if_neg n0, if_pos y1] at h; exact h
  · rw [if_neg n0, if_neg n1, if_pos y2] at h; exact h
  · rw [if_neg n0, if_neg n1, if_neg n2] at h; exact h
end jRef3
end
section
/-! TEXT: the reference reads chains as the plain reading does -/
def PO11 (S : jM) (x la key par bang : Nat) (b : Nat → Nat) (r : jrs) : Prop := (r.1 = true → TKM S x b r.2.1 ∧ CDM S x la key r.2.2 ∧ ji S (x + 94) 25 = nI par ∧ ji S (x + 94) 26 = nI bang) ∧ (r.1 = false → ji S (x + 94) 20 = nI r.2.1.1)
def RdM (E : jEnv) (x n la key : Nat) (b : Nat → Nat) (F lev D : Nat) (M : jMd) : Prop := ∀ (par bang : Nat) (k : jtk) (L : List Nat) (S : jM) (Q : Int32 → jM → Prop), pmu lev par bang ≤ F → par ≤ 8 → bang ≤ 8 → RB S x n b → TKM S x b k → TKok b n k → CDM S x la key L → ji S (x + 94) 25 = nI par → ji S (x + 94) 26 = nI bang → L.length + 1 ≤ k.1 → (∀ S', rtp S S' x la → PO11 S' x la key par bang b (pread b n key F lev par bang k L) → Q (rB (pread b n key F lev par bang k L)) S') → jFi E M D 0 0 [.ref (x + 94), .int (nI key)] S Q
section jRef4
variable {E : jEnv} {S S' : jM} {x n la key : Nat} {b : Nat → Nat} {F lev : Nat}
theorem CDM.add {L : List Nat} {w : Nat} (hw : ¬ w < 20000) (hC : CDM S x la key L) (f : ∀ j, j ≠ 27 → ji S' (x + 94) j = ji S (x + 94) j) (e27 : ji S' (x + 94) 27 = nI (L.length + 1)) (r : ∀ i, i < L.length + 1 → ji S' (x + 95) (la + 2 * i) = nI (whatw ((L ++ [w]).getD i 0)) ∧ ji S' (x + 95) (la + 2 * i + 1) = nI (valw key ((L ++ [w]).getD i 0))) : CDM S' x la key (L ++ [w]) := by
  refine ⟨by rw [e27, List.length_append]; rfl, ?_, (f 28 (by omega)).trans hC.2.2.1, fun i hi => r i (by rw [List.length_append] at hi; exact hi)⟩
  rw [f 29 (by omega), pops_app]
  show _ = nI (pops L + ((if w < 20000 then 1 else 0) + 0))
  rw [if_neg hw]; exact hC.2.1
theorem TKM.of {k : jtk} (h : TKM S x b k) (f : ∀ j, j ≠ 27 → ji S' (x + 94) j = ji S (x + 94) j) : TKM S' x b k := by
  obtain ⟨a1, a2, a3, a4, a5, a6⟩ := h
  exact ⟨(f 20 (by omega)).trans a1, (f 21 (by omega)).trans a2, (f 22 (by omega)).trans a3, fun z => (f 24 (by omega)).trans (a4 z), fun z => (f 24 (by omega)).trans (a5 z), fun z y => (f 23 (by omega)).trans (a6 z y)⟩
/-- a sign is in hand: the next part, and the step -/
theorem rjoin {par bang : Nat} {k : jtk} {L : List Nat} {M : jMd} {Q : Int32 → jM → Prop} {cont : jM → Prop} {c2 : Int32} (hla : la + 196 ≤ 3135) (hR : RdM E x n la key b F (lev + 1) (F + 4) M) (hm : pmu (lev + 1) par bang ≤ F) (hp8 : par ≤ 8) (hb8 : bang ≤ 8) (hT : RB S x n b) (hK : TKM S x b k) (ok : TKok b n k) (hC : CDM S x la key L) (e25 : ji S (x + 94) 25 = nI par) (e26 : ji S (x + 94) 26 = nI bang) (hlen : L.length + 1 ≤ k.1) (hl5 : lev < 5) (hl : plev b k = lev) (hc2 : c2 = nI (b k.1))
    (h1 : ∀ S', rtp S S' x la → (pread b n key F (lev + 1) par bang (pnext b n k) L).1 = true → TKM S' x b (pread b n key F (lev + 1) par bang (pnext b n k) L).2.1 → CDM S' x la key ((pread b n key F (lev + 1) par bang (pnext b n k) L).2.2 ++ [20000 + b k.1]) → ji S' (x + 94) 25 = nI par → ji S' (x + 94) 26 = nI bang → cont S')
    (h0 : ∀ S', rtp S S' x la → (pread b n key F (lev + 1) par bang (pnext b n k) L).1 = false → ji S' (x + 94) 20 = nI (pread b n key F (lev + 1) par bang (pnext b n k) L).2.1.1 → Q 0 S') : jFv E mX11_nextToken (F + 4) 0 0 [.ref (x + 94)] S (fun S10 => jk S10 (x + 94) = 11 ∧ jFi E M (F + 4) 0 0 [.ref (x + 94), .int (nI key)] S10 (fun r13 S12 => (r13 = 0 → Q 0 S12) ∧ (¬ r13 = 0 → jk S12 (x + 94) = 11 ∧ jFv E mX11_step (F + 4) 0 0 [.ref (x + 94), .int 2, .int c2] S12 (fun S16 => cont S16)))) := by
  have h96 := hT.2.1
  have hs := plev_ok (b := b) (t := k) (by omega)
  have en : k.1 < k.2.1 := ok.2.2.2.1 (by rw [hs.1]; decide)
  have hn := pnext_ok ok
  have p3 : ptn k = 3 := (ptn_3 ok.so).mpr hs.1
  refine c_X11_next hT hK ok (by omega) (fun S1 g1 K1 => ⟨(hT.ts g1).1.1, ?_⟩)
  have pg := pread_ok (b := b) (n := n) (key := key) F (lev + 1) par bang (pnext b n k) L hn.1
  refine hR par bang (pnext b n k) L S1 _ hm hp8 hb8 (hT.ts g1) K1 hn.1 (hC.ts g1) ((g1.2.2 25 (by omega)).trans e25) ((g1.2.2 26 (by omega)).trans e26) (by omega) (fun S2 g2 p2 => ?_)
  generalize pread b n key F (lev + 1) par bang (pnext b n k) L = r at h1 h0 pg p2 ⊢
  have g12 : rtp S S2 x la := g1.tp.trans g2
  by_cases c1 : r.1 = true
  · have eB : rB r = 1 := by unfold rB; rw [if_pos c1]
    rw [eB]
    obtain ⟨K2, C2, q25, q26⟩ := p2.1 c1
    obtain ⟨k1, k2, -⟩ := pg.2.2 c1
    have k3 := pg.1.1
    have k4 := pg.1.2.1
    have T2 := hT.tp g12
    have hcs := hs.2
    have hd : ∀ c ∈ sgn, whatw (20000 + c) = 2 := fun c _ => by unfold whatw; rw [if_neg (by omega), if_neg (by omega)]
    have hv : valw key (20000 + b k.1) = b k.1 := by unfold valw; rw [if_neg (by omega), if_neg (by omega)]; omega
    refine ⟨fun z => absurd z (by decide), fun _ => ⟨T2.1.1, ?_⟩⟩
    rw [hc2]
    refine c_X11_stepW (w := 20000 + b k.1) (y := 2) (z := b k.1) T2.1 C2 (by omega) hla (hd _ hcs).symm hv.symm (fun S3 g3 f3 e27 r3 => ?_)
    exact h1 S3 (g12.trans g3) c1 (K2.of f3) (C2.add (by omega) f3 e27 r3) ((f3 25 (by omega)).trans q25) ((f3 26 (by omega)).trans q26)
  · have eB : rB r = 0 := by unfold rB; rw [if_neg c1]
    rw [eB]
    have cf : r.1 = false := by simpa using c1
    exact ⟨fun _ => h0 S2 g12 cf (p2.2 cf), fun z => absurd rfl z⟩
/-- a level's loop -/
theorem rloop {M : jMd} {Q : Int32 → jM → Prop} {Lp : jM → Prop} {par bang : Nat} {S0 : jM} (hla : la + 196 ≤ 3135) (hR : RdM E x n la key b F (lev + 1) (F + 4) M) (hm : pmu (lev + 1) par bang ≤ F) (hp8 : par ≤ 8) (hb8 : bang ≤ 8) (hl5 : lev < 5)
    (unf : ∀ (k : jtk) (S : jM), RB S x n b → TKM S x b k → TKok b n k → (plev b k = lev → jFv E mX11_nextToken (F + 4) 0 0 [.ref (x + 94)] S (fun S10 => jk S10 (x + 94) = 11 ∧ jFi E M (F + 4) 0 0 [.ref (x + 94), .int (nI key)] S10 (fun r13 S12 => (r13 = 0 → Q 0 S12) ∧ (¬ r13 = 0 → jk S12 (x + 94) = 11 ∧ jFv E mX11_step (F + 4) 0 0 [.ref (x + 94), .int 2, .int (nI (b k.1))] S12 (fun S16 => Lp S16))))) → (¬ plev b k = lev → Q 1 S) → Lp S) :
    ∀ (c : Nat) (k : jtk) (L : List Nat) (S : jM), n - k.1 ≤ c → rtp S0 S x la → RB S x n b → TKM S x b k → TKok b n k → CDM S x la key L → ji S (x + 94) 25 = nI par → ji S (x + 94) 26 = nI bang → L.length + 1 ≤ k.1 → (∀ S', rtp S0 S' x la → PO11 S' x la key par bang b (ploop b n lev (pread b n key F (lev + 1) par bang) c k L) → Q (rB (ploop b n lev (pread b n key F (lev + 1) par bang) c k L)) S') → Lp S := by
  intro c
  induction c with
  | zero =>
    intro k L S hc g hT hK ok hC e25 e26 hlen hq
    refine unf k S hT hK ok (fun z => ?_) (fun _ => hq S g ⟨fun _ => ⟨hK, hC, e25, e26⟩, fun z => Bool.noConfusion z⟩)
    have hs := plev_ok (b := b) (t := k) (by omega)
    have := ok.lt (by rw [hs.1]; decide)
    omega
  | succ c ih =>
    intro k L S hc g hT hK ok hC e25 e26 hlen hq
    have ep : ploop b n lev (pread b n key F (lev + 1) par bang) (c + 1) k L = if plev b k = lev then (if (pread b n key F (lev + 1) par bang (pnext b n k) L).1 = true then ploop b n lev (pread b n key F (lev + 1) par bang) c (pread b n key F (lev + 1) par bang (pnext b n k) L).2.1 ((pread b n key F (lev + 1) par bang (pnext b n k) L).2.2 ++ [20000 + b k.1]) else (false, (pread b n key F (lev + 1) par bang (pnext b n k) L).2.1, [])) else (true, k, L) := rfl
    rw [ep] at hq
    refine unf k S hT hK ok (fun el => ?_) (fun el => ?_)
    · rw [if_pos el] at hq
      have hs := plev_ok (b := b) (t := k) (by omega)
      have en : k.1 < k.2.1 := ok.2.2.2.1 (by rw [hs.1]; decide)
      have hn := pnext_ok ok
      have pg := pread_ok (b := b) (n := n) (key := key) F (lev + 1) par bang (pnext b n k) L hn.1
      refine rjoin hla hR hm hp8 hb8 hT hK ok hC e25 e26 hlen hl5 el rfl (fun S1 g1 c1 K1 C1 q25 q26 => ?_) (fun S1 g1 c1 q20 => ?_)
      · rw [if_pos c1] at hq
        obtain ⟨k1, k2, -⟩ := pg.2.2 c1
        refine ih _ _ S1 (by omega) (g.trans g1) (hT.tp g1) K1 pg.1 C1 q25 q26 ?_ hq
        rw [List.length_append]
        show _ + 1 + 1 ≤ _
        omega
      · rw [if_neg (by rw [c1]; decide)] at hq
        exact hq S1 (g.trans g1) ⟨fun z => Bool.noConfusion z, fun _ => q20⟩
    · rw [if_neg el] at hq
      exact hq S g ⟨fun _ => ⟨hK, hC, e25, e26⟩, fun z => Bool.noConfusion z⟩
/-- a level by its first part and its loop -/
theorem rchain {M : jMd} {Q : Int32 → jM → Prop} {Lp : jM → Prop} {par bang : Nat} {k : jtk} {L : List Nat} (hla : la + 196 ≤ 3135) (hR : RdM E x n la key b F (lev + 1) (F + 4) M) (hm : pmu lev par bang ≤ F + 1) (hp8 : par ≤ 8) (hb8 : bang ≤ 8) (hl5 : lev < 5) (hl2 : lev ≠ 2)
    (unf : ∀ (k : jtk) (S : jM), RB S x n b → TKM S x b k → TKok b n k → (plev b k = lev → jFv E mX11_nextToken (F + 4) 0 0 [.ref (x + 94)] S (fun S10 => jk S10 (x + 94) = 11 ∧ jFi E M (F + 4) 0 0 [.ref (x + 94), .int (nI key)] S10 (fun r13 S12 => (r13 = 0 → Q 0 S12) ∧ (¬ r13 = 0 → jk S12 (x + 94) = 11 ∧ jFv E mX11_step (F + 4) 0 0 [.ref (x + 94), .int 2, .int (nI (b k.1))] S12 (fun S16 => Lp S16))))) → (¬ plev b k = lev → Q 1 S) → Lp S)
    (hT : RB S x n b) (hK : TKM S x b k) (ok : TKok b n k) (hC : CDM S x la key L) (e25 : ji S (x + 94) 25 = nI par) (e26 : ji S (x + 94) 26 = nI bang) (hlen : L.length + 1 ≤ k.1) (hq : ∀ S', rtp S S' x la → PO11 S' x la key par bang b (pread b n key (F + 1) lev par bang k L) → Q (rB (pread b n key (F + 1) lev par bang k L)) S') : jk S (x + 94) = 11 ∧ jFi E M (F + 4) 0 0 [.ref (x + 94), .int (nI key)] S (fun r3 S2 => (r3 = 0 → Q 0 S2) ∧ (¬ r3 = 0 → Lp S2)) := by
  have h96 := hT.2.1
  have er : pread b n key (F + 1) lev par bang k L = if (pread b n key F (lev + 1) par bang k L).1 = true then ploop b n lev (pread b n key F (lev + 1) par bang) (if lev = 2 then 1 else 96) (pread b n key F (lev + 1) par bang k L).2.1 (pread b n key F (lev + 1) par bang k L).2.2 else (false, (pread b n key F (lev + 1) par bang k L).2.1, []) := by rw [pread]; rw [if_pos hl5]
  rw [er, if_neg hl2] at hq
  have hm' : pmu (lev + 1) par bang ≤ F := by unfold pmu at hm ⊢; omega
  have pg := pread_ok (b := b) (n := n) (key := key) F (lev + 1) par bang k L ok
  refine ⟨hT.1.1, hR par bang k L S _ hm' hp8 hb8 hT hK ok hC e25 e26 hlen (fun S1 g1 p1 => ?_)⟩
  by_cases c1 : (pread b n key F (lev + 1) par bang k L).1 = true
  · have eB : rB (pread b n key F (lev + 1) par bang k L) = 1 := by unfold rB; rw [if_pos c1]
    rw [eB]
    rw [if_pos c1] at hq
    obtain ⟨K1, C1, q25, q26⟩ := p1.1 c1
    obtain ⟨k1, k2, -⟩ := pg.2.2 c1
    exact ⟨fun z => absurd z (by decide), fun _ => rloop hla hR hm' hp8 hb8 hl5 unf 96 _ _ S1 (by omega) g1 (hT.tp g1) K1 pg.1 C1 q25 q26 (by omega) hq⟩
  · have eB : rB (pread b n key F (lev + 1) par bang k L) = 0 := by unfold rB; rw [if_neg c1]
    rw [eB]
    rw [if_neg c1] at hq
    have cf : (pread b n key F (lev + 1) par bang k L).1 = false := by simpa using c1
    exact ⟨fun _ => hq S1 g1 ⟨fun z => Bool.noConfusion z, fun _ => p1.2 cf⟩, fun z => absurd rfl z⟩
theorem plev_is {k : jtk} {c l : Nat} (h3 : k.2.2.1 = 3) (hb : b k.1 = c) (h : (if c = 124 then 0 else if c = 38 then 1 else if c = 60 then 2 else if c = 61 then 2 else if c = 62 then 2 else if c = 43 then 3 else if c = 45 then 3 else if c = 42 then 4 else if c = 47 then 4 else 9) = l) : plev b k = l := by
  unfold plev
  rw [if_pos h3, hb]; exact h
theorem R_either (hla : la + 196 ≤ 3135) (hR : RdM E x n la key b F 1 (F + 4) mX11_both) : RdM E x n la key b (F + 1) 0 (F + 1 + 4) mX11_either := by
  intro par bang k L S Q hm hp8 hb8 hT hK ok hC e25 e26 hlen hq
  refine T_X11_either (rchain (lev := 0) (Lp := fun S => L_X11_either_10 E (F + 4) Q (x + 94) (nI key) S) hla hR hm hp8 hb8 (by omega) (by omega) (fun k S hT hK ok h1 h0 => ?_) hT hK ok hC e25 e26 hlen hq)
  refine T_X11_either_10 ⟨hT.1.1, c_X11_isSign (c := 124) hT hK ok (by omega) (fun c3 c124 => ⟨fun z => absurd z (by decide), fun _ => ⟨hT.1.1, ?_⟩⟩) (fun nn => ⟨fun _ => h0 (fun z => ?_), fun z => absurd rfl z⟩)⟩
  · have := h1 (plev_is c3 c124 rfl)
    rw [c124] at this; exact this
  · have hs := plev_ok (b := b) (t := k) (by omega)
    refine nn ⟨hs.1, ?_⟩
    have hd : ∀ c ∈ sgn, (if c = 124 then 0 else if c = 38 then 1 else if c = 60 then 2 else if c = 61 then 2 else if c = 62 then 2 else if c = 43 then 3 else if c = 45 then 3 else if c = 42 then 4 else if c = 47 then 4 else 9) = 0 → c = 124 := by decide
    unfold plev at z
    rw [if_pos hs.1] at z
    exact hd _ hs.2 z
theorem R_both (hla : la + 196 ≤ 3135) (hR : RdM E x n la key b F 2 (F + 4) mX11_test) : RdM E x n la key b (F + 1) 1 (F + 1 + 4) mX11_both := by
  intro par bang k L S Q hm hp8 hb8 hT hK ok hC e25 e26 hlen hq
  refine T_X11_both (rchain (lev := 1) (Lp := fun S => L_X11_both_10 E (F + 4) Q (x + 94) (nI key) S) hla hR hm hp8 hb8 (by omega) (by omega) (fun k S hT hK ok h1 h0 => ?_) hT hK ok hC e25 e26 hlen hq)
  refine T_X11_both_10 ⟨hT.1.1, c_X11_isSign (c := 38) hT hK ok (by omega) (fun c3 cc => ⟨fun z => absurd z (by decide), fun _ => ⟨hT.1.1, ?_⟩⟩) (fun nn => ⟨fun _ => h0 (fun z => ?_), fun z => absurd rfl z⟩)⟩
  · have := h1 (plev_is c3 cc rfl)
    rw [cc] at this; exact this
  · have hs := plev_ok (b := b) (t := k) (by omega)
    refine nn ⟨hs.1, ?_⟩
    have hd : ∀ c ∈ sgn, (if c = 124 then 0 else if c = 38 then 1 else if c = 60 then 2 else if c = 61 then 2 else if c = 62 then 2 else if c = 43 then 3 else if c = 45 then 3 else if c = 42 then 4 else if c = 47 then 4 else 9) = 1 → c = 38 := by decide
    unfold plev at z
    rw [if_pos hs.1] at z
    exact hd _ hs.2 z
theorem R_sum (hla : la + 196 ≤ 3135) (hR : RdM E x n la key b F 4 (F + 4) mX11_term) : RdM E x n la key b (F + 1) 3 (F + 1 + 4) mX11_sum := by
  intro par bang k L S Q hm hp8 hb8 hT hK ok hC e25 e26 hlen hq
  refine T_X11_sum (rchain (lev := 3) (Lp := fun S => L_X11_sum_10 E (F + 4) Q (x + 94) (nI key) S) hla hR hm hp8 hb8 (by omega) (by omega) (fun k S hT hK ok h1 h0 => ?_) hT hK ok hC e25 e26 hlen hq)
  refine T_X11_sum_10 ⟨hT.1.1, c_X11_isSign (c := 43) hT hK ok (by omega) (fun c3 cc => ⟨fun z => absurd z (by decide), fun _ => ⟨hT.1.1, ?_⟩⟩) (fun nn => ⟨fun _ => ⟨hT.1.1, c_X11_isSign (c := 45) hT hK ok (by omega) (fun c3 cc => ⟨fun z => absurd z (by decide), fun _ => ⟨hT.1.1, ?_⟩⟩) (fun nn2 => ⟨fun _ => h0 (fun z => ?_), fun z => absurd rfl z⟩)⟩, fun z => absurd rfl z⟩)⟩
  · rw [hK.2.2.2.1 c3]; exact h1 (plev_is c3 cc rfl)
  · rw [hK.2.2.2.1 c3]; exact h1 (plev_is c3 cc rfl)
  · have hs := plev_ok (b := b) (t := k) (by omega)
    have hd : ∀ c ∈ sgn, (if c = 124 then 0 else if c = 38 then 1 else if c = 60 then 2 else if c = 61 then 2 else if c = 62 then 2 else if c = 43 then 3 else if c = 45 then 3 else if c = 42 then 4 else if c = 47 then 4 else 9) = 3 → c = 43 ∨ c = 45 := by decide
    unfold plev at z
    rw [if_pos hs.1] at z
    rcases hd _ hs.2 z with q | q
    · exact nn ⟨hs.1, q⟩
    · exact nn2 ⟨hs.1, q⟩
theorem R_term (hla : la + 196 ≤ 3135) (hR : RdM E x n la key b F 5 (F + 4) mX11_part0) : RdM E x n la key b (F + 1) 4 (F + 1 + 4) mX11_term := by
  intro par bang k L S Q hm hp8 hb8 hT hK ok hC e25 e26 hlen hq
  refine T_X11_term (rchain (lev := 4) (Lp := fun S => L_X11_term_10 E (F + 4) Q (x + 94) (nI key) S) hla hR hm hp8 hb8 (by omega) (by omega) (fun k S hT hK ok h1 h0 => ?_) hT hK ok hC e25 e26 hlen hq)
  refine T_X11_term_10 ⟨hT.1.1, c_X11_isSign (c := 42) hT hK ok (by omega) (fun c3 cc => ⟨fun z => absurd z (by decide), fun _ => ⟨hT.1.1, ?_⟩⟩) (fun nn => ⟨fun _ => ⟨hT.1.1, c_X11_isSign (c := 47) hT hK ok (by omega) (fun c3 cc => ⟨fun z => absurd z (by decide), fun _ => ⟨hT.1.1, ?_⟩⟩) (fun nn2 => ⟨fun _ => h0 (fun z => ?_), fun z => absurd rfl z⟩)⟩, fun z => absurd rfl z⟩)⟩
  · rw [hK.2.2.2.1 c3]; exact h1 (plev_is c3 cc rfl)
  · rw [hK.2.2.2.1 c3]; exact h1 (plev_is c3 cc rfl)
  · have hs := plev_ok (b := b) (t := k) (by omega)
    have hd : ∀ c ∈ sgn, (if c = 124 then 0 else if c = 38 then 1 else if c = 60 then 2 else if c = 61 then 2 else if c = 62 then 2 else if c = 43 then 3 else if c = 45 then 3 else if c = 42 then 4 else if c = 47 then 4 else 9) = 4 → c = 42 ∨ c = 47 := by decide
    unfold plev at z
    rw [if_pos hs.1] at z
    rcases hd _ hs.2 z with q | q
    · exact nn ⟨hs.1, q⟩
    · exact nn2 ⟨hs.1, q⟩
end jRef4
end
section
/-! TEXT: the reference's tests and parts -/
theorem isname_eq : ∀ key : Fin 3, ∀ c : Fin 256, jisname (nI key.val) (nI c.val) = if pnam key.val c.val = 9 then 0 else 1 := by decide +kernel
theorem letw_eq : ∀ key : Fin 3, ∀ c : Fin 256, ¬ pnam key.val c.val = 9 → letw key.val (pnam key.val c.val) = c.val := by decide +kernel
section jRef5
variable {E : jEnv} {S S' : jM} {x n la key : Nat} {b : Nat → Nat} {F : Nat}
theorem R_test (hla : la + 196 ≤ 3135) (hR : RdM E x n la key b F 3 (F + 4) mX11_sum) : RdM E x n la key b (F + 1) 2 (F + 1 + 4) mX11_test := by
  intro par bang k L S Q hm hp8 hb8 hT hK ok hC e25 e26 hlen hq
  have er : pread b n key (F + 1) 2 par bang k L = if (pread b n key F 3 par bang k L).1 = true then ploop b n 2 (pread b n key F 3 par bang) 1 (pread b n key F 3 par bang k L).2.1 (pread b n key F 3 par bang k L).2.2 else (false, (pread b n key F 3 par bang k L).2.1, []) := by rw [pread]; rw [if_pos (by omega), if_pos rfl]
  rw [er] at hq
  have hm' : pmu 3 par bang ≤ F := by unfold pmu at hm ⊢; omega
  have pg := pread_ok (b := b) (n := n) (key := key) F 3 par bang k L ok
  refine T_X11_test ⟨hT.1.1, hR par bang k L S _ hm' hp8 hb8 hT hK ok hC e25 e26 hlen (fun S1 g1 p1 => ?_)⟩
  generalize pread b n key F 3 par bang k L = r at hq pg p1 ⊢
  by_cases c1 : r.1 = true
  · have eB : rB r = 1 := by unfold rB; rw [if_pos c1]
    rw [eB]
    rw [if_pos c1] at hq
    obtain ⟨K1, C1, q25, q26⟩ := p1.1 c1
    obtain ⟨k1, k2, -⟩ := pg.2.2 c1
    have T1 := hT.tp g1
    have ep : ploop b n 2 (pread b n key F 3 par bang) 1 r.2.1 r.2.2 = if plev b r.2.1 = 2 then (if (pread b n key F 3 par bang (pnext b n r.2.1) r.2.2).1 = true then (true, (pread b n key F 3 par bang (pnext b n r.2.1) r.2.2).2.1, (pread b n key F 3 par bang (pnext b n r.2.1) r.2.2).2.2 ++ [20000 + b r.2.1.1]) else (false, (pread b n key F 3 par bang (pnext b n r.2.1) r.2.2).2.1, [])) else (true, r.2.1, r.2.2) := rfl
    rw [ep] at hq
    have join : ∀ c2 : Int32, c2 = nI (b r.2.1.1) → plev b r.2.1 = 2 → jFv E mX11_nextToken (F + 4) 0 0 [.ref (x + 94)] S1 (fun S10 => jk S10 (x + 94) = 11 ∧ jFi E mX11_sum (F + 4) 0 0 [.ref (x + 94), .int (nI key)] S10 (fun r13 S12 => (r13 = 0 → Q 0 S12) ∧ (¬ r13 = 0 → jk S12 (x + 94) = 11 ∧ jFv E mX11_step (F + 4) 0 0 [.ref (x + 94), .int 2, .int c2] S12 (fun S16 => Q 1 S16)))) := by
      intro c2 hc2 el
      rw [if_pos el] at hq
      refine rjoin (lev := 2) (cont := fun S16 => Q 1 S16) hla hR hm' hp8 hb8 T1 K1 pg.1 C1 q25 q26 (by omega) (by omega) el hc2 (fun S2 g2 d1 K2 C2 p25 p26 => ?_) (fun S2 g2 d1 p20 => ?_)
      · rw [if_pos d1] at hq
        exact hq S2 (g1.trans g2) ⟨fun _ => ⟨K2, C2, p25, p26⟩, fun z => Bool.noConfusion z⟩
      · rw [if_neg (by rw [d1]; decide)] at hq
        exact hq S2 (g1.trans g2) ⟨fun z => Bool.noConfusion z, fun _ => p20⟩
    refine ⟨fun z => absurd z (by decide), fun _ => ⟨T1.1.1, c_X11_isSign (c := 60) T1 K1 pg.1 (by omega) (fun c3 cc => ⟨fun z => absurd z (by decide), fun _ => ⟨T1.1.1, join _ (K1.2.2.2.1 c3) (plev_is c3 cc rfl)⟩⟩) (fun n1 => ⟨fun _ => ⟨T1.1.1, c_X11_isSign (c := 61) T1 K1 pg.1 (by omega) (fun c3 cc => ⟨fun z => absurd z (by decide), fun _ => ⟨T1.1.1, join _ (K1.2.2.2.1 c3) (plev_is c3 cc rfl)⟩⟩) (fun n2 => ⟨fun _ => ⟨T1.1.1, c_X11_isSign (c := 62) T1 K1 pg.1 (by omega) (fun c3 cc => ⟨fun z => absurd z (by decide), fun _ => ⟨T1.1.1, join _ (K1.2.2.2.1 c3) (plev_is c3 cc rfl)⟩⟩) (fun n3 => ⟨fun _ => ?_, fun z => absurd rfl z⟩)⟩, fun z => absurd rfl z⟩)⟩, fun z => absurd rfl z⟩)⟩⟩
    have nl : ¬ plev b r.2.1 = 2 := fun z => by
      have hs := plev_ok (b := b) (t := r.2.1) (by omega)
      have hd : ∀ c ∈ sgn, (if c = 124 then 0 else if c = 38 then 1 else if c = 60 then 2 else if c = 61 then 2 else if c = 62 then 2 else if c = 43 then 3 else if c = 45 then 3 else if c = 42 then 4 else if c = 47 then 4 else 9) = 2 → c = 60 ∨ c = 61 ∨ c = 62 := by decide
      unfold plev at z
      rw [if_pos hs.1] at z
      rcases hd _ hs.2 z with q | q | q
      · exact n1 ⟨hs.1, q⟩
      · exact n2 ⟨hs.1, q⟩
      · exact n3 ⟨hs.1, q⟩
    rw [if_neg nl] at hq
    exact hq S1 g1 ⟨fun _ => ⟨K1, C1, q25, q26⟩, fun z => Bool.noConfusion z⟩
  · have eB : rB r = 0 := by unfold rB; rw [if_neg c1]
    rw [eB]
    rw [if_neg c1] at hq
    have cf : r.1 = false := by simpa using c1
    exact ⟨fun _ => hq S1 g1 ⟨fun z => Bool.noConfusion z, fun _ => p1.2 cf⟩, fun z => absurd rfl z⟩
theorem rtp.put {j : Nat} {w : Int32} (h1 : 20 ≤ j) (h2 : j < 30) (h3 : j ≠ 28) : rtp S (jput S (x + 94) j w) x la := ⟨⟨_root_.rfl, _root_.rfl, _root_.rfl, _root_.rfl⟩, fun y a _ => ji_put_ne _ _ _ _ a, fun i hi => by rw [ji_put, if_neg (by omega)], fun i _ => by rw [ji_put_ne _ _ _ _ (by omega)]⟩
theorem TKM.put {k : jtk} {j : Nat} {w : Int32} (h : TKM S x b k) (hj : 25 ≤ j) : TKM (jput S (x + 94) j w) x b k := by
  obtain ⟨a1, a2, a3, a4, a5, a6⟩ := h
  have f : ∀ i, i < 25 → ji (jput S (x + 94) j w) (x + 94) i = ji S (x + 94) i := fun i hi => by rw [ji_put, if_neg (by omega)]
  exact ⟨(f 20 (by omega)).trans a1, (f 21 (by omega)).trans a2, (f 22 (by omega)).trans a3, fun z => (f 24 (by omega)).trans (a4 z), fun z => (f 24 (by omega)).trans (a5 z), fun z y => (f 23 (by omega)).trans (a6 z y)⟩
theorem CDM.put {L : List Nat} {j : Nat} {w : Int32} (h : CDM S x la key L) (hj : j < 27) : CDM (jput S (x + 94) j w) x la key L := by
  obtain ⟨a1, a2, a3, a4⟩ := h
  exact ⟨by rw [ji_put, if_neg (by omega)]; exact a1, by rw [ji_put, if_neg (by omega)]; exact a2, by rw [ji_put, if_neg (by omega)]; exact a3, fun i hi => by rw [ji_put_ne _ _ _ _ (by omega)]; exact a4 i hi⟩
end jRef5
end
section
/-! TEXT: the reference's parts; all its levels -/
section jRef6
variable {E : jEnv} {S S' : jM} {x n la key : Nat} {b : Nat → Nat} {F : Nat}
theorem R_part0 (hk : key < 3) (hla : la + 196 ≤ 3135) (hP : RdM E x n la key b F 5 (F + 4) mX11_part0) (hEi : RdM E x n la key b F 0 (F + 4) mX11_either) : RdM E x n la key b (F + 1) 5 (F + 1 + 4) mX11_part0 := by
  intro par bang k L S Q hm hp8 hb8 hT hK ok hC e25 e26 hlen hq
  have h96 := hT.2.1
  have s3 := ok.so
  have hn := pnext_ok ok
  have er : pread b n key (F + 1) 5 par bang k L = if k.2.2.1 = 1 ∨ k.2.2.1 = 2 then (if popd b key k = 30000 then (false, k, []) else (true, pnext b n k, L ++ [popd b key k]))
    else if k.2.2.1 = 3 ∧ b k.1 = 33 ∧ bang < 8 then
      (if (pread b n key F 5 par (bang + 1) (pnext b n k) L).1 = true then (true, (pread b n key F 5 par (bang + 1) (pnext b n k) L).2.1, (pread b n key F 5 par (bang + 1) (pnext b n k) L).2.2 ++ [20033]) else (false, (pread b n key F 5 par (bang + 1) (pnext b n k) L).2.1, []))
    else if k.2.2.1 = 3 ∧ b k.1 = 40 ∧ par < 8 then
      (if (pread b n key F 0 (par + 1) bang (pnext b n k) L).1 = true ∧ (pread b n key F 0 (par + 1) bang (pnext b n k) L).2.1.2.2.1 = 3 ∧ b (pread b n key F 0 (par + 1) bang (pnext b n k) L).2.1.1 = 41 then (true, pnext b n (pread b n key F 0 (par + 1) bang (pnext b n k) L).2.1, (pread b n key F 0 (par + 1) bang (pnext b n k) L).2.2)
        else (false, (pread b n key F 0 (par + 1) bang (pnext b n k) L).2.1, []))
    else (false, k, []) := by rw [pread]; rw [if_neg (by omega)]
  rw [er] at hq
  unfold pmu at hm
  -- an operand is taken
  have opd : ∀ (y z : Nat), ¬ popd b key k = 30000 → (k.2.2.1 = 1 ∨ k.2.2.1 = 2) → ¬ ptn k = 4 → y = whatw (popd b key k) → z = valw key (popd b key k) → jFv E mX11_step (F + 4) 0 0 [.ref (x + 94), .int (nI y), .int (nI z)] S (fun S144 => jk S144 (x + 94) = 11 ∧ jFv E mX11_nextToken (F + 4) 0 0 [.ref (x + 94)] (jput S144 (x + 94) 29 ((ji S144 (x + 94) 29) + 1)) (fun S146 => Q 1 S146)) := by
    intro y z hne hs h4 ey ez
    rw [if_pos hs, if_neg hne] at hq
    have w2 := (popd_ok ok hne).2.1
    have hl := ok.lt (by omega)
    refine c_X11_stepW (w := popd b key k) hT.1 hC (by omega) hla ey ez (fun S1 g1 f1 e27 r1 => ⟨(hT.tp g1).1.1, ?_⟩)
    rw [f1 29 (by omega), hC.2.1, nI_1]
    have g2 : rtp S1 (jput S1 (x + 94) 29 (nI (pops L + 1))) x la := rtp.put (by omega) (by omega) (by omega)
    have T2 := (hT.tp g1).tp g2
    have K2 : TKM (jput S1 (x + 94) 29 (nI (pops L + 1))) x b k := (hK.of f1).put (by omega)
    have C2 : CDM (jput S1 (x + 94) 29 (nI (pops L + 1))) x la key (L ++ [popd b key k]) := by
      refine ⟨by rw [ji_put, if_neg (by omega), e27, List.length_append]; rfl, ?_, by rw [ji_put, if_neg (by omega), f1 28 (by omega)]; exact hC.2.2.1, fun i hi => by rw [ji_put_ne _ _ _ _ (by omega)]; exact r1 i (by rw [List.length_append] at hi; exact hi)⟩
      rw [ji_put_same, pops_app]
      show _ = nI (pops L + ((if popd b key k < 20000 then 1 else 0) + 0))
      rw [if_pos w2]
    refine c_X11_next T2 K2 ok h4 (fun S3 g3 K3 => hq S3 ((g1.trans g2).trans g3.tp) ⟨fun _ => ⟨K3, C2.ts g3, ?_, ?_⟩, fun z => Bool.noConfusion z⟩)
    · rw [g3.2.2 25 (by omega), ji_put, if_neg (by omega), f1 25 (by omega)]; exact e25
    · rw [g3.2.2 26 (by omega), ji_put, if_neg (by omega), f1 26 (by omega)]; exact e26
  -- signs
  have paren : (k.2.2.1 = 1 ∨ k.2.2.1 = 2 → popd b key k = 30000) → ¬ (k.2.2.1 = 3 ∧ b k.1 = 33 ∧ bang < 8) → jFi E mX11_isSign (F + 4) 0 0 [.ref (x + 94), .int 40] S (fun r9 S8 => (r9 = 0 → Q 0 S8) ∧ (¬ r9 = 0 → jk S8 (x + 94) = 11 ∧ ((ji S8 (x + 94) 25) = 8 → Q 0 S8) ∧ (¬ (ji S8 (x + 94) 25) = 8 → jFv E mX11_nextToken (F + 4) 0 0 [.ref (x + 94)] (jput S8 (x + 94) 25 ((ji S8 (x + 94) 25) + 1)) (fun S13 => jk S13 (x + 94) = 11 ∧ jFi E mX11_either (F + 4) 0 0 [.ref (x + 94), .int (nI key)] S13 (fun r16 S15 => (r16 = 0 → Q 0 S15) ∧ (¬ r16 = 0 → jk S15 (x + 94) = 11 ∧ jFi E mX11_isSign (F + 4) 0 0 [.ref (x + 94), .int 41] S15 (fun r20 S19 => (r20 = 0 → Q 0 S19) ∧ (¬ r20 = 0 → jk S19 (x + 94) = 11 ∧ jFv E mX11_nextToken (F + 4) 0 0 [.ref (x + 94)] (jput S19 (x + 94) 25 ((ji S19 (x + 94) 25) - 1)) (fun S23 => Q 1 S23))))))))) := by
    intro n1 n2
    by_cases hs : k.2.2.1 = 1 ∨ k.2.2.1 = 2
    · rw [if_pos hs, if_pos (n1 hs)] at hq
      exact c_X11_isSign (c := 40) hT hK ok (by omega) (fun c3 _ => absurd c3 (by omega)) (fun _ => ⟨fun _ => hq S rtp.rfl ⟨fun z => Bool.noConfusion z, fun _ => hK.1⟩, fun z => absurd rfl z⟩)
    rw [if_neg hs, if_neg n2] at hq
    refine c_X11_isSign (c := 40) hT hK ok (by omega) (fun c3 c40 => ⟨fun z => absurd z (by decide), fun _ => ⟨hT.1.1, ?_⟩⟩) (fun nn => ⟨fun _ => ?_, fun z => absurd rfl z⟩)
    · rw [e25]
      refine ⟨fun z => ?_, fun z => ?_⟩
      · have hp : par = 8 := nI_inj (b := 8) (by omega) (by omega) z
        rw [if_neg (by omega)] at hq
        exact hq S rtp.rfl ⟨fun z => Bool.noConfusion z, fun _ => hK.1⟩
      · have hp : par < 8 := by
          have : par ≠ 8 := fun q => z (by rw [q]; rfl)
          omega
        rw [if_pos ⟨c3, c40, hp⟩] at hq
        have en : k.1 < k.2.1 := ok.2.2.2.1 (by omega)
        have p3 : ptn k = 3 := (ptn_3 s3).mpr c3
        rw [nI_1]
        have g0 : rtp S (jput S (x + 94) 25 (nI (par + 1))) x la := rtp.put (by omega) (by omega) (by omega)
        refine c_X11_next (hT.tp g0) (hK.put (by omega)) ok (by omega) (fun S1 g1 K1 => ⟨((hT.tp g0).ts g1).1.1, ?_⟩)
        have pg := pread_ok (b := b) (n := n) (key := key) F 0 (par + 1) bang (pnext b n k) L hn.1
        refine hEi (par + 1) bang (pnext b n k) L S1 _ (by unfold pmu; omega) (by omega) hb8 ((hT.tp g0).ts g1) K1 hn.1 ((hC.put (by omega)).ts g1) (by rw [g1.2.2 25 (by omega), ji_put_same]) (by rw [g1.2.2 26 (by omega), ji_put, if_neg (by omega)]; exact e26) (by omega) (fun S2 g2 p2 => ?_)
        generalize pread b n key F 0 (par + 1) bang (pnext b n k) L = r at hq pg p2 ⊢
        have g12 : rtp S S2 x la := (g0.trans g1.tp).trans g2
        have T2 := hT.tp g12
        by_cases c1 : r.1 = true
        · have eB : rB r = 1 := by unfold rB; rw [if_pos c1]
          rw [eB]
          obtain ⟨K2, C2, q25, q26⟩ := p2.1 c1
          refine ⟨fun z => absurd z (by decide), fun _ => ⟨T2.1.1, c_X11_isSign (c := 41) T2 K2 pg.1 (by omega) (fun d3 d41 => ⟨fun z => absurd z (by decide), fun _ => ⟨T2.1.1, ?_⟩⟩) (fun nn => ⟨fun _ => ?_, fun z => absurd rfl z⟩)⟩⟩
          · rw [if_pos ⟨c1, d3, d41⟩] at hq
            rw [q25, nI_pred]
            have g3 : rtp S2 (jput S2 (x + 94) 25 (nI par)) x la := rtp.put (by omega) (by omega) (by omega)
            have p3' : ptn r.2.1 = 3 := (ptn_3 pg.1.so).mpr d3
            refine c_X11_next (T2.tp g3) (K2.put (by omega)) pg.1 (by omega) (fun S4 g4 K4 => hq S4 ((g12.trans g3).trans g4.tp) ⟨fun _ => ⟨K4, (C2.put (by omega)).ts g4, ?_, ?_⟩, fun z => Bool.noConfusion z⟩)
            · rw [g4.2.2 25 (by omega), ji_put_same]
            · rw [g4.2.2 26 (by omega), ji_put, if_neg (by omega)]; exact q26
          · rw [if_neg (fun z => nn z.2)] at hq
            exact hq S2 g12 ⟨fun z => Bool.noConfusion z, fun _ => K2.1⟩
        · have eB : rB r = 0 := by unfold rB; rw [if_neg c1]
          rw [eB]
          have cf : r.1 = false := by simpa using c1
          rw [if_neg (fun z => c1 z.1)] at hq
          exact ⟨fun _ => hq S2 g12 ⟨fun z => Bool.noConfusion z, fun _ => p2.2 cf⟩, fun z => absurd rfl z⟩
    · rw [if_neg (fun q => nn ⟨q.1, q.2.1⟩)] at hq
      exact hq S rtp.rfl ⟨fun z => Bool.noConfusion z, fun _ => hK.1⟩
  have sg : (k.2.2.1 = 1 ∨ k.2.2.1 = 2 → popd b key k = 30000) → jFi E mX11_isSign (F + 4) 0 0 [.ref (x + 94), .int 33] S (fun r5 S4 => (r5 = 0 → jk S4 (x + 94) = 11 ∧ jFi E mX11_isSign (F + 4) 0 0 [.ref (x + 94), .int 40] S4 (fun r9 S8 => (r9 = 0 → Q 0 S8) ∧ (¬ r9 = 0 → jk S8 (x + 94) = 11 ∧ ((ji S8 (x + 94) 25) = 8 → Q 0 S8) ∧ (¬ (ji S8 (x + 94) 25) = 8 → jFv E mX11_nextToken (F + 4) 0 0 [.ref (x + 94)] (jput S8 (x + 94) 25 ((ji S8 (x + 94) 25) + 1)) (fun S13 => jk S13 (x + 94) = 11 ∧ jFi E mX11_either (F + 4) 0 0 [.ref (x + 94), .int (nI key)] S13 (fun r16 S15 => (r16 = 0 → Q 0 S15) ∧ (¬ r16 = 0 → jk S15 (x + 94) = 11 ∧ jFi E mX11_isSign (F + 4) 0 0 [.ref (x + 94), .int 41] S15 (fun r20 S19 => (r20 = 0 → Q 0 S19) ∧ (¬ r20 = 0 → jk S19 (x + 94) = 11 ∧ jFv E mX11_nextToken (F + 4) 0 0 [.ref (x + 94)] (jput S19 (x + 94) 25 ((ji S19 (x + 94) 25) - 1)) (fun S23 => Q 1 S23)))))))))) ∧ (¬ r5 = 0 → jk S4 (x + 94) = 11 ∧ (8 ≤ (ji S4 (x + 94) 26) → jFi E mX11_isSign (F + 4) 0 0 [.ref (x + 94), .int 40] S4 (fun r9 S8 => (r9 = 0 → Q 0 S8) ∧ (¬ r9 = 0 → jk S8 (x + 94) = 11 ∧ ((ji S8 (x + 94) 25) = 8 → Q 0 S8) ∧ (¬ (ji S8 (x + 94) 25) = 8 → jFv E mX11_nextToken (F + 4) 0 0 [.ref (x + 94)] (jput S8 (x + 94) 25 ((ji S8 (x + 94) 25) + 1)) (fun S13 => jk S13 (x + 94) = 11 ∧ jFi E mX11_either (F + 4) 0 0 [.ref (x + 94), .int (nI key)] S13 (fun r16 S15 => (r16 = 0 → Q 0 S15) ∧ (¬ r16 = 0 → jk S15 (x + 94) = 11 ∧ jFi E mX11_isSign (F + 4) 0 0 [.ref (x + 94), .int 41] S15 (fun r20 S19 => (r20 = 0 → Q 0 S19) ∧ (¬ r20 = 0 → jk S19 (x + 94) = 11 ∧ jFv E mX11_nextToken (F + 4) 0 0 [.ref (x + 94)] (jput S19 (x + 94) 25 ((ji S19 (x + 94) 25) - 1)) (fun S23 => Q 1 S23)))))))))) ∧ (¬ 8 ≤ (ji S4 (x + 94) 26) → jFv E mX11_nextToken (F + 4) 0 0 [.ref (x + 94)] (jput S4 (x + 94) 26 ((ji S4 (x + 94) 26) + 1)) (fun S42 => jk S42 (x + 94) = 11 ∧ jFi E mX11_part0 (F + 4) 0 0 [.ref (x + 94), .int (nI key)] S42 (fun r45 S44 => (r45 = 0 → Q 0 S44) ∧ (¬ r45 = 0 → jk S44 (x + 94) = 11 ∧ jFv E mX11_step (F + 4) 0 0 [.ref (x + 94), .int 2, .int 33] (jput S44 (x + 94) 26 ((ji S44 (x + 94) 26) - 1)) (fun S48 => Q 1 S48))))))) := by
    intro n1
    refine c_X11_isSign (c := 33) hT hK ok (by omega) (fun c3 c33 => ⟨fun z => absurd z (by decide), fun _ => ⟨hT.1.1, ?_⟩⟩) (fun nn => ⟨fun _ => ⟨hT.1.1, paren n1 (fun q => nn ⟨q.1, q.2.1⟩)⟩, fun z => absurd rfl z⟩)
    rw [e26]
    refine ⟨fun z => ?_, fun z => ?_⟩
    · have := (nI_leI (a := 8) (by omega) (by omega)).mp z
      exact paren n1 (fun q => by omega)
    · have hb : bang < 8 := by
        rcases Nat.lt_or_ge bang 8 with q | q
        · exact q
        · exact absurd (nI_le (a := 8) q (by omega)) z
      rw [if_neg (by omega), if_pos ⟨c3, c33, hb⟩] at hq
      have en : k.1 < k.2.1 := ok.2.2.2.1 (by omega)
      have p3 : ptn k = 3 := (ptn_3 s3).mpr c3
      rw [nI_1]
      have g0 : rtp S (jput S (x + 94) 26 (nI (bang + 1))) x la := rtp.put (by omega) (by omega) (by omega)
      refine c_X11_next (hT.tp g0) (hK.put (by omega)) ok (by omega) (fun S1 g1 K1 => ⟨((hT.tp g0).ts g1).1.1, ?_⟩)
      have pg := pread_ok (b := b) (n := n) (key := key) F 5 par (bang + 1) (pnext b n k) L hn.1
      refine hP par (bang + 1) (pnext b n k) L S1 _ (by unfold pmu; omega) hp8 (by omega) ((hT.tp g0).ts g1) K1 hn.1 ((hC.put (by omega)).ts g1) (by rw [g1.2.2 25 (by omega), ji_put, if_neg (by omega)]; exact e25) (by rw [g1.2.2 26 (by omega), ji_put_same]) (by omega) (fun S2 g2 p2 => ?_)
      generalize pread b n key F 5 par (bang + 1) (pnext b n k) L = r at hq pg p2 ⊢
      have g12 : rtp S S2 x la := (g0.trans g1.tp).trans g2
      have T2 := hT.tp g12
      by_cases c1 : r.1 = true
      · have eB : rB r = 1 := by unfold rB; rw [if_pos c1]
        rw [eB]
        obtain ⟨K2, C2, q25, q26⟩ := p2.1 c1
        obtain ⟨k1, k2, -⟩ := pg.2.2 c1
        have k3 := pg.1.1
        have k4 := pg.1.2.1
        refine ⟨fun z => absurd z (by decide), fun _ => ⟨T2.1.1, ?_⟩⟩
        rw [if_pos c1] at hq
        rw [q26, nI_pred]
        have g3 : rtp S2 (jput S2 (x + 94) 26 (nI bang)) x la := rtp.put (by omega) (by omega) (by omega)
        refine c_X11_stepW (w := 20033) (y := 2) (z := 33) (T2.tp g3).1 (C2.put (by omega)) (by omega) hla rfl rfl (fun S4 g4 f4 e27 r4 => hq S4 ((g12.trans g3).trans g4) ⟨fun _ => ⟨(K2.put (by omega)).of f4, (C2.put (by omega)).add (by omega) f4 e27 r4, ?_, ?_⟩, fun z => Bool.noConfusion z⟩)
        · rw [f4 25 (by omega), ji_put, if_neg (by omega)]; exact q25
        · rw [f4 26 (by omega), ji_put_same]
      · have eB : rB r = 0 := by unfold rB; rw [if_neg c1]
        rw [eB]
        have cf : r.1 = false := by simpa using c1
        rw [if_neg c1] at hq
        exact ⟨fun _ => hq S2 g12 ⟨fun z => Bool.noConfusion z, fun _ => p2.2 cf⟩, fun z => absurd rfl z⟩
  -- which token
  have p4 := ptn_le k
  refine T_X11_part0 ⟨hT.1.1, ?_⟩
  rw [hK.2.2.1]
  have nb := ok.2.2.2.2.1
  refine ⟨fun c2 => ?_, fun c2 => ⟨fun c1 => ?_, fun c1 => sg (fun hs => ?_)⟩⟩
  · have e2 : ptn k = 2 := nI_inj (b := 2) (by omega) (by omega) c2
    have hs : k.2.2.1 = 2 ∧ ¬ (k.2.2.2 = 1 ∨ 4 < k.2.1 - k.1) := by
      unfold ptn at e2
      by_cases a0 : k.2.2.1 = 0
      · rw [if_pos a0] at e2; exact absurd e2 (by decide)
      · rw [if_neg a0] at e2
        by_cases a1 : k.2.2.1 = 1
        · rw [if_pos a1] at e2
          split at e2 <;> exact absurd e2 (by decide)
        · rw [if_neg a1] at e2
          by_cases a2 : k.2.2.1 = 2
          · rw [if_pos a2] at e2
            refine ⟨a2, fun z => ?_⟩
            rw [if_pos z] at e2; exact absurd e2 (by decide)
          · rw [if_neg a2] at e2; exact absurd e2 (by decide)
    have ep : popd b key k = pnum b (k.2.1 - k.1) k.1 0 := by unfold popd; rw [if_neg (fun z => hs.2 (Or.inl z)), if_pos hs.1, if_neg (fun z => hs.2 (Or.inr z))]
    have hlt : pnum b (k.2.1 - k.1) k.1 0 < 10000 := by
      have hb := pnum_lt b (k.2.1 - k.1) k.1 0 0 (fun q q1 q2 => psrt_2 ((ok.2.2.2.2.2.2 q q1 (by omega)).trans hs.1)) (by decide)
      have hp : 10 ^ (0 + (k.2.1 - k.1)) ≤ 10 ^ 4 := Nat.pow_le_pow_right (by omega) (by omega)
      have e4 : (10 : Nat) ^ 4 = 10000 := by decide
      omega
    rw [hK.2.2.2.2.2 hs.1 (by omega)]
    refine opd 0 _ (by omega) (Or.inr hs.1) (by omega) ?_ ?_
    · rw [ep]; unfold whatw; rw [if_pos hlt]
    · rw [ep]; unfold valw; rw [if_pos hlt]
  · have e1 : ptn k = 1 := nI_inj (b := 1) (by omega) (by omega) c1
    have hs : k.2.2.1 = 1 ∧ ¬ k.2.2.2 = 1 := by
      unfold ptn at e1
      by_cases a0 : k.2.2.1 = 0
      · rw [if_pos a0] at e1; exact absurd e1 (by decide)
      · rw [if_neg a0] at e1
        by_cases a1 : k.2.2.1 = 1
        · rw [if_pos a1] at e1
          refine ⟨a1, fun z => ?_⟩
          rw [if_pos z] at e1; exact absurd e1 (by decide)
        · rw [if_neg a1] at e1
          by_cases a2 : k.2.2.1 = 2
          · rw [if_pos a2] at e1
            split at e1 <;> exact absurd e1 (by decide)
          · rw [if_neg a2] at e1; exact absurd e1 (by decide)
    have hl := ok.lt (by omega)
    have hb := (hT.2.2.2 k.1 hl).1
    have hlet := (psrt_1.mp (ok.2.2.1.symm.trans hs.1)).2
    have ep : popd b key k = if k.2.1 - k.1 = 1 then (if pnam key (b k.1) = 9 then 30000 else 10000 + pnam key (b k.1)) else 30000 := by unfold popd; rw [if_neg hs.2, if_neg (by omega), if_pos hs.1]
    rw [hK.2.2.2.2.1 hs.1]
    by_cases q1 : k.2.1 - k.1 = 1
    · rw [if_pos q1] at ep ⊢
      refine ⟨fun z => ?_, fun _ => ?_⟩
      · have := nI_inj (b := 0) (by omega) (by omega) z
        omega
      · rw [isname_eq ⟨key, hk⟩ ⟨b k.1, hb⟩]
        by_cases q9 : pnam key (b k.1) = 9
        · rw [if_pos q9] at ep ⊢
          exact ⟨fun _ => sg (fun _ => ep), fun z => absurd rfl z⟩
        · rw [if_neg q9] at ep ⊢
          have p9 := pnam_le key (b k.1)
          refine ⟨fun z => absurd z (by decide), fun _ => opd 1 (b k.1) (by omega) (Or.inl hs.1) (by omega) ?_ ?_⟩
          · rw [ep]; unfold whatw; rw [if_neg (by omega), if_pos (by omega)]
          · rw [ep]; unfold valw; rw [if_neg (by omega), if_pos (by omega), show 10000 + pnam key (b k.1) - 10000 = pnam key (b k.1) by omega]
            exact (letw_eq ⟨key, hk⟩ ⟨b k.1, hb⟩ q9).symm
    · rw [if_neg q1] at ep ⊢
      exact ⟨fun _ => sg (fun _ => ep), fun z => absurd rfl z⟩
  · have e2 : ¬ ptn k = 2 := fun z => c2 (by rw [z]; rfl)
    have e1 : ¬ ptn k = 1 := fun z => c1 (by rw [z]; rfl)
    unfold ptn at e1 e2
    unfold popd
    rcases hs with a1 | a2
    · rw [if_neg (by omega), if_pos a1] at e1
      have z : k.2.2.2 = 1 := by
        refine Classical.byContradiction (fun q => ?_)
        rw [if_neg q] at e1; exact e1 rfl
      rw [if_pos z]
    · rw [if_neg (by omega), if_neg (by omega), if_pos a2] at e2
      have z : k.2.2.2 = 1 ∨ 4 < k.2.1 - k.1 := by
        refine Classical.byContradiction (fun q => ?_)
        rw [if_neg q] at e2; exact e2 rfl
      by_cases z1 : k.2.2.2 = 1
      · rw [if_pos z1]
      · rw [if_neg z1, if_pos a2, if_pos (by omega)]
/-- all levels, by fuel -/
theorem R_all (hk : key < 3) (hla : la + 196 ≤ 3135) : ∀ F : Nat, RdM E x n la key b F 0 (F + 4) mX11_either ∧ RdM E x n la key b F 1 (F + 4) mX11_both ∧ RdM E x n la key b F 2 (F + 4) mX11_test ∧ RdM E x n la key b F 3 (F + 4) mX11_sum ∧ RdM E x n la key b F 4 (F + 4) mX11_term ∧ RdM E x n la key b F 5 (F + 4) mX11_part0
  | 0 => by
    refine ⟨?_, ?_, ?_, ?_, ?_, ?_⟩
    all_goals
      intro par bang k L S Q hm
      unfold pmu at hm
      omega
  | F + 1 => by
    obtain ⟨h0, h1, h2, h3, h4, h5⟩ := R_all hk hla F
    exact ⟨R_either hla h1, R_both hla h2, R_test hla h3, R_sum hla h4, R_term hla h5, R_part0 hk hla h5 h0⟩
end jRef6
end
section
/-! TEXT: the reference's whole tape -/
/-- what its parsing changes -/
def rtq (S S' : jM) (x la : Nat) : Prop := jsame S S' ∧ (∀ y, y ≠ x + 94 → y ≠ x + 95 → ji S' y = ji S y) ∧ (∀ j, (j < 19 ∨ 30 ≤ j) → ji S' (x + 94) j = ji S (x + 94) j) ∧ ji S' (x + 94) 19 = 0 ∧ ∀ j, (j < la ∨ la + 196 ≤ j) → ji S' (x + 95) j = ji S (x + 95) j
def pla (cnt : Nat) : Nat := if cnt < 14 then 139 + 200 * cnt else 2935
section jRef7
variable {E : jEnv} {d : Nat} {S S' : jM} {x n : Nat} {b : Nat → Nat}
theorem c_X11_parse {Q : Int32 → jM → Prop} {cnt : Nat} {v : Nat → Int32} (hM : MR S (x + 94) v) (hT : RB S x n b) (e1 : v 1 = nI cnt) (hc : cnt ≤ 14)
    (h1 : (ptx b n).1 = true → ∀ S', rtq S S' x (pla cnt) → CDM S' x (pla cnt) (ptx b n).2.2.1 (ptx b n).2.2.2 → Q (nI (ptx b n).2.2.1) S')
    (h0 : (ptx b n).1 = false → ∀ S', rtq S S' x (pla cnt) → ji S' (x + 94) 20 = nI (ptx b n).2.1 → Q (-1) S') : jFi E mX11_parse 75 0 0 [.ref (x + 94)] S Q := by
  have h96 := hT.2.1
  have hla : pla cnt + 196 ≤ 3135 := by unfold pla; split <;> omega
  have ok0 := (ptok_ok (b := b) (n := n) (w := 0) (e := 0) (Nat.zero_le _)).1
  have hn := pnext_ok ok0
  have nb0 : (ptok b n 0 0).2.2.2 = 0 := by
    show (if 0 = 1 ∧ pskp b (n - 0) 0 = 0 then 1 else 0) = 0
    rw [if_neg (fun z => absurd z.1 (by decide))]
  have i1 := hM.at (i := 1) 1 rfl (by omega)
  -- behind the start
  have go : ∀ S0 : jM, rtp S S0 x (pla cnt) ∨ True → jsame S S0 → (∀ y, y ≠ x + 94 → ji S0 y = ji S y) → (∀ j, (j < 21 ∨ 30 ≤ j) → ji S0 (x + 94) j = ji S (x + 94) j) → ji S0 (x + 94) 21 = nI 0 → ji S0 (x + 94) 22 = nI 3 → ji S0 (x + 94) 25 = nI 0 → ji S0 (x + 94) 26 = nI 0 → ji S0 (x + 94) 27 = nI 0 → ji S0 (x + 94) 29 = nI 0 → ji S0 (x + 94) 28 = nI (pla cnt) → jFv E mX11_nextToken 74 0 0 [.ref (x + 94)] S0 (fun S6 => jk S6 (x + 94) = 11 ∧ jFi E mX11_key 74 0 0 [.ref (x + 94)] S6 (fun r9 S8 => (r9 < 0 → jk S8 (x + 94) = 11 ∧ Q (-1) (jput S8 (x + 94) 19 0)) ∧ (¬ r9 < 0 → jk S8 (x + 94) = 11 ∧ jFv E mX11_nextToken 74 0 0 [.ref (x + 94)] S8 (fun S13 => jk S13 (x + 94) = 11 ∧ jFi E mX11_either 74 0 0 [.ref (x + 94), .int r9] S13 (fun r16 S15 => (r16 = 0 → jk S15 (x + 94) = 11 ∧ Q (-1) (jput S15 (x + 94) 19 0)) ∧ (¬ r16 = 0 → jk S15 (x + 94) = 11 ∧ ((ji S15 (x + 94) 22) = 0 → Q r9 (jput S15 (x + 94) 19 0)) ∧ (¬ (ji S15 (x + 94) 22) = 0 → Q (-1) (jput S15 (x + 94) 19 0)))))))) := by
    intro S0 _ s0 o0 f0 f21 f22 f25 f26 f27 f29 f28
    have T0 : RB S0 x n b := ⟨hT.1.same s0, hT.2.1, (f0 19 (by omega)).trans hT.2.2.1, fun j hj => ⟨(hT.2.2.2 j hj).1, by rw [o0 _ (by omega)]; exact (hT.2.2.2 j hj).2⟩⟩
    have fin : ∀ S2 : jM, rtp S0 S2 x (pla cnt) → rtq S (jput S2 (x + 94) 19 0) x (pla cnt) := fun S2 g => ⟨s0.trans (g.1.trans ⟨rfl, rfl, rfl, rfl⟩), fun y a c => by rw [ji_put_ne _ _ _ _ a, g.2.1 y a c]; exact o0 y a, fun j hj => by rw [ji_put, if_neg (by omega), g.2.2.1 j (by omega)]; exact f0 j (by omega), ji_put_same _ _ _ _, fun j hj => by rw [ji_put_ne _ _ _ _ (by omega), g.2.2.2 j hj, o0 _ (by omega)]⟩
    have p20 : ∀ S2 : jM, ji (jput S2 (x + 94) 19 0) (x + 94) 20 = ji S2 (x + 94) 20 := fun S2 => by rw [ji_put, if_neg (by omega)]
    refine c_X11_token T0 f21 f22 (Nat.zero_le _) (by omega) (fun S1 g1 K1 => ?_)
    rw [if_neg (by omega)] at K1
    have T1 := T0.ts g1
    refine ⟨T1.1.1, c_X11_key T1 K1 ok0 nb0 ?_⟩
    by_cases c9 : pkey b (ptok b n 0 0) = 9
    · rw [if_pos c9]
      have e9 : ptx b n = (false, (ptok b n 0 0).1, 0, []) := by unfold ptx; rw [if_pos c9]
      rw [e9] at h0
      exact ⟨fun _ => ⟨T1.1.1, h0 rfl _ (fin S1 g1.tp) ((p20 S1).trans K1.1)⟩, fun z => absurd (by decide) z⟩
    · rw [if_neg c9]
      have hk := pkey_lt c9
      have e9 : ptx b n = if (pread b n (pkey b (ptok b n 0 0)) 70 0 0 0 (pnext b n (ptok b n 0 0)) []).1 = true ∧ (pread b n (pkey b (ptok b n 0 0)) 70 0 0 0 (pnext b n (ptok b n 0 0)) []).2.1.2.2.1 = 0 then (true, 0, pkey b (ptok b n 0 0), (pread b n (pkey b (ptok b n 0 0)) 70 0 0 0 (pnext b n (ptok b n 0 0)) []).2.2) else (false, (pread b n (pkey b (ptok b n 0 0)) 70 0 0 0 (pnext b n (ptok b n 0 0)) []).2.1.1, 0, []) := by
        unfold ptx
        rw [if_neg c9]
      rw [e9] at h1 h0
      have kw : (ptok b n 0 0).2.2.1 = 1 ∧ (ptok b n 0 0).2.1 - (ptok b n 0 0).1 = 4 := by
        unfold pkey at c9
        by_cases a0 : (ptok b n 0 0).2.2.1 = 1 ∧ (ptok b n 0 0).2.1 - (ptok b n 0 0).1 = 4
        · exact a0
        · exfalso
          rw [if_neg (fun z => a0 ⟨z.1, z.2.1⟩), if_neg (fun z => a0 ⟨z.1, z.2.1⟩), if_neg (fun z => a0 ⟨z.1, z.2.1⟩)] at c9
          exact c9 rfl
      have p1 : ¬ ptn (ptok b n 0 0) = 4 := by
        unfold ptn
        rw [if_neg (by omega), if_pos kw.1, if_neg (by omega)]; decide
      generalize pkey b (ptok b n 0 0) = key at h1 h0 hk ⊢
      refine ⟨fun z => absurd z (nI_pos (by omega)), fun _ => ⟨T1.1.1, c_X11_next T1 K1 ok0 p1 (fun S2 g2 K2 => ⟨(T1.ts g2).1.1, ?_⟩)⟩⟩
      have g12 : rts S0 S2 x := g1.trans g2
      have pg := pread_ok (b := b) (n := n) (key := key) 70 0 0 0 (pnext b n (ptok b n 0 0)) [] hn.1
      have C2 : CDM S2 x (pla cnt) key [] := ⟨(g12.2.2 27 (by omega)).trans f27, (g12.2.2 29 (by omega)).trans f29, (g12.2.2 28 (by omega)).trans f28, fun i hi => absurd hi (Nat.not_lt_zero _)⟩
      have l4 : 0 + 1 ≤ (pnext b n (ptok b n 0 0)).1 := by
        have := hn.2
        have := kw.2
        omega
      refine (R_all (la := pla cnt) hk hla 70).1 0 0 (pnext b n (ptok b n 0 0)) [] S2 _ (by decide) (by omega) (by omega) (T1.ts g2) K2 hn.1 C2 ((g12.2.2 25 (by omega)).trans f25) ((g12.2.2 26 (by omega)).trans f26) l4 (fun S3 g3 p3 => ?_)
      generalize pread b n key 70 0 0 0 (pnext b n (ptok b n 0 0)) [] = r at h1 h0 pg p3 ⊢
      have g13 : rtp S0 S3 x (pla cnt) := g12.tp.trans g3
      have T3 := T0.tp g13
      by_cases c1 : r.1 = true
      · have eB : rB r = 1 := by unfold rB; rw [if_pos c1]
        rw [eB]
        obtain ⟨K3, C3, -, -⟩ := p3.1 c1
        have p4 := ptn_le r.2.1
        refine ⟨fun z => absurd z (by decide), fun _ => ⟨T3.1.1, ?_⟩⟩
        rw [K3.2.2.1]
        refine ⟨fun z => ?_, fun z => ?_⟩
        · have e0 : r.2.1.2.2.1 = 0 := (ptn_0 pg.1.so).mp (nI_inj (b := 0) (by omega) (by omega) z)
          rw [if_pos ⟨c1, e0⟩] at h1
          exact h1 rfl _ (fin S3 g13) (C3.put (by omega))
        · rw [if_neg (fun q => z (by rw [(ptn_0 pg.1.so).mpr q.2]; rfl))] at h0
          exact h0 rfl _ (fin S3 g13) ((p20 S3).trans K3.1)
      · have eB : rB r = 0 := by unfold rB; rw [if_neg c1]
        rw [eB]
        have cf : r.1 = false := by simpa using c1
        rw [if_neg (fun q => c1 q.1)] at h0
        exact ⟨fun _ => ⟨T3.1.1, h0 rfl _ (fin S3 g13) ((p20 S3).trans (p3.2 cf))⟩, fun z => absurd rfl z⟩
  refine T_X11_parse ⟨hM.k, _, hM.r, hM.k1, i1.1, ?_⟩
  rw [i1.2, e1]
  have st : ∀ w : Int32, w = nI (pla cnt) → jFv E mX11_nextToken 74 0 0 [.ref (x + 94)] (jput (jput (jput (jput (jput (jput (jput S (x + 94) 21 0) (x + 94) 22 3) (x + 94) 25 0) (x + 94) 26 0) (x + 94) 27 0) (x + 94) 29 0) (x + 94) 28 w) (fun S6 => jk S6 (x + 94) = 11 ∧ jFi E mX11_key 74 0 0 [.ref (x + 94)] S6 (fun r9 S8 => (r9 < 0 → jk S8 (x + 94) = 11 ∧ Q (-1) (jput S8 (x + 94) 19 0)) ∧ (¬ r9 < 0 → jk S8 (x + 94) = 11 ∧ jFv E mX11_nextToken 74 0 0 [.ref (x + 94)] S8 (fun S13 => jk S13 (x + 94) = 11 ∧ jFi E mX11_either 74 0 0 [.ref (x + 94), .int r9] S13 (fun r16 S15 => (r16 = 0 → jk S15 (x + 94) = 11 ∧ Q (-1) (jput S15 (x + 94) 19 0)) ∧ (¬ r16 = 0 → jk S15 (x + 94) = 11 ∧ ((ji S15 (x + 94) 22) = 0 → Q r9 (jput S15 (x + 94) 19 0)) ∧ (¬ (ji S15 (x + 94) 22) = 0 → Q (-1) (jput S15 (x + 94) 19 0)))))))) := by
    intro w hw
    have q : ∀ j, ji (jput (jput (jput (jput (jput (jput (jput S (x + 94) 21 0) (x + 94) 22 3) (x + 94) 25 0) (x + 94) 26 0) (x + 94) 27 0) (x + 94) 29 0) (x + 94) 28 w) (x + 94) j = if j = 28 then w else if j = 29 then 0 else if j = 27 then 0 else if j = 26 then 0 else if j = 25 then 0 else if j = 22 then 3 else if j = 21 then 0 else ji S (x + 94) j := fun j => by
      simp only [ji_put, true_and]
    refine go _ (Or.inr trivial) ⟨rfl, rfl, rfl, rfl⟩ (fun y hy => by rw [ji_put_ne _ _ _ _ hy, ji_put_ne _ _ _ _ hy, ji_put_ne _ _ _ _ hy, ji_put_ne _ _ _ _ hy, ji_put_ne _ _ _ _ hy, ji_put_ne _ _ _ _ hy, ji_put_ne _ _ _ _ hy]) (fun j hj => ?_) ?_ ?_ ?_ ?_ ?_ ?_ ?_
    · rw [q, if_neg (by omega), if_neg (by omega), if_neg (by omega), if_neg (by omega), if_neg (by omega), if_neg (by omega), if_neg (by omega)]
    · rw [q]; rfl
    · rw [q]; rfl
    · rw [q]; rfl
    · rw [q]; rfl
    · rw [q]; rfl
    · rw [q]; rfl
    · rw [q, if_pos rfl]; exact hw
  refine ⟨fun c => st _ ?_, fun c => st _ ?_⟩
  · have := (nI_leI (a := 14) (by omega) (by omega)).mp c
    unfold pla; rw [if_neg (by omega)]; rfl
  · have hlt : cnt < 14 := by
      rcases Nat.lt_or_ge cnt 14 with z | z
      · exact z
      · exact absurd (nI_le (a := 14) z (by omega)) c
    unfold pla jtextat
    rw [if_pos hlt, show (135 : Int32) = nI 135 from rfl, show (200 : Int32) = nI 200 from rfl, show (4 : Int32) = nI 4 from rfl]
    rw [nI_mul, nI_add, nI_add]
    congr 1
    omega
end jRef7
end
section
/-! TEXT on both sides: what is left behind -/
theorem TxM.cong2 {v v' : Nat → Int32} {t key n ops : Nat} {cw : Nat → Nat} (h : TxM v t key n ops cw) (hn : n ≤ 96) (he : ∀ j, 135 + 200 * t ≤ j → j < 335 + 200 * t → v' j = v j) : TxM v' t key n ops cw := by
  obtain ⟨a1, a2, a3, a4⟩ := h
  unfold TxM
  rw [he _ (by omega) (by omega), he _ (by omega) (by omega), he _ (by omega) (by omega)]
  refine ⟨a1, a2, a3, fun i hi => ?_⟩
  rw [he _ (by omega) (by omega), he _ (by omega) (by omega)]
  exact a4 i hi
section jText
variable {E : jEnv} {d : Nat} {S S' : jM} {x sz M : Nat} {v v' : Nat → Int32}
theorem TXS.row2 {r cnt : Nat} (h : TXS S x r M v) (hs : jsame S S') (hi : ∀ y, x + 115 ≤ y → (y - x) % 3 ≠ 0 → ji S' y = ji S y) (ec : v 1 = nI cnt) (hc : cnt ≤ 14) (e1 : v' 1 = v 1) (he : ∀ j, 135 ≤ j → j < 135 + 200 * cnt → v' j = v j) : TXS S' x r M v' := by
  obtain ⟨c, c14, ev, hT, hz⟩ := h
  obtain rfl : c = cnt := nI_inj (by omega) (by omega) (ev.symm.trans ec)
  obtain ⟨k, l, rr, -⟩ := hs
  refine ⟨c, c14, e1.trans ev, fun t ht => ?_, fun t ht b hb => ?_⟩
  · obtain ⟨m, key, n, ops, cw, hm, a1, a2, a3, a4, a5⟩ := hT t ht
    exact ⟨m, key, n, ops, cw, hm, by rw [rr]; exact a1, a2, a3.move (fun y p q => by rw [k]) (fun y p q => by rw [l]) (by rw [rr]) (fun y p q => hi y (by omega) (by omega)), a4.cong2 a5.2.2.2.2.2.2 (fun j p q => he j (by omega) (by omega)), a5⟩
  · rw [rr] at hb; rw [k]; exact hz t ht b hb
/-- the tape is gone, nothing else -/
theorem IV.fault {cnt : Nat} (h : IV S x sz M v) (ec : v 1 = nI cnt) (hc : cnt ≤ 14) (hs : jsame S S') (o : ∀ y, y ≠ x + 60 → y ≠ x + 62 → y ≠ x + 94 → y ≠ x + 95 → ji S' y = ji S y) (t1 : ji S' (x + 60) 1 = 0) (m : ∀ j, (j < 19 ∨ 30 ≤ j) → ji S' (x + 94) j = ji S (x + 94) j) (m19 : ji S' (x + 94) 19 = 0) (row : ∀ j, (j < pla cnt ∨ pla cnt + 196 ≤ j) → ji S' (x + 95) j = ji S (x + 95) j) : INV S' x M := by
  obtain ⟨⟨hX, hM, hg⟩, hC, hGL, hjn, hT, hI, hS, hSl, hW, hTp⟩ := id h
  have pl : 139 + 200 * cnt ≤ pla cnt ∨ (cnt = 14 ∧ pla cnt = 2935) := by
    unfold pla
    split <;> omega
  have ev : ∀ j, (j < pla cnt ∨ pla cnt + 196 ≤ j) → ji S' (x + 95) j = v j := fun j hj => (row j hj).trans (hM.2 j)
  refine ⟨sz, fun j => ji S' (x + 95) j, ⟨hX.of hs ((hX.2.2.grow (fun y p q => ⟨by rw [hs.1], by rw [hs.2.1], o y (by omega) (by omega) (by omega) (by omega), by rw [hs.2.2.1]⟩)).cong (fun j hj => ev j (by omega))), ⟨hM.1.same hs, fun j => rfl⟩, hg.cong (fun j hj => ev j (by omega))⟩, hC.same hs, hGL.same hs, by rw [hs.2.2.2]; exact hjn, ?_, hI.keep hs (by rw [o x (by omega) (by omega) (by omega) (by omega)]) (m 3 (by omega)) (fun y hy => o y (by omega) (by omega) (by omega) (by omega)), hS.keep (fun y hy => o y (by omega) (by omega) (by omega) (by omega)), hSl.keep (fun y hy => o y (by omega) (by omega) (by omega) (by omega)), hW.keep (by rw [o x (by omega) (by omega) (by omega) (by omega)]) (m 34 (by omega)) (o _ (by omega) (by omega) (by omega) (by omega)) (o _ (by omega) (by omega) (by omega) (by omega)), ⟨0, by omega, t1, m19, fun j hj => absurd hj (Nat.not_lt_zero _)⟩⟩
  exact hT.row2 hs (fun y p _ => o y (by omega) (by omega) (by omega) (by omega)) ec hc (ev 1 (by omega)) (fun j p q => ev j (by omega))
end jText
end
section
/-! TEXT on both sides: one text more -/
section jMore
variable {S S' : jM} {x sz M : Nat} {v : Nat → Int32}
theorem CL.pt (h : CL S x) (hk : ∀ y, y < x + 115 → jk S' y = jk S y) (hl : ∀ y, y < x + 115 → jl S' y = jl S y) (hr : ∀ y, y < x + 115 → y ≠ x + 20 → jr S' y = jr S y) : CL S' x := by
  obtain ⟨a1, ⟨a2, a3, a4, a5, a6, a7, a8, a9⟩, ⟨b1, b2, b3, b4, b5⟩, ⟨c1, c2, c3, c4, c5, c6, c7⟩, ⟨e1, e2, e3⟩, ⟨f1, f2, f3⟩, ⟨g1, g2⟩, hsh, hsl⟩ := h
  have q0 := hr x (by omega) (by omega)
  have q52 := hr (x + 52) (by omega) (by omega)
  have q60 := hr (x + 60) (by omega) (by omega)
  have q63 := hr (x + 63) (by omega) (by omega)
  have q64 := hr (x + 64) (by omega) (by omega)
  refine ⟨by rw [hk _ (by omega)]; exact a1, by rw [q0]; exact ⟨a2, a3, a4, a5, a6, a7, a8, a9⟩, ⟨by rw [hk _ (by omega)]; exact b1, fun k hk' => ?_, fun k hk' => by rw [hl _ (by omega)]; exact b3 k hk', by rw [hl _ (by omega)]; exact b4, by rw [hl _ (by omega)]; exact b5⟩, ⟨by rw [hk _ (by omega)]; exact c1, by rw [q60]; exact c2, by rw [q60]; exact c3, by rw [hk _ (by omega)]; exact c4, by rw [hl _ (by omega)]; exact c5, by rw [hk _ (by omega)]; exact c6, by rw [hl _ (by omega)]; exact c7⟩, ⟨by rw [hk _ (by omega)]; exact e1, by rw [hl _ (by omega)]; exact e2, by rw [q63]; exact e3⟩, ⟨by rw [hk _ (by omega)]; exact f1, by rw [hl _ (by omega)]; exact f2, by rw [q64]; exact f3⟩, ⟨by rw [hk _ (by omega)]; exact g1, by rw [hl _ (by omega)]; exact g2⟩, fun i hi => ?_, fun i hi => ?_⟩
  · rw [q52, hk _ (by omega)]; exact b2 k hk'
  · obtain ⟨s1, s2, s3, s4⟩ := hsh i hi
    exact ⟨by rw [hk _ (by omega)]; exact s1, by rw [hr _ (by omega) (by omega)]; exact s2, by rw [hk _ (by omega)]; exact s3, by rw [hl _ (by omega)]; exact s4⟩
  · obtain ⟨s1, s2, s3, s4, s5, s6, s7, s8⟩ := hsl i hi
    exact ⟨by rw [hk _ (by omega)]; exact s1, by rw [hr _ (by omega) (by omega)]; exact s2, by rw [hr _ (by omega) (by omega)]; exact s3, by rw [hk _ (by omega)]; exact s4, by rw [hk _ (by omega)]; exact s5, by rw [hr _ (by omega) (by omega)]; exact s6, by rw [hk _ (by omega)]; exact s7, by rw [hl _ (by omega)]; exact s8⟩
theorem ML.pt (h : ML S (x + 94)) (hk : ∀ y, y < x + 115 → jk S' y = jk S y) (hl : ∀ y, y < x + 115 → jl S' y = jl S y) (hr : jr S' (x + 94) = jr S (x + 94)) : ML S' (x + 94) := by
  refine ⟨by rw [hk _ (by omega)]; exact h.1, fun k p hp => ?_⟩
  have hlt : k < 20 := by
    obtain ⟨hl', -⟩ := List.getElem?_eq_some_iff.mp hp
    exact hl'
  rw [hr, hk _ (by omega), hl _ (by omega)]
  exact h.2 k p hp
theorem GL.pt (h : GL S (x + 41)) (hk : ∀ y, y < x + 115 → jk S' y = jk S y) (hl : ∀ y, y < x + 115 → jl S' y = jl S y) (hr : ∀ y, y < x + 115 → y ≠ x + 20 → jr S' y = jr S y) : GL S' (x + 41) := by
  obtain ⟨a1, a2, a3, a4, a5⟩ := h
  refine ⟨by rw [hk _ (by omega)]; exact a1, by rw [hr _ (by omega) (by omega)]; exact a2, by rw [hk _ (by omega)]; exact a3, by rw [hl _ (by omega)]; exact a4, fun i hi => ?_⟩
  rw [hr _ (by omega) (by omega), hk _ (by omega)]; exact a5 i hi
theorem IV.more {c2 : Nat} {w : Nat → Int32} (h : IV S x sz M v) (hc2 : c2 ≤ 14) (hn : jn S' = jn S + 3) (hk : ∀ y, y < jn S → jk S' y = jk S y) (hl : ∀ y, y < jn S → jl S' y = jl S y) (hr : ∀ y, y < jn S → y ≠ x + 20 → jr S' y = jr S y) (o : ∀ y, y < jn S → y ≠ x + 1 → y ≠ x + 60 → y ≠ x + 62 → y ≠ x + 94 → y ≠ x + 95 → ji S' y = ji S y) (o6 : ∀ j, j ≠ 6 → ji S' (x + 1) j = ji S (x + 1) j) (e6 : ji S' (x + 1) 6 = nI c2) (t1 : ji S' (x + 60) 1 = 0) (m : ∀ j, (j < 19 ∨ 30 ≤ j) → ji S' (x + 94) j = ji S (x + 94) j) (m19 : ji S' (x + 94) 19 = 0)
    (hw : ∀ j, ji S' (x + 95) j = w j) (w1 : w 1 = nI c2) (wo : ∀ j, j ≠ 1 → j < 135 → w j = v j) (hT' : TXS S' x (x + 20) (M + 1) w) : INV S' x (M + 1) := by
  obtain ⟨⟨hX, hM, hg⟩, hC, hGL, hjn, hT, ⟨szi, vi, i1, i2, i3⟩, hS, hSl, hW, hTp⟩ := id h
  have k1 : ∀ y, y < x + 115 → jk S' y = jk S y := fun y hy => hk y (by omega)
  have l1 : ∀ y, y < x + 115 → jl S' y = jl S y := fun y hy => hl y (by omega)
  have r1 : ∀ y, y < x + 115 → y ≠ x + 20 → jr S' y = jr S y := fun y hy hne => hr y (by omega) hne
  have cs : ∀ y, y < x + 115 → y ≠ x + 1 → y ≠ x + 20 → y ≠ x + 60 → y ≠ x + 62 → y ≠ x + 94 → y ≠ x + 95 → jcs S S' y := fun y a b c e f g i => ⟨k1 y a, l1 y a, o y (by omega) b e f g i, r1 y a c⟩
  have hR : RmR S' (x + 1) sz w := by
    obtain ⟨⟨q1, q2, q3, q4, q5, q6, q7, q8, q9, q10⟩, a1, a2, a3, a4, a5, a6, a7, a8⟩ := hX.2.2
    have e0 := r1 (x + 1) (by omega) (by omega)
    refine ⟨⟨by rw [k1 _ (by omega)]; exact q1, by rw [e0]; exact q2, by rw [e0]; exact q3, by rw [e0]; exact q4, by rw [e0]; exact q5, by rw [e0]; exact q6, by rw [k1 _ (by omega)]; exact q7, by rw [l1 _ (by omega)]; exact q8, by rw [k1 _ (by omega)]; exact q9, by rw [l1 _ (by omega)]; exact q10⟩, a1, by rw [wo 0 (by omega) (by omega)]; exact a2, ?_, (a4.grow (fun y p q => cs y (by omega) (by omega) (by omega) (by omega) (by omega) (by omega) (by omega))).cong (fun i hi => wo _ (by omega) (by omega)), ?_, by rw [o6 4 (by omega), wo 7 (by omega) (by omega)]; exact a6, fun i hi => by rw [o _ (by omega) (by omega) (by omega) (by omega) (by omega) (by omega), wo _ (by omega) (by omega)]; exact a7 i hi, by rw [e6, w1]⟩
    · rw [wo 8 (by omega) (by omega)]
      exact (a3.grow (fun y p q => cs y (by omega) (by omega) (by omega) (by omega) (by omega) (by omega) (by omega))).cong (fun i hi f hf => (wo _ (by omega) (by omega)).symm)
    · rw [wo 3 (by omega) (by omega), wo 4 (by omega) (by omega), wo 5 (by omega) (by omega), wo 6 (by omega) (by omega), wo 2 (by omega) (by omega)]
      exact (a5.grow (fun y p q => cs y (by omega) (by omega) (by omega) (by omega) (by omega) (by omega) (by omega))).cong (fun i hi => (wo _ (by omega) (by omega)).symm) (fun i hi => (wo _ (by omega) (by omega)).symm)
  have hg' : Rg sz w := fun j hj hb => by
    by_cases e : j = 1
    · subst e
      exact ⟨c2, by show c2 < 15; omega, w1⟩
    · rw [wo j e hj]; exact hg j hj hb
  refine ⟨sz, w, ⟨⟨by rw [k1 _ (by omega)]; exact hX.1, by rw [r1 _ (by omega) (by omega)]; exact hX.2.1, hR⟩, ⟨hM.1.pt k1 l1 (r1 _ (by omega) (by omega)), hw⟩, hg'⟩, hC.pt k1 l1 r1, hGL.pt k1 l1 r1, by omega, hT', ⟨szi, vi, i1.grow (fun y p q => cs y (by omega) (by omega) (by omega) (by omega) (by omega) (by omega) (by omega)), fun t ht b hb => ?_, ?_⟩, hS.keep (fun y hy => o y (by omega) (by omega) (by omega) (by omega) (by omega) (by omega)), hSl.keep (fun y hy => o y (by omega) (by omega) (by omega) (by omega) (by omega) (by omega)), hW.keep (by rw [o x (by omega) (by omega) (by omega) (by omega) (by omega) (by omega)]) (m 34 (by omega)) (o _ (by omega) (by omega) (by omega) (by omega) (by omega) (by omega)) (o _ (by omega) (by omega) (by omega) (by omega) (by omega) (by omega)), ⟨0, by omega, t1, m19, fun j hj => absurd hj (Nat.not_lt_zero _)⟩⟩
  · rw [r1 _ (by omega) (by omega)] at hb
    obtain ⟨p1, p2⟩ := i2 t ht b hb
    rw [hk b (by omega)]; exact ⟨p1, by omega⟩
  · rw [o x (by omega) (by omega) (by omega) (by omega) (by omega) (by omega), m 3 (by omega)]
    rcases i3 with i3 | ⟨a1, a2, a3, a4, a5⟩
    · exact Or.inl i3
    · refine Or.inr ⟨a1, a2, a3, fun j hj => by rw [o _ (by omega) (by omega) (by omega) (by omega) (by omega) (by omega)]; exact a4 j hj, ?_⟩
      exact a5.move (by omega) (fun y hy => hk y (by omega)) (fun y hy => hl y (by omega)) (fun t _ => by rw [r1 _ (by omega) (by omega)]) (fun y p q => hr y (by omega) (by omega)) (fun y p q _ => o y (by omega) (by omega) (by omega) (by omega) (by omega) (by omega)) (fun _ _ _ => rfl)
end jMore
end
section
/-! TEXT on both sides -/
section jQText
variable {E : jEnv} {d : Nat} {S : jM} {x sz M : Nat} {v : Nat → Int32}
theorem Q_text (h : IV S x sz M v) : jFi E mX10_text (d + 148) 3 196 [.ref x] S (fun r S1 => jFm E mX11_text 76 (x + 94) [] S1 (fun r' S2 => r = r' ∧ ∃ M', M' ≤ M + 1 ∧ INV S2 x M')) := by
  obtain ⟨⟨hX, hM, hg⟩, hC, hGL, hjn, hT, hI, hS, hSl, hW, hTp⟩ := id h
  obtain ⟨n, n96, a1, a2, a3⟩ := hTp
  obtain ⟨b, hb⟩ := Classical.axiomOfChoice (r := fun (j : Nat) (c : Nat) => j < n → c < 256 ∧ ji S (x + 61) j = nI c ∧ ji S (x + 109) j = nI c) (fun j => (Classical.em (j < n)).elim (fun hj => (a3 j hj).elim (fun c hc => ⟨c, fun _ => hc⟩)) (fun hj => ⟨0, fun q => absurd q hj⟩))
  obtain ⟨cnt, c14, ec, hTx, hz⟩ := id hT
  have hTL := hC.2.2.2.1
  have r5 := hC.2.1.2.2.2.2.1
  have TBc : TB S (x + 60) n b := ⟨hTL, n96, a1, fun j hj => ⟨(hb j hj).1, (hb j hj).2.1⟩⟩
  have n6 : ji S (x + 1) 6 = nI cnt := hX.2.2.n6.trans ec
  refine T_X10_text ⟨hX.1, _, r5, hTL.1, c_X8_isText TBc (fun good S4 g4 e6 C4 => ?_) (fun bad S4 g4 f2 => ?_)⟩
  · -- a text
    obtain ⟨hkey, hEX, hlen⟩ := ptx_ok good
    have hp96 : pops (ptx b n).2.2.2 ≤ 96 := (WFt_of hEX (by omega)).2.2.2.2.2.1
    have hWF := WFt_of hEX (show (ptx b n).2.2.2.length ≤ 96 by omega)
    have T4 := TBc.tq g4
    have hX4 : jr S4 x 0 = some (x + 1) := by rw [g4.1.2.2.1]; exact hX.2.1
    refine ⟨by rw [g4.1.1]; exact hX.1, _, by rw [g4.1.2.2.1]; exact r5, T4.1.1, fun z => absurd z (by decide), fun _ => ⟨_, hX4, by rw [g4.1.1]; exact hX.k3, ?_⟩⟩
    have o5 : ∀ y, y ≠ x + 60 → y ≠ x + 62 → ji (jput S4 (x + 60) 1 0) y = ji S y := fun y p q => by rw [ji_put_ne _ _ _ _ p]; exact g4.2.1 y p q
    have s5 : jsame S (jput S4 (x + 60) 1 0) := g4.1.trans ⟨rfl, rfl, rfl, rfl⟩
    have t5 : ji (jput S4 (x + 60) 1 0) (x + 60) 1 = 0 := ji_put_same _ _ _ _
    have C5 : CDC (jput S4 (x + 60) 1 0) (x + 60) (ptx b n).2.2.2 := ⟨by rw [ji_put, if_neg (by omega)]; exact C4.1, by rw [ji_put, if_neg (by omega)]; exact C4.2.1, fun i hi => by rw [ji_put_ne _ _ _ _ (by omega)]; exact C4.2.2 i hi⟩
    have f6 : ji (jput S4 (x + 60) 1 0) (x + 60) 6 = nI (ptx b n).2.2.1 := by rw [ji_put, if_neg (by omega)]; exact e6
    have e61 : ji S4 (x + 1) 6 = nI cnt := by rw [g4.2.1 _ (by omega) (by omega)]; exact n6
    rw [e61]
    generalize jput S4 (x + 60) 1 0 = S5 at o5 s5 t5 C5 f6 ⊢
    have n5 : jn S5 = x + 115 + 3 * M := s5.2.2.2.trans hjn
    refine c_X8_textRead (hTL.same s5) (by omega) C5 f6 (by omega) hp96 (fun S7 n7 c7 X7 => ⟨fun z => absurd z (by simp), fun b14 e14 => ?_⟩)
    obtain rfl : jn S5 + 1 = b14 := Option.some.inj e14
    rw [n5] at n7 c7 X7 ⊢
    have o7 : ∀ y, y < x + 115 + 3 * M → y ≠ x + 60 → y ≠ x + 62 → ji S7 y = ji S y := fun y hy p q => (c7 y hy).2.2.1.trans (o5 y p q)
    have k7 : ∀ y, y < x + 115 + 3 * M → jk S7 y = jk S y := fun y hy => (c7 y hy).1.trans (by rw [s5.1])
    have l7 : ∀ y, y < x + 115 + 3 * M → jl S7 y = jl S y := fun y hy => (c7 y hy).2.1.trans (by rw [s5.2.1])
    have r7 : ∀ y, y < x + 115 + 3 * M → jr S7 y = jr S y := fun y hy => (c7 y hy).2.2.2.trans (by rw [s5.2.2.1])
    have t7 : ji S7 (x + 60) 1 = 0 := by rw [(c7 (x + 60) (by omega)).2.2.1]; exact t5
    have e67 : ji S7 (x + 1) 6 = nI cnt := by rw [o7 _ (by omega) (by omega) (by omega)]; exact n6
    -- the reference, behind any such memory
    have ref : ∀ (S8 : jM) (Q : Int32 → jM → Prop), (∀ y, y < x + 115 → jk S8 y = jk S y) → (∀ y, y < x + 115 → jl S8 y = jl S y) → jr S8 (x + 94) = jr S (x + 94) → (∀ y, y = x + 94 ∨ y = x + 95 ∨ y = x + 109 → ji S8 y = ji S y) → (∀ S9, rtq S8 S9 x (pla cnt) → CDM S9 x (pla cnt) (ptx b n).2.2.1 (ptx b n).2.2.2 → jk S9 (x + 94) = 11 ∧ ∃ b6, jr S9 (x + 94) 0 = some b6 ∧ (jk S9 b6 = 12 ∧ vp_in 1 (jl S9 b6) ∧ (((ji S9 b6 (Int32.toNatClampNeg 1)) = 14 → Q (-1000000003) S9) ∧ (¬ (ji S9 b6 (Int32.toNatClampNeg 1)) = 14 → (vp_in ((jtextat (ji S9 b6 (Int32.toNatClampNeg 1))) + 0) (jl S9 b6) ∧ (vp_in ((jtextat (ji S9 b6 (Int32.toNatClampNeg 1))) + 1) (jl S9 b6) ∧ (vp_in ((jtextat (ji S9 b6 (Int32.toNatClampNeg 1))) + 2) (jl S9 b6) ∧ ((((Q (((ji (jput (jput (jput S9 b6 (Int32.toNatClampNeg ((jtextat (ji S9 b6 (Int32.toNatClampNeg 1))) + 0)) (nI (ptx b n).2.2.1)) b6 (Int32.toNatClampNeg ((jtextat (ji S9 b6 (Int32.toNatClampNeg 1))) + 1)) (ji S9 (x + 94) 29)) b6 (Int32.toNatClampNeg ((jtextat (ji S9 b6 (Int32.toNatClampNeg 1))) + 2)) (ji S9 (x + 94) 27)) b6 (Int32.toNatClampNeg 1)) + 1) - 1) (jput (jput (jput (jput S9 b6 (Int32.toNatClampNeg ((jtextat (ji S9 b6 (Int32.toNatClampNeg 1))) + 0)) (nI (ptx b n).2.2.1)) b6 (Int32.toNatClampNeg ((jtextat (ji S9 b6 (Int32.toNatClampNeg 1))) + 1)) (ji S9 (x + 94) 29)) b6 (Int32.toNatClampNeg ((jtextat (ji S9 b6 (Int32.toNatClampNeg 1))) + 2)) (ji S9 (x + 94) 27)) b6 (Int32.toNatClampNeg 1) ((ji (jput (jput (jput S9 b6 (Int32.toNatClampNeg ((jtextat (ji S9 b6 (Int32.toNatClampNeg 1))) + 0)) (nI (ptx b n).2.2.1)) b6 (Int32.toNatClampNeg ((jtextat (ji S9 b6 (Int32.toNatClampNeg 1))) + 1)) (ji S9 (x + 94) 29)) b6 (Int32.toNatClampNeg ((jtextat (ji S9 b6 (Int32.toNatClampNeg 1))) + 2)) (ji S9 (x + 94) 27)) b6 (Int32.toNatClampNeg 1)) + 1))))))))))))) → jFm E mX11_text 76 (x + 94) [] S8 Q := by
      intro S8 Q hk8 hl8 hr8 o8 hq
      have M8 : ML S8 (x + 94) := hM.1.pt hk8 hl8 hr8
      have hM8 : MR S8 (x + 94) v := ⟨M8, fun j => by rw [o8 (x + 94 + 1) (by omega)]; exact hM.2 j⟩
      have hT8 : RB S8 x n b := ⟨M8, n96, by rw [o8 _ (by omega)]; exact a2, fun j hj => ⟨(hb j hj).1, by rw [o8 _ (by omega)]; exact (hb j hj).2.2⟩⟩
      exact U_X11_text hM8.k ⟨hM8.k, c_X11_parse hM8 hT8 ec c14 (fun _ S9 g9 C9 => ⟨fun _ => hq S9 g9 C9, fun z => absurd (Int32.not_lt.mp (nI_pos (by omega))) z⟩) (fun q => absurd (good.symm.trans q) (by decide))⟩
    refine ⟨by rw [k7 _ (by omega)]; exact hX.k3, T_X3_addText ⟨by rw [k7 _ (by omega)]; exact hX.k3, ?_⟩⟩
    rw [e67]
    rcases Nat.lt_or_ge cnt 14 with hlt | hge
    · have jw : ¬ jwi (nI cnt) 14 = 0 := by rw [show (14 : Int32) = nI 14 from rfl, jwi_at hlt (by omega)]; decide
      refine ⟨fun z => absurd z jw, fun _ => ⟨x + 20, by rw [r7 _ (by omega)]; exact hX.2.2.1.2.2.2.2.2.1, by rw [k7 _ (by omega)]; exact hX.2.2.1.2.2.2.2.2.2.2.2.1, X7.1, by rw [l7 _ (by omega), show jl S (x + 20) = 14 from hX.2.2.1.2.2.2.2.2.2.2.2.2]; exact jin_nI hlt (by omega), fun z => absurd z (by decide), fun _ => ?_⟩⟩
      rw [jcl (by omega), nI_1]
      have r8 : ∀ y, y ≠ x + 20 → jr (jput (jputr S7 (x + 20) cnt (some (x + 115 + 3 * M + 1))) (x + 1) 6 (nI (cnt + 1))) y = jr S7 y := fun y hy => by rw [jr_put, jr_putr_ne _ _ _ _ hy]
      have r20 : ∀ t, jr (jput (jputr S7 (x + 20) cnt (some (x + 115 + 3 * M + 1))) (x + 1) 6 (nI (cnt + 1))) (x + 20) t = if t = cnt then some (x + 115 + 3 * M + 1) else jr S7 (x + 20) t := fun t => by
        rw [jr_put, jr_putr]
        by_cases e : t = cnt
        · rw [if_pos ⟨rfl, e⟩, if_pos e]
        · rw [if_neg (fun z => e z.2), if_neg e]
      have o8 : ∀ y, y ≠ x + 1 → ji (jput (jputr S7 (x + 20) cnt (some (x + 115 + 3 * M + 1))) (x + 1) 6 (nI (cnt + 1))) y = ji S7 y := fun y hy => by rw [ji_put_ne _ _ _ _ hy, ji_putr]
      have o86 : ∀ j, ji (jput (jputr S7 (x + 20) cnt (some (x + 115 + 3 * M + 1))) (x + 1) 6 (nI (cnt + 1))) (x + 1) j = if j = 6 then nI (cnt + 1) else ji S7 (x + 1) j := fun j => by
        rw [ji_put, ji_putr]
        by_cases e : j = 6
        · rw [if_pos ⟨rfl, e⟩, if_pos e]
        · rw [if_neg (fun z => e z.2), if_neg e]
      have k8 : jk (jput (jputr S7 (x + 20) cnt (some (x + 115 + 3 * M + 1))) (x + 1) 6 (nI (cnt + 1))) = jk S7 := rfl
      have l8 : jl (jput (jputr S7 (x + 20) cnt (some (x + 115 + 3 * M + 1))) (x + 1) 6 (nI (cnt + 1))) = jl S7 := rfl
      have n8 : jn (jput (jputr S7 (x + 20) cnt (some (x + 115 + 3 * M + 1))) (x + 1) 6 (nI (cnt + 1))) = jn S7 := rfl
      generalize jput (jputr S7 (x + 20) cnt (some (x + 115 + 3 * M + 1))) (x + 1) 6 (nI (cnt + 1)) = S8 at r8 r20 o8 o86 k8 l8 n8 ⊢
      have la : pla cnt = 139 + 200 * cnt := by unfold pla; rw [if_pos hlt]
      refine ref S8 _ (fun y hy => by rw [k8]; exact k7 y (by omega)) (fun y hy => by rw [l8]; exact l7 y (by omega)) (by rw [r8 _ (by omega)]; exact r7 _ (by omega)) (fun y hy => by rw [o8 y (by omega)]; exact o7 y (by omega) (by omega) (by omega)) (fun S9 g9 C9 => ?_)
      rw [la] at g9 C9
      have M9 : ML S9 (x + 94) := (hM.1.pt (S' := S8) (fun y hy => by rw [k8]; exact k7 y (by omega)) (fun y hy => by rw [l8]; exact l7 y (by omega)) (by rw [r8 _ (by omega)]; exact r7 _ (by omega))).same g9.1
      have w9 : ∀ j, (j < 139 + 200 * cnt ∨ 335 + 200 * cnt ≤ j) → ji S9 (x + 95) j = v j := fun j hj => by
        rw [g9.2.2.2.2 j (by omega), o8 _ (by omega), o7 _ (by omega) (by omega) (by omega)]; exact hM.2 j
      have e19 : ji S9 (x + 95) (Int32.toNatClampNeg 1) = nI cnt := (w9 1 (by omega)).trans ec
      have n14 : ¬ nI cnt = 14 := fun z => by have := nI_inj (b := 14) (by omega) (by omega) z; omega
      have ta : ∀ q : Nat, jtextat (nI cnt) + nI q = nI (135 + 200 * cnt + q) := fun q => by
        unfold jtextat
        rw [show (135 : Int32) = nI 135 from rfl, show (200 : Int32) = nI 200 from rfl, nI_mul, nI_add, nI_add]
      have ta0 : jtextat (nI cnt) + 0 = nI (135 + 200 * cnt) := ta 0
      have ta1 : jtextat (nI cnt) + 1 = nI (135 + 200 * cnt + 1) := ta 1
      have ta2 : jtextat (nI cnt) + 2 = nI (135 + 200 * cnt + 2) := ta 2
      refine ⟨M9.1, _, M9.rr0, M9.kk1, by rw [M9.ll1]; exact jin_nI (n := 1) (by omega) (by omega), ?_⟩
      rw [e19, ta0, ta1, ta2]
      refine ⟨fun z => absurd z n14, fun _ => ⟨by rw [M9.ll1]; exact jin_nI (by omega) (by omega), by rw [M9.ll1]; exact jin_nI (by omega) (by omega), by rw [M9.ll1]; exact jin_nI (by omega) (by omega), ?_⟩⟩
      rw [jcl (n := 135 + 200 * cnt) (by omega), jcl (n := 135 + 200 * cnt + 1) (by omega), jcl (n := 135 + 200 * cnt + 2) (by omega), show Int32.toNatClampNeg 1 = 1 from rfl, C9.1, C9.2.1]
      have e1' : ji (jput (jput (jput S9 (x + 95) (135 + 200 * cnt) (nI (ptx b n).2.2.1)) (x + 95) (135 + 200 * cnt + 1) (nI (pops (ptx b n).2.2.2))) (x + 95) (135 + 200 * cnt + 2) (nI (ptx b n).2.2.2.length)) (x + 95) 1 = nI cnt := by
        rw [ji_put, if_neg (by omega), ji_put, if_neg (by omega), ji_put, if_neg (by omega)]; exact e19
      rw [e1', nI_1, nI_pred]
      have oo : ∀ y, y ≠ x + 95 → ji (jput (jput (jput (jput S9 (x + 95) (135 + 200 * cnt) (nI (ptx b n).2.2.1)) (x + 95) (135 + 200 * cnt + 1) (nI (pops (ptx b n).2.2.2))) (x + 95) (135 + 200 * cnt + 2) (nI (ptx b n).2.2.2.length)) (x + 95) 1 (nI (cnt + 1))) y = ji S9 y := fun y hy => by rw [ji_put_ne _ _ _ _ hy, ji_put_ne _ _ _ _ hy, ji_put_ne _ _ _ _ hy, ji_put_ne _ _ _ _ hy]
      have ww : ∀ j, ji (jput (jput (jput (jput S9 (x + 95) (135 + 200 * cnt) (nI (ptx b n).2.2.1)) (x + 95) (135 + 200 * cnt + 1) (nI (pops (ptx b n).2.2.2))) (x + 95) (135 + 200 * cnt + 2) (nI (ptx b n).2.2.2.length)) (x + 95) 1 (nI (cnt + 1))) (x + 95) j = if j = 1 then nI (cnt + 1) else if j = 135 + 200 * cnt + 2 then nI (ptx b n).2.2.2.length else if j = 135 + 200 * cnt + 1 then nI (pops (ptx b n).2.2.2) else if j = 135 + 200 * cnt then nI (ptx b n).2.2.1 else ji S9 (x + 95) j := fun j => by
        simp only [ji_put, true_and]
      have sX : jsame S9 (jput (jput (jput (jput S9 (x + 95) (135 + 200 * cnt) (nI (ptx b n).2.2.1)) (x + 95) (135 + 200 * cnt + 1) (nI (pops (ptx b n).2.2.2))) (x + 95) (135 + 200 * cnt + 2) (nI (ptx b n).2.2.2.length)) (x + 95) 1 (nI (cnt + 1))) := ⟨rfl, rfl, rfl, rfl⟩
      generalize jput (jput (jput (jput S9 (x + 95) (135 + 200 * cnt) (nI (ptx b n).2.2.1)) (x + 95) (135 + 200 * cnt + 1) (nI (pops (ptx b n).2.2.2))) (x + 95) (135 + 200 * cnt + 2) (nI (ptx b n).2.2.2.length)) (x + 95) 1 (nI (cnt + 1)) = SX at oo ww sX ⊢
      have kX : ∀ y, jk SX y = jk S7 y := fun y => by rw [sX.1, g9.1.1, k8]
      have lX : ∀ y, jl SX y = jl S7 y := fun y => by rw [sX.2.1, g9.1.2.1, l8]
      have rX : ∀ y, jr SX y = jr S8 y := fun y => by rw [sX.2.2.1, g9.1.2.2.1]
      have iX : ∀ y, y ≠ x + 1 → y ≠ x + 94 → y ≠ x + 95 → ji SX y = ji S7 y := fun y p q r => by rw [oo y r, g9.2.1 y q r, o8 y p]
      have wv : ∀ j, j ≠ 1 → j < 135 + 200 * cnt → ji SX (x + 95) j = v j := fun j hj hlt' => by
        rw [ww, if_neg hj, if_neg (by omega), if_neg (by omega), if_neg (by omega)]; exact w9 j (by omega)
      refine ⟨rfl, M + 1, by omega, h.more (c2 := cnt + 1) (w := fun j => ji SX (x + 95) j) (by omega) ?_ (fun y hy => ?_) (fun y hy => ?_) (fun y hy hne => ?_) (fun y hy p q r s t => ?_) (fun j hj => ?_) ?_ ?_ (fun j hj => ?_) ?_ (fun j => rfl) ?_ (fun j p q => wv j p (by omega)) ⟨cnt + 1, by omega, ?_, fun t ht => ?_, fun t ht q hq => ?_⟩⟩
      · rw [sX.2.2.2, g9.1.2.2.2, n8, n7, hjn]
      · rw [kX]; exact k7 y (by omega)
      · rw [lX]; exact l7 y (by omega)
      · rw [rX, r8 y hne]; exact r7 y (by omega)
      · rw [iX y p s t]; exact o7 y (by omega) q r
      · rw [oo _ (by omega), g9.2.1 _ (by omega) (by omega), o86, if_neg hj, o7 _ (by omega) (by omega) (by omega)]
      · rw [oo _ (by omega), g9.2.1 _ (by omega) (by omega), o86, if_pos rfl]
      · rw [iX _ (by omega) (by omega) (by omega)]; exact t7
      · rw [oo _ (by omega), g9.2.2.1 j hj, o8 _ (by omega), o7 _ (by omega) (by omega) (by omega)]
      · rw [oo _ (by omega)]; exact g9.2.2.2.1
      · show ji SX (x + 95) 1 = _
        rw [ww, if_pos rfl]
      · show ji SX (x + 95) 1 = _
        rw [ww, if_pos rfl]
      · by_cases et : t = cnt
        · subst et
          refine ⟨M, (ptx b n).2.2.1, (ptx b n).2.2.2.length, pops (ptx b n).2.2.2, fun i => (ptx b n).2.2.2.getD i 0, by omega, by rw [rX, r20, if_pos rfl], hkey, X7.move (fun y p q => kX y) (fun y p q => lX y) (by rw [rX, r8 _ (by omega)]) (fun y p q => iX y (by omega) (by omega) (by omega)), ⟨?_, ?_, ?_, fun i hi => ?_⟩, hWF⟩
          · show ji SX (x + 95) _ = _
            rw [ww, if_neg (by omega), if_neg (by omega), if_neg (by omega), if_pos rfl]
          · show ji SX (x + 95) (136 + 200 * t) = _
            rw [ww, if_neg (by omega), if_neg (by omega), if_pos (by omega)]
          · show ji SX (x + 95) (137 + 200 * t) = _
            rw [ww, if_neg (by omega), if_pos (by omega)]
          · have hc := C9.2.2.2 i hi
            refine ⟨?_, ?_⟩
            · show ji SX (x + 95) (139 + 200 * t + 2 * i) = _
              rw [ww, if_neg (by omega), if_neg (by omega), if_neg (by omega), if_neg (by omega)]; exact hc.1
            · show ji SX (x + 95) (140 + 200 * t + 2 * i) = _
              rw [ww, if_neg (by omega), if_neg (by omega), if_neg (by omega), if_neg (by omega), show 140 + 200 * t + 2 * i = 139 + 200 * t + 2 * i + 1 by omega]; exact hc.2
        · obtain ⟨m, key, nn, ops, cw, hm, b1, b2, b3, b4, b5⟩ := hTx t (by omega)
          refine ⟨m, key, nn, ops, cw, by omega, by rw [rX, r20, if_neg et, r7 _ (by omega)]; exact b1, b2, b3.move (fun y p q => by rw [kX]; exact k7 y (by omega)) (fun y p q => by rw [lX]; exact l7 y (by omega)) (by rw [rX, r8 _ (by omega), r7 _ (by omega)]) (fun y p q => by rw [iX y (by omega) (by omega) (by omega)]; exact o7 y (by omega) (by omega) (by omega)), b4.cong2 b5.2.2.2.2.2.2 (fun j p q => wv j (by omega) (by omega)), b5⟩
      · rw [rX, r20] at hq
        by_cases et : t = cnt
        · rw [if_pos et] at hq
          obtain rfl : x + 115 + 3 * M + 1 = q := Option.some.inj hq
          exact ⟨by rw [kX]; exact X7.1, by omega⟩
        · rw [if_neg et, r7 _ (by omega)] at hq
          obtain ⟨z1, z2⟩ := hz t ht q hq
          exact ⟨by rw [kX, k7 q (by omega)]; exact z1, by omega⟩
    · obtain rfl : cnt = 14 := by omega
      refine ⟨fun _ => ⟨fun _ => ?_, fun z => absurd rfl z⟩, fun z => absurd (by decide) z⟩
      refine ref S7 _ (fun y hy => k7 y (by omega)) (fun y hy => l7 y (by omega)) (r7 _ (by omega)) (fun y hy => o7 y (by omega) (by omega) (by omega)) (fun S9 g9 C9 => ?_)
      have M9 : ML S9 (x + 94) := (hM.1.pt (S' := S7) (fun y hy => k7 y (by omega)) (fun y hy => l7 y (by omega)) (r7 _ (by omega))).same g9.1
      have w9 : ∀ j, j < 2935 → ji S9 (x + 95) j = v j := fun j hj => by
        rw [g9.2.2.2.2 j (by left; exact hj), o7 _ (by omega) (by omega) (by omega)]; exact hM.2 j
      have e19 : ji S9 (x + 95) (Int32.toNatClampNeg 1) = nI 14 := (w9 1 (by omega)).trans ec
      refine ⟨M9.1, _, M9.rr0, M9.kk1, by rw [M9.ll1]; exact jin_nI (n := 1) (by omega) (by omega), ?_⟩
      rw [e19]
      refine ⟨fun _ => ⟨rfl, M + 1, by omega, ?_⟩, fun z => absurd rfl z⟩
      have oo : ∀ y, y < x + 115 + 3 * M → y ≠ x + 60 → y ≠ x + 62 → y ≠ x + 94 → y ≠ x + 95 → ji S9 y = ji S y := fun y hy p q r s => (g9.2.1 y r s).trans (o7 y hy p q)
      refine h.more (c2 := 14) (w := fun j => ji S9 (x + 95) j) (by omega) ?_ (fun y hy => ?_) (fun y hy => ?_) (fun y hy _ => ?_) (fun y hy _ p q r s => oo y (by omega) p q r s) (fun j _ => ?_) ?_ ?_ (fun j hj => ?_) g9.2.2.2.1 (fun j => rfl) ((w9 1 (by omega)).trans ec) (fun j _ hj => w9 j (by omega)) ?_
      · rw [g9.1.2.2.2, n7, hjn]
      · rw [g9.1.1]; exact k7 y (by omega)
      · rw [g9.1.2.1]; exact l7 y (by omega)
      · rw [g9.1.2.2.1]; exact r7 y (by omega)
      · rw [oo _ (by omega) (by omega) (by omega) (by omega) (by omega)]
      · rw [g9.2.1 _ (by omega) (by omega)]; exact e67
      · rw [g9.2.1 _ (by omega) (by omega)]; exact t7
      · rw [g9.2.2.1 j hj, o7 _ (by omega) (by omega) (by omega)]
      · exact hT.move (by omega) (fun y hy => by rw [g9.1.1]; exact k7 y hy) (fun y hy => by rw [g9.1.2.1]; exact l7 y hy) (fun t _ => by rw [g9.1.2.2.1, r7 _ (by omega)]) (fun y p q => by rw [g9.1.2.2.1]; exact r7 y q) (fun y p q _ => oo y q (by omega) (by omega) (by omega) (by omega)) (fun j _ hj => w9 j hj)
  · -- a fault
    have T4 := TBc.tq g4
    refine ⟨by rw [g4.1.1]; exact hX.1, _, by rw [g4.1.2.2.1]; exact r5, T4.1.1, fun _ => ?_, fun z => absurd rfl z⟩
    rw [f2]
    have o5 : ∀ y, y ≠ x + 60 → y ≠ x + 62 → ji (jput S4 (x + 60) 1 0) y = ji S y := fun y p q => by rw [ji_put_ne _ _ _ _ p]; exact g4.2.1 y p q
    have s5 : jsame S (jput S4 (x + 60) 1 0) := g4.1.trans ⟨rfl, rfl, rfl, rfl⟩
    have t5 : ji (jput S4 (x + 60) 1 0) (x + 60) 1 = 0 := ji_put_same _ _ _ _
    generalize jput S4 (x + 60) 1 0 = S5 at o5 s5 t5 ⊢
    have hM5 : MR S5 (x + 94) v := ⟨hM.1.same s5, fun j => by rw [o5 (x + 94 + 1) (by omega) (by omega)]; exact hM.2 j⟩
    have hT5 : RB S5 x n b := ⟨hM5.1, n96, by rw [o5 _ (by omega) (by omega)]; exact a2, fun j hj => ⟨(hb j hj).1, by rw [o5 _ (by omega) (by omega)]; exact (hb j hj).2.2⟩⟩
    refine U_X11_text hM5.k ⟨hM5.k, c_X11_parse hM5 hT5 ec c14 (fun q => absurd (bad.symm.trans q) (by decide)) (fun _ S6 g6 f20 => ⟨fun z => absurd z (by decide), fun _ => ⟨by rw [g6.1.1]; exact hM5.k, ?_⟩⟩)⟩
    rw [f20]
    refine ⟨rfl, M, by omega, h.fault ec c14 (s5.trans g6.1) (fun y p q r s => (g6.2.1 y r s).trans (o5 y p q)) ?_ (fun j hj => ?_) g6.2.2.2.1 (fun j hj => ?_)⟩
    · rw [g6.2.1 _ (by omega) (by omega)]; exact t5
    · rw [g6.2.2.1 j hj, o5 _ (by omega) (by omega)]
    · rw [g6.2.2.2.2 j hj, o5 _ (by omega) (by omega)]
end jQText
end
section
/-! EVERY PAIR OF CALLS keeps the invariant, in the law's form -/
def jPq (E : jEnv) (M M' : jMd) (mc ms x : Nat) (As : List Value) (S : jM) (J : jM → Prop) : Prop := ∃ d, jRok room_1 d ∧ jFi E M d mc ms (.ref x :: As) S (fun _ S1 => jk S1 (x + 94) = 11 ∧ ∃ d', jRok room_1 d' ∧ jFi E M' d' 0 0 (.ref (x + 94) :: As) S1 (fun _ S2 => J S2))
theorem jPr.q {E : jEnv} {M M' : jMd} {mc ms x : Nat} {As : List Value} {S : jM} {J : jM → Prop} (h : jPr E M M' mc ms x As S J) : jPq E M M' mc ms x As S J := by
  obtain ⟨d, h1, h2⟩ := h
  refine ⟨d, h1, jFi_mono h2 (fun r S1 h3 => ⟨h3.1, ?_⟩)⟩
  obtain ⟨d2, h4, h5⟩ := h3.2
  exact ⟨d2, h4, jFi_mono h5 (fun r' S2 h6 => h6.2)⟩
section jVops
variable {E : jEnv} {S : jM} {x sz M : Nat} {v : Nat → Int32}
theorem v_master {a b c e : Int32} (h : IV S x sz M v) : jPr E mX10_master mX11_master 0 0 x [.int a, .int b, .int c, .int e] S (fun S2 => INV S2 x M) := ⟨_, jok _ rfl, jFi_mono (P_master h.1 (d := 0)) (fun r S1 h1 => ⟨h1.1, _, jok _ rfl, jFi_mono h1.2 (fun r' S2 h2 => h.po h2)⟩)⟩
theorem v_told {a b : Int32} (h : IV S x sz M v) : jPr E mX10_told mX11_told 0 0 x [.int a, .int b] S (fun S2 => INV S2 x M) := ⟨_, jok _ rfl, jFi_mono (Q_told h (d := 0)) (fun r S1 h1 => ⟨h1.1, _, jok _ rfl, h1.2⟩)⟩
theorem v_as {a b : Int32} (h : IV S x sz M v) : jPr E mX10_as mX11_as 0 0 x [.int a, .int b] S (fun S2 => INV S2 x M) := ⟨_, jok _ rfl, jFi_mono (P_as h.1 (d := 0)) (fun r S1 h1 => ⟨h1.1, _, jok _ rfl, jFi_mono h1.2 (fun r' S2 h2 => h.po h2)⟩)⟩
theorem v_turns {a b : Int32} (h : IV S x sz M v) : jPr E mX10_turns mX11_turns 0 0 x [.int a, .int b] S (fun S2 => INV S2 x M) := ⟨_, jok _ rfl, jFi_mono (P_turns h.1 (d := 0)) (fun r S1 h1 => ⟨h1.1, _, jok _ rfl, jFi_mono h1.2 (fun r' S2 h2 => h.po h2)⟩)⟩
theorem v_set {a b c : Int32} (h : IV S x sz M v) : jPr E mX10_set mX11_set 0 0 x [.int a, .int b, .int c] S (fun S2 => INV S2 x M) := ⟨_, jok _ rfl, jFi_mono (P_set h.1 (d := 0)) (fun r S1 h1 => ⟨h1.1, _, jok _ rfl, jFi_mono h1.2 (fun r' S2 h2 => h.po h2)⟩)⟩
theorem v_bars {a b c : Int32} (h : IV S x sz M v) : jPr E mX10_bars mX11_bars 0 0 x [.int a, .int b, .int c] S (fun S2 => INV S2 x M) := ⟨_, jok _ rfl, jFi_mono (P_bars h.1 (d := 0)) (fun r S1 h1 => ⟨h1.1, _, jok _ rfl, jFi_mono h1.2 (fun r' S2 h2 => h.po h2)⟩)⟩
theorem v_road {a b c : Int32} (h : IV S x sz M v) : jPr E mX10_road mX11_road 0 0 x [.int a, .int b, .int c] S (fun S2 => INV S2 x M) := ⟨_, jok _ rfl, jFi_mono (P_road h.1 (d := 0)) (fun r S1 h1 => ⟨h1.1, _, jok _ rfl, jFi_mono h1.2 (fun r' S2 h2 => h.po h2)⟩)⟩
theorem v_far {a b : Int32} (h : IV S x sz M v) : jPr E mX10_far mX11_far 0 0 x [.int a, .int b] S (fun S2 => INV S2 x M) := ⟨_, jok _ rfl, jFi_mono (P_far h.1 (d := 0)) (fun r S1 h1 => ⟨h1.1, _, jok _ rfl, jFi_mono h1.2 (fun r' S2 h2 => h.po h2)⟩)⟩
theorem v_deal {a : Int32} (h : IV S x sz M v) : jPr E mX10_deal mX11_deal 0 0 x [.int a] S (fun S2 => INV S2 x M) := ⟨_, jok _ rfl, jFi_mono (P_deal h.1 (d := 0)) (fun r S1 h1 => ⟨h1.1, _, jok _ rfl, jFi_mono h1.2 (fun r' S2 h2 => h.po h2)⟩)⟩
theorem v_seed {a : Int32} (h : IV S x sz M v) : jPr E mX10_seed mX11_seed 0 0 x [.int a] S (fun S2 => INV S2 x M) := ⟨_, jok _ rfl, jFi_mono (P_seed h.1 (d := 0)) (fun r S1 h1 => ⟨h1.1, _, jok _ rfl, jFi_mono h1.2 (fun r' S2 h2 => h.po h2)⟩)⟩
theorem v_apprentice {a : Int32} (h : IV S x sz M v) : jPr E mX10_apprentice mX11_apprentice 0 0 x [.int a] S (fun S2 => INV S2 x M) := ⟨_, jok _ rfl, jFi_mono (P_apprentice h.1 (d := 0)) (fun r S1 h1 => ⟨h1.1, _, jok _ rfl, jFi_mono h1.2 (fun r' S2 h2 => h.po h2)⟩)⟩
theorem v_has {a b : Int32} (h : IV S x sz M v) : jPr E mX10_has mX11_has 0 0 x [.int a, .int b] S (fun S2 => INV S2 x M) := ⟨_, jok _ rfl, jFi_mono (P_has h.1 (d := 0)) (fun r S1 h1 => ⟨h1.1, _, jok _ rfl, jFi_mono h1.2 (fun r' S2 h2 => h.po h2)⟩)⟩
theorem v_knows {a b : Int32} (h : IV S x sz M v) : jPr E mX10_knows mX11_knows 0 0 x [.int a, .int b] S (fun S2 => INV S2 x M) := ⟨_, jok _ rfl, jFi_mono (P_knows h.1 (d := 0)) (fun r S1 h1 => ⟨h1.1, _, jok _ rfl, jFi_mono h1.2 (fun r' S2 h2 => h.po h2)⟩)⟩
theorem v_go {a : Int32} (h : IV S x sz M v) : jPr E mX10_go mX11_go 0 0 x [.int a] S (fun S2 => INV S2 x M) := ⟨_, jok _ rfl, jFi_mono (P_go h.1 (d := 0)) (fun r S1 h1 => ⟨h1.1, _, jok _ rfl, jFi_mono h1.2 (fun r' S2 h2 => h.po h2)⟩)⟩
theorem v_learn {a : Int32} (h : IV S x sz M v) : jPr E mX10_learn mX11_learn 0 0 x [.int a] S (fun S2 => INV S2 x M) := ⟨_, jok _ rfl, jFi_mono (Q_learn h (d := 0)) (fun r S1 h1 => ⟨h1.1, _, jok _ rfl, h1.2⟩)⟩
theorem v_use {a : Int32} (h : IV S x sz M v) : jPr E mX10_use mX11_use 0 0 x [.int a] S (fun S2 => INV S2 x M) := ⟨_, jok _ rfl, jFi_mono (P_use h.1 (d := 0)) (fun r S1 h1 => ⟨h1.1, _, jok _ rfl, jFi_mono h1.2 (fun r' S2 h2 => h.po h2)⟩)⟩
theorem v_rests {a : Int32} (h : IV S x sz M v) : jPr E mX10_rests mX11_rests 0 0 x [.int a] S (fun S2 => INV S2 x M) := ⟨_, jok _ rfl, jFi_mono (P_rests h.1 (d := 0)) (fun r S1 h1 => ⟨h1.1, _, jok _ rfl, jFi_mono h1.2 (fun r' S2 h2 => h.po h2)⟩)⟩
theorem v_wants {a : Int32} (h : IV S x sz M v) : jPr E mX10_wants mX11_wants 0 0 x [.int a] S (fun S2 => INV S2 x M) := ⟨_, jok _ rfl, jFi_mono (P_wants h.1 (d := 0)) (fun r S1 h1 => ⟨h1.1, _, jok _ rfl, jFi_mono h1.2 (fun r' S2 h2 => h.po h2)⟩)⟩
theorem v_clear (h : IV S x sz M v) : jPr E mX10_clear mX11_clear 0 0 x [] S (fun S2 => INV S2 x M) := ⟨_, jok _ rfl, jFi_mono (P_clear h.1 (d := 0)) (fun r S1 h1 => ⟨h1.1, _, jok _ rfl, jFi_mono h1.2 (fun r' S2 h2 => h.po h2)⟩)⟩
theorem v_made (h : IV S x sz M v) : jPr E mX10_made mX11_made 0 0 x [] S (fun S2 => INV S2 x M) := ⟨_, jok _ rfl, jFi_mono (Q_made h (d := 0)) (fun r S1 h1 => ⟨h1.1, _, jok _ rfl, h1.2⟩)⟩
theorem v_soonest {a : Int32} (h : IV S x sz M v) : jPq E mX10_soonest mX11_soonest 0 0 x [.int a] S (fun S2 => INV S2 x M) := ⟨_, jok _ rfl, jFi_mono (Q_soonest h (d := 0)) (fun r S1 h1 => ⟨h1.1, _, jok _ rfl, h1.2⟩)⟩
theorem v_together {a : Int32} (h : IV S x sz M v) : jPr E mX10_together mX11_together 0 0 x [.int a] S (fun S2 => INV S2 x M) := ⟨_, jok _ rfl, jFi_mono (Q_together h (d := 0)) (fun r S1 h1 => ⟨h1.1, _, jok _ rfl, h1.2⟩)⟩
theorem v_never (h : IV S x sz M v) : jPr E mX10_never mX11_never 0 0 x [] S (fun S2 => INV S2 x M) := ⟨_, jok _ rfl, jFi_mono (Q_never h (d := 0)) (fun r S1 h1 => ⟨h1.1, _, jok _ rfl, h1.2⟩)⟩
theorem v_last {a : Int32} (h : IV S x sz M v) : jPr E mX10_last mX11_last 0 0 x [.int a] S (fun S2 => INV S2 x M) := ⟨_, jok _ rfl, jFi_mono (P_last h.1 (d := 0)) (fun r S1 h1 => ⟨h1.1, _, jok _ rfl, jFi_mono h1.2 (fun r' S2 h2 => h.po h2)⟩)⟩
theorem v_years {a : Int32} (h : IV S x sz M v) : jPr E mX10_years mX11_years 0 0 x [.int a] S (fun S2 => INV S2 x M) := ⟨_, jok _ rfl, jFi_mono (P_years h.1 (d := 0)) (fun r S1 h1 => ⟨h1.1, _, jok _ rfl, jFi_mono h1.2 (fun r' S2 h2 => h.po h2)⟩)⟩
theorem v_gone {a : Int32} (h : IV S x sz M v) : jPr E mX10_gone mX11_gone 0 0 x [.int a] S (fun S2 => INV S2 x M) := ⟨_, jok _ rfl, jFi_mono (P_gone h.1 h.2.2.1 h.2.1.2.1.2.2.1 (d := 0)) (fun r S1 h1 => ⟨h1.1, _, jok _ rfl, jFi_mono h1.2 (fun r' S2 h2 => h.po h2)⟩)⟩
theorem v_fresh (h : IV S x sz M v) : jPr E mX10_fresh mX11_fresh 0 0 x [] S (fun S2 => INV S2 x M) := ⟨_, jok _ rfl, jFi_mono (P_fresh h.1 (d := 0)) (fun r S1 h1 => ⟨h1.1, _, jok _ rfl, jFi_mono h1.2 (fun r' S2 h2 => h.po h2)⟩)⟩
theorem v_cut {a b : Int32} (h : IV S x sz M v) : jPr E mX10_cut mX11_cut 0 0 x [.int a, .int b] S (fun S2 => INV S2 x M) := ⟨_, jok _ rfl, jFi_mono (Q_cut h (d := 0)) (fun r S1 h1 => ⟨h1.1, _, jok _ rfl, h1.2⟩)⟩
theorem v_fame {a : Int32} (h : IV S x sz M v) : jPr E mX10_fame mX11_fame 0 0 x [.int a] S (fun S2 => INV S2 x M) := ⟨_, jok _ rfl, jFi_mono (Q_fame h (d := 0)) (fun r S1 h1 => ⟨h1.1, _, jok _ rfl, h1.2⟩)⟩
theorem v_fine (h : IV S x sz M v) : jPr E mX10_fine mX11_fine 0 0 x [] S (fun S2 => INV S2 x M) := ⟨_, jok _ rfl, jFi_mono (Q_fine h (d := 0)) (fun r S1 h1 => ⟨h1.1, _, jok _ rfl, h1.2⟩)⟩
theorem v_feed {a b c : Int32} (h : IV S x sz M v) : jPr E mX10_feed mX11_feed 0 0 x [.int a, .int b, .int c] S (fun S2 => INV S2 x M) := ⟨_, jok _ rfl, jFi_mono (Q_feed h (d := 0)) (fun r S1 h1 => ⟨h1.1, _, jok _ rfl, h1.2⟩)⟩
theorem v_trim {a : Int32} (h : IV S x sz M v) : jPr E mX10_trim mX11_trim 0 0 x [.int a] S (fun S2 => INV S2 x M) := ⟨_, jok _ rfl, jFi_mono (Q_trim h (d := 0)) (fun r S1 h1 => ⟨h1.1, _, jok _ rfl, h1.2⟩)⟩
theorem v_text (h : IV S x sz M v) : jPr E mX10_text mX11_text 3 196 x [] S (fun S2 => ∃ M', M' ≤ M + 1 ∧ INV S2 x M') := ⟨_, jok _ rfl, jFi_mono (Q_text h (d := 0)) (fun r S1 h1 => ⟨h1.1, _, jok _ rfl, h1.2⟩)⟩
theorem v_textTold {a b : Int32} (h : IV S x sz M v) : jPr E mX10_textTold mX11_textTold 0 0 x [.int a, .int b] S (fun S2 => INV S2 x M) := ⟨_, jok _ rfl, jFi_mono (Q_textTold h (d := 0)) (fun r S1 h1 => ⟨h1.1, _, jok _ rfl, h1.2⟩)⟩
theorem v_why {a : Int32} (h : IV S x sz M v) : jPr E mX10_why mX11_why 0 0 x [.int a] S (fun S2 => INV S2 x M) := ⟨_, jok _ rfl, jFi_mono (Q_why h (d := 0)) (fun r S1 h1 => ⟨h1.1, _, jok _ rfl, h1.2⟩)⟩
theorem v_sheet {a b c : Int32} (h : IV S x sz M v) : jPr E mX10_sheet mX11_sheet 0 0 x [.int a, .int b, .int c] S (fun S2 => INV S2 x M) := ⟨_, jok _ rfl, jFi_mono (Q_sheet h (d := 0)) (fun r S1 h1 => ⟨h1.1, _, jok _ rfl, h1.2⟩)⟩
theorem v_mark {a b c : Int32} (h : IV S x sz M v) : jPr E mX10_mark mX11_mark 0 0 x [.int a, .int b, .int c] S (fun S2 => INV S2 x M) := ⟨_, jok _ rfl, jFi_mono (Q_mark h (d := 0)) (fun r S1 h1 => ⟨h1.1, _, jok _ rfl, h1.2⟩)⟩
theorem v_pour {a : Int32} (h : IV S x sz M v) : jPr E mX10_pour mX11_pour 0 0 x [.int a] S (fun S2 => INV S2 x M) := ⟨_, jok _ rfl, jFi_mono (Q_pour h (d := 0)) (fun r S1 h1 => ⟨h1.1, _, jok _ rfl, h1.2⟩)⟩
theorem v_reads {a : Int32} (h : IV S x sz M v) : jPr E mX10_reads mX11_reads 0 0 x [.int a] S (fun S2 => INV S2 x M) := ⟨_, jok _ rfl, jFi_mono (Q_reads h (d := 0)) (fun r S1 h1 => ⟨h1.1, _, jok _ rfl, h1.2⟩)⟩
theorem v_copy {a b c e f : Int32} (h : IV S x sz M v) : jPr E mX10_copy mX11_copy 0 0 x [.int a, .int b, .int c, .int e, .int f] S (fun S2 => INV S2 x M) := ⟨_, jok _ rfl, jFi_mono (Q_copy h (d := 0)) (fun r S1 h1 => ⟨h1.1, _, jok _ rfl, h1.2⟩)⟩
theorem v_lay {a b c : Int32} (h : IV S x sz M v) : jPr E mX10_lay mX11_lay 0 0 x [.int a, .int b, .int c] S (fun S2 => INV S2 x M) := ⟨_, jok _ rfl, jFi_mono (Q_lay h (d := 0)) (fun r S1 h1 => ⟨h1.1, _, jok _ rfl, h1.2⟩)⟩
theorem v_ask {a b : Int32} (h : IV S x sz M v) : jPr E mX10_ask mX11_ask 0 0 x [.int a, .int b] S (fun S2 => INV S2 x M) := ⟨_, jok _ rfl, jFi_mono (Q_ask h (d := 0)) (fun r S1 h1 => ⟨h1.1, _, jok _ rfl, h1.2⟩)⟩
theorem v_item {a b : Int32} (h : IV S x sz M v) : jPr E mX10_item mX11_item 0 0 x [.int a, .int b] S (fun S2 => INV S2 x M) := ⟨_, jok _ rfl, jFi_mono (Q_item h (d := 0)) (fun r S1 h1 => ⟨h1.1, _, jok _ rfl, h1.2⟩)⟩
theorem v_rest {a b : Int32} (h : IV S x sz M v) : jPr E mX10_rest mX11_rest 0 0 x [.int a, .int b] S (fun S2 => INV S2 x M) := ⟨_, jok _ rfl, jFi_mono (Q_rest h (d := 0)) (fun r S1 h1 => ⟨h1.1, _, jok _ rfl, h1.2⟩)⟩
theorem v_tell {a : Int32} (h : IV S x sz M v) : jPr E mX10_tell mX11_tell 0 0 x [.int a] S (fun S2 => INV S2 x M) := ⟨_, jok _ rfl, jFi_mono (Q_tell h (d := 0)) (fun r S1 h1 => ⟨h1.1, _, jok _ rfl, h1.2⟩)⟩
theorem v_check {a : Int32} (h : IV S x sz M v) : jPr E mX10_check mX11_check 0 0 x [.int a] S (fun S2 => INV S2 x M) := ⟨_, jok _ rfl, jFi_mono (Q_check h (d := 0)) (fun r S1 h1 => ⟨h1.1, _, jok _ rfl, h1.2⟩)⟩
theorem v_keep (h : IV S x sz M v) : jPr E mX10_keep mX11_keep 0 0 x [] S (fun S2 => INV S2 x M) := ⟨_, jok _ rfl, jFi_mono (Q_keep h (d := 0)) (fun r S1 h1 => ⟨h1.1, _, jok _ rfl, h1.2⟩)⟩
theorem v_back (h : IV S x sz M v) : jPr E mX10_back mX11_back 0 0 x [] S (fun S2 => INV S2 x M) := ⟨_, jok _ rfl, jFi_mono (Q_back h (d := 0)) (fun r S1 h1 => ⟨h1.1, _, jok _ rfl, h1.2⟩)⟩
theorem v_count {a : Int32} (h : IV S x sz M v) : jPr E mX10_count mX11_count 0 0 x [.int a] S (fun S2 => INV S2 x M) := ⟨_, jok _ rfl, jFi_mono (P_count h.1 h.2.1.2.1.2.2.2.2.1 h.2.1.2.2.2.1.1 (by obtain ⟨w, -, a, b, -⟩ := h.2.2.2.2.2.2.2.2.1; exact a.trans b.symm) (by obtain ⟨w, -, a, b, -⟩ := h.2.2.2.2.2.2.2.2.2; exact a.trans b.symm) (d := 0)) (fun r S1 h1 => ⟨h1.1, _, jok _ rfl, jFi_mono h1.2 (fun r' S2 h2 => h.po h2)⟩)⟩
end jVops
end
section
/-! THE LAW'S LOOP over all calls -/
section jLoop
variable {E : jEnv} {nm : String} {xs : Nat → Int32} {b x L : Nat}
theorem law_pr {M M' : jMd} {mc ms : Nat} {As : List Value} {S : jM} {J P : jM → Prop} {R : Prop} (h : jPr E M M' mc ms x As S J) (hR : R) (hP : ∀ S2, J S2 → P S2) : ∃ d, jRok room_1 d ∧ jFi E M d mc ms (.ref x :: As) S (fun r S1 => jk S1 (x + 94) = 11 ∧ R ∧ ∃ d, jRok room_1 d ∧ jFi E M' d 0 0 (.ref (x + 94) :: As) S1 (fun r' S2 => (r = r' → P S2) ∧ (¬ r = r' → False))) := by
  obtain ⟨d, hd, h⟩ := h
  refine ⟨d, hd, jFi_mono h (fun r S1 h1 => ?_)⟩
  obtain ⟨k1, d', hd', h2⟩ := h1
  exact ⟨k1, hR, d', hd', jFi_mono h2 (fun r' S2 h3 => ⟨fun _ => hP S2 h3.2, fun c => c h3.1⟩)⟩
theorem law_pq {M M' : jMd} {mc ms : Nat} {As : List Value} {S : jM} {J P : jM → Prop} {R : Prop} (h : jPq E M M' mc ms x As S J) (hR : R) (hP : ∀ S2, J S2 → P S2) : ∃ d, jRok room_1 d ∧ jFi E M d mc ms (.ref x :: As) S (fun _ S1 => jk S1 (x + 94) = 11 ∧ R ∧ ∃ d, jRok room_1 d ∧ jFi E M' d 0 0 (.ref (x + 94) :: As) S1 (fun _ S2 => P S2)) := by
  obtain ⟨d, hd, h⟩ := h
  refine ⟨d, hd, jFi_mono h (fun r S1 h1 => ?_)⟩
  obtain ⟨k1, d', hd', h2⟩ := h1
  exact ⟨k1, hR, d', hd', jFi_mono h2 (fun r' S2 h3 => hP S2 h3)⟩
theorem law_past {i : Nat} (hi : i < 1000) (h : L < i + 6) : nI L - 6 < nI i := by
  by_cases q : 6 ≤ L
  · rw [show (6 : Int32) = nI 6 from rfl, nI_sub q]; exact nI_lt (by omega) (by omega)
  · refine Int32.lt_of_lt_of_le ?_ (nI_pos' (n := i) (by omega))
    rcases (show L = 0 ∨ L = 1 ∨ L = 2 ∨ L = 3 ∨ L = 4 ∨ L = 5 by omega) with rfl | rfl | rfl | rfl | rfl | rfl <;> decide
theorem law_in {i t : Nat} (hL : L ≤ 384) (h : i + t < L) : vp_in (nI i + nI t) L := by
  rw [nI_add]; exact jin_nI h (by omega)
set_option maxHeartbeats 4000000 in
set_option maxRecDepth 100000 in
theorem law_loop (hL : L ≤ 384) : ∀ (n j : Nat) (S : jM) (M c k : Nat), L < 6 * j + 6 * n + 6 → 6 * j ≤ 384 → INV S x M → c ≤ 115 + 3 * j → k ≤ 11534 + 196 * j → L_L_law_18 E nm L xs b x (x + 94) (nI (6 * j)) S c k
  | 0, j, S, M, c, k, hn, hj, hI, hc, hk => T_L_law_18 ⟨fun _ => ⟨by omega, by omega⟩, fun e => absurd (law_past (by omega) (by omega)) e⟩
  | n + 1, j, S, M, c, k, hn, hj, hI, hc, hk => by
    by_cases q : L < 6 * j + 6
    · exact T_L_law_18 ⟨fun _ => ⟨by omega, by omega⟩, fun e => absurd (law_past (by omega) q) e⟩
    have q : 6 * j + 6 ≤ L := Nat.le_of_not_lt q
    have nx : ∀ (S2 : jM) (M2 c2 k2 : Nat), INV S2 x M2 → c2 ≤ 115 + 3 * (j + 1) → k2 ≤ 11534 + 196 * (j + 1) → L_L_law_18 E nm L xs b x (x + 94) (nI (6 * j) + 6) S2 c2 k2 := by
      intro S2 M2 c2 k2 h2 hc2 hk2
      rw [show (6 : Int32) = nI 6 from rfl, nI_add, show 6 * j + 6 = 6 * (j + 1) by omega]
      exact law_loop hL n (j + 1) S2 M2 c2 k2 (by omega) (by omega) h2 hc2 hk2
    obtain ⟨sz, v, h⟩ := hI
    have w0 : vp_in (nI (6 * j)) L := jin_nI (by omega) (by omega)
    have w1 : vp_in (nI (6 * j) + 1) L := law_in (t := 1) hL (by omega)
    have w2 : vp_in (nI (6 * j) + 2) L := law_in (t := 2) hL (by omega)
    have w3 : vp_in (nI (6 * j) + 3) L := law_in (t := 3) hL (by omega)
    have w4 : vp_in (nI (6 * j) + 4) L := law_in (t := 4) hL (by omega)
    have w5 : vp_in (nI (6 * j) + 5) L := law_in (t := 5) hL (by omega)
    have rm : c + 0 ≤ 600000 ∧ k + 0 ≤ 7302250 := ⟨by omega, by omega⟩
    have rt : c + 3 ≤ 600000 ∧ k + 196 ≤ 7302250 := ⟨by omega, by omega⟩
    exact T_L_law_18 ⟨fun _ => ⟨by omega, by omega⟩, fun _ => ⟨w0, fun _ => ⟨w1, w2, w3, w4, h.2.1.1, rm, law_pq (v_master h).q rm (fun S2 h2 => nx S2 M _ _ h2 (by omega) (by omega))⟩, fun _ => ⟨w1, w2, h.2.1.1, rm, law_pq (v_told h).q rm (fun S2 h2 => nx S2 M _ _ h2 (by omega) (by omega))⟩, fun _ => ⟨w1, w2, h.2.1.1, rm, law_pq (v_as h).q rm (fun S2 h2 => nx S2 M _ _ h2 (by omega) (by omega))⟩, fun _ => ⟨w1, w2, h.2.1.1, rm, law_pq (v_turns h).q rm (fun S2 h2 => nx S2 M _ _ h2 (by omega) (by omega))⟩, fun _ => ⟨w1, w2, w3, h.2.1.1, rm, law_pr (v_set h) rm (fun S2 h2 => nx S2 M _ _ h2 (by omega) (by omega))⟩, fun _ => ⟨w1, w2, w3, h.2.1.1, rm, law_pq (v_bars h).q rm (fun S2 h2 => nx S2 M _ _ h2 (by omega) (by omega))⟩, fun _ => ⟨w1, w2, w3, h.2.1.1, rm, law_pq (v_road h).q rm (fun S2 h2 => nx S2 M _ _ h2 (by omega) (by omega))⟩, fun _ => ⟨w1, w2, h.2.1.1, rm, law_pq (v_far h).q rm (fun S2 h2 => nx S2 M _ _ h2 (by omega) (by omega))⟩, fun _ => ⟨w1, h.2.1.1, rm, law_pq (v_deal h).q rm (fun S2 h2 => nx S2 M _ _ h2 (by omega) (by omega))⟩, fun _ => ⟨w1, h.2.1.1, rm, law_pq (v_seed h).q rm (fun S2 h2 => nx S2 M _ _ h2 (by omega) (by omega))⟩, fun _ => ⟨w1, h.2.1.1, rm, law_pq (v_apprentice h).q rm (fun S2 h2 => nx S2 M _ _ h2 (by omega) (by omega))⟩, fun _ => ⟨w1, w2, h.2.1.1, rm, law_pq (v_has h).q rm (fun S2 h2 => nx S2 M _ _ h2 (by omega) (by omega))⟩, fun _ => ⟨w1, w2, h.2.1.1, rm, law_pq (v_knows h).q rm (fun S2 h2 => nx S2 M _ _ h2 (by omega) (by omega))⟩, fun _ => ⟨w1, h.2.1.1, rm, law_pq (v_go h).q rm (fun S2 h2 => nx S2 M _ _ h2 (by omega) (by omega))⟩, fun _ => ⟨w1, h.2.1.1, rm, law_pq (v_learn h).q rm (fun S2 h2 => nx S2 M _ _ h2 (by omega) (by omega))⟩, fun _ => ⟨w1, h.2.1.1, rm, law_pq (v_use h).q rm (fun S2 h2 => nx S2 M _ _ h2 (by omega) (by omega))⟩, fun _ => ⟨w1, h.2.1.1, rm, law_pq (v_rests h).q rm (fun S2 h2 => nx S2 M _ _ h2 (by omega) (by omega))⟩, fun _ => ⟨w1, h.2.1.1, rm, law_pq (v_wants h).q rm (fun S2 h2 => nx S2 M _ _ h2 (by omega) (by omega))⟩, fun _ => ⟨h.2.1.1, rm, law_pq (v_clear h).q rm (fun S2 h2 => nx S2 M _ _ h2 (by omega) (by omega))⟩, fun _ => ⟨h.2.1.1, rm, law_pq (v_made h).q rm (fun S2 h2 => nx S2 M _ _ h2 (by omega) (by omega))⟩, fun _ => ⟨w1, h.2.1.1, rm, law_pq (v_soonest h) rm (fun S2 h2 => nx S2 M _ _ h2 (by omega) (by omega))⟩, fun _ => ⟨w1, h.2.1.1, rm, law_pq (v_together h).q rm (fun S2 h2 => nx S2 M _ _ h2 (by omega) (by omega))⟩, fun _ => ⟨h.2.1.1, rm, law_pq (v_never h).q rm (fun S2 h2 => nx S2 M _ _ h2 (by omega) (by omega))⟩, fun _ => ⟨w1, h.2.1.1, rm, law_pq (v_last h).q rm (fun S2 h2 => nx S2 M _ _ h2 (by omega) (by omega))⟩, fun _ => ⟨w1, h.2.1.1, rm, law_pq (v_years h).q rm (fun S2 h2 => nx S2 M _ _ h2 (by omega) (by omega))⟩, fun _ => ⟨w1, h.2.1.1, rm, law_pq (v_gone h).q rm (fun S2 h2 => nx S2 M _ _ h2 (by omega) (by omega))⟩, fun _ => ⟨h.2.1.1, rm, law_pq (v_fresh h).q rm (fun S2 h2 => nx S2 M _ _ h2 (by omega) (by omega))⟩, fun _ => ⟨w1, w2, h.2.1.1, rm, law_pq (v_cut h).q rm (fun S2 h2 => nx S2 M _ _ h2 (by omega) (by omega))⟩, fun _ => ⟨w1, h.2.1.1, rm, law_pq (v_fame h).q rm (fun S2 h2 => nx S2 M _ _ h2 (by omega) (by omega))⟩, fun _ => ⟨h.2.1.1, rm, law_pq (v_fine h).q rm (fun S2 h2 => nx S2 M _ _ h2 (by omega) (by omega))⟩, fun _ => ⟨w1, w2, w3, h.2.1.1, rm, law_pq (v_feed h).q rm (fun S2 h2 => nx S2 M _ _ h2 (by omega) (by omega))⟩, fun _ => ⟨w1, h.2.1.1, rm, law_pq (v_trim h).q rm (fun S2 h2 => nx S2 M _ _ h2 (by omega) (by omega))⟩, fun _ => ⟨h.2.1.1, rt, law_pq (v_text h).q rt (fun S2 ⟨M2, _, h2⟩ => nx S2 M2 _ _ h2 (by omega) (by omega))⟩, fun _ => ⟨w1, w2, h.2.1.1, rm, law_pq (v_textTold h).q rm (fun S2 h2 => nx S2 M _ _ h2 (by omega) (by omega))⟩, fun _ => ⟨w1, h.2.1.1, rm, law_pq (v_why h).q rm (fun S2 h2 => nx S2 M _ _ h2 (by omega) (by omega))⟩, fun _ => ⟨w1, w2, w3, h.2.1.1, rm, law_pq (v_sheet h).q rm (fun S2 h2 => nx S2 M _ _ h2 (by omega) (by omega))⟩, fun _ => ⟨w1, w2, w3, h.2.1.1, rm, law_pq (v_mark h).q rm (fun S2 h2 => nx S2 M _ _ h2 (by omega) (by omega))⟩, fun _ => ⟨w1, h.2.1.1, rm, law_pq (v_pour h).q rm (fun S2 h2 => nx S2 M _ _ h2 (by omega) (by omega))⟩, fun _ => ⟨w1, h.2.1.1, rm, law_pq (v_reads h).q rm (fun S2 h2 => nx S2 M _ _ h2 (by omega) (by omega))⟩, fun _ => ⟨w1, w2, w3, w4, w5, h.2.1.1, rm, law_pq (v_copy h).q rm (fun S2 h2 => nx S2 M _ _ h2 (by omega) (by omega))⟩, fun _ => ⟨w1, w2, w3, h.2.1.1, rm, law_pq (v_lay h).q rm (fun S2 h2 => nx S2 M _ _ h2 (by omega) (by omega))⟩, fun _ => ⟨w1, w2, h.2.1.1, rm, law_pq (v_ask h).q rm (fun S2 h2 => nx S2 M _ _ h2 (by omega) (by omega))⟩, fun _ => ⟨w1, w2, h.2.1.1, rm, law_pq (v_item h).q rm (fun S2 h2 => nx S2 M _ _ h2 (by omega) (by omega))⟩, fun _ => ⟨w1, w2, h.2.1.1, rm, law_pq (v_rest h).q rm (fun S2 h2 => nx S2 M _ _ h2 (by omega) (by omega))⟩, fun _ => ⟨w1, h.2.1.1, rm, law_pq (v_tell h).q rm (fun S2 h2 => nx S2 M _ _ h2 (by omega) (by omega))⟩, fun _ => ⟨w1, h.2.1.1, rm, law_pq (v_check h).q rm (fun S2 h2 => nx S2 M _ _ h2 (by omega) (by omega))⟩, fun _ => ⟨h.2.1.1, rm, law_pq (v_keep h).q rm (fun S2 h2 => nx S2 M _ _ h2 (by omega) (by omega))⟩, fun _ => ⟨h.2.1.1, rm, law_pq (v_back h).q rm (fun S2 h2 => nx S2 M _ _ h2 (by omega) (by omega))⟩, fun _ => ⟨w1, h.2.1.1, rm, law_pq (v_count h).q rm (fun S2 h2 => nx S2 M _ _ h2 (by omega) (by omega))⟩, fun _ _ _ _ _ _ _ _ _ _ _ _ _ _ _ _ _ _ _ _ _ _ _ _ _ _ _ _ _ _ _ _ _ _ _ _ _ _ _ _ _ _ _ _ _ _ _ _ _ => nx S M _ _ ⟨sz, v, h⟩ (by omega) (by omega)⟩⟩
theorem law_new {S : jM} (hq : jn S = x) (h : ∀ S', FR S' x → jn S' = x + 115 → L_L_law_18 E nm L xs b x (x + 94) 0 S' 115 11534) : jX E (mLw nm) room_1 (jZL E b L xs) 0 [(0, .ref b)] [] S 0 0 := by
  refine T_L_law (fun q1 e1 => ?_)
  obtain rfl : q1 = x := e1.trans hq
  refine ⟨1000, jok _ rfl, c_X10_init (d := 996) (S := jnew S 10 0) (by rw [jk_newE, if_pos hq.symm]) (by show jn S + 1 = _; rw [hq]) (by rw [ji_newE, if_pos hq.symm]) (fun S2 n2 s2 cl cn q3 e3 => ?_)⟩
  obtain rfl : q3 = q1 + 94 := e3.trans n2
  refine ⟨1000, jok _ rfl, c_X11_init (d := 999) (S := jnew S2 11 0) (by rw [jk_newE, if_pos n2.symm]) (by show jn S2 + 1 = _; rw [n2]) (by rw [ji_newE, if_pos n2.symm]) (fun S4 n4 s4 ml mn => ?_)⟩
  have g : ∀ y, q1 ≤ y → y < q1 + 94 → jcs S2 S4 y := fun y p q => (jcs.new (by rw [n2]; omega)).trans (s4 y q)
  exact h S4 ⟨cl.grow g, cn.grow g, ml, mn⟩ n4
theorem law_start {S : jM} (hL : L ≤ 384) (h : FR S x) (hn : jn S = x + 115) : L_L_law_18 E nm L xs b x (x + 94) 0 S 115 11534 := by
  have h1 := law_loop (E := E) (nm := nm) (xs := xs) (b := b) hL 64 0 S 0 115 11534 (by omega) (by omega) ⟨0, _, IV_start h hn⟩ (by omega) (by omega)
  rw [show nI (6 * 0) = 0 from rfl] at h1
  exact h1
end jLoop
end
