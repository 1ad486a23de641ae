/-! TEXT: the reference's next token -/
section jRef2
variable {E : jEnv} {d : Nat} {S S' : jM} {x n : Nat} {b : Nat → Nat}
theorem c_X11_token {Q : jM → Prop} {e tk : Nat} (hT : RB S x n b) (h21 : ji S (x + 94) 21 = nI e) (h22 : ji S (x + 94) 22 = nI tk) (he : e ≤ n) (htk : tk ≤ 4) (hq : ∀ S', rts S S' x → TKM S' x b (ptok b n (if 0 < e ∧ (tk = 1 ∨ tk = 2) then 1 else 0) e) → Q S') : jFv E mX11_nextToken (d + 2) 0 0 [.ref (x + 94)] S Q := by
  have h96 := hT.2.1
  generalize hw : (if 0 < e ∧ (tk = 1 ∨ tk = 2) then 1 else 0) = w at hq
  have w01 : w = 0 ∨ w = 1 := by rw [← hw]; split <;> simp
  -- behind the blanks
  have aft : ∀ (st nb : Nat) (S1 : jM), pskp b (n - e) e = st → nb = (if w = 1 ∧ st = e then 1 else 0) → rts S S1 x → ji S1 (x + 94) 21 = nI st → ((ji S1 (x + 94) 21) = (ji S1 (x + 94) 19) → Q (jput (jput S1 (x + 94) 20 (ji S1 (x + 94) 21)) (x + 94) 22 0)) ∧ (¬ (ji S1 (x + 94) 21) = (ji S1 (x + 94) 19) → jFi E mX11_isLetter (d + 1) 0 0 [.ref (x + 94), .int (ji S1 (x + 94) 21)] (jput S1 (x + 94) 20 (ji S1 (x + 94) 21)) (fun r10 S9 => (r10 = 0 → jk S9 (x + 94) = 11 ∧ jFi E mX11_isDigit (d + 1) 0 0 [.ref (x + 94), .int (ji S9 (x + 94) 20)] S9 (fun r14 S13 => (r14 = 0 → jk S13 (x + 94) = 11 ∧ ∃ b17, jr S13 (x + 94) 18 = some b17 ∧ (jk S13 b17 = 12 ∧ vp_in (ji S13 (x + 94) 20) (jl S13 b17) ∧ (Q (jput (jput (jput S13 (x + 94) 22 3) (x + 94) 24 (ji S13 b17 (Int32.toNatClampNeg (ji S13 (x + 94) 20)))) (x + 94) 21 ((ji S13 (x + 94) 21) + 1))))) ∧ (¬ r14 = 0 → jk S13 (x + 94) = 11 ∧ L_X11_nextToken_214 E (d + 1) Q (x + 94) (nI nb) (jput S13 (x + 94) 23 0)))) ∧ (¬ r10 = 0 → L_X11_nextToken_128 E (d + 1) Q (x + 94) (nI nb) S9))) := by
    intro st nb S1 hst hnb g1 f21
    have hge := pskp_ge b (n - e) e
    rw [hst] at hge
    have nb01 : nb = 0 ∨ nb = 1 := by rw [hnb]; split <;> simp
    have et : ptok b n w e = (st, (if psrt b n st = 0 then st else if psrt b n st = 3 then st + 1 else prun b n (psrt b n st) (n - (st + 1)) (st + 1)), psrt b n st, nb) := by
      unfold ptok
      rw [hst, hnb]
    rw [et] at hq
    have T1 := hT.ts g1
    -- letters
    have l128 : ∀ (c q : Nat) (S2 : jM), psrt b n st = 1 → (q + c = n ∨ (n ≤ q ∧ c = 0)) → q ≤ 96 → st ≤ q → rts S S2 x → ji S2 (x + 94) 20 = nI st → ji S2 (x + 94) 21 = nI q → prun b n 1 c q = prun b n 1 (n - (st + 1)) (st + 1) → L_X11_nextToken_128 E (d + 1) Q (x + 94) (nI nb) S2 := by
      intro c
      induction c with
      | zero =>
        intro q S2 e1 hqc hq96 hsq g2 p20 p21 hr
        have hr' : q = prun b n 1 (n - (st + 1)) (st + 1) := hr
        have T2 := hT.ts g2
        have hl : st < n := (psrt_1.mp e1).1
        refine T_X11_nextToken_128 ⟨T2.1.1, ?_⟩
        rw [p21]
        refine c_X11_isLetter T2 hq96 (fun z => ?_) (fun z => ⟨fun _ => ?_, fun z2 => absurd rfl z2⟩)
        · have := (psrt_1.mp z).1
          omega
        · rw [p21, p20, nI_sub hsq]
          have hh : ∀ (y : Nat) (w24 : Int32), y = ptn (st, q, 1, nb) → w24 = (if q - st = 1 then nI (b st) else 0) → Q (jput (jput S2 (x + 94) 22 (nI y)) (x + 94) 24 w24) := by
            intro y w24 ey ew
            refine hq _ (g2.trans ((rts.put (by omega) (by omega)).trans (rts.put (by omega) (by omega)))) ?_
            rw [e1, if_neg (by decide), if_neg (by decide), ← hr']
            refine ⟨by rw [ji_put, if_neg (by omega), ji_put, if_neg (by omega)]; exact p20, by rw [ji_put, if_neg (by omega), ji_put, if_neg (by omega)]; exact p21, by rw [ji_put, if_neg (by omega), ji_put_same, ey], fun z => absurd (show (1 : Nat) = 3 from z) (by decide), fun _ => by rw [ji_put_same]; exact ew, fun z => absurd (show (1 : Nat) = 2 from z) (by decide)⟩
          have nq : ∀ z : Nat, z < 256 → (nI (q - st) = nI z ↔ q - st = z) := fun z hz => ⟨fun h => nI_inj (by omega) (by omega) h, fun h => by rw [h]⟩
          have n1 := nq 1 (by omega)
          refine ⟨fun x0 => ⟨T2.1.1, fun c1 => ⟨_, T2.1.r18.1, T2.1.r18.2.1, T2.inn hl, ?_⟩, fun c1 => ?_⟩, fun x0 => ⟨T2.1.1, fun c1 => ⟨_, T2.1.r18.1, T2.1.r18.2.1, T2.inn hl, ?_⟩, fun c1 => ?_⟩⟩
          · have e0 : nb = 0 := nI_inj (b := 0) (by omega) (by omega) x0
            rw [T2.by hl]
            exact hh 1 _ (by rw [e0]; rfl) (by rw [if_pos (n1.mp c1)])
          · have e0 : nb = 0 := nI_inj (b := 0) (by omega) (by omega) x0
            exact hh 1 _ (by rw [e0]; rfl) (by rw [if_neg (fun z => c1 (n1.mpr z))])
          · have e0 : nb = 1 := by
              rcases nb01 with q0 | q0
              · rw [q0] at x0; exact absurd rfl x0
              · exact q0
            rw [T2.by hl]
            exact hh 4 _ (by rw [e0]; rfl) (by rw [if_pos (n1.mp c1)])
          · have e0 : nb = 1 := by
              rcases nb01 with q0 | q0
              · rw [q0] at x0; exact absurd rfl x0
              · exact q0
            exact hh 4 _ (by rw [e0]; rfl) (by rw [if_neg (fun z => c1 (n1.mpr z))])
      | succ c ih =>
        intro q S2 e1 hqc hq96 hsq g2 p20 p21 hr
        have T2 := hT.ts g2
        have hl : st < n := (psrt_1.mp e1).1
        have er : prun b n 1 (c + 1) q = if psrt b n q = 1 then prun b n 1 c (q + 1) else q := rfl
        rw [er] at hr
        refine T_X11_nextToken_128 ⟨T2.1.1, ?_⟩
        rw [p21]
        refine c_X11_isLetter T2 hq96 (fun z => ⟨fun z2 => absurd z2 (by decide), fun _ => ⟨T2.1.1, ?_⟩⟩) (fun z => ⟨fun _ => ?_, fun z2 => absurd rfl z2⟩)
        · rw [if_pos z] at hr
          rw [p21, nI_1]
          exact ih (q + 1) _ e1 (by omega) (by omega) (by omega) (g2.trans (rts.put (by omega) (by omega))) (by rw [ji_put, if_neg (by omega)]; exact p20) (by rw [ji_put_same]) hr
        · rw [if_neg z] at hr
          rw [p21, p20, nI_sub hsq]
          have hh : ∀ (y : Nat) (w24 : Int32), y = ptn (st, q, 1, nb) → w24 = (if q - st = 1 then nI (b st) else 0) → Q (jput (jput S2 (x + 94) 22 (nI y)) (x + 94) 24 w24) := by
            intro y w24 ey ew
            refine hq _ (g2.trans ((rts.put (by omega) (by omega)).trans (rts.put (by omega) (by omega)))) ?_
            rw [e1, if_neg (by decide), if_neg (by decide), ← hr]
            refine ⟨by rw [ji_put, if_neg (by omega), ji_put, if_neg (by omega)]; exact p20, by rw [ji_put, if_neg (by omega), ji_put, if_neg (by omega)]; exact p21, by rw [ji_put, if_neg (by omega), ji_put_same, ey], fun z => absurd (show (1 : Nat) = 3 from z) (by decide), fun _ => by rw [ji_put_same]; exact ew, fun z => absurd (show (1 : Nat) = 2 from z) (by decide)⟩
          have nq : ∀ z : Nat, z < 256 → (nI (q - st) = nI z ↔ q - st = z) := fun z hz => ⟨fun h => nI_inj (by omega) (by omega) h, fun h => by rw [h]⟩
          have n1 := nq 1 (by omega)
          refine ⟨fun x0 => ⟨T2.1.1, fun c1 => ⟨_, T2.1.r18.1, T2.1.r18.2.1, T2.inn hl, ?_⟩, fun c1 => ?_⟩, fun x0 => ⟨T2.1.1, fun c1 => ⟨_, T2.1.r18.1, T2.1.r18.2.1, T2.inn hl, ?_⟩, fun c1 => ?_⟩⟩
          · have e0 : nb = 0 := nI_inj (b := 0) (by omega) (by omega) x0
            rw [T2.by hl]
            exact hh 1 _ (by rw [e0]; rfl) (by rw [if_pos (n1.mp c1)])
          · have e0 : nb = 0 := nI_inj (b := 0) (by omega) (by omega) x0
            exact hh 1 _ (by rw [e0]; rfl) (by rw [if_neg (fun z => c1 (n1.mpr z))])
          · have e0 : nb = 1 := by
              rcases nb01 with q0 | q0
              · rw [q0] at x0; exact absurd rfl x0
              · exact q0
            rw [T2.by hl]
            exact hh 4 _ (by rw [e0]; rfl) (by rw [if_pos (n1.mp c1)])
          · have e0 : nb = 1 := by
              rcases nb01 with q0 | q0
              · rw [q0] at x0; exact absurd rfl x0
              · exact q0
            exact hh 4 _ (by rw [e0]; rfl) (by rw [if_neg (fun z => c1 (n1.mpr z))])
    -- digits
    have dfin : ∀ (q : Nat) (S2 : jM), psrt b n st = 2 → st ≤ q → q ≤ 96 → rts S S2 x → ji S2 (x + 94) 20 = nI st → ji S2 (x + 94) 21 = nI q → ji S2 (x + 94) 23 = nI (pnum b (if q - st ≤ 4 then q - st else 4) st 0) → q = prun b n 2 (n - (st + 1)) (st + 1) → (nI nb = 0 → jk S2 (x + 94) = 11 ∧ (((ji S2 (x + 94) 21) - (ji S2 (x + 94) 20)) ≤ 4 → Q (jput S2 (x + 94) 22 2)) ∧ (¬ ((ji S2 (x + 94) 21) - (ji S2 (x + 94) 20)) ≤ 4 → Q (jput S2 (x + 94) 22 4))) ∧ (¬ nI nb = 0 → jk S2 (x + 94) = 11 ∧ Q (jput S2 (x + 94) 22 4)) := by
      intro q S2 e2 hsq hq96 g2 p20 p21 p23 hr
      have T2 := hT.ts g2
      have hh : ∀ y : Nat, y = ptn (st, q, 2, nb) → Q (jput S2 (x + 94) 22 (nI y)) := by
        intro y ey
        refine hq _ (g2.trans (rts.put (by omega) (by omega))) ?_
        rw [e2, if_neg (by decide), if_neg (by decide), ← hr]
        refine ⟨by rw [ji_put, if_neg (by omega)]; exact p20, by rw [ji_put, if_neg (by omega)]; exact p21, by rw [ji_put_same, ey], fun z => absurd (show (2 : Nat) = 3 from z) (by decide), fun z => absurd (show (2 : Nat) = 1 from z) (by decide), fun _ h4 => ?_⟩
        have h4' : q - st ≤ 4 := h4
        rw [ji_put, if_neg (by omega), p23, if_pos h4']
      have pt : ptn (st, q, 2, nb) = if nb = 1 ∨ 4 < q - st then 4 else 2 := rfl
      rw [p21, p20, nI_sub hsq]
      refine ⟨fun x0 => ⟨T2.1.1, fun c4 => hh 2 ?_, fun c4 => hh 4 ?_⟩, fun x0 => ⟨T2.1.1, hh 4 ?_⟩⟩
      · have e0 : nb = 0 := nI_inj (b := 0) (by omega) (by omega) x0
        have := (nI_leI (b := 4) (by omega) (by omega)).mp c4
        rw [pt, if_neg (by omega)]
      · have : ¬ q - st ≤ 4 := fun z => c4 (nI_le (b := 4) z (by omega))
        rw [pt, if_pos (by omega)]
      · have e0 : nb = 1 := by
          rcases nb01 with q0 | q0
          · rw [q0] at x0; exact absurd rfl x0
          · exact q0
        rw [pt, if_pos (Or.inl e0)]
    have l214 : ∀ (c q : Nat) (S2 : jM), psrt b n st = 2 → (q + c = n ∨ (n ≤ q ∧ c = 0)) → q ≤ 96 → st ≤ q → rts S S2 x → ji S2 (x + 94) 20 = nI st → ji S2 (x + 94) 21 = nI q → ji S2 (x + 94) 23 = nI (pnum b (if q - st ≤ 4 then q - st else 4) st 0) → prun b n 2 c q = prun b n 2 (n - (st + 1)) (st + 1) → L_X11_nextToken_214 E (d + 1) Q (x + 94) (nI nb) S2 := by
      intro c
      induction c with
      | zero =>
        intro q S2 e2 hqc hq96 hsq g2 p20 p21 p23 hr
        have T2 := hT.ts g2
        refine T_X11_nextToken_214 ⟨T2.1.1, ?_⟩
        rw [p21]
        refine c_X11_isDigit T2 hq96 (fun z => ?_) (fun z => ⟨fun _ => dfin q S2 e2 hsq hq96 g2 p20 p21 p23 hr, fun z2 => absurd rfl z2⟩)
        have := (psrt_22.mp z).1
        omega
      | succ c ih =>
        intro q S2 e2 hqc hq96 hsq g2 p20 p21 p23 hr
        have T2 := hT.ts g2
        have er : prun b n 2 (c + 1) q = if psrt b n q = 2 then prun b n 2 c (q + 1) else q := rfl
        rw [er] at hr
        refine T_X11_nextToken_214 ⟨T2.1.1, ?_⟩
        rw [p21]
        refine c_X11_isDigit T2 hq96 (fun z => ⟨fun z2 => absurd z2 (by decide), fun _ => ⟨T2.1.1, ?_⟩⟩) (fun z => ⟨fun _ => dfin q S2 e2 hsq hq96 g2 p20 p21 p23 (by rw [if_neg z] at hr; exact hr), fun z2 => absurd rfl z2⟩)
        rw [if_pos z] at hr
        have hz := psrt_22.mp z
        rw [p21, p20, nI_sub hsq, nI_1]
        have go : ∀ w23 : Int32, w23 = nI (pnum b (if q + 1 - st ≤ 4 then q + 1 - st else 4) st 0) → L_X11_nextToken_214 E (d + 1) Q (x + 94) (nI nb) (jput (jput S2 (x + 94) 23 w23) (x + 94) 21 (nI (q + 1))) := fun w23 ew =>
          ih (q + 1) _ e2 (by omega) (by omega) (by omega) (g2.trans ((rts.put (by omega) (by omega)).trans (rts.put (by omega) (by omega)))) (by rw [ji_put, if_neg (by omega), ji_put, if_neg (by omega)]; exact p20) (by rw [ji_put_same]) (by rw [ji_put, if_neg (by omega), ji_put_same, ew]) hr
        refine ⟨fun c4 => go _ ?_, fun c4 => ⟨_, T2.1.r18.1, T2.1.r18.2.1, T2.inn hz.1, go _ ?_⟩⟩
        · have h4 := (nI_leI (a := 4) (by omega) (by omega)).mp c4
          rw [p23, if_neg (c := q + 1 - st ≤ 4) (by omega)]
          by_cases e4 : q - st ≤ 4
          · rw [if_pos e4, show q - st = 4 by omega]
          · rw [if_neg e4]
        · have h4 : ¬ 4 ≤ q - st := fun z => c4 (nI_le (a := 4) z (by omega))
          rw [p23, if_pos (c := q - st ≤ 4) (by omega), if_pos (c := q + 1 - st ≤ 4) (by omega), T2.by hz.1, show q + 1 - st = (q - st) + 1 by omega, pnum_snoc, show st + (q - st) = q by omega, show (10 : Int32) = nI 10 from rfl, nI_mul, nI_add, show (48 : Int32) = nI 48 from rfl, nI_sub (by omega)]
    rw [T1.2.2.1, f21]
    refine ⟨fun c0 => ?_, fun c0 => ?_⟩
    · have e0 : st = n := nI_inj (by omega) (by omega) c0
      have z0 : psrt b n st = 0 := psrt_0.mpr (by omega)
      refine hq _ (g1.trans ((rts.put (by omega) (by omega)).trans (rts.put (by omega) (by omega)))) ?_
      rw [z0, if_pos rfl]
      exact ⟨by rw [ji_put, if_neg (by omega), ji_put_same], by rw [ji_put, if_neg (by omega), ji_put, if_neg (by omega)]; exact f21, by rw [ji_put_same]; rfl, fun z => absurd (show (0 : Nat) = 3 from z) (by decide), fun z => absurd (show (0 : Nat) = 1 from z) (by decide), fun z => absurd (show (0 : Nat) = 2 from z) (by decide)⟩
    · have hl : st < n := by
        have : st ≠ n := fun z => c0 (by rw [z])
        omega
      have ns : ¬ psrt b n st = 0 := fun z => by have := psrt_0.mp z; omega
      have le3 := psrt_le (b := b) (n := n) (p := st)
      have g2 : rts S (jput S1 (x + 94) 20 (nI st)) x := g1.trans (rts.put (by omega) (by omega))
      have T2 := hT.ts g2
      have p20 : ji (jput S1 (x + 94) 20 (nI st)) (x + 94) 20 = nI st := ji_put_same _ _ _ _
      have p21 : ji (jput S1 (x + 94) 20 (nI st)) (x + 94) 21 = nI st := by rw [ji_put, if_neg (by omega)]; exact f21
      have one : ∀ s, psrt b n st = s → prun b n s (n - st) st = prun b n s (n - (st + 1)) (st + 1) := fun s hs => by
        rw [show n - st = (n - (st + 1)) + 1 by omega]
        show (if psrt b n st = s then _ else _) = _
        rw [if_pos hs]
      refine c_X11_isLetter T2 (by omega) (fun e1 => ⟨fun z => absurd z (by decide), fun _ => l128 (n - st) st _ e1 (by omega) (by omega) (Nat.le_refl _) g2 p20 p21 (one 1 e1)⟩) (fun n1 => ⟨fun _ => ⟨T2.1.1, ?_⟩, fun z => absurd rfl z⟩)
      rw [p20]
      refine c_X11_isDigit T2 (by omega) (fun e2 => ⟨fun z => absurd z (by decide), fun _ => ⟨T2.1.1, ?_⟩⟩) (fun n2 => ⟨fun _ => ⟨T2.1.1, _, T2.1.r18.1, T2.1.r18.2.1, ?_, ?_⟩, fun z => absurd rfl z⟩)
      · refine l214 (n - st) st _ e2 (by omega) (by omega) (Nat.le_refl _) (g2.trans (rts.put (by omega) (by omega))) (by rw [ji_put, if_neg (by omega)]; exact p20) (by rw [ji_put, if_neg (by omega)]; exact p21) ?_ (one 2 e2)
        rw [ji_put_same, Nat.sub_self, if_pos (by omega)]; rfl
      · rw [p20]; exact T2.inn hl
      · have e3 : psrt b n st = 3 := by omega
        rw [p20, p21, nI_1, T2.by hl]
        refine hq _ (g2.trans (((rts.put (by omega) (by omega)).trans (rts.put (by omega) (by omega))).trans (rts.put (by omega) (by omega)))) ?_
        rw [e3, if_neg (by decide), if_pos rfl]
        exact ⟨by rw [ji_put, if_neg (by omega), ji_put, if_neg (by omega), ji_put, if_neg (by omega)]; exact p20, by rw [ji_put_same], by rw [ji_put, if_neg (by omega), ji_put, if_neg (by omega), ji_put_same]; rfl, fun _ => by rw [ji_put, if_neg (by omega), ji_put_same], fun z => absurd (show (3 : Nat) = 1 from z) (by decide), fun z => absurd (show (3 : Nat) = 2 from z) (by decide)⟩
  have l34 : ∀ (c p : Nat) (S1 : jM), p + c = n → e ≤ p → pskp b (n - e) e = pskp b c p → rts S S1 x → ji S1 (x + 94) 21 = nI p → L_X11_nextToken_34 E (d + 1) Q (x + 94) (nI w) (nI e) S1 := by
    intro c
    induction c with
    | zero =>
      intro p S1 hp hep hsk g1 f21
      obtain rfl : p = n := by omega
      have T1 := hT.ts g1
      have a0 := aft p 0 S1 hsk
      have a1 := aft p 1 S1 hsk
      refine T_X11_nextToken_34 ⟨T1.1.1, fun _ => ⟨fun x0 => a0 ?_ g1 f21, fun x0 => ⟨fun xe => a1 ?_ g1 f21, fun xe => a0 ?_ g1 f21⟩⟩, fun cc => absurd (by rw [T1.2.2.1, f21]; exact Int32.le_rfl) cc⟩
      · have : w = 0 := nI_inj (b := 0) (by omega) (by omega) x0
        rw [if_neg (by omega)]
      · have hw1 : w = 1 := by
          rcases w01 with q | q
          · rw [q] at x0; exact absurd rfl x0
          · exact q
        rw [f21] at xe
        have : e = p := nI_inj (by omega) (by omega) xe
        rw [if_pos ⟨hw1, this.symm⟩]
      · rw [f21] at xe
        rw [if_neg (fun z => xe (by rw [z.2]))]
    | succ c ih =>
      intro p S1 hp hep hsk g1 f21
      have T1 := hT.ts g1
      have hpn : p < n := by omega
      have hb := (hT.2.2.2 p hpn).1
      have ek : pskp b (c + 1) p = if b p = 32 then pskp b c (p + 1) else p := rfl
      refine T_X11_nextToken_34 ⟨T1.1.1, fun cc => absurd (by rw [T1.2.2.1, f21] at cc; exact cc) (nI_ge (by omega) (by omega)), fun _ => ⟨_, T1.1.r18.1, T1.1.r18.2.1, by rw [f21]; exact T1.inn hpn, fun c32 => ?_, fun c32 => ?_⟩⟩
      · rw [f21, T1.by hpn] at c32
        have e32 : b p = 32 := nI_inj (b := 32) (by omega) (by omega) c32
        rw [f21, nI_1]
        refine ih (p + 1) _ (by omega) (by omega) ?_ (g1.trans (rts.put (by omega) (by omega))) (by rw [ji_put_same])
        rw [hsk, ek, if_pos e32]
      · rw [f21, T1.by hpn] at c32
        have e32 : ¬ b p = 32 := fun z => c32 (by rw [z]; rfl)
        have hsk' : pskp b (n - e) e = p := by rw [hsk, ek, if_neg e32]
        have a0 := aft p 0 S1 hsk'
        have a1 := aft p 1 S1 hsk'
        refine ⟨fun x0 => a0 ?_ g1 f21, fun x0 => ⟨fun xe => a1 ?_ g1 f21, fun xe => a0 ?_ g1 f21⟩⟩
        · have : w = 0 := nI_inj (b := 0) (by omega) (by omega) x0
          rw [if_neg (by omega)]
        · have hw1 : w = 1 := by
            rcases w01 with q | q
            · rw [q] at x0; exact absurd rfl x0
            · exact q
          rw [f21] at xe
          have : e = p := nI_inj (by omega) (by omega) xe
          rw [if_pos ⟨hw1, this.symm⟩]
        · rw [f21] at xe
          rw [if_neg (fun z => xe (by rw [z.2]))]
  refine T_X11_nextToken ⟨hT.1.1, ?_⟩
  rw [h21, h22]
  have g34 : ∀ y : Nat, y = w → L_X11_nextToken_34 E (d + 1) Q (x + 94) (nI y) (nI e) S := fun y hy => by rw [hy]; exact l34 (n - e) e S (by omega) (Nat.le_refl _) rfl rts.rfl h21
  refine ⟨fun c0 => g34 0 ?_, fun c0 => ⟨fun c1 => g34 1 ?_, fun c1 => ⟨fun c2 => g34 1 ?_, fun c2 => g34 0 ?_⟩⟩⟩
  · have := (nI_leI (b := 0) (by omega) (by omega)).mp c0
    rw [← hw, if_neg (by omega)]
  · have e0 : 0 < e := by
      rcases Nat.eq_zero_or_pos e with q | q
      · rw [q] at c0; exact absurd (by decide) c0
      · exact q
    have : tk = 1 := nI_inj (b := 1) (by omega) (by omega) c1
    rw [← hw, if_pos ⟨e0, Or.inl this⟩]
  · have e0 : 0 < e := by
      rcases Nat.eq_zero_or_pos e with q | q
      · rw [q] at c0; exact absurd (by decide) c0
      · exact q
    have : tk = 2 := nI_inj (b := 2) (by omega) (by omega) c2
    rw [← hw, if_pos ⟨e0, Or.inr this⟩]
  · rw [← hw, if_neg (fun z => ?_)]
    rcases z.2 with q | q
    · exact c1 (by rw [q]; rfl)
    · exact c2 (by rw [q]; rfl)
end jRef2
