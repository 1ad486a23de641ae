/-! TEXT: the class reads chains and pieces as the plain reading does -/
def PO8 (S : jM) (t : Nat) (r : jrs) : Prop := (r.1 = true → TKC S t r.2.1 ∧ CDC S t r.2.2) ∧ (r.1 = false → ji S t 2 = nI r.2.1.1)
def rB (r : jrs) : Int32 := if r.1 = true then 1 else 0
section jTape4
variable {E : jEnv} {d : Nat} {S S' : jM} {t n key : Nat} {b : Nat → Nat} {k : jtk}
theorem rB_01 (r : jrs) : rB r = 0 ∨ rB r = 1 := by
  unfold rB; split
  · exact Or.inr rfl
  · exact Or.inl rfl
theorem CDC.not {L : List Nat} {w : Nat} (hw : ¬ w < 20000) (hL : CDC S t L) (f : ∀ j, j ≠ 9 → ji S' t j = ji S t j) (e9 : ji S' t 9 = nI (L.length + 1)) (r : ∀ i, i < L.length + 1 → ji S' (t + 2) i = nI ((L ++ [w]).getD i 0)) : CDC S' t (L ++ [w]) := by
  refine ⟨by rw [e9, List.length_append]; rfl, ?_, fun i hi => r i (by rw [List.length_append] at hi; exact hi)⟩
  rw [f 7 (by omega), pops_app]
  show _ = nI (pops L + ((if w < 20000 then 1 else 0) + 0))
  rw [if_neg hw]; exact hL.2.1
theorem TKC.of (h : TKC S t k) (f : ∀ j, j ≠ 9 → ji S' t j = ji S t j) : TKC S' t k := ⟨(f 2 (by omega)).trans h.1, (f 3 (by omega)).trans h.2.1, (f 4 (by omega)).trans h.2.2.1, (f 5 (by omega)).trans h.2.2.2⟩
theorem c_X8_read (hk : key < 3) : ∀ (F : Nat),
    (∀ (par bang D : Nat) (k : jtk) (L : List Nat) (S : jM) (Q : Int32 → jM → Prop), 2 * F + 5 ≤ D → pmu 5 par bang ≤ F → par ≤ 8 → bang ≤ 8 → TB S t n b → ji S t 6 = nI key → TKC S t k → TKok b n k → CDC S t L → L.length + 1 ≤ k.1 → (∀ S', jtp S S' t → PO8 S' t (pread b n key F 5 par bang k L) → Q (rB (pread b n key F 5 par bang k L)) S') → jFi E mX8_readsPiece D 0 0 [.ref t, .int (nI par), .int (nI bang)] S Q) ∧
    (∀ (lev par bang D : Nat) (k : jtk) (L : List Nat) (S : jM) (Q : Int32 → jM → Prop), 2 * F + 6 ≤ D → pmu lev par bang ≤ F → lev ≤ 5 → par ≤ 8 → bang ≤ 8 → TB S t n b → ji S t 6 = nI key → TKC S t k → TKok b n k → CDC S t L → L.length + 1 ≤ k.1 → (∀ S', jtp S S' t → PO8 S' t (pread b n key F lev par bang k L) → Q (rB (pread b n key F lev par bang k L)) S') → jFi E mX8_readsChain D 0 0 [.ref t, .int (nI lev), .int (nI par), .int (nI bang)] S Q) := by
  intro F
  induction F with
  | zero =>
    refine ⟨fun par bang D k L S Q hD hm => ?_, fun lev par bang D k L S Q hD hm hl => ?_⟩
    · unfold pmu at hm; omega
    · unfold pmu at hm; omega
  | succ F ih =>
    obtain ⟨ihP, ihC⟩ := ih
    have piece : ∀ (par bang D : Nat) (k : jtk) (L : List Nat) (S : jM) (Q : Int32 → jM → Prop), 2 * (F + 1) + 5 ≤ D → pmu 5 par bang ≤ F + 1 → par ≤ 8 → bang ≤ 8 → TB S t n b → ji S t 6 = nI key → TKC S t k → TKok b n k → CDC S t L → L.length + 1 ≤ k.1 → (∀ S', jtp S S' t → PO8 S' t (pread b n key (F + 1) 5 par bang k L) → Q (rB (pread b n key (F + 1) 5 par bang k L)) S') → jFi E mX8_readsPiece D 0 0 [.ref t, .int (nI par), .int (nI bang)] S Q := by
      intro par bang D k L S Q hD hm hp8 hb8 hT h6 hK ok hL hlen hq
      obtain ⟨e, rfl⟩ : ∃ e, D = e + 5 + 1 := ⟨D - 6, by omega⟩
      have h96 := hT.2.1
      have s3 := ok.so
      have hn := pnext_ok ok
      have er : pread b n key (F + 1) 5 par bang k L = if k.2.2.1 = 1 ∨ k.2.2.1 = 2 then (if popd b key k = 30000 then (false, k, []) else (true, pnext b n k, L ++ [popd b key k]))
        else if k.2.2.1 = 3 ∧ b k.1 = 33 ∧ bang < 8 then
          (if (pread b n key F 5 par (bang + 1) (pnext b n k) L).1 = true then (true, (pread b n key F 5 par (bang + 1) (pnext b n k) L).2.1, (pread b n key F 5 par (bang + 1) (pnext b n k) L).2.2 ++ [20033]) else (false, (pread b n key F 5 par (bang + 1) (pnext b n k) L).2.1, []))
        else if k.2.2.1 = 3 ∧ b k.1 = 40 ∧ par < 8 then
          (if (pread b n key F 0 (par + 1) bang (pnext b n k) L).1 = true ∧ (pread b n key F 0 (par + 1) bang (pnext b n k) L).2.1.2.2.1 = 3 ∧ b (pread b n key F 0 (par + 1) bang (pnext b n k) L).2.1.1 = 41 then (true, pnext b n (pread b n key F 0 (par + 1) bang (pnext b n k) L).2.1, (pread b n key F 0 (par + 1) bang (pnext b n k) L).2.2)
            else (false, (pread b n key F 0 (par + 1) bang (pnext b n k) L).2.1, []))
        else (false, k, []) := by rw [pread]; rw [if_neg (by omega)]
      rw [er] at hq
      unfold pmu at hm
      -- an operand
      have opd : (k.2.2.1 = 1 ∨ k.2.2.1 = 2) → jFi E mX8_readsOperand (e + 5) 0 0 [.ref t] S (fun r S3 => (r = 0 ∨ r = 1) ∧ Q r S3) := by
        intro hs
        rw [if_pos hs] at hq
        refine c_X8_readsOperand hT hK ok hk h6 hL hlen hs (fun c => ⟨Or.inl rfl, ?_⟩) (fun c S1 g1 K1 C1 => ⟨Or.inr rfl, ?_⟩)
        · rw [if_pos c] at hq
          exact hq S jtp.rfl ⟨fun z => Bool.noConfusion z, fun _ => hK.1⟩
        · rw [if_neg c] at hq
          exact hq S1 g1 ⟨fun _ => ⟨K1, C1⟩, fun z => Bool.noConfusion z⟩
      have paren : ¬ (k.2.2.1 = 1 ∨ k.2.2.1 = 2) → ¬ (k.2.2.1 = 3 ∧ b k.1 = 33 ∧ bang < 8) → jFi E mX8_isInHand (e + 5) 0 0 [.ref t, .int 40] S (fun r12 S11 => (r12 = 0 → Q 0 S11) ∧ (¬ r12 = 0 → (8 ≤ nI par → Q 0 S11) ∧ (¬ 8 ≤ nI par → jk S11 t = 8 ∧ jFv E mX8_step (e + 5) 0 0 [.ref t] S11 (fun S16 => jk S16 t = 8 ∧ jFi E mX8_readsChain (e + 5) 0 0 [.ref t, .int 0, .int (nI par + 1), .int (nI bang)] S16 (fun r19 S18 => (r19 = 0 → Q 0 S18) ∧ (¬ r19 = 0 → jk S18 t = 8 ∧ jFi E mX8_isInHand (e + 5) 0 0 [.ref t, .int 41] S18 (fun r23 S22 => (r23 = 0 → Q 0 S22) ∧ (¬ r23 = 0 → jk S22 t = 8 ∧ jFv E mX8_step (e + 5) 0 0 [.ref t] S22 (fun S26 => Q 1 S26))))))))) := by
        intro n1 n2
        rw [if_neg n1, if_neg n2] at hq
        refine c_X8_isInHand (c := 40) hT hK ok (by omega) (fun c3 c40 => ⟨fun z => absurd z (by decide), fun _ => ⟨fun z => ?_, fun z => ?_⟩⟩) (fun nn => ⟨fun _ => ?_, fun z => absurd rfl z⟩)
        · have hp : ¬ par < 8 := fun q => by
            have := (nI_leI (a := 8) (by omega) (by omega)).mp z
            omega
          rw [if_neg (fun q => hp q.2.2)] at hq
          exact hq S jtp.rfl ⟨fun z => Bool.noConfusion z, fun _ => hK.1⟩
        · have hp : par < 8 := by
            rcases Nat.lt_or_ge par 8 with q | q
            · exact q
            · exact absurd (nI_le (a := 8) q (by omega)) z
          rw [if_pos ⟨c3, c40, hp⟩] at hq
          have en : k.1 < k.2.1 := ok.2.2.2.1 (by omega)
          refine ⟨hT.1.1, c_X8_next hT hK ok (fun S1 g1 K1 => ⟨(hT.ts g1).1.1, ?_⟩)⟩
          rw [nI_1]
          have pg := pread_ok (b := b) (n := n) (key := key) F 0 (par + 1) bang (pnext b n k) L hn.1
          refine ihC 0 (par + 1) bang (e + 5) (pnext b n k) L S1 _ (by omega) (by unfold pmu; omega) (by omega) (by omega) hb8 (hT.ts g1) ((g1.2.2 6 (by omega)).trans h6) K1 hn.1 (hL.ts g1) (by omega) (fun S2 g2 p2 => ?_)
          generalize pread b n key F 0 (par + 1) bang (pnext b n k) L = r at hq pg p2 ⊢
          have g12 : jtp S S2 t := g1.tp.trans g2
          by_cases c1 : r.1 = true
          · have eB : rB r = 1 := by unfold rB; rw [if_pos c1]
            rw [eB]
            obtain ⟨K2, C2⟩ := p2.1 c1
            have T2 := hT.tp g12
            refine ⟨fun z => absurd z (by decide), fun _ => ⟨T2.1.1, c_X8_isInHand (c := 41) T2 K2 pg.1 (by omega) (fun d3 d41 => ⟨fun z => absurd z (by decide), fun _ => ⟨T2.1.1, c_X8_next T2 K2 pg.1 (fun S3 g3 K3 => ?_)⟩⟩) (fun nn => ⟨fun _ => ?_, fun z => absurd rfl z⟩)⟩⟩
            · rw [if_pos ⟨c1, d3, d41⟩] at hq
              exact hq S3 (g12.trans g3.tp) ⟨fun _ => ⟨K3, C2.ts g3⟩, fun z => Bool.noConfusion z⟩
            · rw [if_neg (fun z => nn z.2)] at hq
              exact hq S2 g12 ⟨fun z => Bool.noConfusion z, fun _ => K2.1⟩
          · have eB : rB r = 0 := by unfold rB; rw [if_neg c1]
            rw [eB]
            refine ⟨fun _ => ?_, fun z => absurd rfl z⟩
            rw [if_neg (fun z => c1 z.1)] at hq
            exact hq S2 g12 ⟨fun z => Bool.noConfusion z, fun _ => p2.2 (by simpa using c1)⟩
        · rw [if_neg (fun q => nn ⟨q.1, q.2.1⟩)] at hq
          exact hq S jtp.rfl ⟨fun z => Bool.noConfusion z, fun _ => hK.1⟩
      refine T_X8_readsPiece ⟨hT.1.1, ?_⟩
      rw [hK.2.2.1]
      refine ⟨fun c1 => opd (Or.inl (nI_inj (b := 1) (by omega) (by omega) c1)), fun c1 => ⟨fun c2 => opd (Or.inr (nI_inj (b := 2) (by omega) (by omega) c2)), fun c2 => ?_⟩⟩
      have nop : ¬ (k.2.2.1 = 1 ∨ k.2.2.1 = 2) := fun z => by
        rcases z with z | z
        · exact c1 (by rw [z]; rfl)
        · exact c2 (by rw [z]; rfl)
      refine c_X8_isInHand (c := 33) hT hK ok (by omega) (fun c3 c33 => ⟨fun z => absurd z (by decide), fun _ => ⟨fun z => ⟨hT.1.1, ?_⟩, fun z => ⟨hT.1.1, ?_⟩⟩⟩) (fun nn => ⟨fun _ => ⟨hT.1.1, paren nop (fun q => nn ⟨q.1, q.2.1⟩)⟩, fun z => absurd rfl z⟩)
      · have hb : ¬ bang < 8 := fun q => by
          have := (nI_leI (a := 8) (by omega) (by omega)).mp z
          omega
        exact paren nop (fun q => hb q.2.2)
      · have hb : bang < 8 := by
          rcases Nat.lt_or_ge bang 8 with q | q
          · exact q
          · exact absurd (nI_le (a := 8) q (by omega)) z
        rw [if_neg nop, if_pos ⟨c3, c33, hb⟩] at hq
        have en : k.1 < k.2.1 := ok.2.2.2.1 (by omega)
        refine c_X8_next hT hK ok (fun S1 g1 K1 => ⟨(hT.ts g1).1.1, ?_⟩)
        rw [nI_1]
        have pg := pread_ok (b := b) (n := n) (key := key) F 5 par (bang + 1) (pnext b n k) L hn.1
        refine ihP par (bang + 1) (e + 5) (pnext b n k) L S1 _ (by omega) (by unfold pmu; omega) hp8 (by omega) (hT.ts g1) ((g1.2.2 6 (by omega)).trans h6) K1 hn.1 (hL.ts g1) (by omega) (fun S2 g2 p2 => ?_)
        generalize pread b n key F 5 par (bang + 1) (pnext b n k) L = r at hq pg p2 ⊢
        have g12 : jtp S S2 t := g1.tp.trans g2
        have T2 := hT.tp g12
        refine ⟨T2.1.1, ?_⟩
        by_cases c1 : r.1 = true
        · have eB : rB r = 1 := by unfold rB; rw [if_pos c1]
          rw [eB]
          obtain ⟨K2, C2⟩ := p2.1 c1
          obtain ⟨k1, k2, -⟩ := pg.2.2 c1
          have k3 := pg.1.1
          have k4 := pg.1.2.1
          refine c_X8_write (w := 20033) T2 C2 (by omega) (fun S3 g3 f3 e9 r3 => ⟨Or.inr rfl, ?_⟩)
          rw [if_pos c1] at hq
          exact hq S3 (g12.trans g3) ⟨fun _ => ⟨K2.of f3, C2.not (by omega) f3 e9 r3⟩, fun z => Bool.noConfusion z⟩
        · have eB : rB r = 0 := by unfold rB; rw [if_neg c1]
          rw [eB]
          refine c_X8_writeAny T2 (fun S3 g3 e2 => ⟨Or.inl rfl, ?_⟩)
          rw [if_neg c1] at hq
          exact hq S3 (g12.trans g3) ⟨fun z => Bool.noConfusion z, fun _ => e2.trans (p2.2 (by simpa using c1))⟩
    refine ⟨piece, fun lev par bang D k L S Q hD hm hl5 hp8 hb8 hT h6 hK ok hL hlen hq => ?_⟩
    obtain ⟨e, rfl⟩ : ∃ e, D = e + 5 + 1 := ⟨D - 6, by omega⟩
    have h96 := hT.2.1
    refine T_X8_readsChain ⟨fun c => ⟨hT.1.1, ?_⟩, fun c => ⟨hT.1.1, ?_⟩⟩
    · have hlev : lev < 5 := (nI_ltI (b := 5) (by omega) (by omega)).mp c
      have er : pread b n key (F + 1) lev par bang k L = if (pread b n key F (lev + 1) par bang k L).1 = true then ploop b n lev (pread b n key F (lev + 1) par bang) (if lev = 2 then 1 else 96) (pread b n key F (lev + 1) par bang k L).2.1 (pread b n key F (lev + 1) par bang k L).2.2 else (false, (pread b n key F (lev + 1) par bang k L).2.1, []) := by rw [pread]; rw [if_pos hlev]
      rw [er] at hq
      unfold pmu at hm
      have sub : ∀ (k : jtk) (L : List Nat) (S1 : jM) (Q' : Int32 → jM → Prop), jtp S S1 t → TKC S1 t k → TKok b n k → CDC S1 t L → L.length + 1 ≤ k.1 → (∀ S', jtp S S' t → PO8 S' t (pread b n key F (lev + 1) par bang k L) → Q' (rB (pread b n key F (lev + 1) par bang k L)) S') → jFi E mX8_readsChain (e + 5) 0 0 [.ref t, .int (nI (lev + 1)), .int (nI par), .int (nI bang)] S1 Q' := fun k L S1 Q' g1 K1 o1 C1 l1 q1 =>
        ihC (lev + 1) par bang (e + 5) k L S1 Q' (by omega) (by unfold pmu; omega) (by omega) hp8 hb8 (hT.tp g1) ((g1.2.2 6 (Or.inr rfl)).trans h6) K1 o1 C1 l1 (fun S2 g2 p2 => q1 S2 (g1.trans g2) p2)
      have loop : ∀ (c i m : Nat) (k : jtk) (L : List Nat) (S1 : jM), i + c = m → m ≤ 96 → jtp S S1 t → TKC S1 t k → TKok b n k → CDC S1 t L → L.length + 1 ≤ k.1 → (∀ S', jtp S S' t → PO8 S' t (ploop b n lev (pread b n key F (lev + 1) par bang) c k L) → Q (rB (ploop b n lev (pread b n key F (lev + 1) par bang) c k L)) S') → L_X8_readsChain_42 E (e + 5) Q t (nI lev) (nI par) (nI bang) (nI m) (nI i) S1 := by
        intro c
        induction c with
        | zero =>
          intro i m k L S1 hi hm96 g1 K1 o1 C1 l1 q1
          obtain rfl : i = m := by omega
          exact T_X8_readsChain_42 ⟨fun _ => q1 S1 g1 ⟨fun _ => ⟨K1, C1⟩, fun z => Bool.noConfusion z⟩, fun cc => absurd Int32.le_rfl cc⟩
        | succ c ihc =>
          intro i m k L S1 hi hm96 g1 K1 o1 C1 l1 q1
          have T1 := hT.tp g1
          have hn := pnext_ok o1
          have ep : ploop b n lev (pread b n key F (lev + 1) par bang) (c + 1) k L = if plev b k = lev then (if (pread b n key F (lev + 1) par bang (pnext b n k) L).1 = true then ploop b n lev (pread b n key F (lev + 1) par bang) c (pread b n key F (lev + 1) par bang (pnext b n k) L).2.1 ((pread b n key F (lev + 1) par bang (pnext b n k) L).2.2 ++ [20000 + b k.1]) else (false, (pread b n key F (lev + 1) par bang (pnext b n k) L).2.1, [])) else (true, k, L) := rfl
          rw [ep] at q1
          refine T_X8_readsChain_42 ⟨fun cc => absurd cc (nI_ge (by omega) (by omega)), fun _ => ⟨T1.1.1, c_X8_levelInHand T1 K1 o1 ⟨fun cl => ⟨T1.1.1, ?_⟩, fun cl => ?_⟩⟩⟩
          · have el : plev b k = lev := by
              by_cases c9 : plev b k = 9
              · rw [if_pos c9] at cl
                have := nI_pos (n := lev) (by omega)
                rw [← cl] at this; exact absurd (by decide) this
              · rw [if_neg c9] at cl
                have p9 : plev b k ≤ 9 := by
                  unfold plev
                  repeat' split
                  all_goals omega
                exact nI_inj (by omega) (by omega) cl
            rw [if_pos el] at q1
            have hs := plev_ok (b := b) (t := k) (by omega)
            have en : k.1 < k.2.1 := o1.2.2.2.1 (by rw [hs.1]; decide)
            have hl := o1.lt (by rw [hs.1]; decide)
            rw [K1.1]
            refine c_X8_byteAt T1 hl ⟨T1.1.1, c_X8_next T1 K1 o1 (fun S2 g2 K2 => ⟨(T1.ts g2).1.1, ?_⟩)⟩
            rw [nI_1]
            have g12 := g1.trans g2.tp
            have pg := pread_ok (b := b) (n := n) (key := key) F (lev + 1) par bang (pnext b n k) L hn.1
            refine sub (pnext b n k) L S2 _ g12 K2 hn.1 (C1.ts g2) (by omega) (fun S3 g3 p3 => ?_)
            generalize pread b n key F (lev + 1) par bang (pnext b n k) L = r at q1 pg p3 ⊢
            have T3 := hT.tp g3
            by_cases c1 : r.1 = true
            · have eB : rB r = 1 := by unfold rB; rw [if_pos c1]
              rw [eB]
              rw [if_pos c1] at q1
              obtain ⟨K3, C3⟩ := p3.1 c1
              obtain ⟨k1, k2, -⟩ := pg.2.2 c1
              have k3 := pg.1.1
              have k4 := pg.1.2.1
              refine ⟨fun z => absurd z (by decide), fun _ => ⟨T3.1.1, ?_⟩⟩
              rw [show (20000 : Int32) = nI 20000 from rfl, nI_add, nI_1]
              refine c_X8_write (w := 20000 + b k.1) T3 C3 (by omega) (fun S4 g4 f4 e9 r4 => ?_)
              refine ihc (i + 1) m r.2.1 (r.2.2 ++ [20000 + b k.1]) S4 (by omega) hm96 (g3.trans g4) (K3.of f4) pg.1 (C3.not (by omega) f4 e9 r4) ?_ q1
              rw [List.length_append]
              show r.2.2.length + 1 + 1 ≤ r.2.1.1
              omega
            · have eB : rB r = 0 := by unfold rB; rw [if_neg c1]
              rw [eB]
              rw [if_neg c1] at q1
              exact ⟨fun _ => q1 S3 g3 ⟨fun z => Bool.noConfusion z, fun _ => p3.2 (by simpa using c1)⟩, fun z => absurd rfl z⟩
          · have el : ¬ plev b k = lev := fun z => cl (by rw [if_neg (by omega), z])
            rw [if_neg el] at q1
            exact q1 S1 g1 ⟨fun _ => ⟨K1, C1⟩, fun z => Bool.noConfusion z⟩
      rw [nI_1]
      have pg := pread_ok (b := b) (n := n) (key := key) F (lev + 1) par bang k L ok
      refine sub k L S _ jtp.rfl hK ok hL hlen (fun S1 g1 p1 => ?_)
      by_cases c1 : (pread b n key F (lev + 1) par bang k L).1 = true
      · have eB : rB (pread b n key F (lev + 1) par bang k L) = 1 := by unfold rB; rw [if_pos c1]
        rw [eB]
        rw [if_pos c1] at hq
        obtain ⟨K1, C1⟩ := p1.1 c1
        obtain ⟨k1, k2, -⟩ := pg.2.2 c1
        refine ⟨fun z => absurd z (by decide), fun _ => ⟨fun c2 => ?_, fun c2 => ?_⟩⟩
        · have e2 : lev = 2 := nI_inj (b := 2) (by omega) (by omega) c2
          rw [if_pos e2] at hq
          exact loop 1 0 1 _ _ S1 (by omega) (by omega) g1 K1 pg.1 C1 (by omega) hq
        · have e2 : ¬ lev = 2 := fun z => c2 (by rw [z]; rfl)
          rw [if_neg e2] at hq
          exact loop 96 0 96 _ _ S1 (by omega) (by omega) g1 K1 pg.1 C1 (by omega) hq
      · have eB : rB (pread b n key F (lev + 1) par bang k L) = 0 := by unfold rB; rw [if_neg c1]
        rw [eB]
        rw [if_neg c1] at hq
        exact ⟨fun _ => hq S1 g1 ⟨fun z => Bool.noConfusion z, fun _ => p1.2 (by simpa using c1)⟩, fun z => absurd rfl z⟩
    · have hlev : lev = 5 := by
        rcases Nat.lt_or_ge lev 5 with q | q
        · exact absurd (nI_lt (b := 5) q (by omega)) c
        · omega
      subst hlev
      exact piece par bang (e + 5) k L S _ (by omega) hm hp8 hb8 hT h6 hK ok hL hlen (fun S' g p => ⟨rB_01 _, hq S' g p⟩)
end jTape4
