/-! TEXT: the reference's parts; all its levels -/
section jRef6
variable {E : jEnv} {S S' : jM} {x n la key : Nat} {b : Nat → Nat} {F : Nat}
theorem R_part0 (hk : key < 3) (hla : la + 196 ≤ 3135) (hP : RdM E x n la key b F 5 (F + 4) mX11_part0) (hEi : RdM E x n la key b F 0 (F + 4) mX11_either) : RdM E x n la key b (F + 1) 5 (F + 1 + 4) mX11_part0 := by
  intro par bang k L S Q hm hp8 hb8 hT hK ok hC e25 e26 hlen hq
  have h96 := hT.2.1
  have s3 := ok.so
  have hn := pnext_ok ok
  have er : pread b n key (F + 1) 5 par bang k L = if k.2.2.1 = 1 ∨ k.2.2.1 = 2 then (if popd b key k = 30000 then (false, k, []) else (true, pnext b n k, L ++ [popd b key k]))
    else if k.2.2.1 = 3 ∧ b k.1 = 33 ∧ bang < 8 then
      (if (pread b n key F 5 par (bang + 1) (pnext b n k) L).1 = true then (true, (pread b n key F 5 par (bang + 1) (pnext b n k) L).2.1, (pread b n key F 5 par (bang + 1) (pnext b n k) L).2.2 ++ [20033]) else (false, (pread b n key F 5 par (bang + 1) (pnext b n k) L).2.1, []))
    else if k.2.2.1 = 3 ∧ b k.1 = 40 ∧ par < 8 then
      (if (pread b n key F 0 (par + 1) bang (pnext b n k) L).1 = true ∧ (pread b n key F 0 (par + 1) bang (pnext b n k) L).2.1.2.2.1 = 3 ∧ b (pread b n key F 0 (par + 1) bang (pnext b n k) L).2.1.1 = 41 then (true, pnext b n (pread b n key F 0 (par + 1) bang (pnext b n k) L).2.1, (pread b n key F 0 (par + 1) bang (pnext b n k) L).2.2)
        else (false, (pread b n key F 0 (par + 1) bang (pnext b n k) L).2.1, []))
    else (false, k, []) := by rw [pread]; rw [if_neg (by omega)]
  rw [er] at hq
  unfold pmu at hm
  -- an operand is taken
  have opd : ∀ (y z : Nat), ¬ popd b key k = 30000 → (k.2.2.1 = 1 ∨ k.2.2.1 = 2) → ¬ ptn k = 4 → y = whatw (popd b key k) → z = valw key (popd b key k) → jFv E mX11_step (F + 4) 0 0 [.ref (x + 94), .int (nI y), .int (nI z)] S (fun S144 => jk S144 (x + 94) = 11 ∧ jFv E mX11_nextToken (F + 4) 0 0 [.ref (x + 94)] (jput S144 (x + 94) 29 ((ji S144 (x + 94) 29) + 1)) (fun S146 => Q 1 S146)) := by
    intro y z hne hs h4 ey ez
    rw [if_pos hs, if_neg hne] at hq
    have w2 := (popd_ok ok hne).2.1
    have hl := ok.lt (by omega)
    refine c_X11_stepW (w := popd b key k) hT.1 hC (by omega) hla ey ez (fun S1 g1 f1 e27 r1 => ⟨(hT.tp g1).1.1, ?_⟩)
    rw [f1 29 (by omega), hC.2.1, nI_1]
    have g2 : rtp S1 (jput S1 (x + 94) 29 (nI (pops L + 1))) x la := rtp.put (by omega) (by omega) (by omega)
    have T2 := (hT.tp g1).tp g2
    have K2 : TKM (jput S1 (x + 94) 29 (nI (pops L + 1))) x b k := (hK.of f1).put (by omega)
    have C2 : CDM (jput S1 (x + 94) 29 (nI (pops L + 1))) x la key (L ++ [popd b key k]) := by
      refine ⟨by rw [ji_put, if_neg (by omega), e27, List.length_append]; rfl, ?_, by rw [ji_put, if_neg (by omega), f1 28 (by omega)]; exact hC.2.2.1, fun i hi => by rw [ji_put_ne _ _ _ _ (by omega)]; exact r1 i (by rw [List.length_append] at hi; exact hi)⟩
      rw [ji_put_same, pops_app]
      show _ = nI (pops L + ((if popd b key k < 20000 then 1 else 0) + 0))
      rw [if_pos w2]
    refine c_X11_next T2 K2 ok h4 (fun S3 g3 K3 => hq S3 ((g1.trans g2).trans g3.tp) ⟨fun _ => ⟨K3, C2.ts g3, ?_, ?_⟩, fun z => Bool.noConfusion z⟩)
    · rw [g3.2.2 25 (by omega), ji_put, if_neg (by omega), f1 25 (by omega)]; exact e25
    · rw [g3.2.2 26 (by omega), ji_put, if_neg (by omega), f1 26 (by omega)]; exact e26
  -- signs
  have paren : (k.2.2.1 = 1 ∨ k.2.2.1 = 2 → popd b key k = 30000) → ¬ (k.2.2.1 = 3 ∧ b k.1 = 33 ∧ bang < 8) → jFi E mX11_isSign (F + 4) 0 0 [.ref (x + 94), .int 40] S (fun r9 S8 => (r9 = 0 → Q 0 S8) ∧ (¬ r9 = 0 → jk S8 (x + 94) = 11 ∧ ((ji S8 (x + 94) 25) = 8 → Q 0 S8) ∧ (¬ (ji S8 (x + 94) 25) = 8 → jFv E mX11_nextToken (F + 4) 0 0 [.ref (x + 94)] (jput S8 (x + 94) 25 ((ji S8 (x + 94) 25) + 1)) (fun S13 => jk S13 (x + 94) = 11 ∧ jFi E mX11_either (F + 4) 0 0 [.ref (x + 94), .int (nI key)] S13 (fun r16 S15 => (r16 = 0 → Q 0 S15) ∧ (¬ r16 = 0 → jk S15 (x + 94) = 11 ∧ jFi E mX11_isSign (F + 4) 0 0 [.ref (x + 94), .int 41] S15 (fun r20 S19 => (r20 = 0 → Q 0 S19) ∧ (¬ r20 = 0 → jk S19 (x + 94) = 11 ∧ jFv E mX11_nextToken (F + 4) 0 0 [.ref (x + 94)] (jput S19 (x + 94) 25 ((ji S19 (x + 94) 25) - 1)) (fun S23 => Q 1 S23))))))))) := by
    intro n1 n2
    by_cases hs : k.2.2.1 = 1 ∨ k.2.2.1 = 2
    · rw [if_pos hs, if_pos (n1 hs)] at hq
      exact c_X11_isSign (c := 40) hT hK ok (by omega) (fun c3 _ => absurd c3 (by omega)) (fun _ => ⟨fun _ => hq S rtp.rfl ⟨fun z => Bool.noConfusion z, fun _ => hK.1⟩, fun z => absurd rfl z⟩)
    rw [if_neg hs, if_neg n2] at hq
    refine c_X11_isSign (c := 40) hT hK ok (by omega) (fun c3 c40 => ⟨fun z => absurd z (by decide), fun _ => ⟨hT.1.1, ?_⟩⟩) (fun nn => ⟨fun _ => ?_, fun z => absurd rfl z⟩)
    · rw [e25]
      refine ⟨fun z => ?_, fun z => ?_⟩
      · have hp : par = 8 := nI_inj (b := 8) (by omega) (by omega) z
        rw [if_neg (by omega)] at hq
        exact hq S rtp.rfl ⟨fun z => Bool.noConfusion z, fun _ => hK.1⟩
      · have hp : par < 8 := by
          have : par ≠ 8 := fun q => z (by rw [q]; rfl)
          omega
        rw [if_pos ⟨c3, c40, hp⟩] at hq
        have en : k.1 < k.2.1 := ok.2.2.2.1 (by omega)
        have p3 : ptn k = 3 := (ptn_3 s3).mpr c3
        rw [nI_1]
        have g0 : rtp S (jput S (x + 94) 25 (nI (par + 1))) x la := rtp.put (by omega) (by omega) (by omega)
        refine c_X11_next (hT.tp g0) (hK.put (by omega)) ok (by omega) (fun S1 g1 K1 => ⟨((hT.tp g0).ts g1).1.1, ?_⟩)
        have pg := pread_ok (b := b) (n := n) (key := key) F 0 (par + 1) bang (pnext b n k) L hn.1
        refine hEi (par + 1) bang (pnext b n k) L S1 _ (by unfold pmu; omega) (by omega) hb8 ((hT.tp g0).ts g1) K1 hn.1 ((hC.put (by omega)).ts g1) (by rw [g1.2.2 25 (by omega), ji_put_same]) (by rw [g1.2.2 26 (by omega), ji_put, if_neg (by omega)]; exact e26) (by omega) (fun S2 g2 p2 => ?_)
        generalize pread b n key F 0 (par + 1) bang (pnext b n k) L = r at hq pg p2 ⊢
        have g12 : rtp S S2 x la := (g0.trans g1.tp).trans g2
        have T2 := hT.tp g12
        by_cases c1 : r.1 = true
        · have eB : rB r = 1 := by unfold rB; rw [if_pos c1]
          rw [eB]
          obtain ⟨K2, C2, q25, q26⟩ := p2.1 c1
          refine ⟨fun z => absurd z (by decide), fun _ => ⟨T2.1.1, c_X11_isSign (c := 41) T2 K2 pg.1 (by omega) (fun d3 d41 => ⟨fun z => absurd z (by decide), fun _ => ⟨T2.1.1, ?_⟩⟩) (fun nn => ⟨fun _ => ?_, fun z => absurd rfl z⟩)⟩⟩
          · rw [if_pos ⟨c1, d3, d41⟩] at hq
            rw [q25, nI_pred]
            have g3 : rtp S2 (jput S2 (x + 94) 25 (nI par)) x la := rtp.put (by omega) (by omega) (by omega)
            have p3' : ptn r.2.1 = 3 := (ptn_3 pg.1.so).mpr d3
            refine c_X11_next (T2.tp g3) (K2.put (by omega)) pg.1 (by omega) (fun S4 g4 K4 => hq S4 ((g12.trans g3).trans g4.tp) ⟨fun _ => ⟨K4, (C2.put (by omega)).ts g4, ?_, ?_⟩, fun z => Bool.noConfusion z⟩)
            · rw [g4.2.2 25 (by omega), ji_put_same]
            · rw [g4.2.2 26 (by omega), ji_put, if_neg (by omega)]; exact q26
          · rw [if_neg (fun z => nn z.2)] at hq
            exact hq S2 g12 ⟨fun z => Bool.noConfusion z, fun _ => K2.1⟩
        · have eB : rB r = 0 := by unfold rB; rw [if_neg c1]
          rw [eB]
          have cf : r.1 = false := by simpa using c1
          rw [if_neg (fun z => c1 z.1)] at hq
          exact ⟨fun _ => hq S2 g12 ⟨fun z => Bool.noConfusion z, fun _ => p2.2 cf⟩, fun z => absurd rfl z⟩
    · rw [if_neg (fun q => nn ⟨q.1, q.2.1⟩)] at hq
      exact hq S rtp.rfl ⟨fun z => Bool.noConfusion z, fun _ => hK.1⟩
  have sg : (k.2.2.1 = 1 ∨ k.2.2.1 = 2 → popd b key k = 30000) → jFi E mX11_isSign (F + 4) 0 0 [.ref (x + 94), .int 33] S (fun r5 S4 => (r5 = 0 → jk S4 (x + 94) = 11 ∧ jFi E mX11_isSign (F + 4) 0 0 [.ref (x + 94), .int 40] S4 (fun r9 S8 => (r9 = 0 → Q 0 S8) ∧ (¬ r9 = 0 → jk S8 (x + 94) = 11 ∧ ((ji S8 (x + 94) 25) = 8 → Q 0 S8) ∧ (¬ (ji S8 (x + 94) 25) = 8 → jFv E mX11_nextToken (F + 4) 0 0 [.ref (x + 94)] (jput S8 (x + 94) 25 ((ji S8 (x + 94) 25) + 1)) (fun S13 => jk S13 (x + 94) = 11 ∧ jFi E mX11_either (F + 4) 0 0 [.ref (x + 94), .int (nI key)] S13 (fun r16 S15 => (r16 = 0 → Q 0 S15) ∧ (¬ r16 = 0 → jk S15 (x + 94) = 11 ∧ jFi E mX11_isSign (F + 4) 0 0 [.ref (x + 94), .int 41] S15 (fun r20 S19 => (r20 = 0 → Q 0 S19) ∧ (¬ r20 = 0 → jk S19 (x + 94) = 11 ∧ jFv E mX11_nextToken (F + 4) 0 0 [.ref (x + 94)] (jput S19 (x + 94) 25 ((ji S19 (x + 94) 25) - 1)) (fun S23 => Q 1 S23)))))))))) ∧ (¬ r5 = 0 → jk S4 (x + 94) = 11 ∧ (8 ≤ (ji S4 (x + 94) 26) → jFi E mX11_isSign (F + 4) 0 0 [.ref (x + 94), .int 40] S4 (fun r9 S8 => (r9 = 0 → Q 0 S8) ∧ (¬ r9 = 0 → jk S8 (x + 94) = 11 ∧ ((ji S8 (x + 94) 25) = 8 → Q 0 S8) ∧ (¬ (ji S8 (x + 94) 25) = 8 → jFv E mX11_nextToken (F + 4) 0 0 [.ref (x + 94)] (jput S8 (x + 94) 25 ((ji S8 (x + 94) 25) + 1)) (fun S13 => jk S13 (x + 94) = 11 ∧ jFi E mX11_either (F + 4) 0 0 [.ref (x + 94), .int (nI key)] S13 (fun r16 S15 => (r16 = 0 → Q 0 S15) ∧ (¬ r16 = 0 → jk S15 (x + 94) = 11 ∧ jFi E mX11_isSign (F + 4) 0 0 [.ref (x + 94), .int 41] S15 (fun r20 S19 => (r20 = 0 → Q 0 S19) ∧ (¬ r20 = 0 → jk S19 (x + 94) = 11 ∧ jFv E mX11_nextToken (F + 4) 0 0 [.ref (x + 94)] (jput S19 (x + 94) 25 ((ji S19 (x + 94) 25) - 1)) (fun S23 => Q 1 S23)))))))))) ∧ (¬ 8 ≤ (ji S4 (x + 94) 26) → jFv E mX11_nextToken (F + 4) 0 0 [.ref (x + 94)] (jput S4 (x + 94) 26 ((ji S4 (x + 94) 26) + 1)) (fun S42 => jk S42 (x + 94) = 11 ∧ jFi E mX11_part0 (F + 4) 0 0 [.ref (x + 94), .int (nI key)] S42 (fun r45 S44 => (r45 = 0 → Q 0 S44) ∧ (¬ r45 = 0 → jk S44 (x + 94) = 11 ∧ jFv E mX11_step (F + 4) 0 0 [.ref (x + 94), .int 2, .int 33] (jput S44 (x + 94) 26 ((ji S44 (x + 94) 26) - 1)) (fun S48 => Q 1 S48))))))) := by
    intro n1
    refine c_X11_isSign (c := 33) hT hK ok (by omega) (fun c3 c33 => ⟨fun z => absurd z (by decide), fun _ => ⟨hT.1.1, ?_⟩⟩) (fun nn => ⟨fun _ => ⟨hT.1.1, paren n1 (fun q => nn ⟨q.1, q.2.1⟩)⟩, fun z => absurd rfl z⟩)
    rw [e26]
    refine ⟨fun z => ?_, fun z => ?_⟩
    · have := (nI_leI (a := 8) (by omega) (by omega)).mp z
      exact paren n1 (fun q => by omega)
    · have hb : bang < 8 := by
        rcases Nat.lt_or_ge bang 8 with q | q
        · exact q
        · exact absurd (nI_le (a := 8) q (by omega)) z
      rw [if_neg (by omega), if_pos ⟨c3, c33, hb⟩] at hq
      have en : k.1 < k.2.1 := ok.2.2.2.1 (by omega)
      have p3 : ptn k = 3 := (ptn_3 s3).mpr c3
      rw [nI_1]
      have g0 : rtp S (jput S (x + 94) 26 (nI (bang + 1))) x la := rtp.put (by omega) (by omega) (by omega)
      refine c_X11_next (hT.tp g0) (hK.put (by omega)) ok (by omega) (fun S1 g1 K1 => ⟨((hT.tp g0).ts g1).1.1, ?_⟩)
      have pg := pread_ok (b := b) (n := n) (key := key) F 5 par (bang + 1) (pnext b n k) L hn.1
      refine hP par (bang + 1) (pnext b n k) L S1 _ (by unfold pmu; omega) hp8 (by omega) ((hT.tp g0).ts g1) K1 hn.1 ((hC.put (by omega)).ts g1) (by rw [g1.2.2 25 (by omega), ji_put, if_neg (by omega)]; exact e25) (by rw [g1.2.2 26 (by omega), ji_put_same]) (by omega) (fun S2 g2 p2 => ?_)
      generalize pread b n key F 5 par (bang + 1) (pnext b n k) L = r at hq pg p2 ⊢
      have g12 : rtp S S2 x la := (g0.trans g1.tp).trans g2
      have T2 := hT.tp g12
      by_cases c1 : r.1 = true
      · have eB : rB r = 1 := by unfold rB; rw [if_pos c1]
        rw [eB]
        obtain ⟨K2, C2, q25, q26⟩ := p2.1 c1
        obtain ⟨k1, k2, -⟩ := pg.2.2 c1
        have k3 := pg.1.1
        have k4 := pg.1.2.1
        refine ⟨fun z => absurd z (by decide), fun _ => ⟨T2.1.1, ?_⟩⟩
        rw [if_pos c1] at hq
        rw [q26, nI_pred]
        have g3 : rtp S2 (jput S2 (x + 94) 26 (nI bang)) x la := rtp.put (by omega) (by omega) (by omega)
        refine c_X11_stepW (w := 20033) (y := 2) (z := 33) (T2.tp g3).1 (C2.put (by omega)) (by omega) hla rfl rfl (fun S4 g4 f4 e27 r4 => hq S4 ((g12.trans g3).trans g4) ⟨fun _ => ⟨(K2.put (by omega)).of f4, (C2.put (by omega)).add (by omega) f4 e27 r4, ?_, ?_⟩, fun z => Bool.noConfusion z⟩)
        · rw [f4 25 (by omega), ji_put, if_neg (by omega)]; exact q25
        · rw [f4 26 (by omega), ji_put_same]
      · have eB : rB r = 0 := by unfold rB; rw [if_neg c1]
        rw [eB]
        have cf : r.1 = false := by simpa using c1
        rw [if_neg c1] at hq
        exact ⟨fun _ => hq S2 g12 ⟨fun z => Bool.noConfusion z, fun _ => p2.2 cf⟩, fun z => absurd rfl z⟩
  -- which token
  have p4 := ptn_le k
  refine T_X11_part0 ⟨hT.1.1, ?_⟩
  rw [hK.2.2.1]
  have nb := ok.2.2.2.2.1
  refine ⟨fun c2 => ?_, fun c2 => ⟨fun c1 => ?_, fun c1 => sg (fun hs => ?_)⟩⟩
  · have e2 : ptn k = 2 := nI_inj (b := 2) (by omega) (by omega) c2
    have hs : k.2.2.1 = 2 ∧ ¬ (k.2.2.2 = 1 ∨ 4 < k.2.1 - k.1) := by
      unfold ptn at e2
      by_cases a0 : k.2.2.1 = 0
      · rw [if_pos a0] at e2; exact absurd e2 (by decide)
      · rw [if_neg a0] at e2
        by_cases a1 : k.2.2.1 = 1
        · rw [if_pos a1] at e2
          split at e2 <;> exact absurd e2 (by decide)
        · rw [if_neg a1] at e2
          by_cases a2 : k.2.2.1 = 2
          · rw [if_pos a2] at e2
            refine ⟨a2, fun z => ?_⟩
            rw [if_pos z] at e2; exact absurd e2 (by decide)
          · rw [if_neg a2] at e2; exact absurd e2 (by decide)
    have ep : popd b key k = pnum b (k.2.1 - k.1) k.1 0 := by unfold popd; rw [if_neg (fun z => hs.2 (Or.inl z)), if_pos hs.1, if_neg (fun z => hs.2 (Or.inr z))]
    have hlt : pnum b (k.2.1 - k.1) k.1 0 < 10000 := by
      have hb := pnum_lt b (k.2.1 - k.1) k.1 0 0 (fun q q1 q2 => psrt_2 ((ok.2.2.2.2.2.2 q q1 (by omega)).trans hs.1)) (by decide)
      have hp : 10 ^ (0 + (k.2.1 - k.1)) ≤ 10 ^ 4 := Nat.pow_le_pow_right (by omega) (by omega)
      have e4 : (10 : Nat) ^ 4 = 10000 := by decide
      omega
    rw [hK.2.2.2.2.2 hs.1 (by omega)]
    refine opd 0 _ (by omega) (Or.inr hs.1) (by omega) ?_ ?_
    · rw [ep]; unfold whatw; rw [if_pos hlt]
    · rw [ep]; unfold valw; rw [if_pos hlt]
  · have e1 : ptn k = 1 := nI_inj (b := 1) (by omega) (by omega) c1
    have hs : k.2.2.1 = 1 ∧ ¬ k.2.2.2 = 1 := by
      unfold ptn at e1
      by_cases a0 : k.2.2.1 = 0
      · rw [if_pos a0] at e1; exact absurd e1 (by decide)
      · rw [if_neg a0] at e1
        by_cases a1 : k.2.2.1 = 1
        · rw [if_pos a1] at e1
          refine ⟨a1, fun z => ?_⟩
          rw [if_pos z] at e1; exact absurd e1 (by decide)
        · rw [if_neg a1] at e1
          by_cases a2 : k.2.2.1 = 2
          · rw [if_pos a2] at e1
            split at e1 <;> exact absurd e1 (by decide)
          · rw [if_neg a2] at e1; exact absurd e1 (by decide)
    have hl := ok.lt (by omega)
    have hb := (hT.2.2.2 k.1 hl).1
    have hlet := (psrt_1.mp (ok.2.2.1.symm.trans hs.1)).2
    have ep : popd b key k = if k.2.1 - k.1 = 1 then (if pnam key (b k.1) = 9 then 30000 else 10000 + pnam key (b k.1)) else 30000 := by unfold popd; rw [if_neg hs.2, if_neg (by omega), if_pos hs.1]
    rw [hK.2.2.2.2.1 hs.1]
    by_cases q1 : k.2.1 - k.1 = 1
    · rw [if_pos q1] at ep ⊢
      refine ⟨fun z => ?_, fun _ => ?_⟩
      · have := nI_inj (b := 0) (by omega) (by omega) z
        omega
      · rw [isname_eq ⟨key, hk⟩ ⟨b k.1, hb⟩]
        by_cases q9 : pnam key (b k.1) = 9
        · rw [if_pos q9] at ep ⊢
          exact ⟨fun _ => sg (fun _ => ep), fun z => absurd rfl z⟩
        · rw [if_neg q9] at ep ⊢
          have p9 := pnam_le key (b k.1)
          refine ⟨fun z => absurd z (by decide), fun _ => opd 1 (b k.1) (by omega) (Or.inl hs.1) (by omega) ?_ ?_⟩
          · rw [ep]; unfold whatw; rw [if_neg (by omega), if_pos (by omega)]
          · rw [ep]; unfold valw; rw [if_neg (by omega), if_pos (by omega), show 10000 + pnam key (b k.1) - 10000 = pnam key (b k.1) by omega]
            exact (letw_eq ⟨key, hk⟩ ⟨b k.1, hb⟩ q9).symm
    · rw [if_neg q1] at ep ⊢
      exact ⟨fun _ => sg (fun _ => ep), fun z => absurd rfl z⟩
  · have e2 : ¬ ptn k = 2 := fun z => c2 (by rw [z]; rfl)
    have e1 : ¬ ptn k = 1 := fun z => c1 (by rw [z]; rfl)
    unfold ptn at e1 e2
    unfold popd
    rcases hs with a1 | a2
    · rw [if_neg (by omega), if_pos a1] at e1
      have z : k.2.2.2 = 1 := by
        refine Classical.byContradiction (fun q => ?_)
        rw [if_neg q] at e1; exact e1 rfl
      rw [if_pos z]
    · rw [if_neg (by omega), if_neg (by omega), if_pos a2] at e2
      have z : k.2.2.2 = 1 ∨ 4 < k.2.1 - k.1 := by
        refine Classical.byContradiction (fun q => ?_)
        rw [if_neg q] at e2; exact e2 rfl
      by_cases z1 : k.2.2.2 = 1
      · rw [if_pos z1]
      · rw [if_neg z1, if_pos a2, if_pos (by omega)]
/-- all levels, by fuel -/
theorem R_all (hk : key < 3) (hla : la + 196 ≤ 3135) : ∀ F : Nat, RdM E x n la key b F 0 (F + 4) mX11_either ∧ RdM E x n la key b F 1 (F + 4) mX11_both ∧ RdM E x n la key b F 2 (F + 4) mX11_test ∧ RdM E x n la key b F 3 (F + 4) mX11_sum ∧ RdM E x n la key b F 4 (F + 4) mX11_term ∧ RdM E x n la key b F 5 (F + 4) mX11_part0
  | 0 => by
    refine ⟨?_, ?_, ?_, ?_, ?_, ?_⟩
    all_goals
      intro par bang k L S Q hm
      unfold pmu at hm
      omega
  | F + 1 => by
    obtain ⟨h0, h1, h2, h3, h4, h5⟩ := R_all hk hla F
    exact ⟨R_either hla h1, R_both hla h2, R_test hla h3, R_sum hla h4, R_term hla h5, R_part0 hk hla h5 h0⟩
end jRef6
