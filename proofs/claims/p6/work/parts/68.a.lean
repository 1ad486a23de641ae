section
/-! POUR, READS, COPY on both sides -/
/-- fees come from a row: one place; all of them -/
def vp1 (pl : Nat → Int32) (sz i : Nat) (p : (Nat → Int32) × Int32) : (Nat → Int32) × Int32 :=
  if i < sz then (if pl i = kNONE then p else (upd p.1 (72 + 7 * i + 4) (jclamp (pl i) 0 99), if jclamp (pl i) 0 99 = mfv p.1 i 4 then p.2 else p.2 + 1)) else p
section jPour
variable {E : jEnv} {d : Nat} {S S' : jM} {x sz M : Nat} {v : Nat → Int32}
theorem vp_end {pl : Nat → Int32} : ∀ (n i : Nat) (p : (Nat → Int32) × Int32), sz ≤ i → jfold (vp1 pl sz) n i p = p
  | 0, _, _, _ => rfl
  | n + 1, i, p, h => by
    show jfold (vp1 pl sz) n (i + 1) (vp1 pl sz i p) = p
    have e : vp1 pl sz i p = p := by unfold vp1; rw [if_neg (by omega)]
    rw [e]; exact vp_end n (i + 1) p (by omega)
theorem vp_o {pl : Nat → Int32} (hz : sz ≤ 9) : ∀ (n i : Nat) (p : (Nat → Int32) × Int32) (j : Nat), (j < 72 ∨ 135 ≤ j) → (jfold (vp1 pl sz) n i p).1 j = p.1 j
  | 0, _, _, _, _ => rfl
  | n + 1, i, p, j, hj => by
    show (jfold (vp1 pl sz) n (i + 1) (vp1 pl sz i p)).1 j = p.1 j
    rw [vp_o hz n (i + 1) _ j hj]
    unfold vp1
    split
    · split
      · rfl
      · exact upd_ne _ (by omega)
    · rfl
theorem vp_rg {pl : Nat → Int32} (hz : sz ≤ 9) : ∀ (n i : Nat) (p : (Nat → Int32) × Int32), Rg sz p.1 → Rg sz (jfold (vp1 pl sz) n i p).1
  | 0, _, _, h => h
  | n + 1, i, p, h => by
    show Rg sz (jfold (vp1 pl sz) n (i + 1) (vp1 pl sz i p)).1
    refine vp_rg hz n (i + 1) _ ?_
    unfold vp1
    split
    · split
      · exact h
      · refine h.put (fun _ => ?_)
        rw [rgb_m i 4 (by omega)]
        exact (jcl0 (pl i)).2
    · exact h
theorem Q_pour {w : Int32} (h : IV S x sz M v) : jFi E mX10_pour (d + 3) 0 0 [.ref x, .int w] S (fun r S1 => jFm E mX11_pour (d + 3) (x + 94) [.int w] S1 (fun r' S2 => r = r' ∧ INV S2 x M)) := by
  obtain ⟨⟨hX, hM, hg⟩, hC, hGL, hjn, hT, hI, hS, hSl, hW, hTp⟩ := id h
  have hz := hX.sz9
  refine T_X10_pour ⟨hX.1, c_X10_findSheet hC (fun c => ⟨fun _ => U_X11_pour hM.k ⟨fun _ => ⟨rfl, h.inv⟩, fun c2 => absurd ((jissheet_wi w).trans c) c2⟩, fun b e => absurd e (by simp)⟩) (fun i hi e e1 => ⟨fun c => absurd c (by simp), fun b eb => ?_⟩)⟩
  obtain rfl : x + 66 + 2 * i = b := Option.some.inj eb
  subst e
  have hs1 : ¬ jissheet (nI i) = 0 := by rw [jissheet_wi, e1]; decide
  have hsh := hC.sh i hi
  obtain ⟨k6, r2, k12, l24⟩ := id hsh
  obtain ⟨so, n, a1, a2, a3, a4, a5, a6, a7⟩ := hS i hi
  have hM1 := hM.1
  have ci : Int32.toNatClampNeg (nI i) = i := jcl (by omega)
  have ms := SH1.miss (i := i) a2
  refine ⟨k6, ?_⟩
  rw [a3]
  refine ⟨fun c => U_X11_pour hM.k ⟨fun c => absurd c hs1, fun _ => ⟨hM.k, _, hM1.r4.1, hM1.r4.2.1, by rw [hM1.r4.2.2]; exact jin_nI hi (by omega), fun c0 => absurd c0 (by rw [ci, a4]; exact ms.mp c), fun _ => ⟨rfl, h.inv⟩⟩⟩, fun c => ?_⟩
  have so0 : 0 ≤ so := by
    rcases a2 with e | e | e
    · exact absurd e c
    · rw [e]; decide
    · rw [e]; decide
  have kC : ∀ (Q : Int32 → jM → Prop) (c k : Nat) (S1 : jM) (p : (Nat → Int32) × Int32), k + c = n → jch S S1 (x + 2) (x + 13) → XR S1 x sz p.1 → (∀ S', jch S S' (x + 2) (x + 13) → XR S' x sz (jfold (vp1 (ji S (x + 67 + 2 * i)) sz) c k p).1 → Q (jfold (vp1 (ji S (x + 67 + 2 * i)) sz) c k p).2 S') → L_X10_pour_30 E (d + 2) Q x (x + 66 + 2 * i) p.2 (nI k) S1 := by
    intro Q c
    induction c with
    | zero =>
      intro k S1 p hk c1 h1 hq
      obtain rfl : k = n := by omega
      refine T_X10_pour_30 ⟨by rw [c1.1.1]; exact k6, fun _ => hq S1 c1 h1, fun cc => absurd (by rw [c1.2 _ (by omega), a5]; exact Int32.le_rfl) cc⟩
    | succ c ih =>
      intro k S1 p hk c1 h1 hq
      have hsh1 : ShL S1 (x + 66 + 2 * i) (x + 67 + 2 * i) := ⟨by rw [c1.1.1]; exact k6, by rw [c1.1.2.2.1]; exact r2, by rw [c1.1.1]; exact k12, by rw [c1.1.2.1]; exact l24⟩
      have b5 : ji S1 (x + 66 + 2 * i) 1 = nI n := by rw [c1.2 _ (by omega)]; exact a5
      have bp : ji S1 (x + 67 + 2 * i) = ji S (x + 67 + 2 * i) := c1.2 _ (by omega)
      have nx : vp1 (ji S (x + 67 + 2 * i)) sz k p = p → L_X10_pour_30 E (d + 2) Q x (x + 66 + 2 * i) p.2 (nI (k + 1)) S1 := fun e =>
        ih (k + 1) S1 p (by omega) c1 h1 (by have hq2 : ∀ S', jch S S' (x + 2) (x + 13) → XR S' x sz (jfold (vp1 (ji S (x + 67 + 2 * i)) sz) c (k + 1) (vp1 (ji S (x + 67 + 2 * i)) sz k p)).1 → Q (jfold (vp1 (ji S (x + 67 + 2 * i)) sz) c (k + 1) (vp1 (ji S (x + 67 + 2 * i)) sz k p)).2 S' := hq
                                             rw [e] at hq2; exact hq2)
      refine T_X10_pour_30 ⟨hsh1.1, fun cc => absurd cc (by rw [b5]; exact nI_ge (by omega) (by omega)), fun _ => ⟨h1.1, x + 1, h1.2.1, h1.k3, x + 2, h1.r0, h1.g.1.1, c_X0_find h1.g.1 h1.g.2.1 hz (fun m hm e => ⟨fun c => absurd c (by simp), fun b eb => ⟨hsh1.1, c_X6_isNumber hsh1 a1 b5 (by omega) (fun e0 => ⟨fun _ => ?_, fun c => absurd rfl c⟩) (fun e0 => ⟨fun c => absurd c (by decide), fun _ => ⟨hsh1.1, _, hsh1.2.1, hsh1.2.2.1, by rw [hsh1.2.2.2]; exact jin_nI (by omega) (by omega), ?_⟩⟩)⟩⟩) (fun hno => ⟨fun _ => ?_, fun b e => absurd e (by simp)⟩)⟩⟩
      · obtain rfl : k = m := nI_inj (by omega) (by omega) e
        rw [bp] at e0
        rw [nI_1]
        exact nx (by unfold vp1; rw [if_pos hm, if_pos e0])
      · obtain rfl : k = m := nI_inj (by omega) (by omega) e
        obtain rfl : x + 2 + 2 + k = b := Option.some.inj eb
        rw [bp] at e0
        rw [bp, jcl (by omega), (jcl0 _).1, nI_1]
        have ev : vp1 (ji S (x + 67 + 2 * i)) sz k p = (upd p.1 (72 + 7 * k + 4) (jclamp (ji S (x + 67 + 2 * i) k) 0 99), if jclamp (ji S (x + 67 + 2 * i) k) 0 99 = mfv p.1 k 4 then p.2 else p.2 + 1) := by unfold vp1; rw [if_pos hm, if_neg e0]
        have hq2 : ∀ S', jch S S' (x + 2) (x + 13) → XR S' x sz (jfold (vp1 (ji S (x + 67 + 2 * i)) sz) c (k + 1) (vp1 (ji S (x + 67 + 2 * i)) sz k p)).1 → Q (jfold (vp1 (ji S (x + 67 + 2 * i)) sz) c (k + 1) (vp1 (ji S (x + 67 + 2 * i)) sz k p)).2 S' := hq
        rw [ev] at hq2
        have h2 := h1.mput (i := k) (f := 4) (w := jclamp (ji S (x + 67 + 2 * i) k) 0 99) (by omega) (by omega)
        have c2 : jch S (jput S1 (x + 2 + 2 + k) 4 (jclamp (ji S (x + 67 + 2 * i) k) 0 99)) (x + 2) (x + 13) := c1.trans (jch.put (by omega) (by omega))
        refine ⟨h1.mk (by omega), fun c9 => ?_, fun c9 => ?_⟩
        · rw [h1.ms (by omega) (by omega)] at c9
          rw [if_pos c9] at hq2
          rw [Int32.add_zero]
          exact ih (k + 1) _ (upd p.1 (72 + 7 * k + 4) (jclamp (ji S (x + 67 + 2 * i) k) 0 99), p.2) (by omega) c2 h2 hq2
        · rw [h1.ms (by omega) (by omega)] at c9
          rw [if_neg c9] at hq2
          exact ih (k + 1) _ (upd p.1 (72 + 7 * k + 4) (jclamp (ji S (x + 67 + 2 * i) k) 0 99), p.2 + 1) (by omega) c2 h2 hq2
      · rw [nI_1]
        exact nx (by
          unfold vp1
          rw [if_neg (fun hm => hno k hm rfl)])
  have kM : ∀ (Q : Int32 → jM → Prop) (S0 : jM) (c k : Nat) (S1 : jM) (p : (Nat → Int32) × Int32), k + c = n → ji S1 (x + 99) i = nI n → (∀ j, j < 24 → ji S1 (x + 100) (24 * i + j) = ji S (x + 67 + 2 * i) j) → p.1 0 = nI sz → jch S0 S1 (x + 95) (x + 96) → MR S1 (x + 94) p.1 → (∀ S', jch S0 S' (x + 95) (x + 96) → MR S' (x + 94) (jfold (vp1 (ji S (x + 67 + 2 * i)) sz) c k p).1 → Q (jfold (vp1 (ji S (x + 67 + 2 * i)) sz) c k p).2 S') → L_X11_pour_27 E (d + 1) Q (x + 94) (nI i) p.2 (nI k) S1 := by
    intro Q S0 c
    induction c with
    | zero =>
      intro k S1 p hk b9 b10 p0 c1 h1 hq
      obtain rfl : k = n := by omega
      refine T_X11_pour_27 ⟨h1.k, _, h1.1.r5.1, h1.1.r5.2.1, by rw [h1.1.r5.2.2]; exact jin_nI hi (by omega), fun _ => hq S1 c1 h1, fun cc => absurd (by rw [ci, b9]; exact Int32.le_rfl) cc⟩
    | succ c ih =>
      intro k S1 p hk b9 b10 p0 c1 h1 hq
      have i0 := h1.at (i := 0) 0 rfl (by omega)
      have e24 := nI_24 i k
      refine T_X11_pour_27 ⟨h1.k, _, h1.1.r5.1, h1.1.r5.2.1, by rw [h1.1.r5.2.2]; exact jin_nI hi (by omega), fun cc => absurd cc (by rw [ci, b9]; exact nI_ge (by omega) (by omega)), fun _ => ⟨_, h1.r, h1.k1, i0.1, fun cc => ?_, fun cc => ⟨_, h1.1.r6.1, h1.1.r6.2.1, by rw [e24, h1.1.r6.2.2]; exact jin_nI (by omega) (by omega), ?_⟩⟩⟩
      · rw [i0.2, p0, nI_leI (by omega) (by omega)] at cc
        have := hq S1 c1
        rw [vp_end (c + 1) k p cc] at this
        exact this h1
      · have hm : k < sz := by
          rcases Nat.lt_or_ge k sz with h9 | h9
          · exact h9
          · exact absurd (by rw [i0.2, p0]; exact nI_le h9 (by omega)) cc
        rw [e24, jcl (by omega), b10 k (by omega), nI_1]
        have hq2 : ∀ S', jch S0 S' (x + 95) (x + 96) → MR S' (x + 94) (jfold (vp1 (ji S (x + 67 + 2 * i)) sz) c (k + 1) (vp1 (ji S (x + 67 + 2 * i)) sz k p)).1 → Q (jfold (vp1 (ji S (x + 67 + 2 * i)) sz) c (k + 1) (vp1 (ji S (x + 67 + 2 * i)) sz k p)).2 S' := hq
        have e76 : (72 + 7 * nI k) + 4 = nI (72 + 7 * k + 4) := nI_mst k 4
        refine ⟨fun e0 => c_X11_of (f := 4) h1 (by omega) (by omega) ⟨h1.k, c_X11_becomes (72 + 7 * k + 4) h1 e76 (by omega) (fun S2 c2 h2 => ⟨fun _ => ?_, fun c9 => absurd rfl c9⟩)⟩, fun e0 => c_X11_becomes (72 + 7 * k + 4) h1 e76 (by omega) (fun S2 c2 h2 => ?_)⟩
        · have ev : vp1 (ji S (x + 67 + 2 * i)) sz k p = p := by unfold vp1; rw [if_pos hm, if_pos e0]
          rw [ev] at hq2
          rw [Int32.add_zero]
          have h3 : MR S2 (x + 94) p.1 := ⟨h2.1, fun j => (h2.2 j).trans (by
            by_cases hj : j = 72 + 7 * k + 4
            · subst hj; rw [upd_at]; rfl
            · exact upd_ne _ hj)⟩
          exact ih (k + 1) S2 p (by omega) (by rw [c2.2 _ (by omega)]; exact b9) (fun j hj => by rw [c2.2 _ (by omega)]; exact b10 j hj) p0 (c1.trans c2) h3 hq2
        · have ev : vp1 (ji S (x + 67 + 2 * i)) sz k p = (upd p.1 (72 + 7 * k + 4) (jclamp (ji S (x + 67 + 2 * i) k) 0 99), if jclamp (ji S (x + 67 + 2 * i) k) 0 99 = mfv p.1 k 4 then p.2 else p.2 + 1) := by unfold vp1; rw [if_pos hm, if_neg e0]
          rw [ev] at hq2
          refine ⟨fun c9 => ?_, fun c9 => ?_⟩
          · have c8 : jclamp (ji S (x + 67 + 2 * i) k) 0 99 = mfv p.1 k 4 := c9
            rw [if_pos c8] at hq2
            rw [Int32.add_zero]
            exact ih (k + 1) S2 (upd p.1 (72 + 7 * k + 4) (jclamp (ji S (x + 67 + 2 * i) k) 0 99), p.2) (by omega) (by rw [c2.2 _ (by omega)]; exact b9) (fun j hj => by rw [c2.2 _ (by omega)]; exact b10 j hj) (by show upd p.1 (72 + 7 * k + 4) (jclamp (ji S (x + 67 + 2 * i) k) 0 99) 0 = nI sz; rw [upd_ne _ (by omega)]; exact p0) (c1.trans c2) h2 hq2
          · have c8 : ¬ jclamp (ji S (x + 67 + 2 * i) k) 0 99 = mfv p.1 k 4 := c9
            rw [if_neg c8] at hq2
            exact ih (k + 1) S2 (upd p.1 (72 + 7 * k + 4) (jclamp (ji S (x + 67 + 2 * i) k) 0 99), p.2 + 1) (by omega) (by rw [c2.2 _ (by omega)]; exact b9) (fun j hj => by rw [c2.2 _ (by omega)]; exact b10 j hj) (by show upd p.1 (72 + 7 * k + 4) (jclamp (ji S (x + 67 + 2 * i) k) 0 99) 0 = nI sz; rw [upd_ne _ (by omega)]; exact p0) (c1.trans c2) h2 hq2
  refine kC _ n 0 S (v, 0) (by omega) jch.rfl hX (fun S1 c1 h1 => ?_)
  have hMs := hM.keep c1 (by omega)
  refine U_X11_pour hMs.k ⟨fun c => absurd c hs1, fun _ => ⟨hMs.k, _, hMs.1.r4.1, hMs.1.r4.2.1, by rw [hMs.1.r4.2.2]; exact jin_nI hi (by omega), fun _ => ?_, fun c0 => absurd (by rw [ci, c1.2 _ (by omega), a4]; exact so0) c0⟩⟩
  refine kM _ S1 n 0 S1 (v, 0) (by omega) (by rw [c1.2 _ (by omega)]; exact a6) (fun j hj => by rw [c1.2 _ (by omega)]; exact (a7 j hj).1.symm) hX.v0 jch.rfl hMs (fun S2 c2 h2 => ⟨rfl, sz, _, h.next ((jfq.of (jfr.realm c1 (by omega) (by omega))).trans (jfq.of (jfr.row c2))) ⟨h1.of c2.1 (h1.2.2.keep c2 (by omega)), h2, vp_rg hz n 0 (v, 0) hg⟩ (fun j hj _ => vp_o hz n 0 (v, 0) j (by omega))⟩)
theorem Q_reads {w : Int32} (h : IV S x sz M v) : jFi E mX10_reads (d + 3) 0 0 [.ref x, .int w] S (fun r S1 => jFm E mX11_reads (d + 3) (x + 94) [.int w] S1 (fun r' S2 => r = r' ∧ INV S2 x M)) := by
  obtain ⟨⟨hX, hM, hg⟩, hC, hGL, hjn, hT, hI, hS, hSl, hW, hTp⟩ := id h
  have hz := hX.sz9
  refine T_X10_reads ⟨hX.1, c_X10_findSheet hC (fun c => ⟨fun _ => U_X11_reads hM.k ⟨fun _ => ⟨rfl, h.inv⟩, fun c2 => absurd ((jissheet_wi w).trans c) c2⟩, fun b e => absurd e (by simp)⟩) (fun i hi e e1 => ⟨fun c => absurd c (by simp), fun b eb => ?_⟩)⟩
  obtain rfl : x + 66 + 2 * i = b := Option.some.inj eb
  subst e
  have hs1 : ¬ jissheet (nI i) = 0 := by rw [jissheet_wi, e1]; decide
  have hsh := hC.sh i hi
  obtain ⟨k6, r2, k12, l24⟩ := id hsh
  obtain ⟨so, n, a1, a2, a3, a4, a5, a6, a7⟩ := hS i hi
  have hM1 := hM.1
  have ci : Int32.toNatClampNeg (nI i) = i := jcl (by omega)
  have ms := SH1.miss (i := i) a2
  refine ⟨k6, ?_⟩
  rw [a3]
  refine ⟨fun c => U_X11_reads hM.k ⟨fun c => absurd c hs1, fun _ => ⟨hM.k, _, hM1.r4.1, hM1.r4.2.1, by rw [hM1.r4.2.2]; exact jin_nI hi (by omega), fun c0 => absurd c0 (by rw [ci, a4]; exact ms.mp c), fun _ => ⟨rfl, h.inv⟩⟩⟩, fun c => ?_⟩
  have so0 : 0 ≤ so := by
    rcases a2 with e | e | e
    · exact absurd e c
    · rw [e]; decide
    · rw [e]; decide
  have i0 := hM.at (i := 0) 0 rfl (by omega)
  -- both walk alike: what is left to answer from place k on
  have both : ∀ (c k : Nat), k + c = n → ∀ (Q : Int32 → jM → Prop), (∀ r, L_X11_reads_25 E (d + 1) (fun r' S2 => r = r' ∧ INV S2 x M) (x + 94) (nI i) (nI k) S → Q r S) → L_X10_reads_27 E (d + 2) Q x (x + 66 + 2 * i) (nI k) S := by
    intro c
    induction c with
    | zero =>
      intro k hk Q hq
      obtain rfl : k = n := by omega
      refine T_X10_reads_27 ⟨k6, fun _ => hq _ (T_X11_reads_25 ⟨hM.k, _, hM1.r5.1, hM1.r5.2.1, by rw [hM1.r5.2.2]; exact jin_nI hi (by omega), fun _ => ⟨rfl, h.inv⟩, fun cc => absurd (by rw [ci, a6]; exact Int32.le_rfl) cc⟩), fun cc => absurd (by rw [a5]; exact Int32.le_rfl) cc⟩
    | succ c ih =>
      intro k hk Q hq
      have e24 := nI_24 i k
      have ref : ∀ r, (ji S (x + 67 + 2 * i) k = kNONE → L_X11_reads_25 E (d + 1) (fun r' S2 => r = r' ∧ INV S2 x M) (x + 94) (nI i) (nI (k + 1)) S) → (¬ ji S (x + 67 + 2 * i) k = kNONE → sz ≤ k → r = nI k) → (¬ ji S (x + 67 + 2 * i) k = kNONE → k < sz → ji S (x + 67 + 2 * i) k = mfv v k 5 → L_X11_reads_25 E (d + 1) (fun r' S2 => r = r' ∧ INV S2 x M) (x + 94) (nI i) (nI (k + 1)) S) → (¬ ji S (x + 67 + 2 * i) k = kNONE → k < sz → ¬ ji S (x + 67 + 2 * i) k = mfv v k 5 → r = nI k) → L_X11_reads_25 E (d + 1) (fun r' S2 => r = r' ∧ INV S2 x M) (x + 94) (nI i) (nI k) S := by
        intro r q1 q2 q3 q4
        refine T_X11_reads_25 ⟨hM.k, _, hM1.r5.1, hM1.r5.2.1, by rw [hM1.r5.2.2]; exact jin_nI hi (by omega), fun cc => absurd cc (by rw [ci, a6]; exact nI_ge (by omega) (by omega)), fun _ => ⟨_, hM1.r6.1, hM1.r6.2.1, by rw [e24, hM1.r6.2.2]; exact jin_nI (by omega) (by omega), ?_⟩⟩
        rw [e24, jcl (by omega), ← (a7 k (by omega)).1, nI_1]
        refine ⟨q1, fun e0 => ⟨_, hM.r, hM.k1, i0.1, fun cc => ?_, fun cc => ?_⟩⟩
        · rw [i0.2, hX.v0, nI_leI (by omega) (by omega)] at cc
          exact ⟨q2 e0 cc, h.inv⟩
        · have hm : k < sz := by
            rcases Nat.lt_or_ge k sz with h9 | h9
            · exact h9
            · exact absurd (by rw [i0.2, hX.v0]; exact nI_le h9 (by omega)) cc
          exact c_X11_of (f := 5) hM (by omega) (by omega) ⟨fun e5 => q3 e0 hm e5, fun e5 => ⟨q4 e0 hm e5, h.inv⟩⟩
      have num : ∀ {Q2 : Int32 → jM → Prop}, (ji S (x + 67 + 2 * i) k = kNONE → Q2 0 S) → (¬ ji S (x + 67 + 2 * i) k = kNONE → Q2 1 S) → jFi E mX6_isNumber (d + 2) 0 0 [.ref (x + 66 + 2 * i), .int (nI k)] S Q2 := fun q0 q1 => c_X6_isNumber hsh a1 a5 (by omega) q0 q1
      refine T_X10_reads_27 ⟨k6, fun cc => absurd cc (by rw [a5]; exact nI_ge (by omega) (by omega)), fun _ => ⟨hX.1, x + 1, hX.2.1, hX.k3, x + 2, hX.r0, hX.g.1.1, c_X0_find hX.g.1 hX.g.2.1 hz (fun m hm e => ⟨fun c => absurd c (by simp), fun b eb => ⟨k6, num (fun e0 => ⟨fun _ => ?_, fun c => absurd rfl c⟩) (fun e0 => ⟨fun c => absurd c (by decide), fun _ => ⟨k6, _, r2, k12, by rw [l24]; exact jin_nI (by omega) (by omega), ?_⟩⟩)⟩⟩) (fun hno => ⟨fun _ => ⟨k6, num (fun e0 => ⟨fun _ => ?_, fun c => absurd rfl c⟩) (fun e0 => ⟨fun c => absurd c (by decide), fun _ => ?_⟩)⟩, fun b e => absurd e (by simp)⟩)⟩⟩
      · rw [nI_1]
        exact ih (k + 1) (by omega) Q (fun r hr => hq r (ref r (fun _ => hr) (fun c => absurd e0 c) (fun c => absurd e0 c) (fun c => absurd e0 c)))
      · obtain rfl : k = m := nI_inj (by omega) (by omega) e
        obtain rfl : x + 2 + 2 + k = b := Option.some.inj eb
        rw [jcl (by omega), nI_1]
        refine ⟨hX.mk (by omega), fun e5 => ?_, fun e5 => ?_⟩
        · rw [hX.ms (by omega) (by omega)] at e5
          exact ih (k + 1) (by omega) Q (fun r hr => hq r (ref r (fun c => absurd c e0) (fun _ c => absurd hm (by omega)) (fun _ _ _ => hr) (fun _ _ c => absurd e5 c)))
        · rw [hX.ms (by omega) (by omega)] at e5
          exact hq _ (ref _ (fun c => absurd c e0) (fun _ c => absurd hm (by omega)) (fun _ _ c => absurd c e5) (fun _ _ _ => rfl))
      · rw [nI_1]
        exact ih (k + 1) (by omega) Q (fun r hr => hq r (ref r (fun _ => hr) (fun c => absurd e0 c) (fun c => absurd e0 c) (fun c => absurd e0 c)))
      · have hk2 : sz ≤ k := by
          rcases Nat.lt_or_ge k sz with h9 | h9
          · exact absurd rfl (hno k h9)
          · exact h9
        exact hq _ (ref _ (fun c => absurd c e0) (fun _ _ => rfl) (fun _ c => absurd c (by omega)) (fun _ c => absurd c (by omega)))
  exact both n 0 (by omega) _ (fun r hr => U_X11_reads hM.k ⟨fun c => absurd c hs1, fun _ => ⟨hM.k, _, hM1.r4.1, hM1.r4.2.1, by rw [hM1.r4.2.2]; exact jin_nI hi (by omega), fun _ => hr, fun c0 => absurd (by rw [ci, a4]; exact so0) c0⟩⟩)
end jPour
end
