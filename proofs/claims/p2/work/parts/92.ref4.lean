/-! TEXT: the reference reads chains as the plain reading does -/
def PO11 (S : jM) (x la key par bang : Nat) (b : Nat → Nat) (r : jrs) : Prop := (r.1 = true → TKM S x b r.2.1 ∧ CDM S x la key r.2.2 ∧ ji S (x + 94) 25 = nI par ∧ ji S (x + 94) 26 = nI bang) ∧ (r.1 = false → ji S (x + 94) 20 = nI r.2.1.1)
def RdM (E : jEnv) (x n la key : Nat) (b : Nat → Nat) (F lev D : Nat) (M : jMd) : Prop := ∀ (par bang : Nat) (k : jtk) (L : List Nat) (S : jM) (Q : Int32 → jM → Prop), pmu lev par bang ≤ F → par ≤ 8 → bang ≤ 8 → RB S x n b → TKM S x b k → TKok b n k → CDM S x la key L → ji S (x + 94) 25 = nI par → ji S (x + 94) 26 = nI bang → L.length + 1 ≤ k.1 → (∀ S', rtp S S' x la → PO11 S' x la key par bang b (pread b n key F lev par bang k L) → Q (rB (pread b n key F lev par bang k L)) S') → jFi E M D 0 0 [.ref (x + 94), .int (nI key)] S Q
section jRef4
variable {E : jEnv} {S S' : jM} {x n la key : Nat} {b : Nat → Nat} {F lev : Nat}
theorem CDM.add {L : List Nat} {w : Nat} (hw : ¬ w < 20000) (hC : CDM S x la key L) (f : ∀ j, j ≠ 27 → ji S' (x + 94) j = ji S (x + 94) j) (e27 : ji S' (x + 94) 27 = nI (L.length + 1)) (r : ∀ i, i < L.length + 1 → ji S' (x + 95) (la + 2 * i) = nI (whatw ((L ++ [w]).getD i 0)) ∧ ji S' (x + 95) (la + 2 * i + 1) = nI (valw key ((L ++ [w]).getD i 0))) : CDM S' x la key (L ++ [w]) := by
  refine ⟨by rw [e27, List.length_append]; rfl, ?_, (f 28 (by omega)).trans hC.2.2.1, fun i hi => r i (by rw [List.length_append] at hi; exact hi)⟩
  rw [f 29 (by omega), pops_app]
  show _ = nI (pops L + ((if w < 20000 then 1 else 0) + 0))
  rw [if_neg hw]; exact hC.2.1
theorem TKM.of {k : jtk} (h : TKM S x b k) (f : ∀ j, j ≠ 27 → ji S' (x + 94) j = ji S (x + 94) j) : TKM S' x b k := by
  obtain ⟨a1, a2, a3, a4, a5, a6⟩ := h
  exact ⟨(f 20 (by omega)).trans a1, (f 21 (by omega)).trans a2, (f 22 (by omega)).trans a3, fun z => (f 24 (by omega)).trans (a4 z), fun z => (f 24 (by omega)).trans (a5 z), fun z y => (f 23 (by omega)).trans (a6 z y)⟩
/-- a sign is in hand: the next part, and the step -/
theorem rjoin {par bang : Nat} {k : jtk} {L : List Nat} {M : jMd} {Q : Int32 → jM → Prop} {cont : jM → Prop} {c2 : Int32} (hla : la + 196 ≤ 3135) (hR : RdM E x n la key b F (lev + 1) (F + 4) M) (hm : pmu (lev + 1) par bang ≤ F) (hp8 : par ≤ 8) (hb8 : bang ≤ 8) (hT : RB S x n b) (hK : TKM S x b k) (ok : TKok b n k) (hC : CDM S x la key L) (e25 : ji S (x + 94) 25 = nI par) (e26 : ji S (x + 94) 26 = nI bang) (hlen : L.length + 1 ≤ k.1) (hl5 : lev < 5) (hl : plev b k = lev) (hc2 : c2 = nI (b k.1))
    (h1 : ∀ S', rtp S S' x la → (pread b n key F (lev + 1) par bang (pnext b n k) L).1 = true → TKM S' x b (pread b n key F (lev + 1) par bang (pnext b n k) L).2.1 → CDM S' x la key ((pread b n key F (lev + 1) par bang (pnext b n k) L).2.2 ++ [20000 + b k.1]) → ji S' (x + 94) 25 = nI par → ji S' (x + 94) 26 = nI bang → cont S')
    (h0 : ∀ S', rtp S S' x la → (pread b n key F (lev + 1) par bang (pnext b n k) L).1 = false → ji S' (x + 94) 20 = nI (pread b n key F (lev + 1) par bang (pnext b n k) L).2.1.1 → Q 0 S') : jFv E mX11_nextToken (F + 4) 0 0 [.ref (x + 94)] S (fun S10 => jk S10 (x + 94) = 11 ∧ jFi E M (F + 4) 0 0 [.ref (x + 94), .int (nI key)] S10 (fun r13 S12 => (r13 = 0 → Q 0 S12) ∧ (¬ r13 = 0 → jk S12 (x + 94) = 11 ∧ jFv E mX11_step (F + 4) 0 0 [.ref (x + 94), .int 2, .int c2] S12 (fun S16 => cont S16)))) := by
  have h96 := hT.2.1
  have hs := plev_ok (b := b) (t := k) (by omega)
  have en : k.1 < k.2.1 := ok.2.2.2.1 (by rw [hs.1]; decide)
  have hn := pnext_ok ok
  have p3 : ptn k = 3 := (ptn_3 ok.so).mpr hs.1
  refine c_X11_next hT hK ok (by omega) (fun S1 g1 K1 => ⟨(hT.ts g1).1.1, ?_⟩)
  have pg := pread_ok (b := b) (n := n) (key := key) F (lev + 1) par bang (pnext b n k) L hn.1
  refine hR par bang (pnext b n k) L S1 _ hm hp8 hb8 (hT.ts g1) K1 hn.1 (hC.ts g1) ((g1.2.2 25 (by omega)).trans e25) ((g1.2.2 26 (by omega)).trans e26) (by omega) (fun S2 g2 p2 => ?_)
  generalize pread b n key F (lev + 1) par bang (pnext b n k) L = r at h1 h0 pg p2 ⊢
  have g12 : rtp S S2 x la := g1.tp.trans g2
  by_cases c1 : r.1 = true
  · have eB : rB r = 1 := by unfold rB; rw [if_pos c1]
    rw [eB]
    obtain ⟨K2, C2, q25, q26⟩ := p2.1 c1
    obtain ⟨k1, k2, -⟩ := pg.2.2 c1
    have k3 := pg.1.1
    have k4 := pg.1.2.1
    have T2 := hT.tp g12
    have hcs := hs.2
    have hd : ∀ c ∈ sgn, whatw (20000 + c) = 2 := fun c _ => by unfold whatw; rw [if_neg (by omega), if_neg (by omega)]
    have hv : valw key (20000 + b k.1) = b k.1 := by unfold valw; rw [if_neg (by omega), if_neg (by omega)]; omega
    refine ⟨fun z => absurd z (by decide), fun _ => ⟨T2.1.1, ?_⟩⟩
    rw [hc2]
    refine c_X11_stepW (w := 20000 + b k.1) (y := 2) (z := b k.1) T2.1 C2 (by omega) hla (hd _ hcs).symm hv.symm (fun S3 g3 f3 e27 r3 => ?_)
    exact h1 S3 (g12.trans g3) c1 (K2.of f3) (C2.add (by omega) f3 e27 r3) ((f3 25 (by omega)).trans q25) ((f3 26 (by omega)).trans q26)
  · have eB : rB r = 0 := by unfold rB; rw [if_neg c1]
    rw [eB]
    have cf : r.1 = false := by simpa using c1
    exact ⟨fun _ => h0 S2 g12 cf (p2.2 cf), fun z => absurd rfl z⟩
/-- a level's loop -/
theorem rloop {M : jMd} {Q : Int32 → jM → Prop} {Lp : jM → Prop} {par bang : Nat} {S0 : jM} (hla : la + 196 ≤ 3135) (hR : RdM E x n la key b F (lev + 1) (F + 4) M) (hm : pmu (lev + 1) par bang ≤ F) (hp8 : par ≤ 8) (hb8 : bang ≤ 8) (hl5 : lev < 5)
    (unf : ∀ (k : jtk) (S : jM), RB S x n b → TKM S x b k → TKok b n k → (plev b k = lev → jFv E mX11_nextToken (F + 4) 0 0 [.ref (x + 94)] S (fun S10 => jk S10 (x + 94) = 11 ∧ jFi E M (F + 4) 0 0 [.ref (x + 94), .int (nI key)] S10 (fun r13 S12 => (r13 = 0 → Q 0 S12) ∧ (¬ r13 = 0 → jk S12 (x + 94) = 11 ∧ jFv E mX11_step (F + 4) 0 0 [.ref (x + 94), .int 2, .int (nI (b k.1))] S12 (fun S16 => Lp S16))))) → (¬ plev b k = lev → Q 1 S) → Lp S) :
    ∀ (c : Nat) (k : jtk) (L : List Nat) (S : jM), n - k.1 ≤ c → rtp S0 S x la → RB S x n b → TKM S x b k → TKok b n k → CDM S x la key L → ji S (x + 94) 25 = nI par → ji S (x + 94) 26 = nI bang → L.length + 1 ≤ k.1 → (∀ S', rtp S0 S' x la → PO11 S' x la key par bang b (ploop b n lev (pread b n key F (lev + 1) par bang) c k L) → Q (rB (ploop b n lev (pread b n key F (lev + 1) par bang) c k L)) S') → Lp S := by
  intro c
  induction c with
  | zero =>
    intro k L S hc g hT hK ok hC e25 e26 hlen hq
    refine unf k S hT hK ok (fun z => ?_) (fun _ => hq S g ⟨fun _ => ⟨hK, hC, e25, e26⟩, fun z => Bool.noConfusion z⟩)
    have hs := plev_ok (b := b) (t := k) (by omega)
    have := ok.lt (by rw [hs.1]; decide)
    omega
  | succ c ih =>
    intro k L S hc g hT hK ok hC e25 e26 hlen hq
    have ep : ploop b n lev (pread b n key F (lev + 1) par bang) (c + 1) k L = if plev b k = lev then (if (pread b n key F (lev + 1) par bang (pnext b n k) L).1 = true then ploop b n lev (pread b n key F (lev + 1) par bang) c (pread b n key F (lev + 1) par bang (pnext b n k) L).2.1 ((pread b n key F (lev + 1) par bang (pnext b n k) L).2.2 ++ [20000 + b k.1]) else (false, (pread b n key F (lev + 1) par bang (pnext b n k) L).2.1, [])) else (true, k, L) := rfl
    rw [ep] at hq
    refine unf k S hT hK ok (fun el => ?_) (fun el => ?_)
    · rw [if_pos el] at hq
      have hs := plev_ok (b := b) (t := k) (by omega)
      have en : k.1 < k.2.1 := ok.2.2.2.1 (by rw [hs.1]; decide)
      have hn := pnext_ok ok
      have pg := pread_ok (b := b) (n := n) (key := key) F (lev + 1) par bang (pnext b n k) L hn.1
      refine rjoin hla hR hm hp8 hb8 hT hK ok hC e25 e26 hlen hl5 el rfl (fun S1 g1 c1 K1 C1 q25 q26 => ?_) (fun S1 g1 c1 q20 => ?_)
      · rw [if_pos c1] at hq
        obtain ⟨k1, k2, -⟩ := pg.2.2 c1
        refine ih _ _ S1 (by omega) (g.trans g1) (hT.tp g1) K1 pg.1 C1 q25 q26 ?_ hq
        rw [List.length_append]
        show _ + 1 + 1 ≤ _
        omega
      · rw [if_neg (by rw [c1]; decide)] at hq
        exact hq S1 (g.trans g1) ⟨fun z => Bool.noConfusion z, fun _ => q20⟩
    · rw [if_neg el] at hq
      exact hq S g ⟨fun _ => ⟨hK, hC, e25, e26⟩, fun z => Bool.noConfusion z⟩
/-- a level by its first part and its loop -/
theorem rchain {M : jMd} {Q : Int32 → jM → Prop} {Lp : jM → Prop} {par bang : Nat} {k : jtk} {L : List Nat} (hla : la + 196 ≤ 3135) (hR : RdM E x n la key b F (lev + 1) (F + 4) M) (hm : pmu lev par bang ≤ F + 1) (hp8 : par ≤ 8) (hb8 : bang ≤ 8) (hl5 : lev < 5) (hl2 : lev ≠ 2)
    (unf : ∀ (k : jtk) (S : jM), RB S x n b → TKM S x b k → TKok b n k → (plev b k = lev → jFv E mX11_nextToken (F + 4) 0 0 [.ref (x + 94)] S (fun S10 => jk S10 (x + 94) = 11 ∧ jFi E M (F + 4) 0 0 [.ref (x + 94), .int (nI key)] S10 (fun r13 S12 => (r13 = 0 → Q 0 S12) ∧ (¬ r13 = 0 → jk S12 (x + 94) = 11 ∧ jFv E mX11_step (F + 4) 0 0 [.ref (x + 94), .int 2, .int (nI (b k.1))] S12 (fun S16 => Lp S16))))) → (¬ plev b k = lev → Q 1 S) → Lp S)
    (hT : RB S x n b) (hK : TKM S x b k) (ok : TKok b n k) (hC : CDM S x la key L) (e25 : ji S (x + 94) 25 = nI par) (e26 : ji S (x + 94) 26 = nI bang) (hlen : L.length + 1 ≤ k.1) (hq : ∀ S', rtp S S' x la → PO11 S' x la key par bang b (pread b n key (F + 1) lev par bang k L) → Q (rB (pread b n key (F + 1) lev par bang k L)) S') : jk S (x + 94) = 11 ∧ jFi E M (F + 4) 0 0 [.ref (x + 94), .int (nI key)] S (fun r3 S2 => (r3 = 0 → Q 0 S2) ∧ (¬ r3 = 0 → Lp S2)) := by
  have h96 := hT.2.1
  have er : pread b n key (F + 1) lev par bang k L = if (pread b n key F (lev + 1) par bang k L).1 = true then ploop b n lev (pread b n key F (lev + 1) par bang) (if lev = 2 then 1 else 96) (pread b n key F (lev + 1) par bang k L).2.1 (pread b n key F (lev + 1) par bang k L).2.2 else (false, (pread b n key F (lev + 1) par bang k L).2.1, []) := by rw [pread]; rw [if_pos hl5]
  rw [er, if_neg hl2] at hq
  have hm' : pmu (lev + 1) par bang ≤ F := by unfold pmu at hm ⊢; omega
  have pg := pread_ok (b := b) (n := n) (key := key) F (lev + 1) par bang k L ok
  refine ⟨hT.1.1, hR par bang k L S _ hm' hp8 hb8 hT hK ok hC e25 e26 hlen (fun S1 g1 p1 => ?_)⟩
  by_cases c1 : (pread b n key F (lev + 1) par bang k L).1 = true
  · have eB : rB (pread b n key F (lev + 1) par bang k L) = 1 := by unfold rB; rw [if_pos c1]
    rw [eB]
    rw [if_pos c1] at hq
    obtain ⟨K1, C1, q25, q26⟩ := p1.1 c1
    obtain ⟨k1, k2, -⟩ := pg.2.2 c1
    exact ⟨fun z => absurd z (by decide), fun _ => rloop hla hR hm' hp8 hb8 hl5 unf 96 _ _ S1 (by omega) g1 (hT.tp g1) K1 pg.1 C1 q25 q26 (by omega) hq⟩
  · have eB : rB (pread b n key F (lev + 1) par bang k L) = 0 := by unfold rB; rw [if_neg c1]
    rw [eB]
    rw [if_neg c1] at hq
    have cf : (pread b n key F (lev + 1) par bang k L).1 = false := by simpa using c1
    exact ⟨fun _ => hq S1 g1 ⟨fun z => Bool.noConfusion z, fun _ => p1.2 cf⟩, fun z => absurd rfl z⟩
theorem plev_is {k : jtk} {c l : Nat} (h3 : k.2.2.1 = 3) (hb : b k.1 = c) (h : (if c = 124 then 0 else if c = 38 then 1 else if c = 60 then 2 else if c = 61 then 2 else if c = 62 then 2 else if c = 43 then 3 else if c = 45 then 3 else if c = 42 then 4 else if c = 47 then 4 else 9) = l) : plev b k = l := by
  unfold plev
  rw [if_pos h3, hb]; exact h
theorem R_either (hla : la + 196 ≤ 3135) (hR : RdM E x n la key b F 1 (F + 4) mX11_both) : RdM E x n la key b (F + 1) 0 (F + 1 + 4) mX11_either := by
  intro par bang k L S Q hm hp8 hb8 hT hK ok hC e25 e26 hlen hq
  refine T_X11_either (rchain (lev := 0) (Lp := fun S => L_X11_either_10 E (F + 4) Q (x + 94) (nI key) S) hla hR hm hp8 hb8 (by omega) (by omega) (fun k S hT hK ok h1 h0 => ?_) hT hK ok hC e25 e26 hlen hq)
  refine T_X11_either_10 ⟨hT.1.1, c_X11_isSign (c := 124) hT hK ok (by omega) (fun c3 c124 => ⟨fun z => absurd z (by decide), fun _ => ⟨hT.1.1, ?_⟩⟩) (fun nn => ⟨fun _ => h0 (fun z => ?_), fun z => absurd rfl z⟩)⟩
  · have := h1 (plev_is c3 c124 rfl)
    rw [c124] at this; exact this
  · have hs := plev_ok (b := b) (t := k) (by omega)
    refine nn ⟨hs.1, ?_⟩
    have hd : ∀ c ∈ sgn, (if c = 124 then 0 else if c = 38 then 1 else if c = 60 then 2 else if c = 61 then 2 else if c = 62 then 2 else if c = 43 then 3 else if c = 45 then 3 else if c = 42 then 4 else if c = 47 then 4 else 9) = 0 → c = 124 := by decide
    unfold plev at z
    rw [if_pos hs.1] at z
    exact hd _ hs.2 z
theorem R_both (hla : la + 196 ≤ 3135) (hR : RdM E x n la key b F 2 (F + 4) mX11_test) : RdM E x n la key b (F + 1) 1 (F + 1 + 4) mX11_both := by
  intro par bang k L S Q hm hp8 hb8 hT hK ok hC e25 e26 hlen hq
  refine T_X11_both (rchain (lev := 1) (Lp := fun S => L_X11_both_10 E (F + 4) Q (x + 94) (nI key) S) hla hR hm hp8 hb8 (by omega) (by omega) (fun k S hT hK ok h1 h0 => ?_) hT hK ok hC e25 e26 hlen hq)
  refine T_X11_both_10 ⟨hT.1.1, c_X11_isSign (c := 38) hT hK ok (by omega) (fun c3 cc => ⟨fun z => absurd z (by decide), fun _ => ⟨hT.1.1, ?_⟩⟩) (fun nn => ⟨fun _ => h0 (fun z => ?_), fun z => absurd rfl z⟩)⟩
  · have := h1 (plev_is c3 cc rfl)
    rw [cc] at this; exact this
  · have hs := plev_ok (b := b) (t := k) (by omega)
    refine nn ⟨hs.1, ?_⟩
    have hd : ∀ c ∈ sgn, (if c = 124 then 0 else if c = 38 then 1 else if c = 60 then 2 else if c = 61 then 2 else if c = 62 then 2 else if c = 43 then 3 else if c = 45 then 3 else if c = 42 then 4 else if c = 47 then 4 else 9) = 1 → c = 38 := by decide
    unfold plev at z
    rw [if_pos hs.1] at z
    exact hd _ hs.2 z
theorem R_sum (hla : la + 196 ≤ 3135) (hR : RdM E x n la key b F 4 (F + 4) mX11_term) : RdM E x n la key b (F + 1) 3 (F + 1 + 4) mX11_sum := by
  intro par bang k L S Q hm hp8 hb8 hT hK ok hC e25 e26 hlen hq
  refine T_X11_sum (rchain (lev := 3) (Lp := fun S => L_X11_sum_10 E (F + 4) Q (x + 94) (nI key) S) hla hR hm hp8 hb8 (by omega) (by omega) (fun k S hT hK ok h1 h0 => ?_) hT hK ok hC e25 e26 hlen hq)
  refine T_X11_sum_10 ⟨hT.1.1, c_X11_isSign (c := 43) hT hK ok (by omega) (fun c3 cc => ⟨fun z => absurd z (by decide), fun _ => ⟨hT.1.1, ?_⟩⟩) (fun nn => ⟨fun _ => ⟨hT.1.1, c_X11_isSign (c := 45) hT hK ok (by omega) (fun c3 cc => ⟨fun z => absurd z (by decide), fun _ => ⟨hT.1.1, ?_⟩⟩) (fun nn2 => ⟨fun _ => h0 (fun z => ?_), fun z => absurd rfl z⟩)⟩, fun z => absurd rfl z⟩)⟩
  · rw [hK.2.2.2.1 c3]; exact h1 (plev_is c3 cc rfl)
  · rw [hK.2.2.2.1 c3]; exact h1 (plev_is c3 cc rfl)
  · have hs := plev_ok (b := b) (t := k) (by omega)
    have hd : ∀ c ∈ sgn, (if c = 124 then 0 else if c = 38 then 1 else if c = 60 then 2 else if c = 61 then 2 else if c = 62 then 2 else if c = 43 then 3 else if c = 45 then 3 else if c = 42 then 4 else if c = 47 then 4 else 9) = 3 → c = 43 ∨ c = 45 := by decide
    unfold plev at z
    rw [if_pos hs.1] at z
    rcases hd _ hs.2 z with q | q
    · exact nn ⟨hs.1, q⟩
    · exact nn2 ⟨hs.1, q⟩
theorem R_term (hla : la + 196 ≤ 3135) (hR : RdM E x n la key b F 5 (F + 4) mX11_part0) : RdM E x n la key b (F + 1) 4 (F + 1 + 4) mX11_term := by
  intro par bang k L S Q hm hp8 hb8 hT hK ok hC e25 e26 hlen hq
  refine T_X11_term (rchain (lev := 4) (Lp := fun S => L_X11_term_10 E (F + 4) Q (x + 94) (nI key) S) hla hR hm hp8 hb8 (by omega) (by omega) (fun k S hT hK ok h1 h0 => ?_) hT hK ok hC e25 e26 hlen hq)
  refine T_X11_term_10 ⟨hT.1.1, c_X11_isSign (c := 42) hT hK ok (by omega) (fun c3 cc => ⟨fun z => absurd z (by decide), fun _ => ⟨hT.1.1, ?_⟩⟩) (fun nn => ⟨fun _ => ⟨hT.1.1, c_X11_isSign (c := 47) hT hK ok (by omega) (fun c3 cc => ⟨fun z => absurd z (by decide), fun _ => ⟨hT.1.1, ?_⟩⟩) (fun nn2 => ⟨fun _ => h0 (fun z => ?_), fun z => absurd rfl z⟩)⟩, fun z => absurd rfl z⟩)⟩
  · rw [hK.2.2.2.1 c3]; exact h1 (plev_is c3 cc rfl)
  · rw [hK.2.2.2.1 c3]; exact h1 (plev_is c3 cc rfl)
  · have hs := plev_ok (b := b) (t := k) (by omega)
    have hd : ∀ c ∈ sgn, (if c = 124 then 0 else if c = 38 then 1 else if c = 60 then 2 else if c = 61 then 2 else if c = 62 then 2 else if c = 43 then 3 else if c = 45 then 3 else if c = 42 then 4 else if c = 47 then 4 else 9) = 4 → c = 42 ∨ c = 47 := by decide
    unfold plev at z
    rw [if_pos hs.1] at z
    rcases hd _ hs.2 z with q | q
    · exact nn ⟨hs.1, q⟩
    · exact nn2 ⟨hs.1, q⟩
end jRef4
