/-! TEXT: the reference's tests and parts -/
theorem isname_eq : ∀ key : Fin 3, ∀ c : Fin 256, jisname (nI key.val) (nI c.val) = if pnam key.val c.val = 9 then 0 else 1 := by decide +kernel
theorem letw_eq : ∀ key : Fin 3, ∀ c : Fin 256, ¬ pnam key.val c.val = 9 → letw key.val (pnam key.val c.val) = c.val := by decide +kernel
section jRef5
variable {E : jEnv} {S S' : jM} {x n la key : Nat} {b : Nat → Nat} {F : Nat}
theorem R_test (hla : la + 196 ≤ 3135) (hR : RdM E x n la key b F 3 (F + 4) mX11_sum) : RdM E x n la key b (F + 1) 2 (F + 1 + 4) mX11_test := by
  intro par bang k L S Q hm hp8 hb8 hT hK ok hC e25 e26 hlen hq
  have er : pread b n key (F + 1) 2 par bang k L = if (pread b n key F 3 par bang k L).1 = true then ploop b n 2 (pread b n key F 3 par bang) 1 (pread b n key F 3 par bang k L).2.1 (pread b n key F 3 par bang k L).2.2 else (false, (pread b n key F 3 par bang k L).2.1, []) := by rw [pread]; rw [if_pos (by omega), if_pos rfl]
  rw [er] at hq
  have hm' : pmu 3 par bang ≤ F := by unfold pmu at hm ⊢; omega
  have pg := pread_ok (b := b) (n := n) (key := key) F 3 par bang k L ok
  refine T_X11_test ⟨hT.1.1, hR par bang k L S _ hm' hp8 hb8 hT hK ok hC e25 e26 hlen (fun S1 g1 p1 => ?_)⟩
  generalize pread b n key F 3 par bang k L = r at hq pg p1 ⊢
  by_cases c1 : r.1 = true
  · have eB : rB r = 1 := by unfold rB; rw [if_pos c1]
    rw [eB]
    rw [if_pos c1] at hq
    obtain ⟨K1, C1, q25, q26⟩ := p1.1 c1
    obtain ⟨k1, k2, -⟩ := pg.2.2 c1
    have T1 := hT.tp g1
    have ep : ploop b n 2 (pread b n key F 3 par bang) 1 r.2.1 r.2.2 = if plev b r.2.1 = 2 then (if (pread b n key F 3 par bang (pnext b n r.2.1) r.2.2).1 = true then (true, (pread b n key F 3 par bang (pnext b n r.2.1) r.2.2).2.1, (pread b n key F 3 par bang (pnext b n r.2.1) r.2.2).2.2 ++ [20000 + b r.2.1.1]) else (false, (pread b n key F 3 par bang (pnext b n r.2.1) r.2.2).2.1, [])) else (true, r.2.1, r.2.2) := rfl
    rw [ep] at hq
    have join : ∀ c2 : Int32, c2 = nI (b r.2.1.1) → plev b r.2.1 = 2 → jFv E mX11_nextToken (F + 4) 0 0 [.ref (x + 94)] S1 (fun S10 => jk S10 (x + 94) = 11 ∧ jFi E mX11_sum (F + 4) 0 0 [.ref (x + 94), .int (nI key)] S10 (fun r13 S12 => (r13 = 0 → Q 0 S12) ∧ (¬ r13 = 0 → jk S12 (x + 94) = 11 ∧ jFv E mX11_step (F + 4) 0 0 [.ref (x + 94), .int 2, .int c2] S12 (fun S16 => Q 1 S16)))) := by
      intro c2 hc2 el
      rw [if_pos el] at hq
      refine rjoin (lev := 2) (cont := fun S16 => Q 1 S16) hla hR hm' hp8 hb8 T1 K1 pg.1 C1 q25 q26 (by omega) (by omega) el hc2 (fun S2 g2 d1 K2 C2 p25 p26 => ?_) (fun S2 g2 d1 p20 => ?_)
      · rw [if_pos d1] at hq
        exact hq S2 (g1.trans g2) ⟨fun _ => ⟨K2, C2, p25, p26⟩, fun z => Bool.noConfusion z⟩
      · rw [if_neg (by rw [d1]; decide)] at hq
        exact hq S2 (g1.trans g2) ⟨fun z => Bool.noConfusion z, fun _ => p20⟩
    refine ⟨fun z => absurd z (by decide), fun _ => ⟨T1.1.1, c_X11_isSign (c := 60) T1 K1 pg.1 (by omega) (fun c3 cc => ⟨fun z => absurd z (by decide), fun _ => ⟨T1.1.1, join _ (K1.2.2.2.1 c3) (plev_is c3 cc rfl)⟩⟩) (fun n1 => ⟨fun _ => ⟨T1.1.1, c_X11_isSign (c := 61) T1 K1 pg.1 (by omega) (fun c3 cc => ⟨fun z => absurd z (by decide), fun _ => ⟨T1.1.1, join _ (K1.2.2.2.1 c3) (plev_is c3 cc rfl)⟩⟩) (fun n2 => ⟨fun _ => ⟨T1.1.1, c_X11_isSign (c := 62) T1 K1 pg.1 (by omega) (fun c3 cc => ⟨fun z => absurd z (by decide), fun _ => ⟨T1.1.1, join _ (K1.2.2.2.1 c3) (plev_is c3 cc rfl)⟩⟩) (fun n3 => ⟨fun _ => ?_, fun z => absurd rfl z⟩)⟩, fun z => absurd rfl z⟩)⟩, fun z => absurd rfl z⟩)⟩⟩
    have nl : ¬ plev b r.2.1 = 2 := fun z => by
      have hs := plev_ok (b := b) (t := r.2.1) (by omega)
      have hd : ∀ c ∈ sgn, (if c = 124 then 0 else if c = 38 then 1 else if c = 60 then 2 else if c = 61 then 2 else if c = 62 then 2 else if c = 43 then 3 else if c = 45 then 3 else if c = 42 then 4 else if c = 47 then 4 else 9) = 2 → c = 60 ∨ c = 61 ∨ c = 62 := by decide
      unfold plev at z
      rw [if_pos hs.1] at z
      rcases hd _ hs.2 z with q | q | q
      · exact n1 ⟨hs.1, q⟩
      · exact n2 ⟨hs.1, q⟩
      · exact n3 ⟨hs.1, q⟩
    rw [if_neg nl] at hq
    exact hq S1 g1 ⟨fun _ => ⟨K1, C1, q25, q26⟩, fun z => Bool.noConfusion z⟩
  · have eB : rB r = 0 := by unfold rB; rw [if_neg c1]
    rw [eB]
    rw [if_neg c1] at hq
    have cf : r.1 = false := by simpa using c1
    exact ⟨fun _ => hq S1 g1 ⟨fun z => Bool.noConfusion z, fun _ => p1.2 cf⟩, fun z => absurd rfl z⟩
theorem rtp.put {j : Nat} {w : Int32} (h1 : 20 ≤ j) (h2 : j < 30) (h3 : j ≠ 28) : rtp S (jput S (x + 94) j w) x la := ⟨⟨_root_.rfl, _root_.rfl, _root_.rfl, _root_.rfl⟩, fun y a _ => ji_put_ne _ _ _ _ a, fun i hi => by rw [ji_put, if_neg (by omega)], fun i _ => by rw [ji_put_ne _ _ _ _ (by omega)]⟩
theorem TKM.put {k : jtk} {j : Nat} {w : Int32} (h : TKM S x b k) (hj : 25 ≤ j) : TKM (jput S (x + 94) j w) x b k := by
  obtain ⟨a1, a2, a3, a4, a5, a6⟩ := h
  have f : ∀ i, i < 25 → ji (jput S (x + 94) j w) (x + 94) i = ji S (x + 94) i := fun i hi => by rw [ji_put, if_neg (by omega)]
  exact ⟨(f 20 (by omega)).trans a1, (f 21 (by omega)).trans a2, (f 22 (by omega)).trans a3, fun z => (f 24 (by omega)).trans (a4 z), fun z => (f 24 (by omega)).trans (a5 z), fun z y => (f 23 (by omega)).trans (a6 z y)⟩
theorem CDM.put {L : List Nat} {j : Nat} {w : Int32} (h : CDM S x la key L) (hj : j < 27) : CDM (jput S (x + 94) j w) x la key L := by
  obtain ⟨a1, a2, a3, a4⟩ := h
  exact ⟨by rw [ji_put, if_neg (by omega)]; exact a1, by rw [ji_put, if_neg (by omega)]; exact a2, by rw [ji_put, if_neg (by omega)]; exact a3, fun i hi => by rw [ji_put_ne _ _ _ _ (by omega)]; exact a4 i hi⟩
end jRef5
