/-! SOONEST on fresh objects; GONE and FRESH, on both sides, by any state -/
section jFresh5
variable {E : jEnv} {d : Nat} {S : jM} {x sz : Nat} {v : Nat → Int32}
theorem SrL.same {S' : jM} {t : Nat} (h : SrL S t) (hs : jsame S S') : SrL S' t := by
  obtain ⟨e1, e2, e3, -⟩ := hs
  unfold SrL
  rw [e1, e2, e3]
  exact h
theorem XR.srch {S1 : jM} (h : XR S x sz v) (c : jch S S1 (x + 52) (x + 60)) : XR S1 x sz v := h.of c.1 (h.2.2.keep c (by omega))
theorem jtn0 : Int32.toNatClampNeg 0 = 0 := by decide
theorem f_goOn {Q : jM → Prop} (hL : SrL S (x + 52)) (h7 : ji S (x + 52) 7 = 0) (h9 : ji S (x + 52) 9 = 1000000000) (hd : ji S (x + 55) 0 = 0) (hp : ji S (x + 56) 0 = 0) (hf : ji S (x + 57) 0 = kNONE) (h : ∀ S', jch S S' (x + 52) (x + 60) → ji S' (x + 52) 9 = 0 → ji S' (x + 52) 10 = 0 → ji S' (x + 52) 11 = kNONE → Q S') : jFv E mX5_goOn (d + 2) 0 0 [.ref (x + 52), .ref (x + 1), .int 0] S Q := by
  obtain ⟨k5, hr, hl, -⟩ := hL
  have in5 : ∀ k, k < 5 → vp_in 0 (jl S (x + 52 + 1 + k)) := fun k hk => by rw [hl k hk]; exact jin_nI (n := 0) (by omega) (by omega)
  have r1 := hr 1 (by omega)
  have r2 := hr 2 (by omega)
  have r3 := hr 3 (by omega)
  have r4 := hr 4 (by omega)
  have ed : ji S (x + 52 + 1 + 2) (Int32.toNatClampNeg 0) = 0 := hd
  have ep : ji S (x + 52 + 1 + 3) (Int32.toNatClampNeg 0) = 0 := hp
  have ef : ji S (x + 52 + 1 + 4) (Int32.toNatClampNeg 0) = kNONE := hf
  refine T_X5_goOn ⟨fun c => absurd c (by decide), fun _ => ⟨k5, _, r1.1, r1.2, in5 1 (by omega), fun _ => ?_, fun c => absurd (by rw [h7, Int32.zero_and]) c⟩⟩
  refine T_X5_offer ⟨fun c => absurd c (by decide), fun _ => ⟨k5, _, r2.1, r2.2, in5 2 (by omega), _, r3.1, r3.2, in5 3 (by omega), _, r4.1, r4.2, in5 4 (by omega), T_X5_isBetter ⟨k5, fun c => absurd c (by rw [ed, h9]; decide), fun _ => ⟨fun c => absurd c (by rw [ed, h9]; decide), fun _ => ⟨fun c => absurd c (by decide), fun _ => ⟨k5, _, r2.1, r2.2, in5 2 (by omega), _, r3.1, r3.2, in5 3 (by omega), _, r4.1, r4.2, in5 4 (by omega), ?_⟩⟩⟩⟩⟩⟩
  rw [ed, ep, ef]
  refine h _ (((jch.put (by omega) (by omega)).trans (jch.put (by omega) (by omega))).trans (jch.put (by omega) (by omega))) ?_ ?_ ?_
  · rw [ji_put, if_neg (by omega), ji_put, if_neg (by omega), ji_put_same]
  · rw [ji_put, if_neg (by omega), ji_put_same]
  · rw [ji_put_same]
/-- what stands while SOONEST begins -/
def SV (S S1 : jM) (x : Nat) : Prop := jch S S1 (x + 52) (x + 60) ∧ ji S1 (x + 52) 7 = 0 ∧ ji S1 (x + 52) 9 = 1000000000
theorem SV.row {S1 : jM} {a j : Nat} {w : Int32} (h : SV S S1 x) (h1 : x + 53 ≤ a) (h2 : a < x + 60) : SV S (jput S1 a j w) x := by
  refine ⟨h.1.trans (jch.put (by omega) h2), ?_, ?_⟩
  · rw [ji_put_ne _ _ _ _ (by omega)]; exact h.2.1
  · rw [ji_put_ne _ _ _ _ (by omega)]; exact h.2.2
theorem f_finds {Q : Int32 → jM → Prop} (h : FR S x) (hq : ∀ S', jch S S' (x + 52) (x + 60) → ji S' (x + 52) 9 = 0 → ji S' (x + 52) 10 = 0 → ji S' (x + 52) 11 = kNONE → Q 1 S') : jFi E mX5_finds (d + 3) 0 0 [.ref (x + 52), .ref (x + 1)] S Q := by
  have hX := h.pi.1
  have hL : SrL S (x + 52) := h.1.2.2.1
  have l63 : ∀ (n i : Nat) (S1 : jM), i + n = 10 → SV S S1 x → L_X5_finds_63 E (d + 2) Q (x + 52) (x + 1) (nI i) S1 := by
    intro n
    induction n with
    | zero =>
      intro i S1 hi h1
      obtain rfl : i = 10 := by omega
      obtain ⟨k5, hr, hl, -⟩ := hL.same h1.1.1
      have hX1 := hX.srch h1.1
      have in5 : ∀ k, k < 5 → vp_in 0 (jl S1 (x + 52 + 1 + k)) := fun k hk => by rw [hl k hk]; exact jin_nI (n := 0) (by omega) (by omega)
      refine T_X5_finds_63 ⟨fun _ => ⟨k5, _, (hr 0 (by omega)).1, hX1.k3, x + 16, hX1.r2, hX1.l.1.1, (hr 0 (by omega)).2, in5 0 (by omega), _, (hr 1 (by omega)).1, (hr 1 (by omega)).2, in5 1 (by omega), _, (hr 2 (by omega)).1, (hr 2 (by omega)).2, in5 2 (by omega), _, (hr 3 (by omega)).1, (hr 3 (by omega)).2, in5 3 (by omega), _, (hr 4 (by omega)).1, (hr 4 (by omega)).2, in5 4 (by omega), ?_⟩, fun c => absurd (by decide) c⟩
      rw [jtn0]
      have h2 := ((((h1.row (a := x + 52 + 1 + 0) (j := 0) (w := ji S1 (x + 16) 0) (by omega) (by omega)).row (a := x + 52 + 1 + 1) (j := 0) (w := ji S1 (x + 16) 1) (by omega) (by omega)).row (a := x + 52 + 1 + 2) (j := 0) (w := 0) (by omega) (by omega)).row (a := x + 52 + 1 + 3) (j := 0) (w := 0) (by omega) (by omega)).row (a := x + 52 + 1 + 4) (j := 0) (w := -1000000005) (by omega) (by omega)
      have e2 : ji (jput (jput (jput (jput (jput S1 (x + 52 + 1 + 0) 0 (ji S1 (x + 16) 0)) (x + 52 + 1 + 1) 0 (ji S1 (x + 16) 1)) (x + 52 + 1 + 2) 0 0) (x + 52 + 1 + 3) 0 0) (x + 52 + 1 + 4) 0 (-1000000005)) (x + 55) 0 = 0 := by
        rw [ji_put_ne _ _ _ _ (by omega), ji_put_ne _ _ _ _ (by omega), ji_put, if_pos (by omega)]
      have e3 : ji (jput (jput (jput (jput (jput S1 (x + 52 + 1 + 0) 0 (ji S1 (x + 16) 0)) (x + 52 + 1 + 1) 0 (ji S1 (x + 16) 1)) (x + 52 + 1 + 2) 0 0) (x + 52 + 1 + 3) 0 0) (x + 52 + 1 + 4) 0 (-1000000005)) (x + 56) 0 = 0 := by
        rw [ji_put_ne _ _ _ _ (by omega), ji_put, if_pos (by omega)]
      have e4 : ji (jput (jput (jput (jput (jput S1 (x + 52 + 1 + 0) 0 (ji S1 (x + 16) 0)) (x + 52 + 1 + 1) 0 (ji S1 (x + 16) 1)) (x + 52 + 1 + 2) 0 0) (x + 52 + 1 + 3) 0 0) (x + 52 + 1 + 4) 0 (-1000000005)) (x + 57) 0 = kNONE := by
        rw [ji_put, if_pos (by omega)]
      generalize jput (jput (jput (jput (jput S1 (x + 52 + 1 + 0) 0 (ji S1 (x + 16) 0)) (x + 52 + 1 + 1) 0 (ji S1 (x + 16) 1)) (x + 52 + 1 + 2) 0 0) (x + 52 + 1 + 3) 0 0) (x + 52 + 1 + 4) 0 (-1000000005) = S2 at h2 e2 e3 e4 ⊢
      refine f_goOn (hL.same h2.1.1) h2.2.1 h2.2.2 e2 e3 e4 (fun S3 c3 a3 b3 f3 => ⟨?_, fun c => absurd (a3.symm.trans c) (by decide), fun _ => hq S3 (h2.1.trans c3) a3 b3 f3⟩)
      rw [c3.1.1]; exact (hL.same h2.1.1).1
    | succ n ih =>
      intro i S1 hi h1
      obtain ⟨k5, hr, -, l10, -⟩ := hL.same h1.1.1
      have hX1 := hX.srch h1.1
      obtain ⟨⟨q1, q2, q3, q4, q5, q6, q7⟩, -⟩ := hX1.l
      have r5 := hr 5 (by omega)
      refine T_X5_finds_63 ⟨fun c => absurd c (nI_ge (b := 10) (by omega) (by omega)), fun _ => ⟨k5, _, r5.1, hX1.k3, x + 16, hX1.r2, q1, _, q3, q6, by rw [q7]; exact jin_nI (by omega) (by omega), r5.2, by rw [show x + 52 + 1 + 5 = x + 52 + 6 by omega, l10]; exact jin_nI (by omega) (by omega), ?_⟩⟩
      rw [nI_1]
      exact ih (i + 1) _ (by omega) (h1.row (by omega) (by omega))
  have l39 : ∀ (n i : Nat) (S1 : jM), i + n = 99 → SV S S1 x → L_X5_finds_39 E (d + 2) Q (x + 52) (x + 1) (nI i) S1 := by
    intro n
    induction n with
    | zero =>
      intro i S1 hi h1
      obtain rfl : i = 99 := by omega
      obtain ⟨k5, hr, -, -, l99⟩ := hL.same h1.1.1
      have r6 := hr 6 (by omega)
      have l99' : jl S1 (x + 52 + 1 + 6) = 99 := l99
      refine T_X5_finds_39 ⟨k5, _, r6.1, r6.2, fun _ => l63 10 0 S1 rfl h1, fun c => absurd (by rw [l99']; exact Int32.le_rfl) c⟩
    | succ n ih =>
      intro i S1 hi h1
      obtain ⟨k5, hr, -, -, l99⟩ := hL.same h1.1.1
      have r6 := hr 6 (by omega)
      have l99' : jl S1 (x + 52 + 1 + 6) = 99 := l99
      refine T_X5_finds_39 ⟨k5, _, r6.1, r6.2, fun c => absurd c (by rw [l99']; exact nI_ge (by omega) (by omega)), fun _ => ⟨by rw [l99']; exact jin_nI (by omega) (by omega), ?_⟩⟩
      rw [nI_1]
      exact ih (i + 1) _ (by omega) (h1.row (by omega) (by omega))
  have c0 : jch S (jput (jput (jput S (x + 52) 9 1000000000) (x + 52) 10 1000000000) (x + 52) 11 1000000000) (x + 52) (x + 60) := ((jch.put (by omega) (by omega)).trans (jch.put (by omega) (by omega))).trans (jch.put (by omega) (by omega))
  have e0 : ji (jput (jput (jput S (x + 52) 9 1000000000) (x + 52) 10 1000000000) (x + 52) 11 1000000000) (x + 52) 9 = 1000000000 := by
    rw [ji_put, if_neg (by omega), ji_put, if_neg (by omega), ji_put_same]
  refine T_X5_finds ⟨hL.1, hX.k3, ?_⟩
  generalize jput (jput (jput S (x + 52) 9 1000000000) (x + 52) 10 1000000000) (x + 52) 11 1000000000 = S0 at c0 e0 ⊢
  have hX0 := hX.srch c0
  have hL0 := hL.same c0.1
  refine T_X3_wishedSet (T_X3_wishedSet_4 ⟨hX0.k3, fun _ => ⟨hL0.1, hX0.k3, x + 2, hX0.r0, hX0.g.1.1, ?_⟩, fun c => absurd (by rw [hX0.2.2.n4]; decide) c⟩)
  have h1 : SV S (jput S0 (x + 52) 7 0) x := ⟨c0.trans (jch.put (by omega) (by omega)), ji_put_same _ _ _ _, by rw [ji_put, if_neg (by omega)]; exact e0⟩
  generalize jput S0 (x + 52) 7 0 = S1 at h1 ⊢
  refine c_X0_taught (hX.srch h1.1).g (by omega) ⟨(hL.same h1.1.1).1, l39 99 0 _ rfl ?_⟩
  exact ⟨h1.1.trans (jch.put (by omega) (by omega)), by rw [ji_put, if_neg (by omega)]; exact h1.2.1, by rw [ji_put, if_neg (by omega)]; exact h1.2.2⟩
theorem F_soonest {w : Int32} (h : FR S x) : jFi E mX10_soonest (d + 4) 0 0 [.ref x, .int w] S (fun r S1 => jFm E mX11_soonest (d + 2) (x + 94) [.int w] S1 (fun r' _ => r = r')) := by
  obtain ⟨hX, hM, hg⟩ := h.pi
  have ew : jisin (Int32.toInt64 w) 0 2 = jwi w 3 := jisin_wi w 3 2 rfl (jle_lt (by decide))
  have r4 := h.1.2.1.2.2.2.1
  have k5 : jk S (x + 52) = 5 := h.1.2.2.1.1
  refine T_X10_soonest ⟨fun c => U_X11_soonest (by first | exact hM.k | exact hM1.k | exact hP.2.1.k | exact h.2.2.1.1 | exact h.1.1 | exact g1.1.1 | exact g3.1.1 | exact gm.1.1 | exact h2.1.1 | exact hM2.k | (rw [c1.1.1]; exact hP.2.1.k)) ⟨fun _ => rfl, fun c1 => absurd (ew.trans c) c1⟩, fun c => ⟨hX.1, x + 52, r4, x + 1, hX.2.1, k5, f_finds h (fun S1 c1 a9 a10 a11 => ⟨fun c => absurd c (by decide), fun _ => ?_⟩)⟩⟩
  have hM1 := hM.keep c1 (by omega)
  have kx : jk S1 x = 10 := by rw [c1.1.1]; exact hX.1
  have rx : jr S1 x 4 = some (x + 52) := by rw [c1.1.2.2.1]; exact r4
  have k51 : jk S1 (x + 52) = 5 := by rw [c1.1.1]; exact k5
  have ref : ∀ r : Int32, (w = 2 → r = kNONE) → (w ≠ 2 → r = 0) → jFm E mX11_soonest (d + 2) (x + 94) [.int w] S1 (fun r' _ => r = r') := fun r h1 h2 =>
    U_X11_soonest (by first | exact hM.k | exact hM1.k | exact hP.2.1.k | exact h.2.2.1.1 | exact h.1.1 | exact g1.1.1 | exact g3.1.1 | exact gm.1.1 | exact h2.1.1 | exact hM2.k | (rw [c1.1.1]; exact hP.2.1.k)) ⟨fun c1 => absurd (ew.symm.trans c1) c, fun _ => ⟨hM1.k, c_X11_can (w := 0) hM1 hg (by omega) rfl ⟨fun c => absurd c (by decide), fun _ => ⟨h1, h2⟩⟩⟩⟩
  refine ⟨fun c0 => ⟨kx, _, rx, k51, ?_⟩, fun c0 => ⟨kx, _, rx, k51, ?_⟩, fun c0 c1 => ⟨kx, _, rx, k51, ?_⟩⟩
  · rw [a9]; exact ref _ (fun c => absurd (c0.symm.trans c) (by decide)) (fun _ => rfl)
  · rw [a10]; exact ref _ (fun c => absurd (c0.symm.trans c) (by decide)) (fun _ => rfl)
  · rw [a11]
    refine ref _ (fun _ => rfl) (fun c2 => ?_)
    rcases jwi_cases w (b := 3) 3 rfl (by omega) with ⟨n, hn, e, -⟩ | ⟨-, e⟩
    · rcases (show n = 0 ∨ n = 1 ∨ n = 2 by omega) with rfl | rfl | rfl
      · exact absurd e c0
      · exact absurd e c1
      · exact absurd e c2
    · exact absurd e c
/-! gone -/
theorem jorF : ∀ k : Fin 1024, ∀ g : Fin 10, ∃ n : Fin 1024, nI k.val ||| jshl 1 (nI g.val) = nI n.val := by
  intro k g
  have hd : ∀ k : Fin 1024, ∀ g : Fin 10, (nI k.val ||| jshl 1 (nI g.val)).toBitVec.toNat < 1024 := by decide +kernel
  exact ⟨⟨_, hd k g⟩, nI_bv _⟩
theorem mtaught_lt {mf : Nat → Nat → Int32} (hm : ∀ i, i < 9 → ∃ g, g < 10 ∧ mf i 2 = nI g) : ∀ (n i : Nat) (k : Nat), i + n ≤ 9 → k < 1024 → ∃ k', k' < 1024 ∧ jfold (fun i a => if mf i 6 = 0 then a ||| jshl 1 (mf i 2) else a ||| 0) n i (nI k) = nI k'
  | 0, i, k, _, hk => ⟨k, hk, rfl⟩
  | n + 1, i, k, hi, hk => by
    show ∃ k', k' < 1024 ∧ jfold _ n (i + 1) (if mf i 6 = 0 then nI k ||| jshl 1 (mf i 2) else nI k ||| 0) = nI k'
    by_cases h6 : mf i 6 = 0
    · rw [if_pos h6]
      obtain ⟨g, hg, e⟩ := hm i (by omega)
      obtain ⟨⟨n', hn'⟩, e'⟩ := jorF ⟨k, hk⟩ ⟨g, hg⟩
      rw [e, show nI k ||| jshl 1 (nI g) = nI n' from e']
      exact mtaught_lt hm n (i + 1) n' (by omega) hn'
    · rw [if_neg h6, Int32.or_zero]
      exact mtaught_lt hm n (i + 1) k (by omega) hk
theorem Rg.msf (h : Rg sz v) (i f : Nat) (hi : i < 9) (hf : f < 7) : ∃ k, k < (if f = 0 then 6 else if f = 1 then 6 else if f = 2 then 10 else if f = 3 then 1024 else if f = 6 then 2 else 100) ∧ mfv v i f = nI k := by
  have := h (72 + 7 * i + f) (by omega) (by rw [rgb_m i f hf]; split <;> first | decide | (split <;> first | decide | (split <;> first | decide | (split <;> first | decide | (split <;> decide)))))
  rw [rgb_m i f hf] at this; exact this
theorem mtaught_cong {mf mf' : Nat → Nat → Int32} (h : ∀ i, i < 9 → ∀ f, f < 7 → mf i f = mf' i f) : ∀ (n i : Nat) (a : Int32), i + n ≤ 9 → jfold (fun i a => if mf i 6 = 0 then a ||| jshl 1 (mf i 2) else a ||| 0) n i a = jfold (fun i a => if mf' i 6 = 0 then a ||| jshl 1 (mf' i 2) else a ||| 0) n i a
  | 0, _, _, _ => rfl
  | n + 1, i, a, hi => by
    show jfold _ n (i + 1) (if mf i 6 = 0 then a ||| jshl 1 (mf i 2) else a ||| 0) = jfold _ n (i + 1) (if mf' i 6 = 0 then a ||| jshl 1 (mf' i 2) else a ||| 0)
    rw [h i (by omega) 6 (by omega), h i (by omega) 2 (by omega)]
    exact mtaught_cong h n (i + 1) _ (by omega)
theorem jfr.thought {S1 : jM} {lo hi : Nat} (h : jch S S1 lo hi) (a : x + 41 ≤ lo) (b : hi ≤ x + 60) : jfr S S1 x := ⟨h.1, fun y _ c _ _ _ _ => h.2 y (by omega)⟩
theorem jfr.scr {S1 : jM} {lo hi : Nat} (h : jch S S1 lo hi) (a : x + 106 ≤ lo) (b : hi ≤ x + 109) : jfr S S1 x := ⟨h.1, fun y _ _ _ _ c _ => h.2 y (by omega)⟩
theorem l_X11_gone {Q : Int32 → jM → Prop} {m n : Nat} {t : Int32} (hn : n < 1000) (h0 : v 0 = nI sz) (hz : sz ≤ 9) (h : ∀ S' : jM, ∀ p : gst, p = yyears sz n (v 8, mfv v) → jch S S' (m + 1) (m + 2) → MR S' m (vg v p) → jFv E mX11_laysBack (d + 2) 0 0 [.ref m] S' (fun S18 => Q (jmany (t &&& (mtaught (mfv (vg v p)) sz ^^^ (-1)))) S18)) :
    ∀ (c j : Nat) (p : gst) (a : Int32) (S1 : jM), j + c = n → yyears sz c p = yyears sz n (v 8, mfv v) → jch S S1 (m + 1) (m + 2) → MR S1 m (vg v p) → Rg sz (vg v p) → L_X11_gone_29 E (d + 2) Q m (nI n) t a (nI j) S1 := by
  intro c
  induction c with
  | zero =>
    intro j p a S1 hj hp hc hM hg
    obtain rfl : j = n := by omega
    refine T_X11_gone_29 ⟨fun _ => ⟨hM.k, c_X11_taughtNow hM (by rw [vg_o _ (by omega) (by omega)]; exact h0) hz ⟨hM.k, h S1 p hp hc hM⟩⟩, fun cc => absurd Int32.le_rfl cc⟩
  | succ c ih =>
    intro j p a S1 hj hp hc hM hg
    refine T_X11_gone_29 ⟨fun cc => absurd cc ?_, fun _ => ⟨hM.k, c_X11_year h0 hz hM hg (fun S2 c2 h2 g2 => ?_)⟩⟩
    · rw [Int32.le_iff_toInt_le, nI_toInt (by omega), nI_toInt (by omega)]; omega
    · rw [nI_1]
      exact ih (j + 1) (yyear sz p) _ S2 (by omega) hp (hc.trans c2) h2 g2
theorem P_gone {w : Int32} (hP : PI S x sz v) (hL : GL S (x + 41)) (r3 : jr S x 3 = some (x + 41)) : jFi E mX10_gone (d + 4) 0 0 [.ref x, .int w] S (fun r S1 => jFm E mX11_gone (d + 3) (x + 94) [.int w] S1 (fun r' S2 => PO S x r r' S2)) := by
  have hX := hP.1
  have hz := hX.sz9
  rcases jisin_ab w (lo := 0) (hi := 60) 0 60 rfl rfl (by omega) (by omega) with ⟨n, n1, n9, rfl, hj⟩ | ⟨hw, hj⟩
  · refine T_X10_gone ⟨fun c => absurd c (nI_pos (by omega)), fun _ => ⟨fun _ => ⟨hX.1, x + 41, r3, x + 1, hX.2.1, hX.k3, x + 2, hX.r0, hL.1, ?_⟩, fun c => absurd (by rw [show (60 : Int32) = nI 60 from rfl, Int32.le_iff_toInt_le, nI_toInt (by omega), nI_toInt (by omega)]; omega) c⟩⟩
    refine c_X0_become (g := x + 41) (sz := (ji S (x + 41) 1).toBitVec.toNat) (z := ji S (x + 41) 2) (mf := fun i f => ji S (x + 41 + 2 + i) f) ⟨hL, nI_bv _, rfl, fun _ _ _ _ => rfl⟩ hX.g (by omega) (fun i hi => ?_) (fun S1 c1 g1 => ?_)
    · obtain ⟨k, hk, e⟩ := hP.2.2.msf i 6 hi (by omega)
      have hk2 : k < 2 := hk
      rcases (show k = 0 ∨ k = 1 by omega) with rfl | rfl
      · exact Or.inl e
      · exact Or.inr e
    have hX1 := hX.of c1.1 (hX.2.2.keep c1 (by omega))
    refine ⟨hX1.1, x + 41, by rw [c1.1.2.2.1]; exact r3, g1.1.1, c_X0_liveYears g1 hz (by omega) (fun S2 c2 g2 => ?_)⟩
    have hX2 := hX1.of c2.1 (hX1.2.2.keep c2 (by omega))
    refine ⟨hX2.1, x + 1, hX2.2.1, hX2.k3, x + 2, hX2.r0, hX2.g.1.1, c_X0_taught hX2.g hz ⟨hX2.1, x + 41, by rw [c2.1.2.2.1, c1.1.2.2.1]; exact r3, g2.1.1, c_X0_taught g2 hz ?_⟩⟩
    have c12 : jch S S2 (x + 41) (x + 52) := c1.trans c2
    have hM := hP.2.1.keep c12 (by omega)
    refine U_X11_gone (by first | exact hM.k | exact hM1.k | exact hP.2.1.k | exact h.2.2.1.1 | exact h.1.1 | exact g1.1.1 | exact g3.1.1 | exact gm.1.1 | exact h2.1.1 | exact hM2.k | (rw [c1.1.1]; exact hP.2.1.k)) ⟨fun c => absurd (hj.symm.trans c) (by decide), fun _ => ⟨hM.k, c_X11_laysBy hM (fun S3 c3 h3 hr3 => ⟨h3.k, c_X11_taughtNow h3 hX.v0 hz ?_⟩)⟩⟩
    refine l_X11_gone (S := S3) (n := n) (v := v) (by omega) hX.v0 hz (fun S4 p hp c4 h4 => ?_) n 0 (v 8, mfv v) 0 S3 (by omega) rfl jch.rfl ⟨h3.1, fun j => (h3.2 j).trans (vg_self j).symm⟩ (fun j hj hb => by rw [vg_self]; exact hP.2.2 j hj hb)
    refine c_X11_laysBack (v := v) h4 (fun j hj => by rw [c4.2 _ (by omega)]; exact hr3 j hj) (fun S5 c5 h5 => ?_)
    have em : mtaught (mfv (vg v p)) sz = mtaught (yyears sz n (v 8, mfv v)).2 sz := by
      rw [← hp]
      exact mtaught_cong (fun i hi f hf => vg_m p hi hf) sz 0 0 (by omega)
    have h6 : MR S5 (x + 94) v := by
      refine ⟨h5.1, fun j => (h5.2 j).trans ?_⟩
      show (if j < 135 then v j else vg v p j) = v j
      by_cases h135 : j < 135
      · rw [if_pos h135]
      · rw [if_neg h135, vg_o _ (by omega) (by omega)]
    refine ⟨?_, ?_, tkOf hP.2.1 h6 (fun _ _ => rfl), sz, v, ?_, h6, hP.2.2⟩
    · rw [em]
      obtain ⟨k, hk, e⟩ := mtaught_lt (mf := mfv v) (fun i hi => hP.2.2.msf i 2 hi (by omega)) sz 0 0 (by omega) (by omega)
      have e' : mtaught (mfv v) sz = nI k := e
      rw [e']
      obtain ⟨k2, hk2, e2⟩ := nI_andle hk (mtaught (yyears sz n (v 8, mfv v)).2 sz ^^^ (-1))
      rw [e2]; exact jbc_many ⟨k2, hk2⟩
    · exact ((((jfr.thought c12 (by omega) (by omega)).trans (jfr.scr c3 (by omega) (by omega))).trans (jfr.row c4)).trans (jfr.row c5))
    · have a2 := hX2.of c3.1 (hX2.2.2.keep c3 (by omega))
      have a3 := a2.of c4.1 (a2.2.2.keep c4 (by omega))
      exact a3.of c5.1 (a3.2.2.keep c5 (by omega))
  · have bad : jFm E mX11_gone (d + 3) (x + 94) [.int w] S (fun r' S2 => PO S x kBAD r' S2) := U_X11_gone (by first | exact hM.k | exact hM1.k | exact hP.2.1.k | exact h.2.2.1.1 | exact h.1.1 | exact g1.1.1 | exact g3.1.1 | exact gm.1.1 | exact h2.1.1 | exact hM2.k | (rw [c1.1.1]; exact hP.2.1.k)) ⟨fun _ => hP.same, fun c => absurd hj c⟩
    refine T_X10_gone ⟨fun _ => bad, fun c1 => ⟨fun c2 => ?_, fun _ => bad⟩⟩
    obtain ⟨j, hj, e⟩ := jofI (x := w) (n := 61) (by omega) (Int32.not_lt.mp c1) (by rw [show (60 : Int32) = nI 60 from rfl, Int32.le_iff_toInt_le, nI_toInt (by omega)] at c2; rw [Int32.lt_iff_toInt_lt, nI_toInt (by omega)]; omega)
    exact absurd e (hw j (by omega) (by omega))
/-! fresh -/
def mways (wy : Nat → Int32) (mf : Nat → Nat → Int32) (t : Nat) (n i : Nat) (a : Int32) : Int32 := jfold (fun i a => if mf i 6 = 0 then a + wy (t * 6 + (mf i 1).toNatClampNeg) else a + 0) n i a
theorem c_X3_ways {Q : Int32 → jM → Prop} {r t : Nat} (hR : RmR S r sz v) (hg : Rg sz v) (ht : t < 6) (h : Q (mways (vfar v) (mfv v) t sz 0 0) S) : jFi E mX3_waysToMasters (d + 2) 0 0 [.ref r, .int (nI t)] S Q := by
  obtain ⟨a0, a1, a2, a3, a4, a5, a6, a7, a8⟩ := hR
  have key : ∀ (n i : Nat) (a : Int32), i + n = sz → Q (mways (vfar v) (mfv v) t n i a) S → L_X3_waysToMasters_4 E (d + 1) Q r (nI t) a (nI i) S := by
    intro n
    induction n with
    | zero =>
      intro i a hi hh
      obtain rfl : i = sz := by omega
      exact T_X3_waysToMasters_4 ⟨a0.1, r + 1, a0.2.1, a3.1.1, fun _ => hh, fun cc => absurd (by rw [a3.2.1]; exact Int32.le_rfl) cc⟩
    | succ n ih =>
      intro i a hi hh
      have e1 := a3.at (i := i) (f := 1) (by omega) (by omega)
      have e6 := a3.at (i := i) (f := 6) (by omega) (by omega)
      have k2 := a3.mk2 (i := i) (by omega)
      obtain ⟨tw, htw, etw⟩ := hg.msf i 1 (by omega) (by omega)
      have htw : tw < 6 := htw
      have hh2 : Q (mways (vfar v) (mfv v) t n (i + 1) (if mfv v i 6 = 0 then a + vfar v (t * 6 + (mfv v i 1).toNatClampNeg) else a + 0)) S := hh
      refine T_X3_waysToMasters_4 ⟨a0.1, r + 1, a0.2.1, a3.1.1, fun cc => absurd cc (by rw [a3.2.1]; exact nI_ge (by omega) (by omega)), fun _ => c_X0_findAt a3.1 a3.2.1 a1 (by omega) ⟨fun c => absurd c (by simp), fun b eb => ?_⟩⟩
      obtain rfl : r + 1 + 2 + i = b := Option.some.inj eb
      refine ⟨k2, fun c6 => ⟨a0.1, r + 12, a0.2.2.1, a4.1.1, ?_⟩, fun c6 => ?_⟩
      · rw [e6] at c6
        rw [e1, etw]
        rw [if_pos c6, etw, jcl (by omega)] at hh2
        exact c_X4_fewest a4 ht htw (by rw [nI_1]; exact ih (i + 1) _ (by omega) hh2)
      · rw [e6] at c6
        rw [if_neg c6] at hh2
        rw [nI_1]; exact ih (i + 1) _ (by omega) hh2
  exact T_X3_waysToMasters (key sz 0 0 (by omega) h)
theorem c_X11_farFrom {Q : Int32 → jM → Prop} {m t : Nat} (hM : MR S m v) (h0 : v 0 = nI sz) (hz : sz ≤ 9) (hg : Rg sz v) (hf : ∀ i, i < 36 → ji S (m + 12) i = vfar v i) (ht : t < 6) (h : Q (mways (vfar v) (mfv v) t sz 0 0) S) : jFi E mX11_farFrom (d + 1) 0 0 [.ref m, .int (nI t)] S Q := by
  have i0 := hM.at (i := 0) 0 rfl (by omega)
  obtain ⟨f1, f2, f3⟩ := hM.1.far
  have key : ∀ (n i : Nat) (a : Int32), i + n = sz → Q (mways (vfar v) (mfv v) t n i a) S → L_X11_farFrom_4 E d Q m (nI t) a (nI i) S := by
    intro n
    induction n with
    | zero =>
      intro i a hi hh
      obtain rfl : i = sz := by omega
      exact T_X11_farFrom_4 ⟨hM.k, _, hM.r, hM.k1, i0.1, fun _ => hh, fun cc => absurd (by rw [i0.2, h0]; exact Int32.le_rfl) cc⟩
    | succ n ih =>
      intro i a hi hh
      obtain ⟨tw, htw, etw⟩ := hg.msf i 1 (by omega) (by omega)
      have htw : tw < 6 := htw
      have hh2 : Q (mways (vfar v) (mfv v) t n (i + 1) (if mfv v i 6 = 0 then a + vfar v (t * 6 + (mfv v i 1).toNatClampNeg) else a + 0)) S := hh
      refine T_X11_farFrom_4 ⟨hM.k, _, hM.r, hM.k1, i0.1, fun cc => absurd cc (by rw [i0.2, h0]; exact nI_ge (by omega) (by omega)), fun _ => c_X11_of (f := 6) hM (by omega) (by omega) ⟨fun c6 => ⟨hM.k, _, f1, c_X11_of (f := 1) hM (by omega) (by omega) ⟨f2, ?_, ?_⟩⟩, fun c6 => ?_⟩⟩
      · rw [etw, f3, nI_6x]; exact jin_nI (by omega) (by omega)
      · rw [if_pos c6, etw, jcl (by omega)] at hh2
        rw [etw, nI_6x, jcl (by omega), hf _ (by omega), nI_1]
        exact ih (i + 1) _ (by omega) hh2
      · rw [if_neg c6] at hh2
        rw [nI_1]; exact ih (i + 1) _ (by omega) hh2
  exact T_X11_farFrom (key sz 0 0 (by omega) h)
def jbest (f : Nat → Int32) : Nat → Nat → Nat → Nat
  | 0, _, b => b
  | n + 1, t, b => if f b ≤ f t then jbest f n (t + 1) b else jbest f n (t + 1) t
theorem P_fresh (hP : PI S x sz v) : jFi E mX10_fresh (d + 3) 0 0 [.ref x] S (fun r S1 => jFm E mX11_fresh (d + 2) (x + 94) [] S1 (fun r' S2 => PO S x r r' S2)) := by
  obtain ⟨hX, hM, hg⟩ := id hP
  have kC : ∀ (Q : Int32 → jM → Prop) (n t b : Nat), t + n = 6 → b < 6 → Q (nI (jbest (fun t => mways (vfar v) (mfv v) t sz 0 0) n t b)) S → L_X10_fresh_4 E (d + 2) Q x (nI b) (nI t) S := by
    intro Q n
    induction n with
    | zero =>
      intro t b ht hb hq
      obtain rfl : t = 6 := by omega
      exact T_X10_fresh_4 ⟨fun _ => hq, fun c => absurd (by decide) c⟩
    | succ n ih =>
      intro t b ht hb hq
      refine T_X10_fresh_4 ⟨fun c => absurd c (nI_ge (b := 6) (by omega) (by omega)), fun _ => ⟨hX.1, x + 1, hX.2.1, hX.k3, c_X3_ways hX.2.2 hg (by omega) ⟨hX.1, x + 1, hX.2.1, hX.k3, c_X3_ways hX.2.2 hg hb ⟨fun c => ?_, fun c => ?_⟩⟩⟩⟩
      · unfold jbest at hq; rw [if_pos c] at hq; rw [nI_1]; exact ih (t + 1) b (by omega) hb hq
      · unfold jbest at hq; rw [if_neg c] at hq; rw [nI_1]; exact ih (t + 1) t (by omega) (by omega) hq
  refine T_X10_fresh (kC _ 5 1 0 rfl (by omega) ?_)
  refine U_X11_fresh (by first | exact hM.k | exact hM1.k | exact hP.2.1.k | exact h.2.2.1.1 | exact h.1.1 | exact g1.1.1 | exact g3.1.1 | exact gm.1.1 | exact h2.1.1 | exact hM2.k | (rw [c1.1.1]; exact hP.2.1.k)) ⟨hM.k, c_X11_findFar hM (fun S1 c1 hf => ?_)⟩
  have hM1 := hM.keep c1 (by omega)
  have hX1 := hX.of c1.1 (hX.2.2.keep c1 (by omega))
  have kM : ∀ (Q : Int32 → jM → Prop) (n t b : Nat), t + n = 6 → b < 6 → Q (nI (jbest (fun t => mways (vfar v) (mfv v) t sz 0 0) n t b)) S1 → L_X11_fresh_8 E (d + 1) Q (x + 94) (nI b) (nI t) S1 := by
    intro Q n
    induction n with
    | zero =>
      intro t b ht hb hq
      obtain rfl : t = 6 := by omega
      exact T_X11_fresh_8 ⟨fun _ => hq, fun c => absurd (by decide) c⟩
    | succ n ih =>
      intro t b ht hb hq
      refine T_X11_fresh_8 ⟨fun c => absurd c (nI_ge (b := 6) (by omega) (by omega)), fun _ => ⟨hM1.k, c_X11_farFrom hM1 hX.v0 hX.sz9 hg hf (by omega) ⟨hM1.k, c_X11_farFrom hM1 hX.v0 hX.sz9 hg hf hb ⟨fun c => ?_, fun c => ?_⟩⟩⟩⟩
      · unfold jbest at hq; rw [if_pos c] at hq; rw [nI_1]; exact ih (t + 1) b (by omega) hb hq
      · unfold jbest at hq; rw [if_neg c] at hq; rw [nI_1]; exact ih (t + 1) t (by omega) (by omega) hq
  exact kM _ 5 1 0 rfl (by omega) ⟨rfl, jfr.far (c1.wide (by omega) (by omega)), tkOf hM hM1 (fun _ _ => rfl), sz, v, hX1, hM1, hg⟩
end jFresh5
