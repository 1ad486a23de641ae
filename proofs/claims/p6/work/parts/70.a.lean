section
/-! SLOTS: LAY, ASK, ITEM, REST on both sides -/
def SL1 (S : jM) (x i : Nat) : Prop := ∃ th, th < 4 ∧ ji S (x + 74 + 4 * i) 0 = nI th ∧ ji S (x + 101) i = nI th ∧ (th = 1 → (∃ k, k < 6 ∧ ji S (x + 75 + 4 * i) 0 = nI k ∧ ji S (x + 102) i = nI k) ∧ ji S (x + 103) i = jworth (ji S (x + 75 + 4 * i) 0) (ji S (x + 75 + 4 * i) 4)) ∧ (th = 2 → (∃ n, n ≤ 24 ∧ ji S (x + 76 + 4 * i) 1 = nI n ∧ ji S (x + 104) i = nI n) ∧ ∀ j, j < 24 → ji S (x + 77 + 4 * i) j = ji S (x + 105) (24 * i + j)) ∧ (th = 3 → ji S (x + 74 + 4 * i) 3 = ji S (x + 102) i)
section jLay
variable {E : jEnv} {d : Nat} {S S' S2 : jM} {x sz M : Nat} {v : Nat → Int32}
theorem IV.slot {i : Nat} (h : IV S x sz M v) (hi : i < 5) (s : jsame S S2) (o : ∀ y, (y < x + 74 + 4 * i ∨ x + 78 + 4 * i ≤ y) → (y < x + 101 ∨ x + 106 ≤ y) → ji S2 y = ji S y) (ol : ∀ l, l < 5 → l ≠ i → ji S2 (x + 101) l = ji S (x + 101) l ∧ ji S2 (x + 102) l = ji S (x + 102) l ∧ ji S2 (x + 103) l = ji S (x + 103) l ∧ ji S2 (x + 104) l = ji S (x + 104) l ∧ ∀ j, j < 24 → ji S2 (x + 105) (24 * l + j) = ji S (x + 105) (24 * l + j)) (h1 : SL1 S2 x i) : INV S2 x M := by
  obtain ⟨⟨hX, hM, hg⟩, hC, hGL, hjn, hT, hI, hS, hSl, hW, hTp⟩ := id h
  refine h.rst s (fun y hy => o y (by omega) (by omega)) ⟨hI.keep s (by rw [o x (by omega) (by omega)]) (by rw [o (x + 94) (by omega) (by omega)]) (fun y hy => o y (by omega) (by omega)), hS.keep (fun y hy => o y (by omega) (by omega)), fun l hl => ?_, hW.keep (by rw [o x (by omega) (by omega)]) (by rw [o (x + 94) (by omega) (by omega)]) (o _ (by omega) (by omega)) (o _ (by omega) (by omega)), hTp.keep (by rw [o (x + 60) (by omega) (by omega)]) (by rw [o (x + 94) (by omega) (by omega)]) (o _ (by omega) (by omega)) (o _ (by omega) (by omega))⟩
  by_cases e : l = i
  · rw [e]; exact h1
  · obtain ⟨b1, b2, b3, b4, b5⟩ := ol l hl e
    have p0 := o (x + 74 + 4 * l) (by omega) (by omega)
    have p1 := o (x + 75 + 4 * l) (by omega) (by omega)
    have p2 := o (x + 76 + 4 * l) (by omega) (by omega)
    have p3 := o (x + 77 + 4 * l) (by omega) (by omega)
    obtain ⟨th, a1, a2, a3, a4, a5, a6⟩ := hSl l hl
    rw [p0, p1, p2, p3, b1, b2, b3, b4]
    refine ⟨th, a1, a2, a3, a4, fun c => ⟨(a5 c).1, fun j hj => ?_⟩, a6⟩
    rw [b5 j hj]; exact (a5 c).2 j hj
theorem c_X11_lay {Q : Int32 → jM → Prop} {i : Nat} {u t : Int32} (hM : MR S (x + 94) v) (hz0 : v 0 = nI sz) (hz : sz ≤ 9) (hi : i < 5)
    (hb : ((u ≠ 0 ∧ u ≠ 1 ∧ u ≠ 2 ∧ u ≠ 3) ∨ (u = 1 ∧ ∀ n, n < sz → t ≠ nI n) ∨ (u = 2 ∧ jwi t 4 = 0)) → Q kBAD S)
    (h0 : u = 0 ∨ u = 3 → Q (ji S (x + 101) i) (jput (jput (jput S (x + 101) i u) (x + 102) i t) (x + 103) i 0))
    (h1 : u = 1 → ∀ n, n < sz → t = nI n → Q (ji S (x + 101) i) (jput (jput (jput S (x + 101) i u) (x + 102) i (mfv v n 0)) (x + 103) i (jworth (mfv v n 0) (mfv v n 4))))
    (h2 : u = 2 → ∀ k, k < 4 → t = nI k → ¬ 0 ≤ ji S (x + 98) k → Q kNOTHING S)
    (h3 : u = 2 → ∀ k, k < 4 → t = nI k → 0 ≤ ji S (x + 98) k → ∀ S2, jsame S S2 → (∀ y, (y < x + 101 ∨ x + 106 ≤ y) → ji S2 y = ji S y) → (∀ l, l < 5 → l ≠ i → ji S2 (x + 101) l = ji S (x + 101) l ∧ ji S2 (x + 102) l = ji S (x + 102) l ∧ ji S2 (x + 103) l = ji S (x + 103) l ∧ ji S2 (x + 104) l = ji S (x + 104) l ∧ ∀ j, j < 24 → ji S2 (x + 105) (24 * l + j) = ji S (x + 105) (24 * l + j)) → ji S2 (x + 101) i = 2 → ji S2 (x + 104) i = ji S (x + 99) k → (∀ j, j < 24 → ji S2 (x + 105) (24 * i + j) = ji S (x + 100) (24 * k + j)) → Q (ji S (x + 101) i) S2) : jFm E mX11_lay (d + 2) (x + 94) [.int (nI i), .int u, .int t] S Q := by
  have e : jisslot (nI i) ≠ 0 := by rw [jisslot_wi, show (5 : Int32) = nI 5 from rfl, jwi_at hi (by omega)]; decide
  have m := hM.1
  have ci : Int32.toNatClampNeg (nI i) = i := jcl (by omega)
  have i5 : ∀ n, n = 5 → vp_in (nI i) n := fun n hn => by rw [hn]; exact jin_nI hi (by omega)
  have i7 := i5 _ m.r7.2.2
  have i8 := i5 _ m.r8.2.2
  have i9 := i5 _ m.r9.2.2
  have i10 := i5 _ m.r10.2.2
  refine U_X11_lay hM.k ⟨fun c0 => ⟨fun c => absurd c e, fun _ => ⟨fun c2 => absurd (c0.symm.trans c2) (by decide), fun _ => ⟨m.1, _, m.r7.1, m.r7.2.1, i7, _, m.r8.1, fun c1 => absurd (c0.symm.trans c1) (by decide), fun _ => ⟨m.r8.2.1, i8, _, m.r9.1, m.r9.2.1, i9, ?_⟩⟩⟩⟩, fun c0 => ⟨fun c3 => ⟨fun c => absurd c e, fun _ => ⟨fun c2 => absurd (c3.symm.trans c2) (by decide), fun _ => ⟨m.1, _, m.r7.1, m.r7.2.1, i7, _, m.r8.1, fun c1 => absurd (c3.symm.trans c1) (by decide), fun _ => ⟨m.r8.2.1, i8, _, m.r9.1, m.r9.2.1, i9, ?_⟩⟩⟩⟩, fun c3 => ⟨fun c1 => ⟨m.1, c_X11_isMaster hM hz0 hz (fun n hn en => ⟨fun c => absurd c (by decide), fun _ => ⟨fun c => absurd c e, fun _ => ⟨fun c2 => absurd (c1.symm.trans c2) (by decide), fun _ => ⟨m.1, _, m.r7.1, m.r7.2.1, i7, _, m.r8.1, ?_⟩⟩⟩⟩) (fun hn => ⟨fun _ => ⟨fun c2 => absurd (c1.symm.trans c2) (by decide), fun _ => ⟨fun _ => hb (Or.inr (Or.inl ⟨c1, hn⟩)), fun _ => hb (Or.inr (Or.inl ⟨c1, hn⟩))⟩⟩, fun c => absurd rfl c⟩)⟩, fun c1 => ⟨fun c2 => ⟨fun cs => ⟨fun c => absurd c e, fun _ => hb (Or.inr (Or.inr ⟨c2, (jissheet_wi t).symm.trans cs⟩))⟩, fun cs => ⟨fun c => absurd c e, fun _ => ?_⟩⟩, fun c2 => ⟨fun c => absurd c e, fun _ => hb (Or.inl ⟨c0, c1, c2, c3⟩)⟩⟩⟩⟩⟩
  · rw [ci]; exact h0 (Or.inl c0)
  · rw [ci]; exact h0 (Or.inr c3)
  · have q1 : jch S (jput S (x + 101) (Int32.toNatClampNeg (nI i)) u) (x + 101) (x + 102) := jch.put (by omega) (by omega)
    have hM1 := hM.keep q1 (by omega)
    have m1 := hM1.1
    subst en
    refine c_X11_of (f := 0) hM1 (by omega) (by omega) ⟨m1.r8.2.1, i8, m1.1, _, m1.r9.1, ?_⟩
    have q2 : jch (jput S (x + 101) (Int32.toNatClampNeg (nI i)) u) (jput (jput S (x + 101) (Int32.toNatClampNeg (nI i)) u) (x + 102) (Int32.toNatClampNeg (nI i)) (mfv v n 0)) (x + 102) (x + 103) := jch.put (by omega) (by omega)
    have hM2 := hM1.keep q2 (by omega)
    refine c_X11_worth hM2 (by omega) ⟨hM2.1.r9.2.1, i9, ?_⟩
    rw [ci]; exact h1 c1 n hn rfl
  · rcases jwi_cases t (b := 4) 4 rfl (by omega) with ⟨k, hk, rfl, -⟩ | ⟨-, e4⟩
    · have ck : Int32.toNatClampNeg (nI k) = k := jcl (by omega)
      refine ⟨m.1, _, m.r4.1, m.r4.2.1, by rw [m.r4.2.2]; exact jin_nI hk (by omega), fun c => ⟨_, m.r7.1, m.r7.2.1, i7, _, m.r8.1, m.r8.2.1, i8, _, m.r9.1, m.r9.2.1, i9, _, m.r10.1, _, m.r5.1, m.r5.2.1, by rw [m.r5.2.2]; exact jin_nI hk (by omega), m.r10.2.1, i10, ?_⟩, fun c => h2 c2 k hk rfl (by rw [ck] at c; exact c)⟩
      rw [ck] at c
      rw [ci, ck]
      have q0 : jch S (jput (jput (jput (jput S (x + 101) i u) (x + 102) i (nI k)) (x + 103) i 0) (x + 104) i (ji (jput (jput (jput S (x + 101) i u) (x + 102) i (nI k)) (x + 103) i 0) (x + 99) k)) (x + 101) (x + 105) := (((jch.put (by omega) (by omega)).trans (jch.put (by omega) (by omega))).trans (jch.put (by omega) (by omega))).trans (jch.put (by omega) (by omega))
      have f4 : ∀ l, ji (jput (jput (jput (jput S (x + 101) i u) (x + 102) i (nI k)) (x + 103) i 0) (x + 104) i (ji (jput (jput (jput S (x + 101) i u) (x + 102) i (nI k)) (x + 103) i 0) (x + 99) k)) (x + 104) l = if l = i then ji S (x + 99) k else ji S (x + 104) l := by
        intro l
        rw [ji_put, ji_put_ne _ _ _ _ (show x + 99 ≠ x + 103 by omega), ji_put_ne _ _ _ _ (show x + 99 ≠ x + 102 by omega), ji_put_ne _ _ _ _ (show x + 99 ≠ x + 101 by omega), ji_put_ne _ _ _ _ (show x + 104 ≠ x + 103 by omega), ji_put_ne _ _ _ _ (show x + 104 ≠ x + 102 by omega), ji_put_ne _ _ _ _ (show x + 104 ≠ x + 101 by omega)]
        by_cases hl : l = i
        · rw [if_pos ⟨rfl, hl⟩, if_pos hl]
        · rw [if_neg (fun c => hl c.2), if_neg hl]
      have f1 : ∀ l, ji (jput (jput (jput (jput S (x + 101) i u) (x + 102) i (nI k)) (x + 103) i 0) (x + 104) i (ji (jput (jput (jput S (x + 101) i u) (x + 102) i (nI k)) (x + 103) i 0) (x + 99) k)) (x + 101) l = if l = i then u else ji S (x + 101) l := by
        intro l
        rw [ji_put_ne _ _ _ _ (show x + 101 ≠ x + 104 by omega), ji_put_ne _ _ _ _ (show x + 101 ≠ x + 103 by omega), ji_put_ne _ _ _ _ (show x + 101 ≠ x + 102 by omega), ji_put]
        by_cases hl : l = i
        · rw [if_pos ⟨rfl, hl⟩, if_pos hl]
        · rw [if_neg (fun c => hl c.2), if_neg hl]
      have f2 : ∀ l, l ≠ i → ji (jput (jput (jput (jput S (x + 101) i u) (x + 102) i (nI k)) (x + 103) i 0) (x + 104) i (ji (jput (jput (jput S (x + 101) i u) (x + 102) i (nI k)) (x + 103) i 0) (x + 99) k)) (x + 102) l = ji S (x + 102) l := by
        intro l hl
        rw [ji_put_ne _ _ _ _ (show x + 102 ≠ x + 104 by omega), ji_put_ne _ _ _ _ (show x + 102 ≠ x + 103 by omega), ji_put, if_neg (fun c => hl c.2), ji_put_ne _ _ _ _ (show x + 102 ≠ x + 101 by omega)]
      have f3 : ∀ l, l ≠ i → ji (jput (jput (jput (jput S (x + 101) i u) (x + 102) i (nI k)) (x + 103) i 0) (x + 104) i (ji (jput (jput (jput S (x + 101) i u) (x + 102) i (nI k)) (x + 103) i 0) (x + 99) k)) (x + 103) l = ji S (x + 103) l := by
        intro l hl
        rw [ji_put_ne _ _ _ _ (show x + 103 ≠ x + 104 by omega), ji_put, if_neg (fun c => hl c.2), ji_put_ne _ _ _ _ (show x + 103 ≠ x + 102 by omega), ji_put_ne _ _ _ _ (show x + 103 ≠ x + 101 by omega)]
      generalize jput (jput (jput (jput S (x + 101) i u) (x + 102) i (nI k)) (x + 103) i 0) (x + 104) i (ji (jput (jput (jput S (x + 101) i u) (x + 102) i (nI k)) (x + 103) i 0) (x + 99) k) = S0 at q0 f1 f2 f3 f4 ⊢
      have m0 := m.same q0.1
      have lp : ∀ (c e : Nat) (S2 : jM), e + c = 24 → jch S0 S2 (x + 105) (x + 106) → (∀ j, ji S2 (x + 105) j = if 24 * i ≤ j ∧ j < 24 * i + e then ji S (x + 100) (24 * k + (j - 24 * i)) else ji S (x + 105) j) → L_X11_lay_150 E d Q (x + 94) (nI i) (nI k) (ji S (x + 101) i) (nI e) S2 := by
        intro c
        induction c with
        | zero =>
          intro e S2 he c2' r2
          obtain rfl : e = 24 := by omega
          refine T_X11_lay_150 ⟨fun _ => ?_, fun cc => absurd (by decide) cc⟩
          have s1 : ∀ y, y < x + 105 ∨ x + 106 ≤ y → ji S2 y = ji S0 y := fun y hy => c2'.2 y hy
          refine h3 c2 k hk rfl c S2 (q0.1.trans c2'.1) (fun y hy => (s1 y (by omega)).trans (q0.2 y (by omega))) (fun l hl hne => ⟨?_, ?_, ?_, ?_, fun j hj => ?_⟩) ?_ ?_ (fun j hj => ?_)
          · rw [s1 _ (by omega), f1, if_neg hne]
          · rw [s1 _ (by omega), f2 l hne]
          · rw [s1 _ (by omega), f3 l hne]
          · rw [s1 _ (by omega), f4, if_neg hne]
          · rw [r2, if_neg (by omega)]
          · rw [s1 _ (by omega), f1, if_pos rfl]; exact c2
          · rw [s1 _ (by omega), f4, if_pos rfl]
          · rw [r2, if_pos (by omega), show 24 * i + j - 24 * i = j by omega]
        | succ c ih =>
          intro e S2 he c2' r2
          have m2 := m0.same c2'.1
          refine T_X11_lay_150 ⟨fun cc => absurd cc (nI_ge (b := 24) (by omega) (by omega)), fun _ => ⟨m2.1, _, m2.r11.1, _, m2.r6.1, m2.r6.2.1, by rw [nI_24, m2.r6.2.2]; exact jin_nI (by omega) (by omega), m2.r11.2.1, by rw [nI_24, m2.r11.2.2]; exact jin_nI (by omega) (by omega), ?_⟩⟩
          rw [nI_24, nI_24, jcl (n := 24 * i + e) (by omega), jcl (n := 24 * k + e) (by omega), nI_1, c2'.2 (x + 100) (by omega), q0.2 (x + 100) (by omega)]
          refine ih (e + 1) _ (by omega) (c2'.trans (jch.put (by omega) (by omega))) (fun j => ?_)
          rw [ji_put]
          by_cases hj : j = 24 * i + e
          · rw [if_pos ⟨rfl, hj⟩, if_pos (by omega), hj, show 24 * i + e - 24 * i = e by omega]
          · rw [if_neg (fun cc => hj cc.2), r2 j]
            by_cases hc : 24 * i ≤ j ∧ j < 24 * i + e
            · rw [if_pos hc, if_pos (by omega)]
            · rw [if_neg hc, if_neg (by omega)]
      exact lp 24 0 S0 (by omega) jch.rfl (fun j => by rw [if_neg (by omega)]; rw [q0.2 (x + 105) (by omega)])
    · exact absurd ((jissheet_wi t).trans e4) cs
theorem g_layBad {Q : Int32 → jM → Prop} {w u t : Int32} (hM : MR S (x + 94) v) (hz0 : v 0 = nI sz) (hz : sz ≤ 9) (hs : jwi w 5 = 0) (hq : Q kBAD S) : jFm E mX11_lay (d + 2) (x + 94) [.int w, .int u, .int t] S Q := by
  have e : jisslot w = 0 := (jisslot_wi w).trans hs
  refine U_X11_lay hM.k ⟨fun _ => ⟨fun _ => hq, fun c => absurd e c⟩, fun c0 => ⟨fun _ => ⟨fun _ => hq, fun c => absurd e c⟩, fun c3 => ⟨fun c1 => ⟨hM.k, c_X11_isMaster hM hz0 hz (fun n hn en => ⟨fun c => absurd c (by decide), fun _ => ⟨fun _ => hq, fun c => absurd e c⟩⟩) (fun hn => ⟨fun _ => ⟨fun c2 => absurd (c1.symm.trans c2) (by decide), fun _ => ⟨fun _ => hq, fun c => absurd e c⟩⟩, fun c => absurd rfl c⟩)⟩, fun c1 => ⟨fun c2 => ⟨fun _ => ⟨fun _ => hq, fun c => absurd e c⟩, fun _ => ⟨fun _ => hq, fun c => absurd e c⟩⟩, fun c2 => ⟨fun _ => hq, fun c => absurd e c⟩⟩⟩⟩⟩
theorem Q_lay {w u t : Int32} (h : IV S x sz M v) : jFi E mX10_lay (d + 3) 0 0 [.ref x, .int w, .int u, .int t] S (fun r S1 => jFm E mX11_lay (d + 3) (x + 94) [.int w, .int u, .int t] S1 (fun r' S2 => r = r' ∧ INV S2 x M)) := by
  obtain ⟨⟨hX, hM, hg⟩, hC, hGL, hjn, hT, hI, hS, hSl, hW, hTp⟩ := id h
  have hz0 := hX.v0
  have hz := hX.sz9
  refine T_X10_lay ⟨hX.1, c_X10_findSlot hC (fun c => ⟨fun _ => g_layBad hM hz0 hz c ⟨rfl, h.inv⟩, fun b e => absurd e (by simp)⟩) (fun i hi e e1 => ⟨fun c => absurd c (by simp), fun b eb => ?_⟩)⟩
  obtain rfl : x + 74 + 4 * i = b := Option.some.inj eb
  subst e
  obtain ⟨th, t1, t2, t3, t4, t5, t6⟩ := hSl i hi
  obtain ⟨k7, r1, r2, k2, k6, r22, k12, l24⟩ := hC.sl i hi
  have was : ∀ S1 : jM, jch S S1 (x + 74 + 4 * i) (x + 78 + 4 * i) → ji S (x + 74 + 4 * i) 0 = ji S1 (x + 101) i := fun S1 c => by rw [c.2 _ (by omega), t2, t3]
  have out : ∀ S1 S2 : jM, jch S S1 (x + 74 + 4 * i) (x + 78 + 4 * i) → jsame S1 S2 → (∀ y, (y < x + 101 ∨ x + 106 ≤ y) → ji S2 y = ji S1 y) → (∀ l, l < 5 → l ≠ i → ji S2 (x + 101) l = ji S1 (x + 101) l ∧ ji S2 (x + 102) l = ji S1 (x + 102) l ∧ ji S2 (x + 103) l = ji S1 (x + 103) l ∧ ji S2 (x + 104) l = ji S1 (x + 104) l ∧ ∀ j, j < 24 → ji S2 (x + 105) (24 * l + j) = ji S1 (x + 105) (24 * l + j)) → SL1 S2 x i → INV S2 x M := by
    intro S1 S2 c s o ol hs
    refine h.slot hi (c.1.trans s) (fun y p q => (o y q).trans (c.2 y p)) (fun l hl hne => ?_) hs
    rw [← c.2 (x + 101) (by omega), ← c.2 (x + 102) (by omega), ← c.2 (x + 103) (by omega), ← c.2 (x + 104) (by omega), ← c.2 (x + 105) (by omega)]
    exact ol l hl hne
  have out3 : ∀ (S1 : jM) (a b c : Int32), jch S S1 (x + 74 + 4 * i) (x + 78 + 4 * i) → SL1 (jput (jput (jput S1 (x + 101) i a) (x + 102) i b) (x + 103) i c) x i → INV (jput (jput (jput S1 (x + 101) i a) (x + 102) i b) (x + 103) i c) x M := by
    intro S1 a b c c1 hs
    refine out S1 _ c1 ⟨rfl, rfl, rfl, rfl⟩ (fun y hy => ?_) (fun l hl hne => ⟨?_, ?_, ?_, ?_, fun j hj => ?_⟩) hs
    · rw [ji_put_ne _ _ _ _ (by omega), ji_put_ne _ _ _ _ (by omega), ji_put_ne _ _ _ _ (by omega)]
    · rw [ji_put_ne _ _ _ _ (by omega), ji_put_ne _ _ _ _ (by omega), ji_put, if_neg (fun q => hne q.2)]
    · rw [ji_put_ne _ _ _ _ (by omega), ji_put, if_neg (fun q => hne q.2), ji_put_ne _ _ _ _ (by omega)]
    · rw [ji_put, if_neg (fun q => hne q.2), ji_put_ne _ _ _ _ (by omega), ji_put_ne _ _ _ _ (by omega)]
    · rw [ji_put_ne _ _ _ _ (by omega), ji_put_ne _ _ _ _ (by omega), ji_put_ne _ _ _ _ (by omega)]
    · rw [ji_put_ne _ _ _ _ (by omega), ji_put_ne _ _ _ _ (by omega), ji_put_ne _ _ _ _ (by omega)]
  have p1 : ∀ (S1 : jM) (a b c : Int32), ji (jput (jput (jput S1 (x + 101) i a) (x + 102) i b) (x + 103) i c) (x + 101) i = a := fun S1 a b c => by rw [ji_put_ne _ _ _ _ (by omega), ji_put_ne _ _ _ _ (by omega), ji_put_same]
  have p2 : ∀ (S1 : jM) (a b c : Int32), ji (jput (jput (jput S1 (x + 101) i a) (x + 102) i b) (x + 103) i c) (x + 102) i = b := fun S1 a b c => by rw [ji_put_ne _ _ _ _ (by omega), ji_put_same]
  have p3 : ∀ (S1 : jM) (a b c : Int32) (y : Nat), y < x + 101 → ji (jput (jput (jput S1 (x + 101) i a) (x + 102) i b) (x + 103) i c) y = ji S1 y := fun S1 a b c y hy => by rw [ji_put_ne _ _ _ _ (by omega), ji_put_ne _ _ _ _ (by omega), ji_put_ne _ _ _ _ (by omega)]
  refine ⟨k7, fun c => ?_, fun c => ⟨hX.1, T_X10_layMaster ⟨hX.1, x + 1, hX.2.1, hX.k3, x + 2, hX.r0, hX.g.1.1, c_X0_find hX.g.1 hX.g.2.1 hz (fun n hn en => ⟨fun c => absurd c (by simp), fun b eb => ?_⟩) (fun hn => ⟨fun _ => ?_, fun b e => absurd e (by simp)⟩)⟩⟩, fun c => ⟨hX.1, T_X10_laySheet ⟨hX.1, c_X10_findSheet hC (fun c4 => ⟨fun _ => ?_, fun b e => absurd e (by simp)⟩) (fun k hk4 e e1 => ⟨fun c => absurd c (by simp), fun b eb => ?_⟩)⟩⟩, fun c => ?_, fun c0 c1 c2 c3 => ?_⟩
  · -- nothing
    subst c
    have c1 : jch S (jput S (x + 74 + 4 * i) 0 0) (x + 74 + 4 * i) (x + 78 + 4 * i) := jch.put (by omega) (by omega)
    rw [was _ c1]
    refine c_X11_lay (hM.keep c1 (by omega)) hz0 hz hi (fun c => ?_) (fun _ => ⟨rfl, ?_⟩) (fun c => absurd c (by decide)) (fun c => absurd c (by decide)) (fun c => absurd c (by decide))
    · rcases c with c | c | c
      · exact absurd rfl c.1
      · exact absurd c.1 (by decide)
      · exact absurd c.1 (by decide)
    · refine out3 _ _ _ _ c1 ⟨0, by omega, ?_, p1 _ _ _ _, fun c => absurd c (by omega), fun c => absurd c (by omega), fun c => absurd c (by omega)⟩
      rw [p3 _ _ _ _ _ (by omega), ji_put_same]; rfl
  · -- a master
    obtain rfl : x + 2 + 2 + n = b := Option.some.inj eb
    subst c
    subst en
    refine ⟨k7, _, r1, k2, c_X2_become k2 (hX.g.1.2.2.2.2 n (by omega)).2 ?_ ?_⟩
    · rw [ji_put_ne _ _ _ _ (by omega), XR.ms hX (by omega) (by omega)]
      exact hg.de (by omega)
    · have c1 : jch S (jrow (jput S (x + 74 + 4 * i) 0 1) (x + 74 + 4 * i + 1) (mrow (ji (jput S (x + 74 + 4 * i) 0 1) (x + 74 + 4 * i + 1)) (ji (jput S (x + 74 + 4 * i) 0 1) (x + 2 + 2 + n) 0) (ji (jput S (x + 74 + 4 * i) 0 1) (x + 2 + 2 + n) 1) (ji (jput S (x + 74 + 4 * i) 0 1) (x + 2 + 2 + n) 2) (ji (jput S (x + 74 + 4 * i) 0 1) (x + 2 + 2 + n) 3) (ji (jput S (x + 74 + 4 * i) 0 1) (x + 2 + 2 + n) 4) (ji (jput S (x + 74 + 4 * i) 0 1) (x + 2 + 2 + n) 5) (ji (jput S (x + 74 + 4 * i) 0 1) (x + 2 + 2 + n) 6))) (x + 74 + 4 * i) (x + 78 + 4 * i) := (jch.put (by omega) (by omega)).trans (jch.row (by omega) (by omega))
      have g0 : ji (jrow (jput S (x + 74 + 4 * i) 0 1) (x + 74 + 4 * i + 1) (mrow (ji (jput S (x + 74 + 4 * i) 0 1) (x + 74 + 4 * i + 1)) (ji (jput S (x + 74 + 4 * i) 0 1) (x + 2 + 2 + n) 0) (ji (jput S (x + 74 + 4 * i) 0 1) (x + 2 + 2 + n) 1) (ji (jput S (x + 74 + 4 * i) 0 1) (x + 2 + 2 + n) 2) (ji (jput S (x + 74 + 4 * i) 0 1) (x + 2 + 2 + n) 3) (ji (jput S (x + 74 + 4 * i) 0 1) (x + 2 + 2 + n) 4) (ji (jput S (x + 74 + 4 * i) 0 1) (x + 2 + 2 + n) 5) (ji (jput S (x + 74 + 4 * i) 0 1) (x + 2 + 2 + n) 6))) (x + 74 + 4 * i) 0 = 1 := by rw [ji_row_ne _ _ _ (by omega), ji_put_same]
      have g1 : ji (jrow (jput S (x + 74 + 4 * i) 0 1) (x + 74 + 4 * i + 1) (mrow (ji (jput S (x + 74 + 4 * i) 0 1) (x + 74 + 4 * i + 1)) (ji (jput S (x + 74 + 4 * i) 0 1) (x + 2 + 2 + n) 0) (ji (jput S (x + 74 + 4 * i) 0 1) (x + 2 + 2 + n) 1) (ji (jput S (x + 74 + 4 * i) 0 1) (x + 2 + 2 + n) 2) (ji (jput S (x + 74 + 4 * i) 0 1) (x + 2 + 2 + n) 3) (ji (jput S (x + 74 + 4 * i) 0 1) (x + 2 + 2 + n) 4) (ji (jput S (x + 74 + 4 * i) 0 1) (x + 2 + 2 + n) 5) (ji (jput S (x + 74 + 4 * i) 0 1) (x + 2 + 2 + n) 6))) (x + 75 + 4 * i) 0 = mfv v n 0 := by
        rw [show x + 75 + 4 * i = x + 74 + 4 * i + 1 by omega, ji_row_same]
        show ji (jput S (x + 74 + 4 * i) 0 1) (x + 2 + 2 + n) 0 = _
        rw [ji_put_ne _ _ _ _ (by omega), XR.ms hX (by omega) (by omega)]
      have g4 : ji (jrow (jput S (x + 74 + 4 * i) 0 1) (x + 74 + 4 * i + 1) (mrow (ji (jput S (x + 74 + 4 * i) 0 1) (x + 74 + 4 * i + 1)) (ji (jput S (x + 74 + 4 * i) 0 1) (x + 2 + 2 + n) 0) (ji (jput S (x + 74 + 4 * i) 0 1) (x + 2 + 2 + n) 1) (ji (jput S (x + 74 + 4 * i) 0 1) (x + 2 + 2 + n) 2) (ji (jput S (x + 74 + 4 * i) 0 1) (x + 2 + 2 + n) 3) (ji (jput S (x + 74 + 4 * i) 0 1) (x + 2 + 2 + n) 4) (ji (jput S (x + 74 + 4 * i) 0 1) (x + 2 + 2 + n) 5) (ji (jput S (x + 74 + 4 * i) 0 1) (x + 2 + 2 + n) 6))) (x + 75 + 4 * i) 4 = mfv v n 4 := by
        rw [show x + 75 + 4 * i = x + 74 + 4 * i + 1 by omega, ji_row_same]
        show ji (jput S (x + 74 + 4 * i) 0 1) (x + 2 + 2 + n) 4 = _
        rw [ji_put_ne _ _ _ _ (by omega), XR.ms hX (by omega) (by omega)]
      generalize jrow (jput S (x + 74 + 4 * i) 0 1) (x + 74 + 4 * i + 1) _ = S1 at c1 g0 g1 g4 ⊢
      rw [was _ c1]
      refine c_X11_lay (hM.keep c1 (by omega)) hz0 hz hi (fun c => ?_) (fun c => ?_) (fun _ n' hn' en' => ⟨rfl, ?_⟩) (fun c => absurd c (by decide)) (fun c => absurd c (by decide))
      · rcases c with c | c | c
        · exact absurd rfl c.2.1
        · exact absurd rfl (c.2 n hn)
        · exact absurd c.1 (by decide)
      · rcases c with c | c
        · exact absurd c (by decide)
        · exact absurd c (by decide)
      · obtain rfl : n = n' := nI_inj (by omega) (by omega) en'
        obtain ⟨k, hk, ek⟩ := hg.kd (i := n) (by omega)
        refine out3 _ _ _ _ c1 ⟨1, by omega, ?_, p1 _ _ _ _, fun _ => ⟨⟨k, hk, ?_, (p2 _ _ _ _).trans ek⟩, ?_⟩, fun c => absurd c (by omega), fun c => absurd c (by omega)⟩
        · rw [p3 _ _ _ _ _ (by omega), g0]; rfl
        · rw [p3 _ _ _ _ _ (by omega), g1]; exact ek
        · rw [ji_put_same, p3 _ _ _ _ _ (by omega), g1, g4]
  · subst c
    refine c_X11_lay hM hz0 hz hi (fun _ => ⟨rfl, h.inv⟩) (fun c => ?_) (fun _ n hn' en' => absurd en' (hn n hn')) (fun c => absurd c (by decide)) (fun c => absurd c (by decide))
    rcases c with c | c
    · exact absurd c (by decide)
    · exact absurd c (by decide)
  · subst c
    have no : ∀ k, k < 4 → t ≠ nI k := fun k hk e => by
      rw [e, show (4 : Int32) = nI 4 from rfl, jwi_at hk (by omega)] at c4
      exact absurd c4 (by decide)
    refine c_X11_lay hM hz0 hz hi (fun _ => ⟨rfl, h.inv⟩) (fun c => ?_) (fun c => absurd c (by decide)) (fun _ k hk e => absurd e (no k hk)) (fun _ k hk e => absurd e (no k hk))
    rcases c with c | c
    · exact absurd c (by decide)
    · exact absurd c (by decide)
  · -- a sheet
    obtain rfl : x + 66 + 2 * k = b := Option.some.inj eb
    subst c
    subst e
    obtain ⟨s6, s2, s12, s24⟩ := hC.sh k hk4
    obtain ⟨so, n, a1, a2, a3, a4, a5, a6, a7⟩ := hS k hk4
    have ms := SH1.miss (i := k) a2
    have bad : ∀ q : Prop, (((2 : Int32) ≠ 0 ∧ (2 : Int32) ≠ 1 ∧ (2 : Int32) ≠ 2 ∧ (2 : Int32) ≠ 3) ∨ ((2 : Int32) = 1 ∧ ∀ n, n < sz → nI k ≠ nI n) ∨ ((2 : Int32) = 2 ∧ jwi (nI k) 4 = 0)) → q := by
      intro q c
      rcases c with c | c | c
      · exact absurd rfl c.2.2.1
      · exact absurd c.1 (by decide)
      · rw [e1] at c; exact absurd c.2 (by decide)
    refine ⟨s6, fun c => ?_, fun c => ⟨k7, _, r2, k6, T_X6_become ⟨s6, k6, _, s2, _, r22, s12, k12, ⟨by decide, by decide, by decide, by show 0 + 24 ≤ jl S (x + 67 + 2 * k); rw [s24]; omega, by show 0 + 24 ≤ jl S (x + 74 + 4 * i + 3); rw [l24]; omega⟩, ?_⟩⟩⟩
    · rw [a3] at c
      refine c_X11_lay hM hz0 hz hi (bad _) (fun c => ?_) (fun c => absurd c (by decide)) (fun _ k' hk' e' c' => ⟨rfl, h.inv⟩) (fun _ k' hk' e' c' => ?_)
      · rcases c with c | c
        · exact absurd c (by decide)
        · exact absurd c (by decide)
      · obtain rfl : k = k' := nI_inj (by omega) (by omega) e'
        rw [a4] at c'
        exact absurd c' (ms.mp c)
    · rw [a3] at c
      rw [show Int32.toNatClampNeg 0 = 0 from rfl, show Int32.toNatClampNeg 24 = 24 from rfl]
      have c1 : jch S (jrow (jput (jput (jput S (x + 74 + 4 * i) 0 2) (x + 74 + 4 * i + 2) 0 (ji (jput S (x + 74 + 4 * i) 0 2) (x + 66 + 2 * k) 0)) (x + 74 + 4 * i + 2) 1 (ji (jput S (x + 74 + 4 * i) 0 2) (x + 66 + 2 * k) 1)) (x + 74 + 4 * i + 3) (va_cpy (ji (jput (jput (jput S (x + 74 + 4 * i) 0 2) (x + 74 + 4 * i + 2) 0 (ji (jput S (x + 74 + 4 * i) 0 2) (x + 66 + 2 * k) 0)) (x + 74 + 4 * i + 2) 1 (ji (jput S (x + 74 + 4 * i) 0 2) (x + 66 + 2 * k) 1)) (x + 67 + 2 * k)) (ji (jput (jput (jput S (x + 74 + 4 * i) 0 2) (x + 74 + 4 * i + 2) 0 (ji (jput S (x + 74 + 4 * i) 0 2) (x + 66 + 2 * k) 0)) (x + 74 + 4 * i + 2) 1 (ji (jput S (x + 74 + 4 * i) 0 2) (x + 66 + 2 * k) 1)) (x + 74 + 4 * i + 3)) 0 0 24)) (x + 74 + 4 * i) (x + 78 + 4 * i) := (((jch.put (by omega) (by omega)).trans (jch.put (by omega) (by omega))).trans (jch.put (by omega) (by omega))).trans (jch.row (by omega) (by omega))
      have g0 : ji (jrow (jput (jput (jput S (x + 74 + 4 * i) 0 2) (x + 74 + 4 * i + 2) 0 (ji (jput S (x + 74 + 4 * i) 0 2) (x + 66 + 2 * k) 0)) (x + 74 + 4 * i + 2) 1 (ji (jput S (x + 74 + 4 * i) 0 2) (x + 66 + 2 * k) 1)) (x + 74 + 4 * i + 3) (va_cpy (ji (jput (jput (jput S (x + 74 + 4 * i) 0 2) (x + 74 + 4 * i + 2) 0 (ji (jput S (x + 74 + 4 * i) 0 2) (x + 66 + 2 * k) 0)) (x + 74 + 4 * i + 2) 1 (ji (jput S (x + 74 + 4 * i) 0 2) (x + 66 + 2 * k) 1)) (x + 67 + 2 * k)) (ji (jput (jput (jput S (x + 74 + 4 * i) 0 2) (x + 74 + 4 * i + 2) 0 (ji (jput S (x + 74 + 4 * i) 0 2) (x + 66 + 2 * k) 0)) (x + 74 + 4 * i + 2) 1 (ji (jput S (x + 74 + 4 * i) 0 2) (x + 66 + 2 * k) 1)) (x + 74 + 4 * i + 3)) 0 0 24)) (x + 74 + 4 * i) 0 = 2 := by rw [ji_row_ne _ _ _ (by omega), ji_put_ne _ _ _ _ (by omega), ji_put_ne _ _ _ _ (by omega), ji_put_same]
      have g1 : ji (jrow (jput (jput (jput S (x + 74 + 4 * i) 0 2) (x + 74 + 4 * i + 2) 0 (ji (jput S (x + 74 + 4 * i) 0 2) (x + 66 + 2 * k) 0)) (x + 74 + 4 * i + 2) 1 (ji (jput S (x + 74 + 4 * i) 0 2) (x + 66 + 2 * k) 1)) (x + 74 + 4 * i + 3) (va_cpy (ji (jput (jput (jput S (x + 74 + 4 * i) 0 2) (x + 74 + 4 * i + 2) 0 (ji (jput S (x + 74 + 4 * i) 0 2) (x + 66 + 2 * k) 0)) (x + 74 + 4 * i + 2) 1 (ji (jput S (x + 74 + 4 * i) 0 2) (x + 66 + 2 * k) 1)) (x + 67 + 2 * k)) (ji (jput (jput (jput S (x + 74 + 4 * i) 0 2) (x + 74 + 4 * i + 2) 0 (ji (jput S (x + 74 + 4 * i) 0 2) (x + 66 + 2 * k) 0)) (x + 74 + 4 * i + 2) 1 (ji (jput S (x + 74 + 4 * i) 0 2) (x + 66 + 2 * k) 1)) (x + 74 + 4 * i + 3)) 0 0 24)) (x + 76 + 4 * i) 1 = nI n := by
        rw [show x + 76 + 4 * i = x + 74 + 4 * i + 2 by omega, ji_row_ne _ _ _ (by omega), ji_put_same, ji_put_ne _ _ _ _ (by omega), a5]
      have g2 : ∀ j, j < 24 → ji (jrow (jput (jput (jput S (x + 74 + 4 * i) 0 2) (x + 74 + 4 * i + 2) 0 (ji (jput S (x + 74 + 4 * i) 0 2) (x + 66 + 2 * k) 0)) (x + 74 + 4 * i + 2) 1 (ji (jput S (x + 74 + 4 * i) 0 2) (x + 66 + 2 * k) 1)) (x + 74 + 4 * i + 3) (va_cpy (ji (jput (jput (jput S (x + 74 + 4 * i) 0 2) (x + 74 + 4 * i + 2) 0 (ji (jput S (x + 74 + 4 * i) 0 2) (x + 66 + 2 * k) 0)) (x + 74 + 4 * i + 2) 1 (ji (jput S (x + 74 + 4 * i) 0 2) (x + 66 + 2 * k) 1)) (x + 67 + 2 * k)) (ji (jput (jput (jput S (x + 74 + 4 * i) 0 2) (x + 74 + 4 * i + 2) 0 (ji (jput S (x + 74 + 4 * i) 0 2) (x + 66 + 2 * k) 0)) (x + 74 + 4 * i + 2) 1 (ji (jput S (x + 74 + 4 * i) 0 2) (x + 66 + 2 * k) 1)) (x + 74 + 4 * i + 3)) 0 0 24)) (x + 77 + 4 * i) j = ji S (x + 67 + 2 * k) j := by
        intro j hj
        rw [show x + 77 + 4 * i = x + 74 + 4 * i + 3 by omega, ji_row_same, pk_cpy_in (by omega) (by omega), ji_put_ne _ _ _ _ (by omega), ji_put_ne _ _ _ _ (by omega), ji_put_ne _ _ _ _ (by omega), show 0 + (j - 0) = j by omega]
      generalize jrow (jput (jput (jput S (x + 74 + 4 * i) 0 2) (x + 74 + 4 * i + 2) 0 (ji (jput S (x + 74 + 4 * i) 0 2) (x + 66 + 2 * k) 0)) (x + 74 + 4 * i + 2) 1 (ji (jput S (x + 74 + 4 * i) 0 2) (x + 66 + 2 * k) 1)) (x + 74 + 4 * i + 3) _ = S1 at c1 g0 g1 g2 ⊢
      rw [was _ c1]
      refine c_X11_lay (hM.keep c1 (by omega)) hz0 hz hi (bad _) (fun c => ?_) (fun c => absurd c (by decide)) (fun _ k' hk' e' c' => ?_) (fun _ k' hk' e' c' S2 z1 z2 z3 z4 z5 z6 => ⟨rfl, ?_⟩)
      · rcases c with c | c
        · exact absurd c (by decide)
        · exact absurd c (by decide)
      · obtain rfl : k = k' := nI_inj (by omega) (by omega) e'
        rw [c1.2 _ (by omega), a4] at c'
        exact absurd (ms.mpr c') c
      · obtain rfl : k = k' := nI_inj (by omega) (by omega) e'
        refine out S1 S2 c1 z1 z2 z3 ⟨2, by omega, ?_, z4, fun c => absurd c (by omega), fun _ => ⟨⟨n, a1, ?_, ?_⟩, fun j hj => ?_⟩, fun c => absurd c (by omega)⟩
        · rw [z2 _ (by omega)]; exact g0
        · rw [z2 _ (by omega)]; exact g1
        · rw [z5, c1.2 _ (by omega)]; exact a6
        · rw [z2 _ (by omega), g2 j hj, z6 j hj, c1.2 _ (by omega)]; exact (a7 j hj).1
  · -- a number
    subst c
    have c1 : jch S (jput (jput S (x + 74 + 4 * i) 0 3) (x + 74 + 4 * i) 3 t) (x + 74 + 4 * i) (x + 78 + 4 * i) := (jch.put (by omega) (by omega)).trans (jch.put (by omega) (by omega))
    rw [was _ c1]
    refine c_X11_lay (hM.keep c1 (by omega)) hz0 hz hi (fun c => ?_) (fun _ => ⟨rfl, ?_⟩) (fun c => absurd c (by decide)) (fun c => absurd c (by decide)) (fun c => absurd c (by decide))
    · rcases c with c | c | c
      · exact absurd rfl c.2.2.2
      · exact absurd c.1 (by decide)
      · exact absurd c.1 (by decide)
    · refine out3 _ _ _ _ c1 ⟨3, by omega, ?_, p1 _ _ _ _, fun c => absurd c (by omega), fun c => absurd c (by omega), fun _ => ?_⟩
      · rw [p3 _ _ _ _ _ (by omega), ji_put, if_neg (by omega), ji_put_same]; rfl
      · rw [p2, p3 _ _ _ _ _ (by omega), ji_put_same]
  · refine c_X11_lay hM hz0 hz hi (fun _ => ⟨rfl, h.inv⟩) (fun c => ?_) (fun c => absurd c c1) (fun c => absurd c c2) (fun c => absurd c c2)
    rcases c with c | c
    · exact absurd c c0
    · exact absurd c c3
theorem Q_ask {w u : Int32} (h : IV S x sz M v) : jFi E mX10_ask (d + 2) 0 0 [.ref x, .int w, .int u] S (fun r S1 => jFm E mX11_ask (d + 2) (x + 94) [.int w, .int u] S1 (fun r' S2 => r = r' ∧ INV S2 x M)) := by
  obtain ⟨⟨hX, hM, hg⟩, hC, hGL, hjn, hT, hI, hS, hSl, hW, hTp⟩ := id h
  have m := hM.1
  have e6 : jisin (Int32.toInt64 u) 0 5 = jwi u 6 := jisin_wi u 6 5 rfl (jle_lt (by decide))
  refine T_X10_ask ⟨hX.1, c_X10_findSlot hC (fun c => ⟨fun _ => U_X11_ask hM.k ⟨fun _ => ⟨rfl, h.inv⟩, fun c2 => absurd ((jisslot_wi w).trans c) c2⟩, fun b e => absurd e (by simp)⟩) (fun i hi e e1 => ⟨fun c => absurd c (by simp), fun b eb => ?_⟩)⟩
  obtain rfl : x + 74 + 4 * i = b := Option.some.inj eb
  subst e
  have hs : ¬ jisslot (nI i) = 0 := by rw [jisslot_wi, e1]; decide
  obtain ⟨th, t1, t2, t3, t4, t5, t6⟩ := hSl i hi
  obtain ⟨k7, r1, r2, k2, k6, r22, k12, l24⟩ := hC.sl i hi
  have ci : Int32.toNatClampNeg (nI i) = i := jcl (by omega)
  have i5 : ∀ n, n = 5 → vp_in (nI i) n := fun n hn => by rw [hn]; exact jin_nI hi (by omega)
  have i7 := i5 _ m.r7.2.2
  have i8 := i5 _ m.r8.2.2
  have i9 := i5 _ m.r9.2.2
  have th0 : ∀ k, k < 4 → nI th = nI k → th = k := fun k hk e => nI_inj (by omega) (by omega) e
  refine ⟨fun c => U_X11_ask hM.k ⟨fun c => absurd c hs, fun _ => ⟨fun _ => ⟨rfl, h.inv⟩, fun c2 => absurd (e6.trans c) c2⟩⟩, fun c => ⟨k7, ?_⟩⟩
  have c6 : ¬ jisin (Int32.toInt64 u) 0 5 = 0 := by rw [e6]; exact c
  have ref : ∀ Q : Int32 → jM → Prop, (nI th = 0 → Q (-1000000011) S) → (¬ nI th = 0 → ¬ nI th = 1 → Q (-1000000012) S) → (nI th = 1 → jisof (ji S (x + 102) i) u = 0 → Q (-1000000012) S) → (nI th = 1 → ¬ jisof (ji S (x + 102) i) u = 0 → Q (ji S (x + 103) i) S) → jFm E mX11_ask (d + 2) (x + 94) [.int (nI i), .int u] S Q := by
    intro Q q1 q2 q3 q4
    refine U_X11_ask hM.k ⟨fun c => absurd c hs, fun _ => ⟨fun c => absurd c c6, fun _ => ⟨m.1, _, m.r7.1, m.r7.2.1, i7, ?_⟩⟩⟩
    rw [ci, t3]
    refine ⟨q1, fun n0 => ⟨fun n1 => ⟨_, m.r8.1, m.r8.2.1, i8, ?_⟩, fun n1 => q2 n0 n1⟩⟩
    exact ⟨q3 n1, fun c => ⟨_, m.r9.1, m.r9.2.1, i9, q4 n1 c⟩⟩
  rw [t2]
  refine ⟨fun n0 => ref _ (fun _ => ⟨rfl, h.inv⟩) (fun c => absurd n0 c) (fun c => absurd (n0.symm.trans c) (by decide)) (fun c => absurd (n0.symm.trans c) (by decide)), fun n0 => ⟨fun n1 => ?_, fun n1 => ref _ (fun c => absurd c n0) (fun _ _ => ⟨rfl, h.inv⟩) (fun c => absurd c n1) (fun c => absurd c n1)⟩⟩
  obtain rfl : th = 1 := th0 1 (by omega) n1
  obtain ⟨⟨k, hk, y1, y2⟩, y3⟩ := t4 rfl
  rcases jwi_cases u (b := 6) 6 rfl (by omega) with ⟨j, hj, ej, -⟩ | ⟨-, ej⟩
  · subst ej
    have y1' : ji S (x + 74 + 4 * i + 1) 0 = nI k := by rw [show x + 74 + 4 * i + 1 = x + 75 + 4 * i by omega]; exact y1
    refine ⟨_, r1, k2, c_X2_isOf k2 y1' hk hj ⟨fun c0 => ?_, fun c0 => ⟨k7, _, r1, k2, c_X2_worth k2 ?_⟩⟩⟩
    · refine ref _ (fun c => absurd c n0) (fun _ c => absurd n1 c) (fun _ _ => ⟨rfl, h.inv⟩) (fun _ c => ?_)
      rw [y2] at c; exact absurd c0 c
    · refine ref _ (fun c => absurd c n0) (fun _ c => absurd n1 c) (fun _ c => ?_) (fun _ _ => ⟨?_, h.inv⟩)
      · rw [y2] at c; exact absurd c c0
      · rw [show x + 74 + 4 * i + 1 = x + 75 + 4 * i by omega]; exact y3.symm
  · exact absurd ej c
theorem Q_item {w u : Int32} (h : IV S x sz M v) : jFi E mX10_item (d + 3) 0 0 [.ref x, .int w, .int u] S (fun r S1 => jFm E mX11_item (d + 3) (x + 94) [.int w, .int u] S1 (fun r' S2 => r = r' ∧ INV S2 x M)) := by
  obtain ⟨⟨hX, hM, hg⟩, hC, hGL, hjn, hT, hI, hS, hSl, hW, hTp⟩ := id h
  have m := hM.1
  refine T_X10_item ⟨hX.1, c_X10_findSlot hC (fun c => ⟨fun _ => U_X11_item hM.k ⟨fun _ => ⟨rfl, h.inv⟩, fun c2 => absurd ((jisslot_wi w).trans c) c2⟩, fun b e => absurd e (by simp)⟩) (fun i hi e e1 => ⟨fun c => absurd c (by simp), fun b eb => ?_⟩)⟩
  obtain rfl : x + 74 + 4 * i = b := Option.some.inj eb
  subst e
  have hs : ¬ jisslot (nI i) = 0 := by rw [jisslot_wi, e1]; decide
  obtain ⟨th, t1, t2, t3, t4, t5, t6⟩ := hSl i hi
  obtain ⟨k7, r1, r2, k2, hL⟩ := hC.sl i hi
  obtain ⟨k6, r22, k12, l24⟩ := id hL
  have ci : Int32.toNatClampNeg (nI i) = i := jcl (by omega)
  have i5 : ∀ n, n = 5 → vp_in (nI i) n := fun n hn => by rw [hn]; exact jin_nI hi (by omega)
  have i7 := i5 _ m.r7.2.2
  have i10 := i5 _ m.r10.2.2
  rw [t2]
  refine ⟨k7, fun n0 => ?_, fun n0 => ⟨fun n2 => ?_, fun n2 => ?_⟩⟩
  · refine U_X11_item hM.k ⟨fun c => absurd c hs, fun _ => ⟨m.1, _, m.r7.1, m.r7.2.1, i7, ?_⟩⟩
    rw [ci, t3]
    exact ⟨fun c => absurd (n0.symm.trans c) (by decide), fun _ => ⟨fun _ => ⟨rfl, h.inv⟩, fun c => absurd n0 c⟩⟩
  · obtain rfl : th = 2 := nI_inj (by omega) (by omega) n2
    obtain ⟨⟨n, hn, y1, y2⟩, y3⟩ := t5 rfl
    have y1' : ji S (x + 74 + 4 * i + 2) 1 = nI n := by rw [show x + 74 + 4 * i + 2 = x + 76 + 4 * i by omega]; exact y1
    have ref : ∀ Q : Int32 → jM → Prop, (jwi u (nI n) = 0 → Q (-1000000013) S) → (∀ j, j < n → u = nI j → (ji S (x + 105) (24 * i + j) = kNONE → Q (-1000000012) S) ∧ (¬ ji S (x + 105) (24 * i + j) = kNONE → Q (ji S (x + 105) (24 * i + j)) S)) → jFm E mX11_item (d + 3) (x + 94) [.int (nI i), .int u] S Q := by
      intro Q q1 q2
      refine U_X11_item hM.k ⟨fun c => absurd c hs, fun _ => ⟨m.1, _, m.r7.1, m.r7.2.1, i7, ?_⟩⟩
      rw [ci, t3]
      refine ⟨fun _ => ⟨_, m.r10.1, m.r10.2.1, i10, ?_⟩, fun c => absurd rfl c⟩
      rw [y2, jisin_sz u (by omega)]
      refine ⟨q1, fun cu => ?_⟩
      rcases jwi_cases u (b := nI n) n rfl (by omega) with ⟨j, hj, ej, -⟩ | ⟨-, ej⟩
      · subst ej
        refine ⟨_, m.r11.1, m.r11.2.1, by rw [nI_24, m.r11.2.2]; exact jin_nI (by omega) (by omega), ?_⟩
        rw [nI_24, jcl (by omega)]
        exact q2 j hj rfl
      · exact absurd ej cu
    refine ⟨_, r2, k6, c_X6_hasPlace k6 hn y1' ⟨fun cu => ref _ (fun _ => ⟨rfl, h.inv⟩) (fun j hj ej => ?_), fun cu => ?_⟩⟩
    · rw [ej, jwi_at hj (by omega)] at cu; exact absurd cu (by decide)
    · rcases jwi_cases u (b := nI n) n rfl (by omega) with ⟨j, hj, ej, -⟩ | ⟨-, ej⟩
      · subst ej
        have y3' := y3 j (by omega)
        rw [show x + 77 + 4 * i = x + 74 + 4 * i + 3 by omega] at y3'
        have one : ∀ j', nI j = nI j' → j' < n → j' = j := fun j' e hj' => (nI_inj (by omega) (by omega) e).symm
        refine ⟨k7, _, r2, k6, c_X6_isNumber (p := x + 74 + 4 * i + 3) hL hn y1' hj (fun c0 => ⟨fun _ => ref _ (fun c => absurd c cu) (fun j' hj' ej' => ?_), fun c => absurd rfl c⟩) (fun c0 => ⟨fun c => absurd c (by decide), fun _ => ⟨k7, _, r2, k6, _, r22, k12, by rw [l24]; exact jin_nI (by omega) (by omega), ?_⟩⟩)⟩
        · obtain rfl := one j' ej' hj'
          exact ⟨fun _ => ⟨rfl, h.inv⟩, fun c => absurd (y3'.symm.trans c0) c⟩
        · rw [jcl (by omega)]
          refine ref _ (fun c => absurd c cu) (fun j' hj' ej' => ?_)
          obtain rfl := one j' ej' hj'
          exact ⟨fun c => absurd (y3'.trans c) c0, fun _ => ⟨y3', h.inv⟩⟩
      · exact absurd ej cu
  · refine U_X11_item hM.k ⟨fun c => absurd c hs, fun _ => ⟨m.1, _, m.r7.1, m.r7.2.1, i7, ?_⟩⟩
    rw [ci, t3]
    exact ⟨fun c => absurd c n2, fun _ => ⟨fun c => absurd c n0, fun _ => ⟨rfl, h.inv⟩⟩⟩
theorem Q_rest {w u : Int32} (h : IV S x sz M v) : jFi E mX10_rest (d + 2) 0 0 [.ref x, .int w, .int u] S (fun r S1 => jFm E mX11_rest (d + 2) (x + 94) [.int w, .int u] S1 (fun r' S2 => r = r' ∧ INV S2 x M)) := by
  obtain ⟨⟨hX, hM, hg⟩, hC, hGL, hjn, hT, hI, hS, hSl, hW, hTp⟩ := id h
  have m := hM.1
  refine T_X10_rest ⟨hX.1, c_X10_findSlot hC (fun c => ⟨fun _ => U_X11_rest hM.k ⟨fun _ => ⟨rfl, h.inv⟩, fun c2 => absurd ((jisslot_wi w).trans c) c2⟩, fun b e => absurd e (by simp)⟩) (fun i hi e e1 => ⟨fun c => absurd c (by simp), fun b eb => ?_⟩)⟩
  obtain rfl : x + 74 + 4 * i = b := Option.some.inj eb
  subst e
  have hs : ¬ jisslot (nI i) = 0 := by rw [jisslot_wi, e1]; decide
  obtain ⟨th, t1, t2, t3, t4, t5, t6⟩ := hSl i hi
  obtain ⟨k7, r1, r2, k2, hL⟩ := hC.sl i hi
  have ci : Int32.toNatClampNeg (nI i) = i := jcl (by omega)
  have i5 : ∀ n, n = 5 → vp_in (nI i) n := fun n hn => by rw [hn]; exact jin_nI hi (by omega)
  have i7 := i5 _ m.r7.2.2
  have i8 := i5 _ m.r8.2.2
  rw [t2]
  have ref : ∀ Q : Int32 → jM → Prop, (nI th = 3 → (u = 0 → Q (-1000000002) S) ∧ (¬ u = 0 → Q (jrem (ji S (x + 102) i) u) S)) → (¬ nI th = 3 → (nI th = 0 → Q (-1000000011) S) ∧ (¬ nI th = 0 → Q (-1000000012) S)) → jFm E mX11_rest (d + 2) (x + 94) [.int (nI i), .int u] S Q := by
    intro Q q1 q2
    refine U_X11_rest hM.k ⟨fun c => absurd c hs, fun _ => ⟨m.1, _, m.r7.1, m.r7.2.1, i7, ?_⟩⟩
    rw [ci, t3]
    refine ⟨fun c => ⟨(q1 c).1, fun c2 => ⟨_, m.r8.1, m.r8.2.1, i8, c2, ?_⟩⟩, q2⟩
    exact (q1 c).2 c2
  refine ⟨k7, fun n0 => ref _ (fun c => absurd (n0.symm.trans c) (by decide)) (fun _ => ⟨fun _ => ⟨rfl, h.inv⟩, fun c => absurd n0 c⟩), fun n0 => ⟨fun n3 => ⟨fun u0 => ref _ (fun _ => ⟨fun _ => ⟨rfl, h.inv⟩, fun c => absurd u0 c⟩) (fun c => absurd n3 c), fun u0 => ⟨u0, ref _ (fun _ => ⟨fun c => absurd c u0, fun _ => ⟨?_, h.inv⟩⟩) (fun c => absurd n3 c)⟩⟩, fun n3 => ref _ (fun c => absurd c n3) (fun _ => ⟨fun c => absurd c n0, fun _ => ⟨rfl, h.inv⟩⟩)⟩⟩
  obtain rfl : th = 3 := nI_inj (by omega) (by omega) n3
  rw [t6 rfl]
end jLay
end
