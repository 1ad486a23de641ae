/-! SOONEST: the reference counts all ways through -/
theorem jcl9999 (y : Int32) : ∃ k, k < 10000 ∧ jclamp y 0 9999 = nI k := by
  rw [show jclamp y 0 9999 = (if 0 ≤ y then (if y ≤ 9999 then y else 9999) else 0) from rfl]
  by_cases h1 : (0 : Int32) ≤ y
  · rw [if_pos h1]
    by_cases h2 : y ≤ 9999
    · rw [if_pos h2]
      have hlt : y < nI 10000 := Int32.lt_of_le_of_lt h2 (by decide)
      obtain ⟨j, hj, e⟩ := jofI (x := y) (n := 10000) (by omega) h1 hlt
      exact ⟨j, hj, e⟩
    · rw [if_neg h2]; exact ⟨9999, by omega, rfl⟩
  · rw [if_neg h1]; exact ⟨0, by omega, rfl⟩
/-- what the reference changes on its ways -/
def gwf (S S' : jM) (x : Nat) : Prop := jsame S S' ∧ (∀ y, y ≠ x + 94 → y ≠ x + 95 → (y < x + 110 ∨ x + 112 ≤ y) → ji S' y = ji S y) ∧ ∀ j, (j < 15 ∨ 18 ≤ j) → ji S' (x + 94) j = ji S (x + 94) j
/-- and in all -/
def gsf (S S' : jM) (x : Nat) : Prop := jsame S S' ∧ (∀ y, y ≠ x + 94 → y ≠ x + 95 → (y < x + 106 ∨ x + 109 ≤ y) → (y < x + 110 ∨ x + 112 ≤ y) → ji S' y = ji S y) ∧ ∀ j, (j < 15 ∨ 18 ≤ j) → ji S' (x + 94) j = ji S (x + 94) j
section jSoon2
variable {E : jEnv} {d : Nat} {S S' : jM} {x sz M : Nat} {v : Nat → Int32}
theorem Rg.day2 {n : Int32} (hg : Rg sz v) : Rg sz (vday n v) := by
  intro j hj hr
  obtain ⟨a1, a2, a3, a4⟩ := vday_at n v
  by_cases j2 : j = 2
  · subst j2
    rw [a1]; exact jcl9999 _
  · by_cases j4 : j = 4
    · subst j4; rw [a2]; exact pfold_kn 10 0 _ hg.kn
    · by_cases jr : j < 26 ∨ 36 ≤ j
      · rw [a4 j j2 j4 jr]; exact hg j hj hr
      · exfalso
        have := rgb_from (j - 16) (by omega)
        rw [show 16 + (j - 16) = j by omega] at this
        exact hr this
theorem gwf.rfl : gwf S S x := ⟨jsame.rfl, fun _ _ _ _ => _root_.rfl, fun _ _ => _root_.rfl⟩
theorem gwf.trans {S1 S2 : jM} (h1 : gwf S S1 x) (h2 : gwf S1 S2 x) : gwf S S2 x := ⟨h1.1.trans h2.1, fun y a b c => (h2.2.1 y a b c).trans (h1.2.1 y a b c), fun j hj => (h2.2.2 j hj).trans (h1.2.2 j hj)⟩
theorem gsf.rfl : gsf S S x := ⟨jsame.rfl, fun _ _ _ _ _ => _root_.rfl, fun _ _ => _root_.rfl⟩
theorem gsf.trans {S1 S2 : jM} (h1 : gsf S S1 x) (h2 : gsf S1 S2 x) : gsf S S2 x := ⟨h1.1.trans h2.1, fun y a b c e => (h2.2.1 y a b c e).trans (h1.2.1 y a b c e), fun j hj => (h2.2.2 j hj).trans (h1.2.2 j hj)⟩
theorem gwf.sf (h : gwf S S' x) : gsf S S' x := ⟨h.1, fun y a b _ e => h.2.1 y a b e, h.2.2⟩
theorem gwf.row (h : jch S S' (x + 95) (x + 96)) : gwf S S' x := ⟨h.1, fun y _ b _ => h.2 y (by omega), fun j _ => by rw [h.2 _ (by omega)]⟩
theorem gsf.way (h : jch S S' (x + 106) (x + 109)) : gsf S S' x := ⟨h.1, fun y _ _ b _ => h.2 y (by omega), fun j _ => by rw [h.2 _ (by omega)]⟩
theorem gwf.fld {j : Nat} {w : Int32} (h1 : 15 ≤ j) (h2 : j < 18) : gwf S (jput S (x + 94) j w) x := ⟨⟨_root_.rfl, _root_.rfl, _root_.rfl, _root_.rfl⟩, fun y a _ _ => ji_put_ne _ _ _ _ a, fun k hk => by rw [ji_put, if_neg (by omega)]⟩
theorem MR.fld {j : Nat} {w : Int32} {u : Nat → Int32} (h : MR S (x + 94) u) : MR (jput S (x + 94) j w) (x + 94) u := ⟨h.1, fun k => by rw [ji_put_ne _ _ _ _ (by omega)]; exact h.2 k⟩
theorem ML.r12 (h : ML S (x + 94)) : jr S (x + 94) 12 = some (x + 106) ∧ jk S (x + 106) = 12 ∧ jl S (x + 106) = 36 := h.row 11 36 (f := 12) _root_.rfl
theorem ML.r13 (h : ML S (x + 94)) : jr S (x + 94) 13 = some (x + 107) ∧ jk S (x + 107) = 12 ∧ jl S (x + 107) = 135 := h.row 12 135 (f := 13) _root_.rfl
theorem ML.r14 (h : ML S (x + 94)) : jr S (x + 94) 14 = some (x + 108) ∧ jk S (x + 108) = 12 ∧ jl S (x + 108) = 4 := h.row 13 4 (f := 14) _root_.rfl
/-- one way is gone -/
theorem l_X11_goesWay {Q : Int32 → jM → Prop} {S0 : jM} {wy : Nat → Nat} (hT : TXS S0 x (x + 20) M v) (hv0 : v 0 = nI sz) (hz : sz ≤ 9) (hwy : ∀ i, i < 4 → wy i < sz ∧ ji S0 (x + 108) i = nI (wy i))
    (hq : ∀ i, i < 4 → ∀ S' u, gwf S0 S' x → MR S' (x + 94) u → (∀ j, 135 ≤ j → u j = v j) → Q (nI i) S') : ∀ (c i : Nat) (u : Nat → Int32) (x1 : Int32) (S1 : jM), i + c = 4 → gwf S0 S1 x → MR S1 (x + 94) u → Rg sz u → (∀ j, (j < 2 ∨ 36 ≤ j) → u j = v j) → L_X11_goesWay_4 E (d + 3) Q (x + 94) x1 (nI i) S1 := by
  intro c
  induction c with
  | zero =>
    intro i u x1 S1 hi g1 h1 r1 a1
    obtain rfl : i = 4 := by omega
    exact T_X11_goesWay_4 ⟨fun _ => hq 3 (by omega) S1 u g1 h1 (fun j hj => a1 j (by omega)), fun cc => absurd (by decide) cc⟩
  | succ c ih =>
    intro i u x1 S1 hi g1 h1 r1 a1
    have i4 : i < 4 := by omega
    have au : ∀ j, 135 ≤ j → u j = v j := fun j hj => a1 j (by omega)
    have m1 := h1.1
    obtain ⟨ws, ew⟩ := hwy i i4
    have w9 : wy i < 9 := by omega
    have ew1 : ji S1 (x + 108) i = nI (wy i) := by rw [g1.2.1 _ (by omega) (by omega) (by omega)]; exact ew
    have t3 := h1.at (i := 3) 3 rfl (by omega)
    obtain ⟨at_, hat, eat⟩ := r1.at_
    obtain ⟨tw, htw, etw⟩ := r1.tw w9
    refine T_X11_goesWay_4 ⟨fun cc => absurd cc (nI_ge (b := 4) (by omega) (by omega)), fun _ => ⟨m1.1, _, m1.r14.1, m1.r14.2.1, by rw [m1.r14.2.2]; exact jin_nI i4 (by omega), _, m1.r12.1, _, h1.r, h1.k1, t3.1, ?_⟩⟩
    rw [jcl (n := i) (by omega), ew1, t3.2, eat]
    refine c_X11_of (f := 1) h1 w9 (by omega) ⟨m1.r12.2.1, ?_, ?_⟩
    · rw [etw, show (6 : Int32) = nI 6 from rfl, nI_mul, nI_add, m1.r12.2.2]; exact jin_nI (by omega) (by omega)
    generalize ji S1 (x + 106) (Int32.toNatClampNeg (6 * nI at_ + mfv u (wy i) 1)) = road
    refine ⟨fun _ => hq i i4 S1 u g1 h1 au, fun _ => ⟨h1.k, c_X11_goesBy h1 r1 (fun S2 c2 h2 => ⟨h2.k, _, h2.r, ?_⟩)⟩⟩
    have r2 : Rg sz (vday road u) := r1.day2
    have a2 : ∀ j, (j < 2 ∨ 36 ≤ j) → vday road u j = v j := fun j hj => ((vday_at road u).2.2.2 j (by omega) (by omega) (by omega)).trans (a1 j hj)
    have g2 := g1.trans (gwf.row c2)
    have em2 : mfv (vday road u) (wy i) 1 = mfv u (wy i) 1 := mfv_o (fun j hj => vday_m _ _ j (by omega))
    refine c_X11_of (f := 1) h2 w9 (by omega) ⟨h2.k1, (h2.at (i := 3) 3 rfl (by omega)).1, h2.k, ?_⟩
    rw [em2]
    have h3 := h2.puts (i := 3) (w := mfv u (wy i) 1) 3 rfl (by omega)
    have c3 : jch S2 (jput S2 (x + 94 + 1) (Int32.toNatClampNeg 3) (mfv u (wy i) 1)) (x + 95) (x + 96) := jch.put (by omega) (by omega)
    have r3 : Rg sz (upd (vday road u) 3 (mfv u (wy i) 1)) := r2.put (fun _ => ⟨tw, htw, etw⟩)
    have a3 : ∀ j, (j < 2 ∨ 36 ≤ j) → upd (vday road u) 3 (mfv u (wy i) 1) j = v j := fun j hj => by rw [upd_ne _ (by omega)]; exact a2 j hj
    have g3 := g2.trans (gwf.row c3)
    generalize jput S2 (x + 94 + 1) (Int32.toNatClampNeg 3) (mfv u (wy i) 1) = S3 at h3 c3 g3 ⊢
    generalize upd (vday road u) 3 (mfv u (wy i) 1) = u3 at h3 r3 a3
    refine c_X11_canLearn h3 r3 w9 ⟨fun _ => hq i i4 S3 u3 g3 h3 (fun j hj => a3 j (by omega)), fun cc => ⟨h3.k, ?_⟩⟩
    obtain ⟨kd, hkd, ekd⟩ := r3.kd w9
    obtain ⟨g, hg10, eg⟩ := r3.ge w9
    obtain ⟨ag, hag, eag⟩ := r3.ag w9
    obtain ⟨fe, hfe, efe⟩ := r3.fe w9
    obtain ⟨kk, hkk, ekk⟩ := r3.kn
    obtain ⟨co, hco, eco⟩ := r3 5 (by omega) (by decide)
    have hfee : ∃ k, k < 10000 ∧ u3 5 - mfv u3 (wy i) 4 = nI k := by
      have hf := jcan_fee cc
      rw [eco, efe] at hf ⊢
      exact jfee hco hf hfe
    have hT3 : TXS S3 x (x + 20) M u3 := hT.same g3.1 (fun y p _ => g3.2.1 y (by omega) (by omega) (by omega)) (fun j hj _ => a3 j (by omega))
    obtain ⟨o, hL⟩ := LWD_ex (key := 0) (by omega) hT3
    obtain ⟨⟨c9, hc9⟩, ec9⟩ := jmany_le ⟨kk, hkk⟩
    have em : jmany (u3 4) = nI c9 := by rw [ekk]; exact ec9
    have tb := tdays_le (kd := kd) (ag := ag) (j := jcl99 (lwv o (3 + nI c9) (nI c9) (nI g) (nI ag))) hag (jcl99_is _).2.1
    refine c_X11_learns (o := o) h3 r3 hL w9 ekd eg eag hkd hag hg10 (by omega) em rfl hfee (fun S4 f4 o4 h4 y _ => ⟨h4.k, ?_⟩)
    have r4 : Rg sz (vle u3 (wy i) g (nI (tkd o c9 kd g ag))) := r3.le w9 hg10 (b := tkd o c9 kd g ag) rfl (Nat.lt_of_le_of_lt tb (by omega)) hfee
    have a4 : ∀ j, (j < 2 ∨ 36 ≤ j) → vle u3 (wy i) g (nI (tkd o c9 kd g ag)) j = v j := fun j hj => (vle_o hg10 (by omega)).trans (a3 j hj)
    have g4 : gwf S0 S4 x := g3.trans ⟨f4.1, fun z z1 z2 z3 => o4 z (by omega) (by omega) (by omega), fun j _ => by rw [o4 (x + 94) (by omega) (by omega) (by omega)]⟩
    generalize vle u3 (wy i) g (nI (tkd o c9 kd g ag)) = u4 at h4 r4 a4
    obtain ⟨wi, hwi, ewi⟩ := r4.wi
    refine c_X11_can h4 r4 hwi ewi ⟨fun _ => ?_, fun _ => ?_⟩
    · rw [nI_1]
      exact ih (i + 1) u4 _ S4 (by omega) g4 h4 r4 a4
    · have m4 := h4.1
      have i5 : vp_in 5 (jl S4 (x + 107)) := by rw [m4.r13.2.2]; exact jin_nI (n := 5) (by omega) (by omega)
      have j5 := (h4.at (i := 5) 5 rfl (by omega)).1
      have i0 : vp_in 0 (jl S4 (x + 108)) := by rw [m4.r14.2.2]; exact jin_nI (n := 0) (by omega) (by omega)
      have fin : ∀ a b c : Int32, Q (nI i) (jput (jput (jput S4 (x + 94) 15 a) (x + 94) 16 b) (x + 94) 17 c) := fun a b c =>
        hq i i4 _ u4 (((g4.trans (gwf.fld (by omega) (by omega))).trans (gwf.fld (by omega) (by omega))).trans (gwf.fld (by omega) (by omega))) ((h4.fld).fld).fld (fun j hj => a4 j (by omega))
      exact ⟨m4.1, _, m4.r13.1, m4.r13.2.1, i5, _, h4.r, h4.k1, j5, fun _ => ⟨_, m4.r14.1, m4.r14.2.1, i0, fin _ _ _⟩, fun _ => ⟨fun _ => ⟨_, m4.r14.1, m4.r14.2.1, i0, fin _ _ _⟩, fun _ => ⟨fun _ => ⟨fun _ => ⟨_, m4.r14.1, m4.r14.2.1, i0, fin _ _ _⟩, fun _ => ⟨fun _ => ⟨_, m4.r14.1, m4.r14.2.1, i0, fun _ => fin _ _ _, fun _ => fin _ _ _⟩, fun _ => fin _ _ _⟩⟩, fun _ => fin _ _ _⟩⟩⟩
end jSoon2
