/-! LEARN on both sides -/
section jLearn2
variable {E : jEnv} {d : Nat} {S S' : jM} {x r m sz M : Nat} {v : Nat → Int32}
theorem Rg.day {n : Int32} {b : Nat} (hg : Rg sz v) (hn : n = nI b) (hb : b < 1000000) : Rg sz (vday n v) := by
  intro j hj hr
  obtain ⟨a1, a2, a3, a4⟩ := vday_at n v
  by_cases j2 : j = 2
  · subst j2
    obtain ⟨a, ha9, e2⟩ := hg 2 (by omega) (by decide)
    rw [a1, e2, hn]; exact (jday (a := a) (b := b) ha9 hb).2
  · by_cases j4 : j = 4
    · subst j4; rw [a2]; exact pfold_kn 10 0 _ hg.kn
    · by_cases jr : j < 26 ∨ 36 ≤ j
      · rw [a4 j j2 j4 jr]; exact hg j hj hr
      · exfalso
        have := rgb_from (j - 16) (by omega)
        rw [show 16 + (j - 16) = j by omega] at this
        exact hr this
theorem c_X11_canLearn {Q : Int32 → jM → Prop} {i : Nat} (hM : MR S m v) (hg : Rg sz v) (hi : i < 9) (h : Q (jcan (v 3) (v 4) (v 5) (mfv v i 0) (mfv v i 1) (mfv v i 2) (mfv v i 3) (mfv v i 4) (mfv v i 6)) S) : jFi E mX11_canLearn (d + 2) 0 0 [.ref m, .int (nI i)] S Q := by
  obtain ⟨kn, hkn, ekn⟩ := hg.kn
  obtain ⟨g, hg10, eg⟩ := hg.ge hi
  have i3 := hM.at (i := 3) 3 rfl (by omega)
  have i4 := hM.at (i := 4) 4 rfl (by omega)
  have i5 := hM.at (i := 5) 5 rfl (by omega)
  unfold jcan at h
  refine T_X11_canLearn ⟨hM.k, c_X11_of (f := 6) hM hi (by omega) ⟨fun c6 => ⟨hM.k, c_X11_of (f := 1) hM hi (by omega) ⟨hM.k, _, hM.r, hM.k1, i3.1, ?_, ?_⟩⟩, fun c6 => ?_⟩⟩
  · rw [i3.2]
    intro c1
    rw [if_pos c1, if_pos c6] at h
    refine ⟨i4.1, ?_⟩
    rw [i4.2, ekn]
    rw [ekn] at h
    refine c_X11_teaches hM hg hi hkn ⟨fun ct => ?_, fun ct => ⟨hM.k, c_X11_of (f := 2) hM hi (by omega) ⟨hM.k, ?_⟩⟩⟩
    · rw [if_pos ct] at h; exact h
    · rw [if_neg ct] at h
      rw [eg] at h ⊢
      refine c_X11_doesKnow hM hg.kn hg10 ⟨fun ca => ⟨hM.k, c_X11_of (f := 4) hM hi (by omega) ⟨hM.k, _, hM.r, hM.k1, i5.1, ?_⟩⟩, fun ca => ?_⟩
      · rw [ekn] at ca
        rw [if_pos ca] at h
        rw [i5.2]
        refine ⟨fun cf => ?_, fun cf => ?_⟩
        · rw [if_pos cf] at h; exact h
        · rw [if_neg cf] at h; exact h
      · rw [ekn] at ca
        rw [if_neg ca] at h; exact h
  · rw [i3.2]
    intro c1
    rw [if_neg c1] at h; exact h
  · by_cases c1 : mfv v i 1 = v 3
    · rw [if_pos c1, if_neg c6] at h; exact h
    · rw [if_neg c1] at h; exact h
/-- what one knows behind a lesson -/
def jbl (kd ba g kn : Int32) : Int32 := (kn &&& (junl kd ba ^^^ (-1))) ||| jshl 1 g
theorem c_X11_behindLesson {Q : Int32 → jM → Prop} {i : Nat} {kn : Int32} (hM : MR S m v) (hi : i < 9) (h : Q (jbl (mfv v i 0) (mfv v i 3) (mfv v i 2) kn) S) : jFi E mX11_behindLesson (d + 1) 0 0 [.ref m, .int (nI i), .int kn] S Q := by
  unfold jbl junl at h
  refine T_X11_behindLesson ⟨hM.k, c_X11_of (f := 0) hM hi (by omega) ⟨fun c => ⟨hM.k, c_X11_of (f := 3) hM hi (by omega) ⟨hM.k, c_X11_of (f := 2) hM hi (by omega) ?_⟩⟩, fun c => ⟨hM.k, c_X11_of (f := 2) hM hi (by omega) ?_⟩⟩⟩
  · rw [if_pos c] at h; exact h
  · rw [if_neg c, show (0 : Int32) ^^^ (-1) = -1 by decide, j_and_m1] at h; exact h
/-- the row behind a lesson of n days -/
def vle (v : Nat → Int32) (i g : Nat) (n : Int32) : Nat → Int32 := upd (upd (upd (vday n (upd v 5 (v 5 - mfv v i 4))) 4 (jbl (mfv v i 0) (mfv v i 3) (nI g) (vday n (upd v 5 (v 5 - mfv v i 4)) 4))) (16 + g) (nI i)) (26 + g) 0
theorem mfv_o {u : Nat → Int32} {i f : Nat} (h : ∀ j, 72 ≤ j → u j = v j) : mfv u i f = mfv v i f := h _ (by omega)
theorem vday_m (n : Int32) (u : Nat → Int32) (j : Nat) (h : 36 ≤ j) : vday n u j = u j := (vday_at n u).2.2.2 j (by omega) (by omega) (by omega)
/-- the reference learns -/
theorem c_X11_learns {Q : Int32 → jM → Prop} {o : lwt} {i g c9 kd ag : Nat} (hM : MR S m v) (hg : Rg sz v) (hL : LWD S x r v 0 o) (hi : i < 9) (e0 : mfv v i 0 = nI kd) (e2 : mfv v i 2 = nI g) (e5 : mfv v i 5 = nI ag) (hkd : kd < 6) (hag : ag < 100) (hg10 : g < 10) (h9 : c9 < 25) (ec9 : jmany (v 4) = nI c9) (hx : x + 94 = m) (hfe : ∃ k, k < 10000 ∧ v 5 - mfv v i 4 = nI k)
    (h : ∀ S', jfq S S' x → (∀ y, y ≠ m + 1 → y ≠ m + 16 → y ≠ m + 17 → ji S' y = ji S y) → MR S' m (vle v i g (nI (tkd o c9 kd g ag))) → Q (nI (tkd o c9 kd g ag)) S') : jFi E mX11_learns (d + 3) 0 0 [.ref m, .int (nI i)] S Q := by
  subst hx
  have i5 := hM.at (i := 5) 5 rfl (by omega)
  have n5 : Int32.toNatClampNeg 5 = 5 := rfl
  have n4 : Int32.toNatClampNeg 4 = 4 := rfl
  refine T_X11_learns ⟨hM.k, _, hM.r, hM.k1, i5.1, c_X11_of (f := 4) hM hi (by omega) ⟨hM.k1, i5.1, hM.k, _, hM.r, hM.k1, (hM.at (i := 4) 4 rfl (by omega)).1, ?_⟩⟩
  rw [i5.2]
  have h1 := hM.puts (i := 5) (w := v 5 - mfv v i 4) 5 rfl (by omega)
  rw [(h1.at (i := 4) 4 rfl (by omega)).2, upd_ne _ (by omega), ec9, n5]
  rw [n5] at h1
  have c1 : jch S (jput S (x + 94 + 1) 5 (v 5 - mfv v i 4)) (x + 95) (x + 96) := jch.put (by omega) (by omega)
  generalize jput S (x + 94 + 1) 5 (v 5 - mfv v i 4) = S1 at h1 c1 ⊢
  have hu : ∀ j, 72 ≤ j → upd v 5 (v 5 - mfv v i 4) j = v j := fun j hj => upd_ne _ (by omega)
  have hL1 : LWD S1 x r (upd v 5 (v 5 - mfv v i 4)) 0 o := (hL.keep (jfq.of (jfr.row c1))).row (fun j hj _ => upd_ne _ (by omega))
  refine c_X11_takes (o := o) h1 hL1 hi ((mfv_o hu).trans e0) ((mfv_o hu).trans e2) ((mfv_o hu).trans e5) hkd hag h9 (fun S2 c2 h2 => ⟨h2.k, ?_⟩)
  have hg1 : Rg sz (upd v 5 (v 5 - mfv v i 4)) := hg.put (fun _ => hfe)
  refine c_X11_goesBy h2 hg1 (fun S3 c3 h3 => ⟨h3.k, ?_⟩)
  have hu3 : ∀ j, 72 ≤ j → vday (nI (tkd o c9 kd g ag)) (upd v 5 (v 5 - mfv v i 4)) j = v j := fun j hj => (vday_m _ _ j (by omega)).trans (hu j hj)
  have i4 := h3.at (i := 4) 4 rfl (by omega)
  refine c_X11_of (f := 2) h3 hi (by omega) ⟨h3.k, _, h3.r, h3.k1, i4.1, ?_⟩
  rw [i4.2, mfv_o hu3, e2]
  refine c_X11_behindLesson h3 hi ⟨h3.k1, i4.1, h3.k, _, h3.r, h3.k1, ?_⟩
  rw [mfv_o hu3, mfv_o hu3, mfv_o hu3, e2]
  have e16 : (16 : Int32) + nI g = nI (16 + g) := nI_add 16 g
  have e26 : (26 : Int32) + nI g = nI (26 + g) := nI_add 26 g
  refine ⟨(h3.at _ e16 (by omega)).1, (h3.at _ e26 (by omega)).1, ?_⟩
  have h4 := ((h3.puts (i := 4) (w := jbl (mfv v i 0) (mfv v i 3) (nI g) (vday (nI (tkd o c9 kd g ag)) (upd v 5 (v 5 - mfv v i 4)) 4)) 4 rfl (by omega)).puts (w := nI i) (16 + g) e16 (by omega)).puts (w := 0) (26 + g) e26 (by omega)
  have cp : ∀ {S9 : jM} {j : Nat} {w : Int32}, jch S9 (jput S9 (x + 94 + 1) j w) (x + 95) (x + 96) := jch.put (by omega) (by omega)
  refine h _ (((((jfq.of (jfr.row c1)).trans c2.fq97).trans (jfq.of (jfr.row c3))).trans (jfq.of (jfr.row cp))).trans ((jfq.of (jfr.row cp)).trans (jfq.of (jfr.row cp)))) (fun y y1 y16 y17 => ?_) h4
  rw [ji_put_ne _ _ _ _ (by omega), ji_put_ne _ _ _ _ (by omega), ji_put_ne _ _ _ _ (by omega), c3.2 y (by omega), c2.2 y (by omega), c1.2 y (by omega)]
theorem jclub {g : Nat} {kd ba kn : Int32} (hg : g < 10) (hk : ∃ k, k < 1024 ∧ kn = nI k) : ∃ k, k < 1024 ∧ jbl kd ba (nI g) kn = nI k := by
  obtain ⟨k, hk, rfl⟩ := hk
  obtain ⟨k2, hk2, e2⟩ := nI_andle hk (junl kd ba ^^^ (-1))
  obtain ⟨⟨k3, hk3⟩, e3⟩ := jorF ⟨k2, hk2⟩ ⟨g, hg⟩
  refine ⟨k3, hk3, ?_⟩
  unfold jbl
  rw [e2]; exact e3
theorem vle_o {i g : Nat} {n : Int32} {j : Nat} (hg : g < 10) (h : j < 2 ∨ 36 ≤ j ∨ (7 ≤ j ∧ j < 16)) : vle v i g n j = v j := by
  unfold vle
  rw [upd_ne _ (by omega), upd_ne _ (by omega), upd_ne _ (by omega), (vday_at _ _).2.2.2 j (by omega) (by omega) (by omega), upd_ne _ (by omega)]
theorem Rg.le {i g : Nat} {n : Int32} {b : Nat} (hg : Rg sz v) (hi : i < 9) (hg10 : g < 10) (hn : n = nI b) (hb : b < 1000000) (hfe : ∃ k, k < 10000 ∧ v 5 - mfv v i 4 = nI k) : Rg sz (vle v i g n) := by
  have g1 : Rg sz (vday n (upd v 5 (v 5 - mfv v i 4))) := (hg.put (n := 5) (fun _ => hfe)).day hn hb
  unfold vle
  exact (((g1.put (n := 4) (fun _ => jclub hg10 g1.kn)).put (n := 16 + g) (fun c => absurd (rgb_from g (by omega)) c)).put (n := 26 + g) (fun c => absurd (by rw [show 26 + g = 16 + (10 + g) by omega]; exact rgb_from _ (by omega)) c))
/-- the class's learner behind a lesson -/
theorem XR.le {i g : Nat} {n : Int32} {b : Nat} (hX : XR S x sz v) (hg : Rg sz v) (hi : i < 9) (hg10 : g < 10) (hn : n = nI b) (hb : b < 1000000) (hc : jch S S' (x + 16) (x + 19))
    (hl : LdR S' (x + 16) (v 3) (((pdays n (v 6) (v 4, fun i => v (26 + i))).1 &&& (junl (mfv v i 0) (mfv v i 3) ^^^ (-1))) ||| jshl 1 (nI g)) (v 5 - mfv v i 4) (v 6) (jmin 9999 (v 2 + n)) (upd (fun i => v (16 + i)) g (nI i)) (upd (pdays n (v 6) (v 4, fun i => v (26 + i))).2 g 0)) : XR S' x sz (vle v i g n) := by
  obtain ⟨a1, a2, a3, a4⟩ := vday_at n (upd v 5 (v 5 - mfv v i 4))
  have eu : (fun i_1 => upd v 5 (v 5 - mfv v i 4) (26 + i_1)) = fun i => v (26 + i) := by funext j; exact upd_ne _ (by omega)
  rw [eu, upd_ne _ (by omega), upd_ne _ (by omega)] at a2 a3
  rw [upd_ne _ (by omega)] at a1
  obtain ⟨da, hda, e2⟩ := hg 2 (by omega) (by decide)
  have hd := (jday (a := da) (b := b) hda hb).1
  rw [← e2, ← hn] at hd
  refine hX.lear hc ?_ (fun j p1 p2 => vle_o hg10 (by omega))
  have v3 : vle v i g n 3 = v 3 := by
    unfold vle; rw [upd_ne _ (by omega), upd_ne _ (by omega), upd_ne _ (by omega), a4 3 (by omega) (by omega) (by omega), upd_ne _ (by omega)]
  have v4 : vle v i g n 4 = ((pdays n (v 6) (v 4, fun i => v (26 + i))).1 &&& (junl (mfv v i 0) (mfv v i 3) ^^^ (-1))) ||| jshl 1 (nI g) := by
    unfold vle; rw [upd_ne _ (by omega), upd_ne _ (by omega), upd_at, a2]; rfl
  have v5 : vle v i g n 5 = v 5 - mfv v i 4 := by
    unfold vle; rw [upd_ne _ (by omega), upd_ne _ (by omega), upd_ne _ (by omega), a4 5 (by omega) (by omega) (by omega), upd_at]
  have v6 : vle v i g n 6 = v 6 := by
    unfold vle; rw [upd_ne _ (by omega), upd_ne _ (by omega), upd_ne _ (by omega), a4 6 (by omega) (by omega) (by omega), upd_ne _ (by omega)]
  have v2 : vle v i g n 2 = jmin 9999 (v 2 + n) := by
    unfold vle; rw [upd_ne _ (by omega), upd_ne _ (by omega), upd_ne _ (by omega), a1, hd]
  rw [v3, v4, v5, v6, v2]
  refine hl.cong (fun j hj => ?_) (fun j hj => ?_)
  · by_cases hjg : j = g
    · subst hjg
      have e : vle v i j n (16 + j) = nI i := by unfold vle; rw [upd_ne _ (by omega), upd_at]
      rw [e]; unfold upd; rw [if_pos rfl]
    · have e : vle v i g n (16 + j) = v (16 + j) := by unfold vle; rw [upd_ne _ (by omega), upd_ne _ (by omega), upd_ne _ (by omega), a4 _ (by omega) (by omega) (by omega), upd_ne _ (by omega)]
      rw [e]; unfold upd; rw [if_neg hjg]
  · by_cases hjg : j = g
    · subst hjg
      have e : vle v i j n (26 + j) = 0 := by unfold vle; rw [upd_at]
      rw [e]; unfold upd; rw [if_pos rfl]
    · have e : vle v i g n (26 + j) = (pdays n (v 6) (v 4, fun i => v (26 + i))).2 j := by unfold vle; rw [upd_ne _ (by omega), upd_ne _ (by omega), upd_ne _ (by omega), a3 j hj]
      rw [e]; unfold upd; rw [if_neg hjg]
theorem jcan_fee {at_ kn co tk tt tg tb tf td : Int32} (h : ¬ jcan at_ kn co tk tt tg tb tf td = 0) : ¬ co < tf := by
  intro hc
  apply h
  unfold jcan
  repeat' split
  all_goals first | rfl | contradiction
theorem jfee {c f : Nat} (hc : c < 10000) (h : ¬ nI c < nI f) (hf : f < 100) : ∃ k, k < 10000 ∧ nI c - nI f = nI k := by
  have hle : f ≤ c := by
    rcases Nat.lt_or_ge c f with h9 | h9
    · exact absurd (nI_lt h9 (by omega)) h
    · exact h9
  refine ⟨c - f, by omega, ?_⟩
  have e : nI c = nI f + nI (c - f) := by rw [nI_add]; congr 1; omega
  rw [e, Int32.add_comm, Int32.add_sub_cancel]
theorem Q_learn {w : Int32} (h : IV S x sz M v) : jFi E mX10_learn (d + 5) 0 0 [.ref x, .int w] S (fun r S1 => jFm E mX11_learn (d + 4) (x + 94) [.int w] S1 (fun r' S2 => r = r' ∧ INV S2 x M)) := by
  obtain ⟨hX, hM, hg⟩ := id h.1
  have hz := hX.sz9
  refine T_X10_learn ⟨hX.1, x + 1, hX.2.1, hX.k3, x + 2, hX.r0, hX.g.1.1, c_X0_find hX.g.1 hX.g.2.1 hz (fun i hn e => ⟨fun c => absurd c (by simp), fun b eb => ?_⟩) (fun hno => ⟨fun _ => ?_, fun b e => absurd e (by simp)⟩)⟩
  · obtain rfl : x + 2 + 2 + i = b := Option.some.inj eb
    subst e
    have n9 : i < 9 := by omega
    have k2 := hX.mk n9
    have ism : ∀ {Q : Int32 → jM → Prop} {S1 : jM}, MR S1 (x + 94) v → Q 1 S1 → jFi E mX11_isMaster (d + 3) 0 0 [.ref (x + 94), .int (nI i)] S1 Q := fun hM1 hq => c_X11_isMaster hM1 hX.v0 hz (fun _ _ _ => hq) (fun hh => absurd rfl (hh i hn))
    refine ⟨hX.1, x + 1, hX.2.1, hX.k3, x + 16, hX.r2, hX.l.1.1, c_X1_canLearnOf hX.l k2 ?_⟩
    rw [hX.ms n9 (by omega), hX.ms n9 (by omega), hX.ms n9 (by omega), hX.ms n9 (by omega), hX.ms n9 (by omega), hX.ms n9 (by omega)]
    refine ⟨fun c => ?_, fun c => ?_⟩
    · exact U_X11_learn hM.k ⟨hM.k, ism hM ⟨fun c => absurd c (by decide), fun _ => ⟨hM.k, c_X11_canLearn hM hg n9 ⟨fun _ => ⟨rfl, h.inv⟩, fun c2 => absurd c c2⟩⟩⟩⟩
    · obtain ⟨kd, hkd, ekd⟩ := hg.kd n9
      obtain ⟨g, hg10, eg⟩ := hg.ge n9
      obtain ⟨ag, hag, eag⟩ := hg.ag n9
      obtain ⟨fe, hfe, efe⟩ := hg.fe n9
      obtain ⟨kk, hkk, ekk⟩ := hg.kn
      obtain ⟨co, hco, eco⟩ := hg 5 (by omega) (by decide)
      have hfee : ∃ k, k < 10000 ∧ v 5 - mfv v i 4 = nI k := by
        have hf := jcan_fee c
        rw [eco, efe] at hf ⊢
        exact jfee hco hf hfe
      obtain ⟨o, hL⟩ := LWD_ex (key := 0) (by omega) h.2.2.2.2.1
      obtain ⟨⟨c9, hc9⟩, ec9⟩ := jmany_le ⟨kk, hkk⟩
      have em : jmany (v 4) = nI c9 := by rw [ekk]; exact ec9
      have ec : jbc (ji S (x + 16) 1) = nI c9 := by rw [hX.l.2.2.1, ekk, jbm hkk]; exact ec9
      refine ⟨hX.1, x + 1, hX.2.1, hX.l.1.1, hX.k3, ?_⟩
      rw [ec]
      refine c_X3_daysTaken (M := M) hX.2.2 h.2.2.2.2.1 hL k2 (by omega) ((hX.ms n9 (by omega)).trans ekd) ((hX.ms n9 (by omega)).trans eg) ((hX.ms n9 (by omega)).trans eag) hkd hag (fun S1 p1 => ?_)
      have hP1 := p1.pi h.1
      have hX1 := hP1.1
      refine ⟨hX1.l.1.1, c_X1_learnOf hX1.l (hX1.mk n9) (by omega) hg10 ((hX1.ms n9 (by omega)).trans eg) (fun S2 c2 l2 => ?_)⟩
      rw [hX1.ms n9 (by omega), hX1.ms n9 (by omega), hX1.ms n9 (by omega)] at l2
      have tb := tdays_le (kd := kd) (ag := ag) (j := jcl99 (lwv o (3 + nI c9) (nI c9) (nI g) (nI ag))) hag (jcl99_is _).2.1
      have h2 : XR S2 x sz (vle v i g (nI (tkd o c9 kd g ag))) := hX1.le hg n9 hg10 (b := tkd o c9 kd g ag) rfl (Nat.lt_of_le_of_lt tb (by omega)) c2 l2
      have g2 : Rg sz (vle v i g (nI (tkd o c9 kd g ag))) := hg.le n9 hg10 (b := tkd o c9 kd g ag) rfl (Nat.lt_of_le_of_lt tb (by omega)) hfee
      refine ⟨h2.l.1.1, ?_⟩
      rw [h2.l.2.2.1]
      have hM2 := hP1.2.1.keep c2 (by omega)
      have f2 : jfq S S2 x := p1.fq.trans (jfq.of (jfr.realm c2 (by omega) (by omega)))
      refine U_X11_learn hM2.k ⟨hM2.k, ism hM2 ⟨fun c => absurd c (by decide), fun _ => ⟨hM2.k, c_X11_canLearn hM2 hg n9 ⟨fun c2 => absurd c2 c, fun _ => ⟨hM2.k, ?_⟩⟩⟩⟩⟩
      refine c_X11_learns (o := o) hM2 hg (hL.keep f2) n9 ekd eg eag hkd hag hg10 (by omega) em rfl hfee (fun S3 f3 o3 h3 => ?_)
      have i4 := h3.at (i := 4) 4 rfl (by omega)
      refine ⟨h3.k, _, h3.r, h3.k1, i4.1, ?_⟩
      rw [i4.2]
      refine ⟨rfl, sz, _, h.next (f2.trans f3) ⟨h2.of f3.1 (h2.2.2.grow (fun y p q => ⟨by rw [f3.1.1], by rw [f3.1.2.1], o3 y (by omega) (by omega) (by omega), by rw [f3.1.2.2.1]⟩)), h3, g2⟩ (fun j hj _ => vle_o hg10 (by omega))⟩
  · exact U_X11_learn hM.k ⟨hM.k, c_X11_isMaster hM hX.v0 hz (fun j hj e => absurd e (hno j hj)) (fun _ => ⟨fun _ => ⟨rfl, h.inv⟩, fun c => absurd rfl c⟩)⟩
end jLearn2
