section
/-! CUT on both sides -/
theorem i32sub {a b : Int32} (h1 : -2147483648 ≤ a.toInt - b.toInt) (h2 : a.toInt - b.toInt < 2147483648) : (a - b).toInt = a.toInt - b.toInt := by
  rw [Int32.toInt_sub]
  exact Int.bmod_eq_of_le (by omega) (by omega)
/-- how far a number of days is from a number of the sheet -/
def apn (t : Nat) (y : Int32) : Nat := Int.natAbs ((t : Int) - y.toInt)
theorem apn_is {t : Nat} {y : Int32} (ht : t ≤ 207) (hy : -99999 ≤ y ∧ y ≤ 99999) : jabs (nI t - y) = nI (apn t y) ∧ joff y (nI t) = nI (apn t y) ∧ apn t y ≤ 100206 := by
  obtain ⟨y1, y2⟩ := hy
  rw [Int32.le_iff_toInt_le] at y1 y2
  have f1 : (-99999 : Int32).toInt = -99999 := by decide
  have f2 : (99999 : Int32).toInt = 99999 := by decide
  have f0 : (0 : Int32).toInt = 0 := by decide
  rw [f1] at y1
  rw [f2] at y2
  have et : (nI t).toInt = (t : Int) := nI_toInt (by omega)
  have e1 : (nI t - y).toInt = (t : Int) - y.toInt := by rw [i32sub (by omega) (by omega), et]
  have e2 : (y - nI t).toInt = y.toInt - (t : Int) := by rw [i32sub (by omega) (by omega), et]
  have e3 : (0 - (nI t - y)).toInt = y.toInt - (t : Int) := by rw [i32sub (by omega) (by omega), e1, f0]; omega
  have hb : apn t y ≤ 100206 := by unfold apn; omega
  have en : (nI (apn t y)).toInt = (apn t y : Int) := nI_toInt (by omega)
  refine ⟨?_, ?_, hb⟩
  · apply Int32.toInt_inj.mp
    rw [en]
    unfold jabs apn
    by_cases c : 0 ≤ nI t - y
    · rw [if_pos c, e1]
      rw [Int32.le_iff_toInt_le, e1, f0] at c
      omega
    · rw [if_neg c, e3]
      rw [Int32.le_iff_toInt_le, e1, f0] at c
      omega
  · apply Int32.toInt_inj.mp
    rw [en]
    unfold joff apn
    by_cases c : nI t ≤ y
    · rw [if_pos c, e2]
      rw [Int32.le_iff_toInt_le, et] at c
      omega
    · rw [if_neg c, e1]
      rw [Int32.le_iff_toInt_le, et] at c
      omega
def aps (f : Nat → Nat) : Nat → Nat → Nat → Nat
  | 0, _, a => a
  | n + 1, k, a => aps f n (k + 1) (a + f k)
theorem aps_le {f : Nat → Nat} {b : Nat} (hf : ∀ k, f k ≤ b) : ∀ (n k a : Nat), aps f n k a ≤ a + n * b
  | 0, _, a => by show a ≤ a + 0 * b; omega
  | n + 1, k, a => by
    have := aps_le hf n (k + 1) (a + f k)
    have := hf k
    show aps f n (k + 1) (a + f k) ≤ a + (n + 1) * b
    have e : (n + 1) * b = n * b + b := Nat.succ_mul n b
    omega
/-- the best, and how far -/
def cbst (A : Nat → Nat) : Nat → Nat → Option (Nat × Nat) → Option (Nat × Nat)
  | 0, _, o => o
  | c + 1, i, none => cbst A c (i + 1) (some (i, A i))
  | c + 1, i, some (b, l) => cbst A c (i + 1) (if A i < l then some (i, A i) else some (b, l))
def cans (o : Option (Nat × Nat)) (u : Int32) : Int32 := match o with
  | none => kNONE
  | some (b, l) => if u = 0 then nI b else nI l
section jCut
variable {E : jEnv} {d : Nat} {S S' : jM} {x sz M : Nat} {v : Nat → Int32}
theorem IV.pil {S1 : jM} (h : IV S x sz M v) (p : jpi S S1 x) : IV S1 x sz M v := h.next p.fq (p.pi h.1) (fun _ _ _ => rfl)
theorem tkd_le {o : lwt} {k kd tg ag : Nat} (ha : ag < 100) : tkd o k kd tg ag ≤ 207 := tdays_le ha (jcl99_is _).2.1
theorem c_X3_apart {Q : Int32 → jM → Prop} {o : lwt} {i n j kd tg ag : Nat} {F : Nat → Nat} (h : IV S x sz M v) (hi : i < 4) (hn : n ≤ 24) (e1 : ji S (x + 66 + 2 * i) 1 = nI n) (hy : ∀ k, k < 24 → jpl (ji S (x + 67 + 2 * i) k)) (hL : LWD S x (x + 20) v 0 o) (hj : j < 9) (e0 : mfv v j 0 = nI kd) (e2 : mfv v j 2 = nI tg) (e5 : mfv v j 5 = nI ag) (hkd : kd < 6) (hag : ag < 100)
    (hF : ∀ k, k < n → F k = if ji S (x + 67 + 2 * i) k = kNONE then 0 else apn (tkd o k kd tg ag) (ji S (x + 67 + 2 * i) k)) (hq : ∀ S', jpi S S' x → Q (nI (aps F n 0 0)) S') : jFi E mX3_apart (d + 4) 0 0 [.ref (x + 1), .ref (x + 2 + 2 + j), .ref (x + 66 + 2 * i)] S Q := by
  have key : ∀ (c k a : Nat) (S1 : jM), k + c = n → jpi S S1 x → (∀ S', jpi S S' x → Q (nI (aps F c k a)) S') → L_X3_apart_5 E (d + 3) Q (x + 1) (x + 2 + 2 + j) (x + 66 + 2 * i) (nI a) (nI k) S1 := by
    intro c
    induction c with
    | zero =>
      intro k a S1 hk p1 hq1
      obtain rfl : k = n := by omega
      have hC1 := (h.pil p1).2.1
      refine T_X3_apart_5 ⟨(hC1.sh i hi).1, ?_⟩
      rw [p1.2 _ (by omega), e1]
      exact ⟨fun _ => hq1 S1 p1, fun cc => absurd Int32.le_rfl cc⟩
    | succ c ih =>
      intro k a S1 hk p1 hq1
      have h1 := h.pil p1
      have hC1 := h1.2.1
      have hX1 := h1.1.1
      have hs := hC1.sh i hi
      have e1' : ji S1 (x + 66 + 2 * i) 1 = nI n := by rw [p1.2 _ (by omega)]; exact e1
      have y1 : ji S1 (x + 67 + 2 * i) = ji S (x + 67 + 2 * i) := p1.2 _ (by omega)
      refine T_X3_apart_5 ⟨hs.1, ?_⟩
      rw [e1']
      refine ⟨fun cc => absurd cc (nI_ge (by omega) (by omega)), fun _ => c_X6_isNumber hs hn e1' (by omega) (fun c0 => ⟨fun _ => ?_, fun cc => absurd rfl cc⟩) (fun c0 => ⟨fun cc => absurd cc (by decide), fun _ => ⟨hX1.k3, ?_⟩⟩)⟩
      · rw [nI_1]
        rw [y1] at c0
        refine ih (k + 1) a S1 (by omega) p1 (fun S' p' => ?_)
        have e : aps F (c + 1) k a = aps F c (k + 1) a := by
          show aps F c (k + 1) (a + F k) = _
          rw [hF k (by omega), if_pos c0]; rfl
        rw [← e]; exact hq1 S' p'
      · rw [y1] at c0
        refine c_X3_daysTaken (M := M) hX1.2.2 h1.2.2.2.2.1 (hL.keep p1.fq) (hX1.mk hj) (by omega) ((hX1.ms hj (by omega)).trans e0) ((hX1.ms hj (by omega)).trans e2) ((hX1.ms hj (by omega)).trans e5) hkd hag (fun S2 p2 => ?_)
        have p12 := p1.trans p2
        have hs2 := (h.pil p12).2.1.sh i hi
        refine ⟨hs2.1, _, hs2.2.1, hs2.2.2.1, by rw [hs2.2.2.2]; exact jin_nI (by omega) (by omega), ?_⟩
        rw [nI_1, jcl (by omega), p12.2 (x + 67 + 2 * i) (by omega)]
        have hyk : -99999 ≤ ji S (x + 67 + 2 * i) k ∧ ji S (x + 67 + 2 * i) k ≤ 99999 := (hy k (by omega)).elim (fun q => absurd q c0) id
        rw [(apn_is (tkd_le hag) hyk).1, nI_add]
        refine ih (k + 1) _ S2 (by omega) p12 (fun S' p' => ?_)
        have e : aps F (c + 1) k a = aps F c (k + 1) (a + apn (tkd o k kd tg ag) (ji S (x + 67 + 2 * i) k)) := by
          show aps F c (k + 1) (a + F k) = _
          rw [hF k (by omega), if_neg c0]
        rw [← e]; exact hq1 S' p'
  exact T_X3_apart (key n 0 0 S (by omega) jpi.rfl hq)
theorem Q_cut {w u : Int32} (h : IV S x sz M v) : jFi E mX10_cut (d + 5) 0 0 [.ref x, .int w, .int u] S (fun r S1 => jFm E mX11_cut (d + 3) (x + 94) [.int w, .int u] S1 (fun r' S2 => r = r' ∧ INV S2 x M)) := by
  obtain ⟨⟨hX, hM, hg⟩, hC, hGL, hjn, hT, hI, hS, hSl, hW, hTp⟩ := id h
  have m := hM.1
  have hz := hX.sz9
  have eu : jisin (Int32.toInt64 u) 0 1 = jwi u 2 := jisin_wi u 2 1 rfl (jle_lt (by decide))
  refine T_X10_cut ⟨hX.1, c_X10_findSheet hC (fun c => ⟨fun _ => U_X11_cut m.1 ⟨fun _ => ⟨rfl, h.inv⟩, fun c2 => absurd ((jissheet_wi w).trans c) c2⟩, fun b e => absurd e (by simp)⟩) (fun i hi e e1 => ⟨fun c => absurd c (by simp), fun b eb => ?_⟩)⟩
  obtain rfl : x + 66 + 2 * i = b := Option.some.inj eb
  subst e
  have hs1 : ¬ jissheet (nI i) = 0 := by rw [jissheet_wi, e1]; decide
  obtain ⟨k6, r2, k12, l24⟩ := hC.sh i hi
  obtain ⟨so, n, a1, a2, a3, a4, a5, a6, a7⟩ := hS i hi
  have ms := SH1.miss (i := i) a2
  have ci : Int32.toNatClampNeg (nI i) = i := jcl (by omega)
  refine ⟨fun c => U_X11_cut m.1 ⟨fun c => absurd c hs1, fun _ => ⟨fun _ => ⟨rfl, h.inv⟩, fun c2 => absurd (eu.trans c) c2⟩⟩, fun cu => ⟨k6, ?_⟩⟩
  have cu' : ¬ jisin (Int32.toInt64 u) 0 1 = 0 := by rw [eu]; exact cu
  rw [a3]
  refine ⟨fun c => U_X11_cut m.1 ⟨fun c => absurd c hs1, fun _ => ⟨fun c => absurd c cu', fun _ => ⟨m.1, _, m.r4.1, m.r4.2.1, by rw [m.r4.2.2]; exact jin_nI hi (by omega), fun c0 => absurd c0 (by rw [ci, a4]; exact ms.mp c), fun _ => ⟨rfl, h.inv⟩⟩⟩⟩, fun c => ?_⟩
  obtain ⟨o, hL⟩ := LWD_ex (key := 0) (by omega) hT
  -- the masters' numbers
  obtain ⟨kd, hkd⟩ := Classical.axiomOfChoice (r := fun (j : Nat) (k : Nat) => j < 9 → k < 6 ∧ mfv v j 0 = nI k) (fun j => (Classical.em (j < 9)).elim (fun hj => (hg.kd hj).elim (fun k hk => ⟨k, fun _ => hk⟩)) (fun hj => ⟨0, fun q => absurd q hj⟩))
  obtain ⟨tg, htg⟩ := Classical.axiomOfChoice (r := fun (j : Nat) (k : Nat) => j < 9 → k < 10 ∧ mfv v j 2 = nI k) (fun j => (Classical.em (j < 9)).elim (fun hj => (hg.ge hj).elim (fun k hk => ⟨k, fun _ => hk⟩)) (fun hj => ⟨0, fun q => absurd q hj⟩))
  obtain ⟨ag, hag⟩ := Classical.axiomOfChoice (r := fun (j : Nat) (k : Nat) => j < 9 → k < 100 ∧ mfv v j 5 = nI k) (fun j => (Classical.em (j < 9)).elim (fun hj => (hg.ag hj).elim (fun k hk => ⟨k, fun _ => hk⟩)) (fun hj => ⟨0, fun q => absurd q hj⟩))
  obtain ⟨F, hF⟩ : ∃ F : Nat → Nat → Nat, ∀ j k, F j k = if k < 24 then (if ji S (x + 67 + 2 * i) k = kNONE then 0 else apn (tkd o k (kd j) (tg j) (ag j)) (ji S (x + 67 + 2 * i) k)) else 0 := ⟨_, fun _ _ => rfl⟩
  have Fb : ∀ j, j < 9 → ∀ k, F j k ≤ 100206 := fun j hj k => by
    rw [hF]
    by_cases hk : k < 24
    · rw [if_pos hk]
      by_cases c0 : ji S (x + 67 + 2 * i) k = kNONE
      · rw [if_pos c0]; omega
      · rw [if_neg c0]
        exact (apn_is (tkd_le (hag j hj).1) ((a7 k hk).2.elim (fun q => absurd q c0) id)).2.2
    · rw [if_neg hk]; omega
  obtain ⟨A, hA⟩ : ∃ A : Nat → Nat, ∀ j, A j = aps (F j) n 0 0 := ⟨_, fun _ => rfl⟩
  have Ab : ∀ j, j < 9 → A j ≤ 2404944 := fun j hj => by
    rw [hA]
    have q1 := aps_le (Fb j hj) n 0 0
    have q2 : n * 100206 ≤ 24 * 100206 := Nat.mul_le_mul_right _ a1
    omega
  -- the reference
  have ref : ∀ S1, jpi S S1 x → ∀ r, r = cans (cbst A sz 0 none) u → jFm E mX11_cut (d + 3) (x + 94) [.int (nI i), .int u] S1 (fun r' S2 => r = r' ∧ INV S2 x M) := by
    intro S1 p1 r hr
    have h1 := h.pil p1
    have hM1 := h1.1.2.1
    have m1 := hM1.1
    have b6 : ∀ S2, jch S1 S2 (x + 94 + 16) (x + 94 + 18) → ji S2 (x + 99) i = nI n := fun S2 c2 => by rw [c2.2 _ (by omega), p1.2 _ (by omega)]; exact a6
    have b7 : ∀ S2, jch S1 S2 (x + 94 + 16) (x + 94 + 18) → ∀ k, k < 24 → ji S2 (x + 100) (24 * i + k) = ji S (x + 67 + 2 * i) k := fun S2 c2 k hk => by rw [c2.2 _ (by omega), p1.2 _ (by omega)]; exact (a7 k hk).1.symm
    have inner : ∀ (j : Nat) (x3 x4 : Int32), j < 9 → ∀ (c k a : Nat) (S2 : jM), k + c = n → a + c * 100206 ≤ 2404944 → jch S1 S2 (x + 94 + 16) (x + 94 + 18) → (∀ S3, jch S1 S3 (x + 94 + 16) (x + 94 + 18) → (x3 < 0 → L_X11_cut_41 E (d + 1) (fun r' S2 => r = r' ∧ INV S2 x M) (x + 94) (nI i) u (nI j) (nI (aps (F j) c k a)) (nI (j + 1)) S3) ∧ (¬ x3 < 0 → (x4 ≤ nI (aps (F j) c k a) → L_X11_cut_41 E (d + 1) (fun r' S2 => r = r' ∧ INV S2 x M) (x + 94) (nI i) u x3 x4 (nI (j + 1)) S3) ∧ (¬ x4 ≤ nI (aps (F j) c k a) → L_X11_cut_41 E (d + 1) (fun r' S2 => r = r' ∧ INV S2 x M) (x + 94) (nI i) u (nI j) (nI (aps (F j) c k a)) (nI (j + 1)) S3))) → L_X11_cut_58 E (d + 1) (fun r' S2 => r = r' ∧ INV S2 x M) (x + 94) (nI i) u x3 x4 (nI j) (nI a) (nI k) S2 := by
      intro j x3 x4 hj c
      induction c with
      | zero =>
        intro k a S2 hk hb c2 hq
        obtain rfl : k = n := by omega
        have m2 := m1.same c2.1
        refine T_X11_cut_58 ⟨m2.1, _, m2.r5.1, m2.r5.2.1, by rw [m2.r5.2.2]; exact jin_nI hi (by omega), ?_⟩
        rw [ci, b6 S2 c2, nI_1]
        exact ⟨fun _ => hq S2 c2, fun cc => absurd Int32.le_rfl cc⟩
      | succ c ih =>
        intro k a S2 hk hb c2 hq
        have m2 := m1.same c2.1
        have hM2 : MR S2 (x + 94) v := hM1.keep c2 (by omega)
        refine T_X11_cut_58 ⟨m2.1, _, m2.r5.1, m2.r5.2.1, by rw [m2.r5.2.2]; exact jin_nI hi (by omega), ?_⟩
        rw [ci, b6 S2 c2, nI_1 k]
        refine ⟨fun cc => absurd cc (nI_ge (by omega) (by omega)), fun _ => ⟨_, m2.r6.1, m2.r6.2.1, by rw [nI_24, m2.r6.2.2]; exact jin_nI (by omega) (by omega), ?_⟩⟩
        rw [nI_24, jcl (n := 24 * i + k) (by omega), b7 S2 c2 k (by omega)]
        have hFk := hF j k
        rw [if_pos (by omega)] at hFk
        have e : aps (F j) (c + 1) k a = aps (F j) c (k + 1) (a + F j k) := rfl
        have fb := Fb j hj k
        have hsm : (c + 1) * 100206 = c * 100206 + 100206 := Nat.succ_mul c 100206
        refine ⟨fun c0 => ?_, fun c0 => ?_⟩
        · rw [if_pos c0] at hFk
          rw [show nI a + 0 = nI (a + F j k) by rw [hFk]; exact nI_add a 0]
          exact ih (k + 1) (a + F j k) S2 (by omega) (by omega) c2 (by rw [← e]; exact hq)
        · rw [if_neg c0] at hFk
          refine c_X11_takes (o := o) hM2 ((hL.keep p1.fq).keep (jch.fq97 c2)) hj (hkd j hj).2 (htg j hj).2 (hag j hj).2 (hkd j hj).1 (hag j hj).1 (by omega) (fun S3 c3 _ => ?_)
          have hyk : -99999 ≤ ji S (x + 67 + 2 * i) k ∧ ji S (x + 67 + 2 * i) k ≤ 99999 := (a7 k (by omega)).2.elim (fun q => absurd q c0) id
          rw [(apn_is (tkd_le (hag j hj).1) hyk).2.1, ← hFk, nI_add]
          exact ih (k + 1) (a + F j k) S3 (by omega) (by omega) (c2.trans c3) (by rw [← e]; exact hq)
    have outer : ∀ (c j : Nat) (ob : Option (Nat × Nat)) (x3 x4 : Int32) (S2 : jM), j + c = sz → jch S1 S2 (x + 94 + 16) (x + 94 + 18) → ((ob = none ∧ x3 = -1) ∨ ∃ b l, ob = some (b, l) ∧ b < 9 ∧ l ≤ 2404944 ∧ x3 = nI b ∧ x4 = nI l) → r = cans (cbst A c j ob) u → L_X11_cut_41 E (d + 1) (fun r' S2 => r = r' ∧ INV S2 x M) (x + 94) (nI i) u x3 x4 (nI j) S2 := by
      intro c
      induction c with
      | zero =>
        intro j ob x3 x4 S2 hj c2 hob hr
        obtain rfl : j = sz := by omega
        have hM2 : MR S2 (x + 94) v := hM1.keep c2 (by omega)
        have i0 := hM2.at (i := 0) 0 rfl (by omega)
        refine T_X11_cut_41 ⟨hM2.k, _, hM2.r, hM2.k1, i0.1, ?_⟩
        rw [i0.2, hX.v0]
        have inv : INV S2 x M := h.still p1 c2
        refine ⟨fun _ => ?_, fun cc => absurd Int32.le_rfl cc⟩
        rcases hob with ⟨rfl, rfl⟩ | ⟨b, l, rfl, hb, hl, rfl, rfl⟩
        · exact ⟨fun cc => absurd cc (by decide), fun _ => ⟨hr, inv⟩⟩
        · refine ⟨fun _ => ⟨fun u0 => ⟨?_, inv⟩, fun u0 => ⟨?_, inv⟩⟩, fun cc => absurd (Int32.not_lt.mp (nI_pos (by omega))) cc⟩
          · rw [hr]; show (if u = 0 then nI b else nI l) = nI b; rw [if_pos u0]
          · rw [hr]; show (if u = 0 then nI b else nI l) = nI l; rw [if_neg u0]
      | succ c ih =>
        intro j ob x3 x4 S2 hj c2 hob hr
        have hM2 : MR S2 (x + 94) v := hM1.keep c2 (by omega)
        have i0 := hM2.at (i := 0) 0 rfl (by omega)
        refine T_X11_cut_41 ⟨hM2.k, _, hM2.r, hM2.k1, i0.1, ?_⟩
        rw [i0.2, hX.v0]
        have aj := Ab j (by omega)
        have nb : n * 100206 ≤ 24 * 100206 := Nat.mul_le_mul_right _ a1
        refine ⟨fun cc => absurd cc (nI_ge (by omega) (by omega)), fun _ => inner j x3 x4 (by omega) n 0 0 S2 (by omega) (by omega) c2 (fun S3 c3 => ?_)⟩
        rw [← hA]
        rcases hob with ⟨rfl, rfl⟩ | ⟨b, l, rfl, hb, hl, rfl, rfl⟩
        · exact ⟨fun _ => ih (j + 1) (some (j, A j)) _ _ S3 (by omega) c3 (Or.inr ⟨j, A j, rfl, by omega, aj, rfl, rfl⟩) hr, fun cc => absurd (by decide) cc⟩
        · have hr' : r = cans (cbst A c (j + 1) (if A j < l then some (j, A j) else some (b, l))) u := hr
          refine ⟨fun cc => absurd cc (nI_pos (by omega)), fun _ => ⟨fun q => ih (j + 1) (some (b, l)) _ _ S3 (by omega) c3 (Or.inr ⟨b, l, rfl, hb, hl, rfl, rfl⟩) ?_, fun q => ih (j + 1) (some (j, A j)) _ _ S3 (by omega) c3 (Or.inr ⟨j, A j, rfl, by omega, aj, rfl, rfl⟩) ?_⟩⟩
          · have := (nI_leI (by omega) (by omega)).mp q
            rw [if_neg (by omega)] at hr'; exact hr'
          · have : ¬ l ≤ A j := fun z => q (nI_le z (by omega))
            rw [if_pos (by omega)] at hr'; exact hr'
    refine U_X11_cut m1.1 ⟨fun c => absurd c hs1, fun _ => ⟨fun c => absurd c cu', fun _ => ⟨m1.1, _, m1.r4.1, m1.r4.2.1, by rw [m1.r4.2.2]; exact jin_nI hi (by omega), fun _ => outer sz 0 none _ _ S1 (by omega) jch.rfl (Or.inl ⟨rfl, rfl⟩) hr, fun c0 => ?_⟩⟩⟩
    rw [ci, p1.2 _ (by omega), a4] at c0
    exact absurd (ms.mpr c0) c
  -- the class
  have loop : ∀ (c j : Nat) (ob : Option (Nat × Nat)) (x4 x5 : Int32) (S1 : jM), j + c = 9 → jpi S S1 x → ((ob = none ∧ x4 = -1000000005 ∧ x5 = 1000000000) ∨ ∃ b l, ob = some (b, l) ∧ b < 9 ∧ l ≤ 2404944 ∧ x4 = nI b ∧ x5 = nI l) → cbst A sz 0 none = cbst A (sz - j) j ob → L_X10_cut_45 E (d + 4) (fun r S1 => jFm E mX11_cut (d + 3) (x + 94) [.int (nI i), .int u] S1 (fun r' S2 => r = r' ∧ INV S2 x M)) x u (x + 66 + 2 * i) x4 x5 (nI j) S1 := by
    intro c
    induction c with
    | zero =>
      intro j ob x4 x5 S1 hj p1 hob hb
      obtain rfl : j = 9 := by omega
      have hb' : cbst A sz 0 none = ob := by rw [hb, show sz - 9 = 0 by omega]; rfl
      refine T_X10_cut_45 ⟨fun _ => ?_, fun cc => absurd (by decide) cc⟩
      rcases hob with ⟨rfl, rfl, rfl⟩ | ⟨b, l, rfl, hb9, hl, rfl, rfl⟩
      · exact ⟨fun _ => ref S1 p1 _ (by rw [hb']; rfl), fun _ => ⟨fun _ => ref S1 p1 _ (by rw [hb']; rfl), fun cc => absurd rfl cc⟩⟩
      · have nn : ¬ nI b = -1000000005 := fun q => by
          have := nI_pos (n := b) (by omega)
          rw [q] at this; exact absurd (by decide) this
        refine ⟨fun u0 => ref S1 p1 _ ?_, fun u0 => ⟨fun q => absurd q nn, fun _ => ref S1 p1 _ ?_⟩⟩
        · rw [hb']; show nI b = if u = 0 then nI b else nI l; rw [if_pos u0]
        · rw [hb']; show nI l = if u = 0 then nI b else nI l; rw [if_neg u0]
    | succ c ih =>
      intro j ob x4 x5 S1 hj p1 hob hb
      have h1 := h.pil p1
      have hX1 := h1.1.1
      refine T_X10_cut_45 ⟨fun cc => absurd cc (nI_ge (b := 9) (by omega) (by omega)), fun _ => ⟨hX1.1, _, hX1.2.1, hX1.k3, _, hX1.r0, hX1.g.1.1, c_X0_find hX1.g.1 hX1.g.2.1 hz (fun n' hn' en => ⟨fun cc => absurd cc (by simp), fun b2 eb2 => ⟨hX1.1, _, hX1.2.1, hX1.k3, ?_⟩⟩) (fun hno => ⟨fun _ => ⟨fun _ => ?_, fun cc => absurd Int32.le_rfl cc⟩, fun b2 e2 => absurd e2 (by simp)⟩)⟩⟩
      · obtain rfl : x + 2 + 2 + n' = b2 := Option.some.inj eb2
        obtain rfl : j = n' := nI_inj (by omega) (by omega) en
        refine c_X3_apart (o := o) (n := n) (F := F j) h1 hi a1 (by rw [p1.2 _ (by omega)]; exact a5) (fun k hk => by rw [p1.2 _ (by omega)]; exact (a7 k hk).2) (hL.keep p1.fq) (by omega) (hkd j (by omega)).2 (htg j (by omega)).2 (hag j (by omega)).2 (hkd j (by omega)).1 (hag j (by omega)).1 ?_ (fun S2 p2 => ?_)
        · intro k hk
          rw [hF, if_pos (by omega), p1.2 (x + 67 + 2 * i) (by omega)]
        · rw [← hA, nI_1]
          have p12 := p1.trans p2
          have aj := Ab j (by omega)
          have es : sz - j = (sz - (j + 1)) + 1 := by omega
          rw [es] at hb
          rcases hob with ⟨rfl, rfl, rfl⟩ | ⟨b, l, rfl, hb9, hl, rfl, rfl⟩
          · refine ⟨fun q => ?_, fun _ => ih (j + 1) (some (j, A j)) _ _ S2 (by omega) p12 (Or.inr ⟨j, A j, rfl, by omega, aj, rfl, rfl⟩) hb⟩
            have := (nI_leI (a := 1000000000) (by omega) (by omega)).mp q
            omega
          · have hb2 : cbst A sz 0 none = cbst A (sz - (j + 1)) (j + 1) (if A j < l then some (j, A j) else some (b, l)) := hb
            refine ⟨fun q => ih (j + 1) (some (b, l)) _ _ S2 (by omega) p12 (Or.inr ⟨b, l, rfl, hb9, hl, rfl, rfl⟩) ?_, fun q => ih (j + 1) (some (j, A j)) _ _ S2 (by omega) p12 (Or.inr ⟨j, A j, rfl, by omega, aj, rfl, rfl⟩) ?_⟩
            · have := (nI_leI (by omega) (by omega)).mp q
              rw [if_neg (by omega)] at hb2; exact hb2
            · have : ¬ l ≤ A j := fun z => q (nI_le z (by omega))
              rw [if_pos (by omega)] at hb2; exact hb2
      · have hjs : sz ≤ j := by
          rcases Nat.lt_or_ge j sz with q | q
          · exact absurd rfl (hno j q)
          · exact q
        rw [nI_1]
        refine ih (j + 1) ob _ _ S1 (by omega) p1 hob ?_
        rw [hb, show sz - j = 0 by omega, show sz - (j + 1) = 0 by omega]
        rfl
  exact loop 9 0 none _ _ S (by omega) jpi.rfl (Or.inl ⟨rfl, rfl, rfl⟩) rfl
end jCut
end
