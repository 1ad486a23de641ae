/-! SOONEST: the class's search comes to its end and leaves all else -/
/-- what the search changes -/
def jse (S S' : jM) (x : Nat) : Prop := jsame S S' ∧ ∀ y, (y < x + 52 ∨ x + 60 ≤ y) → (y < x + 115 ∨ (y - x) % 3 ≠ 0) → ji S' y = ji S y
section jSoon1
variable {E : jEnv} {d : Nat} {S S' : jM} {x sz M : Nat} {v : Nat → Int32}
theorem jse.rfl : jse S S x := ⟨jsame.rfl, fun _ _ _ => _root_.rfl⟩
theorem jse.trans {S1 S2 : jM} (h1 : jse S S1 x) (h2 : jse S1 S2 x) : jse S S2 x := ⟨h1.1.trans h2.1, fun y a b => (h2.2 y a b).trans (h1.2 y a b)⟩
theorem jse.put {y j : Nat} {w : Int32} (h1 : x + 52 ≤ y) (h2 : y < x + 60) : jse S (jput S y j w) x := ⟨⟨_root_.rfl, _root_.rfl, _root_.rfl, _root_.rfl⟩, fun z _ _ => ji_put_ne _ _ _ _ (by omega)⟩
theorem jse.of (h : jpi S S' x) : jse S S' x := ⟨h.1, fun y _ b => h.2 y b⟩
theorem jse.fq (h : jse S S' x) : jfq S S' x := ⟨h.1, fun y _ _ _ _ _ _ _ g => h.2 y (by omega) g⟩
theorem IV.se (h : IV S x sz M v) (p : jse S S' x) : IV S' x sz M v := by
  obtain ⟨hX, hM, hg⟩ := id h.1
  have g : ∀ y, (y < x + 52 ∨ (x + 60 ≤ y ∧ y < x + 115)) → ji S' y = ji S y := fun y hy => p.2 y (by omega) (by omega)
  exact h.next p.fq ⟨hX.of p.1 (hX.2.2.grow (fun y a b => ⟨by rw [p.1.1], by rw [p.1.2.1], g y (by omega), by rw [p.1.2.2.1]⟩)), ⟨hM.1.same p.1, fun j => by rw [g (x + 94 + 1) (by omega)]; exact hM.2 j⟩, hg⟩ (fun _ _ _ => _root_.rfl)
theorem jwi_in {w : Int32} {n : Nat} (hn : n < 2 ^ 31) (h : ¬ jwi w (nI n) = 0) : vp_in w n := by
  rcases jwi_cases w (b := nI n) n _root_.rfl hn with ⟨j, hj, e, -⟩ | ⟨-, e⟩
  · rw [e]; exact jin_nI hj hn
  · exact absurd e h
theorem c_X5_keptOf {Q : Int32 → jM → Prop} {a b c : Int32} (hs : SrL S (x + 52)) (h : ∀ r, Q r S) : jFi E mX5_keptOf d 0 0 [.ref (x + 52), .int a, .int b, .int c] S Q := by
  have key : ∀ (n i : Nat) (y : Int32), i + n = 10 → L_X5_keptOf_12 E d Q (x + 52) b c y (nI i) S := by
    intro n
    induction n with
    | zero =>
      intro i y hi
      obtain rfl : i = 10 := by omega
      exact T_X5_keptOf_12 ⟨fun _ => h _, fun cc => absurd (by decide) cc⟩
    | succ n ih =>
      intro i y hi
      refine T_X5_keptOf_12 ⟨fun cc => absurd cc (nI_ge (b := 10) (by omega) (by omega)), fun _ => ⟨hs.1, _, (hs.2.1 5 (by omega)).1, (hs.2.1 5 (by omega)).2, ?_, ?_⟩⟩
      · show vp_in (nI i) (jl S (x + 52 + 6))
        rw [hs.2.2.2.1]; exact jin_nI (by omega) (by omega)
      · rw [nI_1]
        exact ⟨fun _ => ih (i + 1) _ (by omega), fun _ => ih (i + 1) _ (by omega)⟩
  exact T_X5_keptOf ⟨fun _ => h _, fun _ => key 10 0 a (by omega)⟩
theorem c_X5_daysTaken {Q : Int32 → jM → Prop} {j : Nat} {a k : Int32} (h : IV S x sz M v) (hj : j < 9) (hq : ∀ r S', jse S S' x → Q r S') : jFi E mX5_daysTaken (d + 4) 0 0 [.ref (x + 52), .ref (x + 1), .int a, .ref (x + 2 + 2 + j), .int k] S Q := by
  obtain ⟨⟨hX, hM, hg⟩, hC, -, -, hT, -⟩ := id h
  have hs := hC.2.2.1
  have r6 := hs.2.1 6 (by omega)
  have l99 : jl S (x + 52 + 1 + 6) = 99 := hs.2.2.2.2
  obtain ⟨o, hL⟩ := LWD_ex (key := 0) (by omega) hT
  obtain ⟨kd, hkd, ekd⟩ := hg.kd hj
  obtain ⟨tg, htg, etg⟩ := hg.ge hj
  obtain ⟨ag, hag, eag⟩ := hg.ag hj
  have days : ∀ Q' : Int32 → jM → Prop, (∀ r S', jse S S' x → Q' r S') → jFi E mX3_daysTaken (d + 3) 0 0 [.ref (x + 1), .ref (x + 2 + 2 + j), .int k] S Q' := by
    intro Q' q
    rw [nI_bv k]
    exact c_X3_daysTaken (M := M) hX.2.2 hT hL (hX.mk hj) (by omega) ((hX.ms hj (by omega)).trans ekd) ((hX.ms hj (by omega)).trans etg) ((hX.ms hj (by omega)).trans eag) hkd hag (fun S' p => q _ S' (jse.of p))
  refine T_X5_daysTaken ⟨hs.1, _, r6.1, r6.2, ?_⟩
  rw [l99]
  refine ⟨fun _ => ⟨hX.k3, days _ (fun r S' p => hq r S' p)⟩, fun c => ?_⟩
  have hin := jwi_in (by omega) c
  refine ⟨hin, fun _ => ⟨hX.k3, days _ (fun r S' p => ?_)⟩, fun _ => hq _ S jse.rfl⟩
  have hs1 := (h.se p).2.1.2.2.1
  have q6 := hs1.2.1 6 (by omega)
  have m99 : jl S' (x + 52 + 1 + 6) = 99 := hs1.2.2.2.2
  rw [m99]
  exact ⟨q6.2, hin, hs1.1, _, q6.1, q6.2, by rw [m99]; exact hin, hq _ _ (p.trans (jse.put (by omega) (by omega)))⟩
theorem c_X5_offer {Q : jM → Prop} {w : Int32} (hs : SrL S (x + 52)) (hq : ∀ S', jse S S' x → Q S') : jFv E mX5_offer (d + 1) 0 0 [.ref (x + 52), .int w] S Q := by
  have r2 := hs.2.1 2 (by omega)
  have r3 := hs.2.1 3 (by omega)
  have r4 := hs.2.1 4 (by omega)
  refine T_X5_offer ⟨fun _ => hq S jse.rfl, fun c => ?_⟩
  have hin : vp_in w 5 := jwi_in (n := 5) (by omega) c
  have i2 : vp_in w (jl S (x + 52 + 1 + 2)) := by rw [hs.2.2.1 2 (by omega)]; exact hin
  have i3 : vp_in w (jl S (x + 52 + 1 + 3)) := by rw [hs.2.2.1 3 (by omega)]; exact hin
  have i4 : vp_in w (jl S (x + 52 + 1 + 4)) := by rw [hs.2.2.1 4 (by omega)]; exact hin
  have fin : ∀ r : Int32, (r = 0 → Q S) ∧ (¬ r = 0 → jk S (x + 52) = 5 ∧ ∃ b19, jr S (x + 52) 2 = some b19 ∧ (jk S b19 = 12 ∧ vp_in w (jl S b19) ∧ (∃ b22, jr S (x + 52) 3 = some b22 ∧ (jk S b22 = 12 ∧ vp_in w (jl S b22) ∧ (∃ b25, jr S (x + 52) 4 = some b25 ∧ (jk S b25 = 12 ∧ vp_in w (jl S b25) ∧ (Q (jput (jput (jput S (x + 52) 9 (ji S b19 (Int32.toNatClampNeg w))) (x + 52) 10 (ji S b22 (Int32.toNatClampNeg w))) (x + 52) 11 (ji S b25 (Int32.toNatClampNeg w)))))))))) := fun r => ⟨fun _ => hq S jse.rfl, fun _ => ⟨hs.1, _, r2.1, r2.2, i2, _, r3.1, r3.2, i3, _, r4.1, r4.2, i4, hq _ (((jse.put (by omega) (by omega)).trans (jse.put (by omega) (by omega))).trans (jse.put (by omega) (by omega)))⟩⟩
  exact ⟨hs.1, _, r2.1, r2.2, i2, _, r3.1, r3.2, i3, _, r4.1, r4.2, i4, T_X5_isBetter ⟨hs.1, fun _ => ⟨fun _ => ⟨fun _ => fin _, fun _ => fin _⟩, fun _ => ⟨fun _ => fin _, fun _ => fin _⟩⟩, fun _ => ⟨fun _ => fin _, fun _ => fin _⟩⟩⟩
/-- from the lesson on -/
theorem t_X5_try {Q : jM → Prop} {D st j : Nat} {x3 kn ar pr fo gt : Int32} {a4 : Nat} (h : IV S x sz M v) (hD : 4 ≤ D) (hj : j < 9) (ha : a4 = x + 2 + 2 + j) (hst : st + 1 < 5) (hgt : vp_in gt 10) (G : ∀ S', jse S S' x → ∀ Q' : jM → Prop, (∀ S'', jse S' S'' x → Q' S'') → jFv E mX5_goOn D 0 0 [.ref (x + 52), .ref (x + 1), .int (nI (st + 1))] S' Q') (hq : ∀ S', jse S S' x → Q S') : jFi E mX2_teaches D 0 0 [.ref a4, .int kn] S (fun r49 S48 => (r49 = 0 → Q S48) ∧ (¬ r49 = 0 → jk S48 (x + 52) = 5 ∧ jFi E mX5_daysTaken D 0 0 [.ref (x + 52), .ref (x + 1), .int x3, .ref a4, .int (jbc kn)] S48 (fun r56 S55 => jk S55 (x + 52) = 5 ∧ ((ar + r56) ≤ (ji S55 (x + 52) 9) → ∃ b59, jr S55 (x + 52) 0 = some b59 ∧ (jk S55 a4 = 2 ∧ jk S55 b59 = 12 ∧ vp_in (nI st + 1) (jl S55 b59) ∧ (∃ b63, jr S55 (x + 52) 1 = some b63 ∧ (jFi E mX5_keptOf D 0 0 [.ref (x + 52), .int kn, .int (ar + r56), .int fo] (jput S55 b59 (Int32.toNatClampNeg (nI st + 1)) (ji S55 a4 1)) (fun r65 S64 => jk S64 a4 = 2 ∧ jFi E mX2_unlearnt D 0 0 [.ref a4] S64 (fun r68 S67 => jk S67 b63 = 12 ∧ vp_in (nI st + 1) (jl S67 b63) ∧ (jk S67 (x + 52) = 5 ∧ ∃ b72, jr S67 (x + 52) 2 = some b72 ∧ (jk S67 b72 = 12 ∧ vp_in (nI st + 1) (jl S67 b72) ∧ (∃ b75, jr S67 (x + 52) 3 = some b75 ∧ (jk S67 b75 = 12 ∧ vp_in (nI st + 1) (jl S67 b75) ∧ (∃ b78, jr S67 (x + 52) 4 = some b78 ∧ (((nI st) = 0 → jk S67 b78 = 12 ∧ vp_in (nI st + 1) (jl S67 b78) ∧ (∃ b94, jr S67 (x + 52) 5 = some b94 ∧ (jk S67 b94 = 12 ∧ vp_in gt (jl S67 b94) ∧ (∀ y97 : Int32, y97 = (ji (jput (jput (jput (jput S67 b63 (Int32.toNatClampNeg (nI st + 1)) ((r65 &&& (r68 ^^^ (-1))) ||| (jshl 1 gt))) b72 (Int32.toNatClampNeg (nI st + 1)) (ar + r56)) b75 (Int32.toNatClampNeg (nI st + 1)) pr) b78 (Int32.toNatClampNeg (nI st + 1)) x3) b94 (Int32.toNatClampNeg gt)) → (jFv E mX5_goOn D 0 0 [.ref (x + 52), .ref (x + 1), .int (nI st + 1)] (jput (jput (jput (jput (jput S67 b63 (Int32.toNatClampNeg (nI st + 1)) ((r65 &&& (r68 ^^^ (-1))) ||| (jshl 1 gt))) b72 (Int32.toNatClampNeg (nI st + 1)) (ar + r56)) b75 (Int32.toNatClampNeg (nI st + 1)) pr) b78 (Int32.toNatClampNeg (nI st + 1)) x3) b94 (Int32.toNatClampNeg gt) (ar + r56)) (fun S98 => jk S98 (x + 52) = 5 ∧ ∃ b100, jr S98 (x + 52) 5 = some b100 ∧ (jk S98 b100 = 12 ∧ vp_in gt (jl S98 b100) ∧ (Q (jput S98 b100 (Int32.toNatClampNeg gt) y97))))))))) ∧ (¬ (nI st) = 0 → jk S67 b78 = 12 ∧ vp_in (nI st) (jl S67 b78) ∧ (vp_in (nI st + 1) (jl S67 b78) ∧ (∃ b83, jr S67 (x + 52) 5 = some b83 ∧ (jk S67 b83 = 12 ∧ vp_in gt (jl S67 b83) ∧ (∀ y86 : Int32, y86 = (ji (jput (jput (jput (jput S67 b63 (Int32.toNatClampNeg (nI st + 1)) ((r65 &&& (r68 ^^^ (-1))) ||| (jshl 1 gt))) b72 (Int32.toNatClampNeg (nI st + 1)) (ar + r56)) b75 (Int32.toNatClampNeg (nI st + 1)) pr) b78 (Int32.toNatClampNeg (nI st + 1)) (ji (jput (jput (jput S67 b63 (Int32.toNatClampNeg (nI st + 1)) ((r65 &&& (r68 ^^^ (-1))) ||| (jshl 1 gt))) b72 (Int32.toNatClampNeg (nI st + 1)) (ar + r56)) b75 (Int32.toNatClampNeg (nI st + 1)) pr) b78 (Int32.toNatClampNeg (nI st)))) b83 (Int32.toNatClampNeg gt)) → (jFv E mX5_goOn D 0 0 [.ref (x + 52), .ref (x + 1), .int (nI st + 1)] (jput (jput (jput (jput (jput S67 b63 (Int32.toNatClampNeg (nI st + 1)) ((r65 &&& (r68 ^^^ (-1))) ||| (jshl 1 gt))) b72 (Int32.toNatClampNeg (nI st + 1)) (ar + r56)) b75 (Int32.toNatClampNeg (nI st + 1)) pr) b78 (Int32.toNatClampNeg (nI st + 1)) (ji (jput (jput (jput S67 b63 (Int32.toNatClampNeg (nI st + 1)) ((r65 &&& (r68 ^^^ (-1))) ||| (jshl 1 gt))) b72 (Int32.toNatClampNeg (nI st + 1)) (ar + r56)) b75 (Int32.toNatClampNeg (nI st + 1)) pr) b78 (Int32.toNatClampNeg (nI st)))) b83 (Int32.toNatClampNeg gt) (ar + r56)) (fun S87 => jk S87 (x + 52) = 5 ∧ ∃ b89, jr S87 (x + 52) 5 = some b89 ∧ (jk S87 b89 = 12 ∧ vp_in gt (jl S87 b89) ∧ (Q (jput S87 b89 (Int32.toNatClampNeg gt) y86)))))))))))))))))))))) ∧ (¬ (ar + r56) ≤ (ji S55 (x + 52) 9) → Q S55)))) := by
  subst ha
  obtain ⟨e, rfl⟩ : ∃ e, D = e + 4 := ⟨D - 4, by omega⟩
  rw [nI_1]
  have hX := h.1.1
  have k2 := hX.mk hj
  have hs := h.2.1.2.2.1
  refine c_X2_teaches (d := e + 3) k2 ⟨fun _ => hq S jse.rfl, fun _ => ⟨hs.1, c_X5_daysTaken h hj (fun r S1 p1 => ?_)⟩⟩
  have h1 := h.se p1
  have s1 := h1.2.1.2.2.1
  have l1 : ∀ k, k < 5 → ∀ i, i < 5 → vp_in (nI i) (jl S1 (x + 52 + 1 + k)) := fun k hk i hi => by rw [s1.2.2.1 k hk]; exact jin_nI hi (by omega)
  have l10 : vp_in gt (jl S1 (x + 52 + 1 + 5)) := by rw [show x + 52 + 1 + 5 = x + 52 + 6 by omega, s1.2.2.2.1]; exact hgt
  refine ⟨s1.1, fun _ => ⟨_, (s1.2.1 0 (by omega)).1, h1.1.1.mk hj, (s1.2.1 0 (by omega)).2, l1 0 (by omega) _ (by omega), _, (s1.2.1 1 (by omega)).1, c_X5_keptOf s1 (fun r2 => ⟨h1.1.1.mk hj, c_X2_unlearnt (h1.1.1.mk hj) ⟨(s1.2.1 1 (by omega)).2, l1 1 (by omega) _ (by omega), s1.1, _, (s1.2.1 2 (by omega)).1, (s1.2.1 2 (by omega)).2, l1 2 (by omega) _ (by omega), _, (s1.2.1 3 (by omega)).1, (s1.2.1 3 (by omega)).2, l1 3 (by omega) _ (by omega), _, (s1.2.1 4 (by omega)).1, fun _ => ⟨(s1.2.1 4 (by omega)).2, l1 4 (by omega) _ (by omega), _, (s1.2.1 5 (by omega)).1, (s1.2.1 5 (by omega)).2, l10, fun y _ => ?_⟩, fun _ => ⟨(s1.2.1 4 (by omega)).2, l1 4 (by omega) _ (by omega), l1 4 (by omega) _ (by omega), _, (s1.2.1 5 (by omega)).1, (s1.2.1 5 (by omega)).2, l10, fun y _ => ?_⟩⟩⟩)⟩, fun _ => hq S1 p1⟩
  all_goals
    have pp : ∀ {S0 : jM} {y j : Nat} {w : Int32}, jse S S0 x → x + 52 ≤ y → y < x + 60 → jse S (jput S0 y j w) x := fun p a b => p.trans (jse.put a b)
    refine G _ ?_ _ (fun S3 p3 => ?_)
    · exact pp (pp (pp (pp (pp (pp p1 (by omega) (by omega)) (by omega) (by omega)) (by omega) (by omega)) (by omega) (by omega)) (by omega) (by omega)) (by omega) (by omega)
    · have q3 := (pp (pp (pp (pp (pp (pp p1 (by omega) (by omega)) (by omega) (by omega)) (by omega) (by omega)) (by omega) (by omega)) (by omega) (by omega)) (by omega) (by omega)).trans p3
      have s3 := (h.se q3).2.1.2.2.1
      exact ⟨s3.1, _, (s3.2.1 5 (by omega)).1, (s3.2.1 5 (by omega)).2, by rw [show x + 52 + 1 + 5 = x + 52 + 6 by omega, s3.2.2.2.1]; exact hgt, hq _ (q3.trans (jse.put (by omega) (by omega)))⟩
theorem c_X5_tryMaster {Q : jM → Prop} {D st j : Nat} {x3 : Int32} (h : IV S x sz M v) (hD : 4 ≤ D) (hj : j < 9) (hst : st < 5) (G : st + 1 < 5 → ∀ S', jse S S' x → ∀ Q' : jM → Prop, (∀ S'', jse S' S'' x → Q' S'') → jFv E mX5_goOn D 0 0 [.ref (x + 52), .ref (x + 1), .int (nI (st + 1))] S' Q') (hq : ∀ S', jse S S' x → Q S') : jFv E mX5_tryMaster (D + 1) 0 0 [.ref (x + 52), .ref (x + 1), .int (nI st), .int x3, .ref (x + 2 + 2 + j)] S Q := by
  have hX := h.1.1
  have k2 := hX.mk hj
  have hs := h.2.1.2.2.1
  have l1 : ∀ k, k < 5 → vp_in (nI st) (jl S (x + 52 + 1 + k)) := fun k hk => by rw [hs.2.2.1 k hk]; exact jin_nI hst (by omega)
  refine T_X5_tryMaster ⟨k2, fun _ => hq S jse.rfl, fun _ => ⟨fun _ => hq S jse.rfl, fun c1 => ⟨fun _ => hq S jse.rfl, fun c2 => ⟨hX.k3, _, hX.r1, hs.1, _, (hs.2.1 0 (by omega)).1, (hs.2.1 0 (by omega)).2, l1 0 (by omega), hX.q.1.1, ?_⟩⟩⟩⟩
  have hst1 : st + 1 < 5 := by
    rw [nI_1] at c1
    rcases jwi_cases (nI (st + 1)) (b := 5) 5 _root_.rfl (by omega) with ⟨i, hi, e, -⟩ | ⟨-, e⟩
    · have := nI_inj (by omega) (by omega) e
      omega
    · exact absurd e c1
  have hgt : vp_in (ji S (x + 2 + 2 + j) 2) 10 := jwi_in (n := 10) (by omega) c2
  obtain ⟨e, rfl⟩ : ∃ e, D = e + 4 := ⟨D - 4, by omega⟩
  have few : ∀ (w u : Int32) (Q' : Int32 → jM → Prop), (∀ r, Q' r S) → jFi E mX4_fewest (e + 4) 0 0 [.ref (x + 13), .int w, .int u] S Q' := by
    intro w u Q' q
    refine T_X4_fewest ⟨fun _ => q _, fun c => ⟨fun _ => q _, fun c3 => ?_⟩⟩
    rcases jwi_cases w (b := 6) 6 _root_.rfl (by omega) with ⟨a, ha, ea, -⟩ | ⟨-, ea⟩
    · rcases jwi_cases u (b := 6) 6 _root_.rfl (by omega) with ⟨b, hb, eb, -⟩ | ⟨-, eb⟩
      · have hh : jFi E mX4_fewest (e + 4) 0 0 [.ref (x + 13), .int (nI a), .int (nI b)] S Q' := c_X4_fewest hX.q ha hb (q _)
        obtain ⟨z1, z2, z3, z4, z5, z6, z7⟩ := hX.q.1
        refine ⟨z1, _, z3, z6, ?_, q _⟩
        rw [z7, ea, eb, show (6 : Int32) = nI 6 from _root_.rfl, nI_mul, nI_add]; exact jin_nI (by omega) (by omega)
      · exact absurd eb c3
    · exact absurd ea c
  refine few _ _ _ (fun r => ⟨hs.1, _, (hs.2.1 2 (by omega)).1, (hs.2.1 2 (by omega)).2, l1 2 (by omega), hX.k3, _, hX.r2, hX.l.1.1, fun _ => ⟨_, (hs.2.1 1 (by omega)).1, (hs.2.1 1 (by omega)).2, l1 1 (by omega), _, (hs.2.1 3 (by omega)).1, (hs.2.1 3 (by omega)).2, l1 3 (by omega), k2, fun _ => ⟨fun _ => hq S jse.rfl, fun _ => ⟨fun _ => hq S jse.rfl, fun _ => ⟨fun _ => ?_, fun _ => hq S jse.rfl⟩⟩⟩, fun _ => hq S jse.rfl⟩, fun _ => ⟨_, (hs.2.1 1 (by omega)).1, (hs.2.1 1 (by omega)).2, l1 1 (by omega), c_X5_keptOf hs (fun r2 => ⟨hs.1, _, (hs.2.1 3 (by omega)).1, (hs.2.1 3 (by omega)).2, l1 3 (by omega), k2, fun _ => ⟨fun _ => hq S jse.rfl, fun _ => ⟨hX.k3, _, hX.r2, hX.l.1.1, fun _ => hq S jse.rfl, fun _ => ⟨fun _ => ?_, fun _ => hq S jse.rfl⟩⟩⟩, fun _ => hq S jse.rfl⟩)⟩⟩)
  · exact t_X5_try h (by omega) hj _root_.rfl hst1 hgt (G hst1) hq
  · exact t_X5_try h (by omega) hj _root_.rfl hst1 hgt (G hst1) hq
theorem c_X5_goOn : ∀ (c st D : Nat) (S : jM) (Q : jM → Prop), st + c = 5 → 6 + 2 * c ≤ D → IV S x sz M v → (∀ S', jse S S' x → Q S') → jFv E mX5_goOn D 0 0 [.ref (x + 52), .ref (x + 1), .int (nI st)] S Q := by
  intro c
  induction c with
  | zero =>
    intro st D S Q hst hD h hq
    obtain rfl : st = 5 := by omega
    obtain ⟨e, rfl⟩ : ∃ e, D = e + 1 := ⟨D - 1, by omega⟩
    exact T_X5_goOn ⟨fun _ => hq S jse.rfl, fun cc => absurd (by decide) cc⟩
  | succ c ih =>
    intro st D S Q hst hD h hq
    obtain ⟨e, rfl⟩ : ∃ e, D = e + 1 + 1 := ⟨D - 2, by omega⟩
    have hX := h.1.1
    have hz := hX.sz9
    have hs := h.2.1.2.2.1
    have loop : ∀ (n i : Nat) (x3 x4 : Int32) (S1 : jM), i + n = sz → jse S S1 x → L_X5_goOn_63 E (e + 1) Q (x + 52) (x + 1) (nI st) x3 x4 (nI i) S1 := by
      intro n
      induction n with
      | zero =>
        intro i x3 x4 S1 hi p1
        obtain rfl : i = sz := by omega
        have hX1 := (h.se p1).1.1
        refine T_X5_goOn_63 ⟨hX1.k3, _, hX1.r0, hX1.g.1.1, ?_⟩
        rw [hX1.g.2.1]
        exact ⟨fun _ => hq S1 p1, fun cc => absurd Int32.le_rfl cc⟩
      | succ n ihn =>
        intro i x3 x4 S1 hi p1
        have h1 := h.se p1
        have hX1 := h1.1.1
        refine T_X5_goOn_63 ⟨hX1.k3, _, hX1.r0, hX1.g.1.1, ?_⟩
        rw [hX1.g.2.1]
        refine ⟨fun cc => absurd cc (nI_ge (by omega) (by omega)), fun _ => c_X0_findAt hX1.g.1 hX1.g.2.1 hz (by omega) ⟨fun cc => absurd cc (by simp), fun b eb => ?_⟩⟩
        obtain rfl : x + 2 + 2 + i = b := Option.some.inj eb
        rw [nI_1]
        have tr : ∀ y : Int32, jFv E mX5_tryMaster (e + 1) 0 0 [.ref (x + 52), .ref (x + 1), .int (nI st), .int y, .ref (x + 2 + 2 + i)] S1 (fun S25 => L_X5_goOn_63 E (e + 1) Q (x + 52) (x + 1) (nI st) x3 x4 (nI (i + 1)) S25) := fun y =>
          c_X5_tryMaster h1 (by omega) (by omega) (by omega) (fun hst1 S2 p2 Q' q' => ih (st + 1) e S2 Q' (by omega) (by omega) (h1.se p2) q') (fun S2 p2 => ihn (i + 1) x3 x4 S2 (by omega) (p1.trans p2))
        exact ⟨fun _ => ⟨(h1.2.1.2.2.1).1, tr _⟩, fun _ => ⟨hX1.mk (by omega), fun _ => ihn (i + 1) x3 x4 S1 (by omega) p1, fun _ => ⟨(h1.2.1.2.2.1).1, tr _⟩⟩⟩
    refine T_X5_goOn ⟨fun _ => hq S jse.rfl, fun _ => ⟨hs.1, _, (hs.2.1 1 (by omega)).1, (hs.2.1 1 (by omega)).2, by rw [hs.2.2.1 1 (by omega)]; exact jin_nI (by omega) (by omega), fun _ => c_X5_offer hs (fun S' p => hq S' p), fun _ => ⟨fun _ => hq S jse.rfl, fun _ => ⟨fun _ => loop sz 0 _ _ S (by omega) jse.rfl, fun _ => hq S jse.rfl⟩⟩⟩⟩
end jSoon1
