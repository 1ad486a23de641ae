section
/-! SOONEST: the class's search comes to its end and leaves all else -/
/-- what the search changes -/
def jse (S S' : jM) (x : Nat) : Prop := jsame S S' ∧ ∀ y, (y < x + 52 ∨ x + 60 ≤ y) → (y < x + 115 ∨ (y - x) % 3 ≠ 0) → ji S' y = ji S y
section jSoon1
variable {E : jEnv} {d : Nat} {S S' : jM} {x sz M : Nat} {v : Nat → Int32}
theorem jse.rfl : jse S S x := ⟨jsame.rfl, fun _ _ _ => _root_.rfl⟩
theorem jse.trans {S1 S2 : jM} (h1 : jse S S1 x) (h2 : jse S1 S2 x) : jse S S2 x := ⟨h1.1.trans h2.1, fun y a b => (h2.2 y a b).trans (h1.2 y a b)⟩
theorem jse.put {y j : Nat} {w : Int32} (h1 : x + 52 ≤ y) (h2 : y < x + 60) : jse S (jput S y j w) x := ⟨⟨_root_.rfl, _root_.rfl, _root_.rfl, _root_.rfl⟩, fun z _ _ => ji_put_ne _ _ _ _ (by omega)⟩
theorem jse.of (h : jpi S S' x) : jse S S' x := ⟨h.1, fun y _ b => h.2 y b⟩
theorem jse.fq (h : jse S S' x) : jfq S S' x := ⟨h.1, fun y _ _ _ _ _ _ _ g => h.2 y (by omega) g⟩
theorem IV.se (h : IV S x sz M v) (p : jse S S' x) : IV S' x sz M v := by
  obtain ⟨hX, hM, hg⟩ := id h.1
  have g : ∀ y, (y < x + 52 ∨ (x + 60 ≤ y ∧ y < x + 115)) → ji S' y = ji S y := fun y hy => p.2 y (by omega) (by omega)
  exact h.next p.fq ⟨hX.of p.1 (hX.2.2.grow (fun y a b => ⟨by rw [p.1.1], by rw [p.1.2.1], g y (by omega), by rw [p.1.2.2.1]⟩)), ⟨hM.1.same p.1, fun j => by rw [g (x + 94 + 1) (by omega)]; exact hM.2 j⟩, hg⟩ (fun _ _ _ => _root_.rfl)
theorem jwi_in {w : Int32} {n : Nat} (hn : n < 2 ^ 31) (h : ¬ jwi w (nI n) = 0) : vp_in w n := by
  rcases jwi_cases w (b := nI n) n _root_.rfl hn with ⟨j, hj, e, -⟩ | ⟨-, e⟩
  · rw [e]; exact jin_nI hj hn
  · exact absurd e h
theorem c_X5_keptOf {Q : Int32 → jM → Prop} {a b c : Int32} (hs : SrL S (x + 52)) (h : ∀ r, Q r S) : jFi E mX5_keptOf d 0 0 [.ref (x + 52), .int a, .int b, .int c] S Q := by
  have key : ∀ (n i : Nat) (y : Int32), i + n = 10 → L_X5_keptOf_12 E d Q (x + 52) b c y (nI i) S := by
    intro n
    induction n with
    | zero =>
      intro i y hi
      obtain rfl : i = 10 := by omega
      exact T_X5_keptOf_12 ⟨fun _ => h _, fun cc => absurd (by decide) cc⟩
    | succ n ih =>
      intro i y hi
      refine T_X5_keptOf_12 ⟨fun cc => absurd cc (nI_ge (b := 10) (by omega) (by omega)), fun _ => ⟨hs.1, _, (hs.2.1 5 (by omega)).1, (hs.2.1 5 (by omega)).2, ?_, ?_⟩⟩
      · show vp_in (nI i) (jl S (x + 52 + 6))
        rw [hs.2.2.2.1]; exact jin_nI (by omega) (by omega)
      · rw [nI_1]
        exact ⟨fun _ => ih (i + 1) _ (by omega), fun _ => ih (i + 1) _ (by omega)⟩
  exact T_X5_keptOf ⟨fun _ => h _, fun _ => key 10 0 a (by omega)⟩
theorem c_X5_daysTaken {Q : Int32 → jM → Prop} {j : Nat} {a k : Int32} (h : IV S x sz M v) (hj : j < 9) (hq : ∀ r S', jse S S' x → Q r S') : jFi E mX5_daysTaken (d + 4) 0 0 [.ref (x + 52), .ref (x + 1), .int a, .ref (x + 2 + 2 + j), .int k] S Q := by
  obtain ⟨⟨hX, hM, hg⟩, hC, -, -, hT, -⟩ := id h
  have hs := hC.2.2.1
  have r6 := hs.2.1 6 (by omega)
  have l99 : jl S (x + 52 + 1 + 6) = 99 := hs.2.2.2.2
  obtain ⟨o, hL⟩ := LWD_ex (key := 0) (by omega) hT
  obtain ⟨kd, hkd, ekd⟩ := hg.kd hj
  obtain ⟨tg, htg, etg⟩ := hg.ge hj
  obtain ⟨ag, hag, eag⟩ := hg.ag hj
  have days : ∀ Q' : Int32 → jM → Prop, (∀ r S', jse S S' x → Q' r S') → jFi E mX3_daysTaken (d + 3) 0 0 [.ref (x + 1), .ref (x + 2 + 2 + j), .int k] S Q' := by
    intro Q' q
    rw [nI_bv k]
    exact c_X3_daysTaken (M := M) hX.2.2 hT hL (hX.mk hj) (by omega) ((hX.ms hj (by omega)).trans ekd) ((hX.ms hj (by omega)).trans etg) ((hX.ms hj (by omega)).trans eag) hkd hag (fun S' p => q _ S' (jse.of p))
  refine T_X5_daysTaken ⟨hs.1, _, r6.1, r6.2, ?_⟩
  rw [l99]
  refine ⟨fun _ => ⟨hX.k3, days _ (fun r S' p => hq r S' p)⟩, fun c => ?_⟩
  have hin := jwi_in (by omega) c
  refine ⟨hin, fun _ => ⟨hX.k3, days _ (fun r S' p => ?_)⟩, fun _ => hq _ S jse.rfl⟩
  have hs1 := (h.se p).2.1.2.2.1
  have q6 := hs1.2.1 6 (by omega)
  have m99 : jl S' (x + 52 + 1 + 6) = 99 := hs1.2.2.2.2
  rw [m99]
  exact ⟨q6.2, hin, hs1.1, _, q6.1, q6.2, by rw [m99]; exact hin, hq _ _ (p.trans (jse.put (by omega) (by omega)))⟩
theorem c_X5_offer {Q : jM → Prop} {w : Int32} (hs : SrL S (x + 52)) (hq : ∀ S', jse S S' x → Q S') : jFv E mX5_offer (d + 1) 0 0 [.ref (x + 52), .int w] S Q := by
  have r2 := hs.2.1 2 (by omega)
  have r3 := hs.2.1 3 (by omega)
  have r4 := hs.2.1 4 (by omega)
  refine T_X5_offer ⟨fun _ => hq S jse.rfl, fun c => ?_⟩
  have hin : vp_in w 5 := jwi_in (n := 5) (by omega) c
  have i2 : vp_in w (jl S (x + 52 + 1 + 2)) := by rw [hs.2.2.1 2 (by omega)]; exact hin
  have i3 : vp_in w (jl S (x + 52 + 1 + 3)) := by rw [hs.2.2.1 3 (by omega)]; exact hin
  have i4 : vp_in w (jl S (x + 52 + 1 + 4)) := by rw [hs.2.2.1 4 (by omega)]; exact hin
  have fin : ∀ r : Int32, (r = 0 → Q S) ∧ (¬ r = 0 → jk S (x + 52) = 5 ∧ ∃ b19, jr S (x + 52) 2 = some b19 ∧ (jk S b19 = 12 ∧ vp_in w (jl S b19) ∧ (∃ b22, jr S (x + 52) 3 = some b22 ∧ (jk S b22 = 12 ∧ vp_in w (jl S b22) ∧ (∃ b25, jr S (x + 52) 4 = some b25 ∧ (jk S b25 = 12 ∧ vp_in w (jl S b25) ∧ (Q (jput (jput (jput S (x + 52) 9 (ji S b19 (Int32.toNatClampNeg w))) (x + 52) 10 (ji S b22 (Int32.toNatClampNeg w))) (x + 52) 11 (ji S b25 (Int32.toNatClampNeg w)))))))))) := fun r => ⟨fun _ => hq S jse.rfl, fun _ => ⟨hs.1, _, r2.1, r2.2, i2, _, r3.1, r3.2, i3, _, r4.1, r4.2, i4, hq _ (((jse.put (by omega) (by omega)).trans (jse.put (by omega) (by omega))).trans (jse.put (by omega) (by omega)))⟩⟩
  exact ⟨hs.1, _, r2.1, r2.2, i2, _, r3.1, r3.2, i3, _, r4.1, r4.2, i4, T_X5_isBetter ⟨hs.1, fun _ => ⟨fun _ => ⟨fun _ => fin _, fun _ => fin _⟩, fun _ => ⟨fun _ => fin _, fun _ => fin _⟩⟩, fun _ => ⟨fun _ => fin _, fun _ => fin _⟩⟩⟩
/-- from the lesson on -/
theorem t_X5_try {Q : jM → Prop} {D st j : Nat} {x3 kn ar pr fo gt : Int32} {a4 : Nat} (h : IV S x sz M v) (hD : 4 ≤ D) (hj : j < 9) (ha : a4 = x + 2 + 2 + j) (hst : st + 1 < 5) (hgt : vp_in gt 10) (G : ∀ S', jse S S' x → ∀ Q' : jM → Prop, (∀ S'', jse S' S'' x → Q' S'') → jFv E mX5_goOn D 0 0 [.ref (x + 52), .ref (x + 1), .int (nI (st + 1))] S' Q') (hq : ∀ S', jse S S' x → Q S') : jFi E mX2_teaches D 0 0 [.ref a4, .int kn] S (fun r49 S48 => (r49 = 0 → Q S48) ∧ (¬ r49 = 0 → jk S48 (x + 52) = 5 ∧ jFi E mX5_daysTaken D 0 0 [.ref (x + 52), .ref (x + 1), .int x3, .ref a4, .int (jbc kn)] S48 (fun r56 S55 => jk S55 (x + 52) = 5 ∧ ((ar + r56) ≤ (ji S55 (x + 52) 9) → ∃ b59, jr S55 (x + 52) 0 = some b59 ∧ (jk S55 a4 = 2 ∧ jk S55 b59 = 12 ∧ vp_in (nI st + 1) (jl S55 b59) ∧ (∃ b63, jr S55 (x + 52) 1 = some b63 ∧ (jFi E mX5_keptOf D 0 0 [.ref (x + 52), .int kn, .int (ar + r56), .int fo] (jput S55 b59 (Int32.toNatClampNeg (nI st + 1)) (ji S55 a4 1)) (fun r65 S64 => jk S64 a4 = 2 ∧ jFi E mX2_unlearnt D 0 0 [.ref a4] S64 (fun r68 S67 => jk S67 b63 = 12 ∧ vp_in (nI st + 1) (jl S67 b63) ∧ (jk S67 (x + 52) = 5 ∧ ∃ b72, jr S67 (x + 52) 2 = some b72 ∧ (jk S67 b72 = 12 ∧ vp_in (nI st + 1) (jl S67 b72) ∧ (∃ b75, jr S67 (x + 52) 3 = some b75 ∧ (jk S67 b75 = 12 ∧ vp_in (nI st + 1) (jl S67 b75) ∧ (∃ b78, jr S67 (x + 52) 4 = some b78 ∧ (((nI st) = 0 → jk S67 b78 = 12 ∧ vp_in (nI st + 1) (jl S67 b78) ∧ (∃ b94, jr S67 (x + 52) 5 = some b94 ∧ (jk S67 b94 = 12 ∧ vp_in gt (jl S67 b94) ∧ (∀ y97 : Int32, y97 = (ji (jput (jput (jput (jput S67 b63 (Int32.toNatClampNeg (nI st + 1)) ((r65 &&& (r68 ^^^ (-1))) ||| (jshl 1 gt))) b72 (Int32.toNatClampNeg (nI st + 1)) (ar + r56)) b75 (Int32.toNatClampNeg (nI st + 1)) pr) b78 (Int32.toNatClampNeg (nI st + 1)) x3) b94 (Int32.toNatClampNeg gt)) → (jFv E mX5_goOn D 0 0 [.ref (x + 52), .ref (x + 1), .int (nI st + 1)] (jput (jput (jput (jput (jput S67 b63 (Int32.toNatClampNeg (nI st + 1)) ((r65 &&& (r68 ^^^ (-1))) ||| (jshl 1 gt))) b72 (Int32.toNatClampNeg (nI st + 1)) (ar + r56)) b75 (Int32.toNatClampNeg (nI st + 1)) pr) b78 (Int32.toNatClampNeg (nI st + 1)) x3) b94 (Int32.toNatClampNeg gt) (ar + r56)) (fun S98 => jk S98 (x + 52) = 5 ∧ ∃ b100, jr S98 (x + 52) 5 = some b100 ∧ (jk S98 b100 = 12 ∧ vp_in gt (jl S98 b100) ∧ (Q (jput S98 b100 (Int32.toNatClampNeg gt) y97))))))))) ∧ (¬ (nI st) = 0 → jk S67 b78 = 12 ∧ vp_in (nI st) (jl S67 b78) ∧ (vp_in (nI st + 1) (jl S67 b78) ∧ (∃ b83, jr S67 (x + 52) 5 = some b83 ∧ (jk S67 b83 = 12 ∧ vp_in gt (jl S67 b83) ∧ (∀ y86 : Int32, y86 = (ji (jput (jput (jput (jput S67 b63 (Int32.toNatClampNeg (nI st + 1)) ((r65 &&& (r68 ^^^ (-1))) ||| (jshl 1 gt))) b72 (Int32.toNatClampNeg (nI st + 1)) (ar + r56)) b75 (Int32.toNatClampNeg (nI st + 1)) pr) b78 (Int32.toNatClampNeg (nI st + 1)) (ji (jput (jput (jput S67 b63 (Int32.toNatClampNeg (nI st + 1)) ((r65 &&& (r68 ^^^ (-1))) ||| (jshl 1 gt))) b72 (Int32.toNatClampNeg (nI st + 1)) (ar + r56)) b75 (Int32.toNatClampNeg (nI st + 1)) pr) b78 (Int32.toNatClampNeg (nI st)))) b83 (Int32.toNatClampNeg gt)) → (jFv E mX5_goOn D 0 0 [.ref (x + 52), .ref (x + 1), .int (nI st + 1)] (jput (jput (jput (jput (jput S67 b63 (Int32.toNatClampNeg (nI st + 1)) ((r65 &&& (r68 ^^^ (-1))) ||| (jshl 1 gt))) b72 (Int32.toNatClampNeg (nI st + 1)) (ar + r56)) b75 (Int32.toNatClampNeg (nI st + 1)) pr) b78 (Int32.toNatClampNeg (nI st + 1)) (ji (jput (jput (jput S67 b63 (Int32.toNatClampNeg (nI st + 1)) ((r65 &&& (r68 ^^^ (-1))) ||| (jshl 1 gt))) b72 (Int32.toNatClampNeg (nI st + 1)) (ar + r56)) b75 (Int32.toNatClampNeg (nI st + 1)) pr) b78 (Int32.toNatClampNeg (nI st)))) b83 (Int32.toNatClampNeg gt) (ar + r56)) (fun S87 => jk S87 (x + 52) = 5 ∧ ∃ b89, jr S87 (x + 52) 5 = some b89 ∧ (jk S87 b89 = 12 ∧ vp_in gt (jl S87 b89) ∧ (Q (jput S87 b89 (Int32.toNatClampNeg gt) y86)))))))))))))))))))))) ∧ (¬ (ar + r56) ≤ (ji S55 (x + 52) 9) → Q S55)))) := by
  subst ha
  obtain ⟨e, rfl⟩ : ∃ e, D = e + 4 := ⟨D - 4, by omega⟩
  rw [nI_1]
  have hX := h.1.1
  have k2 := hX.mk hj
  have hs := h.2.1.2.2.1
  refine c_X2_teaches (d := e + 3) k2 ⟨fun _ => hq S jse.rfl, fun _ => ⟨hs.1, c_X5_daysTaken h hj (fun r S1 p1 => ?_)⟩⟩
  have h1 := h.se p1
  have s1 := h1.2.1.2.2.1
  have l1 : ∀ k, k < 5 → ∀ i, i < 5 → vp_in (nI i) (jl S1 (x + 52 + 1 + k)) := fun k hk i hi => by rw [s1.2.2.1 k hk]; exact jin_nI hi (by omega)
  have l10 : vp_in gt (jl S1 (x + 52 + 1 + 5)) := by rw [show x + 52 + 1 + 5 = x + 52 + 6 by omega, s1.2.2.2.1]; exact hgt
  refine ⟨s1.1, fun _ => ⟨_, (s1.2.1 0 (by omega)).1, h1.1.1.mk hj, (s1.2.1 0 (by omega)).2, l1 0 (by omega) _ (by omega), _, (s1.2.1 1 (by omega)).1, c_X5_keptOf s1 (fun r2 => ⟨h1.1.1.mk hj, c_X2_unlearnt (h1.1.1.mk hj) ⟨(s1.2.1 1 (by omega)).2, l1 1 (by omega) _ (by omega), s1.1, _, (s1.2.1 2 (by omega)).1, (s1.2.1 2 (by omega)).2, l1 2 (by omega) _ (by omega), _, (s1.2.1 3 (by omega)).1, (s1.2.1 3 (by omega)).2, l1 3 (by omega) _ (by omega), _, (s1.2.1 4 (by omega)).1, fun _ => ⟨(s1.2.1 4 (by omega)).2, l1 4 (by omega) _ (by omega), _, (s1.2.1 5 (by omega)).1, (s1.2.1 5 (by omega)).2, l10, fun y _ => ?_⟩, fun _ => ⟨(s1.2.1 4 (by omega)).2, l1 4 (by omega) _ (by omega), l1 4 (by omega) _ (by omega), _, (s1.2.1 5 (by omega)).1, (s1.2.1 5 (by omega)).2, l10, fun y _ => ?_⟩⟩⟩)⟩, fun _ => hq S1 p1⟩
  all_goals
    have pp : ∀ {S0 : jM} {y j : Nat} {w : Int32}, jse S S0 x → x + 52 ≤ y → y < x + 60 → jse S (jput S0 y j w) x := fun p a b => p.trans (jse.put a b)
    refine G _ ?_ _ (fun S3 p3 => ?_)
    · exact pp (pp (pp (pp (pp (pp p1 (by omega) (by omega)) (by omega) (by omega)) (by omega) (by omega)) (by omega) (by omega)) (by omega) (by omega)) (by omega) (by omega)
    · have q3 := (pp (pp (pp (pp (pp (pp p1 (by omega) (by omega)) (by omega) (by omega)) (by omega) (by omega)) (by omega) (by omega)) (by omega) (by omega)) (by omega) (by omega)).trans p3
      have s3 := (h.se q3).2.1.2.2.1
      exact ⟨s3.1, _, (s3.2.1 5 (by omega)).1, (s3.2.1 5 (by omega)).2, by rw [show x + 52 + 1 + 5 = x + 52 + 6 by omega, s3.2.2.2.1]; exact hgt, hq _ (q3.trans (jse.put (by omega) (by omega)))⟩
theorem c_X5_tryMaster {Q : jM → Prop} {D st j : Nat} {x3 : Int32} (h : IV S x sz M v) (hD : 4 ≤ D) (hj : j < 9) (hst : st < 5) (G : st + 1 < 5 → ∀ S', jse S S' x → ∀ Q' : jM → Prop, (∀ S'', jse S' S'' x → Q' S'') → jFv E mX5_goOn D 0 0 [.ref (x + 52), .ref (x + 1), .int (nI (st + 1))] S' Q') (hq : ∀ S', jse S S' x → Q S') : jFv E mX5_tryMaster (D + 1) 0 0 [.ref (x + 52), .ref (x + 1), .int (nI st), .int x3, .ref (x + 2 + 2 + j)] S Q := by
  have hX := h.1.1
  have k2 := hX.mk hj
  have hs := h.2.1.2.2.1
  have l1 : ∀ k, k < 5 → vp_in (nI st) (jl S (x + 52 + 1 + k)) := fun k hk => by rw [hs.2.2.1 k hk]; exact jin_nI hst (by omega)
  refine T_X5_tryMaster ⟨k2, fun _ => hq S jse.rfl, fun _ => ⟨fun _ => hq S jse.rfl, fun c1 => ⟨fun _ => hq S jse.rfl, fun c2 => ⟨hX.k3, _, hX.r1, hs.1, _, (hs.2.1 0 (by omega)).1, (hs.2.1 0 (by omega)).2, l1 0 (by omega), hX.q.1.1, ?_⟩⟩⟩⟩
  have hst1 : st + 1 < 5 := by
    rw [nI_1] at c1
    rcases jwi_cases (nI (st + 1)) (b := 5) 5 _root_.rfl (by omega) with ⟨i, hi, e, -⟩ | ⟨-, e⟩
    · have := nI_inj (by omega) (by omega) e
      omega
    · exact absurd e c1
  have hgt : vp_in (ji S (x + 2 + 2 + j) 2) 10 := jwi_in (n := 10) (by omega) c2
  obtain ⟨e, rfl⟩ : ∃ e, D = e + 4 := ⟨D - 4, by omega⟩
  have few : ∀ (w u : Int32) (Q' : Int32 → jM → Prop), (∀ r, Q' r S) → jFi E mX4_fewest (e + 4) 0 0 [.ref (x + 13), .int w, .int u] S Q' := by
    intro w u Q' q
    refine T_X4_fewest ⟨fun _ => q _, fun c => ⟨fun _ => q _, fun c3 => ?_⟩⟩
    rcases jwi_cases w (b := 6) 6 _root_.rfl (by omega) with ⟨a, ha, ea, -⟩ | ⟨-, ea⟩
    · rcases jwi_cases u (b := 6) 6 _root_.rfl (by omega) with ⟨b, hb, eb, -⟩ | ⟨-, eb⟩
      · have hh : jFi E mX4_fewest (e + 4) 0 0 [.ref (x + 13), .int (nI a), .int (nI b)] S Q' := c_X4_fewest hX.q ha hb (q _)
        obtain ⟨z1, z2, z3, z4, z5, z6, z7⟩ := hX.q.1
        refine ⟨z1, _, z3, z6, ?_, q _⟩
        rw [z7, ea, eb, show (6 : Int32) = nI 6 from _root_.rfl, nI_mul, nI_add]; exact jin_nI (by omega) (by omega)
      · exact absurd eb c3
    · exact absurd ea c
  refine few _ _ _ (fun r => ⟨hs.1, _, (hs.2.1 2 (by omega)).1, (hs.2.1 2 (by omega)).2, l1 2 (by omega), hX.k3, _, hX.r2, hX.l.1.1, fun _ => ⟨_, (hs.2.1 1 (by omega)).1, (hs.2.1 1 (by omega)).2, l1 1 (by omega), _, (hs.2.1 3 (by omega)).1, (hs.2.1 3 (by omega)).2, l1 3 (by omega), k2, fun _ => ⟨fun _ => hq S jse.rfl, fun _ => ⟨fun _ => hq S jse.rfl, fun _ => ⟨fun _ => ?_, fun _ => hq S jse.rfl⟩⟩⟩, fun _ => hq S jse.rfl⟩, fun _ => ⟨_, (hs.2.1 1 (by omega)).1, (hs.2.1 1 (by omega)).2, l1 1 (by omega), c_X5_keptOf hs (fun r2 => ⟨hs.1, _, (hs.2.1 3 (by omega)).1, (hs.2.1 3 (by omega)).2, l1 3 (by omega), k2, fun _ => ⟨fun _ => hq S jse.rfl, fun _ => ⟨hX.k3, _, hX.r2, hX.l.1.1, fun _ => hq S jse.rfl, fun _ => ⟨fun _ => ?_, fun _ => hq S jse.rfl⟩⟩⟩, fun _ => hq S jse.rfl⟩)⟩⟩)
  · exact t_X5_try h (by omega) hj _root_.rfl hst1 hgt (G hst1) hq
  · exact t_X5_try h (by omega) hj _root_.rfl hst1 hgt (G hst1) hq
theorem c_X5_goOn : ∀ (c st D : Nat) (S : jM) (Q : jM → Prop), st + c = 5 → 6 + 2 * c ≤ D → IV S x sz M v → (∀ S', jse S S' x → Q S') → jFv E mX5_goOn D 0 0 [.ref (x + 52), .ref (x + 1), .int (nI st)] S Q := by
  intro c
  induction c with
  | zero =>
    intro st D S Q hst hD h hq
    obtain rfl : st = 5 := by omega
    obtain ⟨e, rfl⟩ : ∃ e, D = e + 1 := ⟨D - 1, by omega⟩
    exact T_X5_goOn ⟨fun _ => hq S jse.rfl, fun cc => absurd (by decide) cc⟩
  | succ c ih =>
    intro st D S Q hst hD h hq
    obtain ⟨e, rfl⟩ : ∃ e, D = e + 1 + 1 := ⟨D - 2, by omega⟩
    have hX := h.1.1
    have hz := hX.sz9
    have hs := h.2.1.2.2.1
    have loop : ∀ (n i : Nat) (x3 x4 : Int32) (S1 : jM), i + n = sz → jse S S1 x → L_X5_goOn_63 E (e + 1) Q (x + 52) (x + 1) (nI st) x3 x4 (nI i) S1 := by
      intro n
      induction n with
      | zero =>
        intro i x3 x4 S1 hi p1
        obtain rfl : i = sz := by omega
        have hX1 := (h.se p1).1.1
        refine T_X5_goOn_63 ⟨hX1.k3, _, hX1.r0, hX1.g.1.1, ?_⟩
        rw [hX1.g.2.1]
        exact ⟨fun _ => hq S1 p1, fun cc => absurd Int32.le_rfl cc⟩
      | succ n ihn =>
        intro i x3 x4 S1 hi p1
        have h1 := h.se p1
        have hX1 := h1.1.1
        refine T_X5_goOn_63 ⟨hX1.k3, _, hX1.r0, hX1.g.1.1, ?_⟩
        rw [hX1.g.2.1]
        refine ⟨fun cc => absurd cc (nI_ge (by omega) (by omega)), fun _ => c_X0_findAt hX1.g.1 hX1.g.2.1 hz (by omega) ⟨fun cc => absurd cc (by simp), fun b eb => ?_⟩⟩
        obtain rfl : x + 2 + 2 + i = b := Option.some.inj eb
        rw [nI_1]
        have tr : ∀ y : Int32, jFv E mX5_tryMaster (e + 1) 0 0 [.ref (x + 52), .ref (x + 1), .int (nI st), .int y, .ref (x + 2 + 2 + i)] S1 (fun S25 => L_X5_goOn_63 E (e + 1) Q (x + 52) (x + 1) (nI st) x3 x4 (nI (i + 1)) S25) := fun y =>
          c_X5_tryMaster h1 (by omega) (by omega) (by omega) (fun hst1 S2 p2 Q' q' => ih (st + 1) e S2 Q' (by omega) (by omega) (h1.se p2) q') (fun S2 p2 => ihn (i + 1) x3 x4 S2 (by omega) (p1.trans p2))
        exact ⟨fun _ => ⟨(h1.2.1.2.2.1).1, tr _⟩, fun _ => ⟨hX1.mk (by omega), fun _ => ihn (i + 1) x3 x4 S1 (by omega) p1, fun _ => ⟨(h1.2.1.2.2.1).1, tr _⟩⟩⟩
    refine T_X5_goOn ⟨fun _ => hq S jse.rfl, fun _ => ⟨hs.1, _, (hs.2.1 1 (by omega)).1, (hs.2.1 1 (by omega)).2, by rw [hs.2.2.1 1 (by omega)]; exact jin_nI (by omega) (by omega), fun _ => c_X5_offer hs (fun S' p => hq S' p), fun _ => ⟨fun _ => hq S jse.rfl, fun _ => ⟨fun _ => loop sz 0 _ _ S (by omega) jse.rfl, fun _ => hq S jse.rfl⟩⟩⟩⟩
end jSoon1
end
section
/-! SOONEST: the reference counts all ways through -/
theorem jcl9999 (y : Int32) : ∃ k, k < 10000 ∧ jclamp y 0 9999 = nI k := by
  rw [show jclamp y 0 9999 = (if 0 ≤ y then (if y ≤ 9999 then y else 9999) else 0) from rfl]
  by_cases h1 : (0 : Int32) ≤ y
  · rw [if_pos h1]
    by_cases h2 : y ≤ 9999
    · rw [if_pos h2]
      have hlt : y < nI 10000 := Int32.lt_of_le_of_lt h2 (by decide)
      obtain ⟨j, hj, e⟩ := jofI (x := y) (n := 10000) (by omega) h1 hlt
      exact ⟨j, hj, e⟩
    · rw [if_neg h2]; exact ⟨9999, by omega, rfl⟩
  · rw [if_neg h1]; exact ⟨0, by omega, rfl⟩
/-- what the reference changes on its ways -/
def gwf (S S' : jM) (x : Nat) : Prop := jsame S S' ∧ (∀ y, y ≠ x + 94 → y ≠ x + 95 → (y < x + 110 ∨ x + 112 ≤ y) → ji S' y = ji S y) ∧ ∀ j, (j < 15 ∨ 18 ≤ j) → ji S' (x + 94) j = ji S (x + 94) j
/-- and in all -/
def gsf (S S' : jM) (x : Nat) : Prop := jsame S S' ∧ (∀ y, y ≠ x + 94 → y ≠ x + 95 → (y < x + 106 ∨ x + 109 ≤ y) → (y < x + 110 ∨ x + 112 ≤ y) → ji S' y = ji S y) ∧ ∀ j, (j < 15 ∨ 18 ≤ j) → ji S' (x + 94) j = ji S (x + 94) j
section jSoon2
variable {E : jEnv} {d : Nat} {S S' : jM} {x sz M : Nat} {v : Nat → Int32}
theorem Rg.day2 {n : Int32} (hg : Rg sz v) : Rg sz (vday n v) := by
  intro j hj hr
  obtain ⟨a1, a2, a3, a4⟩ := vday_at n v
  by_cases j2 : j = 2
  · subst j2
    rw [a1]; exact jcl9999 _
  · by_cases j4 : j = 4
    · subst j4; rw [a2]; exact pfold_kn 10 0 _ hg.kn
    · by_cases jr : j < 26 ∨ 36 ≤ j
      · rw [a4 j j2 j4 jr]; exact hg j hj hr
      · exfalso
        have := rgb_from (j - 16) (by omega)
        rw [show 16 + (j - 16) = j by omega] at this
        exact hr this
theorem gwf.rfl : gwf S S x := ⟨jsame.rfl, fun _ _ _ _ => _root_.rfl, fun _ _ => _root_.rfl⟩
theorem gwf.trans {S1 S2 : jM} (h1 : gwf S S1 x) (h2 : gwf S1 S2 x) : gwf S S2 x := ⟨h1.1.trans h2.1, fun y a b c => (h2.2.1 y a b c).trans (h1.2.1 y a b c), fun j hj => (h2.2.2 j hj).trans (h1.2.2 j hj)⟩
theorem gsf.rfl : gsf S S x := ⟨jsame.rfl, fun _ _ _ _ _ => _root_.rfl, fun _ _ => _root_.rfl⟩
theorem gsf.trans {S1 S2 : jM} (h1 : gsf S S1 x) (h2 : gsf S1 S2 x) : gsf S S2 x := ⟨h1.1.trans h2.1, fun y a b c e => (h2.2.1 y a b c e).trans (h1.2.1 y a b c e), fun j hj => (h2.2.2 j hj).trans (h1.2.2 j hj)⟩
theorem gwf.sf (h : gwf S S' x) : gsf S S' x := ⟨h.1, fun y a b _ e => h.2.1 y a b e, h.2.2⟩
theorem gwf.row (h : jch S S' (x + 95) (x + 96)) : gwf S S' x := ⟨h.1, fun y _ b _ => h.2 y (by omega), fun j _ => by rw [h.2 _ (by omega)]⟩
theorem gsf.way (h : jch S S' (x + 106) (x + 109)) : gsf S S' x := ⟨h.1, fun y _ _ b _ => h.2 y (by omega), fun j _ => by rw [h.2 _ (by omega)]⟩
theorem gwf.fld {j : Nat} {w : Int32} (h1 : 15 ≤ j) (h2 : j < 18) : gwf S (jput S (x + 94) j w) x := ⟨⟨_root_.rfl, _root_.rfl, _root_.rfl, _root_.rfl⟩, fun y a _ _ => ji_put_ne _ _ _ _ a, fun k hk => by rw [ji_put, if_neg (by omega)]⟩
theorem MR.fld {j : Nat} {w : Int32} {u : Nat → Int32} (h : MR S (x + 94) u) : MR (jput S (x + 94) j w) (x + 94) u := ⟨h.1, fun k => by rw [ji_put_ne _ _ _ _ (by omega)]; exact h.2 k⟩
theorem ML.r12 (h : ML S (x + 94)) : jr S (x + 94) 12 = some (x + 106) ∧ jk S (x + 106) = 12 ∧ jl S (x + 106) = 36 := h.row 11 36 (f := 12) _root_.rfl
theorem ML.r13 (h : ML S (x + 94)) : jr S (x + 94) 13 = some (x + 107) ∧ jk S (x + 107) = 12 ∧ jl S (x + 107) = 135 := h.row 12 135 (f := 13) _root_.rfl
theorem ML.r14 (h : ML S (x + 94)) : jr S (x + 94) 14 = some (x + 108) ∧ jk S (x + 108) = 12 ∧ jl S (x + 108) = 4 := h.row 13 4 (f := 14) _root_.rfl
/-- one way is gone -/
theorem l_X11_goesWay {Q : Int32 → jM → Prop} {S0 : jM} {wy : Nat → Nat} (hT : TXS S0 x (x + 20) M v) (hv0 : v 0 = nI sz) (hz : sz ≤ 9) (hwy : ∀ i, i < 4 → wy i < sz ∧ ji S0 (x + 108) i = nI (wy i))
    (hq : ∀ i, i < 4 → ∀ S' u, gwf S0 S' x → MR S' (x + 94) u → (∀ j, 135 ≤ j → u j = v j) → Q (nI i) S') : ∀ (c i : Nat) (u : Nat → Int32) (x1 : Int32) (S1 : jM), i + c = 4 → gwf S0 S1 x → MR S1 (x + 94) u → Rg sz u → (∀ j, (j < 2 ∨ 36 ≤ j) → u j = v j) → L_X11_goesWay_4 E (d + 3) Q (x + 94) x1 (nI i) S1 := by
  intro c
  induction c with
  | zero =>
    intro i u x1 S1 hi g1 h1 r1 a1
    obtain rfl : i = 4 := by omega
    exact T_X11_goesWay_4 ⟨fun _ => hq 3 (by omega) S1 u g1 h1 (fun j hj => a1 j (by omega)), fun cc => absurd (by decide) cc⟩
  | succ c ih =>
    intro i u x1 S1 hi g1 h1 r1 a1
    have i4 : i < 4 := by omega
    have au : ∀ j, 135 ≤ j → u j = v j := fun j hj => a1 j (by omega)
    have m1 := h1.1
    obtain ⟨ws, ew⟩ := hwy i i4
    have w9 : wy i < 9 := by omega
    have ew1 : ji S1 (x + 108) i = nI (wy i) := by rw [g1.2.1 _ (by omega) (by omega) (by omega)]; exact ew
    have t3 := h1.at (i := 3) 3 rfl (by omega)
    obtain ⟨at_, hat, eat⟩ := r1.at_
    obtain ⟨tw, htw, etw⟩ := r1.tw w9
    refine T_X11_goesWay_4 ⟨fun cc => absurd cc (nI_ge (b := 4) (by omega) (by omega)), fun _ => ⟨m1.1, _, m1.r14.1, m1.r14.2.1, by rw [m1.r14.2.2]; exact jin_nI i4 (by omega), _, m1.r12.1, _, h1.r, h1.k1, t3.1, ?_⟩⟩
    rw [jcl (n := i) (by omega), ew1, t3.2, eat]
    refine c_X11_of (f := 1) h1 w9 (by omega) ⟨m1.r12.2.1, ?_, ?_⟩
    · rw [etw, show (6 : Int32) = nI 6 from rfl, nI_mul, nI_add, m1.r12.2.2]; exact jin_nI (by omega) (by omega)
    generalize ji S1 (x + 106) (Int32.toNatClampNeg (6 * nI at_ + mfv u (wy i) 1)) = road
    refine ⟨fun _ => hq i i4 S1 u g1 h1 au, fun _ => ⟨h1.k, c_X11_goesBy h1 r1 (fun S2 c2 h2 => ⟨h2.k, _, h2.r, ?_⟩)⟩⟩
    have r2 : Rg sz (vday road u) := r1.day2
    have a2 : ∀ j, (j < 2 ∨ 36 ≤ j) → vday road u j = v j := fun j hj => ((vday_at road u).2.2.2 j (by omega) (by omega) (by omega)).trans (a1 j hj)
    have g2 := g1.trans (gwf.row c2)
    have em2 : mfv (vday road u) (wy i) 1 = mfv u (wy i) 1 := mfv_o (fun j hj => vday_m _ _ j (by omega))
    refine c_X11_of (f := 1) h2 w9 (by omega) ⟨h2.k1, (h2.at (i := 3) 3 rfl (by omega)).1, h2.k, ?_⟩
    rw [em2]
    have h3 := h2.puts (i := 3) (w := mfv u (wy i) 1) 3 rfl (by omega)
    have c3 : jch S2 (jput S2 (x + 94 + 1) (Int32.toNatClampNeg 3) (mfv u (wy i) 1)) (x + 95) (x + 96) := jch.put (by omega) (by omega)
    have r3 : Rg sz (upd (vday road u) 3 (mfv u (wy i) 1)) := r2.put (fun _ => ⟨tw, htw, etw⟩)
    have a3 : ∀ j, (j < 2 ∨ 36 ≤ j) → upd (vday road u) 3 (mfv u (wy i) 1) j = v j := fun j hj => by rw [upd_ne _ (by omega)]; exact a2 j hj
    have g3 := g2.trans (gwf.row c3)
    generalize jput S2 (x + 94 + 1) (Int32.toNatClampNeg 3) (mfv u (wy i) 1) = S3 at h3 c3 g3 ⊢
    generalize upd (vday road u) 3 (mfv u (wy i) 1) = u3 at h3 r3 a3
    refine c_X11_canLearn h3 r3 w9 ⟨fun _ => hq i i4 S3 u3 g3 h3 (fun j hj => a3 j (by omega)), fun cc => ⟨h3.k, ?_⟩⟩
    obtain ⟨kd, hkd, ekd⟩ := r3.kd w9
    obtain ⟨g, hg10, eg⟩ := r3.ge w9
    obtain ⟨ag, hag, eag⟩ := r3.ag w9
    obtain ⟨fe, hfe, efe⟩ := r3.fe w9
    obtain ⟨kk, hkk, ekk⟩ := r3.kn
    obtain ⟨co, hco, eco⟩ := r3 5 (by omega) (by decide)
    have hfee : ∃ k, k < 10000 ∧ u3 5 - mfv u3 (wy i) 4 = nI k := by
      have hf := jcan_fee cc
      rw [eco, efe] at hf ⊢
      exact jfee hco hf hfe
    have hT3 : TXS S3 x (x + 20) M u3 := hT.same g3.1 (fun y p _ => g3.2.1 y (by omega) (by omega) (by omega)) (fun j hj _ => a3 j (by omega))
    obtain ⟨o, hL⟩ := LWD_ex (key := 0) (by omega) hT3
    obtain ⟨⟨c9, hc9⟩, ec9⟩ := jmany_le ⟨kk, hkk⟩
    have em : jmany (u3 4) = nI c9 := by rw [ekk]; exact ec9
    have tb := tdays_le (kd := kd) (ag := ag) (j := jcl99 (lwv o (3 + nI c9) (nI c9) (nI g) (nI ag))) hag (jcl99_is _).2.1
    refine c_X11_learns (o := o) h3 r3 hL w9 ekd eg eag hkd hag hg10 (by omega) em rfl hfee (fun S4 f4 o4 h4 y _ => ⟨h4.k, ?_⟩)
    have r4 : Rg sz (vle u3 (wy i) g (nI (tkd o c9 kd g ag))) := r3.le w9 hg10 (b := tkd o c9 kd g ag) rfl (Nat.lt_of_le_of_lt tb (by omega)) hfee
    have a4 : ∀ j, (j < 2 ∨ 36 ≤ j) → vle u3 (wy i) g (nI (tkd o c9 kd g ag)) j = v j := fun j hj => (vle_o hg10 (by omega)).trans (a3 j hj)
    have g4 : gwf S0 S4 x := g3.trans ⟨f4.1, fun z z1 z2 z3 => o4 z (by omega) (by omega) (by omega), fun j _ => by rw [o4 (x + 94) (by omega) (by omega) (by omega)]⟩
    generalize vle u3 (wy i) g (nI (tkd o c9 kd g ag)) = u4 at h4 r4 a4
    obtain ⟨wi, hwi, ewi⟩ := r4.wi
    refine c_X11_can h4 r4 hwi ewi ⟨fun _ => ?_, fun _ => ?_⟩
    · rw [nI_1]
      exact ih (i + 1) u4 _ S4 (by omega) g4 h4 r4 a4
    · have m4 := h4.1
      have i5 : vp_in 5 (jl S4 (x + 107)) := by rw [m4.r13.2.2]; exact jin_nI (n := 5) (by omega) (by omega)
      have j5 := (h4.at (i := 5) 5 rfl (by omega)).1
      have i0 : vp_in 0 (jl S4 (x + 108)) := by rw [m4.r14.2.2]; exact jin_nI (n := 0) (by omega) (by omega)
      have fin : ∀ a b c : Int32, Q (nI i) (jput (jput (jput S4 (x + 94) 15 a) (x + 94) 16 b) (x + 94) 17 c) := fun a b c =>
        hq i i4 _ u4 (((g4.trans (gwf.fld (by omega) (by omega))).trans (gwf.fld (by omega) (by omega))).trans (gwf.fld (by omega) (by omega))) ((h4.fld).fld).fld (fun j hj => a4 j (by omega))
      exact ⟨m4.1, _, m4.r13.1, m4.r13.2.1, i5, _, h4.r, h4.k1, j5, fun _ => ⟨_, m4.r14.1, m4.r14.2.1, i0, fin _ _ _⟩, fun _ => ⟨fun _ => ⟨_, m4.r14.1, m4.r14.2.1, i0, fin _ _ _⟩, fun _ => ⟨fun _ => ⟨fun _ => ⟨_, m4.r14.1, m4.r14.2.1, i0, fin _ _ _⟩, fun _ => ⟨fun _ => ⟨_, m4.r14.1, m4.r14.2.1, i0, fun _ => fin _ _ _, fun _ => fin _ _ _⟩, fun _ => fin _ _ _⟩⟩, fun _ => fin _ _ _⟩⟩⟩
end jSoon2
end
