/-! THE CONSTRUCTOR of the class -/
def XC (S : jM) (x : Nat) (l : List (Nat × Nat)) : Prop := jk S x = 10 ∧ ji S x = (fun _ => 0) ∧ ∀ p ∈ l, jr S x p.1 = some p.2
theorem XC.cs {S S' : jM} {x : Nat} {l : List (Nat × Nat)} (h : XC S x l) (hc : jcs S S' x) : XC S' x l := ⟨hc.1.trans h.1, hc.2.2.1.trans h.2.1, fun p hp => by rw [hc.2.2.2]; exact h.2.2 p hp⟩
theorem XC.putr {S : jM} {x j b : Nat} {l : List (Nat × Nat)} (h : XC S x l) (hj : ∀ p ∈ l, p.1 ≠ j) : XC (jputr S x j (some b)) x ((j, b) :: l) := by
  refine ⟨h.1, h.2.1, fun p hp => ?_⟩
  rw [jr_putr]
  rcases List.mem_cons.mp hp with rfl | hp
  · rw [if_pos ⟨rfl, rfl⟩]
  · rw [if_neg (fun c => hj p hp c.2)]; exact h.2.2 p hp
/-- a field gets its object, a new cell comes -/
theorem XC.step {S : jM} {x N j b kd n : Nat} {l : List (Nat × Nat)} (h : XC S x l) (hj : ∀ p ∈ l, p.1 ≠ j) (hn : jn S = N) (hx : x < N) :
    XC (jnew (jputr S x j (some b)) kd n) x ((j, b) :: l) ∧ jn (jnew (jputr S x j (some b)) kd n) = N + 1 ∧ jk (jnew (jputr S x j (some b)) kd n) N = kd ∧ jl (jnew (jputr S x j (some b)) kd n) N = n ∧ ji (jnew (jputr S x j (some b)) kd n) N = (fun _ => 0) ∧ jr (jnew (jputr S x j (some b)) kd n) N = (fun _ => none) ∧ ∀ y, y < N → y ≠ x → jcs S (jnew (jputr S x j (some b)) kd n) y := by
  have nn : jn (jputr S x j (some b)) = N := hn
  refine ⟨(h.putr hj).cs (jcs.new (by rw [nn]; omega)), by show jn S + 1 = _; rw [hn], ?_, ?_, ?_, ?_, fun y hy hyx => (jcs.putr hyx).trans (jcs.new (by rw [nn]; omega))⟩
  · rw [jk_newE, if_pos nn.symm]
  · rw [jl_newE, if_pos nn.symm]
  · rw [ji_newE, if_pos nn.symm]
  · rw [jr_newE, if_pos nn.symm]
/-- what the class's object is made of, for good -/
def CL (S : jM) (x : Nat) : Prop :=
  jk S x = 10 ∧ (jr S x 0 = some (x + 1) ∧ jr S x 1 = some (x + 21) ∧ jr S x 3 = some (x + 41) ∧ jr S x 4 = some (x + 52) ∧ jr S x 5 = some (x + 60) ∧ jr S x 6 = some (x + 63) ∧ jr S x 7 = some (x + 64) ∧ jr S x 8 = some (x + 65)) ∧
  SrL S (x + 52) ∧ TpL S (x + 60) ∧ (jk S (x + 63) = 14 ∧ jl S (x + 63) = 4 ∧ ∀ i, i < 4 → jr S (x + 63) i = some (x + 66 + 2 * i)) ∧ (jk S (x + 64) = 15 ∧ jl S (x + 64) = 5 ∧ ∀ i, i < 5 → jr S (x + 64) i = some (x + 74 + 4 * i)) ∧
  (jk S (x + 65) = 12 ∧ jl S (x + 65) = 60) ∧ (∀ i, i < 4 → ShL S (x + 66 + 2 * i) (x + 67 + 2 * i)) ∧ ∀ i, i < 5 → SlL S (x + 74 + 4 * i)
/-- the fresh object's numbers -/
def CN (S : jM) (x : Nat) : Prop :=
  RmR S (x + 1) 0 v0 ∧ RmR S (x + 21) 0 v0 ∧ (∀ i, i < 14 → jr S (x + 20) i = none) ∧ (∀ i, i < 14 → jr S (x + 40) i = none) ∧ GR S (x + 41) 0 1 (fun _ _ => 0) ∧ (∀ j, ji S (x + 60) j = 0) ∧ (∀ j, ji S (x + 61) j = 0) ∧
  (∀ i, i < 4 → ji S (x + 66 + 2 * i) 0 = -1 ∧ ji S (x + 66 + 2 * i) 1 = 0 ∧ ∀ j, j < 24 → ji S (x + 67 + 2 * i) j = 0) ∧ (∀ i, i < 5 → ji S (x + 74 + 4 * i) 0 = 0) ∧ ji S x = (fun _ => 0)
section jCons4
variable {E : jEnv} {d : Nat} {S : jM}
theorem l_X10_slots {Q : jM → Prop} {x : Nat} {l : List (Nat × Nat)} (hl : (7, x + 64) ∈ l) (h : ∀ S', jn S' = x + 94 → XC S' x l → (∀ y, y < x + 74 → y ≠ x → y ≠ x + 64 → jcs S S' y) → jk S' (x + 64) = 15 → jl S' (x + 64) = 5 → (∀ i, i < 5 → jr S' (x + 64) i = some (x + 74 + 4 * i) ∧ SlL S' (x + 74 + 4 * i) ∧ ji S' (x + 74 + 4 * i) 0 = 0) → Q S') :
    ∀ (n i : Nat) (S1 : jM), i + n = 5 → jn S1 = x + 74 + 4 * i → XC S1 x l → (∀ y, y < x + 74 → y ≠ x → y ≠ x + 64 → jcs S S1 y) → jk S1 (x + 64) = 15 → jl S1 (x + 64) = 5 → (∀ k, k < i → jr S1 (x + 64) k = some (x + 74 + 4 * k) ∧ SlL S1 (x + 74 + 4 * k) ∧ ji S1 (x + 74 + 4 * k) 0 = 0) → L_X10_init_111 E (d + 2) Q x (nI i) S1 (73 + 4 * i) (1006 + 38 * i) := by
  intro n
  induction n with
  | zero =>
    intro i S1 hi hn hx hs k1 k2 k3
    obtain rfl : i = 5 := by omega
    exact T_X10_init_111 ⟨fun _ => ⟨by decide, h S1 hn hx hs k1 k2 k3⟩, fun c => absurd (by decide) c⟩
  | succ n ih =>
    intro i S1 hi hn hx hs k1 k2 k3
    refine T_X10_init_111 ⟨fun c => absurd c (nI_ge (b := 5) (by omega) (by omega)), fun _ => ⟨hx.1, x + 64, hx.2.2 _ hl, ⟨by omega, by omega⟩, fun q hq => ⟨⟨by omega, by omega⟩, ?_⟩⟩⟩
    have hq : q = x + 74 + 4 * i := hq.trans hn
    subst hq
    refine c_X7_init (S := jnew S1 7 0) (by rw [jk_newE, if_pos hn.symm]) (by show jn S1 + 1 = _; rw [hn]) (by rw [ji_newE, if_pos hn.symm]) (fun S2 n2 s2 hsl h0 => ?_)
    have st : ∀ y, y < x + 74 + 4 * i → jcs S1 S2 y := fun y hy => (jcs.new (by rw [hn]; omega)).trans (s2 y hy)
    have c64 := st (x + 64) (by omega)
    refine ⟨c64.1.trans k1, hsl.1, by rw [c64.2.1, k2]; exact jin_nI (by omega) (by omega), ?_⟩
    rw [jcl (by omega), nI_1]
    have e1 : 73 + 4 * i + 1 + 3 = 73 + 4 * (i + 1) := by omega
    have e2 : 1006 + 38 * i + 4 + 34 = 1006 + 38 * (i + 1) := by omega
    rw [e1, e2]
    have sp : ∀ y, y ≠ x + 64 → jcs S2 (jputr S2 (x + 64) i (some (x + 74 + 4 * i))) y := fun y hy => jcs.putr hy
    refine ih (i + 1) _ (by omega) (by show jn S2 = _; omega) (hx.cs ((st x (by omega)).trans (sp x (by omega)))) (fun y h1 h2 h3 => (hs y h1 h2 h3).trans ((st y (by omega)).trans (sp y h3))) (c64.1.trans k1) (c64.2.1.trans k2) (fun k hk => ?_)
    by_cases hki : k = i
    · subst hki
      exact ⟨by rw [jr_putr, if_pos ⟨rfl, rfl⟩], hsl.grow (fun y h1 h2 => sp y (by omega)), h0⟩
    · obtain ⟨m1, m2, m3⟩ := k3 k (by omega)
      refine ⟨by rw [jr_putr, if_neg (fun c => hki c.2), c64.2.2.2]; exact m1, m2.grow (fun y h1 h2 => (st y (by omega)).trans (sp y (by omega))), ?_⟩
      show ji S2 (x + 74 + 4 * k) 0 = 0
      rw [(st (x + 74 + 4 * k) (by omega)).2.2.1]; exact m3
theorem l_X10_sheets {Q : jM → Prop} {x : Nat} {l : List (Nat × Nat)} (hl : (6, x + 63) ∈ l) (h : ∀ S', jn S' = x + 74 → XC S' x l → (∀ y, y < x + 66 → y ≠ x → y ≠ x + 63 → jcs S S' y) → jk S' (x + 63) = 14 → jl S' (x + 63) = 4 → (∀ i, i < 4 → jr S' (x + 63) i = some (x + 66 + 2 * i) ∧ ShR S' (x + 66 + 2 * i) (x + 67 + 2 * i) (-1) 0 (fun _ => 0)) → L_X10_init_111 E (d + 2) Q x 0 S' 73 1006) :
    ∀ (n i : Nat) (S1 : jM), i + n = 4 → jn S1 = x + 66 + 2 * i → XC S1 x l → (∀ y, y < x + 66 → y ≠ x → y ≠ x + 63 → jcs S S1 y) → jk S1 (x + 63) = 14 → jl S1 (x + 63) = 4 → (∀ k, k < i → jr S1 (x + 63) k = some (x + 66 + 2 * k) ∧ ShR S1 (x + 66 + 2 * k) (x + 67 + 2 * k) (-1) 0 (fun _ => 0)) → L_X10_init_85 E (d + 2) Q x (nI i) S1 (65 + 2 * i) (898 + 27 * i) := by
  intro n
  induction n with
  | zero =>
    intro i S1 hi hn hx hs k1 k2 k3
    obtain rfl : i = 4 := by omega
    exact T_X10_init_85 ⟨fun _ => h S1 hn hx hs k1 k2 k3, fun c => absurd (by decide) c⟩
  | succ n ih =>
    intro i S1 hi hn hx hs k1 k2 k3
    refine T_X10_init_85 ⟨fun c => absurd c (nI_ge (b := 4) (by omega) (by omega)), fun _ => ⟨hx.1, x + 63, hx.2.2 _ hl, ⟨by omega, by omega⟩, fun q hq => ⟨⟨by omega, by omega⟩, ?_⟩⟩⟩
    have hq : q = x + 66 + 2 * i := hq.trans hn
    subst hq
    refine c_X6_init (S := jnew S1 6 0) (by rw [jk_newE, if_pos hn.symm]) (by show _ < jn S1 + 1; omega) (by rw [ji_newE, if_pos hn.symm]) (fun S2 n2 s2 hsh => ?_)
    have nn : jn (jnew S1 6 0) = x + 67 + 2 * i := by show jn S1 + 1 = _; omega
    rw [nn] at n2 s2 hsh
    have st : ∀ y, y < x + 66 + 2 * i → jcs S1 S2 y := fun y hy => (jcs.new (by rw [hn]; omega)).trans (s2 y (by omega) (by omega))
    have c63 := st (x + 63) (by omega)
    refine ⟨c63.1.trans k1, hsh.1.1, by rw [c63.2.1, k2]; exact jin_nI (by omega) (by omega), ?_⟩
    rw [jcl (by omega), nI_1]
    have e1 : 65 + 2 * i + 1 + 1 = 65 + 2 * (i + 1) := by omega
    have e2 : 898 + 27 * i + 3 + 24 = 898 + 27 * (i + 1) := by omega
    rw [e1, e2]
    have sp : ∀ y, y ≠ x + 63 → jcs S2 (jputr S2 (x + 63) i (some (x + 66 + 2 * i))) y := fun y hy => jcs.putr hy
    refine ih (i + 1) _ (by omega) (by show jn S2 = _; omega) (hx.cs ((st x (by omega)).trans (sp x (by omega)))) (fun y h1 h2 h3 => (hs y h1 h2 h3).trans ((st y (by omega)).trans (sp y h3))) (c63.1.trans k1) (c63.2.1.trans k2) (fun k hk => ?_)
    by_cases hki : k = i
    · subst hki
      exact ⟨by rw [jr_putr, if_pos ⟨rfl, rfl⟩], hsh.grow (sp _ (by omega)) (sp _ (by omega))⟩
    · obtain ⟨m1, m2⟩ := k3 k (by omega)
      exact ⟨by rw [jr_putr, if_neg (fun c => hki c.2), c63.2.2.2]; exact m1, m2.grow ((st _ (by omega)).trans (sp _ (by omega))) ((st _ (by omega)).trans (sp _ (by omega)))⟩
/-- the parts stand still while the later ones are made -/
theorem x10_end {x : Nat} {S2 S3 S6 S7 S10 S11 S14 S15 S18 S22 S23 S24 : jM} (s3 : ∀ y, y < x + 21 → y ≠ x → jcs S2 S3 y) (s6 : ∀ y, y < x + 21 → jcs S3 S6 y) (s7 : ∀ y, y < x + 41 → y ≠ x → jcs S6 S7 y) (s10 : ∀ y, y < x + 41 → jcs S7 S10 y) (s11 : ∀ y, y < x + 52 → y ≠ x → jcs S10 S11 y) (s14 : ∀ y, y < x + 52 → jcs S11 S14 y) (s15 : ∀ y, y < x + 60 → y ≠ x → jcs S14 S15 y) (s18 : ∀ y, y < x + 60 → jcs S15 S18 y) (s22 : ∀ y, y < x + 63 → y ≠ x → jcs S18 S22 y) (s23 : ∀ y, y < x + 66 → y ≠ x → y ≠ x + 63 → jcs S22 S23 y) (s24 : ∀ y, y < x + 74 → y ≠ x → y ≠ x + 64 → jcs S23 S24 y)
    (hr2 : RmR S2 (x + 1) 0 v0) (ht2 : ∀ i, i < 14 → jr S2 (x + 20) i = none) (hr6 : RmR S6 (x + 21) 0 v0) (ht6 : ∀ i, i < 14 → jr S6 (x + 40) i = none) (hg10 : GR S10 (x + 41) 0 1 (fun _ _ => 0)) (hs14 : SrL S14 (x + 52)) (ht18 : TpL S18 (x + 60)) (z60 : ∀ j, ji S18 (x + 60) j = 0) (z61 : ∀ j, ji S18 (x + 61) j = 0)
    (x24 : XC S24 x [(8, x + 65), (7, x + 64), (6, x + 63), (5, x + 60), (4, x + 52), (3, x + 41), (1, x + 21), (0, x + 1)])
    (k63 : jk S23 (x + 63) = 14 ∧ jl S23 (x + 63) = 4) (hsh : ∀ i, i < 4 → jr S23 (x + 63) i = some (x + 66 + 2 * i) ∧ ShR S23 (x + 66 + 2 * i) (x + 67 + 2 * i) (-1) 0 (fun _ => 0)) (k64 : jk S24 (x + 64) = 15 ∧ jl S24 (x + 64) = 5) (hsl : ∀ i, i < 5 → jr S24 (x + 64) i = some (x + 74 + 4 * i) ∧ SlL S24 (x + 74 + 4 * i) ∧ ji S24 (x + 74 + 4 * i) 0 = 0) (k65 : jk S22 (x + 65) = 12 ∧ jl S22 (x + 65) = 60) :
    CL S24 x ∧ CN S24 x ∧ ∀ y, y < x → jcs S2 S24 y := by
  have t22 : ∀ y, y < x + 63 → y ≠ x → jcs S22 S24 y := fun y h1 h2 => (s23 y (by omega) h2 (by omega)).trans (s24 y (by omega) h2 (by omega))
  have t18 : ∀ y, y < x + 63 → y ≠ x → jcs S18 S24 y := fun y h1 h2 => (s22 y h1 h2).trans (t22 y h1 h2)
  have t14 : ∀ y, y < x + 60 → y ≠ x → jcs S14 S24 y := fun y h1 h2 => ((s15 y (by omega) h2).trans (s18 y (by omega))).trans (t18 y (by omega) h2)
  have t10 : ∀ y, y < x + 52 → y ≠ x → jcs S10 S24 y := fun y h1 h2 => ((s11 y (by omega) h2).trans (s14 y (by omega))).trans (t14 y (by omega) h2)
  have t6 : ∀ y, y < x + 41 → y ≠ x → jcs S6 S24 y := fun y h1 h2 => ((s7 y (by omega) h2).trans (s10 y (by omega))).trans (t10 y (by omega) h2)
  have t2 : ∀ y, y < x + 21 → y ≠ x → jcs S2 S24 y := fun y h1 h2 => ((s3 y (by omega) h2).trans (s6 y (by omega))).trans (t6 y (by omega) h2)
  have a63 := s24 (x + 63) (by omega) (by omega) (by omega)
  have a65 := (s23 (x + 65) (by omega) (by omega) (by omega)).trans (s24 (x + 65) (by omega) (by omega) (by omega))
  have hh : ∀ i, i < 4 → ShR S24 (x + 66 + 2 * i) (x + 67 + 2 * i) (-1) 0 (fun _ => 0) := fun i hi => (hsh i hi).2.grow (s24 _ (by omega) (by omega) (by omega)) (s24 _ (by omega) (by omega) (by omega))
  have hrf := x24.2.2
  have c0 := hrf (0, x + 1) (by simp)
  have c1 := hrf (1, x + 21) (by simp)
  have c3 := hrf (3, x + 41) (by simp)
  have c4 := hrf (4, x + 52) (by simp)
  have c5 := hrf (5, x + 60) (by simp)
  have c6 := hrf (6, x + 63) (by simp)
  have c7 := hrf (7, x + 64) (by simp)
  have c8 := hrf (8, x + 65) (by simp)
  have d1 : SrL S24 (x + 52) := hs14.grow (fun y h1 h2 => t14 y (by omega) (by omega))
  have d2 : TpL S24 (x + 60) := ht18.grow (fun y h1 h2 => t18 y (by omega) (by omega))
  have d3 : RmR S24 (x + 1) 0 v0 := hr2.grow (fun y h1 h2 => t2 y (by omega) (by omega))
  have d4 : RmR S24 (x + 21) 0 v0 := hr6.grow (fun y h1 h2 => t6 y (by omega) (by omega))
  have d5 : GR S24 (x + 41) 0 1 (fun _ _ => 0) := hg10.grow (fun y h1 h2 => t10 y (by omega) (by omega))
  have e20 := (t2 (x + 20) (by omega) (by omega)).2.2.2
  have e40 := (t6 (x + 40) (by omega) (by omega)).2.2.2
  have e60 := (t18 (x + 60) (by omega) (by omega)).2.2.1
  have e61 := (t18 (x + 61) (by omega) (by omega)).2.2.1
  refine ⟨⟨x24.1, ⟨c0, c1, c3, c4, c5, c6, c7, c8⟩, d1, d2, ⟨a63.1.trans k63.1, a63.2.1.trans k63.2, fun i hi => by rw [a63.2.2.2]; exact (hsh i hi).1⟩, ⟨k64.1, k64.2, fun i hi => (hsl i hi).1⟩, ⟨a65.1.trans k65.1, a65.2.1.trans k65.2⟩, fun i hi => (hh i hi).1, fun i hi => (hsl i hi).2.1⟩, ⟨d3, d4, fun i hi => by rw [e20]; exact ht2 i hi, fun i hi => by rw [e40]; exact ht6 i hi, d5, fun j => by rw [e60]; exact z60 j, fun j => by rw [e61]; exact z61 j, fun i hi => (hh i hi).2, fun i hi => (hsl i hi).2.2, x24.2.1⟩, fun y hy => t2 y (by omega) (by omega)⟩
set_option maxHeartbeats 800000 in
theorem c_X10_init {Q : jM → Prop} {x : Nat} (hk : jk S x = 10) (hq : jn S = x + 1) (h0 : ji S x = fun _ => 0) (h : ∀ S', jn S' = x + 94 → (∀ y, y < x → jcs S S' y) → CL S' x → CN S' x → Q S') : jFv E mX10_init (d + 4) 93 1196 [.ref x] S Q := by
  refine T_X10_init (fun q hqq => ?_)
  have hqq : q = x + 1 := hqq.trans hq
  subst hqq
  have s0 : ∀ y, y ≠ x + 1 → jcs S (jnew S 3 0) y := fun y hy => jcs.new (by rw [hq]; exact hy)
  refine c_X3_init (S := jnew S 3 0) (by rw [jk_newE]; exact if_pos hq.symm) (by show jn S + 1 = _; omega) (by rw [ji_newE]; exact if_pos hq.symm) (fun S2 n2 s2 hr2 ht2 => ?_)
  have x2 : XC S2 x [] := by
    have c := (s0 x (by omega)).trans (s2 x (by omega))
    exact ⟨c.1.trans hk, c.2.2.1.trans h0, fun p hp => absurd hp List.not_mem_nil⟩
  refine ⟨x2.1, fun q hq2 => ?_⟩
  have hq2 : q = x + 21 := hq2.trans n2
  subst hq2
  obtain ⟨x3, n3, k3, -, i3, -, s3⟩ := x2.step (j := 0) (b := x + 1) (kd := 3) (n := 0) (fun p hp => absurd hp List.not_mem_nil) n2 (by omega)
  generalize jnew (jputr S2 x 0 (some (x + 1))) 3 0 = S3 at *
  refine c_X3_init (S := S3) k3 (by omega) i3 (fun S6 n6 s6 hr6 ht6 => ?_)
  have x6 := x3.cs (s6 x (by omega))
  refine ⟨x6.1, fun q hq6 => ?_⟩
  have hq6 : q = x + 41 := hq6.trans n6
  subst hq6
  obtain ⟨x7, n7, k7, -, i7, -, s7⟩ := x6.step (j := 1) (b := x + 21) (kd := 0) (n := 0) (by simp) n6 (by omega)
  generalize jnew (jputr S6 x 1 (some (x + 21))) 0 0 = S7 at *
  refine c_X0_init (S := S7) k7 (by omega) i7 (fun S10 n10 s10 hg10 => ?_)
  have x10 := x7.cs (s10 x (by omega))
  refine ⟨x10.1, fun q hq10 => ?_⟩
  have hq10 : q = x + 52 := hq10.trans n10
  subst hq10
  obtain ⟨x11, n11, k11, -, i11, -, s11⟩ := x10.step (j := 3) (b := x + 41) (kd := 5) (n := 0) (by simp) n10 (by omega)
  generalize jnew (jputr S10 x 3 (some (x + 41))) 5 0 = S11 at *
  refine c_X5_init (S := S11) k11 (by omega) (fun S14 n14 s14 hs14 => ?_)
  have x14 := x11.cs (s14 x (by omega))
  refine ⟨x14.1, fun q hq14 => ?_⟩
  have hq14 : q = x + 60 := hq14.trans n14
  subst hq14
  obtain ⟨x15, n15, k15, -, i15, -, s15⟩ := x14.step (j := 4) (b := x + 52) (kd := 8) (n := 0) (by simp) n14 (by omega)
  generalize jnew (jputr S14 x 4 (some (x + 52))) 8 0 = S15 at *
  refine c_X8_init (S := S15) k15 (by omega) i15 (fun S18 n18 s18 ht18 z60 z61 => ?_)
  have x18 := x15.cs (s18 x (by omega))
  refine ⟨x18.1, fun q hq18 => ?_⟩
  have hq18 : q = x + 63 := hq18.trans n18
  subst hq18
  obtain ⟨x19, n19, k19, l19, -, r19, s19⟩ := x18.step (j := 5) (b := x + 60) (kd := 14) (n := 4) (by simp) n18 (by omega)
  generalize jnew (jputr S18 x 5 (some (x + 60))) 14 4 = S19 at *
  refine ⟨x19.1, fun q hq19 => ?_⟩
  have hq19 : q = x + 64 := hq19.trans n19
  subst hq19
  obtain ⟨x20, n20, k20, l20, -, r20, s20⟩ := x19.step (j := 6) (b := x + 63) (kd := 15) (n := 5) (by simp) n19 (by omega)
  generalize jnew (jputr S19 x 6 (some (x + 63))) 15 5 = S20 at *
  refine ⟨x20.1, fun q hq20 => ?_⟩
  have hq20 : q = x + 65 := hq20.trans n20
  subst hq20
  obtain ⟨x21, n21, k21, l21, -, -, s21⟩ := x20.step (j := 7) (b := x + 64) (kd := 12) (n := 60) (by simp) n20 (by omega)
  generalize jnew (jputr S20 x 7 (some (x + 64))) 12 60 = S21 at *
  refine ⟨x21.1, ?_⟩
  have x22 := x21.putr (j := 8) (b := x + 65) (by simp)
  have s22 : ∀ y, y ≠ x → jcs S21 (jputr S21 x 8 (some (x + 65))) y := fun y hy => jcs.putr hy
  have n22 : jn (jputr S21 x 8 (some (x + 65))) = x + 66 := n21
  generalize jputr S21 x 8 (some (x + 65)) = S22 at *
  have a63 : jcs S19 S22 (x + 63) := ((s20 _ (by omega) (by omega)).trans (s21 _ (by omega) (by omega))).trans (s22 _ (by omega))
  have a64 : jcs S20 S22 (x + 64) := (s21 _ (by omega) (by omega)).trans (s22 _ (by omega))
  have a65 : jcs S21 S22 (x + 65) := s22 _ (by omega)
  refine l_X10_sheets (S := S22) (l := _) (by simp) (fun S23 n23 x23 s23 k63 l63 hsh => ?_) 4 0 S22 (by omega) n22 x22 (fun _ _ _ _ => jcs.rfl) (a63.1.trans k19) (a63.2.1.trans l19) (fun k hk => absurd hk (by omega))
  have b64 := s23 (x + 64) (by omega) (by omega) (by omega)
  refine l_X10_slots (S := S23) (l := _) (by simp) (fun S24 n24 x24 s24 k64 l64 hsl => ?_) 5 0 S23 (by omega) n23 x23 (fun _ _ _ _ => jcs.rfl) (b64.1.trans (a64.1.trans k20)) (b64.2.1.trans (a64.2.1.trans l20)) (fun k hk => absurd hk (by omega))
  have q22 : ∀ y, y < x + 63 → y ≠ x → jcs S18 S22 y := fun y h1 h2 => (s19 y h1 h2).trans ((s20 y (Nat.lt_succ_of_lt h1) h2).trans ((s21 y (Nat.lt_succ_of_lt (Nat.lt_succ_of_lt h1)) h2).trans (s22 y h2)))
  obtain ⟨cl, cn, co⟩ := x10_end s3 s6 s7 s10 s11 s14 s15 s18 q22 s23 s24 hr2 ht2 hr6 ht6 hg10 hs14 ht18 z60 z61 x24 ⟨k63, l63⟩ hsh ⟨k64, l64⟩ hsl ⟨a65.1.trans k21, a65.2.1.trans l21⟩
  exact h S24 n24 (fun y hy => ((s0 y (Nat.ne_of_lt (Nat.lt_succ_of_lt hy))).trans (s2 y (Nat.lt_succ_of_lt hy))).trans (co y hy)) cl cn
end jCons4
