section
/-! COPY; SLOTS: LAY, ASK, ITEM, REST on both sides -/
section jSlots
variable {E : jEnv} {d : Nat} {S S' : jM} {x sz M : Nat} {v : Nat → Int32}
theorem jl_sum {p n s : Nat} (hp : p < 2 ^ 31) (hn : n < 2 ^ 31) (hs : s < 2 ^ 31) : (0 < lg_cmp ((nI p).toInt64 + (nI n).toInt64) (nI s).toInt64) ↔ s < p + n := by
  rw [jcmp_gt, nI_l hp, nI_l hn, nI_l hs, lN_add, Int64.lt_iff_toInt_lt, lN_toInt hs]
  have e : (lN (p + n)).toInt = ((p + n : Nat) : Int) := lg_ofNat_toInt (by omega)
  rw [e]; omega
theorem c_X6_hasPlaces {Q : Int32 → jM → Prop} {a n : Nat} {p m : Int32} (hk : jk S a = 6) (hn : n ≤ 24) (e : ji S a 1 = nI n) (h0 : (p < 0 ∨ m < 0 ∨ ∀ i j, i < 2 ^ 31 → j < 2 ^ 31 → p = nI i → m = nI j → n < i + j) → Q 0 S) (h1 : ∀ i j, p = nI i → m = nI j → i + j ≤ n → Q 1 S) : jFi E mX6_hasPlaces d 0 0 [.ref a, .int p, .int m] S Q := by
  refine T_X6_hasPlaces ⟨fun c => h0 (Or.inl c), fun c1 => ⟨fun c => h0 (Or.inr (Or.inl c)), fun c2 => ⟨hk, ?_⟩⟩⟩
  obtain ⟨i, hi, ei⟩ := nI_of c1
  obtain ⟨j, hj, ej⟩ := nI_of c2
  subst ei; subst ej
  rw [e]
  refine ⟨fun c => h0 (Or.inr (Or.inr (fun i' j' hi' hj' ei ej => ?_))), fun c => ?_⟩
  · have := nI_inj hj hj' ej
    have := (nI_ltI (by omega) (by omega)).mp c
    omega
  · have hjn : j ≤ n := by
      rcases Nat.lt_or_ge n j with h9 | h9
      · exact absurd (nI_lt h9 (by omega)) c
      · exact h9
    have es : nI n - nI j = nI (n - j) := by
      have e2 : nI n = nI j + nI (n - j) := by rw [nI_add]; congr 1; omega
      rw [e2, Int32.add_comm, Int32.add_sub_cancel]
    rw [es]
    refine ⟨fun c3 => h0 (Or.inr (Or.inr (fun i' j' hi' hj' ei ej => ?_))), fun c3 => h1 i j rfl rfl ?_⟩
    · have := nI_inj hj hj' ej
      have := nI_inj hi hi' ei
      have := (nI_ltI (by omega) (by omega)).mp c3
      omega
    · rcases Nat.lt_or_ge (n - j) i with h9 | h9
      · exact absurd (nI_lt h9 (by omega)) c3
      · omega
theorem Q_copy {w u t a n : Int32} (h : IV S x sz M v) : jFi E mX10_copy (d + 2) 0 0 [.ref x, .int w, .int u, .int t, .int a, .int n] S (fun r S1 => jFm E mX11_copy (d + 2) (x + 94) [.int w, .int u, .int t, .int a, .int n] S1 (fun r' S2 => r = r' ∧ INV S2 x M)) := by
  obtain ⟨⟨hX, hM, hg⟩, hC, hGL, hjn, hT, hI, hS, hSl, hW, hTp⟩ := id h
  have hk := hM.k
  have bad : jwi w 4 = 0 ∨ jwi t 4 = 0 → jFm E mX11_copy (d + 2) (x + 94) [.int w, .int u, .int t, .int a, .int n] S (fun r' S2 => kBAD = r' ∧ INV S2 x M) := by
    intro hc
    refine U_X11_copy hk ⟨fun _ => ⟨rfl, h.inv⟩, fun c => ⟨fun _ => ⟨rfl, h.inv⟩, fun c2 => ?_⟩⟩
    rcases hc with hc | hc
    · exact absurd ((jissheet_wi w).trans hc) c
    · exact absurd ((jissheet_wi t).trans hc) c2
  refine T_X10_copy ⟨hX.1, c_X10_findSheet hC (fun c => ⟨fun _ => ⟨hX.1, c_X10_findSheet hC (fun c2 => ⟨fun _ => bad (Or.inl c), fun _ _ => bad (Or.inl c)⟩) (fun _ _ _ _ => ⟨fun _ => bad (Or.inl c), fun _ _ => bad (Or.inl c)⟩)⟩, fun b e => absurd e (by simp)⟩) (fun i hi e e1 => ⟨fun c => absurd c (by simp), fun b eb => ⟨hX.1, c_X10_findSheet hC (fun c2 => ⟨fun _ => bad (Or.inr c2), fun b e => absurd e (by simp)⟩) (fun k hk4 f f1 => ⟨fun c => absurd c (by simp), fun b2 eb2 => ?_⟩)⟩⟩)⟩
  obtain rfl : x + 66 + 2 * i = b := Option.some.inj eb
  obtain rfl : x + 66 + 2 * k = b2 := Option.some.inj eb2
  subst e
  subst f
  obtain ⟨k6, r2, k12, l24⟩ := hC.sh i hi
  obtain ⟨p6, q2, p12, q24⟩ := hC.sh k hk4
  obtain ⟨so, s1, a1, a2, a3, a4, a5, a6, a7⟩ := hS i hi
  obtain ⟨sp, s2, b1, b2, b3, b4, b5, b6, b7⟩ := hS k hk4
  have hM1 := hM.1
  have ci : Int32.toNatClampNeg (nI i) = i := jcl (by omega)
  have ck : Int32.toNatClampNeg (nI k) = k := jcl (by omega)
  have hs1 : ¬ jissheet (nI i) = 0 := by rw [jissheet_wi, e1]; decide
  have hs2 : ¬ jissheet (nI k) = 0 := by rw [jissheet_wi, f1]; decide
  have in4 : ∀ y, y < 4 → vp_in (nI y) (jl S (x + 98)) := fun y hy => by rw [hM1.r4.2.2]; exact jin_nI hy (by omega)
  have neg1 : ∀ z : Int32, (z = -1 ∨ z = 0 ∨ z = 1) → (z < 0 ↔ z = -1) := by
    intro z hz
    rcases hz with rfl | rfl | rfl <;> decide
  refine ⟨k6, ?_⟩
  rw [a3, b3]
  refine ⟨fun c => U_X11_copy hk ⟨fun c => absurd c hs1, fun _ => ⟨fun c => absurd c hs2, fun _ => ⟨hk, _, hM1.r4.1, hM1.r4.2.1, in4 i hi, fun _ => ⟨rfl, h.inv⟩, fun c0 => absurd (by rw [ci, a4]; exact (neg1 so a2).mpr c) c0⟩⟩⟩, fun c => ⟨p6, fun c2 => ?_, fun c2 => ⟨fun c3 => ?_, fun c3 => ?_⟩⟩⟩
  all_goals
    have n1 : ¬ ji S (x + 98) (Int32.toNatClampNeg (nI i)) < 0 := by rw [ci, a4]; exact fun q => c ((neg1 so a2).mp q)
  · exact U_X11_copy hk ⟨fun c => absurd c hs1, fun _ => ⟨fun c => absurd c hs2, fun _ => ⟨hk, _, hM1.r4.1, hM1.r4.2.1, in4 i hi, fun c0 => absurd c0 n1, fun _ => ⟨in4 k hk4, fun c0 => absurd c0 (by rw [ck, b4, c2]; decide), fun _ => ⟨rfl, h.inv⟩⟩⟩⟩⟩
  all_goals
    have n2 : (0 : Int32) ≤ ji S (x + 98) (Int32.toNatClampNeg (nI k)) := by rw [ck, b4]; exact Int32.not_lt.mp (fun q => c2 ((neg1 sp b2).mp q))
  · -- of one sort
    have ix : ∀ (r : Int32), r = (-1000000013) → (u < 0 ∨ n < 0 ∨ a < 0 ∨ (∀ p q, p < 2 ^ 31 → q < 2 ^ 31 → u = nI p → n = nI q → s1 < p + q) ∨ (∀ p q, p < 2 ^ 31 → q < 2 ^ 31 → a = nI p → n = nI q → s2 < p + q)) → jFm E mX11_copy (d + 2) (x + 94) [.int (nI i), .int u, .int (nI k), .int a, .int n] S (fun r' S2 => r = r' ∧ INV S2 x M) := by
      intro r hr hc
      subst hr
      refine U_X11_copy hk ⟨fun c => absurd c hs1, fun _ => ⟨fun c => absurd c hs2, fun _ => ⟨hk, _, hM1.r4.1, hM1.r4.2.1, in4 i hi, fun c0 => absurd c0 n1, fun _ => ⟨in4 k hk4, fun _ => ⟨fun _ => ⟨fun _ => ⟨rfl, h.inv⟩, fun u0 => ⟨fun _ => ⟨rfl, h.inv⟩, fun a0 => ⟨fun _ => ⟨rfl, h.inv⟩, fun n0 => ⟨_, hM1.r5.1, hM1.r5.2.1, by rw [hM1.r5.2.2]; exact jin_nI hi (by omega), fun _ => ⟨rfl, h.inv⟩, fun g1 => ⟨by rw [hM1.r5.2.2]; exact jin_nI hk4 (by omega), fun g2 => ?_, fun _ => ⟨rfl, h.inv⟩⟩⟩⟩⟩⟩, fun c0 => absurd (by rw [ci, ck, a4, b4]; exact c3) c0⟩, fun c0 => absurd n2 c0⟩⟩⟩⟩
      exfalso
      obtain ⟨p, hp, ep⟩ := nI_of u0
      obtain ⟨q, hq, eq⟩ := nI_of n0
      obtain ⟨o, ho, eo⟩ := nI_of a0
      rw [ci, a6, ep, eq, jl_sum hp hq (by omega)] at g1
      rw [ck, b6, eo, eq] at g2
      have g2' : ¬ 0 < lg_cmp ((nI o).toInt64 + (nI q).toInt64) (nI s2).toInt64 := Int32.not_lt.mpr g2
      rw [jl_sum ho hq (by omega)] at g2'
      rcases hc with hc | hc | hc | hc | hc
      · exact u0 hc
      · exact n0 hc
      · exact a0 hc
      · exact g1 (hc p q hp hq ep eq)
      · exact g2' (hc o q ho hq eo eq)
    refine c_X6_hasPlaces k6 a1 a5 (fun hc => ⟨fun _ => ix _ rfl ?_, fun c => absurd rfl c⟩) (fun p q ep eq hpq => ⟨fun c => absurd c (by decide), fun _ => ⟨p6, ?_⟩⟩)
    · rcases hc with hc | hc | hc
      · exact Or.inl hc
      · exact Or.inr (Or.inl hc)
      · exact Or.inr (Or.inr (Or.inr (Or.inl hc)))
    refine c_X6_hasPlaces p6 b1 b5 (fun hc => ⟨fun _ => ix _ rfl ?_, fun c => absurd rfl c⟩) (fun o q' eo eq' hoq => ⟨fun c => absurd c (by decide), fun _ => ?_⟩)
    · rcases hc with hc | hc | hc
      · exact Or.inr (Or.inr (Or.inl hc))
      · exact Or.inr (Or.inl hc)
      · exact Or.inr (Or.inr (Or.inr (Or.inr hc)))
    subst ep; subst eq; subst eo
    have hq24 : q ≤ 24 := by omega
    obtain rfl : q = q' := by
      have hq' : q' ≤ 24 := by omega
      exact nI_inj (by omega) (by omega) eq'
    refine ⟨k6, _, r2, p6, _, q2, k12, p12, ⟨nI_pos (by omega), nI_pos (by omega), nI_pos (by omega), by rw [jcl (by omega), jcl (by omega), l24]; omega, by rw [jcl (by omega), jcl (by omega), q24]; omega⟩, ?_⟩
    rw [jcl (n := p) (by omega), jcl (n := o) (by omega), jcl (n := q) (by omega)]
    have c1 : jch S (jrow S (x + 67 + 2 * k) (va_cpy (ji S (x + 67 + 2 * i)) (ji S (x + 67 + 2 * k)) p o q)) (x + 67 + 2 * k) (x + 68 + 2 * k) := jch.row (by omega) (by omega)
    have e1 : ji (jrow S (x + 67 + 2 * k) (va_cpy (ji S (x + 67 + 2 * i)) (ji S (x + 67 + 2 * k)) p o q)) (x + 67 + 2 * k) = va_cpy (ji S (x + 67 + 2 * i)) (ji S (x + 67 + 2 * k)) p o q := ji_row_same _ _ _
    generalize jrow S (x + 67 + 2 * k) (va_cpy (ji S (x + 67 + 2 * i)) (ji S (x + 67 + 2 * k)) p o q) = S1 at c1 e1 ⊢
    have hMs := hM.keep c1 (by omega)
    have m1 := hMs.1
    have r100 : ji S1 (x + 100) = ji S (x + 100) := c1.2 _ (by omega)
    -- the second row of steps
    have lB : ∀ (S0 : jM), jch S1 S0 (x + 112) (x + 113) → (∀ j, j < q → ji S0 (x + 112) j = ji S (x + 100) (24 * i + p + j)) → ∀ (c e : Nat) (S2 : jM), e + c = q → jch S0 S2 (x + 100) (x + 101) → (∀ j, ji S2 (x + 100) j = if 24 * k + o ≤ j ∧ j < 24 * k + o + e then ji S0 (x + 112) (j - (24 * k + o)) else ji S (x + 100) j) → L_X11_copy_150 E d (fun r' S2 => nI q = r' ∧ INV S2 x M) (x + 94) (nI k) (nI o) (nI q) (nI e) S2 := by
      intro S0 c0 hc0 c
      induction c with
      | zero =>
        intro e S2 he c2 h2
        obtain rfl : e = q := by omega
        refine T_X11_copy_150 ⟨fun _ => ⟨rfl, ?_⟩, fun cc => absurd Int32.le_rfl cc⟩
        have s3 : jsame S S2 := c1.1.trans (c0.1.trans c2.1)
        have o4 : ∀ y, y ≠ x + 67 + 2 * k → y ≠ x + 100 → y ≠ x + 112 → ji S2 y = ji S y := fun y a b c => (c2.2 y (by omega)).trans ((c0.2 y (by omega)).trans (c1.2 y (by omega)))
        refine h.rst s3 (fun y hy => o4 y (by omega) (by omega) (by omega)) ⟨hI.keep s3 (by rw [o4 x (by omega) (by omega) (by omega)]) (by rw [o4 (x + 94) (by omega) (by omega) (by omega)]) (fun y hy => o4 y (by omega) (by omega) (by omega)), fun l hl => ?_, hSl.keep (fun y hy => o4 y (by omega) (by omega) (by omega)), hW.keep (by rw [o4 x (by omega) (by omega) (by omega)]) (by rw [o4 (x + 94) (by omega) (by omega) (by omega)]) (o4 _ (by omega) (by omega) (by omega)) (o4 _ (by omega) (by omega) (by omega)), hTp.keep (by rw [o4 (x + 60) (by omega) (by omega) (by omega)]) (by rw [o4 (x + 94) (by omega) (by omega) (by omega)]) (o4 _ (by omega) (by omega) (by omega)) (o4 _ (by omega) (by omega) (by omega))⟩
        obtain ⟨z, s9, d1, d2, d3, d4, d5, d6, d7⟩ := hS l hl
        refine ⟨z, s9, d1, d2, by rw [o4 _ (by omega) (by omega) (by omega)]; exact d3, by rw [o4 _ (by omega) (by omega) (by omega)]; exact d4, by rw [o4 _ (by omega) (by omega) (by omega)]; exact d5, by rw [o4 _ (by omega) (by omega) (by omega)]; exact d6, fun j hj => ?_⟩
        rw [h2 (24 * l + j)]
        by_cases hlk : l = k
        · subst hlk
          have e9 : ji S2 (x + 67 + 2 * l) = va_cpy (ji S (x + 67 + 2 * i)) (ji S (x + 67 + 2 * l)) p o e := by rw [c2.2 _ (by omega), c0.2 _ (by omega)]; exact e1
          rw [e9]
          by_cases hin : o ≤ j ∧ j < o + e
          · rw [pk_cpy_in hin.1 hin.2, if_pos (by omega), hc0 _ (by omega), show 24 * i + p + (24 * l + j - (24 * l + o)) = 24 * i + (p + (j - o)) by omega]
            exact a7 _ (by omega)
          · rw [pk_cpy_out (by omega), if_neg (by omega)]
            exact d7 j hj
        · rw [if_neg (by omega), o4 _ (by omega) (by omega) (by omega)]
          exact d7 j hj
      | succ c ih =>
        intro e S2 he c2 h2
        have m2 := (m1.same c0.1).same c2.1
        have e24 : ((24 : Int32) * nI k + nI o) + nI e = nI (24 * k + o + e) := by rw [nI_24, nI_add]
        refine T_X11_copy_150 ⟨fun cc => absurd cc (nI_ge (by omega) (by omega)), fun _ => ⟨m2.1, _, m2.r6.1, _, m2.r32.1, m2.r32.2.1, by rw [m2.r32.2.2]; exact jin_nI (by omega) (by omega), m2.r6.2.1, by rw [e24, m2.r6.2.2]; exact jin_nI (by omega) (by omega), ?_⟩⟩
        rw [e24, jcl (n := 24 * k + o + e) (by omega), jcl (n := e) (by omega), nI_1, c2.2 (x + 112) (by omega)]
        refine ih (e + 1) _ (by omega) (c2.trans (jch.put (by omega) (by omega))) (fun j => ?_)
        rw [ji_put]
        by_cases hj : j = 24 * k + o + e
        · rw [if_pos ⟨rfl, hj⟩, if_pos (by omega), hj, show 24 * k + o + e - (24 * k + o) = e by omega]
        · rw [if_neg (fun cc => hj cc.2), h2 j]
          by_cases hc : 24 * k + o ≤ j ∧ j < 24 * k + o + e
          · rw [if_pos hc, if_pos (by omega)]
          · rw [if_neg hc, if_neg (by omega)]
    have lA : ∀ (c e : Nat) (S2 : jM), e + c = q → jch S1 S2 (x + 112) (x + 113) → (∀ j, j < e → ji S2 (x + 112) j = ji S (x + 100) (24 * i + p + j)) → L_X11_copy_113 E d (fun r' S2 => nI q = r' ∧ INV S2 x M) (x + 94) (nI i) (nI p) (nI k) (nI o) (nI q) (nI e) S2 := by
      intro c
      induction c with
      | zero =>
        intro e S2 he c2 h2
        obtain rfl : e = q := by omega
        exact T_X11_copy_113 ⟨fun _ => lB S2 c2 h2 e 0 S2 (by omega) jch.rfl (fun j => by rw [if_neg (by omega), c2.2 (x + 100) (by omega), r100]), fun cc => absurd Int32.le_rfl cc⟩
      | succ c ih =>
        intro e S2 he c2 h2
        have m2 := m1.same c2.1
        have e24 : ((24 : Int32) * nI i + nI p) + nI e = nI (24 * i + p + e) := by rw [nI_24, nI_add]
        refine T_X11_copy_113 ⟨fun cc => absurd cc (nI_ge (by omega) (by omega)), fun _ => ⟨m2.1, _, m2.r32.1, _, m2.r6.1, m2.r6.2.1, by rw [e24, m2.r6.2.2]; exact jin_nI (by omega) (by omega), m2.r32.2.1, by rw [m2.r32.2.2]; exact jin_nI (by omega) (by omega), ?_⟩⟩
        rw [e24, jcl (n := 24 * i + p + e) (by omega), jcl (n := e) (by omega), nI_1, c2.2 (x + 100) (by omega), r100]
        refine ih (e + 1) _ (by omega) (c2.trans (jch.put (by omega) (by omega))) (fun j hj => ?_)
        rw [ji_put]
        by_cases hje : j = e
        · rw [if_pos ⟨rfl, hje⟩, hje]
        · rw [if_neg (fun cc => hje cc.2)]; exact h2 j (by omega)
    have o98 : ji S1 (x + 98) = ji S (x + 98) := c1.2 _ (by omega)
    have o99 : ji S1 (x + 99) = ji S (x + 99) := c1.2 _ (by omega)
    refine U_X11_copy m1.1 ⟨fun c => absurd c hs1, fun _ => ⟨fun c => absurd c hs2, fun _ => ⟨m1.1, _, m1.r4.1, m1.r4.2.1, by rw [m1.r4.2.2]; exact jin_nI hi (by omega), fun c0 => absurd (by rw [o98] at c0; exact c0) n1, fun _ => ⟨by rw [m1.r4.2.2]; exact jin_nI hk4 (by omega), fun _ => ⟨fun _ => ⟨fun c0 => absurd c0 (nI_pos (by omega)), fun _ => ⟨fun c0 => absurd c0 (nI_pos (by omega)), fun _ => ⟨fun c0 => absurd c0 (nI_pos (by omega)), fun _ => ⟨_, m1.r5.1, m1.r5.2.1, by rw [m1.r5.2.2]; exact jin_nI hi (by omega), fun g1 => ?_, fun _ => ⟨by rw [m1.r5.2.2]; exact jin_nI hk4 (by omega), fun _ => lA q 0 S1 (by omega) jch.rfl (fun j hj => absurd hj (Nat.not_lt_zero _)), fun g2 => ?_⟩⟩⟩⟩⟩, fun c0 => absurd (by rw [o98, ci, ck, a4, b4]; exact c3) c0⟩, fun c0 => absurd (by rw [o98]; exact n2) c0⟩⟩⟩⟩
    · exfalso
      rw [ci, o99, a6, jl_sum (by omega) (by omega) (by omega)] at g1
      omega
    · exfalso
      rw [ck, o99, b6] at g2
      have g3 : 0 < lg_cmp ((nI o).toInt64 + (nI q).toInt64) (nI s2).toInt64 := Int32.not_le.mp g2
      rw [jl_sum (by omega) (by omega) (by omega)] at g3
      omega
  · exact U_X11_copy hk ⟨fun c => absurd c hs1, fun _ => ⟨fun c => absurd c hs2, fun _ => ⟨hk, _, hM1.r4.1, hM1.r4.2.1, in4 i hi, fun c0 => absurd c0 n1, fun _ => ⟨in4 k hk4, fun _ => ⟨fun c0 => absurd (by rw [ci, ck, a4, b4] at c0; exact c0) c3, fun _ => ⟨rfl, h.inv⟩⟩, fun c0 => absurd n2 c0⟩⟩⟩⟩
end jSlots
end
