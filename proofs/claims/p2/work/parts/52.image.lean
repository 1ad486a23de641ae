/-! THE IMAGE: a realm becomes as another; the reference's rows laid aside -/
/-- ints of lo .. hi - 1 and references of the cell q may change -/
def jcr (S S' : jM) (lo hi q : Nat) : Prop := jk S' = jk S ∧ jl S' = jl S ∧ jn S' = jn S ∧ (∀ y, y ≠ q → jr S' y = jr S y) ∧ ∀ y, (y < lo ∨ hi ≤ y) → ji S' y = ji S y
section jImage
variable {E : jEnv} {d : Nat} {S : jM} {x sz : Nat} {v : Nat → Int32}
theorem RmR.refs {S' : jM} {r : Nat} (h : RmR S r sz v) (hk : jk S' = jk S) (hl : jl S' = jl S) (hi : ji S' = ji S) (hr : ∀ y, r ≤ y → y < r + 19 → jr S' y = jr S y) : RmR S' r sz v := by
  obtain ⟨⟨k1, k2, k3, k4, k5, k6, k7, k8, k9, k10⟩, a1, a2, a3, a4, a5, a6, a7, a8⟩ := h
  have cs : ∀ y, r ≤ y → y < r + 19 → jcs S S' y := fun y h1 h2 => ⟨by rw [hk], by rw [hl], by rw [hi], hr y h1 h2⟩
  have e0 := hr r (by omega) (by omega)
  refine ⟨⟨by rw [hk]; exact k1, by rw [e0]; exact k2, by rw [e0]; exact k3, by rw [e0]; exact k4, by rw [e0]; exact k5, by rw [e0]; exact k6, by rw [hk]; exact k7, by rw [hl]; exact k8, by rw [hk]; exact k9, by rw [hl]; exact k10⟩, a1, a2, a3.grow (fun y h1 h2 => cs y (by omega) (by omega)), a4.grow (fun y h1 h2 => cs y (by omega) (by omega)), a5.grow (fun y h1 h2 => cs y (by omega) (by omega)), by rw [hi]; exact a6, fun i h9 => by rw [hi]; exact a7 i h9, by rw [hi]; exact a8⟩
theorem c_X3_become {Q : jM → Prop} {r r1 sz1 : Nat} {v1 : Nat → Int32} (hR : RmR S r sz v) (hR1 : RmR S r1 sz1 v1) (hg1 : Rg sz1 v1) (hne : r + 20 ≤ r1 ∨ r1 + 20 ≤ r) (hT : ∀ i, i < 14 → ∀ b, jr S (r1 + 19) i = some b → jk S b = 9)
    (h : ∀ S', jcr S S' r (r + 19) (r + 19) → RmR S' r sz1 v1 → (∀ k, k < 14 → jr S' (r + 19) k = jr S (r1 + 19) k) → Q S') : jFv E mX3_become (d + 2) 0 0 [.ref r, .ref r1] S Q := by
  obtain ⟨⟨k1, k2, k3, k4, k5, k6, k7, k8, k9, k10⟩, a1, a2, a3, a4, a5, a6, a7, a8⟩ := id hR
  obtain ⟨⟨l1, l2, l3, l4, l5, l6, l7, l8, l9, l10⟩, b1, b2, b3, b4, b5, b6, b7, b8⟩ := id hR1
  refine T_X3_become ⟨k1, r + 1, k2, l1, r1 + 1, l2, a3.1.1, ?_⟩
  refine c_X0_become a3 b3 (by omega) (fun i hi => ?_) (fun S1 c1 g1 => ?_)
  · obtain ⟨k, hk, e⟩ := hg1.msf i 6 hi (by omega)
    have hk2 : k < 2 := hk
    rcases (show k = 0 ∨ k = 1 by omega) with rfl | rfl
    · exact Or.inl e
    · exact Or.inr e
  have K1 : jk S1 = jk S := c1.1.1
  have R1 : jr S1 = jr S := c1.1.2.2.1
  refine ⟨by rw [K1]; exact k1, r + 12, by rw [R1]; exact k3, by rw [K1]; exact l1, r1 + 12, by rw [R1]; exact l3, by rw [K1]; exact a4.1.1, ?_⟩
  refine c_X4_become (a4.keep c1 (by omega)) (b4.keep c1 (by omega)) (by omega) (fun S2 c2 g2 => ?_)
  have K2 : jk S2 = jk S := c2.1.1.trans K1
  have R2 : jr S2 = jr S := c2.1.2.2.1.trans R1
  refine ⟨by rw [K2]; exact k1, r + 15, by rw [R2]; exact k4, by rw [K2]; exact l1, r1 + 15, by rw [R2]; exact l4, by rw [K2]; exact a5.1.1, ?_⟩
  refine c_X1_become ((a5.keep c1 (by omega)).keep c2 (by omega)) ((b5.keep c1 (by omega)).keep c2 (by omega)) (by omega) (fun S3 c3 g3 => ?_)
  have K3 : jk S3 = jk S := c3.1.1.trans K2
  have R3 : jr S3 = jr S := c3.1.2.2.1.trans R2
  have L3 : jl S3 = jl S := c3.1.2.1.trans (c2.1.2.1.trans c1.1.2.1)
  have N3 : jn S3 = jn S := c3.1.2.2.2.trans (c2.1.2.2.2.trans c1.1.2.2.2)
  have I3 : ∀ y, (y < r + 1 ∨ r + 18 ≤ y) → ji S3 y = ji S y := fun y hy => (c3.2 y (by omega)).trans ((c2.2 y (by omega)).trans (c1.2 y (by omega)))
  have G3 := (g1.keep c2 (by omega)).keep c3 (by omega)
  have Q3 := g2.keep c3 (by omega)
  have n6 : Int32.toNatClampNeg 6 = 6 := rfl
  have n0 : Int32.toNatClampNeg 0 = 0 := rfl
  refine ⟨by rw [K3]; exact l1, r1 + 18, by rw [R3]; exact l5, by rw [K3]; exact k1, r + 18, by rw [R3]; exact k5, by rw [K3]; exact l7, by rw [K3]; exact k7, ⟨by decide, by decide, by decide, by rw [L3, l8]; decide, by rw [L3, k8]; decide⟩, ?_⟩
  rw [n6, n0]
  have K4 : jk (jput (jrow S3 (r + 18) (va_cpy (ji S3 (r1 + 18)) (ji S3 (r + 18)) 0 0 6)) r 4 (ji S3 r1 4)) = jk S := K3
  have L4 : jl (jput (jrow S3 (r + 18) (va_cpy (ji S3 (r1 + 18)) (ji S3 (r + 18)) 0 0 6)) r 4 (ji S3 r1 4)) = jl S := L3
  have R4 : jr (jput (jrow S3 (r + 18) (va_cpy (ji S3 (r1 + 18)) (ji S3 (r + 18)) 0 0 6)) r 4 (ji S3 r1 4)) = jr S := R3
  have N4 : jn (jput (jrow S3 (r + 18) (va_cpy (ji S3 (r1 + 18)) (ji S3 (r + 18)) 0 0 6)) r 4 (ji S3 r1 4)) = jn S := N3
  have I4 : ∀ y, y ≠ r → y ≠ r + 18 → ji (jput (jrow S3 (r + 18) (va_cpy (ji S3 (r1 + 18)) (ji S3 (r + 18)) 0 0 6)) r 4 (ji S3 r1 4)) y = ji S3 y := fun y h1 h2 => (ji_put_ne _ _ _ _ h1).trans (ji_row_ne _ _ _ h2)
  have W4 : ∀ i, i < 6 → ji (jput (jrow S3 (r + 18) (va_cpy (ji S3 (r1 + 18)) (ji S3 (r + 18)) 0 0 6)) r 4 (ji S3 r1 4)) (r + 18) i = v1 (9 + i) := fun i hi => by
    rw [ji_put_ne _ _ _ _ (by omega), ji_row_same, va_cpy0 hi, I3 (r1 + 18) (by omega)]; exact b7 i hi
  have V4 : ji (jput (jrow S3 (r + 18) (va_cpy (ji S3 (r1 + 18)) (ji S3 (r + 18)) 0 0 6)) r 4 (ji S3 r1 4)) r 4 = v1 7 := by
    rw [ji_put_same, I3 r1 (by omega)]; exact b6
  generalize jput (jrow S3 (r + 18) (va_cpy (ji S3 (r1 + 18)) (ji S3 (r + 18)) 0 0 6)) r 4 (ji S3 r1 4) = S4 at K4 L4 R4 N4 I4 W4 V4 ⊢
  have key : ∀ (n i : Nat) (S5 : jM), i + n = 14 → jk S5 = jk S4 → jl S5 = jl S4 → jn S5 = jn S4 → ji S5 = ji S4 → (∀ y, y ≠ r + 19 → jr S5 y = jr S4 y) → (∀ k, k < i → jr S5 (r + 19) k = jr S (r1 + 19) k) → L_X3_become_58 E (d + 1) Q r r1 (nI i) S5 := by
    intro n
    induction n with
    | zero =>
      intro i S5 hi K5 L5 N5 I5 O5 T5
      obtain rfl : i = 14 := by omega
      refine T_X3_become_58 ⟨fun _ => ⟨by rw [K5, K4]; exact l1, by rw [K5, K4]; exact k1, ?_⟩, fun c => absurd (by decide) c⟩
      have s6 : ji S5 r1 6 = v1 1 := by rw [I5, I4 r1 (by omega) (by omega), I3 r1 (by omega)]; exact b8
      rw [s6]
      have O5' : ∀ y, y ≠ r + 19 → jr S5 y = jr S y := fun y hy => (O5 y hy).trans (by rw [R4])
      have c5 : ∀ y, r ≤ y → y < r + 19 → y ≠ r → y ≠ r + 18 → jcs S3 (jput S5 r 6 (v1 1)) y := fun y h1 h2 h3 h4 =>
        ⟨by show jk S5 y = _; rw [K5, K4, K3], by show jl S5 y = _; rw [L5, L4, L3], by rw [ji_put_ne _ _ _ _ h3, I5]; exact I4 y h3 h4, by show jr S5 y = _; rw [O5' y (by omega), R3]⟩
      have O0 := O5' r (by omega)
      refine h _ ⟨by show jk S5 = _; rw [K5, K4], by show jl S5 = _; rw [L5, L4], by show jn S5 = _; rw [N5, N4], O5', fun y hy => ?_⟩ ⟨⟨by show jk S5 _ = _; rw [K5, K4]; exact k1, by show jr S5 _ _ = _; rw [O0]; exact k2, by show jr S5 _ _ = _; rw [O0]; exact k3, by show jr S5 _ _ = _; rw [O0]; exact k4, by show jr S5 _ _ = _; rw [O0]; exact k5, by show jr S5 _ _ = _; rw [O0]; exact k6, by show jk S5 _ = _; rw [K5, K4]; exact k7, by show jl S5 _ = _; rw [L5, L4]; exact k8, by show jk S5 _ = _; rw [K5, K4]; exact k9, by show jl S5 _ = _; rw [L5, L4]; exact k10⟩, b1, b2, G3.grow (fun y h1 h2 => c5 y (by omega) (by omega) (by omega) (by omega)), Q3.grow (fun y h1 h2 => c5 y (by omega) (by omega) (by omega) (by omega)), g3.grow (fun y h1 h2 => c5 y (by omega) (by omega) (by omega) (by omega)), ?_, fun i hi => ?_, ?_⟩ T5
      · rw [ji_put_ne _ _ _ _ (by omega), I5, I4 y (by omega) (by omega)]; exact I3 y (by omega)
      · rw [ji_put, if_neg (by omega), I5]; exact V4
      · rw [ji_put_ne _ _ _ _ (by omega), I5]; exact W4 i hi
      · rw [ji_put_same]
    | succ n ih =>
      intro i S5 hi K5 L5 N5 I5 O5 T5
      have O5' : ∀ y, y ≠ r + 19 → jr S5 y = jr S y := fun y hy => (O5 y hy).trans (by rw [R4])
      have e1 := O5' (r1 + 19) (by omega)
      have nx : ∀ o : Option Nat, o = jr S (r1 + 19) i → L_X3_become_58 E (d + 1) Q r r1 (nI (i + 1)) (jputr S5 (r + 19) i o) := by
        intro o ho
        refine ih (i + 1) _ (by omega) K5 L5 N5 I5 (fun y hy => ?_) (fun k hk => ?_)
        · rw [show jr (jputr S5 (r + 19) i o) y = jr S5 y from by funext j; rw [jr_putr, if_neg (fun c => hy c.1)]]; exact O5 y hy
        · rw [jr_putr]
          by_cases hki : k = i
          · rw [if_pos ⟨rfl, hki⟩, hki]; exact ho
          · rw [if_neg (fun c => hki c.2)]; exact T5 k (by omega)
      refine T_X3_become_58 ⟨fun c => absurd c (nI_ge (b := 14) (by omega) (by omega)), fun _ => ⟨by rw [K5, K4]; exact k1, r + 19, by rw [O5' r (by omega)]; exact k6, by rw [K5, K4]; exact l1, r1 + 19, by rw [O5' r1 (by omega)]; exact l6, by rw [K5, K4]; exact l9, by rw [L5, L4, l10]; exact jin_nI (by omega) (by omega), fun c => ⟨by rw [K5, K4]; exact k9, by rw [L5, L4, k10]; exact jin_nI (by omega) (by omega), ?_⟩, fun b c => ⟨by rw [K5, K4]; exact k9, ?_, by rw [L5, L4, k10]; exact jin_nI (by omega) (by omega), ?_⟩⟩⟩
      · rw [jcl (by omega), e1] at c
        rw [jcl (by omega), nI_1]; exact nx none c.symm
      · rw [jcl (by omega), e1] at c
        rw [K5, K4]; exact hT i (by omega) b c
      · rw [jcl (by omega), e1] at c
        rw [jcl (by omega), nI_1]; exact nx (some b) c.symm
  exact key 14 0 S4 rfl rfl rfl rfl rfl (fun _ _ => rfl) (fun k hk => absurd hk (Nat.not_lt_zero _))
/-! the reference's rows -/
theorem c_X11_setAside {Q : jM → Prop} {m a b : Nat} (ka : jk S a = 12) (la : jl S a = 3135) (kb : jk S b = 12) (lb : jl S b = 3135) (hne : a ≠ b) (h : ∀ S', jch S S' b (b + 1) → (∀ j, ji S' b j = if j < 2935 then ji S a j else ji S b j) → Q S') : jFv E mX11_setAside d 0 0 [.ref m, .ref a, .ref b] S Q := by
  have key : ∀ (n i : Nat) (S1 : jM), i + n = 2935 → jch S S1 b (b + 1) → (∀ j, ji S1 b j = if j < i then ji S a j else ji S b j) → L_X11_setAside_2 E d Q a b (nI i) S1 := by
    intro n
    induction n with
    | zero =>
      intro i S1 hi c1 r1
      obtain rfl : i = 2935 := by omega
      exact T_X11_setAside_2 ⟨fun _ => h S1 c1 r1, fun c => absurd (by decide) c⟩
    | succ n ih =>
      intro i S1 hi c1 r1
      refine T_X11_setAside_2 ⟨fun c => absurd c (nI_ge (b := 2935) (by omega) (by omega)), fun _ => ⟨by rw [c1.1.1]; exact ka, by rw [c1.1.2.1, la]; exact jin_nI (by omega) (by omega), by rw [c1.1.1]; exact kb, by rw [c1.1.2.1, lb]; exact jin_nI (by omega) (by omega), ?_⟩⟩
      rw [jcl (by omega), nI_1, c1.2 a (by omega)]
      refine ih (i + 1) _ (by omega) (c1.trans (jch.put (by omega) (by omega))) (fun j => ?_)
      rw [ji_put]
      by_cases hj : j = i
      · rw [if_pos ⟨rfl, hj⟩, if_pos (by omega), hj]
      · rw [if_neg (fun c => hj c.2), r1 j]
        by_cases hl : j < i
        · rw [if_pos hl, if_pos (by omega)]
        · rw [if_neg hl, if_neg (by omega)]
  exact T_X11_setAside (key 2935 0 S rfl jch.rfl (fun j => by rw [if_neg (by omega)]))
theorem ML.refs {S' : jM} {m : Nat} (h : ML S m) (hk : jk S' = jk S) (hl : jl S' = jl S) (hr : jr S' m = jr S m) : ML S' m := by
  refine ⟨by rw [hk]; exact h.1, fun k p hp => ?_⟩
  rw [hk, hl, hr]; exact h.2 k p hp
theorem GM.refs {S' : jM} (h : GM S x) (hk : jk S' = jk S) (hl : jl S' = jl S) (hr : jr S' (x + 94) = jr S (x + 94)) (he : ∀ y, x + 94 ≤ y → ji S' y = ji S y) : GM S' x := by
  obtain ⟨h1, a1, a2, a3, a4⟩ := h
  refine ⟨h1.refs hk hl hr, fun j => ?_, fun j => ?_, fun j hj => ?_, fun k p q r j => ?_⟩
  · rw [he _ (by omega)]; exact a1 j
  · rw [he _ (by omega)]; exact a2 j
  · rw [he _ (by omega)]; exact a3 j hj
  · rw [he _ (by omega)]; exact a4 k p q r j
theorem F_keep (h : FR S x) : jFi E mX10_keep (d + 3) 0 0 [.ref x] S (fun r S1 => jFm E mX11_keep (d + 1) (x + 94) [] S1 (fun r' _ => r = r')) := by
  have hX := h.pi.1
  have r1 := h.1.2.1.2.1
  have hI : RmR S (x + 21) 0 v0 := h.2.1.2.1
  refine T_X10_keep ⟨hX.1, x + 21, r1, x + 1, hX.2.1, hI.1.1, c_X3_become hI hX.2.2 h.pi.2.2 (by omega) (fun i hi b hb => absurd hb (by rw [h.2.1.2.2.1 i hi]; simp)) (fun S1 c1 g1 _ => ⟨by rw [c1.1]; exact hX.1, x + 21, by rw [c1.2.2.2.1 x (by omega)]; exact r1, g1.1.1, x + 22, g1.1.2.1, g1.2.2.2.1.1.1, ?_⟩)⟩
  rw [g1.2.2.2.1.2.1]
  have gm : GM (jput S1 x 2 1) x := h.gm.refs c1.1 c1.2.1 (c1.2.2.2.1 (x + 94) (by omega)) (fun y hy => (ji_put_ne _ _ _ _ (by omega)).trans (c1.2.2.2.2 y (by omega)))
  generalize jput S1 x 2 1 = S2 at gm ⊢
  have r0 := gm.row 0 3135 (f := 0) rfl
  have r1 := gm.row 1 3135 (f := 1) rfl
  refine U_X11_keep (by first | exact hM.k | exact hM1.k | exact hP.2.1.k | exact h.2.2.1.1 | exact h.1.1 | exact g1.1.1 | exact g3.1.1 | exact gm.1.1 | exact h2.1.1 | exact hM2.k | (rw [c1.1.1]; exact hP.2.1.k)) ⟨gm.1.1, _, r0.1, _, r1.1, c_X11_setAside (S := jput S2 (x + 94) 3 1) r0.2.1 r0.2.2 r1.2.1 r1.2.2 (by omega) (fun S3 c3 _ => ⟨by rw [c3.1.1]; exact gm.1.1, _, by rw [c3.1.2.2.1]; exact r0.1, by rw [c3.1.1]; exact r0.2.1, by rw [c3.1.2.1]; show vp_in 0 (jl S2 (x + 95 + 0)); rw [r0.2.2]; exact jin_nI (n := 0) (by omega) (by omega), ?_⟩)⟩
  rw [c3.2 _ (by omega), ji_put_ne _ _ _ _ (by omega)]
  exact (gm.2.2.1 0).symm
end jImage
