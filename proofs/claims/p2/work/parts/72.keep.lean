/-! KEEP, BACK on both sides -/
section jKeep
variable {E : jEnv} {d : Nat} {S S' : jM} {x sz M : Nat} {v : Nat → Int32}
theorem CL.refs (h : CL S x) (hk : jk S' = jk S) (hl : jl S' = jl S) (hr : ∀ y, y ≠ x + 20 → y ≠ x + 40 → jr S' y = jr S y) : CL S' x := by
  obtain ⟨a1, ⟨a2, a3, a4, a5, a6, a7, a8, a9⟩, ⟨b1, b2, b3, b4, b5⟩, ⟨c1, c2, c3, c4, c5, c6, c7⟩, ⟨e1, e2, e3⟩, ⟨f1, f2, f3⟩, ⟨g1, g2⟩, hsh, hsl⟩ := h
  have q0 := hr x (by omega) (by omega)
  have q52 := hr (x + 52) (by omega) (by omega)
  have q60 := hr (x + 60) (by omega) (by omega)
  have q63 := hr (x + 63) (by omega) (by omega)
  have q64 := hr (x + 64) (by omega) (by omega)
  refine ⟨by rw [hk]; exact a1, by rw [q0]; exact ⟨a2, a3, a4, a5, a6, a7, a8, a9⟩, ⟨by rw [hk]; exact b1, fun k hk' => ?_, fun k hk' => by rw [hl]; exact b3 k hk', by rw [hl]; exact b4, by rw [hl]; exact b5⟩, ⟨by rw [hk]; exact c1, by rw [q60]; exact c2, by rw [q60]; exact c3, by rw [hk]; exact c4, by rw [hl]; exact c5, by rw [hk]; exact c6, by rw [hl]; exact c7⟩, ⟨by rw [hk]; exact e1, by rw [hl]; exact e2, by rw [q63]; exact e3⟩, ⟨by rw [hk]; exact f1, by rw [hl]; exact f2, by rw [q64]; exact f3⟩, ⟨by rw [hk]; exact g1, by rw [hl]; exact g2⟩, fun i hi => ?_, fun i hi => ?_⟩
  · rw [q52, hk]; exact b2 k hk'
  · obtain ⟨s1, s2, s3, s4⟩ := hsh i hi
    exact ⟨by rw [hk]; exact s1, by rw [hr _ (by omega) (by omega)]; exact s2, by rw [hk]; exact s3, by rw [hl]; exact s4⟩
  · obtain ⟨s1, s2, s3, s4, s5, s6, s7, s8⟩ := hsl i hi
    exact ⟨by rw [hk]; exact s1, by rw [hr _ (by omega) (by omega)]; exact s2, by rw [hr _ (by omega) (by omega)]; exact s3, by rw [hk]; exact s4, by rw [hk]; exact s5, by rw [hr _ (by omega) (by omega)]; exact s6, by rw [hk]; exact s7, by rw [hl]; exact s8⟩
theorem ML.rr0 (h : ML S (x + 94)) : jr S (x + 94) 0 = some (x + 95) := (h.2 0 (0, 3135) rfl).1
theorem ML.kk1 (h : ML S (x + 94)) : jk S (x + 95) = 12 := (h.2 0 (0, 3135) rfl).2.1
theorem ML.ll1 (h : ML S (x + 94)) : jl S (x + 95) = 3135 := (h.2 0 (0, 3135) rfl).2.2
theorem ML.refs2 {m : Nat} (h : ML S m) (hk : jk S' = jk S) (hl : jl S' = jl S) (hr : jr S' m = jr S m) : ML S' m := by
  unfold ML
  rw [hk, hl, hr]; exact h
theorem GL.refs {g : Nat} (h : GL S g) (hk : jk S' = jk S) (hl : jl S' = jl S) (hr : jr S' g = jr S g) (hr1 : jr S' (g + 1) = jr S (g + 1)) : GL S' g := by
  unfold GL
  rw [hk, hl, hr, hr1]; exact h
theorem RmR.cong {r : Nat} {v' : Nat → Int32} (h : RmR S r sz v) (he : ∀ j, j < 135 → v' j = v j) : RmR S r sz v' := by
  obtain ⟨a0, a1, a2, a3, a4, a5, a6, a7, a8⟩ := h
  refine ⟨a0, a1, by rw [he 0 (by omega)]; exact a2, ?_, a4.cong (fun i hi => he _ (by omega)), ?_, by rw [he 7 (by omega)]; exact a6, fun i hi => by rw [he _ (by omega)]; exact a7 i hi, by rw [he 1 (by omega)]; exact a8⟩
  · rw [he 8 (by omega)]
    exact a3.cong (fun i hi f hf => (he _ (by omega)).symm)
  · rw [he 3 (by omega), he 4 (by omega), he 5 (by omega), he 6 (by omega), he 2 (by omega)]
    exact a5.cong (fun i hi => (he _ (by omega)).symm) (fun i hi => (he _ (by omega)).symm)
theorem Rg.cong {v' : Nat → Int32} (h : Rg sz v) (he : ∀ j, j < 135 → v' j = v j) : Rg sz v' := fun j hj hb => by rw [he j hj]; exact h j hj hb
theorem Q_keep (h : IV S x sz M v) : jFi E mX10_keep (d + 3) 0 0 [.ref x] S (fun r S1 => jFm E mX11_keep (d + 3) (x + 94) [] S1 (fun r' S2 => r = r' ∧ INV S2 x M)) := by
  obtain ⟨⟨hX, hM, hg⟩, hC, hGL, hjn, hT, hI, hS, hSl, hW, hTp⟩ := id h
  obtain ⟨szi, vi, i1, i2, i3⟩ := hI
  have m := hM.1
  have hz := hT.choose_spec.2.2.2
  refine T_X10_keep ⟨hX.1, _, hC.2.1.2.1, _, hX.2.1, i1.1.1, ?_⟩
  refine c_X3_become i1 hX.2.2 hg (by omega) (fun t ht b hb => (hz t ht b hb).1) (fun S1 c1 r1 t1 => ?_)
  obtain ⟨ck, cl, cn, cr, ci⟩ := c1
  refine ⟨by rw [ck]; exact hX.1, _, by rw [cr _ (by omega)]; exact hC.2.1.2.1, r1.1.1, _, r1.1.2.1, r1.2.2.2.1.1.1, ?_⟩
  have e1 : ji S1 (x + 21 + 1) 1 = nI sz := r1.2.2.2.1.2.1
  rw [e1]
  have m1 : ML S1 (x + 94) := m.refs2 ck cl (cr _ (by omega))
  have m2 : ML (jput (jput S1 x 2 1) (x + 94) 3 1) (x + 94) := m1
  refine U_X11_keep m1.1 ⟨m1.1, _, m2.rr0, _, m2.r1.1, ?_⟩
  refine c_X11_setAside m2.kk1 m2.ll1 m2.r1.2.1 m2.r1.2.2 (by omega) (fun S4 c4 b4 => ?_)
  have m4 := m2.same c4.1
  have k4 : jk S4 = jk S := c4.1.1.trans ck
  have l4 : jl S4 = jl S := c4.1.2.1.trans cl
  have n4 : jn S4 = jn S := c4.1.2.2.2.trans cn
  have r4 : ∀ y, y ≠ x + 40 → jr S4 y = jr S y := fun y hy => by rw [c4.1.2.2.1]; exact cr y (by omega)
  have r40 : ∀ t, t < 14 → jr S4 (x + 40) t = jr S (x + 20) t := fun t ht => by rw [c4.1.2.2.1]; exact t1 t ht
  have o4 : ∀ y, (y < x + 21 ∨ x + 40 ≤ y) → y ≠ x → y ≠ x + 94 → y ≠ x + 96 → ji S4 y = ji S y := fun y p q r s => by
    rw [c4.2 y (by omega), ji_put_ne _ _ _ _ r, ji_put_ne _ _ _ _ q]; exact ci y (by omega)
  have ox : ∀ j, ji S4 x j = if j = 2 then 1 else ji S x j := fun j => by
    rw [c4.2 x (by omega), ji_put_ne _ _ _ _ (by omega), ji_put]
    by_cases e : j = 2
    · rw [if_pos ⟨rfl, e⟩, if_pos e]
    · rw [if_neg (fun c => e c.2), if_neg e, ci x (by omega)]
  have om : ∀ j, ji S4 (x + 94) j = if j = 3 then 1 else ji S (x + 94) j := fun j => by
    rw [c4.2 (x + 94) (by omega), ji_put]
    by_cases e : j = 3
    · rw [if_pos ⟨rfl, e⟩, if_pos e]
    · rw [if_neg (fun c => e c.2), if_neg e, ji_put_ne _ _ _ _ (by omega), ci _ (by omega)]
  have o95 : ∀ j, ji S4 (x + 95) j = v j := fun j => by rw [o4 _ (by omega) (by omega) (by omega) (by omega)]; exact hM.2 j
  refine ⟨m4.1, _, m4.rr0, m4.kk1, ?_, ?_, sz, v, ⟨⟨by rw [k4]; exact hX.1, by rw [r4 _ (by omega)]; exact hX.2.1, hX.2.2.grow (fun y p q => ⟨by rw [k4], by rw [l4], o4 y (by omega) (by omega) (by omega) (by omega), r4 y (by omega)⟩)⟩, ⟨m4, o95⟩, hg⟩, hC.refs k4 l4 (fun y _ q => r4 y q), hGL.refs k4 l4 (r4 _ (by omega)) (r4 _ (by omega)), by rw [n4]; exact hjn, ?_, ⟨sz, v, ?_, fun t ht b hb => ?_, Or.inr ⟨?_, ?_, hg, fun j hj => ?_, ?_⟩⟩, hS.keep (fun y hy => o4 y (by omega) (by omega) (by omega) (by omega)), hSl.keep (fun y hy => o4 y (by omega) (by omega) (by omega) (by omega)), hW.keep ?_ ?_ (o4 _ (by omega) (by omega) (by omega) (by omega)) (o4 _ (by omega) (by omega) (by omega) (by omega)), hTp.keep (by rw [o4 _ (by omega) (by omega) (by omega) (by omega)]) ?_ (o4 _ (by omega) (by omega) (by omega) (by omega)) (o4 _ (by omega) (by omega) (by omega) (by omega))⟩
  · show vp_in (nI 0) _
    rw [m4.ll1]; exact jin_nI (by omega) (by omega)
  · show nI sz = ji S4 (x + 95) 0
    rw [o95, hX.v0]
  · exact hT.move (by omega) (fun y _ => by rw [k4]) (fun y _ => by rw [l4]) (fun t _ => by rw [r4 _ (by omega)]) (fun y p _ => r4 y (by omega)) (fun y p _ _ => o4 y (by omega) (by omega) (by omega) (by omega)) (fun _ _ _ => rfl)
  · have r2 : RmR (jput (jput S1 x 2 1) (x + 94) 3 1) (x + 21) sz v := (r1.keep (jch.put (lo := x) (hi := x + 1) (by omega) (by omega)) (by omega)).keep (jch.put (lo := x + 94) (hi := x + 95) (by omega) (by omega)) (by omega)
    exact r2.keep c4 (by omega)
  · rw [r40 t ht] at hb
    rw [k4]; exact hz t ht b hb
  · rw [ox, if_pos rfl]
  · rw [om, if_pos rfl]
  · rw [b4 j, if_pos hj, ji_put_ne _ _ _ _ (by omega), ji_put_ne _ _ _ _ (by omega), ci _ (by omega)]
    exact hM.2 j
  · exact hT.move (by omega) (fun y _ => by rw [k4]) (fun y _ => by rw [l4]) r40 (fun y p _ => r4 y (by omega)) (fun y p _ _ => o4 y (by omega) (by omega) (by omega) (by omega)) (fun _ _ _ => rfl)
  · rw [ox, if_neg (by omega)]
  · rw [om, if_neg (by omega)]
  · rw [om, if_neg (by omega)]
theorem Q_back (h : IV S x sz M v) : jFi E mX10_back (d + 3) 0 0 [.ref x] S (fun r S1 => jFm E mX11_back (d + 3) (x + 94) [] S1 (fun r' S2 => r = r' ∧ INV S2 x M)) := by
  obtain ⟨⟨hX, hM, hg⟩, hC, hGL, hjn, hT, hI, hS, hSl, hW, hTp⟩ := id h
  obtain ⟨szi, vi, i1, i2, i3⟩ := hI
  have m := hM.1
  refine T_X10_back ⟨hX.1, fun c => ?_, fun c => ?_⟩
  · rcases i3 with ⟨-, j2⟩ | ⟨j1, -⟩
    · exact U_X11_back m.1 ⟨m.1, fun _ => ⟨rfl, h.inv⟩, fun c2 => absurd j2 c2⟩
    · rw [j1] at c; exact absurd c (by decide)
  · rcases i3 with ⟨j1, -⟩ | ⟨j1, j2, j3, j4, j5⟩
    · exact absurd j1 c
    · refine ⟨_, hX.2.1, _, hC.2.1.2.1, hX.k3, ?_⟩
      refine c_X3_become hX.2.2 i1 j3 (by omega) (fun t ht b hb => (i2 t ht b hb).1) (fun S1 c1 r1 t1 => ?_)
      obtain ⟨ck, cl, cn, cr, ci⟩ := c1
      refine ⟨by rw [ck]; exact hX.1, _, by rw [cr _ (by omega)]; exact hX.2.1, r1.1.1, _, r1.1.2.1, r1.2.2.2.1.1.1, ?_⟩
      have e1 : ji S1 (x + 1 + 1) 1 = nI szi := r1.2.2.2.1.2.1
      rw [e1]
      have m1 : ML S1 (x + 94) := m.refs2 ck cl (cr _ (by omega))
      refine U_X11_back m1.1 ⟨m1.1, fun c2 => ?_, fun _ => ⟨_, m1.r1.1, _, m1.rr0, ?_⟩⟩
      · rw [ci _ (by omega), j2] at c2; exact absurd c2 (by decide)
      refine c_X11_setAside m1.r1.2.1 m1.r1.2.2 m1.kk1 m1.ll1 (by omega) (fun S4 c4 b4 => ?_)
      have m4 := m1.same c4.1
      have k4 : jk S4 = jk S := c4.1.1.trans ck
      have l4 : jl S4 = jl S := c4.1.2.1.trans cl
      have n4 : jn S4 = jn S := c4.1.2.2.2.trans cn
      have r4 : ∀ y, y ≠ x + 20 → jr S4 y = jr S y := fun y hy => by rw [c4.1.2.2.1]; exact cr y (by omega)
      have r20 : ∀ t, t < 14 → jr S4 (x + 20) t = jr S (x + 40) t := fun t ht => by
        rw [c4.1.2.2.1]
        have := t1 t ht
        rw [show x + 21 + 19 = x + 40 by omega, show x + 1 + 19 = x + 20 by omega] at this
        exact this
      have o4 : ∀ y, (y < x + 1 ∨ x + 20 ≤ y) → y ≠ x + 95 → ji S4 y = ji S y := fun y p q => by
        rw [c4.2 y (by omega)]; exact ci y (by omega)
      have e2935 : ∀ j, j < 2935 → (fun j => if j < 2935 then vi j else v j) j = vi j := fun j hj => if_pos hj
      have o95 : ∀ j, ji S4 (x + 95) j = if j < 2935 then vi j else v j := fun j => by
        have b5 : ji S4 (x + 95) j = if j < 2935 then ji S1 (x + 96) j else ji S1 (x + 95) j := b4 j
        rw [b5, ci _ (by omega), ci _ (by omega)]
        by_cases hj : j < 2935
        · rw [if_pos hj, if_pos hj]; exact j4 j hj
        · rw [if_neg hj, if_neg hj]; exact hM.2 j
      refine ⟨m4.1, _, m4.rr0, m4.kk1, ?_, ?_, szi, (fun j => if j < 2935 then vi j else v j), ⟨⟨by rw [k4]; exact hX.1, by rw [r4 _ (by omega)]; exact hX.2.1, (r1.keep c4 (by omega)).cong (fun j hj => e2935 j (by omega))⟩, ⟨m4, o95⟩, j3.cong (fun j hj => e2935 j (by omega))⟩, hC.refs k4 l4 (fun y q _ => r4 y q), hGL.refs k4 l4 (r4 _ (by omega)) (r4 _ (by omega)), by rw [n4]; exact hjn, ?_, ⟨szi, vi, ?_, fun t ht b hb => ?_, Or.inr ⟨?_, ?_, j3, fun j hj => ?_, ?_⟩⟩, hS.keep (fun y hy => o4 y (by omega) (by omega)), hSl.keep (fun y hy => o4 y (by omega) (by omega)), hW.keep (by rw [o4 _ (by omega) (by omega)]) (by rw [o4 _ (by omega) (by omega)]) (o4 _ (by omega) (by omega)) (o4 _ (by omega) (by omega)), hTp.keep (by rw [o4 _ (by omega) (by omega)]) (by rw [o4 _ (by omega) (by omega)]) (o4 _ (by omega) (by omega)) (o4 _ (by omega) (by omega))⟩
      · show vp_in (nI 0) _
        rw [m4.ll1]; exact jin_nI (by omega) (by omega)
      · show nI szi = ji S4 (x + 95) 0
        rw [o95, if_pos (by omega)]; exact i1.2.2.1.symm
      · exact j5.move (by omega) (fun y _ => by rw [k4]) (fun y _ => by rw [l4]) r20 (fun y p _ => r4 y (by omega)) (fun y p _ _ => o4 y (by omega) (by omega)) (fun j _ hj => e2935 j hj)
      · exact i1.grow (fun y p q => ⟨by rw [k4], by rw [l4], o4 y (by omega) (by omega), r4 y (by omega)⟩)
      · rw [r4 _ (by omega)] at hb
        rw [k4]; exact i2 t ht b hb
      · rw [o4 _ (by omega) (by omega)]; exact j1
      · rw [o4 _ (by omega) (by omega)]; exact j2
      · rw [o4 _ (by omega) (by omega)]; exact j4 j hj
      · exact j5.move (by omega) (fun y _ => by rw [k4]) (fun y _ => by rw [l4]) (fun t _ => by rw [r4 _ (by omega)]) (fun y p _ => r4 y (by omega)) (fun y p _ _ => o4 y (by omega) (by omega)) (fun _ _ _ => rfl)
end jKeep
