/-! WANTS, ROAD, MASTER on both sides -/
theorem nI_mst (i f : Nat) : (72 + 7 * nI i) + nI f = nI (72 + 7 * i + f) := by
  rw [show (72 : Int32) = nI 72 from rfl, show (7 : Int32) = nI 7 from rfl, pk_mul, nI_add, nI_add]
theorem nI_m1 (n : Nat) : nI (n + 1) - 1 = nI n := by
  have h : nI (n + 1) = nI n + 1 := (nI_add n 1).symm
  rw [h]
  apply Int32.toBitVec_inj.mp
  show (nI n).toBitVec + 1#32 - 1#32 = (nI n).toBitVec
  exact BitVec.add_sub_cancel _ _
section jLight4
variable {E : jEnv} {d : Nat} {S : jM} {x m sz : Nat} {v : Nat → Int32}
theorem P_wants {w : Int32} (hP : PI S x sz v) : jFi E mX10_wants (d + 2) 0 0 [.ref x, .int w] S (fun r S1 => jFm E mX11_wants (d + 1) (x + 94) [.int w] S1 (fun r' S2 => PO S x r r' S2)) := by
  have hX := hP.1
  have hM := hP.2.1
  obtain ⟨a0, a1, a2, a3, a4, a5, a6, a7, a8⟩ := hX.2.2
  obtain ⟨n, hn, e7⟩ := hP.2.2.wi
  have m7 := hM.at (i := 7) 7 rfl (by omega)
  refine T_X10_wants ⟨fun c => U_X11_wants (by first | exact hM.k | exact hM1.k | exact hP.2.1.k | exact h.2.2.1.1 | exact h.1.1 | exact g1.1.1 | exact g3.1.1 | exact gm.1.1 | exact h2.1.1 | exact hM2.k | (rw [c1.1.1]; exact hP.2.1.k)) ⟨fun _ => hP.same, fun c' => absurd c c'⟩, fun cw => ⟨hX.1, x + 1, hX.2.1, hX.k3, T_X3_addWish ⟨hX.k3, ?_⟩⟩⟩
  rw [a6, e7]
  by_cases h6 : n = 6
  · subst h6
    refine ⟨fun _ => ⟨fun _ => ?_, fun c => absurd rfl c⟩, fun c => absurd (by decide) c⟩
    refine U_X11_wants (by first | exact hM.k | exact hM1.k | exact hP.2.1.k | exact h.2.2.1.1 | exact h.1.1 | exact g1.1.1 | exact g3.1.1 | exact gm.1.1 | exact h2.1.1 | exact hM2.k | (rw [c1.1.1]; exact hP.2.1.k)) ⟨fun c => absurd c cw, fun _ => ⟨hM.k, _, hM.r, hM.k1, m7.1, fun _ => hP.same, fun c => absurd (m7.2.trans e7) c⟩⟩
  · have hn6 : n < 6 := by omega
    have hw1 : jwi (nI n) 6 = 1 := jwi_at (n := 6) hn6 (by omega)
    refine ⟨fun c => absurd (hw1.symm.trans c) (by decide), fun _ => ⟨x + 19, a0.2.2.2.2.1, a0.2.2.2.2.2.2.1, by rw [a0.2.2.2.2.2.2.2.1]; exact jin_nI hn6 (by omega), ⟨fun c => absurd c (by decide), fun _ => ?_⟩⟩⟩
    obtain ⟨g, hg, rfl⟩ := jisg_of cw
    rw [jcl (by omega)]
    have s1 : jsame S (jput (jput S (x + 19) n (nI g)) (x + 1) 4 (nI n + 1)) := ⟨rfl, rfl, rfl, rfl⟩
    have o1 : ∀ y, y ≠ x + 1 → y ≠ x + 19 → ji (jput (jput S (x + 19) n (nI g)) (x + 1) 4 (nI n + 1)) y = ji S y := fun y h1 h2 => by rw [ji_put_ne _ _ _ _ h1, ji_put_ne _ _ _ _ h2]
    have c1 : jch S (jput (jput S (x + 19) n (nI g)) (x + 1) 4 (nI n + 1)) (x + 1) (x + 20) := ⟨s1, fun y hy => o1 y (by omega) (by omega)⟩
    have e4 : ji (jput (jput S (x + 19) n (nI g)) (x + 1) 4 (nI n + 1)) (x + 1) 4 = nI n + 1 := by rw [ji_put, if_pos ⟨rfl, rfl⟩]
    have hr : RmR (jput (jput S (x + 19) n (nI g)) (x + 1) 4 (nI n + 1)) (x + 1) sz (upd (upd v (9 + n) (nI g)) 7 (nI n + 1)) := by
      refine hX.2.2.wish s1 o1 ?_ ?_ (fun i hi => ?_) (fun j h1 h2 => ?_)
      · rw [ji_put, if_neg (by omega), ji_put, if_neg (by omega)]
      · rw [e4, upd_at]
      · rw [ji_put, if_neg (by omega), upd_ne _ (by omega), ji_put]
        unfold upd
        by_cases hi2 : i = n
        · rw [if_pos ⟨rfl, hi2⟩, if_pos (by omega)]
        · rw [if_neg (fun c => hi2 c.2), if_neg (by omega)]; exact a7 i hi
      · rw [upd_ne _ h1, upd_ne _ (by omega)]
    have hX1 := hX.of s1 hr
    have hM1 := hM.keep c1 (by omega)
    have n7 := hM1.at (i := 7) 7 rfl (by omega)
    refine ⟨s1.1 ▸ hX.1, x + 1, hX1.2.1, hX1.k3, ?_⟩
    rw [e4]
    refine U_X11_wants (by first | exact hM.k | exact hM1.k | exact hP.2.1.k | exact h.2.2.1.1 | exact h.1.1 | exact g1.1.1 | exact g3.1.1 | exact gm.1.1 | exact h2.1.1 | exact hM2.k | (rw [c1.1.1]; exact hP.2.1.k)) ⟨fun c => absurd c cw, fun _ => ⟨hM1.k, _, hM1.r, hM1.k1, n7.1, fun c => ?_, fun _ => ?_⟩⟩
    · rw [n7.2, e7] at c
      exact absurd (nI_inj (by omega) (by omega) (show nI n = nI 6 from c)) h6
    · rw [n7.2, e7]
      have e9 : (9 : Int32) + nI n = nI (9 + n) := nI_add 9 n
      have h1 := hM1.puts (w := nI g) (9 + n) e9 (by omega)
      have k7 := h1.at (i := 7) 7 rfl (by omega)
      refine ⟨(hM1.at _ e9 (by omega)).1, ?_⟩
      rw [k7.2, upd_ne _ (by omega), e7]
      have h2 := h1.puts (i := 7) (w := nI n + 1) 7 rfl (by omega)
      have c3 : jch (jput (jput S (x + 19) n (nI g)) (x + 1) 4 (nI n + 1)) (jput (jput (jput (jput S (x + 19) n (nI g)) (x + 1) 4 (nI n + 1)) (x + 94 + 1) (Int32.toNatClampNeg (9 + nI n)) (nI g)) (x + 94 + 1) (Int32.toNatClampNeg 7) (nI n + 1)) (x + 95) (x + 96) := (jch.put (by omega) (by omega)).trans (jch.put (by omega) (by omega))
      refine ⟨rfl, (jfr.realm c1 (by omega) (by omega)).trans (jfr.row c3), tkOf hP.2.1 h2 (fun j hj => by rw [upd_ne _ (by omega), upd_ne _ (by omega)]), sz, _, hX1.of c3.1 (hr.keep c3 (by omega)), h2, (hP.2.2.put (fun _ => ⟨g, by rw [rgb_wish n hn6]; exact hg, rfl⟩)).put (fun _ => ⟨n + 1, ?_, nI_1 n⟩)⟩
      show n + 1 < 7
      omega
theorem P_road {w u t : Int32} (hP : PI S x sz v) : jFi E mX10_road (d + 3) 0 0 [.ref x, .int w, .int u, .int t] S (fun r S1 => jFm E mX11_road (d + 1) (x + 94) [.int w, .int u, .int t] S1 (fun r' S2 => PO S x r r' S2)) := by
  have hX := hP.1
  have et : jisin t.toInt64 0 9 = jwi t 10 := jisin_wi t 10 9 rfl (jle_lt (by decide))
  refine T_X10_road ⟨fun c => U_X11_road (by first | exact hM.k | exact hM1.k | exact hP.2.1.k | exact h.2.2.1.1 | exact h.1.1 | exact g1.1.1 | exact g3.1.1 | exact gm.1.1 | exact h2.1.1 | exact hM2.k | (rw [c1.1.1]; exact hP.2.1.k)) ⟨fun _ => hP.same, fun c' => absurd c c'⟩, fun cw => ⟨fun c => U_X11_road (by first | exact hM.k | exact hM1.k | exact hP.2.1.k | exact h.2.2.1.1 | exact h.1.1 | exact g1.1.1 | exact g3.1.1 | exact gm.1.1 | exact h2.1.1 | exact hM2.k | (rw [c1.1.1]; exact hP.2.1.k)) ⟨fun c' => absurd c' cw, fun _ => ⟨fun _ => hP.same, fun c' => absurd c c'⟩⟩, fun cu => ⟨fun c => U_X11_road (by first | exact hM.k | exact hM1.k | exact hP.2.1.k | exact h.2.2.1.1 | exact h.1.1 | exact g1.1.1 | exact g3.1.1 | exact gm.1.1 | exact h2.1.1 | exact hM2.k | (rw [c1.1.1]; exact hP.2.1.k)) ⟨fun c' => absurd c' cw, fun _ => ⟨fun c' => absurd c' cu, fun _ => ⟨fun _ => hP.same, fun c' => absurd c c'⟩⟩⟩, fun ne => ⟨fun c => U_X11_road (by first | exact hM.k | exact hM1.k | exact hP.2.1.k | exact h.2.2.1.1 | exact h.1.1 | exact g1.1.1 | exact g3.1.1 | exact gm.1.1 | exact h2.1.1 | exact hM2.k | (rw [c1.1.1]; exact hP.2.1.k)) ⟨fun c' => absurd c' cw, fun _ => ⟨fun c' => absurd c' cu, fun _ => ⟨fun c' => absurd c' ne, fun _ => ⟨fun _ => hP.same, fun c' => absurd (et.trans c) c'⟩⟩⟩⟩, fun ct => ⟨hX.1, x + 1, hX.2.1, hX.k3, x + 13, hX.r1, hX.q.1.1, ?_⟩⟩⟩⟩⟩
  obtain ⟨a, ha, rfl⟩ := jist_of cw
  obtain ⟨b, hb, rfl⟩ := jist_of cu
  obtain ⟨k, hk, rfl⟩ := jisg_of ct
  have hab : a ≠ b := fun e => ne (by rw [e])
  refine c_X4_direct hX.q ha hb ⟨hX.1, x + 1, hX.2.1, hX.k3, x + 13, hX.r1, hX.q.1.1, c_X4_build hX.q ha hb (fun S1 c1 q1 => ?_)⟩
  have ed : dbuild (fun i => v (36 + i)) a b (nI k) = fun i => upd (upd v (36 + (b * 6 + a)) (nI k)) (36 + (a * 6 + b)) (nI k) (36 + i) := by
    funext i
    unfold dbuild upd
    by_cases h1 : i = b * 6 + a
    · rw [if_pos h1]
      by_cases h2 : 36 + i = 36 + (a * 6 + b)
      · rw [if_pos h2]
      · rw [if_neg h2, if_pos (by omega)]
    · rw [if_neg h1]
      by_cases h2 : i = a * 6 + b
      · rw [if_pos h2, if_pos (by omega)]
      · rw [if_neg h2, if_neg (by omega), if_neg (by omega)]
  rw [ed] at q1
  have h1 : XR S1 x sz (upd (upd v (36 + (b * 6 + a)) (nI k)) (36 + (a * 6 + b)) (nI k)) := hX.of c1.1 (hX.2.2.roads (c1.wide (by omega) (by omega)) q1 (fun j hj => by rw [upd_ne _ (by omega), upd_ne _ (by omega)]))
  have hM := hP.2.1.keep c1 (by omega)
  have e1 := nI_road b a
  have e2 := nI_road a b
  refine U_X11_road (by first | exact hM.k | exact hM1.k | exact hP.2.1.k | exact h.2.2.1.1 | exact h.1.1 | exact g1.1.1 | exact g3.1.1 | exact gm.1.1 | exact h2.1.1 | exact hM2.k | (rw [c1.1.1]; exact hP.2.1.k)) ⟨fun c' => absurd c' cw, fun _ => ⟨fun c' => absurd c' cu, fun _ => ⟨fun c' => absurd c' ne, fun _ => ⟨fun c' => absurd (et.symm.trans c') ct, fun _ => ⟨hM.k, _, hM.r, hM.k1, (hM.at _ e1 (by omega)).1, ?_⟩⟩⟩⟩⟩
  refine c_X11_becomes (36 + (a * 6 + b)) (hM.puts _ e1 (by omega)) e2 (by omega) (fun S2 c2 h2 => ⟨?_, (jfr.realm c1 (by omega) (by omega)).trans (jfr.row ((jch.put (by omega) (by omega)).trans c2)), tkOf hP.2.1 h2 (fun j hj => by rw [upd_ne _ (by omega), upd_ne _ (by omega)]), sz, _, ?_, h2, (hP.2.2.put (fun _ => ⟨k, by rw [rgb_road _ (by omega)]; exact hk, rfl⟩)).put (fun _ => ⟨k, by rw [rgb_road _ (by omega)]; exact hk, rfl⟩)⟩)
  · rw [upd_ne _ (by omega)]
  · have c3 : jch S1 S2 (x + 95) (x + 96) := (jch.put (by omega) (by omega)).trans c2
    exact h1.of c3.1 (h1.2.2.keep c3 (by omega))
end jLight4
