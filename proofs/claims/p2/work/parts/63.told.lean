/-! TOLD, FAME, FINE, WHY, TEXTTOLD, MADE, LEARN on both sides -/
theorem jbm {k : Nat} (h : k < 1024) : jbc (nI k) = jmany (nI k) := jbc_many ⟨k, h⟩
theorem jbm_and {k : Nat} (h : k < 1024) (y : Int32) : jbc (nI k &&& y) = jmany (nI k &&& y) := by
  obtain ⟨k', hk, e⟩ := nI_andle h y
  rw [e]; exact jbm hk
theorem j_and_comm (a b : Int32) : a &&& b = b &&& a := Int32.and_comm a b
theorem jmany_le : ∀ n : Fin 1024, ∃ k : Fin 11, jmany (nI n.val) = nI k.val := by
  intro n
  have hd : ∀ n : Fin 1024, (jmany (nI n.val)).toBitVec.toNat < 11 := by decide +kernel
  exact ⟨⟨_, hd n⟩, nI_bv _⟩
section jTold
variable {E : jEnv} {d : Nat} {S S' : jM} {x r m sz M : Nat} {v : Nat → Int32}
/-- a master of the class, by the row -/
theorem XR.ms (h : XR S x sz v) {i f : Nat} (hi : i < 9) (hf : f < 7) : ji S (x + 2 + 2 + i) f = mfv v i f := h.g.at hi hf
theorem XR.mk (h : XR S x sz v) {i : Nat} (hi : i < 9) : jk S (x + 2 + 2 + i) = 2 := h.g.mk2 hi
theorem Rg.kd (h : Rg sz v) {i : Nat} (hi : i < 9) : ∃ k, k < 6 ∧ mfv v i 0 = nI k := h.msf i 0 hi (by omega)
theorem Rg.tw (h : Rg sz v) {i : Nat} (hi : i < 9) : ∃ k, k < 6 ∧ mfv v i 1 = nI k := h.msf i 1 hi (by omega)
theorem Rg.ge (h : Rg sz v) {i : Nat} (hi : i < 9) : ∃ k, k < 10 ∧ mfv v i 2 = nI k := h.msf i 2 hi (by omega)
theorem Rg.ba (h : Rg sz v) {i : Nat} (hi : i < 9) : ∃ k, k < 1024 ∧ mfv v i 3 = nI k := h.msf i 3 hi (by omega)
theorem Rg.fe (h : Rg sz v) {i : Nat} (hi : i < 9) : ∃ k, k < 100 ∧ mfv v i 4 = nI k := h.msf i 4 hi (by omega)
theorem Rg.ag (h : Rg sz v) {i : Nat} (hi : i < 9) : ∃ k, k < 100 ∧ mfv v i 5 = nI k := h.msf i 5 hi (by omega)
theorem Rg.de (h : Rg sz v) {i : Nat} (hi : i < 9) : mfv v i 6 = 0 ∨ mfv v i 6 = 1 := by
  obtain ⟨k, hk, e⟩ := h.msf i 6 hi (by omega)
  have hk : k < 2 := hk
  rcases (show k = 0 ∨ k = 1 by omega) with rfl | rfl
  · exact Or.inl e
  · exact Or.inr e
theorem c_X11_teaches {Q : Int32 → jM → Prop} {i k : Nat} (hM : MR S m v) (hg : Rg sz v) (hi : i < 9) (hk : k < 1024) (h : Q (jteach (mfv v i 0) (mfv v i 3) (nI k)) S) : jFi E mX11_teaches (d + 1) 0 0 [.ref m, .int (nI i), .int (nI k)] S Q := by
  obtain ⟨b, hb, eb⟩ := hg.ba hi
  have e1 : jmany (nI k &&& mfv v i 3) = jbc (mfv v i 3 &&& nI k) := by rw [j_and_comm (mfv v i 3), jbm_and hk]
  have e2 : jmany (nI k) = jbc (nI k) := (jbm hk).symm
  have e3 : (2 ≤ jbc (mfv v i 3 &&& nI k)) ↔ 1 < jbc (mfv v i 3 &&& nI k) := by
    rw [Int32.le_iff_toInt_le, Int32.lt_iff_toInt_lt]
    have a2 : (2 : Int32).toInt = 2 := by decide
    have a1 : (1 : Int32).toInt = 1 := by decide
    omega
  refine T_X11_teaches ⟨hM.k, c_X11_of (f := 3) hM hi (by omega) ⟨hM.k, c_X11_of (f := 0) hM hi (by omega) ?_⟩⟩
  rw [e1, e2, e3]
  unfold jteach at h
  generalize mfv v i 0 = kd at h ⊢
  generalize jbc (mfv v i 3 &&& nI k) = b1 at h ⊢
  generalize jbc (nI k) = b2 at h ⊢
  refine ⟨fun c => ?_, fun c => ⟨fun c1 => ⟨fun c2 => ?_, fun c2 => ?_⟩, fun c1 => ?_⟩, fun c => ?_, fun c => ⟨fun c1 => ?_, fun c1 => ?_⟩, fun n2 n3 n4 n5 => ⟨fun c1 => ?_, fun c1 => ?_⟩⟩
  all_goals simp_all
theorem c_X11_worth {Q : Int32 → jM → Prop} {i : Nat} (hM : MR S m v) (hi : i < 9) (h : Q (jworth (mfv v i 0) (mfv v i 4)) S) : jFi E mX11_worth (d + 1) 0 0 [.ref m, .int (nI i)] S Q := by
  refine T_X11_worth ⟨hM.k, c_X11_of (f := 4) hM hi (by omega) ⟨hM.k, c_X11_of (f := 0) hM hi (by omega) ?_⟩⟩
  have e95 : ∀ f : Int32, 99 - f - 4 = 95 - f := fun f => by
    rw [Int32.sub_eq_add_neg, Int32.sub_eq_add_neg, Int32.sub_eq_add_neg, Int32.add_assoc, Int32.add_comm (-f), ← Int32.add_assoc]
    rfl
  unfold jworth at h
  rw [e95] at h
  generalize mfv v i 0 = kd at h ⊢
  generalize mfv v i 4 = f at h ⊢
  refine ⟨fun c => ?_, fun c => ?_, fun c => ?_, fun c => ?_, fun c => ?_, fun n1 n2 n3 n4 n5 => ?_⟩
  all_goals simp_all
theorem PI.kn (h : PI S x sz v) : ∃ k, k < 1024 ∧ v 4 = nI k := h.2.2.kn
theorem jch.fq97 (h : jch S S' (x + 94 + 16) (x + 94 + 18)) : jfq S S' x := ⟨h.1, fun y _ _ _ _ _ c _ _ => h.2 y (by omega)⟩
theorem jch.pi97 (h : jch S S' (x + 94 + 16) (x + 94 + 18)) (hP : PI S x sz v) : PI S' x sz v :=
  ⟨hP.1.of h.1 (hP.1.2.2.keep h (by omega)), hP.2.1.keep h (by omega), hP.2.2⟩
/-- both calls left the two sides as they were -/
theorem IV.still {S1 S2 : jM} (h : IV S x sz M v) (h1 : jpi S S1 x) (h2 : jch S1 S2 (x + 94 + 16) (x + 94 + 18)) : INV S2 x M :=
  ⟨sz, v, h.next (h1.fq.trans h2.fq97) (h2.pi97 (h1.pi h.1)) (fun _ _ _ => rfl)⟩
theorem Q_told {w u : Int32} (h : IV S x sz M v) : jFi E mX10_told (d + 4) 0 0 [.ref x, .int w, .int u] S (fun r S1 => jFm E mX11_told (d + 3) (x + 94) [.int w, .int u] S1 (fun r' S2 => r = r' ∧ INV S2 x M)) := by
  obtain ⟨hX, hM, hg⟩ := id h.1
  have hz := hX.sz9
  have eu : jisin (Int32.toInt64 u) 0 9 = jwi u 10 := jisin_wi u 10 9 rfl (jle_lt (by decide))
  refine T_X10_told ⟨hX.1, x + 1, hX.2.1, hX.k3, x + 2, hX.r0, hX.g.1.1, c_X0_find hX.g.1 hX.g.2.1 hz (fun n hn e => ⟨fun c => absurd c (by simp), fun b eb => ?_⟩) (fun hno => ⟨fun _ => ?_, fun b e => absurd e (by simp)⟩)⟩
  · obtain rfl : x + 2 + 2 + n = b := Option.some.inj eb
    subst e
    have n9 : n < 9 := by omega
    have ism : ∀ {Q : Int32 → jM → Prop} {S1 : jM}, MR S1 (x + 94) v → Q 1 S1 → jFi E mX11_isMaster (d + 2) 0 0 [.ref (x + 94), .int (nI n)] S1 Q := fun hM1 hq => c_X11_isMaster hM1 hX.v0 hz (fun _ _ _ => hq) (fun hh => absurd rfl (hh n hn))
    have k2 := hX.mk n9
    have small : ∀ f : Nat, f < 7 → ∀ r, r = mfv v n f → jFm E mX11_told (d + 3) (x + 94) [.int (nI n), .int (nI f)] S (fun r' S2 => r = r' ∧ INV S2 x M) := by
      intro f hf r hr
      refine U_X11_told hM.k ⟨hM.k, ism hM ⟨fun c => absurd c (by decide), fun _ => ⟨fun c => absurd c ?_, fun _ => ⟨fun c => absurd c ?_, fun _ => ⟨hM.k, c_X11_of hM n9 hf ⟨hr, h.inv⟩⟩⟩⟩⟩⟩
      · have e9 : jisin (Int32.toInt64 (nI f)) 0 9 = jwi (nI f) 10 := jisin_wi (nI f) 10 9 rfl (jle_lt (by decide))
        rw [e9, show (10 : Int32) = nI 10 from rfl, jwi_at (by omega) (by omega)]; decide
      · rw [show (7 : Int32) = nI 7 from rfl]; exact nI_ge (by omega) (by omega)
    have kn := hg.kn
    obtain ⟨kk, hkk, ekk⟩ := kn
    have i4 := hM.at (i := 4) 4 rfl (by omega)
    refine ⟨hX.1, x + 1, hX.2.1, hX.k3, x + 16, hX.r2, fun c => ⟨k2, ?_⟩, fun c => ⟨k2, ?_⟩, fun c => ⟨k2, ?_⟩, fun c => ⟨k2, ?_⟩, fun c => ⟨k2, ?_⟩, fun c => ⟨k2, ?_⟩, fun c => ⟨k2, fun c6 => ?_, fun c6 => ?_⟩, fun c => ⟨hX.l.1.1, ?_⟩, fun c => ⟨hX.l.1.1, k2, c_X2_teaches k2 ?_⟩, fun c => ⟨k2, c_X2_worth k2 ?_⟩, fun c0 c1 c2 c3 c4 c5 c6 c7 c8 c9 => ?_⟩
    · subst c; exact small 0 (by omega) _ (hX.ms n9 (by omega))
    · subst c; exact small 1 (by omega) _ (hX.ms n9 (by omega))
    · subst c; exact small 2 (by omega) _ (hX.ms n9 (by omega))
    · subst c; exact small 3 (by omega) _ (hX.ms n9 (by omega))
    · subst c; exact small 4 (by omega) _ (hX.ms n9 (by omega))
    · subst c; exact small 5 (by omega) _ (hX.ms n9 (by omega))
    · subst c
      rw [hX.ms n9 (by omega)] at c6
      exact small 6 (by omega) _ c6.symm
    · subst c
      rw [hX.ms n9 (by omega)] at c6
      rcases hg.de n9 with e | e
      · exact absurd e c6
      · exact small 6 (by omega) _ e.symm
    · subst c
      obtain ⟨kd, hkd, ekd⟩ := hg.kd n9
      obtain ⟨tg, htg, etg⟩ := hg.ge n9
      obtain ⟨ag, hag, eag⟩ := hg.ag n9
      obtain ⟨o, hL⟩ := LWD_ex (key := 0) (by omega) h.2.2.2.2.1
      obtain ⟨⟨c9, hc9⟩, ec9⟩ := jmany_le ⟨kk, hkk⟩
      have ec : jbc (ji S (x + 16) 1) = nI c9 := by rw [hX.l.2.2.1, ekk, jbm hkk]; exact ec9
      rw [ec]
      refine c_X3_daysTaken (M := M) hX.2.2 h.2.2.2.2.1 hL k2 (by omega) ((hX.ms n9 (by omega)).trans ekd) ((hX.ms n9 (by omega)).trans etg) ((hX.ms n9 (by omega)).trans eag) hkd hag (fun S1 p1 => ?_)
      have hP1 := p1.pi h.1
      have hM1 := hP1.2.1
      have j4 := hM1.at (i := 4) 4 rfl (by omega)
      refine U_X11_told hM1.k ⟨hM1.k, ism hM1 ⟨fun c => absurd c (by decide), fun _ => ⟨fun c => absurd c (by decide), fun _ => ⟨fun _ => ⟨fun _ => ⟨hM1.k, _, hM1.r, hM1.k1, j4.1, ?_⟩, fun c => absurd rfl c⟩, fun c => absurd (by decide) c⟩⟩⟩⟩
      rw [j4.2, ekk, show jmany (nI kk) = nI c9 from ec9]
      exact c_X11_takes (o := o) hM1 (hL.keep p1.fq) n9 ekd etg eag hkd hag (by omega) (fun S2 c2 _ => ⟨rfl, h.still p1 c2⟩)
    · subst c
      rw [hX.l.2.2.1, hX.ms n9 (by omega), hX.ms n9 (by omega)]
      refine ⟨fun c => ?_, fun c => ?_⟩
      · refine U_X11_told hM.k ⟨hM.k, ism hM ⟨fun c => absurd c (by decide), fun _ => ⟨fun c => absurd c (by decide), fun _ => ⟨fun _ => ⟨fun c => absurd c (by decide), fun _ => ⟨fun c => absurd c (by decide), fun _ => ⟨hM.k, _, hM.r, hM.k1, i4.1, ?_⟩⟩⟩, fun c => absurd (by decide) c⟩⟩⟩⟩
        rw [i4.2, ekk]
        rw [ekk] at c
        exact c_X11_teaches hM hg n9 hkk ⟨fun _ => ⟨rfl, h.inv⟩, fun c2 => absurd c c2⟩
      · refine U_X11_told hM.k ⟨hM.k, ism hM ⟨fun c => absurd c (by decide), fun _ => ⟨fun c => absurd c (by decide), fun _ => ⟨fun _ => ⟨fun c => absurd c (by decide), fun _ => ⟨fun c => absurd c (by decide), fun _ => ⟨hM.k, _, hM.r, hM.k1, i4.1, ?_⟩⟩⟩, fun c => absurd (by decide) c⟩⟩⟩⟩
        rw [i4.2, ekk]
        rw [ekk] at c
        exact c_X11_teaches hM hg n9 hkk ⟨fun c2 => absurd c2 c, fun _ => ⟨rfl, h.inv⟩⟩
    · subst c
      rw [hX.ms n9 (by omega), hX.ms n9 (by omega)]
      exact U_X11_told hM.k ⟨hM.k, ism hM ⟨fun c => absurd c (by decide), fun _ => ⟨fun c => absurd c (by decide), fun _ => ⟨fun _ => ⟨fun c => absurd c (by decide), fun _ => ⟨fun _ => ⟨hM.k, c_X11_worth hM n9 ⟨rfl, h.inv⟩⟩, fun c => absurd rfl c⟩⟩, fun c => absurd (by decide) c⟩⟩⟩⟩
    · have hu : jwi u 10 = 0 := by
        rcases jwi_cases u (b := 10) 10 rfl (by omega) with ⟨j, hj, e, -⟩ | ⟨-, e⟩
        · rcases (show j = 0 ∨ j = 1 ∨ j = 2 ∨ j = 3 ∨ j = 4 ∨ j = 5 ∨ j = 6 ∨ j = 7 ∨ j = 8 ∨ j = 9 by omega) with rfl | rfl | rfl | rfl | rfl | rfl | rfl | rfl | rfl | rfl
          · exact absurd e c0
          · exact absurd e c1
          · exact absurd e c2
          · exact absurd e c3
          · exact absurd e c4
          · exact absurd e c5
          · exact absurd e c6
          · exact absurd e c7
          · exact absurd e c8
          · exact absurd e c9
        · exact e
      exact U_X11_told hM.k ⟨hM.k, ism hM ⟨fun c => absurd c (by decide), fun _ => ⟨fun _ => ⟨rfl, h.inv⟩, fun c => absurd (eu.trans hu) c⟩⟩⟩
  · exact U_X11_told hM.k ⟨hM.k, c_X11_isMaster hM hX.v0 hz (fun j hj e => absurd e (hno j hj)) (fun _ => ⟨fun _ => ⟨rfl, h.inv⟩, fun c => absurd rfl c⟩)⟩
end jTold
