/-! DEAL on both sides -/
theorem jushr8 (z : Int32) : ∃ n, n < 2 ^ 31 ∧ jushr z 8 = nI n := by
  refine ⟨(jushr z 8).toBitVec.toNat, ?_, nI_bv _⟩
  have e : (jushr z 8).toBitVec = z.toBitVec >>> 8 := rfl
  rw [e, BitVec.toNat_ushiftRight, Nat.shiftRight_eq_div_pow]
  have := z.toBitVec.isLt
  omega
theorem jdrawn (z : Int32) {b : Int32} (k : Nat) (hb : b = nI k) (h0 : 0 < k) (hk : k < 2 ^ 31) : ∃ n, n < k ∧ jrem (jushr z 8) b = nI n := by
  obtain ⟨n, hn, e⟩ := jushr8 z
  subst hb
  exact ⟨n % k, Nat.mod_lt _ h0, by rw [e]; exact pk_rem hn h0 hk⟩
/-- a master comes by lot, on the row -/
def vlot (v : Nat → Int32) (sz : Nat) : Nat → Int32 := vjoin (upd v 8 (jz4 (v 8))) sz (mdraw (v 8))
def vlots : Nat → Nat → (Nat → Int32) → Nat → Int32
  | 0, _, v => v
  | c + 1, sz, v => vlots c (sz + 1) (vlot v sz)
section jDeal
variable {E : jEnv} {d : Nat} {S : jM} {x m sz : Nat} {v : Nat → Int32}
theorem vlot_0 : vlot v sz 0 = nI (sz + 1) := vjoin_0
theorem Rg.lot (h : Rg sz v) : Rg (sz + 1) (vlot v sz) := by
  obtain ⟨k, hk, e1⟩ := jdrawn (jlot (v 8)) (b := 6) 6 rfl (by omega) (by omega)
  obtain ⟨t, ht, e2⟩ := jdrawn (jlot (jlot (v 8))) (b := 6) 6 rfl (by omega) (by omega)
  obtain ⟨g, hg, e3⟩ := jdrawn (jlot (jlot (jlot (v 8)))) (b := 10) 10 rfl (by omega) (by omega)
  obtain ⟨f, hf, e4⟩ := jdrawn (jz4 (v 8)) (b := 40) 40 rfl (by omega) (by omega)
  unfold vlot mdraw
  rw [e1, e2, e3, e4]
  exact (h.put (n := 8) (w := jz4 (v 8)) (fun c => absurd rfl c)).join hk ht hg (by omega)
theorem Rg.lots : ∀ (c sz : Nat) (v : Nat → Int32), Rg sz v → Rg (sz + c) (vlots c sz v)
  | 0, _, _, h => h
  | c + 1, sz, v, h => by
    have := Rg.lots c (sz + 1) (vlot v sz) h.lot
    rw [show sz + 1 + c = sz + (c + 1) by omega] at this
    exact this
theorem vlots_o : ∀ (c sz : Nat) (v : Nat → Int32), sz + c ≤ 9 → ∀ j, (j = 1 ∨ 135 ≤ j) → vlots c sz v j = v j
  | 0, _, _, _, _, _ => rfl
  | c + 1, sz, v, h, j, hj => by
    show vlots c (sz + 1) (vlot v sz) j = v j
    rw [vlots_o c (sz + 1) _ (by omega) j hj]
    unfold vlot vjoin
    rw [if_neg (by omega), if_neg (by omega), upd_ne _ (by omega)]
theorem XR.lot {S' : jM} (h : XR S x sz v) (hz : sz < 9) (hc : jch S S' (x + 2) (x + 13)) (hg : GR S' (x + 2) (sz + 1) (jz4 (v 8)) (mall (mfv v) sz (mdraw (v 8)))) : XR S' x (sz + 1) (vlot v sz) := by
  have e8 : vlot v sz 8 = jz4 (v 8) := by unfold vlot vjoin; rw [if_neg (by omega), if_neg (by omega), upd_at]
  refine h.of hc.1 (h.2.2.guild hc ?_ (by omega) vlot_0 (fun j p0 p8 pj => ?_))
  · rw [e8]
    refine hg.cong (fun a ha b hb => ?_)
    rw [mall_join hz a ha b hb]
    unfold mfv vlot vjoin
    rw [upd_ne _ (by omega)]
  · unfold vlot vjoin
    rw [if_neg p0, if_neg (by omega), upd_ne _ p8]
theorem l_X10_deal {Q : Int32 → jM → Prop} : ∀ (c i sz : Nat) (v : Nat → Int32) (S : jM), i + c ≤ 9 → sz + c ≤ 9 → XR S x sz v → (∀ S', jch S S' (x + 2) (x + 13) → XR S' x (sz + c) (vlots c sz v) → Q (nI (i + c)) S') → L_X10_deal_34 E (d + 2) Q x (nI (i + c)) (nI i) S := by
  intro c
  induction c with
  | zero =>
    intro i sz v S hi hz hX h
    exact T_X10_deal_34 ⟨fun _ => h S jch.rfl hX, fun c => absurd Int32.le_rfl c⟩
  | succ c ih =>
    intro i sz v S hi hz hX h
    refine T_X10_deal_34 ⟨fun c' => absurd c' ?_, fun _ => ⟨hX.1, x + 1, hX.2.1, hX.k3, x + 2, hX.r0, hX.g.1.1, c_X0_joinByLot hX.g (by omega) (fun S1 c1 g1 => ?_)⟩⟩
    · rw [Int32.le_iff_toInt_le, nI_toInt (by omega), nI_toInt (by omega)]; omega
    · have h1 := hX.lot (by omega) c1 g1
      rw [nI_1]
      have e : i + (c + 1) = i + 1 + c := by omega
      rw [e] at h ⊢
      refine ih (i + 1) (sz + 1) (vlot v sz) S1 (by omega) (by omega) h1 (fun S' c' h' => h S' (c1.trans c') ?_)
      rw [show sz + (c + 1) = sz + 1 + c by omega]
      exact h'
theorem c_X11_drawn {Q : Int32 → jM → Prop} (hM : MR S m v) (h : ∀ S', jch S S' (m + 1) (m + 2) → MR S' m (upd v 8 (jlot (v 8))) → Q (jushr (jlot (v 8)) 8) S') : jFi E mX11_drawn d 0 0 [.ref m] S Q := by
  obtain ⟨a1, a2⟩ := hM.at (i := 8) 8 rfl (by omega)
  refine T_X11_drawn ⟨hM.k, m + 1, hM.r, hM.k1, a1, ?_⟩
  rw [a2]
  exact h _ (jch.put (by omega) (by omega)) (hM.puts 8 rfl (by omega))
theorem l_X11_deal {Q : Int32 → jM → Prop} {n : Nat} (hn : n ≤ 9) : ∀ (c i sz : Nat) (v : Nat → Int32) (S : jM), i + c ≤ n → sz + c ≤ 9 → (i + c = n ∨ sz + c = 9) → v 0 = nI sz → MR S m v → (∀ S', jch S S' (m + 1) (m + 2) → MR S' m (vlots c sz v) → Q (nI (i + c)) S') → L_X11_deal_17 E (d + 1) Q m (nI n) (nI i) S := by
  intro c
  induction c with
  | zero =>
    intro i sz v S hi hz hs h0 hM h
    have i0 := hM.at (i := 0) 0 rfl (by omega)
    refine T_X11_deal_17 ⟨fun _ => h S jch.rfl hM, fun c => ⟨hM.k, _, hM.r, hM.k1, i0.1, fun _ => h S jch.rfl hM, fun c9 => absurd ?_ c9⟩⟩
    rw [i0.2, h0]
    rcases hs with hs | hs
    · exfalso
      rw [Int32.le_iff_toInt_le, nI_toInt (by omega), nI_toInt (by omega)] at c
      omega
    · obtain rfl : sz = 9 := by omega
      decide
  | succ c ih =>
    intro i sz v S hi hz hs h0 hM h
    have i0 := hM.at (i := 0) 0 rfl (by omega)
    refine T_X11_deal_17 ⟨fun c' => absurd c' ?_, fun _ => ⟨hM.k, _, hM.r, hM.k1, i0.1, fun c9 => absurd c9 ?_, fun _ => ?_⟩⟩
    · rw [Int32.le_iff_toInt_le, nI_toInt (by omega), nI_toInt (by omega)]; omega
    · rw [i0.2, h0]; exact nI_ge (b := 9) (by omega) (by omega)
    · refine c_X11_drawn hM (fun S1 c1 h1 => ⟨h1.k, c_X11_drawn h1 (fun S2 c2 h2 => ⟨h2.k, c_X11_drawn h2 (fun S3 c3 h3 => ⟨h3.k, c_X11_drawn h3 (fun S4 c4 h4 => ⟨h4.k, ?_⟩)⟩)⟩)⟩)
      rw [upd_at, upd_at, upd_at] at *
      have hM4 : MR S4 m (upd v 8 (jz4 (v 8))) := ⟨h4.1, fun j => (h4.2 j).trans (by
        by_cases j8 : j = 8
        · subst j8; rw [upd_at, upd_at]; rfl
        · rw [upd_ne _ j8, upd_ne _ j8, upd_ne _ j8, upd_ne _ j8, upd_ne _ j8])⟩
      refine c_X11_comes hM4 (by rw [upd_ne _ (by omega)]; exact h0) (by omega) (fun S5 c5 h5 => ?_)
      rw [nI_1]
      have e : i + (c + 1) = i + 1 + c := by omega
      rw [e] at h
      exact ih (i + 1) (sz + 1) (vlot v sz) S5 (by omega) (by omega) (by omega) vlot_0 h5 (fun S' c' h' => h S' ((((c1.trans c2).trans (c3.trans c4)).trans c5).trans c') h')
theorem P_deal {w : Int32} (hP : PI S x sz v) : jFi E mX10_deal (d + 3) 0 0 [.ref x, .int w] S (fun r S1 => jFm E mX11_deal (d + 2) (x + 94) [.int w] S1 (fun r' S2 => PO S x r r' S2)) := by
  have hX := hP.1
  have hz := hX.sz9
  rcases jisin_ab w (lo := 1) (hi := 9) 1 9 rfl rfl (by omega) (by omega) with ⟨n, n1, n9, rfl, hj⟩ | ⟨hw, hj⟩
  · refine T_X10_deal ⟨fun c => absurd c (by rw [show (1 : Int32) = nI 1 from rfl, Int32.lt_iff_toInt_lt, nI_toInt (by omega), nI_toInt (by omega)]; omega), fun _ => ⟨fun _ => ⟨hX.1, x + 1, hX.2.1, hX.k3, x + 2, hX.r0, hX.g.1.1, ?_⟩, fun c => absurd (by rw [show (9 : Int32) = nI 9 from rfl, Int32.le_iff_toInt_le, nI_toInt (by omega), nI_toInt (by omega)]; omega) c⟩⟩
    have ec : ∃ c, c ≤ n ∧ sz + c ≤ 9 ∧ (c = n ∨ sz + c = 9) ∧ jmin (nI n) (9 - ji S (x + 2) 1) = nI (0 + c) := by
      rw [hX.g.2.1, show (9 : Int32) = nI 9 from rfl, pk_sub hz]
      unfold jmin
      by_cases hl : 9 - sz < n
      · refine ⟨9 - sz, by omega, by omega, Or.inr (by omega), ?_⟩
        rw [if_pos (by rw [Int32.lt_iff_toInt_lt, nI_toInt (by omega), nI_toInt (by omega)]; omega), Nat.zero_add]
      · refine ⟨n, by omega, by omega, Or.inl rfl, ?_⟩
        rw [if_neg (by rw [Int32.lt_iff_toInt_lt, nI_toInt (by omega), nI_toInt (by omega)]; omega), Nat.zero_add]
    obtain ⟨c, h1, h2, h3, e⟩ := ec
    rw [e]
    refine l_X10_deal c 0 sz v S (by omega) h2 hX (fun S1 c1 hX1 => ?_)
    have hM := hP.2.1.keep c1 (by omega)
    refine U_X11_deal (by first | exact hM.k | exact hM1.k | exact hP.2.1.k | exact h.2.2.1.1 | exact h.1.1 | exact g1.1.1 | exact g3.1.1 | exact gm.1.1 | exact h2.1.1 | exact hM2.k | (rw [c1.1.1]; exact hP.2.1.k)) ⟨fun c => absurd (hj.symm.trans c) (by decide), fun _ => l_X11_deal n9 c 0 sz v S1 (by omega) h2 (by omega) hX.v0 hM (fun S2 c2 hM2 => ?_)⟩
    exact ⟨rfl, (jfr.realm c1 (by omega) (by omega)).trans (jfr.row c2), tkOf hP.2.1 hM2 (fun j hj => vlots_o c sz v (by omega) j hj), sz + c, _, hX1.of c2.1 (hX1.2.2.keep c2 (by omega)), hM2, Rg.lots c sz v hP.2.2⟩
  · have bad : jFm E mX11_deal (d + 2) (x + 94) [.int w] S (fun r' S2 => PO S x kBAD r' S2) := U_X11_deal (by first | exact hM.k | exact hM1.k | exact hP.2.1.k | exact h.2.2.1.1 | exact h.1.1 | exact g1.1.1 | exact g3.1.1 | exact gm.1.1 | exact h2.1.1 | exact hM2.k | (rw [c1.1.1]; exact hP.2.1.k)) ⟨fun _ => hP.same, fun c => absurd hj c⟩
    refine T_X10_deal ⟨fun _ => bad, fun c1 => ⟨fun c2 => ?_, fun _ => bad⟩⟩
    exfalso
    rw [show (1 : Int32) = nI 1 from rfl, Int32.lt_iff_toInt_lt, nI_toInt (by omega)] at c1
    obtain ⟨j, hj, e⟩ := jofI (x := w) (n := 10) (by omega) (by rw [Int32.le_iff_toInt_le]; show (0 : Int) ≤ _; omega) (by rw [show (9 : Int32) = nI 9 from rfl, Int32.le_iff_toInt_le, nI_toInt (by omega)] at c2; rw [Int32.lt_iff_toInt_lt, nI_toInt (by omega)]; omega)
    rw [e, nI_toInt (by omega)] at c1
    exact hw j (by omega) (by omega) e
end jDeal
