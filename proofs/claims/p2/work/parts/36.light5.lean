/-! AS, TURNS, BARS, MASTER on both sides -/
/-- of a KIND, by going up -/
def jisC : Nat → Int32 → Int32 → Int32 → Int32
  | 0, _, _, _ => 0
  | f + 1, w, own, s => if 6 ≤ s then 0 else if jwi own 6 = 0 then 0 else if own = w then 1 else jisC f w (jab own) (s + 1)
theorem jisC_of : ∀ k : Fin 6, ∀ j : Fin 6, jisC 7 (nI j.val) (nI k.val) (nI 0) = jisof (nI k.val) (nI j.val) := by decide +kernel
theorem j_or_lt : ∀ a : Fin 10, ∀ b : Fin 10, (jshl 1 (nI a.val) ||| jshl 1 (nI b.val)).toBitVec.toNat < 1024 := by decide +kernel
section jLight5
variable {E : jEnv} {d : Nat} {S : jM} {x m sz : Nat} {v : Nat → Int32}
theorem l_X2_isOf {Q : Int32 → jM → Prop} {w : Int32} : ∀ (c n : Nat) (own : Int32), n + c = 6 → Q (jisC (c + 1) w own (nI n)) S → L_X2_isOf_7 E d Q w own (nI n) S := by
  intro c
  induction c with
  | zero =>
    intro n own hn h
    obtain rfl : n = 6 := by omega
    have e : jisC (0 + 1) w own (nI 6) = 0 := by unfold jisC; rw [if_pos (by decide)]
    rw [e] at h
    exact T_X2_isOf_7 ⟨fun _ => h, fun c => absurd (by decide) c⟩
  | succ c ih =>
    intro n own hn h
    have h6 : ¬ (6 : Int32) ≤ nI n := nI_ge (b := 6) (by omega) (by omega)
    have e : jisC (c + 1 + 1) w own (nI n) = if 6 ≤ nI n then 0 else if jwi own 6 = 0 then 0 else if own = w then 1 else jisC (c + 1) w (jab own) (nI n + 1) := rfl
    rw [e, if_neg h6] at h
    refine T_X2_isOf_7 ⟨fun c => absurd c h6, fun _ => ⟨fun c1 => by rw [if_pos c1] at h; exact h, fun c1 => ⟨fun c2 => by rw [if_neg c1, if_pos c2] at h; exact h, fun c2 => ?_⟩⟩⟩
    rw [if_neg c1, if_neg c2] at h
    obtain ⟨j, hj, rfl⟩ := jist_of c1
    refine ⟨jin_nI hj (by omega), ?_⟩
    rw [nI_1] at h ⊢
    exact ih (n + 1) _ (by omega) h
theorem c_X2_isOf {Q : Int32 → jM → Prop} {a k j : Nat} (hk : jk S a = 2) (h0 : ji S a 0 = nI k) (hk6 : k < 6) (hj : j < 6) (h : Q (jisof (nI k) (nI j)) S) : jFi E mX2_isOf (d + 1) 0 0 [.ref a, .int (nI j)] S Q := by
  refine T_X2_isOf ⟨hk, ?_⟩
  rw [h0]
  refine l_X2_isOf 6 0 (nI k) (by omega) ?_
  have := jisC_of ⟨k, hk6⟩ ⟨j, hj⟩
  rw [this]
  exact h
theorem c_X11_isMaster {Q : Int32 → jM → Prop} {w : Int32} (hM : MR S m v) (h0 : v 0 = nI sz) (hz : sz ≤ 9) (h1 : ∀ j, j < sz → w = nI j → Q 1 S) (h2 : (∀ j, j < sz → w ≠ nI j) → Q 0 S) : jFi E mX11_isMaster (d + 1) 0 0 [.ref m, .int w] S Q := by
  obtain ⟨a1, a2⟩ := hM.at (i := 0) 0 rfl (by omega)
  refine T_X11_isMaster ⟨hM.k, m + 1, hM.r, hM.k1, a1, jisin01 _ _ _, ?_⟩
  rw [a2, h0]
  cases sz with
  | zero =>
    have e : jisin w.toInt64 0 (Int32.toInt64 (nI 0 - 1)) = 0 := by
      have e0 : (0 : Int64) = (0 : Int32).toInt64 := rfl
      rw [e0, jisin_int]
      by_cases hw : w < 0
      · rw [if_pos hw]
      · rw [if_neg hw, if_pos]
        have e1 : (nI 0 - 1 : Int32) = -1 := rfl
        rw [e1, Int32.lt_iff_toInt_lt]
        rw [Int32.lt_iff_toInt_lt] at hw
        have e2 : (-1 : Int32).toInt = -1 := rfl
        have e3 : (0 : Int32).toInt = 0 := rfl
        omega
    rw [e]
    exact h2 (fun j hj => absurd hj (by omega))
  | succ n =>
    rw [nI_pred]
    rcases jisin_ab w (lo := 0) (hi := (nI n).toInt64) 0 n rfl rfl (by omega) (by omega) with ⟨j, -, hj, e, h⟩ | ⟨hw, h⟩
    · rw [h]; exact h1 j (by omega) e
    · rw [h]; exact h2 (fun j hj => hw j (by omega) (by omega))
theorem c_X11_of {Q : Int32 → jM → Prop} {i f : Nat} (hM : MR S m v) (hi : i < 9) (hf : f < 7) (h : Q (mfv v i f) S) : jFi E mX11_of d 0 0 [.ref m, .int (nI i), .int (nI f)] S Q := by
  obtain ⟨a1, a2⟩ := hM.at _ (nI_mst i f) (by omega)
  refine T_X11_of ⟨hM.k, m + 1, hM.r, hM.k1, a1, ?_⟩
  rw [a2]
  exact h
theorem Rg.ms (h : Rg sz v) {i f : Nat} (hi : i < 9) (hf : f < 7) : ∃ k, k < rgb (72 + 7 * i + f) ∧ mfv v i f = nI k := by
  refine h (72 + 7 * i + f) (by omega) ?_
  rw [rgb_m i f hf]
  split <;> first | decide | (split <;> first | decide | (split <;> first | decide | (split <;> first | decide | (split <;> decide))))
/-- one number of one master is otherwise -/
theorem XR.mput {i f : Nat} {w : Int32} (h : XR S x sz v) (hi : i < 9) (hf : f < 7) : XR (jput S (x + 2 + 2 + i) f w) x sz (upd v (72 + 7 * i + f) w) := by
  have c1 : jch S (jput S (x + 2 + 2 + i) f w) (x + 2) (x + 13) := jch.put (by omega) (by omega)
  refine h.of c1.1 (h.2.2.guild c1 ?_ h.sz9 (by rw [upd_ne _ (by omega)]; exact h.v0) (fun j p0 p8 pj => upd_ne _ (by omega)))
  rw [upd_ne _ (by omega)]
  exact (h.g.putm hi).cong (mset_upd hi hf)
/-- the class puts one number of a master, the reference puts it too -/
theorem PI.mput {i f : Nat} {ix w : Int32} (hP : PI S x sz v) (hi : i < sz) (hf : f < 7) (hix : ix = nI (72 + 7 * i + f)) (hw : ∃ k, k < rgb (72 + 7 * i + f) ∧ w = nI k) : jFi E mX11_becomes d 0 0 [.ref (x + 94), .int ix, .int w] (jput S (x + 2 + 2 + i) f w) (fun r' S2 => PO S x (mfv v i f) r' S2) := by
  have hz := hP.1.sz9
  have c1 : jch S (jput S (x + 2 + 2 + i) f w) (x + 2) (x + 13) := jch.put (by omega) (by omega)
  have h1 := hP.1.mput (w := w) (show i < 9 by omega) hf
  refine c_X11_becomes (72 + 7 * i + f) (hP.2.1.keep c1 (by omega)) hix (by omega) (fun S2 c2 h2 => ⟨rfl, (jfr.realm c1 (by omega) (by omega)).trans (jfr.row c2), tkOf hP.2.1 h2 (fun j hj => upd_ne _ (by have := hP.1.sz9; omega)), sz, _, h1.of c2.1 (h1.2.2.keep c2 (by omega)), h2, hP.2.2.put (fun _ => hw)⟩)
theorem P_turns {w u : Int32} (hP : PI S x sz v) : jFi E mX10_turns (d + 2) 0 0 [.ref x, .int w, .int u] S (fun r S1 => jFm E mX11_turns (d + 2) (x + 94) [.int w, .int u] S1 (fun r' S2 => PO S x r r' S2)) := by
  have hX := hP.1
  have hM := hP.2.1
  have hz := hX.sz9
  have eu : jisin u.toInt64 0 5 = jwi u 6 := jisin_wi u 6 5 rfl (jle_lt (by decide))
  refine T_X10_turns ⟨hX.1, x + 1, hX.2.1, hX.k3, x + 2, hX.r0, hX.g.1.1, c_X0_find hX.g.1 hX.g.2.1 hz (fun n hn e => ⟨fun c => absurd c (by simp), fun b hb => ?_⟩) (fun hno => ⟨fun _ => ?_, fun b hb => absurd hb (by simp)⟩)⟩
  · obtain rfl : x + 2 + 2 + n = b := by simpa using hb
    subst e
    refine ⟨fun c => ?_, fun cu => ⟨hX.g.mk2 (by omega), ?_⟩⟩
    · exact U_X11_turns (by first | exact hM.k | exact hM1.k | exact hP.2.1.k | exact h.2.2.1.1 | exact h.1.1 | exact g1.1.1 | exact g3.1.1 | exact gm.1.1 | exact h2.1.1 | exact hM2.k | (rw [c1.1.1]; exact hP.2.1.k)) ⟨hM.k, c_X11_isMaster hM hX.v0 hz (fun j hj e => ⟨fun c' => absurd c' (by decide), fun _ => ⟨fun _ => hP.same, fun c' => absurd (eu.trans c) c'⟩⟩) (fun h => absurd rfl (h n hn))⟩
    · rw [hX.g.at (by omega) (by omega)]
      have c1 : jch S (jput S (x + 2 + 2 + n) 0 u) (x + 2) (x + 13) := jch.put (by omega) (by omega)
      have hM1 := hM.keep c1 (by omega)
      obtain ⟨k, hk, rfl⟩ := jist_of cu
      refine U_X11_turns (by first | exact hM.k | exact hM1.k | exact hP.2.1.k | exact h.2.2.1.1 | exact h.1.1 | exact g1.1.1 | exact g3.1.1 | exact gm.1.1 | exact h2.1.1 | exact hM2.k | (rw [c1.1.1]; exact hP.2.1.k)) ⟨hM1.k, c_X11_isMaster hM1 hX.v0 hz (fun j hj e => ⟨fun c' => absurd c' (by decide), fun _ => ⟨fun c' => absurd (eu.symm.trans c') cu, fun _ => ⟨hM1.k, ?_⟩⟩⟩) (fun h => absurd rfl (h n hn))⟩
      refine hP.mput (i := n) (f := 0) hn (by omega) ?_ ⟨k, by rw [rgb_m n 0 (by omega), if_pos rfl]; exact hk, rfl⟩
      rw [show (72 : Int32) = nI 72 from rfl, show (7 : Int32) = nI 7 from rfl, pk_mul, nI_add]
      rfl
  · exact U_X11_turns (by first | exact hM.k | exact hM1.k | exact hP.2.1.k | exact h.2.2.1.1 | exact h.1.1 | exact g1.1.1 | exact g3.1.1 | exact gm.1.1 | exact h2.1.1 | exact hM2.k | (rw [c1.1.1]; exact hP.2.1.k)) ⟨hM.k, c_X11_isMaster hM hX.v0 hz (fun j hj e => absurd e (hno j hj)) (fun _ => ⟨fun _ => hP.same, fun c => absurd rfl c⟩)⟩
theorem P_as {w u : Int32} (hP : PI S x sz v) : jFi E mX10_as (d + 2) 0 0 [.ref x, .int w, .int u] S (fun r S1 => jFm E mX11_as (d + 2) (x + 94) [.int w, .int u] S1 (fun r' S2 => PO S x r r' S2)) := by
  have hX := hP.1
  have hM := hP.2.1
  have hz := hX.sz9
  have eu : jisin u.toInt64 0 5 = jwi u 6 := jisin_wi u 6 5 rfl (jle_lt (by decide))
  refine T_X10_as ⟨hX.1, x + 1, hX.2.1, hX.k3, x + 2, hX.r0, hX.g.1.1, c_X0_find hX.g.1 hX.g.2.1 hz (fun n hn e => ⟨fun c => absurd c (by simp), fun b hb => ?_⟩) (fun hno => ⟨fun _ => ?_, fun b hb => absurd hb (by simp)⟩)⟩
  · obtain rfl : x + 2 + 2 + n = b := by simpa using hb
    subst e
    refine ⟨fun c => ?_, fun cu => ⟨hX.g.mk2 (by omega), ?_⟩⟩
    · exact U_X11_as (by first | exact hM.k | exact hM1.k | exact hP.2.1.k | exact h.2.2.1.1 | exact h.1.1 | exact g1.1.1 | exact g3.1.1 | exact gm.1.1 | exact h2.1.1 | exact hM2.k | (rw [c1.1.1]; exact hP.2.1.k)) ⟨hM.k, c_X11_isMaster hM hX.v0 hz (fun j hj e => ⟨fun c' => absurd c' (by decide), fun _ => ⟨fun _ => hP.same, fun c' => absurd (eu.trans c) c'⟩⟩) (fun h => absurd rfl (h n hn))⟩
    · obtain ⟨j, hj, rfl⟩ := jist_of cu
      obtain ⟨k, hk, ek⟩ := hP.2.2.ms (i := n) (f := 0) (by omega) (by omega)
      rw [rgb_m n 0 (by omega), if_pos rfl] at hk
      have ref : ∀ r, (jisof (nI k) (nI j) = 0 → r = kKIND) → (jisof (nI k) (nI j) ≠ 0 → r = mfv v n 4) → jFm E mX11_as (d + 2) (x + 94) [.int (nI n), .int (nI j)] S (fun r' S2 => PO S x r r' S2) := by
        intro r h1 h2
        refine U_X11_as (by first | exact hM.k | exact hM1.k | exact hP.2.1.k | exact h.2.2.1.1 | exact h.1.1 | exact g1.1.1 | exact g3.1.1 | exact gm.1.1 | exact h2.1.1 | exact hM2.k | (rw [c1.1.1]; exact hP.2.1.k)) ⟨hM.k, c_X11_isMaster hM hX.v0 hz (fun _ _ _ => ⟨fun c' => absurd c' (by decide), fun _ => ⟨fun c' => absurd (eu.symm.trans c') cu, fun _ => ⟨hM.k, c_X11_of (f := 0) hM (by omega) (by omega) ?_⟩⟩⟩) (fun h => absurd rfl (h n hn))⟩
        rw [ek]
        refine ⟨fun c => ?_, fun c => ⟨hM.k, c_X11_of (f := 4) hM (by omega) (by omega) ?_⟩⟩
        · rw [h1 c]; exact hP.same
        · rw [h2 c]; exact hP.same
      refine c_X2_isOf (hX.g.mk2 (by omega)) ((hX.g.at (by omega) (by omega)).trans ek) hk hj ⟨fun c => ref _ (fun _ => rfl) (fun c' => absurd c c'), fun c => ⟨hX.g.mk2 (by omega), ?_⟩⟩
      rw [hX.g.at (by omega) (by omega)]
      exact ref _ (fun c' => absurd c' c) (fun _ => rfl)
  · exact U_X11_as (by first | exact hM.k | exact hM1.k | exact hP.2.1.k | exact h.2.2.1.1 | exact h.1.1 | exact g1.1.1 | exact g3.1.1 | exact gm.1.1 | exact h2.1.1 | exact hM2.k | (rw [c1.1.1]; exact hP.2.1.k)) ⟨hM.k, c_X11_isMaster hM hX.v0 hz (fun j hj e => absurd e (hno j hj)) (fun _ => ⟨fun _ => hP.same, fun c => absurd rfl c⟩)⟩
end jLight5
