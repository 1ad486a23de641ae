/-! KNOWS, WANTS, DAYS that go by, on both sides -/
theorem jknowF : ∀ k : Fin 1024, ∀ g : Fin 10, (nI k.val &&& jshl 1 (nI g.val) = 0) = ¬ ((jshr (nI k.val) (nI g.val) &&& 1) = 1) := by decide +kernel
theorem jknow {k g : Nat} (hk : k < 1024) (hg : g < 10) : (nI k &&& jshl 1 (nI g) = 0) = ¬ ((jshr (nI k) (nI g) &&& 1) = 1) := jknowF ⟨k, hk⟩ ⟨g, hg⟩
theorem nI_bv (x : Int32) : x = nI x.toBitVec.toNat := by
  apply Int32.toBitVec_inj.mp
  apply BitVec.eq_of_toNat_eq
  show _ = (BitVec.ofNat 32 x.toBitVec.toNat).toNat
  rw [BitVec.toNat_ofNat, Nat.mod_eq_of_lt x.toBitVec.isLt]
theorem nI_andle {k b : Nat} (hk : k < b) (y : Int32) : ∃ k', k' < b ∧ nI k &&& y = nI k' := by
  refine ⟨(nI k &&& y).toBitVec.toNat, ?_, nI_bv _⟩
  have e1 : (nI k &&& y).toBitVec = (nI k).toBitVec &&& y.toBitVec := rfl
  rw [e1, BitVec.toNat_and]
  have h1 : (nI k).toBitVec.toNat ≤ k := by
    show (BitVec.ofNat 32 k).toNat ≤ k
    rw [BitVec.toNat_ofNat]
    exact Nat.mod_le _ _
  exact Nat.lt_of_le_of_lt Nat.and_le_left (by omega)
theorem j_and_m1 (y : Int32) : y &&& (-1) = y := by
  apply Int32.toBitVec_inj.mp
  show y.toBitVec &&& (-1 : Int32).toBitVec = y.toBitVec
  have e : (-1 : Int32).toBitVec = BitVec.allOnes 32 := by decide
  rw [e, BitVec.and_allOnes]
/-- days go by, on the row -/
def vrow (v : Nat → Int32) (da : Int32) (p : lst) : Nat → Int32 := fun j => if j = 2 then da else if j = 4 then p.1 else if 26 ≤ j ∧ j < 36 then p.2 (j - 26) else v j
def vday (n : Int32) (v : Nat → Int32) : Nat → Int32 := vrow v (jclamp (v 2 + n) 0 9999) (pdays n (v 6) (v 4, fun i => v (26 + i)))
section jLight2
variable {E : jEnv} {d : Nat} {S : jM} {x m sz : Nat} {v : Nat → Int32}
theorem pone_kn {n fo : Int32} {g : Nat} {p : lst} (h : ∃ k, k < 1024 ∧ p.1 = nI k) : ∃ k, k < 1024 ∧ (pone n fo g p).1 = nI k := by
  unfold pone
  split
  · exact h
  · simp only
    split
    · exact h
    · split
      · exact h
      · obtain ⟨k, hk, e⟩ := h
        rw [e]
        exact nI_andle hk _
theorem pfold_kn {n fo : Int32} : ∀ (c i : Nat) (p : lst), (∃ k, k < 1024 ∧ p.1 = nI k) → ∃ k, k < 1024 ∧ (jfold (pone n fo) c i p).1 = nI k
  | 0, _, _, h => h
  | c + 1, i, p, h => pfold_kn c (i + 1) _ (pone_kn h)
theorem c_X11_doesKnow {Q : Int32 → jM → Prop} {g : Nat} (hM : MR S m v) (hk : ∃ k, k < 1024 ∧ v 4 = nI k) (hg : g < 10) (h : Q (jable (v 4) (nI g)) S) : jFi E mX11_doesKnow d 0 0 [.ref m, .int (nI g)] S Q := by
  obtain ⟨k, hk, e⟩ := hk
  obtain ⟨a1, a2⟩ := hM.at (i := 4) 4 rfl (by omega)
  refine T_X11_doesKnow ⟨hM.k, m + 1, hM.r, hM.k1, a1, ?_⟩
  rw [jable_at hg, e] at h
  rw [a2, e]
  have hq := jknow hk hg
  exact ⟨fun c => by rw [if_neg (by rw [hq]; exact fun f => f c)] at h; exact h, fun c => by rw [if_pos (by rw [hq]; exact c)] at h; exact h⟩
theorem jable01 (kn y : Int32) : jable kn y = 0 ∨ jable kn y = 1 := by
  unfold jable
  split
  · exact Or.inl rfl
  · split
    · exact Or.inl rfl
    · exact Or.inr rfl
theorem P_knows {w u : Int32} (hP : PI S x sz v) : jFi E mX10_knows (d + 2) 0 0 [.ref x, .int w, .int u] S (fun r S1 => jFm E mX11_knows (d + 1) (x + 94) [.int w, .int u] S1 (fun r' S2 => PO S x r r' S2)) := by
  have hX := hP.1
  have hM := hP.2.1
  have hl := hX.l
  have e2 : jisin u.toInt64 0 1 = jwi u 2 := jisin_wi u 2 1 rfl (jle_lt (by decide))
  refine T_X10_knows ⟨fun c => U_X11_knows (by first | exact hM.k | exact hM1.k | exact hP.2.1.k | exact h.2.2.1.1 | exact h.1.1 | exact g1.1.1 | exact g3.1.1 | exact gm.1.1 | exact h2.1.1 | exact hM2.k | (rw [c1.1.1]; exact hP.2.1.k)) ⟨fun _ => hP.same, fun c' => absurd c c'⟩, fun cw => ⟨fun c => U_X11_knows (by first | exact hM.k | exact hM1.k | exact hP.2.1.k | exact h.2.2.1.1 | exact h.1.1 | exact g1.1.1 | exact g3.1.1 | exact gm.1.1 | exact h2.1.1 | exact hM2.k | (rw [c1.1.1]; exact hP.2.1.k)) ⟨fun c' => absurd c' cw, fun _ => ⟨fun _ => hP.same, fun c' => absurd (e2.trans c) c'⟩⟩, fun cu => ⟨hX.1, x + 1, hX.2.1, hX.k3, x + 16, hX.r2, hX.kl, c_X1_isAble hX.kl ?_⟩⟩⟩
  rw [hl.2.2.1]
  obtain ⟨g, hg, rfl, -⟩ : ∃ j, j < 10 ∧ w = nI j ∧ jwi w 10 = 1 := by
    rcases jwi_cases w (b := 10) 10 rfl (by omega) with h | ⟨_, h⟩
    · exact h
    · exact absurd h cw
  have m0 : ∀ r, (jable (v 4) (nI g) = 0 → r = kNO) → (jable (v 4) (nI g) ≠ 0 → u = 0 → r = v (16 + g)) → (jable (v 4) (nI g) ≠ 0 → u ≠ 0 → r = v (26 + g)) → jFm E mX11_knows (d + 1) (x + 94) [.int (nI g), .int u] S (fun r' S2 => PO S x r r' S2) := by
    intro r h1 h2 h3
    refine U_X11_knows (by first | exact hM.k | exact hM1.k | exact hP.2.1.k | exact h.2.2.1.1 | exact h.1.1 | exact g1.1.1 | exact g3.1.1 | exact gm.1.1 | exact h2.1.1 | exact hM2.k | (rw [c1.1.1]; exact hP.2.1.k)) ⟨fun c => absurd c cw, fun _ => ⟨fun c => absurd (e2.symm.trans c) cu, fun _ => ⟨hM.k, c_X11_doesKnow hM hP.2.2.kn hg ⟨fun c => ?_, fun c => ⟨hM.k, x + 94 + 1, hM.r, fun cu0 => ?_, fun cu0 => ?_⟩⟩⟩⟩⟩
    · rw [h1 c]; exact hP.same
    · obtain ⟨a1, a2⟩ := hM.at (i := 16 + nI g) (16 + g) (nI_add 16 g) (by omega)
      rw [a2, h2 c cu0]
      exact ⟨hM.k1, a1, hP.same⟩
    · obtain ⟨a1, a2⟩ := hM.at (i := 26 + nI g) (26 + g) (nI_add 26 g) (by omega)
      rw [a2, h3 c cu0]
      exact ⟨hM.k1, a1, hP.same⟩
  have hb := hl.1
  refine ⟨fun c => m0 _ (fun _ => rfl) (fun c' => absurd c c') (fun c' => absurd c c'), fun c => ⟨fun cu0 => ⟨hX.kl, x + 17, hb.2.1, hb.2.2.2.1, ?_, ?_⟩, fun cu0 => ⟨hX.kl, x + 18, hb.2.2.1, hb.2.2.2.2.2.1, ?_, ?_⟩⟩⟩
  · rw [hb.2.2.2.2.1]; exact jin_nI hg (by omega)
  · rw [jcl (by omega), hl.2.2.2.2.2.2.1 g hg]
    exact m0 _ (fun c' => absurd c' c) (fun _ _ => rfl) (fun _ c' => absurd cu0 c')
  · rw [hb.2.2.2.2.2.2]; exact jin_nI hg (by omega)
  · rw [jcl (by omega), hl.2.2.2.2.2.2.2 g hg]
    exact m0 _ (fun c' => absurd c' c) (fun _ c' => absurd c' cu0) (fun _ _ => rfl)
/-- days go by: the reference's loop -/
theorem l_X11_goesBy {Q : jM → Prop} {n da : Int32} {f : Nat} (hf : f < 100) (h6 : v 6 = nI f) (hkn : ∃ k, k < 1024 ∧ v 4 = nI k)
    (h : ∀ S', jch S S' (m + 1) (m + 2) → MR S' m (vrow v da (pdays n (v 6) (v 4, fun i => v (26 + i)))) → Q S') :
    ∀ (c g : Nat) (S1 : jM), g + c = 10 → jch S S1 (m + 1) (m + 2) → MR S1 m (vrow v da (jfold (pone n (v 6)) g 0 (v 4, fun i => v (26 + i)))) → L_X11_goesBy_23 E (d + 1) Q m n (nI g) S1 := by
  intro c
  induction c with
  | zero =>
    intro g S1 hg hc hM
    obtain rfl : g = 10 := by omega
    exact T_X11_goesBy_23 ⟨fun _ => h S1 hc hM, fun c => absurd (by decide) c⟩
  | succ c ih =>
    intro g S1 hg hc hM
    have hp := pfold_kn (n := n) (fo := v 6) g 0 (v 4, fun i => v (26 + i)) hkn
    have hsn : jfold (pone n (v 6)) (g + 1) 0 (v 4, fun i => v (26 + i)) = pone n (v 6) g (jfold (pone n (v 6)) g 0 (v 4, fun i => v (26 + i))) := by rw [jfold_snoc, Nat.zero_add]
    have ih1 := ih (g + 1)
    rw [hsn] at ih1
    generalize jfold (pone n (v 6)) g 0 (v 4, fun i => v (26 + i)) = p at *
    have ea : vrow v da p 4 = p.1 := by unfold vrow; rw [if_neg (by omega), if_pos rfl]
    have eb : vrow v da p (26 + g) = p.2 g := by unfold vrow; rw [if_neg (by omega), if_neg (by omega), if_pos (by omega), show 26 + g - 26 = g by omega]
    have ec : vrow v da p 6 = nI f := by unfold vrow; rw [if_neg (by omega), if_neg (by omega), if_neg (by omega)]; exact h6
    obtain ⟨b1, b2⟩ := hM.at (i := 26 + nI g) (26 + g) (nI_add 26 g) (by omega)
    refine T_X11_goesBy_23 ⟨fun c => absurd c (nI_ge (b := 10) (by omega) (by omega)), fun _ => ⟨hM.k, c_X11_doesKnow hM (by rw [ea]; exact hp) (by omega) ?_⟩⟩
    rw [ea, jable_at (by omega), nI_1]
    have e26 : Int32.toNatClampNeg (26 + nI g) = 26 + g := by
      have : (26 : Int32) + nI g = nI (26 + g) := nI_add 26 g
      rw [this, jcl (by omega)]
    have e4 : Int32.toNatClampNeg 4 = 4 := by decide
    have e6 : Int32.toNatClampNeg 6 = 6 := by decide
    refine ⟨fun c => ih1 S1 (by omega) hc ?_, fun c => ⟨hM.k, m + 1, hM.r, hM.k1, b1, (hM.at (i := 4) 4 rfl (by omega)).1, (hM.at (i := 6) 6 rfl (by omega)).1, ?_⟩⟩
    · have e : pone n (v 6) g p = p := by
        unfold pone
        by_cases hz : p.1 &&& jshl 1 (nI g) = 0
        · rw [if_pos hz]
        · rw [if_neg hz] at c; exact absurd c (by decide)
      rw [e]; exact hM
    · have hz : ¬ (p.1 &&& jshl 1 (nI g) = 0) := fun hz => c (by rw [if_pos hz])
      rw [e4, e6, e26, ji_put, if_neg (by omega), ji_put, if_neg (by omega), hM.2 6, hM.2 4, hM.2 (26 + g), ea, eb, ec]
      -- the row after one gesture
      have row : ∀ kn : Int32, pone n (v 6) g p = (kn, upd p.2 g (p.2 g + n)) → MR (jput (jput S1 (m + 1) (26 + g) (p.2 g + n)) (m + 1) 4 kn) m (vrow v da (pone n (v 6) g p)) := by
        intro kn e
        have h2 := (hM.put (n := 26 + g) (w := p.2 g + n)).put (n := 4) (w := kn)
        refine ⟨h2.1, fun j => (h2.2 j).trans ?_⟩
        rw [e]
        unfold upd vrow
        by_cases j4 : j = 4
        · rw [if_pos j4, if_neg (by omega), if_pos j4]
        · rw [if_neg j4]
          by_cases jg : j = 26 + g
          · rw [if_pos jg, if_neg (by omega), if_neg (by omega), if_pos (by omega)]
            show _ = if j - 26 = g then _ else _
            rw [if_pos (by omega)]
          · rw [if_neg jg]
            by_cases j2 : j = 2
            · rw [if_pos j2, if_pos j2]
            · rw [if_neg j2, if_neg j2, if_neg j4, if_neg j4]
              by_cases jr : 26 ≤ j ∧ j < 36
              · rw [if_pos jr, if_pos jr]
                show _ = if j - 26 = g then _ else _
                rw [if_neg (by omega)]
              · rw [if_neg jr, if_neg jr]
      have ch : ∀ kn : Int32, jch S (jput (jput S1 (m + 1) (26 + g) (p.2 g + n)) (m + 1) 4 kn) (m + 1) (m + 2) := fun kn => (hc.trans (jch.put (by omega) (by omega))).trans (jch.put (by omega) (by omega))
      have po : pone n (v 6) g p = (if v 6 = 0 then p.1 else if p.2 g + n ≤ v 6 then p.1 else p.1 &&& (jshl 1 (nI g) ^^^ (-1)), upd p.2 g (p.2 g + n)) := by unfold pone; rw [if_neg hz]
      have f0 : nI f ≤ 0 ↔ v 6 = 0 := by
        rw [h6]
        constructor
        · intro hle
          by_cases hf0 : f = 0
          · subst hf0; rfl
          · exfalso
            rw [Int32.le_iff_toInt_le, nI_toInt (by omega)] at hle
            have : (0 : Int32).toInt = 0 := rfl
            omega
        · intro e; rw [e]; decide
      refine ⟨fun h0 => ?_, fun h0 => ⟨fun h1 => ?_, fun h1 => ?_⟩⟩
      · rw [j_and_m1]
        exact ih1 _ (by omega) (ch _) (row _ (by rw [po, if_pos (f0.mp h0)]))
      · rw [j_and_m1]
        exact ih1 _ (by omega) (ch _) (row _ (by rw [po, if_neg (fun e => h0 (f0.mpr e)), if_pos (by rw [h6]; exact h1)]))
      · exact ih1 _ (by omega) (ch _) (row _ (by rw [po, if_neg (fun e => h0 (f0.mpr e)), if_neg (by rw [h6]; exact h1)]))
theorem c_X11_goesBy {Q : jM → Prop} {n : Int32} (hM : MR S m v) (hg : Rg sz v) (h : ∀ S', jch S S' (m + 1) (m + 2) → MR S' m (vday n v) → Q S') : jFv E mX11_goesBy (d + 2) 0 0 [.ref m, .int n] S Q := by
  obtain ⟨f, hf, h6⟩ := hg 6 (by omega) (by decide)
  obtain ⟨a1, a2⟩ := hM.at (i := 2) 2 rfl (by omega)
  refine T_X11_goesBy ⟨hM.k, m + 1, hM.r, hM.k1, a1, ?_⟩
  rw [a2]
  refine l_X11_goesBy (S := S) (v := v) (da := jclamp (v 2 + n) 0 9999) hf h6 hg.kn (fun S' hc h2 => h S' hc h2) 10 0 _ (by omega) (jch.put (by omega) (by omega)) ?_
  have h2 := hM.puts (i := 2) (w := jclamp (v 2 + n) 0 9999) 2 rfl (by omega)
  refine ⟨h2.1, fun j => (h2.2 j).trans ?_⟩
  unfold upd vrow jfold
  by_cases j2 : j = 2
  · rw [if_pos j2, if_pos j2]
  · rw [if_neg j2, if_neg j2]
    by_cases j4 : j = 4
    · rw [if_pos j4, j4]
    · rw [if_neg j4]
      by_cases jr : 26 ≤ j ∧ j < 36
      · rw [if_pos jr]
        show v j = v (26 + (j - 26))
        congr 1; omega
      · rw [if_neg jr]
end jLight2
