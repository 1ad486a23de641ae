/-! CAN the chair be made, on both sides -/
theorem jbitF : ∀ k : Fin 1024, ∀ g : Fin 10, (jshl 1 (nI g.val) &&& (nI k.val ^^^ (-1)) = 0) = ¬ (nI k.val &&& jshl 1 (nI g.val) = 0) := by decide +kernel
def jcanF (kn : Int32) (wf : Nat → Int32) : Nat → Nat → Int32
  | 0, _ => 1
  | n + 1, i => if jable kn (wf i) = 0 then 0 else jcanF kn wf n (i + 1)
theorem j_or_and (a b c : Int32) : ((a ||| b) &&& c = 0) ↔ (a &&& c = 0 ∧ b &&& c = 0) := by
  have e : (a ||| b) &&& c = (a &&& c) ||| (b &&& c) := by
    apply Int32.toBitVec_inj.mp
    show (a.toBitVec ||| b.toBitVec) &&& c.toBitVec = (a.toBitVec &&& c.toBitVec) ||| (b.toBitVec &&& c.toBitVec)
    ext i
    simp [Bool.and_or_distrib_right]
  rw [e]
  have z : ∀ p q : Int32, (p ||| q = 0) ↔ (p = 0 ∧ q = 0) := by
    intro p q
    have h : ∀ p : Int32, p = 0 ↔ p.toBitVec = 0#32 := fun p => ⟨fun h => by rw [h]; rfl, fun h => Int32.toBitVec_inj.mp h⟩
    rw [h, h, h]
    show (p.toBitVec ||| q.toBitVec = 0#32) ↔ _
    exact BitVec.or_eq_zero_iff
  exact z _ _
theorem jcan_set {kn : Int32} {wf : Nat → Int32} (hk : ∃ k, k < 1024 ∧ kn = nI k) : ∀ (n i : Nat) (a : Int32), (∀ j, j < i + n → ∃ g, g < 10 ∧ wf j = nI g) → ((jfold (fun i a => a ||| jshl 1 (wf i)) n i a &&& (kn ^^^ (-1)) = 0) ↔ (a &&& (kn ^^^ (-1)) = 0 ∧ jcanF kn wf n i = 1))
  | 0, i, a, _ => ⟨fun h => ⟨h, rfl⟩, fun h => h.1⟩
  | n + 1, i, a, hw => by
    show (jfold (fun i a => a ||| jshl 1 (wf i)) n (i + 1) (a ||| jshl 1 (wf i)) &&& (kn ^^^ (-1)) = 0) ↔ _
    rw [jcan_set hk n (i + 1) _ (fun j hj => hw j (by omega)), j_or_and]
    obtain ⟨k, hk, rfl⟩ := hk
    obtain ⟨g, hg, e⟩ := hw i (by omega)
    have hb := jbitF ⟨k, hk⟩ ⟨g, hg⟩
    have ej : jcanF (nI k) wf (n + 1) i = if jable (nI k) (wf i) = 0 then 0 else jcanF (nI k) wf n (i + 1) := rfl
    rw [ej, e, jable_at hg, hb]
    by_cases hz : nI k &&& jshl 1 (nI g) = 0
    · simp [hz]
    · simp [hz]
section jCan
variable {E : jEnv} {d : Nat} {S : jM} {x m sz : Nat} {v : Nat → Int32}
theorem jcanF01 (kn : Int32) (wf : Nat → Int32) : ∀ n i, jcanF kn wf n i = 0 ∨ jcanF kn wf n i = 1
  | 0, _ => Or.inr rfl
  | n + 1, i => by
    unfold jcanF
    split
    · exact Or.inl rfl
    · exact jcanF01 kn wf n (i + 1)
theorem c_X11_can {Q : Int32 → jM → Prop} {w : Nat} (hM : MR S m v) (hg : Rg sz v) (hw : w < 7) (e7 : v 7 = nI w) (h : Q (jcanF (v 4) (fun i => v (9 + i)) w 0) S) : jFi E mX11_can (d + 1) 0 0 [.ref m] S Q := by
  have i7 := hM.at (i := 7) 7 rfl (by omega)
  have key : ∀ (n i : Nat), i + n = w → Q (jcanF (v 4) (fun i => v (9 + i)) n i) S → L_X11_can_2 E d Q m (nI i) S := by
    intro n
    induction n with
    | zero =>
      intro i hi hh
      obtain rfl : i = w := by omega
      exact T_X11_can_2 ⟨hM.k, _, hM.r, hM.k1, i7.1, fun _ => hh, fun cc => absurd (by rw [i7.2, e7]; exact Int32.le_rfl) cc⟩
    | succ n ih =>
      intro i hi hh
      obtain ⟨a1, a2⟩ := hM.at (i := 9 + nI i) (9 + i) (nI_add 9 i) (by omega)
      obtain ⟨g, hg10, eg⟩ := hg.wd i (by omega)
      refine T_X11_can_2 ⟨hM.k, _, hM.r, hM.k1, i7.1, fun cc => absurd cc ?_, fun _ => ⟨a1, ?_⟩⟩
      · rw [i7.2, e7, Int32.le_iff_toInt_le, nI_toInt (by omega), nI_toInt (by omega)]; omega
      · rw [a2, eg]
        unfold jcanF at hh
        simp only [eg] at hh
        refine c_X11_doesKnow hM hg.kn hg10 ⟨fun c => ?_, fun c => ?_⟩
        · rw [if_pos c] at hh; exact hh
        · rw [if_neg c] at hh; rw [nI_1]; exact ih (i + 1) (by omega) hh
  exact T_X11_can (key w 0 (by omega) h)
theorem c_X3_can {Q : Int32 → jM → Prop} {r w : Nat} (hR : RmR S r sz v) (hg : Rg sz v) (hw : w < 7) (e7 : v 7 = nI w) (h : Q (jcanF (v 4) (fun i => v (9 + i)) w 0) S) : jFi E mX3_canMakeChair (d + 1) 0 0 [.ref r] S Q := by
  obtain ⟨a0, a1, a2, a3, a4, a5, a6, a7, a8⟩ := hR
  have key : ∀ (Q' : Int32 → jM → Prop) (n i : Nat) (a : Int32), i + n = w → Q' (jfold (fun i a => a ||| jshl 1 (v (9 + i))) n i a) S → L_X3_wishedSet_4 E d Q' r a (nI i) S := by
    intro Q' n
    induction n with
    | zero =>
      intro i a hi hh
      obtain rfl : i = w := by omega
      exact T_X3_wishedSet_4 ⟨a0.1, fun _ => hh, fun cc => absurd (by rw [a6, e7]; exact Int32.le_rfl) cc⟩
    | succ n ih =>
      intro i a hi hh
      refine T_X3_wishedSet_4 ⟨a0.1, fun cc => absurd cc ?_, fun _ => ⟨fun c6 => absurd c6 (nI_ge (b := 6) (by omega) (by omega)), fun _ => ⟨r + 18, a0.2.2.2.2.1, a0.2.2.2.2.2.2.1, by rw [a0.2.2.2.2.2.2.2.1]; exact jin_nI (by omega) (by omega), ?_⟩⟩⟩
      · rw [a6, e7, Int32.le_iff_toInt_le, nI_toInt (by omega), nI_toInt (by omega)]; omega
      · rw [jcl (by omega), a7 i (by omega), nI_1]
        exact ih (i + 1) _ (by omega) hh
  refine T_X3_canMakeChair ⟨a0.1, T_X3_wishedSet (key _ w 0 0 (by omega) ⟨a0.1, r + 15, a0.2.2.2.1, a5.1.1, ?_⟩)⟩
  rw [a5.2.2.1]
  have hs := jcan_set (kn := v 4) (wf := fun i => v (9 + i)) hg.kn w 0 0 (fun j hj => hg.wd j (by omega))
  refine ⟨fun c => ?_, fun c => ?_⟩
  · rw [(hs.mp c).2] at h; exact h
  · rcases jcanF01 (v 4) (fun i => v (9 + i)) w 0 with e | e
    · rw [e] at h; exact h
    · exact absurd (hs.mpr ⟨by rw [Int32.zero_and], e⟩) c
end jCan
