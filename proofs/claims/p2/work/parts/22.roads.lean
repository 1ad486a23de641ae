/-! ROADS (class) at q: days at q + 1, ways at q + 2; FAR by the same steps as the reference takes them -/
def w0step (dy : Nat → Int32) (i : Nat) (w : Nat → Int32) : Nat → Int32 := upd w i (if i / 6 = i % 6 then 0 else if dy i = 0 then 9999 else dy i)
def w1step (o i : Nat) (w : Nat → Int32) : Nat → Int32 := upd w i (jmin (w i) (w (i / 6 * 6 + o) + w (o * 6 + i % 6)))
def w1 (o : Nat) (w : Nat → Int32) : Nat → Int32 := jfold (w1step o) 36 0 w
def wfar (dy w : Nat → Int32) : Nat → Int32 := jfold w1 6 0 (jfold (w0step dy) 36 0 w)
theorem nI_ix6 (a c : Nat) : nI a * 6 + nI c = nI (a * 6 + c) := by
  rw [show (6 : Int32) = nI 6 from rfl, pk_mul, nI_add]
theorem jfold_snoc {α : Type} (st : Nat → α → α) : ∀ (n i : Nat) (a : α), jfold st (n + 1) i a = st (i + n) (jfold st n i a)
  | 0, i, a => rfl
  | n + 1, i, a => by
    show jfold st (n + 1) (i + 1) (st i a) = st (i + (n + 1)) (jfold st n (i + 1) (st i a))
    rw [jfold_snoc st n (i + 1) (st i a)]
    congr 1
    omega
def RdL (S : jM) (q : Nat) : Prop := jk S q = 4 ∧ jr S q 0 = some (q + 1) ∧ jr S q 1 = some (q + 2) ∧ jk S (q + 1) = 12 ∧ jl S (q + 1) = 36 ∧ jk S (q + 2) = 12 ∧ jl S (q + 2) = 36
def RdR (S : jM) (q : Nat) (dy wy : Nat → Int32) : Prop := RdL S q ∧ (∀ i, i < 36 → ji S (q + 1) i = dy i) ∧ ∀ i, i < 36 → ji S (q + 2) i = wy i
theorem RdL.same {S S' : jM} {q : Nat} (h : RdL S q) (hs : jsame S S') : RdL S' q := by
  obtain ⟨e1, e2, e3, -⟩ := hs
  unfold RdL
  rw [e1, e2, e3]
  exact h
theorem RdR.keep {S S' : jM} {q lo hi : Nat} {dy wy : Nat → Int32} (h : RdR S q dy wy) (hc : jch S S' lo hi) (hd : q + 3 ≤ lo ∨ hi ≤ q) : RdR S' q dy wy :=
  ⟨h.1.same hc.1, fun i hi' => by rw [hc.2 (q + 1) (by omega)]; exact h.2.1 i hi', fun i hi' => by rw [hc.2 (q + 2) (by omega)]; exact h.2.2 i hi'⟩
section jRoads
variable {E : jEnv} {d : Nat} {S : jM} {q : Nat}
theorem l_X4_meas2 {Q : jM → Prop} (hL : RdL S q) (h : ∀ S', jch S S' q (q + 3) → ji S' (q + 2) = jfold w1 6 0 (ji S (q + 2)) → ji S' (q + 1) = ji S (q + 1) → Q S') : L_X4_measure_73 E d Q q 0 S := by
  have hr2 := hL.2.2.1
  have hk2 := hL.2.2.2.2.2.1
  have hl2 := hL.2.2.2.2.2.2
  have stepI : ∀ (o : Nat), o < 6 → ∀ (wz : Nat → Int32), L_X4_measure_73 E d Q q (nI (o + 1)) (jrow S (q + 2) wz) → ∀ (n i : Nat) (w : Nat → Int32), i + n = 36 → jfold (w1step o) n i w = wz → (0 < n → L_X4_measure_89 E d Q q (nI o) (nI (i / 6)) (nI (i % 6)) (jrow S (q + 2) w)) ∧ (n = 0 → L_X4_measure_81 E d Q q (nI o) (nI 6) (jrow S (q + 2) w)) := by
    intro o ho wz hend n
    induction n with
    | zero =>
      intro i w hi hw
      refine ⟨fun c => absurd c (by omega), fun _ => ?_⟩
      have hw' : w = wz := hw
      subst hw'
      exact T_X4_measure_81 ⟨fun _ => by rw [nI_1]; exact hend, fun c => absurd (by decide) c⟩
    | succ n ih =>
      intro i w hi hw
      refine ⟨fun _ => ?_, fun c => absurd c (by omega)⟩
      have hi6 : i / 6 < 6 := by omega
      have hm6 : i % 6 < 6 := by omega
      have hrow : ji (jrow S (q + 2) w) (q + 2) = w := ji_row_same _ _ _
      have ii : i / 6 * 6 + i % 6 = i := by omega
      refine T_X4_measure_89 ⟨fun c => absurd c (nI_ge (b := 6) (by omega) (by omega)), fun _ => ⟨hL.1, q + 2, hr2, hk2, ?_, ?_, ?_⟩⟩
      · rw [nI_ix6]; show vp_in _ (jl S (q + 2)); rw [hl2]; exact jin_nI (by omega) (by omega)
      · rw [nI_ix6]; show vp_in _ (jl S (q + 2)); rw [hl2]; exact jin_nI (by omega) (by omega)
      · intro y hy
        refine ⟨?_, ?_⟩
        · rw [nI_ix6]; show vp_in _ (jl S (q + 2)); rw [hl2]; exact jin_nI (by omega) (by omega)
        · rw [nI_ix6, nI_ix6, jcl (by omega), jcl (by omega), hrow] at hy
          rw [nI_ix6, jcl (by omega), hrow, nI_1, jput_eq, jrow_row, hrow, ii]
          have hs : upd w i (jmin (w i) y) = w1step o i w := by rw [hy]; rfl
          rw [hs]
          have hnext := ih (i + 1) (w1step o i w) (by omega) hw
          rcases Nat.lt_or_ge (i % 6) 5 with hc | hc
          · have e1 : (i + 1) / 6 = i / 6 := by omega
            have e2 : (i + 1) % 6 = i % 6 + 1 := by omega
            rw [e1, e2] at hnext
            exact hnext.1 (by omega)
          · have e2 : i % 6 + 1 = 6 := by omega
            rw [e2]
            refine T_X4_measure_89 ⟨fun _ => ?_, fun c => absurd (by decide) c⟩
            rw [nI_1]
            by_cases hn : n = 0
            · have e3 : i / 6 + 1 = 6 := by omega
              rw [e3]
              exact hnext.2 hn
            · have e3 : (i + 1) / 6 = i / 6 + 1 := by omega
              have e4 : (i + 1) % 6 = 0 := by omega
              have h9 := hnext.1 (by omega)
              rw [e3, e4] at h9
              exact T_X4_measure_81 ⟨fun c => absurd c (nI_ge (b := 6) (by omega) (by omega)), fun _ => h9⟩
  have stepO : ∀ (n o : Nat) (w : Nat → Int32), o + n = 6 → jfold w1 n o w = jfold w1 6 0 (ji S (q + 2)) → L_X4_measure_73 E d Q q (nI o) (jrow S (q + 2) w) := by
    intro n
    induction n with
    | zero =>
      intro o w ho hw
      obtain rfl : o = 6 := by omega
      refine T_X4_measure_73 ⟨fun _ => h _ (jch.row (by omega) (by omega)) ?_ ?_, fun c => absurd (by decide) c⟩
      · rw [ji_row_same]; exact hw
      · rw [ji_row_ne _ _ _ (by omega)]
    | succ n ih =>
      intro o w ho hw
      refine T_X4_measure_73 ⟨fun c => absurd c (nI_ge (b := 6) (by omega) (by omega)), fun _ => ?_⟩
      refine T_X4_measure_81 ⟨fun c => absurd c (by decide), fun _ => ?_⟩
      exact (stepI o (by omega) (w1 o w) (ih (o + 1) (w1 o w) (by omega) hw) 36 0 w (by omega) rfl).1 (by omega)
  have h0 := stepO 6 0 (ji S (q + 2)) (by omega) rfl
  rw [jrow_self] at h0
  exact h0
theorem c_X4_measure {Q : jM → Prop} (hL : RdL S q) (h : ∀ S', jch S S' q (q + 3) → ji S' (q + 2) = wfar (ji S (q + 1)) (ji S (q + 2)) → ji S' (q + 1) = ji S (q + 1) → Q S') : jFv E mX4_measure (d + 1) 0 0 [.ref q] S Q := by
  have hr1 := hL.2.1
  have hr2 := hL.2.2.1
  have hk1 := hL.2.2.2.1
  have hl1 := hL.2.2.2.2.1
  have hk2 := hL.2.2.2.2.2.1
  have hl2 := hL.2.2.2.2.2.2
  have hend : L_X4_measure_73 E d Q q 0 (jrow S (q + 2) (jfold (w0step (ji S (q + 1))) 36 0 (ji S (q + 2)))) := by
    refine l_X4_meas2 (S := jrow S (q + 2) (jfold (w0step (ji S (q + 1))) 36 0 (ji S (q + 2)))) hL (fun S' hc e1 e2 => h S' ((jch.row (by omega) (by omega)).trans hc) ?_ ?_)
    · rw [e1, ji_row_same]; rfl
    · rw [e2, ji_row_ne _ _ _ (by omega)]
  have stepI : ∀ (n i : Nat) (w : Nat → Int32), i + n = 36 → jfold (w0step (ji S (q + 1))) n i w = jfold (w0step (ji S (q + 1))) 36 0 (ji S (q + 2)) → (0 < n → L_X4_measure_10 E d Q q (nI (i / 6)) (nI (i % 6)) (jrow S (q + 2) w)) ∧ (n = 0 → L_X4_measure_2 E d Q q (nI 6) (jrow S (q + 2) w)) := by
    intro n
    induction n with
    | zero =>
      intro i w hi hw
      refine ⟨fun c => absurd c (by omega), fun _ => ?_⟩
      have hw' : w = jfold (w0step (ji S (q + 1))) 36 0 (ji S (q + 2)) := hw
      rw [hw']
      exact T_X4_measure_2 ⟨fun _ => hend, fun c => absurd (by decide) c⟩
    | succ n ih =>
      intro i w hi hw
      refine ⟨fun _ => ?_, fun c => absurd c (by omega)⟩
      have hi6 : i / 6 < 6 := by omega
      have hm6 : i % 6 < 6 := by omega
      have ii : i / 6 * 6 + i % 6 = i := by omega
      have hrow : ji (jrow S (q + 2) w) (q + 2) = w := ji_row_same _ _ _
      have hrow1 : ji (jrow S (q + 2) w) (q + 1) = ji S (q + 1) := ji_row_ne _ _ _ (by omega)
      have hnext := ih (i + 1) (w0step (ji S (q + 1)) i w) (by omega) hw
      have hgo : L_X4_measure_10 E d Q q (nI (i / 6)) (nI (i % 6 + 1)) (jrow S (q + 2) (w0step (ji S (q + 1)) i w)) := by
        rcases Nat.lt_or_ge (i % 6) 5 with hc | hc
        · have e1 : (i + 1) / 6 = i / 6 := by omega
          have e2 : (i + 1) % 6 = i % 6 + 1 := by omega
          rw [e1, e2] at hnext
          exact hnext.1 (by omega)
        · have e2 : i % 6 + 1 = 6 := by omega
          rw [e2]
          refine T_X4_measure_10 ⟨fun _ => ?_, fun c => absurd (by decide) c⟩
          rw [nI_1]
          by_cases hn : n = 0
          · have e3 : i / 6 + 1 = 6 := by omega
            rw [e3]
            exact hnext.2 hn
          · have e3 : (i + 1) / 6 = i / 6 + 1 := by omega
            have e4 : (i + 1) % 6 = 0 := by omega
            have h9 := hnext.1 (by omega)
            rw [e3, e4] at h9
            exact T_X4_measure_2 ⟨fun c => absurd c (nI_ge (b := 6) (by omega) (by omega)), fun _ => h9⟩
      have hin1 : vp_in (nI (i / 6) * 6 + nI (i % 6)) (jl (jrow S (q + 2) w) (q + 1)) := by rw [nI_ix6]; show vp_in _ (jl S (q + 1)); rw [hl1]; exact jin_nI (by omega) (by omega)
      have hin2 : vp_in (nI (i / 6) * 6 + nI (i % 6)) (jl (jrow S (q + 2) w) (q + 2)) := by rw [nI_ix6]; show vp_in _ (jl S (q + 2)); rw [hl2]; exact jin_nI (by omega) (by omega)
      refine T_X4_measure_10 ⟨fun c => absurd c (nI_ge (b := 6) (by omega) (by omega)), fun _ => ⟨hL.1, q + 1, hr1, hk1, hin1, q + 2, hr2, fun c => ⟨hk2, hin2, ?_⟩, fun c => ⟨fun c2 => ⟨hk2, hin2, ?_⟩, fun c2 => ⟨hk2, hin2, ?_⟩⟩⟩⟩
      · have hc : i / 6 = i % 6 := nI_inj (by omega) (by omega) c
        rw [nI_ix6, jcl (by omega), nI_1, jput_eq, jrow_row, hrow, ii]
        have hs : upd w i 0 = w0step (ji S (q + 1)) i w := by unfold w0step; rw [if_pos hc]
        rw [hs]; exact hgo
      · have hc : ¬ i / 6 = i % 6 := fun e => c (by rw [e])
        rw [nI_ix6, jcl (by omega), hrow1, ii] at c2
        rw [nI_ix6, jcl (by omega), nI_1, jput_eq, jrow_row, hrow, ii]
        have hs : upd w i 9999 = w0step (ji S (q + 1)) i w := by unfold w0step; rw [if_neg hc, if_pos c2]
        rw [hs]; exact hgo
      · have hc : ¬ i / 6 = i % 6 := fun e => c (by rw [e])
        rw [nI_ix6, jcl (by omega), hrow1, ii] at c2
        rw [nI_ix6, jcl (by omega), hrow1, nI_1, jput_eq, jrow_row, hrow, ii]
        have hs : upd w i (ji S (q + 1) i) = w0step (ji S (q + 1)) i w := by unfold w0step; rw [if_neg hc, if_neg c2]
        rw [hs]; exact hgo
  have h0 := (stepI 36 0 (ji S (q + 2)) (by omega) rfl).1 (by omega)
  rw [jrow_self] at h0
  exact T_X4_measure (T_X4_measure_2 ⟨fun c => absurd c (by decide), fun _ => h0⟩)
end jRoads
