/-! WHAT IS TAUGHT, and the row laid by and back, by the reference -/
section jClose
variable {E : jEnv} {d : Nat} {S : jM} {x m sz : Nat} {v : Nat → Int32}
theorem c_X11_taughtNow {Q : Int32 → jM → Prop} (hM : MR S m v) (h0 : v 0 = nI sz) (hz : sz ≤ 9) (h : Q (mtaught (mfv v) sz) S) : jFi E mX11_taughtNow (d + 1) 0 0 [.ref m] S Q := by
  have i0 := hM.at (i := 0) 0 rfl (by omega)
  have key : ∀ (n i : Nat) (a : Int32), i + n = sz → Q (jfold (fun i a => if mfv v i 6 = 0 then a ||| jshl 1 (mfv v i 2) else a ||| 0) n i a) S → L_X11_taughtNow_4 E d Q m a (nI i) S := by
    intro n
    induction n with
    | zero =>
      intro i a hi hh
      obtain rfl : i = sz := by omega
      exact T_X11_taughtNow_4 ⟨hM.k, _, hM.r, hM.k1, i0.1, fun _ => hh, fun cc => absurd (by rw [i0.2, h0]; exact Int32.le_rfl) cc⟩
    | succ n ih =>
      intro i a hi hh
      unfold jfold at hh
      refine T_X11_taughtNow_4 ⟨hM.k, _, hM.r, hM.k1, i0.1, fun cc => absurd cc ?_, fun _ => c_X11_of (f := 6) hM (by omega) (by omega) ⟨fun c6 => ⟨hM.k, c_X11_of (f := 2) hM (by omega) (by omega) ?_⟩, fun c6 => ?_⟩⟩
      · rw [i0.2, h0, Int32.le_iff_toInt_le, nI_toInt (by omega), nI_toInt (by omega)]; omega
      · rw [nI_1]
        rw [if_pos c6] at hh
        exact ih (i + 1) _ (by omega) hh
      · rw [nI_1]
        rw [if_neg c6] at hh
        exact ih (i + 1) _ (by omega) hh
  exact T_X11_taughtNow (key sz 0 0 (by omega) h)
theorem ML.close (h : ML S m) : jr S m 13 = some (m + 13) ∧ jk S (m + 13) = 12 ∧ jl S (m + 13) = 135 := by
  have := h.2 12 (13, 135) rfl
  rw [show m + 1 + 12 = m + 13 by omega] at this
  exact this
theorem c_X11_laysBy {Q : jM → Prop} (hM : MR S m v) (h : ∀ S', jch S S' (m + 13) (m + 14) → MR S' m v → (∀ j, j < 135 → ji S' (m + 13) j = v j) → Q S') : jFv E mX11_laysBy d 0 0 [.ref m] S Q := by
  have key : ∀ (n i : Nat) (S1 : jM), i + n = 135 → jch S S1 (m + 13) (m + 14) → MR S1 m v → (∀ j, j < i → ji S1 (m + 13) j = v j) → L_X11_laysBy_2 E d Q m (nI i) S1 := by
    intro n
    induction n with
    | zero =>
      intro i S1 hi c1 h1 hr
      obtain rfl : i = 135 := by omega
      exact T_X11_laysBy_2 ⟨fun _ => h S1 c1 h1 hr, fun cc => absurd (by decide) cc⟩
    | succ n ih =>
      intro i S1 hi c1 h1 hr
      obtain ⟨f1, f2, f3⟩ := h1.1.close
      obtain ⟨a1, a2⟩ := h1.at (i := nI i) i rfl (by omega)
      refine T_X11_laysBy_2 ⟨fun cc => absurd cc (nI_ge (b := 135) (by omega) (by omega)), fun _ => ⟨h1.k, _, f1, _, h1.r, h1.k1, a1, f2, by rw [f3]; exact jin_nI (by omega) (by omega), ?_⟩⟩
      rw [a2, jcl (by omega), nI_1]
      have c2 : jch S1 (jput S1 (m + 13) i (v i)) (m + 13) (m + 14) := jch.put (by omega) (by omega)
      refine ih (i + 1) _ (by omega) (c1.trans c2) (h1.keep c2 (by omega)) (fun j hj => ?_)
      rw [ji_put]
      by_cases hji : j = i
      · rw [if_pos ⟨rfl, hji⟩, hji]
      · rw [if_neg (fun c => hji c.2)]; exact hr j (by omega)
  exact T_X11_laysBy (key 135 0 S (by omega) jch.rfl hM (fun j hj => absurd hj (by omega)))
theorem c_X11_laysBack {Q : jM → Prop} {u : Nat → Int32} (hM : MR S m u) (hr : ∀ j, j < 135 → ji S (m + 13) j = v j) (h : ∀ S', jch S S' (m + 1) (m + 2) → MR S' m (fun j => if j < 135 then v j else u j) → Q S') : jFv E mX11_laysBack d 0 0 [.ref m] S Q := by
  have key : ∀ (n i : Nat) (S1 : jM), i + n = 135 → jch S S1 (m + 1) (m + 2) → MR S1 m (fun j => if j < i then v j else u j) → L_X11_laysBack_2 E d Q m (nI i) S1 := by
    intro n
    induction n with
    | zero =>
      intro i S1 hi c1 h1
      obtain rfl : i = 135 := by omega
      exact T_X11_laysBack_2 ⟨fun _ => h S1 c1 h1, fun cc => absurd (by decide) cc⟩
    | succ n ih =>
      intro i S1 hi c1 h1
      obtain ⟨f1, f2, f3⟩ := h1.1.close
      obtain ⟨a1, -⟩ := h1.at (i := nI i) i rfl (by omega)
      refine T_X11_laysBack_2 ⟨fun cc => absurd cc (nI_ge (b := 135) (by omega) (by omega)), fun _ => ⟨h1.k, _, h1.r, _, f1, f2, by rw [f3]; exact jin_nI (by omega) (by omega), h1.k1, a1, ?_⟩⟩
      rw [jcl (by omega), nI_1, c1.2 (m + 13) (by omega), hr i (by omega)]
      have h2 := h1.put (n := i) (w := v i)
      refine ih (i + 1) _ (by omega) (c1.trans (jch.put (by omega) (by omega))) ⟨h2.1, fun j => (h2.2 j).trans ?_⟩
      by_cases hji : j = i
      · subst hji; rw [upd_at]; show v j = if j < j + 1 then v j else u j; rw [if_pos (by omega)]
      · rw [upd_ne _ hji]
        show (if j < i then v j else u j) = if j < i + 1 then v j else u j
        by_cases hl : j < i
        · rw [if_pos hl, if_pos (by omega)]
        · rw [if_neg hl, if_neg (by omega)]
  exact T_X11_laysBack (key 135 0 S (by omega) jch.rfl ⟨hM.1, fun j => (hM.2 j).trans (by show u j = if j < 0 then v j else u j; rw [if_neg (by omega)])⟩)
end jClose
