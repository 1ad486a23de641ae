/-! TEXT: the class makes its text -/
theorem jr_putr_ne (S : jM) (a j : Nat) (v : Option Nat) {y : Nat} (h : y ≠ a) : jr (jputr S a j v) y = jr S y := by funext i; rw [jr_putr, if_neg (fun z => h z.1)]
theorem jr_putr_same (S : jM) (a j : Nat) (v : Option Nat) : jr (jputr S a j v) a j = v := by rw [jr_putr, if_pos ⟨rfl, rfl⟩]
section jTxtNew
variable {E : jEnv} {d : Nat} {S S' : jM} {t key : Nat}
theorem jmax1 {o : Nat} (h : o ≤ 96) : ¬ jmax 1 (nI o) < 0 ∧ Int32.toNatClampNeg (jmax 1 (nI o)) = if o = 0 then 1 else o := by
  unfold jmax
  by_cases c : (1 : Int32) < nI o
  · have : 1 < o := (nI_ltI (a := 1) (by omega) (by omega)).mp c
    rw [if_pos c, if_neg (by omega), jcl (by omega)]
    exact ⟨nI_pos (by omega), rfl⟩
  · have : ¬ 1 < o := fun z => c (nI_lt (a := 1) z (by omega))
    rw [if_neg c]
    refine ⟨by decide, ?_⟩
    by_cases h0 : o = 0
    · rw [if_pos h0]; rfl
    · rw [if_neg h0, show o = 1 by omega]; rfl
theorem c_X8_textRead {Q : Option Nat → jM → Prop} {L : List Nat} (hT : TpL S t) (ht : t + 2 < jn S) (hC : CDC S t L) (h6 : ji S t 6 = nI key) (hl : L.length ≤ 96) (hp : pops L ≤ 96) (hq : ∀ S', jn S' = jn S + 3 → (∀ y, y < jn S → jcs S S' y) → TxC S' (jn S) key L.length (pops L) (fun i => L.getD i 0) → Q (some (jn S + 1)) S') : jFr E mX8_textRead (d + 2) 3 196 [.ref t] S Q := by
  obtain ⟨l9, l7, lr⟩ := hC
  have c9 : Int32.toNatClampNeg (ji S t 9) = L.length := by rw [l9]; exact jcl (by omega)
  have n9 : ¬ ji S t 9 < 0 := by rw [l9]; exact nI_pos (by omega)
  have nt : t ≠ jn S := by omega
  have nt2 : t + 2 ≠ jn S := by omega
  have jt : ∀ k m, ji (jnew S k m) t = ji S t := fun k m => by rw [ji_newE, if_neg nt]
  refine T_X8_textRead ⟨hT.1, ⟨n9, by rw [c9]; omega, by omega, by rw [c9]; omega⟩, fun q5 e5 => ?_⟩
  subst e5
  rw [c9, jt, c9]
  refine ⟨by rw [jk_newE, if_neg nt]; exact hT.1, t + 2, by rw [jr_newE, if_neg nt]; exact hT.2.2.1, by rw [jk_newE, if_neg nt2]; exact hT.2.2.2.2.2.1, by rw [jk_newE, if_pos rfl], ⟨by decide, by decide, n9, ?_, ?_⟩, ⟨by omega, by omega⟩, fun q16 e16 => ?_⟩
  · rw [jl_newE, if_neg nt2, hT.2.2.2.2.2.2]; show 0 + L.length ≤ 96; omega
  · rw [jl_newE, if_pos rfl]; show 0 + L.length ≤ L.length; omega
  have z0 : Int32.toNatClampNeg 0 = 0 := rfl
  rw [z0] at e16 ⊢
  have hn2 : jn (jrow (jnew S 12 L.length) (jn S) (va_cpy (ji (jnew S 12 L.length) (t + 2)) (ji (jnew S 12 L.length) (jn S)) 0 0 L.length)) = jn S + 1 := rfl
  rw [hn2] at e16
  subst e16
  -- the row behind the copy
  have hk2 : ∀ y, jk (jrow (jnew S 12 L.length) (jn S) (va_cpy (ji (jnew S 12 L.length) (t + 2)) (ji (jnew S 12 L.length) (jn S)) 0 0 L.length)) y = if y = jn S then 12 else jk S y := fun y => rfl
  have hl2 : ∀ y, jl (jrow (jnew S 12 L.length) (jn S) (va_cpy (ji (jnew S 12 L.length) (t + 2)) (ji (jnew S 12 L.length) (jn S)) 0 0 L.length)) y = if y = jn S then L.length else jl S y := fun y => rfl
  have hr2 : ∀ y, jr (jrow (jnew S 12 L.length) (jn S) (va_cpy (ji (jnew S 12 L.length) (t + 2)) (ji (jnew S 12 L.length) (jn S)) 0 0 L.length)) y = if y = jn S then (fun _ => none) else jr S y := fun y => rfl
  have hi2 : ∀ y, y ≠ jn S → ji (jrow (jnew S 12 L.length) (jn S) (va_cpy (ji (jnew S 12 L.length) (t + 2)) (ji (jnew S 12 L.length) (jn S)) 0 0 L.length)) y = ji S y := fun y hy => by rw [ji_row_ne _ _ _ hy, ji_newE, if_neg hy]
  have hw2 : ∀ i, i < L.length → ji (jrow (jnew S 12 L.length) (jn S) (va_cpy (ji (jnew S 12 L.length) (t + 2)) (ji (jnew S 12 L.length) (jn S)) 0 0 L.length)) (jn S) i = nI (L.getD i 0) := fun i hi => by
    rw [ji_row_same, pk_cpy_in (by omega) (by omega), ji_newE, if_neg nt2, show 0 + (i - 0) = i by omega]; exact lr i hi
  generalize jrow (jnew S 12 L.length) (jn S) (va_cpy (ji (jnew S 12 L.length) (t + 2)) (ji (jnew S 12 L.length) (jn S)) 0 0 L.length) = S2 at hn2 hk2 hl2 hr2 hi2 hw2 ⊢
  have nt3 : t ≠ jn S2 := by omega
  have j3 : ji (jnew S2 9 0) t = ji S t := by rw [ji_newE, if_neg nt3]; exact hi2 t nt
  rw [j3, h6, l7]
  obtain ⟨m1, m2⟩ := jmax1 hp
  refine ⟨by rw [jk_newE, if_neg nt3, hk2, if_neg nt]; exact hT.1, ⟨by omega, by omega⟩, T_X9_init ⟨by rw [jk_newE, hn2, if_pos rfl], ⟨m1, by rw [m2]; split <;> omega, by omega, by rw [m2]; split <;> omega⟩, fun q6 e6 => ?_⟩⟩
  rw [m2]
  have e6' : q6 = jn S + 2 := e6.trans (show jn S2 + 1 = jn S + 2 by rw [hn2])
  subst e6'
  refine ⟨?_, ⟨by omega, by split <;> omega⟩, ⟨by omega, by omega⟩, ?_⟩
  · rw [jk_newE, if_neg]
    · show jk (jnew S2 9 0) (jn S + 1) = 9
      rw [jk_newE, hn2, if_pos rfl]
    · show ¬ jn S + 1 = jn S2 + 1
      omega
  have n4 : jn (jputr (jput (jput (jnew S2 9 0) (jn S + 1) 0 (nI key)) (jn S + 1) 1 (nI (pops L))) (jn S + 1) 2 (some (jn S))) = jn S + 2 := by show jn S2 + 1 = _; rw [hn2]
  have hk4 : ∀ y, jk (jputr (jput (jput (jnew S2 9 0) (jn S + 1) 0 (nI key)) (jn S + 1) 1 (nI (pops L))) (jn S + 1) 2 (some (jn S))) y = if y = jn S + 1 then 9 else jk S2 y := fun y => by show jk (jnew S2 9 0) y = _; rw [jk_newE, hn2]
  have hl4 : ∀ y, y ≠ jn S + 1 → jl (jputr (jput (jput (jnew S2 9 0) (jn S + 1) 0 (nI key)) (jn S + 1) 1 (nI (pops L))) (jn S + 1) 2 (some (jn S))) y = jl S2 y := fun y hy => by show jl (jnew S2 9 0) y = _; rw [jl_newE, hn2, if_neg hy]
  have hi4 : ∀ y, y ≠ jn S + 1 → ji (jputr (jput (jput (jnew S2 9 0) (jn S + 1) 0 (nI key)) (jn S + 1) 1 (nI (pops L))) (jn S + 1) 2 (some (jn S))) y = ji S2 y := fun y hy => by
    rw [ji_putr, ji_put_ne _ _ _ _ hy, ji_put_ne _ _ _ _ hy, ji_newE, hn2, if_neg hy]
  have hi40 : ji (jputr (jput (jput (jnew S2 9 0) (jn S + 1) 0 (nI key)) (jn S + 1) 1 (nI (pops L))) (jn S + 1) 2 (some (jn S))) (jn S + 1) 0 = nI key := by
    rw [ji_putr, ji_put, if_neg (by omega), ji_put_same]
  have hi41 : ji (jputr (jput (jput (jnew S2 9 0) (jn S + 1) 0 (nI key)) (jn S + 1) 1 (nI (pops L))) (jn S + 1) 2 (some (jn S))) (jn S + 1) 1 = nI (pops L) := by
    rw [ji_putr, ji_put_same]
  have hr4 : ∀ y, y ≠ jn S + 1 → jr (jputr (jput (jput (jnew S2 9 0) (jn S + 1) 0 (nI key)) (jn S + 1) 1 (nI (pops L))) (jn S + 1) 2 (some (jn S))) y = jr S2 y := fun y hy => by
    rw [jr_putr_ne _ _ _ _ hy]
    show jr (jnew S2 9 0) y = _
    rw [jr_newE, hn2, if_neg hy]
  have hr42 : jr (jputr (jput (jput (jnew S2 9 0) (jn S + 1) 0 (nI key)) (jn S + 1) 1 (nI (pops L))) (jn S + 1) 2 (some (jn S))) (jn S + 1) 2 = some (jn S) := jr_putr_same _ _ _ _
  generalize jputr (jput (jput (jnew S2 9 0) (jn S + 1) 0 (nI key)) (jn S + 1) 1 (nI (pops L))) (jn S + 1) 2 (some (jn S)) = S4 at n4 hk4 hl4 hi4 hi40 hi41 hr4 hr42 ⊢
  refine hq _ ?_ (fun y hy => ⟨?_, ?_, ?_, ?_⟩) ⟨?_, ?_, ?_, ?_, ?_, ?_, ?_, ?_, ?_, fun i hi => ?_⟩
  · show jn S4 + 1 = _; rw [n4]
  · show jk (jnew S4 12 (if pops L = 0 then 1 else pops L)) y = _
    rw [jk_newE, n4, if_neg (by omega), hk4, if_neg (by omega), hk2, if_neg (by omega)]
  · show jl (jnew S4 12 (if pops L = 0 then 1 else pops L)) y = _
    rw [jl_newE, n4, if_neg (by omega), hl4 y (by omega), hl2, if_neg (by omega)]
  · rw [ji_putr, ji_newE, n4, if_neg (by omega), hi4 y (by omega), hi2 y (by omega)]
  · rw [jr_putr_ne _ _ _ _ (by omega), jr_newE, n4, if_neg (by omega), hr4 y (by omega), hr2, if_neg (by omega)]
  · show jk (jnew S4 12 (if pops L = 0 then 1 else pops L)) (jn S + 1) = 9
    rw [jk_newE, n4, if_neg (by omega), hk4, if_pos rfl]
  · rw [jr_putr, if_neg (by omega), jr_newE, n4, if_neg (by omega), hr42]
  · rw [jr_putr_same]
  · show jk (jnew S4 12 (if pops L = 0 then 1 else pops L)) (jn S) = 12
    rw [jk_newE, n4, if_neg (by omega), hk4, if_neg (by omega), hk2, if_pos rfl]
  · show jl (jnew S4 12 (if pops L = 0 then 1 else pops L)) (jn S) = _
    rw [jl_newE, n4, if_neg (by omega), hl4 _ (by omega), hl2, if_pos rfl]
  · show jk (jnew S4 12 (if pops L = 0 then 1 else pops L)) (jn S + 2) = 12
    rw [jk_newE, n4, if_pos rfl]
  · show jl (jnew S4 12 (if pops L = 0 then 1 else pops L)) (jn S + 2) = _
    rw [jl_newE, n4, if_pos rfl]
  · rw [ji_putr, ji_newE, n4, if_neg (by omega)]; exact hi40
  · rw [ji_putr, ji_newE, n4, if_neg (by omega)]; exact hi41
  · rw [ji_putr, ji_newE, n4, if_neg (by omega), hi4 _ (by omega)]; exact hw2 i hi
end jTxtNew
