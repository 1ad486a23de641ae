/-! CONSTRUCTORS: Realm, Search, Tape, Slot -/
/-- the row of a fresh realm -/
def v0 : Nat → Int32 := fun j => if j = 5 then 100 else if j = 8 then 1 else 0
def SrL (S : jM) (a : Nat) : Prop := jk S a = 5 ∧ (∀ k, k < 7 → jr S a k = some (a + 1 + k) ∧ jk S (a + 1 + k) = 12) ∧ (∀ k, k < 5 → jl S (a + 1 + k) = 5) ∧ jl S (a + 6) = 10 ∧ jl S (a + 7) = 99
def TpL (S : jM) (a : Nat) : Prop := jk S a = 8 ∧ jr S a 0 = some (a + 1) ∧ jr S a 8 = some (a + 2) ∧ jk S (a + 1) = 12 ∧ jl S (a + 1) = 96 ∧ jk S (a + 2) = 12 ∧ jl S (a + 2) = 96
def SlL (S : jM) (a : Nat) : Prop := jk S a = 7 ∧ jr S a 1 = some (a + 1) ∧ jr S a 2 = some (a + 2) ∧ jk S (a + 1) = 2 ∧ ShL S (a + 2) (a + 3)
theorem SrL.grow {S S' : jM} {a : Nat} (h : SrL S a) (hc : ∀ y, a ≤ y → y < a + 8 → jcs S S' y) : SrL S' a := by
  obtain ⟨h1, h2, h3, h4, h5⟩ := h
  have c0 := hc a (by omega) (by omega)
  refine ⟨by rw [c0.1]; exact h1, fun k hk => ⟨by rw [c0.2.2.2]; exact (h2 k hk).1, by rw [(hc (a + 1 + k) (by omega) (by omega)).1]; exact (h2 k hk).2⟩, fun k hk => by rw [(hc (a + 1 + k) (by omega) (by omega)).2.1]; exact h3 k hk, by rw [(hc (a + 6) (by omega) (by omega)).2.1]; exact h4, by rw [(hc (a + 7) (by omega) (by omega)).2.1]; exact h5⟩
theorem TpL.grow {S S' : jM} {a : Nat} (h : TpL S a) (hc : ∀ y, a ≤ y → y < a + 3 → jcs S S' y) : TpL S' a := by
  obtain ⟨h1, h2, h3, h4, h5, h6, h7⟩ := h
  have c0 := hc a (by omega) (by omega)
  have c1 := hc (a + 1) (by omega) (by omega)
  have c2 := hc (a + 2) (by omega) (by omega)
  exact ⟨by rw [c0.1]; exact h1, by rw [c0.2.2.2]; exact h2, by rw [c0.2.2.2]; exact h3, by rw [c1.1]; exact h4, by rw [c1.2.1]; exact h5, by rw [c2.1]; exact h6, by rw [c2.2.1]; exact h7⟩
theorem SlL.grow {S S' : jM} {a : Nat} (h : SlL S a) (hc : ∀ y, a ≤ y → y < a + 4 → jcs S S' y) : SlL S' a := by
  obtain ⟨h1, h2, h3, h4, h5, h6, h7, h8⟩ := h
  have c0 := hc a (by omega) (by omega)
  have c1 := hc (a + 1) (by omega) (by omega)
  have c2 := hc (a + 2) (by omega) (by omega)
  have c3 := hc (a + 3) (by omega) (by omega)
  exact ⟨by rw [c0.1]; exact h1, by rw [c0.2.2.2]; exact h2, by rw [c0.2.2.2]; exact h3, by rw [c1.1]; exact h4, by rw [c2.1]; exact h5, by rw [c2.2.2.2]; exact h6, by rw [c3.1]; exact h7, by rw [c3.2.1]; exact h8⟩
section jCons3
variable {E : jEnv} {d : Nat} {S : jM}
theorem c_X8_init {Q : jM → Prop} {a : Nat} (hk : jk S a = 8) (hq : jn S = a + 1) (h0 : ji S a = fun _ => 0) (h : ∀ S', jn S' = a + 3 → (∀ y, y < a → jcs S S' y) → TpL S' a → (∀ j, ji S' a j = 0) → (∀ j, ji S' (a + 1) j = 0) → Q S') : jFv E mX8_init (d + 1) 2 192 [.ref a] S Q := by
  refine T_X8_init ?_
  have ha : a < jn S := by omega
  refine VA_of (a := a) (kd := 8) (K := Q) [(0, 96), (8, 96)] S hk ha ?_
  obtain ⟨a1, a2, a3, a4⟩ := JAs_a a [(0, 96), (8, 96)] S ha
  obtain ⟨b1, b2, b3⟩ := JAs_at a [(0, 96), (8, 96)] S 0 (0, 96) ha rfl
  obtain ⟨c1, c2, c3⟩ := JAs_at a [(0, 96), (8, 96)] S 1 (8, 96) ha rfl
  have r0 := JAs_ref a [(0, 96), (8, 96)] S 0 (0, 96) ha (by decide) rfl
  have r1 := JAs_ref a [(0, 96), (8, 96)] S 1 (8, 96) ha (by decide) rfl
  have hn := JAs_n a [(0, 96), (8, 96)] S
  have hkeep := JAs_keep a [(0, 96), (8, 96)] S
  generalize JAs a S [(0, 96), (8, 96)] = S1 at *
  rw [hq] at b1 b2 b3 c1 c2 c3 r0 r1 hn
  exact h S1 hn (fun y hy => hkeep y (by omega) (by omega)) ⟨a1.trans hk, r0, r1, b1, b2, c1, c2⟩ (fun j => by rw [a3, h0]) (fun j => congrFun b3 j)
theorem c_X5_init {Q : jM → Prop} {a : Nat} (hk : jk S a = 5) (hq : jn S = a + 1) (h : ∀ S', jn S' = a + 8 → (∀ y, y < a → jcs S S' y) → SrL S' a → Q S') : jFv E mX5_init (d + 1) 7 134 [.ref a] S Q := by
  refine T_X5_init ?_
  have ha : a < jn S := by omega
  refine VA_of (a := a) (kd := 5) (K := Q) [(0, 5), (1, 5), (2, 5), (3, 5), (4, 5), (5, 10), (6, 99)] S hk ha ?_
  obtain ⟨a1, a2, a3, a4⟩ := JAs_a a [(0, 5), (1, 5), (2, 5), (3, 5), (4, 5), (5, 10), (6, 99)] S ha
  have hat := fun k p => JAs_at a [(0, 5), (1, 5), (2, 5), (3, 5), (4, 5), (5, 10), (6, 99)] S k p ha
  have hrf := fun k p => JAs_ref a [(0, 5), (1, 5), (2, 5), (3, 5), (4, 5), (5, 10), (6, 99)] S k p ha (by decide)
  have hn := JAs_n a [(0, 5), (1, 5), (2, 5), (3, 5), (4, 5), (5, 10), (6, 99)] S
  have hkeep := JAs_keep a [(0, 5), (1, 5), (2, 5), (3, 5), (4, 5), (5, 10), (6, 99)] S
  generalize JAs a S [(0, 5), (1, 5), (2, 5), (3, 5), (4, 5), (5, 10), (6, 99)] = S1 at *
  rw [hq] at hat hrf hn
  refine h S1 hn (fun y hy => hkeep y (by omega) (by omega)) ⟨a1.trans hk, fun k hk => ?_, fun k hk => ?_, (hat 5 (5, 10) rfl).2.1, (hat 6 (6, 99) rfl).2.1⟩
  · rcases (show k = 0 ∨ k = 1 ∨ k = 2 ∨ k = 3 ∨ k = 4 ∨ k = 5 ∨ k = 6 by omega) with rfl | rfl | rfl | rfl | rfl | rfl | rfl
    · exact ⟨hrf 0 (0, 5) rfl, (hat 0 (0, 5) rfl).1⟩
    · exact ⟨hrf 1 (1, 5) rfl, (hat 1 (1, 5) rfl).1⟩
    · exact ⟨hrf 2 (2, 5) rfl, (hat 2 (2, 5) rfl).1⟩
    · exact ⟨hrf 3 (3, 5) rfl, (hat 3 (3, 5) rfl).1⟩
    · exact ⟨hrf 4 (4, 5) rfl, (hat 4 (4, 5) rfl).1⟩
    · exact ⟨hrf 5 (5, 10) rfl, (hat 5 (5, 10) rfl).1⟩
    · exact ⟨hrf 6 (6, 99) rfl, (hat 6 (6, 99) rfl).1⟩
  · rcases (show k = 0 ∨ k = 1 ∨ k = 2 ∨ k = 3 ∨ k = 4 by omega) with rfl | rfl | rfl | rfl | rfl
    · exact (hat 0 (0, 5) rfl).2.1
    · exact (hat 1 (1, 5) rfl).2.1
    · exact (hat 2 (2, 5) rfl).2.1
    · exact (hat 3 (3, 5) rfl).2.1
    · exact (hat 4 (4, 5) rfl).2.1
theorem c_X7_init {Q : jM → Prop} {a : Nat} (hk : jk S a = 7) (hq : jn S = a + 1) (h0 : ji S a = fun _ => 0) (h : ∀ S', jn S' = a + 4 → (∀ y, y < a → jcs S S' y) → SlL S' a → ji S' a 0 = 0 → Q S') : jFv E mX7_init (d + 2) 3 34 [.ref a] S Q := by
  refine T_X7_init ⟨hk, fun q hqq => c_X2_init ?_⟩
  have hqq : q = a + 1 := hqq.trans hq
  subst hqq
  have e1 : ∀ y, y ≠ a + 1 → jcs (jput S a 0 0) (jnew (jput S a 0 0) 2 0) y := fun y hy => jcs.new (by show y ≠ jn S; rw [hq]; exact hy)
  have k1 : jk (jnew (jput S a 0 0) 2 0) a = 7 := (e1 a (by omega)).1.trans hk
  have k2 : jk (jnew (jput S a 0 0) 2 0) (a + 1) = 2 := by rw [jk_newE]; exact if_pos hq.symm
  have i1 : ji (jnew (jput S a 0 0) 2 0) a 0 = 0 := by rw [(e1 a (by omega)).2.2.1]; exact ji_put_same _ _ _ _
  have n1 : jn (jnew (jput S a 0 0) 2 0) = a + 2 := by show jn S + 1 = _; rw [hq]
  have s1 : ∀ y, y < a → jcs S (jnew (jput S a 0 0) 2 0) y := fun y hy => (jcs.put (by omega)).trans (e1 y (by omega))
  generalize jnew (jput S a 0 0) 2 0 = S1 at *
  refine ⟨k1, fun q hq2 => ?_⟩
  have hq2 : q = a + 2 := hq2.trans n1
  subst hq2
  have e2 : ∀ y, y ≠ a + 2 → y ≠ a → jcs S1 (jnew (jputr S1 a 1 (some (a + 1))) 6 0) y := fun y hy hya => (jcs.putr hya).trans (jcs.new (by show y ≠ jn S1; rw [n1]; exact hy))
  have n2 : jn (jputr S1 a 1 (some (a + 1))) = a + 2 := n1
  refine c_X6_init (S := jnew (jputr S1 a 1 (some (a + 1))) 6 0) ?_ ?_ ?_ (fun S3 n3 s3 hsh => ?_)
  · rw [jk_newE]; exact if_pos n2.symm
  · show a + 2 < jn S1 + 1; omega
  · rw [ji_newE, if_pos n2.symm]
  · have n3' : jn S3 = a + 4 := by rw [n3]; show jn S1 + 1 + 1 = _; omega
    have nn : jn (jnew (jputr S1 a 1 (some (a + 1))) 6 0) = a + 3 := by show jn S1 + 1 = _; omega
    rw [nn] at hsh
    have ca := s3 a (by rw [nn]; omega) (by omega)
    have cb := s3 (a + 1) (by rw [nn]; omega) (by omega)
    have kaS : jk S3 a = 7 := by rw [ca.1, jk_newE, if_neg (by rw [n2]; omega)]; exact k1
    refine ⟨kaS, h _ n3' (fun y hy => ((s1 y hy).trans (e2 y (by omega) (by omega))).trans ((s3 y (by rw [nn]; omega) (by omega)).trans (jcs.putr (by omega)))) ⟨kaS, ?_, ?_, ?_, ?_⟩ ?_⟩
    · rw [jr_putr, if_neg (by omega), ca.2.2.2, jr_newE, if_neg (by rw [n2]; omega), jr_putr, if_pos ⟨rfl, rfl⟩]
    · rw [jr_putr, if_pos ⟨rfl, rfl⟩]
    · show jk S3 (a + 1) = 2
      rw [cb.1, (e2 (a + 1) (by omega) (by omega)).1]; exact k2
    · obtain ⟨⟨p1, p2, p3, p4⟩, -⟩ := hsh
      exact ⟨p1, by rw [jr_putr, if_neg (by omega)]; exact p2, p3, p4⟩
    · show ji S3 a 0 = 0
      rw [ca.2.2.1, ji_newE, if_neg (by rw [n2]; omega)]; exact i1
theorem c_X3_init {Q : jM → Prop} {r : Nat} (hk : jk S r = 3) (hq : jn S = r + 1) (h0 : ji S r = fun _ => 0) (h : ∀ S', jn S' = r + 20 → (∀ y, y < r → jcs S S' y) → RmR S' r 0 v0 → (∀ i, i < 14 → jr S' (r + 19) i = none) → Q S') : jFv E mX3_init (d + 3) 19 196 [.ref r] S Q := by
  refine T_X3_init (fun q hqq => ?_)
  have hqq : q = r + 1 := hqq.trans hq
  subst hqq
  have s0 : ∀ y, y ≠ r + 1 → jcs S (jnew S 0 0) y := fun y hy => jcs.new (by rw [hq]; exact hy)
  refine c_X0_init (S := jnew S 0 0) (by rw [jk_newE]; exact if_pos hq.symm) (by show jn S + 1 = _; omega) (by rw [ji_newE]; exact if_pos hq.symm) (fun S2 n2 s2 hg => ?_)
  have c2 := (s0 r (by omega)).trans (s2 r (by omega))
  refine ⟨c2.1.trans hk, fun q hq5 => ?_⟩
  have n2' : jn (jputr S2 r 0 (some (r + 1))) = r + 12 := n2
  have hq5 : q = r + 12 := hq5.trans n2'
  subst hq5
  have s3 : ∀ y, y ≠ r + 12 → y ≠ r → jcs S2 (jnew (jputr S2 r 0 (some (r + 1))) 4 0) y := fun y hy hyr => (jcs.putr hyr).trans (jcs.new (by rw [n2']; exact hy))
  refine c_X4_init (S := jnew (jputr S2 r 0 (some (r + 1))) 4 0) (by rw [jk_newE]; exact if_pos n2'.symm) (by show jn S2 + 1 = _; omega) (fun S6 n6 s6 hd => ?_)
  have c6 : jk S6 r = 3 ∧ ji S6 r = (fun _ => 0) ∧ jr S6 r 0 = some (r + 1) := by
    have z := s6 r (by omega)
    refine ⟨?_, ?_, ?_⟩
    · rw [z.1, jk_newE, if_neg (by rw [n2']; omega)]; exact c2.1.trans hk
    · rw [z.2.2.1, ji_newE, if_neg (by rw [n2']; omega)]; exact c2.2.2.1.trans h0
    · rw [z.2.2.2, jr_newE, if_neg (by rw [n2']; omega), jr_putr, if_pos ⟨rfl, rfl⟩]
  refine ⟨c6.1, fun q hq9 => ?_⟩
  have n6' : jn (jputr S6 r 1 (some (r + 12))) = r + 15 := n6
  have hq9 : q = r + 15 := hq9.trans n6'
  subst hq9
  have s7 : ∀ y, y ≠ r + 15 → y ≠ r → jcs S6 (jnew (jputr S6 r 1 (some (r + 12))) 1 0) y := fun y hy hyr => (jcs.putr hyr).trans (jcs.new (by rw [n6']; exact hy))
  refine c_X1_init (S := jnew (jputr S6 r 1 (some (r + 12))) 1 0) (by rw [jk_newE]; exact if_pos n6'.symm) (by show jn S6 + 1 = _; omega) (by rw [ji_newE]; exact if_pos n6'.symm) (fun S10 n10 s10 hl => ?_)
  have c10 : jk S10 r = 3 ∧ ji S10 r = (fun _ => 0) ∧ jr S10 r 0 = some (r + 1) ∧ jr S10 r 1 = some (r + 12) := by
    have z := s10 r (by omega)
    refine ⟨?_, ?_, ?_, ?_⟩
    · rw [z.1, jk_newE, if_neg (by rw [n6']; omega)]; exact c6.1
    · rw [z.2.2.1, ji_newE, if_neg (by rw [n6']; omega)]; exact c6.2.1
    · rw [z.2.2.2, jr_newE, if_neg (by rw [n6']; omega), jr_putr, if_neg (by omega)]; exact c6.2.2
    · rw [z.2.2.2, jr_newE, if_neg (by rw [n6']; omega), jr_putr, if_pos ⟨rfl, rfl⟩]
  refine ⟨c10.1, fun q hq13 => ?_⟩
  have na : jn (jputr S10 r 2 (some (r + 15))) = r + 18 := n10
  have hq13 : q = r + 18 := hq13.trans na
  subst hq13
  have sa : ∀ y, y ≠ r + 18 → y ≠ r → jcs S10 (jnew (jputr S10 r 2 (some (r + 15))) 12 6) y := fun y hy hyr => (jcs.putr hyr).trans (jcs.new (by rw [na]; exact hy))
  have ka : jk (jnew (jputr S10 r 2 (some (r + 15))) 12 6) r = 3 := by rw [jk_newE, if_neg (by rw [na]; omega)]; exact c10.1
  refine ⟨ka, fun q hq16 => ?_⟩
  have nb : jn (jputr (jnew (jputr S10 r 2 (some (r + 15))) 12 6) r 3 (some (r + 18))) = r + 19 := by show jn S10 + 1 = _; omega
  have hq16 : q = r + 19 := hq16.trans nb
  subst hq16
  have kb : jk (jnew (jputr (jnew (jputr S10 r 2 (some (r + 15))) 12 6) r 3 (some (r + 18))) 16 14) r = 3 := by rw [jk_newE, if_neg (by rw [nb]; omega)]; exact ka
  refine ⟨kb, ?_⟩
  -- the last memory
  have sb : ∀ y, y ≠ r + 18 → y ≠ r + 19 → y ≠ r → jcs S10 (jputr (jnew (jputr (jnew (jputr S10 r 2 (some (r + 15))) 12 6) r 3 (some (r + 18))) 16 14) r 5 (some (r + 19))) y := fun y h1 h2 h3 => (sa y h1 h3).trans ((jcs.putr h3).trans ((jcs.new (by rw [nb]; exact h2)).trans (jcs.putr h3)))
  have sAll : ∀ y, y < r → jcs S S10 y := fun y hy => ((s0 y (by omega)).trans (s2 y (by omega))).trans (((s3 y (by omega) (by omega)).trans (s6 y (by omega))).trans ((s7 y (by omega) (by omega)).trans (s10 y (by omega))))
  have sG : ∀ y, r + 1 ≤ y → y < r + 12 → jcs S2 S10 y := fun y h1 h2 => ((s3 y (by omega) (by omega)).trans (s6 y (by omega))).trans ((s7 y (by omega) (by omega)).trans (s10 y (by omega)))
  have sD : ∀ y, r + 12 ≤ y → y < r + 15 → jcs S6 S10 y := fun y h1 h2 => (s7 y (by omega) (by omega)).trans (s10 y (by omega))
  have hrow : ∀ j, ji (jputr (jnew (jputr (jnew (jputr S10 r 2 (some (r + 15))) 12 6) r 3 (some (r + 18))) 16 14) r 5 (some (r + 19))) r j = 0 := by
    intro j
    rw [ji_putr, ji_newE, if_neg (by rw [nb]; omega), ji_putr, ji_newE, if_neg (by rw [na]; omega), ji_putr, c10.2.1]
  have hro : ∀ j, jr (jputr (jnew (jputr (jnew (jputr S10 r 2 (some (r + 15))) 12 6) r 3 (some (r + 18))) 16 14) r 5 (some (r + 19))) r j = if j = 5 then some (r + 19) else if j = 3 then some (r + 18) else if j = 2 then some (r + 15) else jr S10 r j := by
    intro j
    rw [jr_putr]
    by_cases h5 : j = 5
    · simp [h5]
    · rw [if_neg (by omega), if_neg h5, jr_newE, if_neg (by rw [nb]; omega), jr_putr]
      by_cases h3 : j = 3
      · simp [h3]
      · rw [if_neg (by omega), if_neg h3, jr_newE, if_neg (by rw [na]; omega), jr_putr]
        by_cases h2 : j = 2 <;> simp [h2]
  have c18 : jk (jputr (jnew (jputr (jnew (jputr S10 r 2 (some (r + 15))) 12 6) r 3 (some (r + 18))) 16 14) r 5 (some (r + 19))) (r + 18) = 12 ∧ jl (jputr (jnew (jputr (jnew (jputr S10 r 2 (some (r + 15))) 12 6) r 3 (some (r + 18))) 16 14) r 5 (some (r + 19))) (r + 18) = 6 ∧ ji (jputr (jnew (jputr (jnew (jputr S10 r 2 (some (r + 15))) 12 6) r 3 (some (r + 18))) 16 14) r 5 (some (r + 19))) (r + 18) = (fun _ => 0) := by
    refine ⟨?_, ?_, ?_⟩
    · rw [jk_putr, jk_newE, if_neg (by rw [nb]; omega), jk_putr, jk_newE, if_pos na.symm]
    · rw [jl_putr, jl_newE, if_neg (by rw [nb]; omega), jl_putr, jl_newE, if_pos na.symm]
    · rw [ji_putr, ji_newE, if_neg (by rw [nb]; omega), ji_putr, ji_newE, if_pos na.symm]
  have c19 : jk (jputr (jnew (jputr (jnew (jputr S10 r 2 (some (r + 15))) 12 6) r 3 (some (r + 18))) 16 14) r 5 (some (r + 19))) (r + 19) = 16 ∧ jl (jputr (jnew (jputr (jnew (jputr S10 r 2 (some (r + 15))) 12 6) r 3 (some (r + 18))) 16 14) r 5 (some (r + 19))) (r + 19) = 14 ∧ ∀ i, jr (jputr (jnew (jputr (jnew (jputr S10 r 2 (some (r + 15))) 12 6) r 3 (some (r + 18))) 16 14) r 5 (some (r + 19))) (r + 19) i = none := by
    refine ⟨?_, ?_, fun i => ?_⟩
    · rw [jk_putr, jk_newE, if_pos nb.symm]
    · rw [jl_putr, jl_newE, if_pos nb.symm]
    · rw [jr_putr, if_neg (by omega), jr_newE, if_pos nb.symm]
  have nE : jn (jputr (jnew (jputr (jnew (jputr S10 r 2 (some (r + 15))) 12 6) r 3 (some (r + 18))) 16 14) r 5 (some (r + 19))) = r + 20 := by show jn S10 + 1 + 1 = _; omega
  have kE : jk (jputr (jnew (jputr (jnew (jputr S10 r 2 (some (r + 15))) 12 6) r 3 (some (r + 18))) 16 14) r 5 (some (r + 19))) r = 3 := kb
  generalize jputr (jnew (jputr (jnew (jputr S10 r 2 (some (r + 15))) 12 6) r 3 (some (r + 18))) 16 14) r 5 (some (r + 19)) = SE at *
  refine h SE nE (fun y hy => (sAll y hy).trans (sb y (by omega) (by omega) (by omega))) ⟨⟨kE, ?_, ?_, ?_, ?_, ?_, c18.1, c18.2.1, c19.1, c19.2.1⟩, by omega, rfl, ?_, ?_, ?_, ?_, fun i hi => ?_, ?_⟩ (fun i _ => c19.2.2 i)
  · rw [hro]; simpa using c10.2.2.1
  · rw [hro]; simpa using c10.2.2.2
  · rw [hro]; simp
  · rw [hro]; simp
  · rw [hro]; simp
  · refine (hg.grow (fun y h1 h2 => (sG y (by omega) (by omega)).trans (sb y (by omega) (by omega) (by omega)))).cong (fun i hi f hf => ?_)
    show (0 : Int32) = v0 (72 + 7 * i + f)
    unfold v0
    rw [if_neg (by omega), if_neg (by omega)]
  · have e1 := hd.grow (S' := SE) (fun y h1 h2 => (sD y (by omega) (by omega)).trans (sb y (by omega) (by omega) (by omega)))
    refine ⟨e1.1, fun i hi => (e1.2.1 i hi).trans ?_, fun i hi => (e1.2.2 i hi).trans (wfar_agr (fun j hj => ?_) i hi)⟩
    · show (0 : Int32) = v0 (36 + i); unfold v0; rw [if_neg (by omega), if_neg (by omega)]
    · show (0 : Int32) = v0 (36 + j); unfold v0; rw [if_neg (by omega), if_neg (by omega)]
  · have e1 := hl.grow (S' := SE) (fun y h1 h2 => sb y (by omega) (by omega) (by omega))
    refine e1.cong (fun i hi => ?_) (fun i hi => ?_)
    · show (0 : Int32) = v0 (16 + i); unfold v0; rw [if_neg (by omega), if_neg (by omega)]
    · show (0 : Int32) = v0 (26 + i); unfold v0; rw [if_neg (by omega), if_neg (by omega)]
  · rw [hrow]; rfl
  · rw [c18.2.2]; show (0 : Int32) = v0 (9 + i); unfold v0; rw [if_neg (by omega), if_neg (by omega)]
  · rw [hrow]; rfl
end jCons3
