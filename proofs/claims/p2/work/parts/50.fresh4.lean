/-! ONE CALL ON FRESH OBJECTS, fourth part: text, soonest, together, never -/
section jStr
variable {E : jEnv} {M : jMd} {R : Room} {Z : jZ} {pc : Nat} {lv lv1 : List (Nat × Value)} {st : List Value} {S : jM} {c k : Nat}
theorem jx_ldcS {index q : Nat} {tx : String} (hM : M.1.cls = RX8) (hq : ∀ s : State, jG E s → vk_R RX8 index tx q s) (hd : decode M.2.1 pc = .ok (.ldc index, 2)) (h : jX E M R Z (pc + 2) lv (.ref q :: st) S c k) : jX E M R Z pc lv st S c k := by
  intro p e s m args below meth c0 hB H locs ls hV hS hl
  exact va_ldcS hB.hx hB.hb (own := RX8) (by rw [← hM]; exact hB.hown) (hq s hB.hG) hd (h p e s m args below meth c0 hB H locs ls hV hS hl)
end jStr
section jFresh4
variable {E : jEnv} {d : Nat} {S : jM} {x : Nat}
theorem T_X8_wordOf {Q : Option Nat → jM → Prop} {x0 : Int32} (h : (x0 = 0 → Q (some (eK E 0)) S) ∧ (x0 = 1 → Q (some (eK E 1)) S) ∧ (¬ x0 = 0 → ¬ x0 = 1 → Q (some (eK E 2)) S)) : jFr E mX8_wordOf d 0 0 [.int x0] S Q := by
  refine jF_of (by decide) (jle rfl) ?_
  refine jx_lv (lv1 := [(0, .int x0)]) [0] rfl ?_
  refine jx_iload_n 0 dX8_wordOf_0 rfl rfl ?_
  by_cases c1 : x0 = 0
  · refine jx_lookIn (v := 0) (tgt := 28) (off := 27) dX8_wordOf_1 (by decide) c1 (by decide) (by decide) ?_
    refine jx_ldcS (q := eK E 0) rfl (fun s hG => hG.2.2.2.2.2.1) dX8_wordOf_28 ?_
    exact jx_aret (o := some (eK E 0)) dX8_wordOf_30 rfl (jle rfl) (jle rfl) ⟨_, rfl, h.1 c1⟩
  by_cases c2 : x0 = 1
  · refine jx_lookIn (v := 1) (tgt := 31) (off := 30) dX8_wordOf_1 (by decide) c2 (by decide) (by decide) ?_
    refine jx_ldcS (q := eK E 1) rfl (fun s hG => hG.2.2.2.2.2.2.1) dX8_wordOf_31 ?_
    exact jx_aret (o := some (eK E 1)) dX8_wordOf_33 rfl (jle rfl) (jle rfl) ⟨_, rfl, h.2.1 c2⟩
  refine jx_lookD (tgt := 34) dX8_wordOf_1 (by decide) (by simp only [List.mem_cons, List.not_mem_nil, or_false, forall_eq_or_imp, forall_eq]; exact ⟨lv_neT c1 (by decide), lv_neT c2 (by decide)⟩) (by decide) ?_
  refine jx_ldcS (q := eK E 2) rfl (fun s hG => hG.2.2.2.2.2.2.2.1) dX8_wordOf_34 ?_
  exact jx_aret (o := some (eK E 2)) dX8_wordOf_36 rfl (jle rfl) (jle rfl) ⟨_, rfl, h.2.2 c1 c2⟩
theorem f_isWordInHand {Q : Int32 → jM → Prop} {a0 b : Nat} (hk : jk S a0 = 8) (hs : ¬ ji S a0 4 = 1) (h : Q 0 S) : jFi E mX8_isWordInHand d 0 0 [.ref a0, .ref b] S Q := by
  refine jF_of (by decide) (jle rfl) ?_
  refine jx_lv (lv1 := [(0, .ref a0)]) [0] rfl ?_
  refine jx_aload_n 0 dX8_isWordInHand_0 rfl rfl ?_
  refine jx_geti jc_8 (j := 4) (by decide) rfl jwF_X8_29 dX8_isWordInHand_1 hk ?_
  refine jx_iconst (v := 1) dX8_isWordInHand_4 (by decide) ?_
  refine jx_icmp_ne (tgt := 24) dX8_isWordInHand_5 (by decide) (fun c => ?_) (fun c => absurd c hs)
  refine jx_iconst (v := 0) dX8_isWordInHand_24 (by decide) ?_
  exact jx_iret dX8_isWordInHand_25 rfl (by decide) (jle rfl) (jle rfl) ⟨_, rfl, h⟩
theorem f_keyInHand {Q : Int32 → jM → Prop} {t : Nat} (hk : jk S t = 8) (hs : ¬ ji S t 4 = 1) (h : Q (-1) S) : jFi E mX8_keyInHand (d + 1) 0 0 [.ref t] S Q := by
  have one : ∀ (w : Int32), ¬ 3 ≤ w → L_X8_keyInHand_2 E d Q t (w + 1) S → L_X8_keyInHand_2 E d Q t w S := by
    intro w hw hn
    have nx : ∀ b : Nat, (some b = none → jk S t = 8 ∧ jFi E mX8_isWordInHand d 0 0 [.ref t, .null] S (fun r7 S6 => (r7 = 0 → L_X8_keyInHand_2 E d Q t (w + 1) S6) ∧ (¬ r7 = 0 → Q w S6))) ∧ (∀ b4, some b = some b4 → jk S t = 8 ∧ jFi E mX8_isWordInHand d 0 0 [.ref t, .ref b4] S (fun r11 S10 => (r11 = 0 → L_X8_keyInHand_2 E d Q t (w + 1) S10) ∧ (¬ r11 = 0 → Q w S10))) :=
      fun b => ⟨fun c => absurd c (by simp), fun b4 _ => ⟨hk, f_isWordInHand hk hs ⟨fun _ => hn, fun c => absurd rfl c⟩⟩⟩
    exact T_X8_keyInHand_2 ⟨fun c => absurd c hw, fun _ => T_X8_wordOf ⟨fun _ => nx _, fun _ => nx _, fun _ _ => nx _⟩⟩
  refine T_X8_keyInHand (one 0 (by decide) (one (0 + 1) (by decide) (one (0 + 1 + 1) (by decide) ?_)))
  exact T_X8_keyInHand_2 ⟨fun _ => h, fun c => absurd (by decide) c⟩
/-- a tape's object whose numbers are all 0 -/
def TZ (S S1 : jM) (t : Nat) : Prop := jch S S1 t (t + 1) ∧ ∀ j, ji S1 t j = 0
theorem TZ.put {S1 : jM} {t j : Nat} {w : Int32} (h : TZ S S1 t) (hw : w = 0) : TZ S (jput S1 t j w) t := by
  refine ⟨h.1.trans (jch.put (by omega) (by omega)), fun i => ?_⟩
  rw [ji_put]
  by_cases hi : i = j
  · rw [if_pos ⟨rfl, hi⟩]; exact hw
  · rw [if_neg (fun c => hi c.2)]; exact h.2 i
theorem TZ.k {S1 : jM} {t n : Nat} (h : TZ S S1 t) (hk : jk S t = n) : jk S1 t = n := by rw [h.1.1.1]; exact hk
theorem f_step {Q : jM → Prop} {S1 : jM} {t : Nat} (hk : jk S t = 8) (h1 : TZ S S1 t) (h : ∀ S', TZ S S' t → Q S') : jFv E mX8_step (d + 2) 0 0 [.ref t] S1 Q := by
  have h2 : TZ S (jput S1 t 2 (ji S1 t 3)) t := h1.put (h1.2 3)
  refine T_X8_step ⟨h1.k hk, fun c => absurd ((h1.2 4).symm.trans c) (by decide), fun _ => ⟨fun c => absurd ((h1.2 4).symm.trans c) (by decide), fun _ => ?_⟩⟩
  refine T_X8_step_35 ⟨h2.k hk, fun _ => T_X8_sortAt ⟨h2.k hk, fun c => absurd c (by rw [h2.2, h2.2]; decide), fun _ => ⟨h2.k hk, fun _ => ⟨fun _ => ?_, fun c => absurd rfl c⟩, fun c => absurd rfl c⟩⟩, fun c => absurd (by rw [h2.2, h2.2]; decide) c⟩
  have h3 := ((h2.put (j := 4) (w := 0) rfl).put (j := 5) (w := 0) rfl).put (j := 3) (h2.2 2)
  exact T_X8_step_129 ⟨h3.k hk, fun _ => h _ h3, fun c => absurd (by rw [h3.2, h3.2]; decide) c⟩
theorem f_isText0 {Q : Int32 → jM → Prop} {t : Nat} (hk : jk S t = 8) (hz : ∀ j, ji S t j = 0) (h : ∀ S', jch S S' t (t + 1) → ji S' t 2 = 0 → Q 0 S') : jFi E mX8_isText (d + 3) 0 0 [.ref t] S Q := by
  have h0 : TZ S S t := ⟨jch.rfl, hz⟩
  have h1 := (((h0.put (j := 3) (w := 0) rfl).put (j := 4) (w := 0) rfl).put (j := 7) (w := 0) rfl).put (j := 9) (w := 0) rfl
  refine T_X8_isText ⟨hk, f_step hk h1 (fun S2 h2 => ⟨h2.k hk, f_keyInHand (h2.k hk) (by rw [h2.2]; decide) ⟨h2.k hk, fun c => absurd c j0m1, fun _ => ?_⟩⟩)⟩
  refine h _ (h2.1.trans (jch.put (by omega) (by omega))) ?_
  rw [ji_put, if_neg (by omega)]; exact h2.2 2
theorem f_isWordAt {Q : Int32 → jM → Prop} {m : Nat} {a b c e : Int32} (hk : jk S m = 11) (ht : ¬ ji S m 22 = 1) (h : Q 0 S) : jFi E mX11_isWordAt d 0 0 [.ref m, .int a, .int b, .int c, .int e] S Q :=
  T_X11_isWordAt ⟨fun _ => ⟨hk, fun c => absurd c ht, fun _ => h⟩, fun _ => ⟨hk, fun c => absurd c ht, fun _ => h⟩⟩
theorem f_key {Q : Int32 → jM → Prop} {m : Nat} (hk : jk S m = 11) (ht : ¬ ji S m 22 = 1) (h : Q (-1) S) : jFi E mX11_key (d + 1) 0 0 [.ref m] S Q :=
  T_X11_key ⟨hk, f_isWordAt hk ht ⟨fun _ => ⟨hk, f_isWordAt hk ht ⟨fun _ => ⟨hk, f_isWordAt hk ht ⟨fun _ => h, fun c => absurd rfl c⟩⟩, fun c => absurd rfl c⟩⟩, fun c => absurd rfl c⟩⟩
/-- the reference's object while it reads nothing -/
def RZ (S1 : jM) (m : Nat) : Prop := jk S1 m = 11 ∧ ∀ j, j ≠ 22 → j ≠ 28 → ji S1 m j = 0
theorem RZ.put {m j : Nat} {w : Int32} (h : RZ S m) (hw : w = 0 ∨ j = 22 ∨ j = 28) : RZ (jput S m j w) m := by
  refine ⟨h.1, fun i h1 h2 => ?_⟩
  rw [ji_put]
  by_cases hi : i = j
  · rw [if_pos ⟨rfl, hi⟩]
    rcases hw with hw | hw | hw
    · exact hw
    · exact absurd (hi.trans hw) h1
    · exact absurd (hi.trans hw) h2
  · rw [if_neg (fun c => hi c.2)]; exact h.2 i h1 h2
theorem f_nextToken {Q : jM → Prop} {m : Nat} (h : RZ S m) (hq : ∀ S', RZ S' m → ji S' m 22 = 0 → Q S') : jFv E mX11_nextToken (d + 1) 0 0 [.ref m] S Q := by
  have z19 := h.2 19 (by omega) (by omega)
  have z21 := h.2 21 (by omega) (by omega)
  refine T_X11_nextToken ⟨h.1, fun _ => T_X11_nextToken_34 ⟨h.1, fun _ => ⟨fun _ => ⟨fun _ => ?_, fun c => absurd (z21.trans z19.symm) c⟩, fun c => absurd rfl c⟩, fun c => absurd (by rw [z19, z21]; decide) c⟩, fun c => absurd (by rw [z21]; decide) c⟩
  exact hq _ ((h.put (Or.inl z21)).put (Or.inr (Or.inl rfl))) (ji_put_same _ _ _ _)
theorem f_parse {Q : Int32 → jM → Prop} (g : GM S x) (hq : ∀ S', RZ S' (x + 94) → Q (-1) S') : jFi E mX11_parse (d + 2) 0 0 [.ref (x + 94)] S Q := by
  have hM := g.mr
  have i1 := hM.at (i := 1) 1 rfl (by omega)
  have h0 : RZ S (x + 94) := ⟨hM.k, fun j _ _ => g.2.1 j⟩
  have h14 : ¬ (14 : Int32) ≤ ji S (x + 94 + 1) (Int32.toNatClampNeg 1) := by rw [i1.2]; decide
  refine T_X11_parse ⟨hM.k, _, hM.r, hM.k1, i1.1, fun c => absurd c h14, fun _ => ?_⟩
  generalize jtextat (ji S (x + 94 + 1) (Int32.toNatClampNeg 1)) + 4 = la
  refine f_nextToken (((((((h0.put (j := 21) (w := 0) (Or.inl rfl)).put (j := 22) (w := 3) (Or.inr (Or.inl rfl))).put (j := 25) (w := 0) (Or.inl rfl)).put (j := 26) (w := 0) (Or.inl rfl)).put (j := 27) (w := 0) (Or.inl rfl)).put (j := 29) (w := 0) (Or.inl rfl)).put (j := 28) (w := la) (Or.inr (Or.inr rfl))) (fun S3 h3 t3 => ?_)
  have ht : ¬ ji S3 (x + 94) 22 = 1 := by rw [t3]; decide
  exact ⟨h3.1, f_key h3.1 ht ⟨fun _ => ⟨h3.1, hq _ (h3.put (j := 19) (w := 0) (Or.inl rfl))⟩, fun c => absurd (by decide) c⟩⟩
theorem g_text {Q : Int32 → jM → Prop} (g : GM S x) (hq : ∀ S', Q (-100) S') : jFm E mX11_text (d + 3) (x + 94) [] S Q := by
  refine U_X11_text (by first | exact g.1.1 | exact hM.k | exact hM1.k | exact hP.2.1.k | exact h.2.2.1.1 | exact h.1.1 | exact g1.1.1 | exact g3.1.1 | exact gm.1.1 | exact h2.1.1 | exact hM2.k | (rw [c1.1.1]; exact hP.2.1.k)) ⟨g.1.1, f_parse g (fun S1 h1 => ⟨fun c => absurd c j0m1, fun _ => ⟨h1.1, ?_⟩⟩)⟩
  rw [h1.2 20 (by omega) (by omega)]
  exact hq S1
theorem F_text (h : FR S x) : jFi E mX10_text (d + 4) 3 196 [.ref x] S (fun r S1 => jFm E mX11_text (d + 4) (x + 94) [] S1 (fun r' _ => r = r')) := by
  have r5 := h.1.2.1.2.2.2.2.1
  have k8 : jk S (x + 60) = 8 := h.1.2.2.2.1.1
  refine T_X10_text ⟨h.1.1, x + 60, r5, k8, f_isText0 k8 h.2.1.2.2.2.2.2.1 (fun S1 c1 z1 => ⟨by rw [c1.1.1]; exact h.1.1, x + 60, by rw [c1.1.2.2.1]; exact r5, by rw [c1.1.1]; exact k8, fun _ => ?_, fun c => absurd rfl c⟩)⟩
  rw [z1]
  have g1 := h.gm.keep (c1.trans (jch.put (S := S1) (a := x + 60) (j := 1) (v := 0) (by omega) (by omega))) (by omega)
  exact g_text g1 (fun _ => rfl)
/-! together, never: without masters -/
theorem f_leadsTo {Q : Int32 → jM → Prop} {w : Int32} (h : FR S x) (h0 : w = 0 → Q 1 S) (h1 : w ≠ 0 → Q 0 S) : jFi E mX0_leadsTo (d + 1) 0 0 [.ref (x + 2), .int 0, .int w] S Q := by
  have hX := h.pi.1
  refine T_X0_leadsTo ⟨fun c => h0 c.symm, fun c => ⟨fun _ => T_X0_leadsTo_23 ⟨hX.g.1.1, fun _ => h1 (fun e => c e.symm), fun c2 => absurd (by rw [hX.g.2.1]; decide) c2⟩, fun _ => h1 (fun e => c e.symm)⟩⟩
theorem jmany_pos : ∀ n : Fin 1024, n.val ≠ 0 → jmany (nI n.val) ≤ 3 → jmany (nI n.val) = 1 ∨ jmany (nI n.val) = 2 ∨ jmany (nI n.val) = 3 := by decide +kernel
theorem f_areTogether {Q : Int32 → jM → Prop} {n : Nat} (h : FR S x) (hn : n < 1024) (h3 : jmany (nI n) ≤ 3) (h0 : n = 0 → Q 1 S) (h1 : n ≠ 0 → Q 0 S) : jFi E mX11_areTogether (d + 1) 0 0 [.ref (x + 94), .int (nI n)] S Q := by
  have hM := h.pi.2.1
  have i0 := hM.at (i := 0) 0 rfl (by omega)
  have z0 : ji S (x + 94 + 1) (Int32.toNatClampNeg 0) = 0 := i0.2
  refine T_X11_areTogether ?_
  by_cases hz : n = 0
  · subst hz
    have e0 : jmany (nI 0) = 0 := by decide +kernel
    rw [e0]
    refine T_X11_areTogether_10 ⟨fun _ => T_X11_areTogether_34 ⟨fun c => absurd c (by decide), fun _ => T_X11_areTogether_53 ⟨fun _ => ⟨fun _ => ⟨fun _ => h0 rfl, fun c => absurd rfl c⟩, fun c => absurd rfl c⟩, fun c => absurd (by decide) c⟩⟩, fun c => absurd (by decide) c⟩
  · have fin : ∀ k : Int32, L_X11_areTogether_34 E d Q (x + 94) (nI n) k 0 0 S := fun k => T_X11_areTogether_34 ⟨fun _ => h1 hz, fun c => absurd (by decide) c⟩
    have st : ∀ (k i a : Int32), ¬ k ≤ i → L_X11_areTogether_10 E d Q (x + 94) (nI n) k 0 (i + 1) S → L_X11_areTogether_10 E d Q (x + 94) (nI n) k a i S := by
      intro k i a hki hnx
      refine T_X11_areTogether_10 ⟨fun c => absurd c hki, fun _ => ⟨hM.k, _, hM.r, hM.k1, i0.1, ?_⟩⟩
      rw [z0, Int32.mul_zero]; exact hnx
    have en : ∀ (k i : Int32), k ≤ i → L_X11_areTogether_10 E d Q (x + 94) (nI n) k 0 i S := fun k i hki => T_X11_areTogether_10 ⟨fun _ => fin k, fun c => absurd hki c⟩
    rcases jmany_pos ⟨n, hn⟩ hz h3 with e | e | e
    · rw [e]; exact st _ _ _ (by decide) (en _ _ (by decide))
    · rw [e]; exact st _ _ _ (by decide) (st _ _ _ (by decide) (en _ _ (by decide)))
    · rw [e]; exact st _ _ _ (by decide) (st _ _ _ (by decide) (st _ _ _ (by decide) (en _ _ (by decide))))
theorem F_together {w : Int32} (h : FR S x) : jFi E mX10_together (d + 3) 0 0 [.ref x, .int w] S (fun r S1 => jFm E mX11_together (d + 2) (x + 94) [.int w] S1 (fun r' _ => r = r')) := by
  obtain ⟨hX, hM, -⟩ := h.pi
  have ew : jisin (Int32.toInt64 w) 0 1023 = jwi w 1024 := jisin_wi w 1024 1023 rfl (jle_lt (by decide))
  refine T_X10_together ⟨fun c => U_X11_together (by first | exact g.1.1 | exact hM.k | exact hM1.k | exact hP.2.1.k | exact h.2.2.1.1 | exact h.1.1 | exact g1.1.1 | exact g3.1.1 | exact gm.1.1 | exact h2.1.1 | exact hM2.k | (rw [c1.1.1]; exact hP.2.1.k)) ⟨fun _ => rfl, fun c1 => absurd (ew.trans c) c1⟩, fun c => ?_⟩
  rcases jwi_cases w (b := 1024) 1024 rfl (by omega) with ⟨n, hn, e, -⟩ | ⟨-, e⟩
  · subst e
    have eb : jbc (nI n) = jmany (nI n) := jbc_many ⟨n, hn⟩
    rw [eb]
    refine ⟨fun c3 => ⟨hX.1, x + 1, hX.2.1, hX.k3, x + 2, hX.r0, hX.g.1.1, T_X0_canBringTogether (f_leadsTo h (fun c0 => ⟨Or.inr rfl, fun c => absurd c (by decide), fun _ => ?_⟩) (fun c0 => ⟨Or.inl rfl, fun _ => ?_, fun c => absurd rfl c⟩))⟩, fun c3 => ?_⟩
    · have n0 : n = 0 := nI_inj (by omega) (by omega) c0
      exact U_X11_together (by first | exact g.1.1 | exact hM.k | exact hM1.k | exact hP.2.1.k | exact h.2.2.1.1 | exact h.1.1 | exact g1.1.1 | exact g3.1.1 | exact gm.1.1 | exact h2.1.1 | exact hM2.k | (rw [c1.1.1]; exact hP.2.1.k)) ⟨fun c1 => absurd (ew.symm.trans c1) c, fun _ => ⟨fun _ => ⟨hM.k, f_areTogether h hn c3 (fun _ => ⟨fun c => absurd c (by decide), fun _ => rfl⟩) (fun c => absurd n0 c)⟩, fun c4 => absurd c3 c4⟩⟩
    · exact U_X11_together (by first | exact g.1.1 | exact hM.k | exact hM1.k | exact hP.2.1.k | exact h.2.2.1.1 | exact h.1.1 | exact g1.1.1 | exact g3.1.1 | exact gm.1.1 | exact h2.1.1 | exact hM2.k | (rw [c1.1.1]; exact hP.2.1.k)) ⟨fun c1 => absurd (ew.symm.trans c1) c, fun _ => ⟨fun _ => ⟨hM.k, f_areTogether h hn c3 (fun n0 => absurd (by rw [n0]; rfl) c0) (fun _ => ⟨fun _ => rfl, fun c => absurd rfl c⟩)⟩, fun c4 => absurd c3 c4⟩⟩
    · exact U_X11_together (by first | exact g.1.1 | exact hM.k | exact hM1.k | exact hP.2.1.k | exact h.2.2.1.1 | exact h.1.1 | exact g1.1.1 | exact g3.1.1 | exact gm.1.1 | exact h2.1.1 | exact hM2.k | (rw [c1.1.1]; exact hP.2.1.k)) ⟨fun c1 => absurd (ew.symm.trans c1) c, fun _ => ⟨fun c4 => absurd c4 c3, fun _ => rfl⟩⟩
  · exact absurd e c
theorem jboth0 : ∀ a b : Fin 10, ¬ ((0 : Int32) &&& ((jshl 1 (nI a.val)) ||| (jshl 1 (nI b.val)))) = ((jshl 1 (nI a.val)) ||| (jshl 1 (nI b.val))) := by decide +kernel
theorem F_never (h : FR S x) : jFi E mX10_never (d + 3) 0 0 [.ref x] S (fun r S1 => jFm E mX11_never (d + 2) (x + 94) [] S1 (fun r' _ => r = r')) := by
  obtain ⟨hX, hM, -⟩ := h.pi
  have inC : ∀ (Q : Int32 → jM → Prop) (a : Nat), a < 10 → ∀ (n b : Nat), b + n = 10 → L_X10_never_13 E (d + 2) Q x 0 (nI (a + 1)) S → L_X10_never_23 E (d + 2) Q x 0 (nI a) (nI b) S := by
    intro Q a ha n
    induction n with
    | zero =>
      intro b hb hn
      obtain rfl : b = 10 := by omega
      exact T_X10_never_23 ⟨fun _ => by rw [nI_1]; exact hn, fun c => absurd (by decide) c⟩
    | succ n ih =>
      intro b hb hn
      refine T_X10_never_23 ⟨fun c => absurd c (nI_ge (b := 10) (by omega) (by omega)), fun _ => ⟨fun c => absurd c (jboth0 ⟨a, ha⟩ ⟨b, by omega⟩), fun _ => ?_⟩⟩
      rw [nI_1]; exact ih (b + 1) (by omega) hn
  have ouC : ∀ (Q : Int32 → jM → Prop) (n a : Nat), a + n = 10 → Q kNONE S → L_X10_never_13 E (d + 2) Q x 0 (nI a) S := by
    intro Q n
    induction n with
    | zero =>
      intro a ha hq
      obtain rfl : a = 10 := by omega
      exact T_X10_never_13 ⟨fun _ => hq, fun c => absurd (by decide) c⟩
    | succ n ih =>
      intro a ha hq
      refine T_X10_never_13 ⟨fun c => absurd c (nI_ge (b := 10) (by omega) (by omega)), fun _ => ?_⟩
      rw [nI_1]
      exact inC Q a (by omega) (10 - (a + 1)) (a + 1) (by omega) (ih (a + 1) (by omega) hq)
  have inM : ∀ (Q : Int32 → jM → Prop) (a : Nat), a < 10 → ∀ (n b : Nat), b + n = 10 → L_X11_never_7 E (d + 1) Q (x + 94) 0 (nI (a + 1)) S → L_X11_never_17 E (d + 1) Q (x + 94) 0 (nI a) (nI b) S := by
    intro Q a ha n
    induction n with
    | zero =>
      intro b hb hn
      obtain rfl : b = 10 := by omega
      exact T_X11_never_17 ⟨fun _ => by rw [nI_1]; exact hn, fun c => absurd (by decide) c⟩
    | succ n ih =>
      intro b hb hn
      refine T_X11_never_17 ⟨fun c => absurd c (nI_ge (b := 10) (by omega) (by omega)), fun _ => ⟨fun c => absurd c (jboth0 ⟨a, ha⟩ ⟨b, by omega⟩), fun _ => ?_⟩⟩
      rw [nI_1]; exact ih (b + 1) (by omega) hn
  have ouM : ∀ (Q : Int32 → jM → Prop) (n a : Nat), a + n = 10 → Q kNONE S → L_X11_never_7 E (d + 1) Q (x + 94) 0 (nI a) S := by
    intro Q n
    induction n with
    | zero =>
      intro a ha hq
      obtain rfl : a = 10 := by omega
      exact T_X11_never_7 ⟨fun _ => hq, fun c => absurd (by decide) c⟩
    | succ n ih =>
      intro a ha hq
      refine T_X11_never_7 ⟨fun c => absurd c (nI_ge (b := 10) (by omega) (by omega)), fun _ => ?_⟩
      rw [nI_1]
      exact inM Q a (by omega) (10 - (a + 1)) (a + 1) (by omega) (ih (a + 1) (by omega) hq)
  refine T_X10_never ⟨hX.1, x + 1, hX.2.1, hX.k3, x + 2, hX.r0, hX.g.1.1, c_X0_taught hX.g hX.sz9 (ouC _ 10 0 rfl ?_)⟩
  exact U_X11_never (by first | exact g.1.1 | exact hM.k | exact hM1.k | exact hP.2.1.k | exact h.2.2.1.1 | exact h.1.1 | exact g1.1.1 | exact g3.1.1 | exact gm.1.1 | exact h2.1.1 | exact hM2.k | (rw [c1.1.1]; exact hP.2.1.k)) ⟨hM.k, c_X11_taughtNow (sz := 0) hM rfl (by omega) (ouM _ 10 0 rfl rfl)⟩
end jFresh4
