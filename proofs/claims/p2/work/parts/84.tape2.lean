/-! TEXT: the class's tape, what is in hand -/
def pops : List Nat → Nat
  | [] => 0
  | w :: A => (if w < 20000 then 1 else 0) + pops A
theorem pops_app : ∀ (A B : List Nat), pops (A ++ B) = pops A + pops B
  | [], B => by show pops B = 0 + pops B; omega
  | w :: A, B => by
    show (if w < 20000 then 1 else 0) + pops (A ++ B) = (if w < 20000 then 1 else 0) + pops A + pops B
    rw [pops_app A B]; omega
def CDC (S : jM) (t : Nat) (L : List Nat) : Prop := ji S t 9 = nI L.length ∧ ji S t 7 = nI (pops L) ∧ ∀ i, i < L.length → ji S (t + 2) i = nI (L.getD i 0)
/-- what reading changes -/
def jtp (S S' : jM) (t : Nat) : Prop := jsame S S' ∧ (∀ y, y ≠ t → y ≠ t + 2 → ji S' y = ji S y) ∧ ∀ j, (j = 1 ∨ j = 6) → ji S' t j = ji S t j
theorem nI_sub {m k : Nat} (h : k ≤ m) : nI m - nI k = nI (m - k) := by
  have e : nI m = nI (m - k) + nI k := by rw [nI_add]; congr 1; omega
  rw [e, Int32.add_sub_cancel]
/-- word i of the keys is in hand -/
def pwd (b : Nat → Nat) (k : jtk) (i : Nat) : Prop := k.2.2.1 = 1 ∧ k.2.1 - k.1 = 4 ∧ ∀ j, j < 4 → nI (b (k.1 + j)) = sB i j
section jTape2
variable {E : jEnv} {d : Nat} {S S' : jM} {t n : Nat} {b : Nat → Nat} {k : jtk}
theorem jtp.rfl : jtp S S t := ⟨jsame.rfl, fun _ _ _ => _root_.rfl, fun _ _ => _root_.rfl⟩
theorem jtp.trans {S1 S2 : jM} (h1 : jtp S S1 t) (h2 : jtp S1 S2 t) : jtp S S2 t := ⟨h1.1.trans h2.1, fun y a b => (h2.2.1 y a b).trans (h1.2.1 y a b), fun j a => (h2.2.2 j a).trans (h1.2.2 j a)⟩
theorem jts.tp (h : jts S S' t) : jtp S S' t := ⟨h.1, fun y a _ => h.2.1 y a, fun j hj => h.2.2 j (by omega)⟩
theorem TB.tp (h : TB S t n b) (g : jtp S S' t) : TB S' t n b := by
  obtain ⟨h1, h2, h3, h4⟩ := h
  exact ⟨h1.same g.1, h2, (g.2.2 1 (Or.inl _root_.rfl)).trans h3, fun j hj => ⟨(h4 j hj).1, by rw [g.2.1 _ (by omega) (by omega)]; exact (h4 j hj).2⟩⟩
theorem CDC.ts {L : List Nat} (h : CDC S t L) (g : jts S S' t) : CDC S' t L := ⟨(g.2.2 9 (by omega)).trans h.1, (g.2.2 7 (by omega)).trans h.2.1, fun i hi => by rw [g.2.1 _ (by omega)]; exact h.2.2 i hi⟩
theorem c_X8_next {Q : jM → Prop} (hT : TB S t n b) (hK : TKC S t k) (ok : TKok b n k) (hq : ∀ S', jts S S' t → TKC S' t (pnext b n k) → Q S') : jFv E mX8_step (d + 2) 0 0 [.ref t] S Q :=
  c_X8_step hT hK.2.1 hK.2.2.1 ok.2.1 (by rw [ok.2.2.1]; exact psrt_le) hq
theorem TKok.lt (ok : TKok b n k) (h : k.2.2.1 ≠ 0) : k.1 < n := Nat.lt_of_lt_of_le (ok.2.2.2.1 h) ok.2.1
theorem TKok.so (ok : TKok b n k) : k.2.2.1 ≤ 3 := by rw [ok.2.2.1]; exact psrt_le
theorem c_X8_isInHand {Q : Int32 → jM → Prop} {c : Nat} (hT : TB S t n b) (hK : TKC S t k) (ok : TKok b n k) (hc : c < 256) (h1 : k.2.2.1 = 3 → b k.1 = c → Q 1 S) (h0 : ¬ (k.2.2.1 = 3 ∧ b k.1 = c) → Q 0 S) : jFi E mX8_isInHand (d + 1) 0 0 [.ref t, .int (nI c)] S Q := by
  have s3 := ok.so
  refine T_X8_isInHand ⟨hT.1.1, ?_⟩
  rw [hK.2.2.1, hK.1]
  refine ⟨fun c3 => ?_, fun c3 => h0 (fun z => c3 (by rw [z.1]; rfl))⟩
  have e3 : k.2.2.1 = 3 := nI_inj (b := 3) (by omega) (by omega) c3
  have hl := ok.lt (by omega)
  have hb := (hT.2.2.2 k.1 hl).1
  exact c_X8_byteAt hT hl ⟨fun e => h1 e3 (nI_inj (by omega) (by omega) e), fun e => h0 (fun z => e (by rw [z.2]))⟩
theorem c_X8_levelInHand {Q : Int32 → jM → Prop} (hT : TB S t n b) (hK : TKC S t k) (ok : TKok b n k) (h : Q (if plev b k = 9 then -1 else nI (plev b k)) S) : jFi E mX8_levelInHand (d + 1) 0 0 [.ref t] S Q := by
  have s3 := ok.so
  refine T_X8_levelInHand ⟨hT.1.1, ?_⟩
  rw [hK.2.2.1, hK.1]
  refine ⟨fun c3 => ?_, fun c3 => ?_⟩
  · have e3 : k.2.2.1 = 3 := nI_inj (b := 3) (by omega) (by omega) c3
    have hl := ok.lt (by omega)
    have hb := (hT.2.2.2 k.1 hl).1
    refine c_X8_byteAt hT hl ?_
    have eq : ∀ c, c < 256 → (nI (b k.1) = nI c ↔ b k.1 = c) := fun c hc => ⟨fun e => nI_inj (by omega) (by omega) e, fun e => by rw [e]⟩
    unfold plev at h
    rw [if_pos e3] at h
    have q38 := eq 38 (by omega)
    have q42 := eq 42 (by omega)
    have q43 := eq 43 (by omega)
    have q45 := eq 45 (by omega)
    have q47 := eq 47 (by omega)
    have q60 := eq 60 (by omega)
    have q61 := eq 61 (by omega)
    have q62 := eq 62 (by omega)
    have q124 := eq 124 (by omega)
    refine ⟨fun e => ?_, fun e => ?_, fun e => ?_, fun e => ?_, fun e => ?_, fun e => ?_, fun e => ?_, fun e => ?_, fun e => ?_, fun e1 e2 e3 e4 e5 e6 e7 e8 e9 => ?_⟩
    · rw [q38.mp e] at h; exact h
    · rw [q42.mp e] at h; exact h
    · rw [q43.mp e] at h; exact h
    · rw [q45.mp e] at h; exact h
    · rw [q47.mp e] at h; exact h
    · rw [q60.mp e] at h; exact h
    · rw [q61.mp e] at h; exact h
    · rw [q62.mp e] at h; exact h
    · rw [q124.mp e] at h; exact h
    · rw [if_neg (c := b k.1 = 124) (fun z => e9 (q124.mpr z)), if_neg (c := b k.1 = 38) (fun z => e1 (q38.mpr z)), if_neg (c := b k.1 = 60) (fun z => e6 (q60.mpr z)), if_neg (c := b k.1 = 61) (fun z => e7 (q61.mpr z)), if_neg (c := b k.1 = 62) (fun z => e8 (q62.mpr z)), if_neg (c := b k.1 = 43) (fun z => e3 (q43.mpr z)), if_neg (c := b k.1 = 45) (fun z => e4 (q45.mpr z)), if_neg (c := b k.1 = 42) (fun z => e2 (q42.mpr z)), if_neg (c := b k.1 = 47) (fun z => e5 (q47.mpr z))] at h
      exact h
  · have e3 : ¬ k.2.2.1 = 3 := fun z => c3 (by rw [z]; rfl)
    unfold plev at h
    rw [if_neg e3] at h; exact h
theorem c_X8_numberInHand {Q : Int32 → jM → Prop} (hT : TB S t n b) (hK : TKC S t k) (ok : TKok b n k) (e2 : k.2.2.1 = 2) (h0 : 4 < k.2.1 - k.1 → Q (-1) S) (h1 : ¬ 4 < k.2.1 - k.1 → Q (nI (pnum b (k.2.1 - k.1) k.1 0)) S) : jFi E mX8_numberInHand (d + 1) 0 0 [.ref t] S Q := by
  have h96 := hT.2.1
  obtain ⟨k1, k2, k3, k4, k5, k6, k7⟩ := id ok
  have loop : ∀ (c p a : Nat), p + c = k.2.1 → k.1 ≤ p → (Q (nI (pnum b c p a)) S) → L_X8_numberInHand_22 E d Q t (nI a) (nI p) S := by
    intro c
    induction c with
    | zero =>
      intro p a hp _ hq
      obtain rfl : p = k.2.1 := by omega
      refine T_X8_numberInHand_22 ⟨hT.1.1, fun _ => hq, fun cc => absurd (by rw [hK.2.1]; exact Int32.le_rfl) cc⟩
    | succ c ih =>
      intro p a hp hp1 hq
      refine T_X8_numberInHand_22 ⟨hT.1.1, fun cc => absurd (by rw [hK.2.1] at cc; exact cc) (nI_ge (by omega) (by omega)), fun _ => c_X8_byteAt hT (by omega) ?_⟩
      have hd := psrt_2 ((k7 p hp1 (by omega)).trans e2)
      rw [nI_1, show (10 : Int32) = nI 10 from rfl, nI_mul, nI_add, show (48 : Int32) = nI 48 from rfl, nI_sub (by omega)]
      exact ih (p + 1) _ (by omega) (by omega) hq
  refine T_X8_numberInHand ⟨hT.1.1, ?_⟩
  rw [hK.1, hK.2.1, nI_sub k1]
  refine ⟨fun c => loop (k.2.1 - k.1) k.1 0 (by omega) (Nat.le_refl _) (h1 ?_), fun c => h0 ?_⟩
  · have := (nI_leI (b := 4) (by omega) (by omega)).mp c
    omega
  · rcases Nat.lt_or_ge 4 (k.2.1 - k.1) with q | q
    · exact q
    · exact absurd (nI_le (b := 4) q (by omega)) c
theorem T_X8_namesOf {Q : Option Nat → jM → Prop} {key : Nat} (hk : key < 3) (h : Q (some (eK E (3 + key))) S) : jFr E mX8_namesOf d 0 0 [.int (nI key)] S Q := by
  refine jF_of (by decide) (jle rfl) ?_
  refine jx_lv (lv1 := [(0, .int (nI key))]) [0] rfl ?_
  refine jx_iload_n 0 dX8_namesOf_0 rfl rfl ?_
  rcases (show key = 0 ∨ key = 1 ∨ key = 2 by omega) with rfl | rfl | rfl
  · refine jx_lookIn (v := 0) (tgt := 28) (off := 27) dX8_namesOf_1 (by decide) rfl (by decide) (by decide) ?_
    refine jx_ldcS (q := eK E 3) rfl (fun s hG => hG.2.2.2.2.2.2.2.2.1) dX8_namesOf_28 ?_
    exact jx_aret (o := some (eK E 3)) dX8_namesOf_30 rfl (jle rfl) (jle rfl) ⟨_, rfl, h⟩
  · refine jx_lookIn (v := 1) (tgt := 31) (off := 30) dX8_namesOf_1 (by decide) rfl (by decide) (by decide) ?_
    refine jx_ldcS (q := eK E 4) rfl (fun s hG => hG.2.2.2.2.2.2.2.2.2.1) dX8_namesOf_31 ?_
    exact jx_aret (o := some (eK E 4)) dX8_namesOf_33 rfl (jle rfl) (jle rfl) ⟨_, rfl, h⟩
  · refine jx_lookD (tgt := 34) dX8_namesOf_1 (by decide) (by decide) (by decide) ?_
    refine jx_ldcS (q := eK E 5) rfl (fun s hG => hG.2.2.2.2.2.2.2.2.2.2.1) dX8_namesOf_34 ?_
    exact jx_aret (o := some (eK E 5)) dX8_namesOf_36 rfl (jle rfl) (jle rfl) ⟨_, rfl, h⟩
theorem pnam_ix : ∀ key : Fin 3, ∀ c : Fin 256, sIx (3 + key.val) ((nI c.val).toInt8.toInt32) (sL (3 + key.val)) 0 = if pnam key.val c.val = 9 then -1 else nI (pnam key.val c.val) := by decide +kernel
theorem chr_id : ∀ c : Fin 256, ((nI c.val).toUInt32 % 65536).toInt32 = nI c.val := by decide +kernel
theorem pnam_le (key c : Nat) : pnam key c ≤ 9 := by
  unfold pnam
  repeat' split
  all_goals omega
theorem c_X8_nameInHand {Q : Int32 → jM → Prop} {key : Nat} (hT : TB S t n b) (hK : TKC S t k) (ok : TKok b n k) (hk : key < 3) (h6 : ji S t 6 = nI key) (e1 : k.2.2.1 = 1) (h0 : ¬ k.2.1 - k.1 = 1 ∨ pnam key (b k.1) = 9 → Q (-1) S) (h1 : k.2.1 - k.1 = 1 → ¬ pnam key (b k.1) = 9 → Q (nI (10000 + pnam key (b k.1))) S) : jFi E mX8_nameInHand (d + 4) 0 0 [.ref t] S Q := by
  have h96 := hT.2.1
  have hl := ok.lt (by omega)
  have hb := (hT.2.2.2 k.1 hl).1
  have kl := ok.1
  have ke := ok.2.1
  have p9 := pnam_le key (b k.1)
  have fin : ∀ r : Int32, (r = -1 → Q (-1) S) → (¬ r < 0 → Q (10000 + r) S) → (r < 0 → r = -1) → jX E mX8_nameInHand (jRm (d + 4) 0 0) (jZm E (fun r S' => ∃ v : Int32, r = some (.int v) ∧ Q v S') 0 0) 36 [(0, .ref t)] [.int r] S 0 0 := by
    intro r q0 q1 q2
    refine jx_istore_n (lv1 := [(1, .int r), (0, .ref t)]) dX8_nameInHand_36 rfl (by decide) rfl ?_
    refine jx_iload_n 0 dX8_nameInHand_37 rfl rfl ?_
    refine jx_if_ge (tgt := 45) dX8_nameInHand_38 (by decide) (fun c => ?_) (fun c => ?_)
    · refine jx_sipush (v := 10000) dX8_nameInHand_45 (by decide) ?_
      refine jx_iload_n 0 dX8_nameInHand_48 rfl rfl ?_
      refine jx_iadd dX8_nameInHand_49 ?_
      exact jx_iret dX8_nameInHand_50 rfl rfl (jle rfl) (jle rfl) ⟨_, rfl, q1 (Int32.not_lt.mpr c)⟩
    · refine jx_iconst (v := -1) dX8_nameInHand_41 (by decide) ?_
      refine jx_goto (tgt := 50) dX8_nameInHand_42 (by decide) ?_
      exact jx_iret dX8_nameInHand_50 rfl rfl (jle rfl) (jle rfl) ⟨_, rfl, q0 (q2 (Int32.not_le.mp c))⟩
  refine jF_of (by decide) (jle rfl) ?_
  refine jx_lv (lv1 := [(0, .ref t)]) [0] rfl ?_
  refine jx_aload_n 0 dX8_nameInHand_0 rfl rfl ?_
  refine jx_geti jc_8 (j := 3) (by decide) rfl jwF_X8_26 dX8_nameInHand_1 hT.1.1 ?_
  refine jx_aload_n 0 dX8_nameInHand_4 rfl rfl ?_
  refine jx_geti jc_8 (j := 2) (by decide) rfl jwF_X8_63 dX8_nameInHand_5 hT.1.1 ?_
  refine jx_isub dX8_nameInHand_8 ?_
  rw [hK.1, hK.2.1, nI_sub kl]
  refine jx_iconst (v := 1) dX8_nameInHand_9 (by decide) ?_
  refine jx_icmp_ne (tgt := 35) dX8_nameInHand_10 (by decide) (fun c => ?_) (fun c => ?_)
  · refine jx_iconst (v := -1) dX8_nameInHand_35 (by decide) ?_
    exact fin (-1) (fun _ => h0 (Or.inl (fun z => c (by rw [z]; rfl)))) (fun q => absurd (by decide) q) (fun _ => rfl)
  · have ec : k.2.1 - k.1 = 1 := nI_inj (b := 1) (by omega) (by omega) c
    refine jx_aload_n 0 dX8_nameInHand_13 rfl rfl ?_
    refine jx_geti jc_8 (j := 6) (by decide) rfl jwF_X8_45 dX8_nameInHand_14 hT.1.1 ?_
    rw [h6]
    refine jx_callSr (M' := mX8_namesOf) (As := [.int (nI key)]) (Q' := fun o S' => o = some (eK E (3 + key)) ∧ S' = S) jo_X8_namesOf jwM_X8_130 jwS_X8_namesOf dX8_nameInHand_17 (jRok_m _ _ _) rfl (jle rfl) ⟨jle rfl, jle rfl⟩ (T_X8_namesOf hk ⟨rfl, rfl⟩) (fun o S' e => ?_)
    obtain ⟨rfl, rfl⟩ := e
    refine jx_aload_n 0 dX8_nameInHand_20 rfl rfl ?_
    refine jx_aload_n 0 dX8_nameInHand_21 rfl rfl ?_
    refine jx_geti jc_8 (j := 2) (by decide) rfl jwF_X8_63 dX8_nameInHand_22 hT.1.1 ?_
    rw [hK.1]
    refine jx_callVi (M' := mX8_byteAt) (As := [.int (nI k.1)]) (Q' := fun r S1 => r = nI (b k.1) ∧ S1 = S') jo_X8_byteAt jc_8 rfl jwM_X8_66 jwN_X8_byteAt jwX_X8_byteAt dX8_nameInHand_25 (jRok_m _ _ _) rfl (jle rfl) ⟨jle rfl, jle rfl⟩ hT.1.1 (c_X8_byteAt hT hl ⟨rfl, rfl⟩) (fun r S1 e => ?_)
    obtain ⟨rfl, rfl⟩ := e
    refine jx_i2c dX8_nameInHand_28 ?_
    rw [chr_id ⟨b k.1, hb⟩]
    refine jx_callKi (i := 3 + key) (M' := mJ0_indexOf_0f7a4) (As := [.int (nI (b k.1))]) (Q' := fun r S2 => r = (if pnam key (b k.1) = 9 then -1 else nI (pnam key (b k.1))) ∧ S2 = S1) jo_J0_indexOf_0f7a4 (by omega) rfl jwM_X8_133 jwN_J0_indexOf_0f7a4 jwX_J0_indexOf_0f7a4 dX8_nameInHand_29 (jRok_m _ _ _) rfl (jle rfl) ⟨jle rfl, jle rfl⟩ (c_J0_indexOf (by omega) (nI_pos (by omega)) (fun z => ?_) ⟨pnam_ix ⟨key, hk⟩ ⟨b k.1, hb⟩, rfl⟩) (fun r S2 e => ?_)
    · have := (nI_ltI (a := 255) (by omega) (by omega)).mp z
      omega
    · obtain ⟨rfl, rfl⟩ := e
      refine jx_goto (tgt := 36) dX8_nameInHand_32 (by decide) ?_
      by_cases c9 : pnam key (b k.1) = 9
      · rw [if_pos c9]
        exact fin (-1) (fun _ => h0 (Or.inr c9)) (fun q => absurd (by decide) q) (fun _ => rfl)
      · rw [if_neg c9]
        refine fin _ (fun z => ?_) (fun _ => ?_) (fun z => absurd z (nI_pos (by omega)))
        · have := nI_pos (n := pnam key (b k.1)) (by omega)
          rw [z] at this; exact absurd (by decide) this
        · rw [show (10000 : Int32) = nI 10000 from rfl, nI_add]; exact h1 ec c9
end jTape2
