/-! TEXT: the class reads -/
section jTape3
variable {E : jEnv} {d : Nat} {S S' : jM} {t n : Nat} {b : Nat → Nat} {k : jtk}
theorem sL_k : ∀ i : Fin 3, sL i.val = 4 := by decide +kernel
theorem c_X8_isWordInHand {Q : Int32 → jM → Prop} {i : Nat} (hT : TB S t n b) (hK : TKC S t k) (ok : TKok b n k) (hi : i < 3) (h1 : pwd b k i → Q 1 S) (h0 : ¬ pwd b k i → Q 0 S) : jFi E mX8_isWordInHand (d + 4) 0 0 [.ref t, .ref (eK E i)] S Q := by
  have h96 := hT.2.1
  have kl := ok.1
  have ke := ok.2.1
  have s3 := ok.so
  have i6 : i < 6 := by omega
  have l4 : sL i = 4 := sL_k ⟨i, hi⟩
  have no : ∀ {lv : List (Nat × Value)}, ¬ pwd b k i → jX E mX8_isWordInHand (jRm (d + 4) 0 0) (jZm E (fun r S' => ∃ v : Int32, r = some (.int v) ∧ Q v S') 0 0) 24 lv [] S 0 0 := by
    intro lv hn
    refine jx_iconst (v := 0) dX8_isWordInHand_24 (by decide) ?_
    exact jx_iret dX8_isWordInHand_25 rfl (by decide) (jle rfl) (jle rfl) ⟨_, rfl, h0 hn⟩
  have len : ∀ {pc : Nat} {lv : List (Nat × Value)} {st : List Value}, decode cX8_isWordInHand pc = .ok (.invokevirtual 85, 3) → (st.map fun v => v.category).sum ≤ 8 → jX E mX8_isWordInHand (jRm (d + 4) 0 0) (jZm E (fun r S' => ∃ v : Int32, r = some (.int v) ∧ Q v S') 0 0) (pc + 3) lv (.int (nI 4) :: st) S 0 0 → jX E mX8_isWordInHand (jRm (d + 4) 0 0) (jZm E (fun r S' => ∃ v : Int32, r = some (.int v) ∧ Q v S') 0 0) pc lv (.ref (eK E i) :: st) S 0 0 := by
    intro pc lv st hd hs h
    refine jx_callKi (i := i) (M' := mJ0_length_8abf5) (As := []) (Q' := fun r S' => r = nI (sL i) ∧ S' = S) jo_J0_length_8abf5 i6 rfl jwM_X8_85 jwN_J0_length_8abf5 jwX_J0_length_8abf5 hd (jRok_m _ _ _) rfl hs ⟨jle rfl, jle rfl⟩ (c_J0_length i6 ⟨rfl, rfl⟩) (fun r S' e => ?_)
    obtain ⟨rfl, rfl⟩ := e
    rw [l4]; exact h
  have loop : ∀ (c j : Nat), j + c = 4 → k.2.2.1 = 1 → k.2.1 - k.1 = 4 → (∀ q, q < j → nI (b (k.1 + q)) = sB i q) → jX E mX8_isWordInHand (jRm (d + 4) 0 0) (jZm E (fun r S' => ∃ v : Int32, r = some (.int v) ∧ Q v S') 0 0) 28 [(2, .int (nI j)), (0, .ref t), (1, .ref (eK E i))] [] S 0 0 := by
    intro c
    induction c with
    | zero =>
      intro j hj e1 e4 hall
      obtain rfl : j = 4 := by omega
      refine jx_iload_n 0 dX8_isWordInHand_28 rfl rfl ?_
      refine jx_aload_n 2 dX8_isWordInHand_29 rfl rfl ?_
      refine len dX8_isWordInHand_30 (jle rfl) ?_
      refine jx_icmp_ge (tgt := 62) dX8_isWordInHand_33 (by decide) (fun _ => ?_) (fun c => absurd Int32.le_rfl c)
      refine jx_iconst (v := 1) dX8_isWordInHand_62 (by decide) ?_
      exact jx_iret dX8_isWordInHand_63 rfl (by decide) (jle rfl) (jle rfl) ⟨_, rfl, h1 ⟨e1, e4, hall⟩⟩
    | succ c ih =>
      intro j hj e1 e4 hall
      refine jx_iload_n 0 dX8_isWordInHand_28 rfl rfl ?_
      refine jx_aload_n 2 dX8_isWordInHand_29 rfl rfl ?_
      refine len dX8_isWordInHand_30 (jle rfl) ?_
      refine jx_icmp_ge (tgt := 62) dX8_isWordInHand_33 (by decide) (fun c => absurd c (nI_ge (by omega) (by omega))) (fun _ => ?_)
      refine jx_aload_n 1 dX8_isWordInHand_36 rfl rfl ?_
      refine jx_aload_n 1 dX8_isWordInHand_37 rfl rfl ?_
      refine jx_geti jc_8 (j := 2) (by decide) rfl jwF_X8_63 dX8_isWordInHand_38 hT.1.1 ?_
      refine jx_iload_n 0 dX8_isWordInHand_41 rfl rfl ?_
      refine jx_iadd dX8_isWordInHand_42 ?_
      rw [hK.1, nI_add]
      refine jx_callVi (M' := mX8_byteAt) (As := [.int (nI (k.1 + j))]) (Q' := fun r S1 => r = nI (b (k.1 + j)) ∧ S1 = S) jo_X8_byteAt jc_8 rfl jwM_X8_66 jwN_X8_byteAt jwX_X8_byteAt dX8_isWordInHand_43 (jRok_m _ _ _) rfl (jle rfl) ⟨jle rfl, jle rfl⟩ hT.1.1 (c_X8_byteAt hT (by omega) ⟨rfl, rfl⟩) (fun r S1 e => ?_)
      obtain ⟨rfl, rfl⟩ := e
      refine jx_aload_n 2 dX8_isWordInHand_46 rfl rfl ?_
      refine jx_iload_n 0 dX8_isWordInHand_47 rfl rfl ?_
      refine jx_callKi (i := i) (M' := mJ0_charAt_5068e) (As := [.int (nI j)]) (Q' := fun r S2 => r = sB i j ∧ S2 = S1) jo_J0_charAt_5068e i6 rfl jwM_X8_90 jwN_J0_charAt_5068e jwX_J0_charAt_5068e dX8_isWordInHand_48 (jRok_m _ _ _) rfl (jle rfl) ⟨jle rfl, jle rfl⟩ (c_J0_charAt i6 (by omega) ⟨rfl, rfl⟩) (fun r S2 e => ?_)
      obtain ⟨rfl, rfl⟩ := e
      refine jx_icmp_eq (tgt := 56) dX8_isWordInHand_51 (by decide) (fun c => ?_) (fun c => ?_)
      · refine jx_iinc 0 (v := nI (j + 1)) (lv1 := [(2, .int (nI (j + 1))), (0, .ref t), (1, .ref (eK E i))]) dX8_isWordInHand_56 rfl (nI_1 j) (by decide) rfl ?_
        refine jx_goto (tgt := 28) dX8_isWordInHand_59 (by decide) ?_
        refine ih (j + 1) (by omega) e1 e4 (fun q hq => ?_)
        by_cases e : q = j
        · rw [e]; exact c
        · exact hall q (by omega)
      · refine jx_iconst (v := 0) dX8_isWordInHand_54 (by decide) ?_
        exact jx_iret dX8_isWordInHand_55 rfl (by decide) (jle rfl) (jle rfl) ⟨_, rfl, h0 (fun z => c (z.2.2 j (by omega)))⟩
  refine jF_of (by decide) (jle rfl) ?_
  refine jx_lv (lv1 := [(0, .ref t), (1, .ref (eK E i))]) [0, 1] rfl ?_
  refine jx_aload_n 0 dX8_isWordInHand_0 rfl rfl ?_
  refine jx_geti jc_8 (j := 4) (by decide) rfl jwF_X8_29 dX8_isWordInHand_1 hT.1.1 ?_
  rw [hK.2.2.1]
  refine jx_iconst (v := 1) dX8_isWordInHand_4 (by decide) ?_
  refine jx_icmp_ne (tgt := 24) dX8_isWordInHand_5 (by decide) (fun c => no (fun z => c (by rw [z.1]; rfl))) (fun c => ?_)
  have e1 : k.2.2.1 = 1 := nI_inj (b := 1) (by omega) (by omega) c
  refine jx_aload_n 0 dX8_isWordInHand_8 rfl rfl ?_
  refine jx_geti jc_8 (j := 3) (by decide) rfl jwF_X8_26 dX8_isWordInHand_9 hT.1.1 ?_
  refine jx_aload_n 0 dX8_isWordInHand_12 rfl rfl ?_
  refine jx_geti jc_8 (j := 2) (by decide) rfl jwF_X8_63 dX8_isWordInHand_13 hT.1.1 ?_
  refine jx_isub dX8_isWordInHand_16 ?_
  rw [hK.1, hK.2.1, nI_sub kl]
  refine jx_aload_n 1 dX8_isWordInHand_17 rfl rfl ?_
  refine len dX8_isWordInHand_18 (jle rfl) ?_
  refine jx_icmp_eq (tgt := 26) dX8_isWordInHand_21 (by decide) (fun c4 => ?_) (fun c4 => no (fun z => c4 (by rw [z.2.1])))
  have e4 : k.2.1 - k.1 = 4 := nI_inj (by omega) (by omega) c4
  refine jx_iconst (v := 0) dX8_isWordInHand_26 (by decide) ?_
  refine jx_istore_n (lv1 := [(2, .int (nI 0)), (0, .ref t), (1, .ref (eK E i))]) dX8_isWordInHand_27 rfl (by decide) rfl ?_
  exact loop 4 0 (by omega) e1 e4 (fun q hq => absurd hq (Nat.not_lt_zero _))
theorem c_X8_keyInHand {Q : Int32 → jM → Prop} (hT : TB S t n b) (hK : TKC S t k) (ok : TKok b n k) (h1 : ∀ i, i < 3 → pwd b k i → (∀ j, j < i → ¬ pwd b k j) → Q (nI i) S) (h0 : (∀ j, j < 3 → ¬ pwd b k j) → Q (-1) S) : jFi E mX8_keyInHand (d + 5) 0 0 [.ref t] S Q := by
  have one : ∀ i, i < 3 → (∀ j, j < i → ¬ pwd b k j) → ((∀ j, j < i + 1 → ¬ pwd b k j) → L_X8_keyInHand_2 E (d + 4) Q t (nI (i + 1)) S) → L_X8_keyInHand_2 E (d + 4) Q t (nI i) S := by
    intro i hi hno nxt
    have w : ∀ q, q = eK E i → ((some q = none → jk S t = 8 ∧ jFi E mX8_isWordInHand (d + 4) 0 0 [.ref t, .null] S (fun r7 S6 => (r7 = 0 → L_X8_keyInHand_2 E (d + 4) Q t (nI i + 1) S6) ∧ (¬ r7 = 0 → Q (nI i) S6))) ∧ (∀ b4, some q = some b4 → jk S t = 8 ∧ jFi E mX8_isWordInHand (d + 4) 0 0 [.ref t, .ref b4] S (fun r11 S10 => (r11 = 0 → L_X8_keyInHand_2 E (d + 4) Q t (nI i + 1) S10) ∧ (¬ r11 = 0 → Q (nI i) S10)))) := by
      intro q eq
      refine ⟨fun c => absurd c (by simp), fun b4 e => ⟨hT.1.1, ?_⟩⟩
      obtain rfl : q = b4 := Option.some.inj e
      rw [eq, nI_1]
      exact c_X8_isWordInHand hT hK ok hi (fun z => ⟨fun c => absurd c (by decide), fun _ => h1 i hi z hno⟩) (fun z => ⟨fun _ => nxt (fun j hj => by
        by_cases e : j = i
        · rw [e]; exact z
        · exact hno j (by omega)), fun c => absurd rfl c⟩)
    refine T_X8_keyInHand_2 ⟨fun c => absurd c (nI_ge (b := 3) (by omega) (by omega)), fun _ => T_X8_wordOf ⟨fun c => w _ ?_, fun c => w _ ?_, fun c c2 => w _ ?_⟩⟩
    · have : i = 0 := nI_inj (b := 0) (by omega) (by omega) c
      rw [this]
    · have : i = 1 := nI_inj (b := 1) (by omega) (by omega) c
      rw [this]
    · have : i = 2 := by
        have q0 : i ≠ 0 := fun z => c (by rw [z]; rfl)
        have q1 : i ≠ 1 := fun z => c2 (by rw [z]; rfl)
        omega
      rw [this]
  exact T_X8_keyInHand (one 0 (by omega) (fun j hj => absurd hj (Nat.not_lt_zero _)) (fun a0 => one 1 (by omega) a0 (fun a1 => one 2 (by omega) a1 (fun a2 => T_X8_keyInHand_2 ⟨fun _ => h0 a2, fun c => absurd (by decide) c⟩))))
/-! writing -/
theorem getD_app {L : List Nat} {w i : Nat} : (L ++ [w]).getD i 0 = if i = L.length then w else L.getD i 0 := by
  by_cases h : i = L.length
  · rw [if_pos h, h]; simp [List.getD_eq_getElem?_getD]
  · rw [if_neg h]
    rcases Nat.lt_or_ge i L.length with q | q
    · simp [List.getD_eq_getElem?_getD, List.getElem?_append_left q]
    · have h1 : (L ++ [w])[i]? = none := by
        apply List.getElem?_eq_none
        rw [List.length_append]
        show L.length + 1 ≤ i
        omega
      have h2 : L[i]? = none := List.getElem?_eq_none q
      simp [List.getD_eq_getElem?_getD, h1, h2]
theorem c_X8_write {Q : jM → Prop} {L : List Nat} {w : Nat} (hT : TB S t n b) (hL : CDC S t L) (h96 : L.length < 96) (hq : ∀ S', jtp S S' t → (∀ j, j ≠ 9 → ji S' t j = ji S t j) → ji S' t 9 = nI (L.length + 1) → (∀ i, i < L.length + 1 → ji S' (t + 2) i = nI ((L ++ [w]).getD i 0)) → Q S') : jFv E mX8_write (d + 1) 0 0 [.ref t, .int (nI w)] S Q := by
  obtain ⟨l1, l2, l3⟩ := hL
  refine T_X8_write ⟨hT.1.1, ?_⟩
  rw [l1]
  refine ⟨fun c => absurd c (jwi96 h96), fun _ => ⟨_, hT.1.2.2.1, hT.1.2.2.2.2.2.1, by rw [hT.1.2.2.2.2.2.2]; exact jin_nI h96 (by omega), ?_⟩⟩
  rw [jcl (by omega), nI_1]
  refine hq _ ⟨⟨rfl, rfl, rfl, rfl⟩, fun y a c => by rw [ji_put_ne _ _ _ _ a, ji_put_ne _ _ _ _ c], fun j hj => by rw [ji_put, if_neg (by omega), ji_put_ne _ _ _ _ (by omega)]⟩ (fun j hj => by rw [ji_put, if_neg (by omega), ji_put_ne _ _ _ _ (by omega)]) (ji_put_same _ _ _ _) (fun i hi => ?_)
  rw [ji_put_ne _ _ _ _ (by omega), ji_put, getD_app]
  by_cases e : i = L.length
  · rw [if_pos ⟨rfl, e⟩, if_pos e]
  · rw [if_neg (fun z => e z.2), if_neg e]; exact l3 i (by omega)
/-- written whatever stands there -/
theorem c_X8_writeAny {Q : jM → Prop} {w : Int32} (hT : TB S t n b) (hq : ∀ S', jtp S S' t → ji S' t 2 = ji S t 2 → Q S') : jFv E mX8_write (d + 1) 0 0 [.ref t, .int w] S Q := by
  refine T_X8_write ⟨hT.1.1, fun _ => hq S jtp.rfl rfl, fun c => ⟨_, hT.1.2.2.1, hT.1.2.2.2.2.2.1, by rw [hT.1.2.2.2.2.2.2]; exact jwi_in (n := 96) (by omega) c, ?_⟩⟩
  refine hq _ ⟨⟨rfl, rfl, rfl, rfl⟩, fun y a c => by rw [ji_put_ne _ _ _ _ a, ji_put_ne _ _ _ _ c], fun j hj => by rw [ji_put, if_neg (by omega), ji_put_ne _ _ _ _ (by omega)]⟩ ?_
  rw [ji_put, if_neg (by omega), ji_put_ne _ _ _ _ (by omega)]
theorem c_X8_readsOperand {Q : Int32 → jM → Prop} {key : Nat} {L : List Nat} (hT : TB S t n b) (hK : TKC S t k) (ok : TKok b n k) (hk : key < 3) (h6 : ji S t 6 = nI key) (hL : CDC S t L) (hlen : L.length + 1 ≤ k.1) (hs : k.2.2.1 = 1 ∨ k.2.2.1 = 2) (h0 : popd b key k = 30000 → Q 0 S) (h1 : ¬ popd b key k = 30000 → ∀ S', jtp S S' t → TKC S' t (pnext b n k) → CDC S' t (L ++ [popd b key k]) → Q 1 S') : jFi E mX8_readsOperand (d + 5) 0 0 [.ref t] S Q := by
  have h96 := hT.2.1
  have hl := ok.lt (by omega)
  have n5 := hK.2.2.2
  have nb := ok.2.2.2.2.1
  have put : ∀ w : Nat, w = popd b key k → ¬ popd b key k = 30000 → jFv E mX8_write (d + 4) 0 0 [.ref t, .int (nI w)] S (fun S8 => jk S8 t = 8 ∧ jFv E mX8_step (d + 4) 0 0 [.ref t] (jput S8 t 7 ((ji S8 t 7) + 1)) (fun S10 => Q 1 S10)) := by
    intro w ew hne
    have w2 := (popd_ok ok hne).2.1
    refine c_X8_write hT hL (by omega) (fun S1 g1 f1 e9 r1 => ⟨(hT.tp g1).1.1, ?_⟩)
    have T1 := hT.tp g1
    rw [f1 7 (by omega), hL.2.1, nI_1]
    have g2 : jtp S1 (jput S1 t 7 (nI (pops L + 1))) t := ⟨⟨rfl, rfl, rfl, rfl⟩, fun y a _ => ji_put_ne _ _ _ _ a, fun j hj => by rw [ji_put, if_neg (by omega)]⟩
    have T2 := T1.tp g2
    have K2 : TKC (jput S1 t 7 (nI (pops L + 1))) t k := ⟨by rw [ji_put, if_neg (by omega), f1 2 (by omega)]; exact hK.1, by rw [ji_put, if_neg (by omega), f1 3 (by omega)]; exact hK.2.1, by rw [ji_put, if_neg (by omega), f1 4 (by omega)]; exact hK.2.2.1, by rw [ji_put, if_neg (by omega), f1 5 (by omega)]; exact hK.2.2.2⟩
    have C2 : CDC (jput S1 t 7 (nI (pops L + 1))) t (L ++ [popd b key k]) := by
      refine ⟨?_, ?_, fun i hi => ?_⟩
      · rw [ji_put, if_neg (by omega), e9, List.length_append]; rfl
      · rw [ji_put_same, pops_app]
        show _ = nI (pops L + ((if popd b key k < 20000 then 1 else 0) + 0))
        rw [if_pos w2]
      · rw [ji_put_ne _ _ _ _ (by omega), ← ew]
        exact r1 i (by rw [List.length_append] at hi; exact hi)
    exact c_X8_next T2 K2 ok (fun S3 g3 K3 => h1 hne S3 ((g1.trans g2).trans g3.tp) K3 (C2.ts g3))
  have bad : ∀ r : Int32, (popd b key k = 30000 ∨ (¬ k.2.2.2 = 1 ∧ r = nI (popd b key k))) → (r < 0 → popd b key k = 30000) → (popd b key k = 30000 → ¬ k.2.2.2 = 1 → r = -1) → (jk S t = 8 ∧ ((ji S t 5) = 0 → (0 ≤ r → jFv E mX8_write (d + 4) 0 0 [.ref t, .int r] S (fun S8 => jk S8 t = 8 ∧ jFv E mX8_step (d + 4) 0 0 [.ref t] (jput S8 t 7 ((ji S8 t 7) + 1)) (fun S10 => Q 1 S10))) ∧ (¬ 0 ≤ r → Q 0 S)) ∧ (¬ (ji S t 5) = 0 → Q 0 S)) := by
    intro r hr hneg hm1
    rw [n5]
    refine ⟨hT.1.1, fun c5 => ⟨fun c0 => ?_, fun c0 => h0 (hneg (Int32.not_le.mp c0))⟩, fun c5 => h0 ?_⟩
    · have e5 : ¬ k.2.2.2 = 1 := fun z => by rw [z] at c5; exact absurd c5 (by decide)
      by_cases hp : popd b key k = 30000
      · rw [hm1 hp e5] at c0; exact absurd c0 (by decide)
      · rcases hr with q | q
        · exact absurd q hp
        · rw [q.2]; exact put _ rfl hp
    · have e5 : k.2.2.2 = 1 := by
        rcases nb with q | q
        · rw [q] at c5; exact absurd rfl c5
        · exact q
      unfold popd; rw [if_pos e5]
  have s3 := ok.so
  refine T_X8_readsOperand ⟨hT.1.1, ?_⟩
  rw [hK.2.2.1]
  refine ⟨fun c2 => ?_, fun c2 => ?_⟩
  · have e2 : k.2.2.1 = 2 := nI_inj (b := 2) (by omega) (by omega) c2
    have ep : ¬ k.2.2.2 = 1 → popd b key k = if 4 < k.2.1 - k.1 then 30000 else pnum b (k.2.1 - k.1) k.1 0 := fun q => by unfold popd; rw [if_neg q, if_pos e2]
    refine c_X8_numberInHand hT hK ok e2 (fun q4 => bad (-1) (Or.inl ?_) (fun _ => ?_) (fun _ _ => rfl)) (fun q4 => bad _ ?_ (fun z => absurd z ?_) (fun z q => ?_))
    · by_cases q : k.2.2.2 = 1
      · unfold popd; rw [if_pos q]
      · rw [ep q, if_pos q4]
    · by_cases q : k.2.2.2 = 1
      · unfold popd; rw [if_pos q]
      · rw [ep q, if_pos q4]
    · by_cases q : k.2.2.2 = 1
      · exact Or.inl (by unfold popd; rw [if_pos q])
      · exact Or.inr ⟨q, by rw [ep q, if_neg q4]⟩
    · have hb := pnum_lt b (k.2.1 - k.1) k.1 0 0 (fun q q1 q2 => psrt_2 ((ok.2.2.2.2.2.2 q q1 (by omega)).trans e2)) (by decide)
      have hp : 10 ^ (0 + (k.2.1 - k.1)) ≤ 10 ^ 4 := Nat.pow_le_pow_right (by omega) (by omega)
      have e4 : (10 : Nat) ^ 4 = 10000 := by decide
      exact nI_pos (by omega)
    · rw [ep q, if_neg q4] at z
      have hb := pnum_lt b (k.2.1 - k.1) k.1 0 0 (fun q q1 q2 => psrt_2 ((ok.2.2.2.2.2.2 q q1 (by omega)).trans e2)) (by decide)
      have hp : 10 ^ (0 + (k.2.1 - k.1)) ≤ 10 ^ 4 := Nat.pow_le_pow_right (by omega) (by omega)
      have e4 : (10 : Nat) ^ 4 = 10000 := by decide
      omega
  · have e2 : ¬ k.2.2.1 = 2 := fun z => c2 (by rw [z]; rfl)
    have e1 : k.2.2.1 = 1 := by omega
    have ep : ¬ k.2.2.2 = 1 → popd b key k = if k.2.1 - k.1 = 1 then (if pnam key (b k.1) = 9 then 30000 else 10000 + pnam key (b k.1)) else 30000 := fun q => by unfold popd; rw [if_neg q, if_neg e2, if_pos e1]
    have p9 := pnam_le key (b k.1)
    refine c_X8_nameInHand hT hK ok hk h6 e1 (fun q4 => bad (-1) (Or.inl ?_) (fun _ => ?_) (fun _ _ => rfl)) (fun q4 q5 => bad _ ?_ (fun z => absurd z (nI_pos (by omega))) (fun z q => ?_))
    · by_cases q : k.2.2.2 = 1
      · unfold popd; rw [if_pos q]
      · rw [ep q]
        rcases q4 with q4 | q4
        · rw [if_neg q4]
        · by_cases q5 : k.2.1 - k.1 = 1
          · rw [if_pos q5, if_pos q4]
          · rw [if_neg q5]
    · by_cases q : k.2.2.2 = 1
      · unfold popd; rw [if_pos q]
      · rw [ep q]
        rcases q4 with q4 | q4
        · rw [if_neg q4]
        · by_cases q5 : k.2.1 - k.1 = 1
          · rw [if_pos q5, if_pos q4]
          · rw [if_neg q5]
    · by_cases q : k.2.2.2 = 1
      · exact Or.inl (by unfold popd; rw [if_pos q])
      · exact Or.inr ⟨q, by rw [ep q, if_pos q4, if_neg q5]⟩
    · rw [ep q, if_pos q4, if_neg q5] at z; omega
end jTape3
