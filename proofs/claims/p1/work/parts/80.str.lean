/-! THE SIX WORDS: rules for Strings that the program names, and what their methods answer -/
def sL (i : Nat) : Nat := ([4, 4, 4, 3, 2, 2] : List Nat).getD i 0
def sB (i j : Nat) : Int32 := (([[116, 101, 114, 109], [102, 97, 109, 101], [102, 105, 110, 101], [107, 103, 97], [102, 97], [99, 100]] : List (List Int32)).getD i []).getD j 0
section jStr2
variable {E : jEnv} {M M' : jMd} {R : Room} {Z : jZ} {pc : Nat} {lv lv1 : List (Nat × Value)} {st : List Value} {S : jM} {c k : Nat} {d mc ms n index : Nat} {As : List Value}
theorem jx_i2b {x : Int32} (hd : decode M.2.1 pc = .ok (.i2b, 1)) (h : jX E M R Z (pc + 1) lv (.int x.toInt8.toInt32 :: st) S c k) : jX E M R Z pc lv (.int x :: st) S c k := fun p e s m args below meth c0 hB H locs ls hV hS hl => lv_i2b hB.1 hB.2.1 hd rfl (h p e s m args below meth c0 hB H locs ls hV hS hl)
theorem jx_strC {i : Nat} (hM : M.1.cls = RJ0) (hi : i < 6) (hd : decode M.2.1 pc = .ok (.getfield 15, 3)) (h : jX E M R Z (pc + 3) lv (.int 0 :: st) S c k) : jX E M R Z pc lv (.ref (eK E i) :: st) S c k := by
  intro p e s m args below meth c0 hB H locs ls hV hS hl
  obtain ⟨-, -, -, -, h5, -⟩ := hB.hG
  obtain ⟨q1, q2, q3⟩ := hB.hq
  have h6 := (h5.1 i hi).2.1
  exact vk_getf (own := RJ0) (ref := RJ0) (index := 15) hB.hx hB.hb (h6.kept (fun a h9 h8 => q1 a (Nat.not_le.mp h8))) hS (by rw [← hM]; exact hB.hown) (hB.hts _ jwF_J0_15) (fun _ h9 => h9) hd (h p e s m args below meth c0 hB H locs ls hV hS hl)
theorem jx_strV {i : Nat} (hM : M.1.cls = RJ0) (hi : i < 6) (hd : decode M.2.1 pc = .ok (.getfield 9, 3)) (h : jX E M R Z (pc + 3) lv (.ref (eV E i) :: st) S c k) : jX E M R Z pc lv (.ref (eK E i) :: st) S c k := by
  intro p e s m args below meth c0 hB H locs ls hV hS hl
  obtain ⟨-, -, -, -, h5, -⟩ := hB.hG
  obtain ⟨q1, q2, q3⟩ := hB.hq
  have h6 := (h5.1 i hi).2.2.1
  exact vk_getf (own := RJ0) (ref := RJ0) (index := 9) hB.hx hB.hb (h6.kept (fun a h9 h8 => q1 a (Nat.not_le.mp h8))) hS (by rw [← hM]; exact hB.hown) (hB.hts _ jwF_J0_9) (fun _ h9 => h9) hd (h p e s m args below meth c0 hB H locs ls hV hS hl)
theorem jx_strLen {i : Nat} (hi : i < 6) (hd : decode M.2.1 pc = .ok (.arraylength, 1)) (h : jX E M R Z (pc + 1) lv (.int (nI (sL i)) :: st) S c k) : jX E M R Z pc lv (.ref (eV E i) :: st) S c k := by
  intro p e s m args below meth c0 hB H locs ls hV hS hl
  obtain ⟨-, -, -, -, h5, -⟩ := hB.hG
  obtain ⟨q1, q2, q3⟩ := hB.hq
  have h6 := (h5.1 i hi).2.2.2
  exact va_tlen hB.hx hB.hb (h6.kept (fun a h9 h8 => q1 a (Nat.not_le.mp h8))) hS (v := nI (sL i)) rfl hd (h p e s m args below meth c0 hB H locs ls hV hS hl)
theorem jx_strLd {i j : Nat} (hi : i < 6) (hj : j < sL i) (hd : decode M.2.1 pc = .ok (.baload, 1)) (h : jX E M R Z (pc + 1) lv (.int (sB i j) :: st) S c k) : jX E M R Z pc lv (.int (nI j) :: .ref (eV E i) :: st) S c k := by
  intro p e s m args below meth c0 hB H locs ls hV hS hl
  obtain ⟨-, -, -, -, h5, -⟩ := hB.hG
  obtain ⟨q1, q2, q3⟩ := hB.hq
  have h6 := (h5.1 i hi).2.2.2
  have l4 : ∀ i : Fin 6, sL i.val ≤ 4 := by decide +kernel
  have l5 : sL i ≤ 4 := l4 ⟨i, hi⟩
  have hj4 : j < 4 := Nat.lt_of_lt_of_le hj l5
  have hN : sL i < 2 ^ 31 := Nat.lt_of_le_of_lt l5 (by decide)
  exact va_tb hB.hx hB.hb (h6.kept (fun a h9 h8 => q1 a (Nat.not_le.mp h8))) hS (v := .int (sB i j)) (jin_nI hj hN) (by rw [jcl (by omega)]; rfl) hd (h p e s m args below meth c0 hB H locs ls hV hS hl)
theorem jx_compact (hM : M.1.cls = RJ0) (hd : decode M.2.1 pc = .ok (.getstatic 38, 3)) (h : jX E M R Z (pc + 3) lv (.int 1 :: st) S c k) : jX E M R Z pc lv st S c k := by
  intro p e s m args below meth c0 hB H locs ls hV hS hl
  obtain ⟨-, -, h3, -⟩ := hB.hG
  obtain ⟨q1, q2, q3⟩ := hB.hq
  exact va_gets (own := RJ0) (ref := RJ0) (index := 38) hB.hx hB.hb (h3.kept (fun a h9 h8 => q1 a (Nat.not_le.mp h8))) hS (by rw [← hM]; exact hB.hown) (hB.hts _ jwF_J0_38) (fun _ h9 => h9) hd (h p e s m args below meth c0 hB H locs ls hV hS hl)
theorem jx_sioobe (hM : M.1.cls = RJ0) (hd : decode M.2.1 pc = .ok (.getstatic 1053, 3)) (h : ∀ o : Option Nat, jX E M R Z (pc + 3) lv (va_rf o :: st) S c k) : jX E M R Z pc lv st S c k := by
  intro p e s m args below meth c0 hB H locs ls hV hS hl
  obtain ⟨-, -, -, h4, -⟩ := hB.hG
  obtain ⟨q1, q2, q3⟩ := hB.hq
  rcases h4.kept (fun a h9 h8 => q1 a (Nat.not_le.mp h8)) with h4 | ⟨t, h4⟩
  · exact va_gets (own := RJ0) (ref := RJ3) (index := 1053) hB.hx hB.hb h4 hS (by rw [← hM]; exact hB.hown) (hB.hts _ jwF_J0_1053) (fun _ h9 => h9) hd (h none p e s m args below meth c0 hB H locs ls hV hS hl)
  · exact va_gets (own := RJ0) (ref := RJ3) (index := 1053) hB.hx hB.hb h4 hS (by rw [← hM]; exact hB.hown) (hB.hts _ jwF_J0_1053) (fun _ h9 => h9) hd (h (some t) p e s m args below meth c0 hB H locs ls hV hS hl)
theorem jx_callK {Q' : Option Value → jM → Prop} {i : Nat} (ho : jMo M' n) (hi : i < 6) (hq : RJ0 = M'.1.cls) (w1 : Cond.methodLink M.1.cls index M'.1 ∈ jT) (w2 : Cond.instanceMethod M'.1 ∈ jT) (w3 : Cond.selects M'.1.cls M'.1 M'.1 ∈ jT) (hd : decode M.2.1 pc = .ok (.invokevirtual index, 3)) (hR : jRok R d) (hA : As.length = n) (hs : (st.map fun v => v.category).sum ≤ 8) (hm : c + mc ≤ R.cells ∧ k + ms ≤ R.slots)
    (hF : jF E M' d mc ms (.ref (eK E i) :: As) S Q') (h : ∀ (r : Option Value) (S' : jM), Q' r S' → jX E M R Z (pc + 3) lv (r.toList ++ st) S' (c + mc) (k + ms)) : jX E M R Z pc lv (As.reverse ++ .ref (eK E i) :: st) S c k := by
  intro p e s m args below meth c0 hB H locs ls hV hS hl
  have hx45 := ho.2.2.2.2.2
  have hR1 := hR.1
  have hR2 := hR.2
  obtain ⟨-, -, -, -, h5, -⟩ := hB.hG
  obtain ⟨q1, q2, q3⟩ := hB.hq
  refine jx_cont hB hS (va_runV (g := F0 m pc ls (As.reverse ++ .ref (eK E i) :: st)) (C := M'.1.cls) (Ts := jT) ⟨hB.hx, hB.hb, hB.hml, hB.hown, hB.hts⟩ hF ⟨callB_of n hB.hts (jGood ho) rfl rfl rfl (hB.hts _ ho.2.1) (hB.hts _ w1) ⟨ho.2.2.1, ho.2.2.2.1, ho.2.2.2.2.1⟩ ⟨hR1, by show 8 + (M'.2.2.1 + 11) + 64 * d ≤ R.locals; omega⟩, hB.hts _ w2, hB.hts _ w3⟩ ⟨jPre.blind, by rw [← hq]; exact vk_recv (h5.kept (fun a h9 h8 => q1 a (Nat.not_le.mp h8))) hi hS, fun U hU hW => ⟨rfl, by rw [hU]; exact hV, va_K.moved hW.alike hB.hK, hB.hG.warm hW⟩⟩ rfl hA hl.1 rfl (lv_room hs) hd hm) (fun r S' hq2 H1 locs1 hV1 hS1 => h r S' hq2 p e s m args below meth c0 hB H1 locs1 ls hV1 hS1 hl)
theorem jx_callKi {Q' : Int32 → jM → Prop} {i : Nat} (ho : jMo M' n) (hi : i < 6) (hq : RJ0 = M'.1.cls) (w1 : Cond.methodLink M.1.cls index M'.1 ∈ jT) (w2 : Cond.instanceMethod M'.1 ∈ jT) (w3 : Cond.selects M'.1.cls M'.1 M'.1 ∈ jT) (hd : decode M.2.1 pc = .ok (.invokevirtual index, 3)) (hR : jRok R d) (hA : As.length = n) (hs : (st.map fun v => v.category).sum ≤ 8) (hm : c + mc ≤ R.cells ∧ k + ms ≤ R.slots)
    (hF : jFi E M' d mc ms (.ref (eK E i) :: As) S Q') (h : ∀ (v : Int32) (S' : jM), Q' v S' → jX E M R Z (pc + 3) lv (.int v :: st) S' (c + mc) (k + ms)) : jX E M R Z pc lv (As.reverse ++ .ref (eK E i) :: st) S c k :=
  jx_callK ho hi hq w1 w2 w3 hd hR hA hs hm hF (fun r S' hr => by obtain ⟨v, rfl, h9⟩ := hr; exact h v S' h9)
end jStr2
section jStr3
variable {E : jEnv} {d : Nat} {S : jM} {i : Nat}
theorem c_J0_coder {Q : Int32 → jM → Prop} (hi : i < 6) (h : Q 0 S) : jFi E mJ0_coder_7d493 d 0 0 [.ref (eK E i)] S Q := by
  refine jF_of (by decide) (jle rfl) ?_
  refine jx_lv (lv1 := [(0, .ref (eK E i))]) [0] rfl ?_
  refine jx_compact rfl dJ0_coder_7d493_0 ?_
  refine jx_if_eq (tgt := 13) dJ0_coder_7d493_3 (by decide) (fun c => absurd c (by decide)) (fun _ => ?_)
  refine jx_aload_n 0 dJ0_coder_7d493_6 rfl rfl ?_
  refine jx_strC rfl hi dJ0_coder_7d493_7 ?_
  refine jx_goto (tgt := 14) dJ0_coder_7d493_10 (by decide) ?_
  exact jx_iret dJ0_coder_7d493_14 rfl (by decide) (jle rfl) (jle rfl) ⟨_, rfl, h⟩
theorem c_J0_isLatin1 {Q : Int32 → jM → Prop} (hi : i < 6) (h : Q 1 S) : jFi E mJ0_isLatin1_aae02 d 0 0 [.ref (eK E i)] S Q := by
  refine jF_of (by decide) (jle rfl) ?_
  refine jx_lv (lv1 := [(0, .ref (eK E i))]) [0] rfl ?_
  refine jx_compact rfl dJ0_isLatin1_aae02_0 ?_
  refine jx_if_eq (tgt := 17) dJ0_isLatin1_aae02_3 (by decide) (fun c => absurd c (by decide)) (fun _ => ?_)
  refine jx_aload_n 0 dJ0_isLatin1_aae02_6 rfl rfl ?_
  refine jx_strC rfl hi dJ0_isLatin1_aae02_7 ?_
  refine jx_if_ne (tgt := 17) dJ0_isLatin1_aae02_10 (by decide) (fun c => absurd rfl c) (fun _ => ?_)
  refine jx_iconst (v := 1) dJ0_isLatin1_aae02_13 (by decide) ?_
  refine jx_goto (tgt := 18) dJ0_isLatin1_aae02_14 (by decide) ?_
  exact jx_iret dJ0_isLatin1_aae02_18 rfl (by decide) (jle rfl) (jle rfl) ⟨_, rfl, h⟩
theorem sL_shr : ∀ i : Fin 6, nI (sL i.val) >>> ((0 : Int32) &&& 31) = nI (sL i.val) := by decide +kernel
theorem c_J0_length {Q : Int32 → jM → Prop} (hi : i < 6) (h : Q (nI (sL i)) S) : jFi E mJ0_length_8abf5 (d + 1) 0 0 [.ref (eK E i)] S Q := by
  refine jF_of (by decide) (jle rfl) ?_
  refine jx_lv (lv1 := [(0, .ref (eK E i))]) [0] rfl ?_
  refine jx_aload_n 0 dJ0_length_8abf5_0 rfl rfl ?_
  refine jx_strV rfl hi dJ0_length_8abf5_1 ?_
  refine jx_strLen hi dJ0_length_8abf5_4 ?_
  refine jx_aload_n 0 dJ0_length_8abf5_5 rfl rfl ?_
  refine jx_callKi (M' := mJ0_coder_7d493) (As := []) (Q' := fun r S' => r = 0 ∧ S' = S) jo_J0_coder_7d493 hi rfl jwM_J0_335 jwN_J0_coder_7d493 jwX_J0_coder_7d493 dJ0_length_8abf5_6 (jRok_m _ _ _) rfl (jle rfl) ⟨jle rfl, jle rfl⟩ (c_J0_coder hi ⟨rfl, rfl⟩) (fun r S' h1 => ?_)
  obtain ⟨rfl, rfl⟩ := h1
  refine jx_ishr dJ0_length_8abf5_9 ?_
  rw [sL_shr ⟨i, hi⟩]
  exact jx_iret dJ0_length_8abf5_10 rfl rfl (jle rfl) (jle rfl) ⟨_, rfl, h⟩
theorem c_J3_checkIndex {Q : Int32 → jM → Prop} {o : Option Nat} {x y : Int32} (h0 : ¬ x < 0) (h1 : x < y) (h : Q x S) : jFi E mJ3_checkIndex_8e157 d 0 0 [.int x, .int y, va_rf o] S Q := by
  refine jF_of (by decide) (by cases o <;> exact jle rfl) ?_
  refine jx_lv (lv1 := [(0, .int x), (1, .int y)]) [0, 1] (by cases o <;> rfl) ?_
  refine jx_iload_n 0 dJ3_checkIndex_8e157_0 rfl rfl ?_
  refine jx_if_lt (tgt := 9) dJ3_checkIndex_8e157_1 (by decide) (fun c => absurd c h0) (fun _ => ?_)
  refine jx_iload_n 0 dJ3_checkIndex_8e157_4 rfl rfl ?_
  refine jx_iload_n 1 dJ3_checkIndex_8e157_5 rfl rfl ?_
  refine jx_icmp_lt (tgt := 16) dJ3_checkIndex_8e157_6 (by decide) (fun _ => ?_) (fun c => absurd h1 c)
  refine jx_iload_n 0 dJ3_checkIndex_8e157_16 rfl rfl ?_
  exact jx_iret dJ3_checkIndex_8e157_17 rfl rfl (jle rfl) (jle rfl) ⟨_, rfl, h⟩
theorem c_J0_checkIndex {Q : jM → Prop} {x y : Int32} (h0 : ¬ x < 0) (h1 : x < y) (h : Q S) : jFv E mJ0_checkIndex_df160 (d + 1) 0 0 [.int x, .int y] S Q := by
  refine jF_of (by decide) (jle rfl) ?_
  refine jx_lv (lv1 := [(0, .int x), (1, .int y)]) [0, 1] rfl ?_
  refine jx_iload_n 0 dJ0_checkIndex_df160_0 rfl rfl ?_
  refine jx_iload_n 1 dJ0_checkIndex_df160_1 rfl rfl ?_
  refine jx_sioobe rfl dJ0_checkIndex_df160_2 (fun o => ?_)
  refine jx_callSi (M' := mJ3_checkIndex_8e157) (As := [.int x, .int y, va_rf o]) (Q' := fun _ S' => S' = S) jo_J3_checkIndex_8e157 jwM_J0_1059 jwS_J3_checkIndex_8e157 dJ0_checkIndex_df160_5 (jRok_m _ _ _) rfl (jle rfl) ⟨jle rfl, jle rfl⟩ (c_J3_checkIndex h0 h1 rfl) (fun r S' e => ?_)
  subst e
  refine jx_pop dJ0_checkIndex_df160_8 rfl ?_
  exact jx_vret dJ0_checkIndex_df160_9 rfl (jle rfl) (jle rfl) ⟨rfl, h⟩
theorem sB_chr : ∀ i : Fin 6, ∀ j : Fin 4, ((sB i.val j.val &&& 255).toUInt32 % 65536).toInt32 = sB i.val j.val ∧ narrow .char (.int (sB i.val j.val)) = .int (sB i.val j.val) := by decide +kernel
theorem sL_4 (hi : i < 6) : sL i ≤ 4 := by
  have l4 : ∀ i : Fin 6, sL i.val ≤ 4 := by decide +kernel
  exact l4 ⟨i, hi⟩
theorem c_J1_charAt {Q : Int32 → jM → Prop} {j : Nat} (hi : i < 6) (hj : j < sL i) (h : Q (sB i j) S) : jFi E mJ1_charAt_3b067 (d + 2) 0 0 [.ref (eV E i), .int (nI j)] S Q := by
  have j4 : j < 4 := Nat.lt_of_lt_of_le hj (sL_4 hi)
  have l4 := sL_4 hi
  refine jF_of (by decide) (jle rfl) ?_
  refine jx_lv (lv1 := [(0, .ref (eV E i)), (1, .int (nI j))]) [0, 1] rfl ?_
  refine jx_iload_n 1 dJ1_charAt_3b067_0 rfl rfl ?_
  refine jx_aload_n 0 dJ1_charAt_3b067_1 rfl rfl ?_
  refine jx_strLen hi dJ1_charAt_3b067_2 ?_
  refine jx_callSv (M' := mJ0_checkIndex_df160) (As := [.int (nI j), .int (nI (sL i))]) (Q' := fun S' => S' = S) jo_J0_checkIndex_df160 jwM_J1_9 jwS_J0_checkIndex_df160 dJ1_charAt_3b067_3 (jRok_m _ _ _) rfl (jle rfl) ⟨jle rfl, jle rfl⟩ (c_J0_checkIndex (nI_pos (by omega)) (nI_lt hj (by omega)) rfl) (fun S' e => ?_)
  subst e
  refine jx_aload_n 0 dJ1_charAt_3b067_6 rfl rfl ?_
  refine jx_iload_n 1 dJ1_charAt_3b067_7 rfl rfl ?_
  refine jx_strLd hi hj dJ1_charAt_3b067_8 ?_
  refine jx_sipush (v := 255) dJ1_charAt_3b067_9 (by decide) ?_
  refine jx_iand dJ1_charAt_3b067_12 ?_
  refine jx_i2c dJ1_charAt_3b067_13 ?_
  rw [(sB_chr ⟨i, hi⟩ ⟨j, j4⟩).1]
  exact jx_iret dJ1_charAt_3b067_14 rfl (sB_chr ⟨i, hi⟩ ⟨j, j4⟩).2 (jle rfl) (jle rfl) ⟨_, rfl, h⟩
theorem c_J0_charAt {Q : Int32 → jM → Prop} {j : Nat} (hi : i < 6) (hj : j < sL i) (h : Q (sB i j) S) : jFi E mJ0_charAt_5068e (d + 3) 0 0 [.ref (eK E i), .int (nI j)] S Q := by
  have j4 : j < 4 := Nat.lt_of_lt_of_le hj (sL_4 hi)
  refine jF_of (by decide) (jle rfl) ?_
  refine jx_lv (lv1 := [(0, .ref (eK E i)), (1, .int (nI j))]) [0, 1] rfl ?_
  refine jx_aload_n 0 dJ0_charAt_5068e_0 rfl rfl ?_
  refine jx_callKi (M' := mJ0_isLatin1_aae02) (As := []) (Q' := fun r S' => r = 1 ∧ S' = S) jo_J0_isLatin1_aae02 hi rfl jwM_J0_492 jwN_J0_isLatin1_aae02 jwX_J0_isLatin1_aae02 dJ0_charAt_5068e_1 (jRok_m _ _ _) rfl (jle rfl) ⟨jle rfl, jle rfl⟩ (c_J0_isLatin1 hi ⟨rfl, rfl⟩) (fun r S' h1 => ?_)
  obtain ⟨rfl, rfl⟩ := h1
  refine jx_if_eq (tgt := 16) dJ0_charAt_5068e_4 (by decide) (fun c => absurd c (by decide)) (fun _ => ?_)
  refine jx_aload_n 0 dJ0_charAt_5068e_7 rfl rfl ?_
  refine jx_strV rfl hi dJ0_charAt_5068e_8 ?_
  refine jx_iload_n 1 dJ0_charAt_5068e_11 rfl rfl ?_
  refine jx_callSi (M' := mJ1_charAt_3b067) (As := [.ref (eV E i), .int (nI j)]) (Q' := fun r S1 => r = sB i j ∧ S1 = S') jo_J1_charAt_3b067 jwM_J0_495 jwS_J1_charAt_3b067 dJ0_charAt_5068e_12 (jRok_m _ _ _) rfl (jle rfl) ⟨jle rfl, jle rfl⟩ (c_J1_charAt hi hj ⟨rfl, rfl⟩) (fun r S1 h1 => ?_)
  obtain ⟨rfl, rfl⟩ := h1
  exact jx_iret dJ0_charAt_5068e_15 rfl (sB_chr ⟨i, hi⟩ ⟨j, j4⟩).2 (jle rfl) (jle rfl) ⟨_, rfl, h⟩
/-! indexOf -/
/-- the first place of a byte in a word, from place j on -/
def sIx (i : Nat) (y : Int32) : Nat → Nat → Int32
  | 0, _ => -1
  | n + 1, j => if sB i j = y then nI j else sIx i y n (j + 1)
theorem c_J1_indexOfChar {Q : Int32 → jM → Prop} {y : Int32} (hi : i < 6) (h : Q (sIx i y.toInt8.toInt32 (sL i) 0) S) : jFi E mJ1_indexOfChar_4cfef d 0 0 [.ref (eV E i), .int y, .int 0, .int (nI (sL i))] S Q := by
  have l4 := sL_4 hi
  have loop : ∀ (n j : Nat), j + n = sL i → Q (sIx i y.toInt8.toInt32 n j) S → jX E mJ1_indexOfChar_4cfef (jRm d 0 0) (jZm E (fun r S' => ∃ v : Int32, r = some (.int v) ∧ Q v S') 0 0) 7 [(5, .int (nI j)), (4, .int y.toInt8.toInt32), (0, .ref (eV E i)), (3, .int (nI (sL i)))] [] S 0 0 := by
    intro n
    induction n with
    | zero =>
      intro j hj hq
      obtain rfl : j = sL i := by omega
      refine jx_iload 0 dJ1_indexOfChar_4cfef_7 rfl ?_
      refine jx_iload_n 3 dJ1_indexOfChar_4cfef_9 rfl rfl ?_
      refine jx_icmp_ge (tgt := 31) dJ1_indexOfChar_4cfef_10 (by decide) (fun _ => ?_) (fun c => absurd Int32.le_rfl c)
      refine jx_iconst (v := -1) dJ1_indexOfChar_4cfef_31 (by decide) ?_
      exact jx_iret dJ1_indexOfChar_4cfef_32 rfl rfl (jle rfl) (jle rfl) ⟨_, rfl, hq⟩
    | succ n ih =>
      intro j hj hq
      refine jx_iload 0 dJ1_indexOfChar_4cfef_7 rfl ?_
      refine jx_iload_n 3 dJ1_indexOfChar_4cfef_9 rfl rfl ?_
      refine jx_icmp_ge (tgt := 31) dJ1_indexOfChar_4cfef_10 (by decide) (fun c => absurd c (nI_ge (by omega) (by omega))) (fun _ => ?_)
      refine jx_aload_n 2 dJ1_indexOfChar_4cfef_13 rfl rfl ?_
      refine jx_iload 0 dJ1_indexOfChar_4cfef_14 rfl ?_
      refine jx_strLd hi (by omega) dJ1_indexOfChar_4cfef_16 ?_
      refine jx_iload 1 dJ1_indexOfChar_4cfef_17 rfl ?_
      refine jx_icmp_ne (tgt := 25) dJ1_indexOfChar_4cfef_19 (by decide) (fun c => ?_) (fun c => ?_)
      · refine jx_iinc 0 (v := nI (j + 1)) (lv1 := [(5, .int (nI (j + 1))), (4, .int y.toInt8.toInt32), (0, .ref (eV E i)), (3, .int (nI (sL i)))]) dJ1_indexOfChar_4cfef_25 rfl (nI_1 j) (by decide) rfl ?_
        refine jx_goto (tgt := 7) dJ1_indexOfChar_4cfef_28 (by decide) ?_
        refine ih (j + 1) (by omega) ?_
        have e : sIx i y.toInt8.toInt32 (n + 1) j = sIx i y.toInt8.toInt32 n (j + 1) := if_neg c
        rw [← e]; exact hq
      · refine jx_iload 0 dJ1_indexOfChar_4cfef_22 rfl ?_
        have e : sIx i y.toInt8.toInt32 (n + 1) j = nI j := if_pos c
        rw [e] at hq
        exact jx_iret dJ1_indexOfChar_4cfef_24 rfl rfl (jle rfl) (jle rfl) ⟨_, rfl, hq⟩
  refine jF_of (by decide) (jle rfl) ?_
  refine jx_lv (lv1 := [(0, .ref (eV E i)), (1, .int y), (2, .int 0), (3, .int (nI (sL i)))]) [0, 1, 2, 3] rfl ?_
  refine jx_iload_n 1 dJ1_indexOfChar_4cfef_0 rfl rfl ?_
  refine jx_i2b dJ1_indexOfChar_4cfef_1 ?_
  refine jx_istore (lv1 := [(4, .int y.toInt8.toInt32), (0, .ref (eV E i)), (1, .int y), (2, .int 0), (3, .int (nI (sL i)))]) dJ1_indexOfChar_4cfef_2 (by decide) rfl ?_
  refine jx_iload_n 3 dJ1_indexOfChar_4cfef_4 rfl rfl ?_
  refine jx_istore (lv1 := [(5, .int 0), (4, .int y.toInt8.toInt32), (0, .ref (eV E i)), (1, .int y), (2, .int 0), (3, .int (nI (sL i)))]) dJ1_indexOfChar_4cfef_5 (by decide) rfl ?_
  refine jx_lv (lv1 := [(5, .int (nI 0)), (4, .int y.toInt8.toInt32), (0, .ref (eV E i)), (3, .int (nI (sL i)))]) [0, 1, 2, 5] rfl ?_
  exact loop (sL i) 0 (by omega) h
theorem c_J1_canEncode {Q : Int32 → jM → Prop} {y : Int32} (h0 : ¬ y < 0) (h1 : ¬ 255 < y) (h : Q 1 S) : jFi E mJ1_canEncode_9a6ad d 0 0 [.int y] S Q := by
  refine jF_of (by decide) (jle rfl) ?_
  refine jx_lv (lv1 := [(0, .int y)]) [0] rfl ?_
  refine jx_iload_n 0 dJ1_canEncode_9a6ad_0 rfl rfl ?_
  refine jx_if_lt (tgt := 15) dJ1_canEncode_9a6ad_1 (by decide) (fun c => absurd c h0) (fun _ => ?_)
  refine jx_iload_n 0 dJ1_canEncode_9a6ad_4 rfl rfl ?_
  refine jx_sipush (v := 255) dJ1_canEncode_9a6ad_5 (by decide) ?_
  refine jx_icmp_gt (tgt := 15) dJ1_canEncode_9a6ad_8 (by decide) (fun c => absurd c h1) (fun _ => ?_)
  refine jx_iconst (v := 1) dJ1_canEncode_9a6ad_11 (by decide) ?_
  refine jx_goto (tgt := 16) dJ1_canEncode_9a6ad_12 (by decide) ?_
  exact jx_iret dJ1_canEncode_9a6ad_16 rfl (by decide) (jle rfl) (jle rfl) ⟨_, rfl, h⟩
theorem sL_mn : ∀ i : Fin 6, (if nI (sL i.val) < nI (sL i.val) then nI (sL i.val) else nI (sL i.val)) = nI (sL i.val) ∧ 0 < sL i.val := by decide +kernel
theorem c_J1_indexOf {Q : Int32 → jM → Prop} {y : Int32} (hi : i < 6) (h0 : ¬ y < 0) (h1 : ¬ 255 < y) (h : Q (sIx i y.toInt8.toInt32 (sL i) 0) S) : jFi E mJ1_indexOf_4cfef (d + 1) 0 0 [.ref (eV E i), .int y, .int 0, .int (nI (sL i))] S Q := by
  have l4 := sL_4 hi
  have lp : 0 < sL i := (sL_mn ⟨i, hi⟩).2
  refine jF_of (by decide) (jle rfl) ?_
  refine jx_lv (lv1 := [(0, .ref (eV E i)), (1, .int y), (2, .int 0), (3, .int (nI (sL i)))]) [0, 1, 2, 3] rfl ?_
  refine jx_iload_n 1 dJ1_indexOf_4cfef_0 rfl rfl ?_
  refine jx_callSi (M' := mJ1_canEncode_9a6ad) (As := [.int y]) (Q' := fun r S' => r = 1 ∧ S' = S) jo_J1_canEncode_9a6ad jwM_J1_88 jwS_J1_canEncode_9a6ad dJ1_indexOf_4cfef_1 (jRok_m _ _ _) rfl (jle rfl) ⟨jle rfl, jle rfl⟩ (c_J1_canEncode h0 h1 ⟨rfl, rfl⟩) (fun r S' e => ?_)
  obtain ⟨rfl, rfl⟩ := e
  refine jx_if_ne (tgt := 9) dJ1_indexOf_4cfef_4 (by decide) (fun _ => ?_) (fun c => absurd c (by decide))
  refine jx_iload_n 2 dJ1_indexOf_4cfef_9 rfl rfl ?_
  refine jx_iconst (v := 0) dJ1_indexOf_4cfef_10 (by decide) ?_
  refine jx_max jwM_J1_92 jwS_max jwZ_J9 jwO_max dJ1_indexOf_4cfef_11 (jRok_m _ _ _) (jle rfl) ⟨Nat.zero_le _, Nat.zero_le _⟩ ?_
  refine jx_istore_n (lv1 := [(2, .int 0), (0, .ref (eV E i)), (1, .int y), (3, .int (nI (sL i)))]) dJ1_indexOf_4cfef_14 rfl (by decide) rfl ?_
  refine jx_iload_n 3 dJ1_indexOf_4cfef_15 rfl rfl ?_
  refine jx_aload_n 1 dJ1_indexOf_4cfef_16 rfl rfl ?_
  refine jx_strLen hi dJ1_indexOf_4cfef_17 ?_
  refine jx_min jwM_J1_38 jwS_min jwZ_J9 jwO_min dJ1_indexOf_4cfef_18 (jRok_m _ _ _) (jle rfl) ⟨Nat.zero_le _, Nat.zero_le _⟩ ?_
  rw [(sL_mn ⟨i, hi⟩).1]
  refine jx_istore_n (lv1 := [(3, .int (nI (sL i))), (2, .int 0), (0, .ref (eV E i)), (1, .int y)]) dJ1_indexOf_4cfef_21 rfl (by decide) rfl ?_
  refine jx_iload_n 1 dJ1_indexOf_4cfef_22 rfl rfl ?_
  refine jx_iload_n 0 dJ1_indexOf_4cfef_23 rfl rfl ?_
  refine jx_icmp_lt (tgt := 29) dJ1_indexOf_4cfef_24 (by decide) (fun _ => ?_) (fun c => absurd (nI_lt (a := 0) lp (by omega)) c)
  refine jx_aload_n 2 dJ1_indexOf_4cfef_29 rfl rfl ?_
  refine jx_iload_n 3 dJ1_indexOf_4cfef_30 rfl rfl ?_
  refine jx_iload_n 1 dJ1_indexOf_4cfef_31 rfl rfl ?_
  refine jx_iload_n 0 dJ1_indexOf_4cfef_32 rfl rfl ?_
  refine jx_callSi (M' := mJ1_indexOfChar_4cfef) (As := [.ref (eV E i), .int y, .int 0, .int (nI (sL i))]) (Q' := fun r S1 => Q r S1) jo_J1_indexOfChar_4cfef jwM_J1_95 jwS_J1_indexOfChar_4cfef dJ1_indexOf_4cfef_33 (jRok_m _ _ _) rfl (jle rfl) ⟨jle rfl, jle rfl⟩ (c_J1_indexOfChar hi h) (fun r S1 h1 => ?_)
  exact jx_iret dJ1_indexOf_4cfef_36 rfl rfl (jle rfl) (jle rfl) ⟨_, rfl, h1⟩
theorem c_J0_indexOf2 {Q : Int32 → jM → Prop} {y : Int32} (hi : i < 6) (h0 : ¬ y < 0) (h1 : ¬ 255 < y) (h : Q (sIx i y.toInt8.toInt32 (sL i) 0) S) : jFi E mJ0_indexOf_7cf53 (d + 2) 0 0 [.ref (eK E i), .int y, .int 0] S Q := by
  refine jF_of (by decide) (jle rfl) ?_
  refine jx_lv (lv1 := [(0, .ref (eK E i)), (1, .int y), (2, .int 0)]) [0, 1, 2] rfl ?_
  refine jx_aload_n 0 dJ0_indexOf_7cf53_0 rfl rfl ?_
  refine jx_callKi (M' := mJ0_isLatin1_aae02) (As := []) (Q' := fun r S' => r = 1 ∧ S' = S) jo_J0_isLatin1_aae02 hi rfl jwM_J0_492 jwN_J0_isLatin1_aae02 jwX_J0_isLatin1_aae02 dJ0_indexOf_7cf53_1 (jRok_m _ _ _) rfl (jle rfl) ⟨jle rfl, jle rfl⟩ (c_J0_isLatin1 hi ⟨rfl, rfl⟩) (fun r S' e => ?_)
  obtain ⟨rfl, rfl⟩ := e
  refine jx_if_eq (tgt := 23) dJ0_indexOf_7cf53_4 (by decide) (fun c => absurd c (by decide)) (fun _ => ?_)
  refine jx_aload_n 0 dJ0_indexOf_7cf53_7 rfl rfl ?_
  refine jx_strV rfl hi dJ0_indexOf_7cf53_8 ?_
  refine jx_iload_n 1 dJ0_indexOf_7cf53_11 rfl rfl ?_
  refine jx_iload_n 2 dJ0_indexOf_7cf53_12 rfl rfl ?_
  refine jx_aload_n 0 dJ0_indexOf_7cf53_13 rfl rfl ?_
  refine jx_callKi (M' := mJ0_length_8abf5) (As := []) (Q' := fun r S1 => r = nI (sL i) ∧ S1 = S') jo_J0_length_8abf5 hi rfl jwM_J0_505 jwN_J0_length_8abf5 jwX_J0_length_8abf5 dJ0_indexOf_7cf53_14 (jRok_m _ _ _) rfl (jle rfl) ⟨jle rfl, jle rfl⟩ (c_J0_length hi ⟨rfl, rfl⟩) (fun r S1 e => ?_)
  obtain ⟨rfl, rfl⟩ := e
  refine jx_callSi (M' := mJ1_indexOf_4cfef) (As := [.ref (eV E i), .int y, .int 0, .int (nI (sL i))]) (Q' := fun r S1 => Q r S1) jo_J1_indexOf_4cfef jwM_J0_637 jwS_J1_indexOf_4cfef dJ0_indexOf_7cf53_17 (jRok_m _ _ _) rfl (jle rfl) ⟨jle rfl, jle rfl⟩ (c_J1_indexOf hi h0 h1 h) (fun r S2 h2 => ?_)
  refine jx_goto (tgt := 36) dJ0_indexOf_7cf53_20 (by decide) ?_
  exact jx_iret dJ0_indexOf_7cf53_36 rfl rfl (jle rfl) (jle rfl) ⟨_, rfl, h2⟩
theorem c_J0_indexOf {Q : Int32 → jM → Prop} {y : Int32} (hi : i < 6) (h0 : ¬ y < 0) (h1 : ¬ 255 < y) (h : Q (sIx i y.toInt8.toInt32 (sL i) 0) S) : jFi E mJ0_indexOf_0f7a4 (d + 3) 0 0 [.ref (eK E i), .int y] S Q := by
  refine jF_of (by decide) (jle rfl) ?_
  refine jx_lv (lv1 := [(0, .ref (eK E i)), (1, .int y)]) [0, 1] rfl ?_
  refine jx_aload_n 0 dJ0_indexOf_0f7a4_0 rfl rfl ?_
  refine jx_iload_n 1 dJ0_indexOf_0f7a4_1 rfl rfl ?_
  refine jx_iconst (v := 0) dJ0_indexOf_0f7a4_2 (by decide) ?_
  refine jx_callKi (M' := mJ0_indexOf_7cf53) (As := [.int y, .int 0]) (Q' := fun r S' => Q r S') jo_J0_indexOf_7cf53 hi rfl jwM_J0_633 jwN_J0_indexOf_7cf53 jwX_J0_indexOf_7cf53 dJ0_indexOf_0f7a4_3 (jRok_m _ _ _) rfl (jle rfl) ⟨jle rfl, jle rfl⟩ (c_J0_indexOf2 hi h0 h1 h) (fun r S' e => ?_)
  exact jx_iret dJ0_indexOf_0f7a4_6 rfl rfl (jle rfl) (jle rfl) ⟨_, rfl, e⟩
end jStr3
