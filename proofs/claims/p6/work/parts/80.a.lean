section
/-! THE SIX WORDS: rules for Strings that the program names, and what their methods answer -/
def sL (i : Nat) : Nat := ([4, 4, 4, 3, 2, 2] : List Nat).getD i 0
def sB (i j : Nat) : Int32 := (([[116, 101, 114, 109], [102, 97, 109, 101], [102, 105, 110, 101], [107, 103, 97], [102, 97], [99, 100]] : List (List Int32)).getD i []).getD j 0
section jStr2
variable {E : jEnv} {M M' : jMd} {R : Room} {Z : jZ} {pc : Nat} {lv lv1 : List (Nat × Value)} {st : List Value} {S : jM} {c k : Nat} {d mc ms n index : Nat} {As : List Value}
theorem jx_i2b {x : Int32} (hd : decode M.2.1 pc = .ok (.i2b, 1)) (h : jX E M R Z (pc + 1) lv (.int x.toInt8.toInt32 :: st) S c k) : jX E M R Z pc lv (.int x :: st) S c k := fun p e s m args below meth c0 hB H locs ls hV hS hl => lv_i2b hB.1 hB.2.1 hd rfl (h p e s m args below meth c0 hB H locs ls hV hS hl)
theorem jx_strC {i : Nat} (hM : M.1.cls = RJ0) (hi : i < 6) (hd : decode M.2.1 pc = .ok (.getfield 15, 3)) (h : jX E M R Z (pc + 3) lv (.int 0 :: st) S c k) : jX E M R Z pc lv (.ref (eK E i) :: st) S c k := by
  intro p e s m args below meth c0 hB H locs ls hV hS hl
  obtain ⟨-, -, -, -, h5, -⟩ := hB.hG
  obtain ⟨q1, q2, q3⟩ := hB.hq
  have h6 := (h5.1 i hi).2.1
  exact vk_getf (own := RJ0) (ref := RJ0) (index := 15) hB.hx hB.hb (h6.kept (fun a h9 h8 => q1 a (Nat.not_le.mp h8))) hS (by rw [← hM]; exact hB.hown) (hB.hts _ jwF_J0_15) (fun _ h9 => h9) hd (h p e s m args below meth c0 hB H locs ls hV hS hl)
theorem jx_strV {i : Nat} (hM : M.1.cls = RJ0) (hi : i < 6) (hd : decode M.2.1 pc = .ok (.getfield 9, 3)) (h : jX E M R Z (pc + 3) lv (.ref (eV E i) :: st) S c k) : jX E M R Z pc lv (.ref (eK E i) :: st) S c k := by
  intro p e s m args below meth c0 hB H locs ls hV hS hl
  obtain ⟨-, -, -, -, h5, -⟩ := hB.hG
  obtain ⟨q1, q2, q3⟩ := hB.hq
  have h6 := (h5.1 i hi).2.2.1
  exact vk_getf (own := RJ0) (ref := RJ0) (index := 9) hB.hx hB.hb (h6.kept (fun a h9 h8 => q1 a (Nat.not_le.mp h8))) hS (by rw [← hM]; exact hB.hown) (hB.hts _ jwF_J0_9) (fun _ h9 => h9) hd (h p e s m args below meth c0 hB H locs ls hV hS hl)
theorem jx_strLen {i : Nat} (hi : i < 6) (hd : decode M.2.1 pc = .ok (.arraylength, 1)) (h : jX E M R Z (pc + 1) lv (.int (nI (sL i)) :: st) S c k) : jX E M R Z pc lv (.ref (eV E i) :: st) S c k := by
  intro p e s m args below meth c0 hB H locs ls hV hS hl
  obtain ⟨-, -, -, -, h5, -⟩ := hB.hG
  obtain ⟨q1, q2, q3⟩ := hB.hq
  have h6 := (h5.1 i hi).2.2.2
  exact va_tlen hB.hx hB.hb (h6.kept (fun a h9 h8 => q1 a (Nat.not_le.mp h8))) hS (v := nI (sL i)) rfl hd (h p e s m args below meth c0 hB H locs ls hV hS hl)
theorem jx_strLd {i j : Nat} (hi : i < 6) (hj : j < sL i) (hd : decode M.2.1 pc = .ok (.baload, 1)) (h : jX E M R Z (pc + 1) lv (.int (sB i j) :: st) S c k) : jX E M R Z pc lv (.int (nI j) :: .ref (eV E i) :: st) S c k := by
  intro p e s m args below meth c0 hB H locs ls hV hS hl
  obtain ⟨-, -, -, -, h5, -⟩ := hB.hG
  obtain ⟨q1, q2, q3⟩ := hB.hq
  have h6 := (h5.1 i hi).2.2.2
  have l4 : ∀ i : Fin 6, sL i.val ≤ 4 := by decide
  have l5 : sL i ≤ 4 := l4 ⟨i, hi⟩
  have hj4 : j < 4 := Nat.lt_of_lt_of_le hj l5
  have hN : sL i < 2 ^ 31 := Nat.lt_of_le_of_lt l5 (by decide)
  exact va_tb hB.hx hB.hb (h6.kept (fun a h9 h8 => q1 a (Nat.not_le.mp h8))) hS (v := .int (sB i j)) (jin_nI hj hN) (by rw [jcl (by omega)]; rfl) hd (h p e s m args below meth c0 hB H locs ls hV hS hl)
theorem jx_compact (hM : M.1.cls = RJ0) (hd : decode M.2.1 pc = .ok (.getstatic 38, 3)) (h : jX E M R Z (pc + 3) lv (.int 1 :: st) S c k) : jX E M R Z pc lv st S c k := by
  intro p e s m args below meth c0 hB H locs ls hV hS hl
  obtain ⟨-, -, h3, -⟩ := hB.hG
  obtain ⟨q1, q2, q3⟩ := hB.hq
  exact va_gets (own := RJ0) (ref := RJ0) (index := 38) hB.hx hB.hb (h3.kept (fun a h9 h8 => q1 a (Nat.not_le.mp h8))) hS (by rw [← hM]; exact hB.hown) (hB.hts _ jwF_J0_38) (fun _ h9 => h9) hd (h p e s m args below meth c0 hB H locs ls hV hS hl)
theorem jx_sioobe (hM : M.1.cls = RJ0) (hd : decode M.2.1 pc = .ok (.getstatic 1053, 3)) (h : ∀ o : Option Nat, jX E M R Z (pc + 3) lv (va_rf o :: st) S c k) : jX E M R Z pc lv st S c k := by
  intro p e s m args below meth c0 hB H locs ls hV hS hl
  obtain ⟨-, -, -, h4, -⟩ := hB.hG
  obtain ⟨q1, q2, q3⟩ := hB.hq
  rcases h4.kept (fun a h9 h8 => q1 a (Nat.not_le.mp h8)) with h4 | ⟨t, h4⟩
  · exact va_gets (own := RJ0) (ref := RJ3) (index := 1053) hB.hx hB.hb h4 hS (by rw [← hM]; exact hB.hown) (hB.hts _ jwF_J0_1053) (fun _ h9 => h9) hd (h none p e s m args below meth c0 hB H locs ls hV hS hl)
  · exact va_gets (own := RJ0) (ref := RJ3) (index := 1053) hB.hx hB.hb h4 hS (by rw [← hM]; exact hB.hown) (hB.hts _ jwF_J0_1053) (fun _ h9 => h9) hd (h (some t) p e s m args below meth c0 hB H locs ls hV hS hl)
theorem jx_callK {Q' : Option Value → jM → Prop} {i : Nat} (ho : jMo M' n) (hi : i < 6) (hq : RJ0 = M'.1.cls) (w1 : Cond.methodLink M.1.cls index M'.1 ∈ jT) (w2 : Cond.instanceMethod M'.1 ∈ jT) (w3 : Cond.selects M'.1.cls M'.1 M'.1 ∈ jT) (hd : decode M.2.1 pc = .ok (.invokevirtual index, 3)) (hR : jRok R d) (hA : As.length = n) (hs : (st.map fun v => v.category).sum ≤ 8) (hm : c + mc ≤ R.cells ∧ k + ms ≤ R.slots)
    (hF : jF E M' d mc ms (.ref (eK E i) :: As) S Q') (h : ∀ (r : Option Value) (S' : jM), Q' r S' → jX E M R Z (pc + 3) lv (r.toList ++ st) S' (c + mc) (k + ms)) : jX E M R Z pc lv (As.reverse ++ .ref (eK E i) :: st) S c k := by
  intro p e s m args below meth c0 hB H locs ls hV hS hl
  have hx45 := ho.2.2.2.2.2
  have hR1 := hR.1
  have hR2 := hR.2
  obtain ⟨-, -, -, -, h5, -⟩ := hB.hG
  obtain ⟨q1, q2, q3⟩ := hB.hq
  refine jx_cont hB hS (va_runV (g := F0 m pc ls (As.reverse ++ .ref (eK E i) :: st)) (C := M'.1.cls) (Ts := jT) ⟨hB.hx, hB.hb, hB.hml, hB.hown, hB.hts⟩ hF ⟨callB_of n hB.hts (jGood ho) rfl rfl rfl (hB.hts _ ho.2.1) (hB.hts _ w1) ⟨ho.2.2.1, ho.2.2.2.1, ho.2.2.2.2.1⟩ ⟨hR1, by show 8 + (M'.2.2.1 + 11) + 64 * d ≤ R.locals; omega⟩, hB.hts _ w2, hB.hts _ w3⟩ ⟨jPre.blind, by rw [← hq]; exact vk_recv (h5.kept (fun a h9 h8 => q1 a (Nat.not_le.mp h8))) hi hS, fun U hU hW => ⟨rfl, by rw [hU]; exact hV, va_K.moved hW.alike hB.hK, hB.hG.warm hW⟩⟩ rfl hA hl.1 rfl (lv_room hs) hd hm) (fun r S' hq2 H1 locs1 hV1 hS1 => h r S' hq2 p e s m args below meth c0 hB H1 locs1 ls hV1 hS1 hl)
theorem jx_callKi {Q' : Int32 → jM → Prop} {i : Nat} (ho : jMo M' n) (hi : i < 6) (hq : RJ0 = M'.1.cls) (w1 : Cond.methodLink M.1.cls index M'.1 ∈ jT) (w2 : Cond.instanceMethod M'.1 ∈ jT) (w3 : Cond.selects M'.1.cls M'.1 M'.1 ∈ jT) (hd : decode M.2.1 pc = .ok (.invokevirtual index, 3)) (hR : jRok R d) (hA : As.length = n) (hs : (st.map fun v => v.category).sum ≤ 8) (hm : c + mc ≤ R.cells ∧ k + ms ≤ R.slots)
    (hF : jFi E M' d mc ms (.ref (eK E i) :: As) S Q') (h : ∀ (v : Int32) (S' : jM), Q' v S' → jX E M R Z (pc + 3) lv (.int v :: st) S' (c + mc) (k + ms)) : jX E M R Z pc lv (As.reverse ++ .ref (eK E i) :: st) S c k :=
  jx_callK ho hi hq w1 w2 w3 hd hR hA hs hm hF (fun r S' hr => by obtain ⟨v, rfl, h9⟩ := hr; exact h v S' h9)
end jStr2
section jStr3
variable {E : jEnv} {d : Nat} {S : jM} {i : Nat}
theorem c_J0_coder {Q : Int32 → jM → Prop} (hi : i < 6) (h : Q 0 S) : jFi E mJ0_coder_7d493 d 0 0 [.ref (eK E i)] S Q := by
  refine jF_of (by decide) (jle rfl) ?_
  refine jx_lv (lv1 := [(0, .ref (eK E i))]) [0] rfl ?_
  refine jx_compact rfl kd656.1 ?_
  refine jx_if_eq (tgt := 13) kd656.2.1 (by decide) (fun c => absurd c (by decide)) (fun _ => ?_)
  refine jx_aload_n 0 kd656.2.2.1 rfl rfl ?_
  refine jx_strC rfl hi kd656.2.2.2.1 ?_
  refine jx_goto (tgt := 14) kd656.2.2.2.2.1 (by decide) ?_
  exact jx_iret kd656.2.2.2.2.2.2.1 rfl (by decide) (jle rfl) (jle rfl) ⟨_, rfl, h⟩
theorem c_J0_isLatin1 {Q : Int32 → jM → Prop} (hi : i < 6) (h : Q 1 S) : jFi E mJ0_isLatin1_aae02 d 0 0 [.ref (eK E i)] S Q := by
  refine jF_of (by decide) (jle rfl) ?_
  refine jx_lv (lv1 := [(0, .ref (eK E i))]) [0] rfl ?_
  refine jx_compact rfl kd657.1 ?_
  refine jx_if_eq (tgt := 17) kd657.2.1 (by decide) (fun c => absurd c (by decide)) (fun _ => ?_)
  refine jx_aload_n 0 kd657.2.2.1 rfl rfl ?_
  refine jx_strC rfl hi kd657.2.2.2.1 ?_
  refine jx_if_ne (tgt := 17) kd657.2.2.2.2.1 (by decide) (fun c => absurd rfl c) (fun _ => ?_)
  refine jx_iconst (v := 1) kd657.2.2.2.2.2.1 (by decide) ?_
  refine jx_goto (tgt := 18) kd657.2.2.2.2.2.2.1 (by decide) ?_
  exact jx_iret kd657.2.2.2.2.2.2.2.2.1 rfl (by decide) (jle rfl) (jle rfl) ⟨_, rfl, h⟩
theorem sL_shr : ∀ i : Fin 6, nI (sL i.val) >>> ((0 : Int32) &&& 31) = nI (sL i.val) := by decide
theorem c_J0_length {Q : Int32 → jM → Prop} (hi : i < 6) (h : Q (nI (sL i)) S) : jFi E mJ0_length_8abf5 (d + 1) 0 0 [.ref (eK E i)] S Q := by
  refine jF_of (by decide) (jle rfl) ?_
  refine jx_lv (lv1 := [(0, .ref (eK E i))]) [0] rfl ?_
  refine jx_aload_n 0 kd651.1 rfl rfl ?_
  refine jx_strV rfl hi kd651.2.1 ?_
  refine jx_strLen hi kd651.2.2.1 ?_
  refine jx_aload_n 0 kd651.2.2.2.1 rfl rfl ?_
  refine jx_callKi (M' := mJ0_coder_7d493) (As := []) (Q' := fun r S' => r = 0 ∧ S' = S) jo_J0_coder_7d493 hi rfl jwM_J0_335 jwN_J0_coder_7d493 jwX_J0_coder_7d493 kd651.2.2.2.2.1 (jRok_m _ _ _) rfl (jle rfl) ⟨jle rfl, jle rfl⟩ (c_J0_coder hi ⟨rfl, rfl⟩) (fun r S' h1 => ?_)
  obtain ⟨rfl, rfl⟩ := h1
  refine jx_ishr kd651.2.2.2.2.2.1 ?_
  rw [sL_shr ⟨i, hi⟩]
  exact jx_iret kd651.2.2.2.2.2.2.1 rfl rfl (jle rfl) (jle rfl) ⟨_, rfl, h⟩
theorem c_J3_checkIndex {Q : Int32 → jM → Prop} {o : Option Nat} {x y : Int32} (h0 : ¬ x < 0) (h1 : x < y) (h : Q x S) : jFi E mJ3_checkIndex_8e157 d 0 0 [.int x, .int y, va_rf o] S Q := by
  refine jF_of (by decide) (by cases o <;> exact jle rfl) ?_
  refine jx_lv (lv1 := [(0, .int x), (1, .int y)]) [0, 1] (by cases o <;> rfl) ?_
  refine jx_iload_n 0 kd665.1 rfl rfl ?_
  refine jx_if_lt (tgt := 9) kd665.2.1 (by decide) (fun c => absurd c h0) (fun _ => ?_)
  refine jx_iload_n 0 kd665.2.2.1 rfl rfl ?_
  refine jx_iload_n 1 kd665.2.2.2.1 rfl rfl ?_
  refine jx_icmp_lt (tgt := 16) kd665.2.2.2.2.1 (by decide) (fun _ => ?_) (fun c => absurd h1 c)
  refine jx_iload_n 0 kd665.2.2.2.2.2.2.2.2.2.2.1 rfl rfl ?_
  exact jx_iret kd665.2.2.2.2.2.2.2.2.2.2.2.1 rfl rfl (jle rfl) (jle rfl) ⟨_, rfl, h⟩
theorem c_J0_checkIndex {Q : jM → Prop} {x y : Int32} (h0 : ¬ x < 0) (h1 : x < y) (h : Q S) : jFv E mJ0_checkIndex_df160 (d + 1) 0 0 [.int x, .int y] S Q := by
  refine jF_of (by decide) (jle rfl) ?_
  refine jx_lv (lv1 := [(0, .int x), (1, .int y)]) [0, 1] rfl ?_
  refine jx_iload_n 0 kd658.1 rfl rfl ?_
  refine jx_iload_n 1 kd658.2.1 rfl rfl ?_
  refine jx_sioobe rfl kd658.2.2.1 (fun o => ?_)
  refine jx_callSi (M' := mJ3_checkIndex_8e157) (As := [.int x, .int y, va_rf o]) (Q' := fun _ S' => S' = S) jo_J3_checkIndex_8e157 jwM_J0_1059 jwS_J3_checkIndex_8e157 kd658.2.2.2.1 (jRok_m _ _ _) rfl (jle rfl) ⟨jle rfl, jle rfl⟩ (c_J3_checkIndex h0 h1 rfl) (fun r S' e => ?_)
  subst e
  refine jx_pop kd658.2.2.2.2.1 rfl ?_
  exact jx_vret kd658.2.2.2.2.2.1 rfl (jle rfl) (jle rfl) ⟨rfl, h⟩
theorem sB_chr : ∀ i : Fin 6, ∀ j : Fin 4, ((sB i.val j.val &&& 255).toUInt32 % 65536).toInt32 = sB i.val j.val ∧ narrow .char (.int (sB i.val j.val)) = .int (sB i.val j.val) := by decide
theorem sL_4 (hi : i < 6) : sL i ≤ 4 := by
  have l4 : ∀ i : Fin 6, sL i.val ≤ 4 := by decide
  exact l4 ⟨i, hi⟩
theorem c_J1_charAt {Q : Int32 → jM → Prop} {j : Nat} (hi : i < 6) (hj : j < sL i) (h : Q (sB i j) S) : jFi E mJ1_charAt_3b067 (d + 2) 0 0 [.ref (eV E i), .int (nI j)] S Q := by
  have j4 : j < 4 := Nat.lt_of_lt_of_le hj (sL_4 hi)
  have l4 := sL_4 hi
  refine jF_of (by decide) (jle rfl) ?_
  refine jx_lv (lv1 := [(0, .ref (eV E i)), (1, .int (nI j))]) [0, 1] rfl ?_
  refine jx_iload_n 1 kd659.1 rfl rfl ?_
  refine jx_aload_n 0 kd659.2.1 rfl rfl ?_
  refine jx_strLen hi kd659.2.2.1 ?_
  refine jx_callSv (M' := mJ0_checkIndex_df160) (As := [.int (nI j), .int (nI (sL i))]) (Q' := fun S' => S' = S) jo_J0_checkIndex_df160 jwM_J1_9 jwS_J0_checkIndex_df160 kd659.2.2.2.1 (jRok_m _ _ _) rfl (jle rfl) ⟨jle rfl, jle rfl⟩ (c_J0_checkIndex (nI_pos (by omega)) (nI_lt hj (by omega)) rfl) (fun S' e => ?_)
  subst e
  refine jx_aload_n 0 kd659.2.2.2.2.1 rfl rfl ?_
  refine jx_iload_n 1 kd659.2.2.2.2.2.1 rfl rfl ?_
  refine jx_strLd hi hj kd659.2.2.2.2.2.2.1 ?_
  refine jx_sipush (v := 255) kd659.2.2.2.2.2.2.2.1 (by decide) ?_
  refine jx_iand kd659.2.2.2.2.2.2.2.2.1 ?_
  refine jx_i2c kd659.2.2.2.2.2.2.2.2.2.1 ?_
  rw [(sB_chr ⟨i, hi⟩ ⟨j, j4⟩).1]
  exact jx_iret kd659.2.2.2.2.2.2.2.2.2.2.1 rfl (sB_chr ⟨i, hi⟩ ⟨j, j4⟩).2 (jle rfl) (jle rfl) ⟨_, rfl, h⟩
theorem c_J0_charAt {Q : Int32 → jM → Prop} {j : Nat} (hi : i < 6) (hj : j < sL i) (h : Q (sB i j) S) : jFi E mJ0_charAt_5068e (d + 3) 0 0 [.ref (eK E i), .int (nI j)] S Q := by
  have j4 : j < 4 := Nat.lt_of_lt_of_le hj (sL_4 hi)
  refine jF_of (by decide) (jle rfl) ?_
  refine jx_lv (lv1 := [(0, .ref (eK E i)), (1, .int (nI j))]) [0, 1] rfl ?_
  refine jx_aload_n 0 kd652.1 rfl rfl ?_
  refine jx_callKi (M' := mJ0_isLatin1_aae02) (As := []) (Q' := fun r S' => r = 1 ∧ S' = S) jo_J0_isLatin1_aae02 hi rfl jwM_J0_492 jwN_J0_isLatin1_aae02 jwX_J0_isLatin1_aae02 kd652.2.1 (jRok_m _ _ _) rfl (jle rfl) ⟨jle rfl, jle rfl⟩ (c_J0_isLatin1 hi ⟨rfl, rfl⟩) (fun r S' h1 => ?_)
  obtain ⟨rfl, rfl⟩ := h1
  refine jx_if_eq (tgt := 16) kd652.2.2.1 (by decide) (fun c => absurd c (by decide)) (fun _ => ?_)
  refine jx_aload_n 0 kd652.2.2.2.1 rfl rfl ?_
  refine jx_strV rfl hi kd652.2.2.2.2.1 ?_
  refine jx_iload_n 1 kd652.2.2.2.2.2.1 rfl rfl ?_
  refine jx_callSi (M' := mJ1_charAt_3b067) (As := [.ref (eV E i), .int (nI j)]) (Q' := fun r S1 => r = sB i j ∧ S1 = S') jo_J1_charAt_3b067 jwM_J0_495 jwS_J1_charAt_3b067 kd652.2.2.2.2.2.2.1 (jRok_m _ _ _) rfl (jle rfl) ⟨jle rfl, jle rfl⟩ (c_J1_charAt hi hj ⟨rfl, rfl⟩) (fun r S1 h1 => ?_)
  obtain ⟨rfl, rfl⟩ := h1
  exact jx_iret kd652.2.2.2.2.2.2.2.1 rfl (sB_chr ⟨i, hi⟩ ⟨j, j4⟩).2 (jle rfl) (jle rfl) ⟨_, rfl, h⟩
/-! indexOf -/
/-- the first place of a byte in a word, from place j on -/
def sIx (i : Nat) (y : Int32) : Nat → Nat → Int32
  | 0, _ => -1
  | n + 1, j => if sB i j = y then nI j else sIx i y n (j + 1)
theorem c_J1_indexOfChar {Q : Int32 → jM → Prop} {y : Int32} (hi : i < 6) (h : Q (sIx i y.toInt8.toInt32 (sL i) 0) S) : jFi E mJ1_indexOfChar_4cfef d 0 0 [.ref (eV E i), .int y, .int 0, .int (nI (sL i))] S Q := by
  have l4 := sL_4 hi
  have loop : ∀ (n j : Nat), j + n = sL i → Q (sIx i y.toInt8.toInt32 n j) S → jX E mJ1_indexOfChar_4cfef (jRm d 0 0) (jZm E (fun r S' => ∃ v : Int32, r = some (.int v) ∧ Q v S') 0 0) 7 [(5, .int (nI j)), (4, .int y.toInt8.toInt32), (0, .ref (eV E i)), (3, .int (nI (sL i)))] [] S 0 0 := by
    intro n
    induction n with
    | zero =>
      intro j hj hq
      obtain rfl : j = sL i := by omega
      refine jx_iload 0 kd663.2.2.2.2.2.1 rfl ?_
      refine jx_iload_n 3 kd663.2.2.2.2.2.2.1 rfl rfl ?_
      refine jx_icmp_ge (tgt := 31) kd663.2.2.2.2.2.2.2.1 (by decide) (fun _ => ?_) (fun c => absurd Int32.le_rfl c)
      refine jx_iconst (v := -1) kd664.2.1 (by decide) ?_
      exact jx_iret kd664.2.2.1 rfl rfl (jle rfl) (jle rfl) ⟨_, rfl, hq⟩
    | succ n ih =>
      intro j hj hq
      refine jx_iload 0 kd663.2.2.2.2.2.1 rfl ?_
      refine jx_iload_n 3 kd663.2.2.2.2.2.2.1 rfl rfl ?_
      refine jx_icmp_ge (tgt := 31) kd663.2.2.2.2.2.2.2.1 (by decide) (fun c => absurd c (nI_ge (by omega) (by omega))) (fun _ => ?_)
      refine jx_aload_n 2 kd663.2.2.2.2.2.2.2.2.1 rfl rfl ?_
      refine jx_iload 0 kd663.2.2.2.2.2.2.2.2.2.1 rfl ?_
      refine jx_strLd hi (by omega) kd663.2.2.2.2.2.2.2.2.2.2.1 ?_
      refine jx_iload 1 kd663.2.2.2.2.2.2.2.2.2.2.2.1 rfl ?_
      refine jx_icmp_ne (tgt := 25) kd663.2.2.2.2.2.2.2.2.2.2.2.2.1 (by decide) (fun c => ?_) (fun c => ?_)
      · refine jx_iinc 0 (v := nI (j + 1)) (lv1 := [(5, .int (nI (j + 1))), (4, .int y.toInt8.toInt32), (0, .ref (eV E i)), (3, .int (nI (sL i)))]) kd663.2.2.2.2.2.2.2.2.2.2.2.2.2.2.2.1 rfl (nI_1 j) (by decide) rfl ?_
        refine jx_goto (tgt := 7) kd664.1 (by decide) ?_
        refine ih (j + 1) (by omega) ?_
        have e : sIx i y.toInt8.toInt32 (n + 1) j = sIx i y.toInt8.toInt32 n (j + 1) := if_neg c
        rw [← e]; exact hq
      · refine jx_iload 0 kd663.2.2.2.2.2.2.2.2.2.2.2.2.2.1 rfl ?_
        have e : sIx i y.toInt8.toInt32 (n + 1) j = nI j := if_pos c
        rw [e] at hq
        exact jx_iret kd663.2.2.2.2.2.2.2.2.2.2.2.2.2.2.1 rfl rfl (jle rfl) (jle rfl) ⟨_, rfl, hq⟩
  refine jF_of (by decide) (jle rfl) ?_
  refine jx_lv (lv1 := [(0, .ref (eV E i)), (1, .int y), (2, .int 0), (3, .int (nI (sL i)))]) [0, 1, 2, 3] rfl ?_
  refine jx_iload_n 1 kd663.1 rfl rfl ?_
  refine jx_i2b kd663.2.1 ?_
  refine jx_istore (lv1 := [(4, .int y.toInt8.toInt32), (0, .ref (eV E i)), (1, .int y), (2, .int 0), (3, .int (nI (sL i)))]) kd663.2.2.1 (by decide) rfl ?_
  refine jx_iload_n 3 kd663.2.2.2.1 rfl rfl ?_
  refine jx_istore (lv1 := [(5, .int 0), (4, .int y.toInt8.toInt32), (0, .ref (eV E i)), (1, .int y), (2, .int 0), (3, .int (nI (sL i)))]) kd663.2.2.2.2.1 (by decide) rfl ?_
  refine jx_lv (lv1 := [(5, .int (nI 0)), (4, .int y.toInt8.toInt32), (0, .ref (eV E i)), (3, .int (nI (sL i)))]) [0, 1, 2, 5] rfl ?_
  exact loop (sL i) 0 (by omega) h
theorem c_J1_canEncode {Q : Int32 → jM → Prop} {y : Int32} (h0 : ¬ y < 0) (h1 : ¬ 255 < y) (h : Q 1 S) : jFi E mJ1_canEncode_9a6ad d 0 0 [.int y] S Q := by
  refine jF_of (by decide) (jle rfl) ?_
  refine jx_lv (lv1 := [(0, .int y)]) [0] rfl ?_
  refine jx_iload_n 0 kd660.1 rfl rfl ?_
  refine jx_if_lt (tgt := 15) kd660.2.1 (by decide) (fun c => absurd c h0) (fun _ => ?_)
  refine jx_iload_n 0 kd660.2.2.1 rfl rfl ?_
  refine jx_sipush (v := 255) kd660.2.2.2.1 (by decide) ?_
  refine jx_icmp_gt (tgt := 15) kd660.2.2.2.2.1 (by decide) (fun c => absurd c h1) (fun _ => ?_)
  refine jx_iconst (v := 1) kd660.2.2.2.2.2.1 (by decide) ?_
  refine jx_goto (tgt := 16) kd660.2.2.2.2.2.2.1 (by decide) ?_
  exact jx_iret kd660.2.2.2.2.2.2.2.2.1 rfl (by decide) (jle rfl) (jle rfl) ⟨_, rfl, h⟩
theorem sL_mn : ∀ i : Fin 6, (if nI (sL i.val) < nI (sL i.val) then nI (sL i.val) else nI (sL i.val)) = nI (sL i.val) ∧ 0 < sL i.val := by decide
theorem c_J1_indexOf {Q : Int32 → jM → Prop} {y : Int32} (hi : i < 6) (h0 : ¬ y < 0) (h1 : ¬ 255 < y) (h : Q (sIx i y.toInt8.toInt32 (sL i) 0) S) : jFi E mJ1_indexOf_4cfef (d + 1) 0 0 [.ref (eV E i), .int y, .int 0, .int (nI (sL i))] S Q := by
  have l4 := sL_4 hi
  have lp : 0 < sL i := (sL_mn ⟨i, hi⟩).2
  refine jF_of (by decide) (jle rfl) ?_
  refine jx_lv (lv1 := [(0, .ref (eV E i)), (1, .int y), (2, .int 0), (3, .int (nI (sL i)))]) [0, 1, 2, 3] rfl ?_
  refine jx_iload_n 1 kd661.1 rfl rfl ?_
  refine jx_callSi (M' := mJ1_canEncode_9a6ad) (As := [.int y]) (Q' := fun r S' => r = 1 ∧ S' = S) jo_J1_canEncode_9a6ad jwM_J1_88 jwS_J1_canEncode_9a6ad kd661.2.1 (jRok_m _ _ _) rfl (jle rfl) ⟨jle rfl, jle rfl⟩ (c_J1_canEncode h0 h1 ⟨rfl, rfl⟩) (fun r S' e => ?_)
  obtain ⟨rfl, rfl⟩ := e
  refine jx_if_ne (tgt := 9) kd661.2.2.1 (by decide) (fun _ => ?_) (fun c => absurd c (by decide))
  refine jx_iload_n 2 kd661.2.2.2.2.2.1 rfl rfl ?_
  refine jx_iconst (v := 0) kd661.2.2.2.2.2.2.1 (by decide) ?_
  refine jx_max jwM_J1_92 jwS_max jwZ_J9 jwO_max kd661.2.2.2.2.2.2.2.1 (jRok_m _ _ _) (jle rfl) ⟨Nat.zero_le _, Nat.zero_le _⟩ ?_
  refine jx_istore_n (lv1 := [(2, .int 0), (0, .ref (eV E i)), (1, .int y), (3, .int (nI (sL i)))]) kd661.2.2.2.2.2.2.2.2.1 rfl (by decide) rfl ?_
  refine jx_iload_n 3 kd661.2.2.2.2.2.2.2.2.2.1 rfl rfl ?_
  refine jx_aload_n 1 kd661.2.2.2.2.2.2.2.2.2.2.1 rfl rfl ?_
  refine jx_strLen hi kd661.2.2.2.2.2.2.2.2.2.2.2.1 ?_
  refine jx_min jwM_J1_38 jwS_min jwZ_J9 jwO_min kd661.2.2.2.2.2.2.2.2.2.2.2.2.1 (jRok_m _ _ _) (jle rfl) ⟨Nat.zero_le _, Nat.zero_le _⟩ ?_
  rw [(sL_mn ⟨i, hi⟩).1]
  refine jx_istore_n (lv1 := [(3, .int (nI (sL i))), (2, .int 0), (0, .ref (eV E i)), (1, .int y)]) kd661.2.2.2.2.2.2.2.2.2.2.2.2.2.1 rfl (by decide) rfl ?_
  refine jx_iload_n 1 kd661.2.2.2.2.2.2.2.2.2.2.2.2.2.2.1 rfl rfl ?_
  refine jx_iload_n 0 kd661.2.2.2.2.2.2.2.2.2.2.2.2.2.2.2.1 rfl rfl ?_
  refine jx_icmp_lt (tgt := 29) kd662.1 (by decide) (fun _ => ?_) (fun c => absurd (nI_lt (a := 0) lp (by omega)) c)
  refine jx_aload_n 2 kd662.2.2.2.1 rfl rfl ?_
  refine jx_iload_n 3 kd662.2.2.2.2.1 rfl rfl ?_
  refine jx_iload_n 1 kd662.2.2.2.2.2.1 rfl rfl ?_
  refine jx_iload_n 0 kd662.2.2.2.2.2.2.1 rfl rfl ?_
  refine jx_callSi (M' := mJ1_indexOfChar_4cfef) (As := [.ref (eV E i), .int y, .int 0, .int (nI (sL i))]) (Q' := fun r S1 => Q r S1) jo_J1_indexOfChar_4cfef jwM_J1_95 jwS_J1_indexOfChar_4cfef kd662.2.2.2.2.2.2.2.1 (jRok_m _ _ _) rfl (jle rfl) ⟨jle rfl, jle rfl⟩ (c_J1_indexOfChar hi h) (fun r S1 h1 => ?_)
  exact jx_iret kd662.2.2.2.2.2.2.2.2.1 rfl rfl (jle rfl) (jle rfl) ⟨_, rfl, h1⟩
theorem c_J0_indexOf2 {Q : Int32 → jM → Prop} {y : Int32} (hi : i < 6) (h0 : ¬ y < 0) (h1 : ¬ 255 < y) (h : Q (sIx i y.toInt8.toInt32 (sL i) 0) S) : jFi E mJ0_indexOf_7cf53 (d + 2) 0 0 [.ref (eK E i), .int y, .int 0] S Q := by
  refine jF_of (by decide) (jle rfl) ?_
  refine jx_lv (lv1 := [(0, .ref (eK E i)), (1, .int y), (2, .int 0)]) [0, 1, 2] rfl ?_
  refine jx_aload_n 0 kd654.1 rfl rfl ?_
  refine jx_callKi (M' := mJ0_isLatin1_aae02) (As := []) (Q' := fun r S' => r = 1 ∧ S' = S) jo_J0_isLatin1_aae02 hi rfl jwM_J0_492 jwN_J0_isLatin1_aae02 jwX_J0_isLatin1_aae02 kd654.2.1 (jRok_m _ _ _) rfl (jle rfl) ⟨jle rfl, jle rfl⟩ (c_J0_isLatin1 hi ⟨rfl, rfl⟩) (fun r S' e => ?_)
  obtain ⟨rfl, rfl⟩ := e
  refine jx_if_eq (tgt := 23) kd654.2.2.1 (by decide) (fun c => absurd c (by decide)) (fun _ => ?_)
  refine jx_aload_n 0 kd654.2.2.2.1 rfl rfl ?_
  refine jx_strV rfl hi kd654.2.2.2.2.1 ?_
  refine jx_iload_n 1 kd654.2.2.2.2.2.1 rfl rfl ?_
  refine jx_iload_n 2 kd654.2.2.2.2.2.2.1 rfl rfl ?_
  refine jx_aload_n 0 kd654.2.2.2.2.2.2.2.1 rfl rfl ?_
  refine jx_callKi (M' := mJ0_length_8abf5) (As := []) (Q' := fun r S1 => r = nI (sL i) ∧ S1 = S') jo_J0_length_8abf5 hi rfl jwM_J0_505 jwN_J0_length_8abf5 jwX_J0_length_8abf5 kd654.2.2.2.2.2.2.2.2.1 (jRok_m _ _ _) rfl (jle rfl) ⟨jle rfl, jle rfl⟩ (c_J0_length hi ⟨rfl, rfl⟩) (fun r S1 e => ?_)
  obtain ⟨rfl, rfl⟩ := e
  refine jx_callSi (M' := mJ1_indexOf_4cfef) (As := [.ref (eV E i), .int y, .int 0, .int (nI (sL i))]) (Q' := fun r S1 => Q r S1) jo_J1_indexOf_4cfef jwM_J0_637 jwS_J1_indexOf_4cfef kd654.2.2.2.2.2.2.2.2.2.1 (jRok_m _ _ _) rfl (jle rfl) ⟨jle rfl, jle rfl⟩ (c_J1_indexOf hi h0 h1 h) (fun r S2 h2 => ?_)
  refine jx_goto (tgt := 36) kd654.2.2.2.2.2.2.2.2.2.2.1 (by decide) ?_
  exact jx_iret kd655.2.2.1 rfl rfl (jle rfl) (jle rfl) ⟨_, rfl, h2⟩
theorem c_J0_indexOf {Q : Int32 → jM → Prop} {y : Int32} (hi : i < 6) (h0 : ¬ y < 0) (h1 : ¬ 255 < y) (h : Q (sIx i y.toInt8.toInt32 (sL i) 0) S) : jFi E mJ0_indexOf_0f7a4 (d + 3) 0 0 [.ref (eK E i), .int y] S Q := by
  refine jF_of (by decide) (jle rfl) ?_
  refine jx_lv (lv1 := [(0, .ref (eK E i)), (1, .int y)]) [0, 1] rfl ?_
  refine jx_aload_n 0 kd653.1 rfl rfl ?_
  refine jx_iload_n 1 kd653.2.1 rfl rfl ?_
  refine jx_iconst (v := 0) kd653.2.2.1 (by decide) ?_
  refine jx_callKi (M' := mJ0_indexOf_7cf53) (As := [.int y, .int 0]) (Q' := fun r S' => Q r S') jo_J0_indexOf_7cf53 hi rfl jwM_J0_633 jwN_J0_indexOf_7cf53 jwX_J0_indexOf_7cf53 kd653.2.2.2.1 (jRok_m _ _ _) rfl (jle rfl) ⟨jle rfl, jle rfl⟩ (c_J0_indexOf2 hi h0 h1 h) (fun r S' e => ?_)
  exact jx_iret kd653.2.2.2.2.1 rfl rfl (jle rfl) (jle rfl) ⟨_, rfl, e⟩
end jStr3
end
section
/-! TEXT, the plain reading of a tape: bytes b, n of them. A word in hand: (start, end, sort, needs a blank); a reading: (good, the word in hand behind it, the code) -/
abbrev jtk : Type := Nat × Nat × Nat × Nat
abbrev jrs : Type := Bool × jtk × List Nat
def psrt (b : Nat → Nat) (n p : Nat) : Nat := if n ≤ p then 0 else if 97 ≤ b p ∧ b p ≤ 122 then 1 else if 48 ≤ b p ∧ b p ≤ 57 then 2 else 3
def pskp (b : Nat → Nat) : Nat → Nat → Nat
  | 0, p => p
  | c + 1, p => if b p = 32 then pskp b c (p + 1) else p
def prun (b : Nat → Nat) (n s : Nat) : Nat → Nat → Nat
  | 0, p => p
  | c + 1, p => if psrt b n p = s then prun b n s c (p + 1) else p
/-- the next word behind place e, w = 1: what was in hand was letters or digits -/
def ptok (b : Nat → Nat) (n w e : Nat) : jtk :=
  let st := pskp b (n - e) e
  let so := psrt b n st
  (st, (if so = 0 then st else if so = 3 then st + 1 else prun b n so (n - (st + 1)) (st + 1)), so, (if w = 1 ∧ st = e then 1 else 0))
def pnext (b : Nat → Nat) (n : Nat) (t : jtk) : jtk := ptok b n (if t.2.2.1 = 1 ∨ t.2.2.1 = 2 then 1 else 0) t.2.1
def plev (b : Nat → Nat) (t : jtk) : Nat :=
  if t.2.2.1 = 3 then (if b t.1 = 124 then 0 else if b t.1 = 38 then 1 else if b t.1 = 60 then 2 else if b t.1 = 61 then 2 else if b t.1 = 62 then 2 else if b t.1 = 43 then 3 else if b t.1 = 45 then 3 else if b t.1 = 42 then 4 else if b t.1 = 47 then 4 else 9) else 9
def pnum (b : Nat → Nat) : Nat → Nat → Nat → Nat
  | 0, _, a => a
  | c + 1, p, a => pnum b c (p + 1) (10 * a + b p - 48)
/-- the name in hand: its place among a key's names, or 9 -/
def pnam (key c : Nat) : Nat := if key = 0 then (if c = 107 then 0 else if c = 103 then 1 else if c = 97 then 2 else 9) else if key = 1 then (if c = 102 then 0 else if c = 97 then 1 else 9) else (if c = 99 then 0 else if c = 100 then 1 else 9)
/-- the operand in hand as a word of the code, 30000: none -/
def popd (b : Nat → Nat) (key : Nat) (t : jtk) : Nat :=
  if t.2.2.2 = 1 then 30000 else if t.2.2.1 = 2 then (if 4 < t.2.1 - t.1 then 30000 else pnum b (t.2.1 - t.1) t.1 0) else if t.2.2.1 = 1 then (if t.2.1 - t.1 = 1 then (if pnam key (b t.1) = 9 then 30000 else 10000 + pnam key (b t.1)) else 30000) else 30000
/-- parts of a level, each by f, joined by its signs -/
def ploop (b : Nat → Nat) (n lev : Nat) (f : jtk → List Nat → jrs) : Nat → jtk → List Nat → jrs
  | 0, t, L => (true, t, L)
  | c + 1, t, L => if plev b t = lev then
      (if (f (pnext b n t) L).1 = true then ploop b n lev f c (f (pnext b n t) L).2.1 ((f (pnext b n t) L).2.2 ++ [20000 + b t.1]) else (false, (f (pnext b n t) L).2.1, []))
    else (true, t, L)
def pread (b : Nat → Nat) (n key : Nat) : Nat → Nat → Nat → Nat → jtk → List Nat → jrs
  | 0, _, _, _, t, _ => (false, t, [])
  | F + 1, lev, par, bang, t, L =>
    if lev < 5 then
      (if (pread b n key F (lev + 1) par bang t L).1 = true then ploop b n lev (pread b n key F (lev + 1) par bang) (if lev = 2 then 1 else 96) (pread b n key F (lev + 1) par bang t L).2.1 (pread b n key F (lev + 1) par bang t L).2.2 else (false, (pread b n key F (lev + 1) par bang t L).2.1, []))
    else if t.2.2.1 = 1 ∨ t.2.2.1 = 2 then (if popd b key t = 30000 then (false, t, []) else (true, pnext b n t, L ++ [popd b key t]))
    else if t.2.2.1 = 3 ∧ b t.1 = 33 ∧ bang < 8 then
      (if (pread b n key F 5 par (bang + 1) (pnext b n t) L).1 = true then (true, (pread b n key F 5 par (bang + 1) (pnext b n t) L).2.1, (pread b n key F 5 par (bang + 1) (pnext b n t) L).2.2 ++ [20033]) else (false, (pread b n key F 5 par (bang + 1) (pnext b n t) L).2.1, []))
    else if t.2.2.1 = 3 ∧ b t.1 = 40 ∧ par < 8 then
      (if (pread b n key F 0 (par + 1) bang (pnext b n t) L).1 = true ∧ (pread b n key F 0 (par + 1) bang (pnext b n t) L).2.1.2.2.1 = 3 ∧ b (pread b n key F 0 (par + 1) bang (pnext b n t) L).2.1.1 = 41 then (true, pnext b n (pread b n key F 0 (par + 1) bang (pnext b n t) L).2.1, (pread b n key F 0 (par + 1) bang (pnext b n t) L).2.2)
        else (false, (pread b n key F 0 (par + 1) bang (pnext b n t) L).2.1, []))
    else (false, t, [])
/-- fuel enough -/
def pmu (lev par bang : Nat) : Nat := 7 * (8 - par) + (8 - bang) + (6 - lev)
/-! what holds of it -/
theorem pskp_ge (b : Nat → Nat) : ∀ (c p : Nat), p ≤ pskp b c p ∧ pskp b c p ≤ p + c
  | 0, p => ⟨Nat.le_refl _, Nat.le_refl _⟩
  | c + 1, p => by
    show p ≤ (if b p = 32 then pskp b c (p + 1) else p) ∧ (if b p = 32 then pskp b c (p + 1) else p) ≤ p + (c + 1)
    have := pskp_ge b c (p + 1)
    split <;> omega
theorem prun_ge (b : Nat → Nat) (n s : Nat) : ∀ (c p : Nat), p ≤ prun b n s c p ∧ prun b n s c p ≤ p + c
  | 0, p => ⟨Nat.le_refl _, Nat.le_refl _⟩
  | c + 1, p => by
    show p ≤ (if psrt b n p = s then prun b n s c (p + 1) else p) ∧ (if psrt b n p = s then prun b n s c (p + 1) else p) ≤ p + (c + 1)
    have := prun_ge b n s c (p + 1)
    split <;> omega
/-- a word in hand as it may be -/
def TKok (b : Nat → Nat) (n : Nat) (t : jtk) : Prop := t.1 ≤ t.2.1 ∧ t.2.1 ≤ n ∧ t.2.2.1 = psrt b n t.1 ∧ (t.2.2.1 ≠ 0 → t.1 < t.2.1) ∧ (t.2.2.2 = 0 ∨ t.2.2.2 = 1) ∧ (t.2.2.1 = 3 → t.2.1 = t.1 + 1) ∧ (∀ p, t.1 ≤ p → p < t.2.1 → psrt b n p = t.2.2.1)
theorem psrt_0 {b : Nat → Nat} {n p : Nat} : psrt b n p = 0 ↔ n ≤ p := by
  unfold psrt
  constructor
  · intro h
    split at h
    · assumption
    · split at h
      · exact absurd h (by decide)
      · split at h <;> exact absurd h (by decide)
  · intro h; rw [if_pos h]
theorem psrt_le {b : Nat → Nat} {n p : Nat} : psrt b n p ≤ 3 := by
  unfold psrt
  split
  · omega
  · split
    · omega
    · split <;> omega
theorem prun_all (b : Nat → Nat) (n s : Nat) : ∀ (c p q : Nat), p ≤ q → q < prun b n s c p → psrt b n q = s
  | 0, p, q, h1, h2 => by
    have : prun b n s 0 p = p := rfl
    omega
  | c + 1, p, q, h1, h2 => by
    have e : prun b n s (c + 1) p = if psrt b n p = s then prun b n s c (p + 1) else p := rfl
    rw [e] at h2
    by_cases hc : psrt b n p = s
    · rw [if_pos hc] at h2
      by_cases hq : q = p
      · rw [hq]; exact hc
      · exact prun_all b n s c (p + 1) q (by omega) h2
    · rw [if_neg hc] at h2; omega
theorem ptok_ok {b : Nat → Nat} {n w e : Nat} (he : e ≤ n) : TKok b n (ptok b n w e) ∧ e ≤ (ptok b n w e).1 := by
  have h1 := pskp_ge b (n - e) e
  have z := psrt_0 (b := b) (n := n) (p := pskp b (n - e) e)
  have le := psrt_le (b := b) (n := n) (p := pskp b (n - e) e)
  unfold TKok ptok
  show ((pskp b (n - e) e ≤ _) ∧ _) ∧ _
  generalize hst : pskp b (n - e) e = st at h1 z le ⊢
  have r := prun_ge b n (psrt b n st) (n - (st + 1)) (st + 1)
  have ra := prun_all b n (psrt b n st) (n - (st + 1)) (st + 1)
  refine ⟨⟨?_, ?_, rfl, fun h => ?_, ?_, fun h => ?_, fun p p1 p2 => ?_⟩, h1.1⟩
  · show st ≤ if psrt b n st = 0 then st else if psrt b n st = 3 then st + 1 else _
    split
    · omega
    · split <;> omega
  · show (if psrt b n st = 0 then st else if psrt b n st = 3 then st + 1 else prun b n (psrt b n st) (n - (st + 1)) (st + 1)) ≤ n
    by_cases c : psrt b n st = 0
    · rw [if_pos c]; omega
    · have : ¬ n ≤ st := fun q => c (z.mpr q)
      rw [if_neg c]
      split <;> omega
  · show st < if psrt b n st = 0 then st else if psrt b n st = 3 then st + 1 else _
    have h' : ¬ psrt b n st = 0 := h
    rw [if_neg h']
    split <;> omega
  · show (if w = 1 ∧ st = e then 1 else 0) = 0 ∨ (if w = 1 ∧ st = e then 1 else 0) = 1
    split <;> simp
  · show (if psrt b n st = 0 then st else if psrt b n st = 3 then st + 1 else _) = st + 1
    have h' : psrt b n st = 3 := h
    rw [if_neg (by rw [h']; decide), if_pos h']
  · have p1' : st ≤ p := p1
    have p2' : p < if psrt b n st = 0 then st else if psrt b n st = 3 then st + 1 else prun b n (psrt b n st) (n - (st + 1)) (st + 1) := p2
    show psrt b n p = psrt b n st
    by_cases hp : p = st
    · rw [hp]
    · by_cases c : psrt b n st = 0
      · rw [if_pos c] at p2'; omega
      · rw [if_neg c] at p2'
        by_cases c3 : psrt b n st = 3
        · rw [if_pos c3] at p2'; omega
        · rw [if_neg c3] at p2'
          exact ra p (by omega) p2'
theorem pnext_ok {b : Nat → Nat} {n : Nat} {t : jtk} (h : TKok b n t) : TKok b n (pnext b n t) ∧ t.2.1 ≤ (pnext b n t).1 := ptok_ok h.2.1
end
section
/-! TEXT: what a reading gives -/
/-- the pile's depth behind a code -/
def prn : Nat → List Nat → Option Nat
  | e, [] => some e
  | e, w :: A => if w < 20000 then prn (e + 1) A else if w = 20033 then (if 1 ≤ e then prn e A else none) else (if 2 ≤ e then prn (e - 1) A else none)
def pEX (key : Nat) (A : List Nat) : Prop := (∀ w ∈ A, WFw key w) ∧ ∀ e, prn e A = some (e + 1)
theorem prn_app : ∀ (A B : List Nat) (e f : Nat), prn e A = some f → prn e (A ++ B) = prn f B
  | [], B, e, f, h => by
    have : e = f := Option.some.inj h
    rw [this]; rfl
  | w :: A, B, e, f, h => by
    show (if w < 20000 then prn (e + 1) (A ++ B) else if w = 20033 then (if 1 ≤ e then prn e (A ++ B) else none) else (if 2 ≤ e then prn (e - 1) (A ++ B) else none)) = prn f B
    have h' : (if w < 20000 then prn (e + 1) A else if w = 20033 then (if 1 ≤ e then prn e A else none) else (if 2 ≤ e then prn (e - 1) A else none)) = some f := h
    by_cases c1 : w < 20000
    · rw [if_pos c1] at h' ⊢; exact prn_app A B _ f h'
    · rw [if_neg c1] at h' ⊢
      by_cases c2 : w = 20033
      · rw [if_pos c2] at h' ⊢
        by_cases c3 : 1 ≤ e
        · rw [if_pos c3] at h' ⊢; exact prn_app A B _ f h'
        · rw [if_neg c3] at h'; exact absurd h' (by simp)
      · rw [if_neg c2] at h' ⊢
        by_cases c3 : 2 ≤ e
        · rw [if_pos c3] at h' ⊢; exact prn_app A B _ f h'
        · rw [if_neg c3] at h'; exact absurd h' (by simp)
theorem pEX_op {key w : Nat} (h : WFw key w) (hw : w < 20000) : pEX key [w] := by
  refine ⟨fun v hv => by rw [List.mem_singleton.mp hv]; exact h, fun e => ?_⟩
  show (if w < 20000 then prn (e + 1) [] else _) = _
  rw [if_pos hw]; rfl
theorem pEX_not {key : Nat} {A : List Nat} (h : pEX key A) : pEX key (A ++ [20033]) := by
  refine ⟨fun v hv => ?_, fun e => ?_⟩
  · rcases List.mem_append.mp hv with q | q
    · exact h.1 v q
    · rw [List.mem_singleton.mp q]; exact Or.inr (Or.inr (Or.inl rfl))
  · rw [prn_app A [20033] e (e + 1) (h.2 e)]
    show (if 20033 < 20000 then _ else if 20033 = 20033 then (if 1 ≤ e + 1 then prn (e + 1) [] else none) else _) = _
    rw [if_neg (by decide), if_pos rfl, if_pos (by omega)]; rfl
theorem pEX_bin {key c : Nat} {A B : List Nat} (hA : pEX key A) (hB : pEX key B) (hc : c ∈ sgn) : pEX key (A ++ B ++ [20000 + c]) := by
  have h33 : c ≠ 33 := by
    intro e
    rw [e] at hc
    exact absurd hc (by decide)
  refine ⟨fun v hv => ?_, fun e => ?_⟩
  · rcases List.mem_append.mp hv with q | q
    · rcases List.mem_append.mp q with q | q
      · exact hA.1 v q
      · exact hB.1 v q
    · rw [List.mem_singleton.mp q]; exact Or.inr (Or.inr (Or.inr ⟨c, hc, rfl⟩))
  · rw [prn_app (A ++ B) [20000 + c] e (e + 2) (by rw [prn_app A B e (e + 1) (hA.2 e)]; exact hB.2 (e + 1))]
    show (if 20000 + c < 20000 then _ else if 20000 + c = 20033 then _ else (if 2 ≤ e + 2 then prn (e + 2 - 1) [] else none)) = _
    rw [if_neg (by omega), if_neg (by omega), if_pos (by omega)]; rfl
theorem psrt_2 {b : Nat → Nat} {n p : Nat} (h : psrt b n p = 2) : 48 ≤ b p ∧ b p ≤ 57 := by
  unfold psrt at h
  split at h
  · exact absurd h (by decide)
  · split at h
    · exact absurd h (by decide)
    · split at h
      · assumption
      · exact absurd h (by decide)
theorem pnum_lt (b : Nat → Nat) : ∀ (c p a k : Nat), (∀ q, p ≤ q → q < p + c → 48 ≤ b q ∧ b q ≤ 57) → a < 10 ^ k → pnum b c p a < 10 ^ (k + c)
  | 0, p, a, k, _, h => h
  | c + 1, p, a, k, hd, h => by
    have h1 := hd p (by omega) (by omega)
    have h2 : 10 * a + b p - 48 < 10 ^ (k + 1) := by
      rw [Nat.pow_succ]
      have : a + 1 ≤ 10 ^ k := h
      omega
    have := pnum_lt b c (p + 1) (10 * a + b p - 48) (k + 1) (fun q q1 q2 => hd q (by omega) (by omega)) h2
    rw [show k + 1 + c = k + (c + 1) by omega] at this
    exact this
theorem pnam_ok {key c : Nat} (h : ¬ pnam key c = 9) : pnam key c < nmc key := by
  unfold pnam at h ⊢
  unfold nmc
  split
  · rename_i hk
    rw [if_pos hk] at h
    split
    · omega
    · rename_i q1
      rw [if_neg q1] at h
      split
      · omega
      · rename_i q2
        rw [if_neg q2] at h
        split
        · omega
        · rename_i q3
          rw [if_neg q3] at h; exact absurd rfl h
  · rename_i hk
    rw [if_neg hk] at h
    split
    · rename_i hk1
      rw [if_pos hk1] at h
      split
      · omega
      · rename_i q1
        rw [if_neg q1] at h
        split
        · omega
        · rename_i q2
          rw [if_neg q2] at h; exact absurd rfl h
    · rename_i hk1
      rw [if_neg hk1] at h
      split
      · omega
      · rename_i q1
        rw [if_neg q1] at h
        split
        · omega
        · rename_i q2
          rw [if_neg q2] at h; exact absurd rfl h
theorem popd_ok {b : Nat → Nat} {n key : Nat} {t : jtk} (ht : TKok b n t) (h : ¬ popd b key t = 30000) : WFw key (popd b key t) ∧ popd b key t < 20000 ∧ t.2.2.2 = 0 := by
  obtain ⟨h1, h2, h3, h4, h5, h6, h7⟩ := ht
  unfold popd at h ⊢
  by_cases c0 : t.2.2.2 = 1
  · rw [if_pos c0] at h; exact absurd rfl h
  · rw [if_neg c0] at h ⊢
    by_cases c1 : t.2.2.1 = 2
    · rw [if_pos c1] at h ⊢
      by_cases c2 : 4 < t.2.1 - t.1
      · rw [if_pos c2] at h; exact absurd rfl h
      · rw [if_neg c2] at h ⊢
        have hb := pnum_lt b (t.2.1 - t.1) t.1 0 0 (fun q q1 q2 => psrt_2 ((h7 q q1 (by omega)).trans c1)) (by decide)
        have hp : 10 ^ (0 + (t.2.1 - t.1)) ≤ 10 ^ 4 := Nat.pow_le_pow_right (by omega) (by omega)
        have e4 : (10 : Nat) ^ 4 = 10000 := by decide
        have hl : pnum b (t.2.1 - t.1) t.1 0 < 10000 := by omega
        exact ⟨Or.inl hl, by omega, by omega⟩
    · rw [if_neg c1] at h ⊢
      by_cases c2 : t.2.2.1 = 1
      · rw [if_pos c2] at h ⊢
        by_cases c3 : t.2.1 - t.1 = 1
        · rw [if_pos c3] at h ⊢
          by_cases c4 : pnam key (b t.1) = 9
          · rw [if_pos c4] at h; exact absurd rfl h
          · rw [if_neg c4] at h ⊢
            have hn := pnam_ok c4
            have hn3 : nmc key ≤ 3 := by unfold nmc; split <;> omega
            exact ⟨Or.inr (Or.inl ⟨_, hn, rfl⟩), by omega, by omega⟩
        · rw [if_neg c3] at h; exact absurd rfl h
      · rw [if_neg c2] at h; exact absurd rfl h
theorem plev_ok {b : Nat → Nat} {t : jtk} (h : plev b t < 5) : t.2.2.1 = 3 ∧ b t.1 ∈ sgn := by
  unfold plev at h
  by_cases c : t.2.2.1 = 3
  · rw [if_pos c] at h
    refine ⟨c, ?_⟩
    have hd : b t.1 = 124 ∨ b t.1 = 38 ∨ b t.1 = 60 ∨ b t.1 = 61 ∨ b t.1 = 62 ∨ b t.1 = 43 ∨ b t.1 = 45 ∨ b t.1 = 42 ∨ b t.1 = 47 := by
      by_cases e1 : b t.1 = 124
      · exact Or.inl e1
      · rw [if_neg e1] at h
        by_cases e2 : b t.1 = 38
        · exact Or.inr (Or.inl e2)
        · rw [if_neg e2] at h
          by_cases e3 : b t.1 = 60
          · exact Or.inr (Or.inr (Or.inl e3))
          · rw [if_neg e3] at h
            by_cases e4 : b t.1 = 61
            · exact Or.inr (Or.inr (Or.inr (Or.inl e4)))
            · rw [if_neg e4] at h
              by_cases e5 : b t.1 = 62
              · exact Or.inr (Or.inr (Or.inr (Or.inr (Or.inl e5))))
              · rw [if_neg e5] at h
                by_cases e6 : b t.1 = 43
                · exact Or.inr (Or.inr (Or.inr (Or.inr (Or.inr (Or.inl e6)))))
                · rw [if_neg e6] at h
                  by_cases e7 : b t.1 = 45
                  · exact Or.inr (Or.inr (Or.inr (Or.inr (Or.inr (Or.inr (Or.inl e7))))))
                  · rw [if_neg e7] at h
                    by_cases e8 : b t.1 = 42
                    · exact Or.inr (Or.inr (Or.inr (Or.inr (Or.inr (Or.inr (Or.inr (Or.inl e8)))))))
                    · rw [if_neg e8] at h
                      by_cases e9 : b t.1 = 47
                      · exact Or.inr (Or.inr (Or.inr (Or.inr (Or.inr (Or.inr (Or.inr (Or.inr e9)))))))
                      · rw [if_neg e9] at h; exact absurd h (by decide)
    rcases hd with e | e | e | e | e | e | e | e | e <;> rw [e] <;> decide
  · rw [if_neg c] at h; exact absurd h (by decide)
/-- a good reading: goes on, and writes no more words than it passes bytes -/
def PG (b : Nat → Nat) (n key : Nat) (t : jtk) (L : List Nat) (r : jrs) : Prop := TKok b n r.2.1 ∧ t.1 ≤ r.2.1.1 ∧ (r.1 = true → t.1 < r.2.1.1 ∧ r.2.2.length + t.1 ≤ L.length + r.2.1.1 ∧ ∃ A, r.2.2 = L ++ A ∧ pEX key A)
theorem ploop_ok {b : Nat → Nat} {n key lev : Nat} {f : jtk → List Nat → jrs} (hl : lev < 5) (hf : ∀ t L, TKok b n t → PG b n key t L (f t L)) : ∀ (c : Nat) (t : jtk) (L L0 : List Nat) (t0 : jtk), TKok b n t → t0.1 < t.1 → L.length + t0.1 ≤ L0.length + t.1 → (∃ A, L = L0 ++ A ∧ pEX key A) → PG b n key t0 L0 (ploop b n lev f c t L)
  | 0, t, L, L0, t0, ht, h1, h2, h3 => ⟨ht, Nat.le_of_lt h1, fun _ => ⟨h1, h2, h3⟩⟩
  | c + 1, t, L, L0, t0, ht, h1, h2, h3 => by
    have e : ploop b n lev f (c + 1) t L = if plev b t = lev then (if (f (pnext b n t) L).1 = true then ploop b n lev f c (f (pnext b n t) L).2.1 ((f (pnext b n t) L).2.2 ++ [20000 + b t.1]) else (false, (f (pnext b n t) L).2.1, [])) else (true, t, L) := rfl
    rw [e]
    by_cases c1 : plev b t = lev
    · rw [if_pos c1]
      have hs := plev_ok (b := b) (t := t) (by omega)
      have hn := pnext_ok ht
      have en : t.1 < t.2.1 := ht.2.2.2.1 (by rw [hs.1]; decide)
      obtain ⟨g1, g2, g3⟩ := hf (pnext b n t) L hn.1
      by_cases c2 : (f (pnext b n t) L).1 = true
      · rw [if_pos c2]
        obtain ⟨k1, k2, A2, eA2, xA2⟩ := g3 c2
        obtain ⟨A, eA, xA⟩ := h3
        refine ploop_ok hl hf c _ _ L0 t0 g1 (by omega) ?_ ⟨A ++ A2 ++ [20000 + b t.1], ?_, pEX_bin xA xA2 hs.2⟩
        · rw [List.length_append]
          show _ + 1 + _ ≤ _
          omega
        · rw [eA2, eA]; simp only [List.append_assoc]
      · rw [if_neg c2]
        exact ⟨g1, by show t0.1 ≤ (f (pnext b n t) L).2.1.1; omega, fun q => Bool.noConfusion q⟩
    · rw [if_neg c1]; exact ⟨ht, Nat.le_of_lt h1, fun _ => ⟨h1, h2, h3⟩⟩
theorem pread_ok {b : Nat → Nat} {n key : Nat} : ∀ (F lev par bang : Nat) (t : jtk) (L : List Nat), TKok b n t → PG b n key t L (pread b n key F lev par bang t L)
  | 0, lev, par, bang, t, L, ht => ⟨ht, Nat.le_refl _, fun q => Bool.noConfusion q⟩
  | F + 1, lev, par, bang, t, L, ht => by
    rw [pread]
    by_cases c0 : lev < 5
    · rw [if_pos c0]
      obtain ⟨g1, g2, g3⟩ := pread_ok F (lev + 1) par bang t L ht
      by_cases c1 : (pread b n key F (lev + 1) par bang t L).1 = true
      · rw [if_pos c1]
        obtain ⟨k1, k2, k3⟩ := g3 c1
        exact ploop_ok c0 (fun t L ht => pread_ok F (lev + 1) par bang t L ht) _ _ _ L t g1 k1 k2 k3
      · rw [if_neg c1]; exact ⟨g1, g2, fun q => Bool.noConfusion q⟩
    · rw [if_neg c0]
      have hn := pnext_ok ht
      by_cases c1 : t.2.2.1 = 1 ∨ t.2.2.1 = 2
      · rw [if_pos c1]
        have en : t.1 < t.2.1 := ht.2.2.2.1 (by omega)
        by_cases c2 : popd b key t = 30000
        · rw [if_pos c2]; exact ⟨ht, Nat.le_refl _, fun q => Bool.noConfusion q⟩
        · rw [if_neg c2]
          have ho := popd_ok ht c2
          refine ⟨hn.1, by show t.1 ≤ (pnext b n t).1; omega, fun _ => ⟨by show t.1 < (pnext b n t).1; omega, ?_, [popd b key t], rfl, pEX_op ho.1 ho.2.1⟩⟩
          show (L ++ [popd b key t]).length + t.1 ≤ L.length + (pnext b n t).1
          rw [List.length_append]
          show L.length + 1 + t.1 ≤ _
          omega
      · rw [if_neg c1]
        by_cases c2 : t.2.2.1 = 3 ∧ b t.1 = 33 ∧ bang < 8
        · rw [if_pos c2]
          have en : t.1 < t.2.1 := ht.2.2.2.1 (by omega)
          obtain ⟨g1, g2, g3⟩ := pread_ok F 5 par (bang + 1) (pnext b n t) L hn.1
          by_cases c3 : (pread b n key F 5 par (bang + 1) (pnext b n t) L).1 = true
          · rw [if_pos c3]
            obtain ⟨k1, k2, A, eA, xA⟩ := g3 c3
            refine ⟨g1, by show t.1 ≤ (pread b n key F 5 par (bang + 1) (pnext b n t) L).2.1.1; omega, fun _ => ⟨by show t.1 < (pread b n key F 5 par (bang + 1) (pnext b n t) L).2.1.1; omega, ?_, A ++ [20033], by show _ ++ _ = _; rw [eA, List.append_assoc], pEX_not xA⟩⟩
            show ((pread b n key F 5 par (bang + 1) (pnext b n t) L).2.2 ++ [20033]).length + t.1 ≤ L.length + (pread b n key F 5 par (bang + 1) (pnext b n t) L).2.1.1
            rw [List.length_append]
            show _ + 1 + t.1 ≤ _
            omega
          · rw [if_neg c3]; exact ⟨g1, by show t.1 ≤ (pread b n key F 5 par (bang + 1) (pnext b n t) L).2.1.1; omega, fun q => Bool.noConfusion q⟩
        · rw [if_neg c2]
          by_cases c3 : t.2.2.1 = 3 ∧ b t.1 = 40 ∧ par < 8
          · rw [if_pos c3]
            have en : t.1 < t.2.1 := ht.2.2.2.1 (by omega)
            obtain ⟨g1, g2, g3⟩ := pread_ok F 0 (par + 1) bang (pnext b n t) L hn.1
            by_cases c4 : (pread b n key F 0 (par + 1) bang (pnext b n t) L).1 = true ∧ (pread b n key F 0 (par + 1) bang (pnext b n t) L).2.1.2.2.1 = 3 ∧ b (pread b n key F 0 (par + 1) bang (pnext b n t) L).2.1.1 = 41
            · rw [if_pos c4]
              obtain ⟨k1, k2, A, eA, xA⟩ := g3 c4.1
              have hn2 := pnext_ok g1
              have g4 := g1.1
              refine ⟨hn2.1, by show t.1 ≤ (pnext b n (pread b n key F 0 (par + 1) bang (pnext b n t) L).2.1).1; omega, fun _ => ⟨by show t.1 < (pnext b n (pread b n key F 0 (par + 1) bang (pnext b n t) L).2.1).1; omega, ?_, A, eA, xA⟩⟩
              show (pread b n key F 0 (par + 1) bang (pnext b n t) L).2.2.length + t.1 ≤ L.length + (pnext b n (pread b n key F 0 (par + 1) bang (pnext b n t) L).2.1).1
              omega
            · rw [if_neg c4]; exact ⟨g1, by show t.1 ≤ (pread b n key F 0 (par + 1) bang (pnext b n t) L).2.1.1; omega, fun q => Bool.noConfusion q⟩
          · rw [if_neg c3]; exact ⟨ht, Nat.le_refl _, fun q => Bool.noConfusion q⟩
end
section
/-! TEXT: the class's tape, its small methods -/
def TB (S : jM) (t n : Nat) (b : Nat → Nat) : Prop := TpL S t ∧ n ≤ 96 ∧ ji S t 1 = nI n ∧ ∀ j, j < n → b j < 256 ∧ ji S (t + 1) j = nI (b j)
def TKC (S : jM) (t : Nat) (k : jtk) : Prop := ji S t 2 = nI k.1 ∧ ji S t 3 = nI k.2.1 ∧ ji S t 4 = nI k.2.2.1 ∧ ji S t 5 = nI k.2.2.2
/-- what a step changes -/
def jts (S S' : jM) (t : Nat) : Prop := jsame S S' ∧ (∀ y, y ≠ t → ji S' y = ji S y) ∧ ∀ j, (j < 2 ∨ 6 ≤ j) → ji S' t j = ji S t j
section jTape1
variable {E : jEnv} {d : Nat} {S S' : jM} {t n : Nat} {b : Nat → Nat}
theorem jts.rfl : jts S S t := ⟨jsame.rfl, fun _ _ => _root_.rfl, fun _ _ => _root_.rfl⟩
theorem jts.trans {S1 S2 : jM} (h1 : jts S S1 t) (h2 : jts S1 S2 t) : jts S S2 t := ⟨h1.1.trans h2.1, fun y a => (h2.2.1 y a).trans (h1.2.1 y a), fun j a => (h2.2.2 j a).trans (h1.2.2 j a)⟩
theorem jts.put {j : Nat} {w : Int32} (h1 : 2 ≤ j) (h2 : j < 6) : jts S (jput S t j w) t := ⟨⟨_root_.rfl, _root_.rfl, _root_.rfl, _root_.rfl⟩, fun y a => ji_put_ne _ _ _ _ a, fun k hk => by rw [ji_put, if_neg (by omega)]⟩
theorem TB.ts (h : TB S t n b) (g : jts S S' t) : TB S' t n b := by
  obtain ⟨h1, h2, h3, h4⟩ := h
  exact ⟨h1.same g.1, h2, (g.2.2 1 (by omega)).trans h3, fun j hj => ⟨(h4 j hj).1, by rw [g.2.1 _ (by omega)]; exact (h4 j hj).2⟩⟩
theorem c_X8_byteAt {Q : Int32 → jM → Prop} {p : Nat} (hT : TB S t n b) (hp : p < n) (h : Q (nI (b p)) S) : jFi E mX8_byteAt d 0 0 [.ref t, .int (nI p)] S Q := by
  obtain ⟨hL, h96, h1, hb⟩ := hT
  refine T_X8_byteAt ⟨fun c => absurd c (nI_pos (by omega)), fun _ => ⟨hL.1, ?_⟩⟩
  rw [h1]
  refine ⟨fun c => absurd c (nI_ge (by omega) (by omega)), fun _ => ⟨fun c => absurd c (nI_ge (b := 96) (by omega) (by omega)), fun _ => ⟨_, hL.2.1, hL.2.2.2.1, by rw [hL.2.2.2.2.1]; exact jin_nI (by omega) (by omega), ?_⟩⟩⟩
  rw [jcl (by omega), (hb p hp).2]; exact h
theorem c_X8_sortAt {Q : Int32 → jM → Prop} {p : Nat} (hT : TB S t n b) (hp : p ≤ 96) (h : Q (nI (psrt b n p)) S) : jFi E mX8_sortAt (d + 1) 0 0 [.ref t, .int (nI p)] S Q := by
  have hn := hT.2.1
  refine T_X8_sortAt ⟨hT.1.1, ?_⟩
  rw [hT.2.2.1]
  refine ⟨fun c => ?_, fun c => ?_⟩
  · have hpn : p < n := (nI_ltI (by omega) (by omega)).mp c
    have hb := (hT.2.2.2 p hpn).1
    refine c_X8_byteAt hT hpn ?_
    have e : psrt b n p = if 97 ≤ b p ∧ b p ≤ 122 then 1 else if 48 ≤ b p ∧ b p ≤ 57 then 2 else 3 := if_neg (by omega)
    rw [e] at h
    have lt : ∀ k, k < 256 → (nI (b p) < nI k ↔ b p < k) := fun k hk => nI_ltI (by omega) (by omega)
    have gt : ∀ k, k < 256 → (nI k < nI (b p) ↔ k < b p) := fun k hk => nI_ltI (by omega) (by omega)
    have l97 := lt 97 (by omega)
    have l48 := lt 48 (by omega)
    have g57 := gt 57 (by omega)
    have g122 := gt 122 (by omega)
    refine ⟨fun c1 => ⟨fun c2 => ?_, fun c2 => ⟨fun c3 => ?_, fun c3 => ?_⟩⟩, fun c1 => ⟨fun c2 => ⟨fun c3 => ?_, fun c3 => ⟨fun c4 => ?_, fun c4 => ?_⟩⟩, fun c2 => ?_⟩⟩
    · have q1 := l97.mp c1
      have q2 := l48.mp c2
      rw [if_neg (by omega), if_neg (by omega)] at h; exact h
    · have q1 := l97.mp c1
      have q2 := g57.mp c3
      rw [if_neg (by omega), if_neg (by omega)] at h; exact h
    · have q1 := l97.mp c1
      have q2 : ¬ b p < 48 := fun q => c2 (l48.mpr q)
      have q3 : ¬ 57 < b p := fun q => c3 (g57.mpr q)
      rw [if_neg (by omega), if_pos (by omega)] at h; exact h
    · have q1 : ¬ b p < 97 := fun q => c1 (l97.mpr q)
      have q2 := l48.mp c3
      omega
    · have q1 : ¬ b p < 97 := fun q => c1 (l97.mpr q)
      have q2 := g122.mp c2
      rw [if_neg (by omega), if_neg (by omega)] at h; exact h
    · have q1 : ¬ b p < 97 := fun q => c1 (l97.mpr q)
      have q2 : ¬ 57 < b p := fun q => c4 (g57.mpr q)
      omega
    · have q1 : ¬ b p < 97 := fun q => c1 (l97.mpr q)
      have q2 : ¬ 122 < b p := fun q => c2 (g122.mpr q)
      rw [if_pos (by omega)] at h; exact h
  · have hpn : n ≤ p := by
      rcases Nat.lt_or_ge p n with q | q
      · exact absurd (nI_lt q (by omega)) c
      · exact q
    rw [psrt_0.mpr hpn] at h; exact h
theorem c_X8_step {Q : jM → Prop} {e so : Nat} (hT : TB S t n b) (h3 : ji S t 3 = nI e) (h4 : ji S t 4 = nI so) (he : e ≤ n) (hso : so ≤ 3) (hq : ∀ S', jts S S' t → TKC S' t (ptok b n (if so = 1 ∨ so = 2 then 1 else 0) e) → Q S') : jFv E mX8_step (d + 2) 0 0 [.ref t] S Q := by
  have hn := hT.2.1
  -- the word's end
  have l129 : ∀ (c q st s nb : Nat) (S1 : jM), q + c = n ∨ (n ≤ q ∧ c = 0) → q ≤ 96 → jts S S1 t → ji S1 t 2 = nI st → ji S1 t 3 = nI q → ji S1 t 4 = nI s → s ≤ 3 → ji S1 t 5 = nI nb → (∀ S', jts S S' t → ji S' t 2 = nI st → ji S' t 3 = nI (if s = 3 then q else prun b n s c q) → ji S' t 4 = nI s → ji S' t 5 = nI nb → Q S') → L_X8_step_129 E (d + 1) Q t S1 := by
    intro c
    induction c with
    | zero =>
      intro q st s nb S1 hc hq96 g1 f2 f3 f4 hs f5 hq1
      have T1 := hT.ts g1
      refine T_X8_step_129 ⟨T1.1.1, ?_⟩
      rw [T1.2.2.1, f3]
      refine ⟨fun _ => ?_, fun cc => absurd (nI_le (by omega) (by omega)) cc⟩
      refine hq1 S1 g1 f2 ?_ f4 f5
      rw [f3]
      split <;> rfl
    | succ c ih =>
      intro q st s nb S1 hc hq96 g1 f2 f3 f4 hs f5 hq1
      have T1 := hT.ts g1
      refine T_X8_step_129 ⟨T1.1.1, ?_⟩
      rw [T1.2.2.1, f3, f4]
      refine ⟨fun cc => absurd cc (nI_ge (by omega) (by omega)), fun _ => ⟨fun c3 => ?_, fun c3 => ?_⟩⟩
      · have es : s = 3 := nI_inj (b := 3) (by omega) (by omega) c3
        refine hq1 S1 g1 f2 ?_ f4 f5
        rw [f3, if_pos es]
      · have es : ¬ s = 3 := fun q => c3 (by rw [q]; rfl)
        refine c_X8_sortAt T1 (by omega) ⟨T1.1.1, ?_⟩
        rw [f4, f3, nI_1]
        have ep : prun b n s (c + 1) q = if psrt b n q = s then prun b n s c (q + 1) else q := rfl
        refine ⟨fun c4 => ?_, fun c4 => ?_⟩
        · have e4 : psrt b n q = s := nI_inj (Nat.lt_of_le_of_lt psrt_le (by omega)) (by omega) c4
          rw [ep, if_pos e4, if_neg es] at hq1
          exact ih (q + 1) st s nb _ (by omega) (by omega) (g1.trans (jts.put (by omega) (by omega))) (by rw [ji_put, if_neg (by omega)]; exact f2) (by rw [ji_put_same]) (by rw [ji_put, if_neg (by omega)]; exact f4) hs (by rw [ji_put, if_neg (by omega)]; exact f5) (by rw [if_neg es]; exact hq1)
        · have e4 : ¬ psrt b n q = s := fun z => c4 (by rw [z])
          refine hq1 S1 g1 f2 ?_ f4 f5
          rw [f3, if_neg es, ep, if_neg e4]
  -- behind the blanks
  have aft : ∀ (st nb : Nat) (S1 : jM), pskp b (n - e) e = st → jts S S1 t → ji S1 t 2 = nI st → nb = (if (so = 1 ∨ so = 2) ∧ st = e then 1 else 0) → (nI (psrt b n st) = 0 → L_X8_step_129 E (d + 1) Q t (jput (jput (jput S1 t 4 (nI (psrt b n st))) t 5 (nI nb)) t 3 (nI st))) ∧ (¬ nI (psrt b n st) = 0 → L_X8_step_129 E (d + 1) Q t (jput (jput (jput S1 t 4 (nI (psrt b n st))) t 5 (nI nb)) t 3 (nI st + 1))) := by
    intro st nb S1 hst g1 f2 hnb
    have hge := pskp_ge b (n - e) e
    rw [hst] at hge
    have et : ptok b n (if so = 1 ∨ so = 2 then 1 else 0) e = (st, (if psrt b n st = 0 then st else if psrt b n st = 3 then st + 1 else prun b n (psrt b n st) (n - (st + 1)) (st + 1)), psrt b n st, nb) := by
      unfold ptok
      rw [hst]
      show (st, _, psrt b n st, _) = _
      congr 3
      rw [hnb]
      by_cases w : so = 1 ∨ so = 2
      · rw [if_pos w]
        by_cases q : st = e
        · rw [if_pos ⟨rfl, q⟩, if_pos ⟨w, q⟩]
        · rw [if_neg (fun z => q z.2), if_neg (fun z => q z.2)]
      · rw [if_neg w, if_neg (fun z => absurd z.1 (by decide)), if_neg (fun z => w z.1)]
    rw [et] at hq
    have g2 : ∀ w : Int32, jts S (jput (jput (jput S1 t 4 (nI (psrt b n st))) t 5 (nI nb)) t 3 w) t := fun w => ((g1.trans (jts.put (by omega) (by omega))).trans (jts.put (by omega) (by omega))).trans (jts.put (by omega) (by omega))
    have p2 : ∀ w : Int32, ji (jput (jput (jput S1 t 4 (nI (psrt b n st))) t 5 (nI nb)) t 3 w) t 2 = nI st := fun w => by rw [ji_put, if_neg (by omega), ji_put, if_neg (by omega), ji_put, if_neg (by omega)]; exact f2
    have p4 : ∀ w : Int32, ji (jput (jput (jput S1 t 4 (nI (psrt b n st))) t 5 (nI nb)) t 3 w) t 4 = nI (psrt b n st) := fun w => by rw [ji_put, if_neg (by omega), ji_put, if_neg (by omega), ji_put_same]
    have p5 : ∀ w : Int32, ji (jput (jput (jput S1 t 4 (nI (psrt b n st))) t 5 (nI nb)) t 3 w) t 5 = nI nb := fun w => by rw [ji_put, if_neg (by omega), ji_put_same]
    have le3 := psrt_le (b := b) (n := n) (p := st)
    refine ⟨fun c0 => ?_, fun c0 => ?_⟩
    · have e0 : psrt b n st = 0 := nI_inj (b := 0) (by omega) (by omega) c0
      have hns := psrt_0.mp e0
      refine l129 0 st st (psrt b n st) nb _ (Or.inr ⟨hns, rfl⟩) (by omega) (g2 _) (p2 _) (by rw [ji_put_same]) (p4 _) le3 (p5 _) (fun S' gg q2 q3 q4 q5 => hq S' gg ⟨q2, ?_, q4, q5⟩)
      rw [q3]
      show nI (if psrt b n st = 3 then st else st) = nI (if psrt b n st = 0 then st else _)
      rw [if_pos e0]; split <;> rfl
    · have e0 : ¬ psrt b n st = 0 := fun z => c0 (by rw [z]; rfl)
      have hns : ¬ n ≤ st := fun z => e0 (psrt_0.mpr z)
      rw [nI_1]
      refine l129 (n - (st + 1)) (st + 1) st (psrt b n st) nb _ (by omega) (by omega) (g2 _) (p2 _) (by rw [ji_put_same]) (p4 _) le3 (p5 _) (fun S' gg q2 q3 q4 q5 => hq S' gg ⟨q2, ?_, q4, q5⟩)
      rw [q3]
      show nI _ = nI (if psrt b n st = 0 then st else if psrt b n st = 3 then st + 1 else _)
      rw [if_neg e0]
  have tree : ∀ (x1 : Int32) (st : Nat) (S1 : jM), x1 = (if so = 1 ∨ so = 2 then 1 else 0) → pskp b (n - e) e = st → jts S S1 t → ji S1 t 2 = nI st → (x1 = 0 → (nI (psrt b n st) = 0 → L_X8_step_129 E (d + 1) Q t (jput (jput (jput S1 t 4 (nI (psrt b n st))) t 5 0) t 3 (ji S1 t 2))) ∧ (¬ nI (psrt b n st) = 0 → L_X8_step_129 E (d + 1) Q t (jput (jput (jput S1 t 4 (nI (psrt b n st))) t 5 0) t 3 ((ji S1 t 2) + 1)))) ∧ (¬ x1 = 0 → ((ji S1 t 2) = nI e → (nI (psrt b n st) = 0 → L_X8_step_129 E (d + 1) Q t (jput (jput (jput S1 t 4 (nI (psrt b n st))) t 5 1) t 3 (ji S1 t 2))) ∧ (¬ nI (psrt b n st) = 0 → L_X8_step_129 E (d + 1) Q t (jput (jput (jput S1 t 4 (nI (psrt b n st))) t 5 1) t 3 ((ji S1 t 2) + 1)))) ∧ (¬ (ji S1 t 2) = nI e → (nI (psrt b n st) = 0 → L_X8_step_129 E (d + 1) Q t (jput (jput (jput S1 t 4 (nI (psrt b n st))) t 5 0) t 3 (ji S1 t 2))) ∧ (¬ nI (psrt b n st) = 0 → L_X8_step_129 E (d + 1) Q t (jput (jput (jput S1 t 4 (nI (psrt b n st))) t 5 0) t 3 ((ji S1 t 2) + 1))))) := by
    intro x1 st S1 hx hst g1 f2
    have hge := pskp_ge b (n - e) e
    rw [hst] at hge
    rw [f2]
    refine ⟨fun c => aft st 0 S1 hst g1 f2 ?_, fun c => ⟨fun c1 => aft st 1 S1 hst g1 f2 ?_, fun c1 => aft st 0 S1 hst g1 f2 ?_⟩⟩
    · rw [if_neg (fun z => ?_)]
      rw [hx, if_pos z.1] at c; exact absurd c (by decide)
    · have es : st = e := nI_inj (by omega) (by omega) c1
      have w : so = 1 ∨ so = 2 := by
        refine Classical.byContradiction (fun z => c ?_)
        rw [hx, if_neg z]
      rw [if_pos ⟨w, es⟩]
    · rw [if_neg (fun z => c1 (by rw [z.2]))]
  have l35 : ∀ (c p : Nat) (x1 : Int32) (S1 : jM), p + c = n → e ≤ p → x1 = (if so = 1 ∨ so = 2 then 1 else 0) → pskp b (n - e) e = pskp b c p → jts S S1 t → ji S1 t 2 = nI p → L_X8_step_35 E (d + 1) Q t x1 (nI e) S1 := by
    intro c
    induction c with
    | zero =>
      intro p x1 S1 hp hep hx hsk g1 f2
      obtain rfl : p = n := by omega
      have T1 := hT.ts g1
      refine T_X8_step_35 ⟨T1.1.1, fun _ => ?_, fun cc => absurd (by rw [T1.2.2.1, f2]; exact Int32.le_rfl) cc⟩
      rw [f2]
      refine c_X8_sortAt T1 (by omega) ⟨T1.1.1, ?_⟩
      exact tree x1 p S1 hx hsk g1 f2
    | succ c ih =>
      intro p x1 S1 hp hep hx hsk g1 f2
      have T1 := hT.ts g1
      refine T_X8_step_35 ⟨T1.1.1, fun cc => absurd (by rw [T1.2.2.1, f2] at cc; exact cc) (nI_ge (by omega) (by omega)), fun _ => ?_⟩
      rw [f2]
      have hb := (hT.2.2.2 p (by omega)).1
      have ek : pskp b (c + 1) p = if b p = 32 then pskp b c (p + 1) else p := rfl
      refine c_X8_byteAt T1 (by omega) ⟨fun c32 => ⟨T1.1.1, ?_⟩, fun c32 => ⟨T1.1.1, ?_⟩⟩
      · have e32 : b p = 32 := nI_inj (b := 32) (by omega) (by omega) c32
        rw [f2, nI_1]
        refine ih (p + 1) x1 _ (by omega) (by omega) hx ?_ (g1.trans (jts.put (by omega) (by omega))) (by rw [ji_put_same])
        rw [hsk, ek, if_pos e32]
      · have e32 : ¬ b p = 32 := fun z => c32 (by rw [z]; rfl)
        rw [f2]
        refine c_X8_sortAt T1 (by omega) ⟨T1.1.1, ?_⟩
        exact tree x1 p S1 hx (by rw [hsk, ek, if_neg e32]) g1 f2
  refine T_X8_step ⟨hT.1.1, ?_⟩
  rw [h4, h3]
  have g0 : jts S (jput S t 2 (nI e)) t := jts.put (by omega) (by omega)
  have f0 : ji (jput S t 2 (nI e)) t 2 = nI e := ji_put_same _ _ _ _
  refine ⟨fun c1 => l35 (n - e) e 1 _ (by omega) (Nat.le_refl _) ?_ rfl g0 f0, fun c1 => ⟨fun c2 => l35 (n - e) e 1 _ (by omega) (Nat.le_refl _) ?_ rfl g0 f0, fun c2 => l35 (n - e) e 0 _ (by omega) (Nat.le_refl _) ?_ rfl g0 f0⟩⟩
  · have : so = 1 := nI_inj (b := 1) (by omega) (by omega) c1
    rw [if_pos (Or.inl this)]
  · have : so = 2 := nI_inj (b := 2) (by omega) (by omega) c2
    rw [if_pos (Or.inr this)]
  · rw [if_neg (fun z => ?_)]
    rcases z with z | z
    · exact c1 (by rw [z]; rfl)
    · exact c2 (by rw [z]; rfl)
end jTape1
end
section
/-! TEXT: the class's tape, what is in hand -/
def pops : List Nat → Nat
  | [] => 0
  | w :: A => (if w < 20000 then 1 else 0) + pops A
theorem pops_app : ∀ (A B : List Nat), pops (A ++ B) = pops A + pops B
  | [], B => by show pops B = 0 + pops B; omega
  | w :: A, B => by
    show (if w < 20000 then 1 else 0) + pops (A ++ B) = (if w < 20000 then 1 else 0) + pops A + pops B
    rw [pops_app A B]; omega
def CDC (S : jM) (t : Nat) (L : List Nat) : Prop := ji S t 9 = nI L.length ∧ ji S t 7 = nI (pops L) ∧ ∀ i, i < L.length → ji S (t + 2) i = nI (L.getD i 0)
/-- what reading changes -/
def jtp (S S' : jM) (t : Nat) : Prop := jsame S S' ∧ (∀ y, y ≠ t → y ≠ t + 2 → ji S' y = ji S y) ∧ ∀ j, (j = 1 ∨ j = 6) → ji S' t j = ji S t j
theorem nI_sub {m k : Nat} (h : k ≤ m) : nI m - nI k = nI (m - k) := by
  have e : nI m = nI (m - k) + nI k := by rw [nI_add]; congr 1; omega
  rw [e, Int32.add_sub_cancel]
/-- word i of the keys is in hand -/
def pwd (b : Nat → Nat) (k : jtk) (i : Nat) : Prop := k.2.2.1 = 1 ∧ k.2.1 - k.1 = 4 ∧ ∀ j, j < 4 → nI (b (k.1 + j)) = sB i j
section jTape2
variable {E : jEnv} {d : Nat} {S S' : jM} {t n : Nat} {b : Nat → Nat} {k : jtk}
theorem jtp.rfl : jtp S S t := ⟨jsame.rfl, fun _ _ _ => _root_.rfl, fun _ _ => _root_.rfl⟩
theorem jtp.trans {S1 S2 : jM} (h1 : jtp S S1 t) (h2 : jtp S1 S2 t) : jtp S S2 t := ⟨h1.1.trans h2.1, fun y a b => (h2.2.1 y a b).trans (h1.2.1 y a b), fun j a => (h2.2.2 j a).trans (h1.2.2 j a)⟩
theorem jts.tp (h : jts S S' t) : jtp S S' t := ⟨h.1, fun y a _ => h.2.1 y a, fun j hj => h.2.2 j (by omega)⟩
theorem TB.tp (h : TB S t n b) (g : jtp S S' t) : TB S' t n b := by
  obtain ⟨h1, h2, h3, h4⟩ := h
  exact ⟨h1.same g.1, h2, (g.2.2 1 (Or.inl _root_.rfl)).trans h3, fun j hj => ⟨(h4 j hj).1, by rw [g.2.1 _ (by omega) (by omega)]; exact (h4 j hj).2⟩⟩
theorem CDC.ts {L : List Nat} (h : CDC S t L) (g : jts S S' t) : CDC S' t L := ⟨(g.2.2 9 (by omega)).trans h.1, (g.2.2 7 (by omega)).trans h.2.1, fun i hi => by rw [g.2.1 _ (by omega)]; exact h.2.2 i hi⟩
theorem c_X8_next {Q : jM → Prop} (hT : TB S t n b) (hK : TKC S t k) (ok : TKok b n k) (hq : ∀ S', jts S S' t → TKC S' t (pnext b n k) → Q S') : jFv E mX8_step (d + 2) 0 0 [.ref t] S Q :=
  c_X8_step hT hK.2.1 hK.2.2.1 ok.2.1 (by rw [ok.2.2.1]; exact psrt_le) hq
theorem TKok.lt (ok : TKok b n k) (h : k.2.2.1 ≠ 0) : k.1 < n := Nat.lt_of_lt_of_le (ok.2.2.2.1 h) ok.2.1
theorem TKok.so (ok : TKok b n k) : k.2.2.1 ≤ 3 := by rw [ok.2.2.1]; exact psrt_le
theorem c_X8_isInHand {Q : Int32 → jM → Prop} {c : Nat} (hT : TB S t n b) (hK : TKC S t k) (ok : TKok b n k) (hc : c < 256) (h1 : k.2.2.1 = 3 → b k.1 = c → Q 1 S) (h0 : ¬ (k.2.2.1 = 3 ∧ b k.1 = c) → Q 0 S) : jFi E mX8_isInHand (d + 1) 0 0 [.ref t, .int (nI c)] S Q := by
  have s3 := ok.so
  refine T_X8_isInHand ⟨hT.1.1, ?_⟩
  rw [hK.2.2.1, hK.1]
  refine ⟨fun c3 => ?_, fun c3 => h0 (fun z => c3 (by rw [z.1]; rfl))⟩
  have e3 : k.2.2.1 = 3 := nI_inj (b := 3) (by omega) (by omega) c3
  have hl := ok.lt (by omega)
  have hb := (hT.2.2.2 k.1 hl).1
  exact c_X8_byteAt hT hl ⟨fun e => h1 e3 (nI_inj (by omega) (by omega) e), fun e => h0 (fun z => e (by rw [z.2]))⟩
theorem c_X8_levelInHand {Q : Int32 → jM → Prop} (hT : TB S t n b) (hK : TKC S t k) (ok : TKok b n k) (h : Q (if plev b k = 9 then -1 else nI (plev b k)) S) : jFi E mX8_levelInHand (d + 1) 0 0 [.ref t] S Q := by
  have s3 := ok.so
  refine T_X8_levelInHand ⟨hT.1.1, ?_⟩
  rw [hK.2.2.1, hK.1]
  refine ⟨fun c3 => ?_, fun c3 => ?_⟩
  · have e3 : k.2.2.1 = 3 := nI_inj (b := 3) (by omega) (by omega) c3
    have hl := ok.lt (by omega)
    have hb := (hT.2.2.2 k.1 hl).1
    refine c_X8_byteAt hT hl ?_
    have eq : ∀ c, c < 256 → (nI (b k.1) = nI c ↔ b k.1 = c) := fun c hc => ⟨fun e => nI_inj (by omega) (by omega) e, fun e => by rw [e]⟩
    unfold plev at h
    rw [if_pos e3] at h
    have q38 := eq 38 (by omega)
    have q42 := eq 42 (by omega)
    have q43 := eq 43 (by omega)
    have q45 := eq 45 (by omega)
    have q47 := eq 47 (by omega)
    have q60 := eq 60 (by omega)
    have q61 := eq 61 (by omega)
    have q62 := eq 62 (by omega)
    have q124 := eq 124 (by omega)
    refine ⟨fun e => ?_, fun e => ?_, fun e => ?_, fun e => ?_, fun e => ?_, fun e => ?_, fun e => ?_, fun e => ?_, fun e => ?_, fun e1 e2 e3 e4 e5 e6 e7 e8 e9 => ?_⟩
    · rw [q38.mp e] at h; exact h
    · rw [q42.mp e] at h; exact h
    · rw [q43.mp e] at h; exact h
    · rw [q45.mp e] at h; exact h
    · rw [q47.mp e] at h; exact h
    · rw [q60.mp e] at h; exact h
    · rw [q61.mp e] at h; exact h
    · rw [q62.mp e] at h; exact h
    · rw [q124.mp e] at h; exact h
    · rw [if_neg (c := b k.1 = 124) (fun z => e9 (q124.mpr z)), if_neg (c := b k.1 = 38) (fun z => e1 (q38.mpr z)), if_neg (c := b k.1 = 60) (fun z => e6 (q60.mpr z)), if_neg (c := b k.1 = 61) (fun z => e7 (q61.mpr z)), if_neg (c := b k.1 = 62) (fun z => e8 (q62.mpr z)), if_neg (c := b k.1 = 43) (fun z => e3 (q43.mpr z)), if_neg (c := b k.1 = 45) (fun z => e4 (q45.mpr z)), if_neg (c := b k.1 = 42) (fun z => e2 (q42.mpr z)), if_neg (c := b k.1 = 47) (fun z => e5 (q47.mpr z))] at h
      exact h
  · have e3 : ¬ k.2.2.1 = 3 := fun z => c3 (by rw [z]; rfl)
    unfold plev at h
    rw [if_neg e3] at h; exact h
theorem c_X8_numberInHand {Q : Int32 → jM → Prop} (hT : TB S t n b) (hK : TKC S t k) (ok : TKok b n k) (e2 : k.2.2.1 = 2) (h0 : 4 < k.2.1 - k.1 → Q (-1) S) (h1 : ¬ 4 < k.2.1 - k.1 → Q (nI (pnum b (k.2.1 - k.1) k.1 0)) S) : jFi E mX8_numberInHand (d + 1) 0 0 [.ref t] S Q := by
  have h96 := hT.2.1
  obtain ⟨k1, k2, k3, k4, k5, k6, k7⟩ := id ok
  have loop : ∀ (c p a : Nat), p + c = k.2.1 → k.1 ≤ p → (Q (nI (pnum b c p a)) S) → L_X8_numberInHand_22 E d Q t (nI a) (nI p) S := by
    intro c
    induction c with
    | zero =>
      intro p a hp _ hq
      obtain rfl : p = k.2.1 := by omega
      refine T_X8_numberInHand_22 ⟨hT.1.1, fun _ => hq, fun cc => absurd (by rw [hK.2.1]; exact Int32.le_rfl) cc⟩
    | succ c ih =>
      intro p a hp hp1 hq
      refine T_X8_numberInHand_22 ⟨hT.1.1, fun cc => absurd (by rw [hK.2.1] at cc; exact cc) (nI_ge (by omega) (by omega)), fun _ => c_X8_byteAt hT (by omega) ?_⟩
      have hd := psrt_2 ((k7 p hp1 (by omega)).trans e2)
      rw [nI_1, show (10 : Int32) = nI 10 from rfl, nI_mul, nI_add, show (48 : Int32) = nI 48 from rfl, nI_sub (by omega)]
      exact ih (p + 1) _ (by omega) (by omega) hq
  refine T_X8_numberInHand ⟨hT.1.1, ?_⟩
  rw [hK.1, hK.2.1, nI_sub k1]
  refine ⟨fun c => loop (k.2.1 - k.1) k.1 0 (by omega) (Nat.le_refl _) (h1 ?_), fun c => h0 ?_⟩
  · have := (nI_leI (b := 4) (by omega) (by omega)).mp c
    omega
  · rcases Nat.lt_or_ge 4 (k.2.1 - k.1) with q | q
    · exact q
    · exact absurd (nI_le (b := 4) q (by omega)) c
theorem T_X8_namesOf {Q : Option Nat → jM → Prop} {key : Nat} (hk : key < 3) (h : Q (some (eK E (3 + key))) S) : jFr E mX8_namesOf d 0 0 [.int (nI key)] S Q := by
  refine jF_of (by decide) (jle rfl) ?_
  refine jx_lv (lv1 := [(0, .int (nI key))]) [0] rfl ?_
  refine jx_iload_n 0 kd171.1 rfl rfl ?_
  rcases (show key = 0 ∨ key = 1 ∨ key = 2 by omega) with rfl | rfl | rfl
  · refine jx_lookIn (v := 0) (tgt := 28) (off := 27) kd171.2.1 (by decide) rfl (by decide) (by decide) ?_
    refine jx_ldcS (q := eK E 3) rfl (fun s hG => hG.2.2.2.2.2.2.2.2.1) kd171.2.2.1 ?_
    exact jx_aret (o := some (eK E 3)) kd171.2.2.2.1 rfl (jle rfl) (jle rfl) ⟨_, rfl, h⟩
  · refine jx_lookIn (v := 1) (tgt := 31) (off := 30) kd171.2.1 (by decide) rfl (by decide) (by decide) ?_
    refine jx_ldcS (q := eK E 4) rfl (fun s hG => hG.2.2.2.2.2.2.2.2.2.1) kd171.2.2.2.2.1 ?_
    exact jx_aret (o := some (eK E 4)) kd171.2.2.2.2.2.1 rfl (jle rfl) (jle rfl) ⟨_, rfl, h⟩
  · refine jx_lookD (tgt := 34) kd171.2.1 (by decide) (by decide) (by decide) ?_
    refine jx_ldcS (q := eK E 5) rfl (fun s hG => hG.2.2.2.2.2.2.2.2.2.2.1) kd171.2.2.2.2.2.2.1 ?_
    exact jx_aret (o := some (eK E 5)) kd171.2.2.2.2.2.2.2.1 rfl (jle rfl) (jle rfl) ⟨_, rfl, h⟩
theorem pnam_ix : ∀ key : Fin 3, ∀ c : Fin 256, sIx (3 + key.val) ((nI c.val).toInt8.toInt32) (sL (3 + key.val)) 0 = if pnam key.val c.val = 9 then -1 else nI (pnam key.val c.val) := by decide +kernel
theorem chr_id : ∀ c : Fin 256, ((nI c.val).toUInt32 % 65536).toInt32 = nI c.val := by decide +kernel
theorem pnam_le (key c : Nat) : pnam key c ≤ 9 := by
  unfold pnam
  repeat' split
  all_goals omega
theorem c_X8_nameInHand {Q : Int32 → jM → Prop} {key : Nat} (hT : TB S t n b) (hK : TKC S t k) (ok : TKok b n k) (hk : key < 3) (h6 : ji S t 6 = nI key) (e1 : k.2.2.1 = 1) (h0 : ¬ k.2.1 - k.1 = 1 ∨ pnam key (b k.1) = 9 → Q (-1) S) (h1 : k.2.1 - k.1 = 1 → ¬ pnam key (b k.1) = 9 → Q (nI (10000 + pnam key (b k.1))) S) : jFi E mX8_nameInHand (d + 4) 0 0 [.ref t] S Q := by
  have h96 := hT.2.1
  have hl := ok.lt (by omega)
  have hb := (hT.2.2.2 k.1 hl).1
  have kl := ok.1
  have ke := ok.2.1
  have p9 := pnam_le key (b k.1)
  have fin : ∀ r : Int32, (r = -1 → Q (-1) S) → (¬ r < 0 → Q (10000 + r) S) → (r < 0 → r = -1) → jX E mX8_nameInHand (jRm (d + 4) 0 0) (jZm E (fun r S' => ∃ v : Int32, r = some (.int v) ∧ Q v S') 0 0) 36 [(0, .ref t)] [.int r] S 0 0 := by
    intro r q0 q1 q2
    refine jx_istore_n (lv1 := [(1, .int r), (0, .ref t)]) kd187.2.2.1 rfl (by decide) rfl ?_
    refine jx_iload_n 0 kd187.2.2.2.1 rfl rfl ?_
    refine jx_if_ge (tgt := 45) kd187.2.2.2.2.1 (by decide) (fun c => ?_) (fun c => ?_)
    · refine jx_sipush (v := 10000) kd187.2.2.2.2.2.2.2.1 (by decide) ?_
      refine jx_iload_n 0 kd187.2.2.2.2.2.2.2.2.1 rfl rfl ?_
      refine jx_iadd kd187.2.2.2.2.2.2.2.2.2.1 ?_
      exact jx_iret kd187.2.2.2.2.2.2.2.2.2.2.1 rfl rfl (jle rfl) (jle rfl) ⟨_, rfl, q1 (Int32.not_lt.mpr c)⟩
    · refine jx_iconst (v := -1) kd187.2.2.2.2.2.1 (by decide) ?_
      refine jx_goto (tgt := 50) kd187.2.2.2.2.2.2.1 (by decide) ?_
      exact jx_iret kd187.2.2.2.2.2.2.2.2.2.2.1 rfl rfl (jle rfl) (jle rfl) ⟨_, rfl, q0 (q2 (Int32.not_le.mp c))⟩
  refine jF_of (by decide) (jle rfl) ?_
  refine jx_lv (lv1 := [(0, .ref t)]) [0] rfl ?_
  refine jx_aload_n 0 kd186.1 rfl rfl ?_
  refine jx_geti jc_8 (j := 3) (by decide) rfl jwF_X8_26 kd186.2.1 hT.1.1 ?_
  refine jx_aload_n 0 kd186.2.2.1 rfl rfl ?_
  refine jx_geti jc_8 (j := 2) (by decide) rfl jwF_X8_63 kd186.2.2.2.1 hT.1.1 ?_
  refine jx_isub kd186.2.2.2.2.1 ?_
  rw [hK.1, hK.2.1, nI_sub kl]
  refine jx_iconst (v := 1) kd186.2.2.2.2.2.1 (by decide) ?_
  refine jx_icmp_ne (tgt := 35) kd186.2.2.2.2.2.2.1 (by decide) (fun c => ?_) (fun c => ?_)
  · refine jx_iconst (v := -1) kd187.2.1 (by decide) ?_
    exact fin (-1) (fun _ => h0 (Or.inl (fun z => c (by rw [z]; rfl)))) (fun q => absurd (by decide) q) (fun _ => rfl)
  · have ec : k.2.1 - k.1 = 1 := nI_inj (b := 1) (by omega) (by omega) c
    refine jx_aload_n 0 kd186.2.2.2.2.2.2.2.1 rfl rfl ?_
    refine jx_geti jc_8 (j := 6) (by decide) rfl jwF_X8_45 kd186.2.2.2.2.2.2.2.2.1 hT.1.1 ?_
    rw [h6]
    refine jx_callSr (M' := mX8_namesOf) (As := [.int (nI key)]) (Q' := fun o S' => o = some (eK E (3 + key)) ∧ S' = S) jo_X8_namesOf jwM_X8_130 jwS_X8_namesOf kd186.2.2.2.2.2.2.2.2.2.1 (jRok_m _ _ _) rfl (jle rfl) ⟨jle rfl, jle rfl⟩ (T_X8_namesOf hk ⟨rfl, rfl⟩) (fun o S' e => ?_)
    obtain ⟨rfl, rfl⟩ := e
    refine jx_aload_n 0 kd186.2.2.2.2.2.2.2.2.2.2.1 rfl rfl ?_
    refine jx_aload_n 0 kd186.2.2.2.2.2.2.2.2.2.2.2.1 rfl rfl ?_
    refine jx_geti jc_8 (j := 2) (by decide) rfl jwF_X8_63 kd186.2.2.2.2.2.2.2.2.2.2.2.2.1 hT.1.1 ?_
    rw [hK.1]
    refine jx_callVi (M' := mX8_byteAt) (As := [.int (nI k.1)]) (Q' := fun r S1 => r = nI (b k.1) ∧ S1 = S') jo_X8_byteAt jc_8 rfl jwM_X8_66 jwN_X8_byteAt jwX_X8_byteAt kd186.2.2.2.2.2.2.2.2.2.2.2.2.2.1 (jRok_m _ _ _) rfl (jle rfl) ⟨jle rfl, jle rfl⟩ hT.1.1 (c_X8_byteAt hT hl ⟨rfl, rfl⟩) (fun r S1 e => ?_)
    obtain ⟨rfl, rfl⟩ := e
    refine jx_i2c kd186.2.2.2.2.2.2.2.2.2.2.2.2.2.2.1 ?_
    rw [chr_id ⟨b k.1, hb⟩]
    refine jx_callKi (i := 3 + key) (M' := mJ0_indexOf_0f7a4) (As := [.int (nI (b k.1))]) (Q' := fun r S2 => r = (if pnam key (b k.1) = 9 then -1 else nI (pnam key (b k.1))) ∧ S2 = S1) jo_J0_indexOf_0f7a4 (by omega) rfl jwM_X8_133 jwN_J0_indexOf_0f7a4 jwX_J0_indexOf_0f7a4 kd186.2.2.2.2.2.2.2.2.2.2.2.2.2.2.2.1 (jRok_m _ _ _) rfl (jle rfl) ⟨jle rfl, jle rfl⟩ (c_J0_indexOf (by omega) (nI_pos (by omega)) (fun z => ?_) ⟨pnam_ix ⟨key, hk⟩ ⟨b k.1, hb⟩, rfl⟩) (fun r S2 e => ?_)
    · have := (nI_ltI (a := 255) (by omega) (by omega)).mp z
      omega
    · obtain ⟨rfl, rfl⟩ := e
      refine jx_goto (tgt := 36) kd187.1 (by decide) ?_
      by_cases c9 : pnam key (b k.1) = 9
      · rw [if_pos c9]
        exact fin (-1) (fun _ => h0 (Or.inr c9)) (fun q => absurd (by decide) q) (fun _ => rfl)
      · rw [if_neg c9]
        refine fin _ (fun z => ?_) (fun _ => ?_) (fun z => absurd z (nI_pos (by omega)))
        · have := nI_pos (n := pnam key (b k.1)) (by omega)
          rw [z] at this; exact absurd (by decide) this
        · rw [show (10000 : Int32) = nI 10000 from rfl, nI_add]; exact h1 ec c9
end jTape2
end
section
/-! TEXT: the class reads -/
section jTape3
variable {E : jEnv} {d : Nat} {S S' : jM} {t n : Nat} {b : Nat → Nat} {k : jtk}
theorem sL_k : ∀ i : Fin 3, sL i.val = 4 := by decide
theorem c_X8_isWordInHand {Q : Int32 → jM → Prop} {i : Nat} (hT : TB S t n b) (hK : TKC S t k) (ok : TKok b n k) (hi : i < 3) (h1 : pwd b k i → Q 1 S) (h0 : ¬ pwd b k i → Q 0 S) : jFi E mX8_isWordInHand (d + 4) 0 0 [.ref t, .ref (eK E i)] S Q := by
  have h96 := hT.2.1
  have kl := ok.1
  have ke := ok.2.1
  have s3 := ok.so
  have i6 : i < 6 := by omega
  have l4 : sL i = 4 := sL_k ⟨i, hi⟩
  have no : ∀ {lv : List (Nat × Value)}, ¬ pwd b k i → jX E mX8_isWordInHand (jRm (d + 4) 0 0) (jZm E (fun r S' => ∃ v : Int32, r = some (.int v) ∧ Q v S') 0 0) 24 lv [] S 0 0 := by
    intro lv hn
    refine jx_iconst (v := 0) kd167.2.2.2.2.2.2.2.2.2.2.2.2.1 (by decide) ?_
    exact jx_iret kd167.2.2.2.2.2.2.2.2.2.2.2.2.2.1 rfl (by decide) (jle rfl) (jle rfl) ⟨_, rfl, h0 hn⟩
  have len : ∀ {pc : Nat} {lv : List (Nat × Value)} {st : List Value}, decode cX8_isWordInHand pc = .ok (.invokevirtual 85, 3) → (st.map fun v => v.category).sum ≤ 8 → jX E mX8_isWordInHand (jRm (d + 4) 0 0) (jZm E (fun r S' => ∃ v : Int32, r = some (.int v) ∧ Q v S') 0 0) (pc + 3) lv (.int (nI 4) :: st) S 0 0 → jX E mX8_isWordInHand (jRm (d + 4) 0 0) (jZm E (fun r S' => ∃ v : Int32, r = some (.int v) ∧ Q v S') 0 0) pc lv (.ref (eK E i) :: st) S 0 0 := by
    intro pc lv st hd hs h
    refine jx_callKi (i := i) (M' := mJ0_length_8abf5) (As := []) (Q' := fun r S' => r = nI (sL i) ∧ S' = S) jo_J0_length_8abf5 i6 rfl jwM_X8_85 jwN_J0_length_8abf5 jwX_J0_length_8abf5 hd (jRok_m _ _ _) rfl hs ⟨jle rfl, jle rfl⟩ (c_J0_length i6 ⟨rfl, rfl⟩) (fun r S' e => ?_)
    obtain ⟨rfl, rfl⟩ := e
    rw [l4]; exact h
  have loop : ∀ (c j : Nat), j + c = 4 → k.2.2.1 = 1 → k.2.1 - k.1 = 4 → (∀ q, q < j → nI (b (k.1 + q)) = sB i q) → jX E mX8_isWordInHand (jRm (d + 4) 0 0) (jZm E (fun r S' => ∃ v : Int32, r = some (.int v) ∧ Q v S') 0 0) 28 [(2, .int (nI j)), (0, .ref t), (1, .ref (eK E i))] [] S 0 0 := by
    intro c
    induction c with
    | zero =>
      intro j hj e1 e4 hall
      obtain rfl : j = 4 := by omega
      refine jx_iload_n 0 kd168.1 rfl rfl ?_
      refine jx_aload_n 2 kd168.2.1 rfl rfl ?_
      refine len kd168.2.2.1 (jle rfl) ?_
      refine jx_icmp_ge (tgt := 62) kd168.2.2.2.1 (by decide) (fun _ => ?_) (fun c => absurd Int32.le_rfl c)
      refine jx_iconst (v := 1) kd169.2.2.1 (by decide) ?_
      exact jx_iret kd169.2.2.2.1 rfl (by decide) (jle rfl) (jle rfl) ⟨_, rfl, h1 ⟨e1, e4, hall⟩⟩
    | succ c ih =>
      intro j hj e1 e4 hall
      refine jx_iload_n 0 kd168.1 rfl rfl ?_
      refine jx_aload_n 2 kd168.2.1 rfl rfl ?_
      refine len kd168.2.2.1 (jle rfl) ?_
      refine jx_icmp_ge (tgt := 62) kd168.2.2.2.1 (by decide) (fun c => absurd c (nI_ge (by omega) (by omega))) (fun _ => ?_)
      refine jx_aload_n 1 kd168.2.2.2.2.1 rfl rfl ?_
      refine jx_aload_n 1 kd168.2.2.2.2.2.1 rfl rfl ?_
      refine jx_geti jc_8 (j := 2) (by decide) rfl jwF_X8_63 kd168.2.2.2.2.2.2.1 hT.1.1 ?_
      refine jx_iload_n 0 kd168.2.2.2.2.2.2.2.1 rfl rfl ?_
      refine jx_iadd kd168.2.2.2.2.2.2.2.2.1 ?_
      rw [hK.1, nI_add]
      refine jx_callVi (M' := mX8_byteAt) (As := [.int (nI (k.1 + j))]) (Q' := fun r S1 => r = nI (b (k.1 + j)) ∧ S1 = S) jo_X8_byteAt jc_8 rfl jwM_X8_66 jwN_X8_byteAt jwX_X8_byteAt kd168.2.2.2.2.2.2.2.2.2.1 (jRok_m _ _ _) rfl (jle rfl) ⟨jle rfl, jle rfl⟩ hT.1.1 (c_X8_byteAt hT (by omega) ⟨rfl, rfl⟩) (fun r S1 e => ?_)
      obtain ⟨rfl, rfl⟩ := e
      refine jx_aload_n 2 kd168.2.2.2.2.2.2.2.2.2.2.1 rfl rfl ?_
      refine jx_iload_n 0 kd168.2.2.2.2.2.2.2.2.2.2.2.1 rfl rfl ?_
      refine jx_callKi (i := i) (M' := mJ0_charAt_5068e) (As := [.int (nI j)]) (Q' := fun r S2 => r = sB i j ∧ S2 = S1) jo_J0_charAt_5068e i6 rfl jwM_X8_90 jwN_J0_charAt_5068e jwX_J0_charAt_5068e kd168.2.2.2.2.2.2.2.2.2.2.2.2.1 (jRok_m _ _ _) rfl (jle rfl) ⟨jle rfl, jle rfl⟩ (c_J0_charAt i6 (by omega) ⟨rfl, rfl⟩) (fun r S2 e => ?_)
      obtain ⟨rfl, rfl⟩ := e
      refine jx_icmp_eq (tgt := 56) kd168.2.2.2.2.2.2.2.2.2.2.2.2.2.1 (by decide) (fun c => ?_) (fun c => ?_)
      · refine jx_iinc 0 (v := nI (j + 1)) (lv1 := [(2, .int (nI (j + 1))), (0, .ref t), (1, .ref (eK E i))]) kd169.1 rfl (nI_1 j) (by decide) rfl ?_
        refine jx_goto (tgt := 28) kd169.2.1 (by decide) ?_
        refine ih (j + 1) (by omega) e1 e4 (fun q hq => ?_)
        by_cases e : q = j
        · rw [e]; exact c
        · exact hall q (by omega)
      · refine jx_iconst (v := 0) kd168.2.2.2.2.2.2.2.2.2.2.2.2.2.2.1 (by decide) ?_
        exact jx_iret kd168.2.2.2.2.2.2.2.2.2.2.2.2.2.2.2.1 rfl (by decide) (jle rfl) (jle rfl) ⟨_, rfl, h0 (fun z => c (z.2.2 j (by omega)))⟩
  refine jF_of (by decide) (jle rfl) ?_
  refine jx_lv (lv1 := [(0, .ref t), (1, .ref (eK E i))]) [0, 1] rfl ?_
  refine jx_aload_n 0 kd167.1 rfl rfl ?_
  refine jx_geti jc_8 (j := 4) (by decide) rfl jwF_X8_29 kd167.2.1 hT.1.1 ?_
  rw [hK.2.2.1]
  refine jx_iconst (v := 1) kd167.2.2.1 (by decide) ?_
  refine jx_icmp_ne (tgt := 24) kd167.2.2.2.1 (by decide) (fun c => no (fun z => c (by rw [z.1]; rfl))) (fun c => ?_)
  have e1 : k.2.2.1 = 1 := nI_inj (b := 1) (by omega) (by omega) c
  refine jx_aload_n 0 kd167.2.2.2.2.1 rfl rfl ?_
  refine jx_geti jc_8 (j := 3) (by decide) rfl jwF_X8_26 kd167.2.2.2.2.2.1 hT.1.1 ?_
  refine jx_aload_n 0 kd167.2.2.2.2.2.2.1 rfl rfl ?_
  refine jx_geti jc_8 (j := 2) (by decide) rfl jwF_X8_63 kd167.2.2.2.2.2.2.2.1 hT.1.1 ?_
  refine jx_isub kd167.2.2.2.2.2.2.2.2.1 ?_
  rw [hK.1, hK.2.1, nI_sub kl]
  refine jx_aload_n 1 kd167.2.2.2.2.2.2.2.2.2.1 rfl rfl ?_
  refine len kd167.2.2.2.2.2.2.2.2.2.2.1 (jle rfl) ?_
  refine jx_icmp_eq (tgt := 26) kd167.2.2.2.2.2.2.2.2.2.2.2.1 (by decide) (fun c4 => ?_) (fun c4 => no (fun z => c4 (by rw [z.2.1])))
  have e4 : k.2.1 - k.1 = 4 := nI_inj (by omega) (by omega) c4
  refine jx_iconst (v := 0) kd167.2.2.2.2.2.2.2.2.2.2.2.2.2.2.1 (by decide) ?_
  refine jx_istore_n (lv1 := [(2, .int (nI 0)), (0, .ref t), (1, .ref (eK E i))]) kd167.2.2.2.2.2.2.2.2.2.2.2.2.2.2.2.1 rfl (by decide) rfl ?_
  exact loop 4 0 (by omega) e1 e4 (fun q hq => absurd hq (Nat.not_lt_zero _))
theorem c_X8_keyInHand {Q : Int32 → jM → Prop} (hT : TB S t n b) (hK : TKC S t k) (ok : TKok b n k) (h1 : ∀ i, i < 3 → pwd b k i → (∀ j, j < i → ¬ pwd b k j) → Q (nI i) S) (h0 : (∀ j, j < 3 → ¬ pwd b k j) → Q (-1) S) : jFi E mX8_keyInHand (d + 5) 0 0 [.ref t] S Q := by
  have one : ∀ i, i < 3 → (∀ j, j < i → ¬ pwd b k j) → ((∀ j, j < i + 1 → ¬ pwd b k j) → L_X8_keyInHand_2 E (d + 4) Q t (nI (i + 1)) S) → L_X8_keyInHand_2 E (d + 4) Q t (nI i) S := by
    intro i hi hno nxt
    have w : ∀ q, q = eK E i → ((some q = none → jk S t = 8 ∧ jFi E mX8_isWordInHand (d + 4) 0 0 [.ref t, .null] S (fun r7 S6 => (r7 = 0 → L_X8_keyInHand_2 E (d + 4) Q t (nI i + 1) S6) ∧ (¬ r7 = 0 → Q (nI i) S6))) ∧ (∀ b4, some q = some b4 → jk S t = 8 ∧ jFi E mX8_isWordInHand (d + 4) 0 0 [.ref t, .ref b4] S (fun r11 S10 => (r11 = 0 → L_X8_keyInHand_2 E (d + 4) Q t (nI i + 1) S10) ∧ (¬ r11 = 0 → Q (nI i) S10)))) := by
      intro q eq
      refine ⟨fun c => absurd c (by simp), fun b4 e => ⟨hT.1.1, ?_⟩⟩
      obtain rfl : q = b4 := Option.some.inj e
      rw [eq, nI_1]
      exact c_X8_isWordInHand hT hK ok hi (fun z => ⟨fun c => absurd c (by decide), fun _ => h1 i hi z hno⟩) (fun z => ⟨fun _ => nxt (fun j hj => by
        by_cases e : j = i
        · rw [e]; exact z
        · exact hno j (by omega)), fun c => absurd rfl c⟩)
    refine T_X8_keyInHand_2 ⟨fun c => absurd c (nI_ge (b := 3) (by omega) (by omega)), fun _ => T_X8_wordOf ⟨fun c => w _ ?_, fun c => w _ ?_, fun c c2 => w _ ?_⟩⟩
    · have : i = 0 := nI_inj (b := 0) (by omega) (by omega) c
      rw [this]
    · have : i = 1 := nI_inj (b := 1) (by omega) (by omega) c
      rw [this]
    · have : i = 2 := by
        have q0 : i ≠ 0 := fun z => c (by rw [z]; rfl)
        have q1 : i ≠ 1 := fun z => c2 (by rw [z]; rfl)
        omega
      rw [this]
  exact T_X8_keyInHand (one 0 (by omega) (fun j hj => absurd hj (Nat.not_lt_zero _)) (fun a0 => one 1 (by omega) a0 (fun a1 => one 2 (by omega) a1 (fun a2 => T_X8_keyInHand_2 ⟨fun _ => h0 a2, fun c => absurd (by decide) c⟩))))
/-! writing -/
theorem getD_app {L : List Nat} {w i : Nat} : (L ++ [w]).getD i 0 = if i = L.length then w else L.getD i 0 := by
  by_cases h : i = L.length
  · rw [if_pos h, h]; simp [List.getD_eq_getElem?_getD]
  · rw [if_neg h]
    rcases Nat.lt_or_ge i L.length with q | q
    · simp [List.getD_eq_getElem?_getD, List.getElem?_append_left q]
    · have h1 : (L ++ [w])[i]? = none := by
        apply List.getElem?_eq_none
        rw [List.length_append]
        show L.length + 1 ≤ i
        omega
      have h2 : L[i]? = none := List.getElem?_eq_none q
      simp [List.getD_eq_getElem?_getD, h1, h2]
theorem c_X8_write {Q : jM → Prop} {L : List Nat} {w : Nat} (hT : TB S t n b) (hL : CDC S t L) (h96 : L.length < 96) (hq : ∀ S', jtp S S' t → (∀ j, j ≠ 9 → ji S' t j = ji S t j) → ji S' t 9 = nI (L.length + 1) → (∀ i, i < L.length + 1 → ji S' (t + 2) i = nI ((L ++ [w]).getD i 0)) → Q S') : jFv E mX8_write (d + 1) 0 0 [.ref t, .int (nI w)] S Q := by
  obtain ⟨l1, l2, l3⟩ := hL
  refine T_X8_write ⟨hT.1.1, ?_⟩
  rw [l1]
  refine ⟨fun c => absurd c (jwi96 h96), fun _ => ⟨_, hT.1.2.2.1, hT.1.2.2.2.2.2.1, by rw [hT.1.2.2.2.2.2.2]; exact jin_nI h96 (by omega), ?_⟩⟩
  rw [jcl (by omega), nI_1]
  refine hq _ ⟨⟨rfl, rfl, rfl, rfl⟩, fun y a c => by rw [ji_put_ne _ _ _ _ a, ji_put_ne _ _ _ _ c], fun j hj => by rw [ji_put, if_neg (by omega), ji_put_ne _ _ _ _ (by omega)]⟩ (fun j hj => by rw [ji_put, if_neg (by omega), ji_put_ne _ _ _ _ (by omega)]) (ji_put_same _ _ _ _) (fun i hi => ?_)
  rw [ji_put_ne _ _ _ _ (by omega), ji_put, getD_app]
  by_cases e : i = L.length
  · rw [if_pos ⟨rfl, e⟩, if_pos e]
  · rw [if_neg (fun z => e z.2), if_neg e]; exact l3 i (by omega)
/-- written whatever stands there -/
theorem c_X8_writeAny {Q : jM → Prop} {w : Int32} (hT : TB S t n b) (hq : ∀ S', jtp S S' t → ji S' t 2 = ji S t 2 → Q S') : jFv E mX8_write (d + 1) 0 0 [.ref t, .int w] S Q := by
  refine T_X8_write ⟨hT.1.1, fun _ => hq S jtp.rfl rfl, fun c => ⟨_, hT.1.2.2.1, hT.1.2.2.2.2.2.1, by rw [hT.1.2.2.2.2.2.2]; exact jwi_in (n := 96) (by omega) c, ?_⟩⟩
  refine hq _ ⟨⟨rfl, rfl, rfl, rfl⟩, fun y a c => by rw [ji_put_ne _ _ _ _ a, ji_put_ne _ _ _ _ c], fun j hj => by rw [ji_put, if_neg (by omega), ji_put_ne _ _ _ _ (by omega)]⟩ ?_
  rw [ji_put, if_neg (by omega), ji_put_ne _ _ _ _ (by omega)]
theorem c_X8_readsOperand {Q : Int32 → jM → Prop} {key : Nat} {L : List Nat} (hT : TB S t n b) (hK : TKC S t k) (ok : TKok b n k) (hk : key < 3) (h6 : ji S t 6 = nI key) (hL : CDC S t L) (hlen : L.length + 1 ≤ k.1) (hs : k.2.2.1 = 1 ∨ k.2.2.1 = 2) (h0 : popd b key k = 30000 → Q 0 S) (h1 : ¬ popd b key k = 30000 → ∀ S', jtp S S' t → TKC S' t (pnext b n k) → CDC S' t (L ++ [popd b key k]) → Q 1 S') : jFi E mX8_readsOperand (d + 5) 0 0 [.ref t] S Q := by
  have h96 := hT.2.1
  have hl := ok.lt (by omega)
  have n5 := hK.2.2.2
  have nb := ok.2.2.2.2.1
  have put : ∀ w : Nat, w = popd b key k → ¬ popd b key k = 30000 → jFv E mX8_write (d + 4) 0 0 [.ref t, .int (nI w)] S (fun S8 => jk S8 t = 8 ∧ jFv E mX8_step (d + 4) 0 0 [.ref t] (jput S8 t 7 ((ji S8 t 7) + 1)) (fun S10 => Q 1 S10)) := by
    intro w ew hne
    have w2 := (popd_ok ok hne).2.1
    refine c_X8_write hT hL (by omega) (fun S1 g1 f1 e9 r1 => ⟨(hT.tp g1).1.1, ?_⟩)
    have T1 := hT.tp g1
    rw [f1 7 (by omega), hL.2.1, nI_1]
    have g2 : jtp S1 (jput S1 t 7 (nI (pops L + 1))) t := ⟨⟨rfl, rfl, rfl, rfl⟩, fun y a _ => ji_put_ne _ _ _ _ a, fun j hj => by rw [ji_put, if_neg (by omega)]⟩
    have T2 := T1.tp g2
    have K2 : TKC (jput S1 t 7 (nI (pops L + 1))) t k := ⟨by rw [ji_put, if_neg (by omega), f1 2 (by omega)]; exact hK.1, by rw [ji_put, if_neg (by omega), f1 3 (by omega)]; exact hK.2.1, by rw [ji_put, if_neg (by omega), f1 4 (by omega)]; exact hK.2.2.1, by rw [ji_put, if_neg (by omega), f1 5 (by omega)]; exact hK.2.2.2⟩
    have C2 : CDC (jput S1 t 7 (nI (pops L + 1))) t (L ++ [popd b key k]) := by
      refine ⟨?_, ?_, fun i hi => ?_⟩
      · rw [ji_put, if_neg (by omega), e9, List.length_append]; rfl
      · rw [ji_put_same, pops_app]
        show _ = nI (pops L + ((if popd b key k < 20000 then 1 else 0) + 0))
        rw [if_pos w2]
      · rw [ji_put_ne _ _ _ _ (by omega), ← ew]
        exact r1 i (by rw [List.length_append] at hi; exact hi)
    exact c_X8_next T2 K2 ok (fun S3 g3 K3 => h1 hne S3 ((g1.trans g2).trans g3.tp) K3 (C2.ts g3))
  have bad : ∀ r : Int32, (popd b key k = 30000 ∨ (¬ k.2.2.2 = 1 ∧ r = nI (popd b key k))) → (r < 0 → popd b key k = 30000) → (popd b key k = 30000 → ¬ k.2.2.2 = 1 → r = -1) → (jk S t = 8 ∧ ((ji S t 5) = 0 → (0 ≤ r → jFv E mX8_write (d + 4) 0 0 [.ref t, .int r] S (fun S8 => jk S8 t = 8 ∧ jFv E mX8_step (d + 4) 0 0 [.ref t] (jput S8 t 7 ((ji S8 t 7) + 1)) (fun S10 => Q 1 S10))) ∧ (¬ 0 ≤ r → Q 0 S)) ∧ (¬ (ji S t 5) = 0 → Q 0 S)) := by
    intro r hr hneg hm1
    rw [n5]
    refine ⟨hT.1.1, fun c5 => ⟨fun c0 => ?_, fun c0 => h0 (hneg (Int32.not_le.mp c0))⟩, fun c5 => h0 ?_⟩
    · have e5 : ¬ k.2.2.2 = 1 := fun z => by rw [z] at c5; exact absurd c5 (by decide)
      by_cases hp : popd b key k = 30000
      · rw [hm1 hp e5] at c0; exact absurd c0 (by decide)
      · rcases hr with q | q
        · exact absurd q hp
        · rw [q.2]; exact put _ rfl hp
    · have e5 : k.2.2.2 = 1 := by
        rcases nb with q | q
        · rw [q] at c5; exact absurd rfl c5
        · exact q
      unfold popd; rw [if_pos e5]
  have s3 := ok.so
  refine T_X8_readsOperand ⟨hT.1.1, ?_⟩
  rw [hK.2.2.1]
  refine ⟨fun c2 => ?_, fun c2 => ?_⟩
  · have e2 : k.2.2.1 = 2 := nI_inj (b := 2) (by omega) (by omega) c2
    have ep : ¬ k.2.2.2 = 1 → popd b key k = if 4 < k.2.1 - k.1 then 30000 else pnum b (k.2.1 - k.1) k.1 0 := fun q => by unfold popd; rw [if_neg q, if_pos e2]
    refine c_X8_numberInHand hT hK ok e2 (fun q4 => bad (-1) (Or.inl ?_) (fun _ => ?_) (fun _ _ => rfl)) (fun q4 => bad _ ?_ (fun z => absurd z ?_) (fun z q => ?_))
    · by_cases q : k.2.2.2 = 1
      · unfold popd; rw [if_pos q]
      · rw [ep q, if_pos q4]
    · by_cases q : k.2.2.2 = 1
      · unfold popd; rw [if_pos q]
      · rw [ep q, if_pos q4]
    · by_cases q : k.2.2.2 = 1
      · exact Or.inl (by unfold popd; rw [if_pos q])
      · exact Or.inr ⟨q, by rw [ep q, if_neg q4]⟩
    · have hb := pnum_lt b (k.2.1 - k.1) k.1 0 0 (fun q q1 q2 => psrt_2 ((ok.2.2.2.2.2.2 q q1 (by omega)).trans e2)) (by decide)
      have hp : 10 ^ (0 + (k.2.1 - k.1)) ≤ 10 ^ 4 := Nat.pow_le_pow_right (by omega) (by omega)
      have e4 : (10 : Nat) ^ 4 = 10000 := by decide
      exact nI_pos (by omega)
    · rw [ep q, if_neg q4] at z
      have hb := pnum_lt b (k.2.1 - k.1) k.1 0 0 (fun q q1 q2 => psrt_2 ((ok.2.2.2.2.2.2 q q1 (by omega)).trans e2)) (by decide)
      have hp : 10 ^ (0 + (k.2.1 - k.1)) ≤ 10 ^ 4 := Nat.pow_le_pow_right (by omega) (by omega)
      have e4 : (10 : Nat) ^ 4 = 10000 := by decide
      omega
  · have e2 : ¬ k.2.2.1 = 2 := fun z => c2 (by rw [z]; rfl)
    have e1 : k.2.2.1 = 1 := by omega
    have ep : ¬ k.2.2.2 = 1 → popd b key k = if k.2.1 - k.1 = 1 then (if pnam key (b k.1) = 9 then 30000 else 10000 + pnam key (b k.1)) else 30000 := fun q => by unfold popd; rw [if_neg q, if_neg e2, if_pos e1]
    have p9 := pnam_le key (b k.1)
    refine c_X8_nameInHand hT hK ok hk h6 e1 (fun q4 => bad (-1) (Or.inl ?_) (fun _ => ?_) (fun _ _ => rfl)) (fun q4 q5 => bad _ ?_ (fun z => absurd z (nI_pos (by omega))) (fun z q => ?_))
    · by_cases q : k.2.2.2 = 1
      · unfold popd; rw [if_pos q]
      · rw [ep q]
        rcases q4 with q4 | q4
        · rw [if_neg q4]
        · by_cases q5 : k.2.1 - k.1 = 1
          · rw [if_pos q5, if_pos q4]
          · rw [if_neg q5]
    · by_cases q : k.2.2.2 = 1
      · unfold popd; rw [if_pos q]
      · rw [ep q]
        rcases q4 with q4 | q4
        · rw [if_neg q4]
        · by_cases q5 : k.2.1 - k.1 = 1
          · rw [if_pos q5, if_pos q4]
          · rw [if_neg q5]
    · by_cases q : k.2.2.2 = 1
      · exact Or.inl (by unfold popd; rw [if_pos q])
      · exact Or.inr ⟨q, by rw [ep q, if_pos q4, if_neg q5]⟩
    · rw [ep q, if_pos q4, if_neg q5] at z; omega
end jTape3
end
section
/-! TEXT: the class reads chains and pieces as the plain reading does -/
def PO8 (S : jM) (t : Nat) (r : jrs) : Prop := (r.1 = true → TKC S t r.2.1 ∧ CDC S t r.2.2) ∧ (r.1 = false → ji S t 2 = nI r.2.1.1)
def rB (r : jrs) : Int32 := if r.1 = true then 1 else 0
section jTape4
variable {E : jEnv} {d : Nat} {S S' : jM} {t n key : Nat} {b : Nat → Nat} {k : jtk}
theorem rB_01 (r : jrs) : rB r = 0 ∨ rB r = 1 := by
  unfold rB; split
  · exact Or.inr rfl
  · exact Or.inl rfl
theorem CDC.not {L : List Nat} {w : Nat} (hw : ¬ w < 20000) (hL : CDC S t L) (f : ∀ j, j ≠ 9 → ji S' t j = ji S t j) (e9 : ji S' t 9 = nI (L.length + 1)) (r : ∀ i, i < L.length + 1 → ji S' (t + 2) i = nI ((L ++ [w]).getD i 0)) : CDC S' t (L ++ [w]) := by
  refine ⟨by rw [e9, List.length_append]; rfl, ?_, fun i hi => r i (by rw [List.length_append] at hi; exact hi)⟩
  rw [f 7 (by omega), pops_app]
  show _ = nI (pops L + ((if w < 20000 then 1 else 0) + 0))
  rw [if_neg hw]; exact hL.2.1
theorem TKC.of (h : TKC S t k) (f : ∀ j, j ≠ 9 → ji S' t j = ji S t j) : TKC S' t k := ⟨(f 2 (by omega)).trans h.1, (f 3 (by omega)).trans h.2.1, (f 4 (by omega)).trans h.2.2.1, (f 5 (by omega)).trans h.2.2.2⟩
theorem c_X8_read (hk : key < 3) : ∀ (F : Nat),
    (∀ (par bang D : Nat) (k : jtk) (L : List Nat) (S : jM) (Q : Int32 → jM → Prop), 2 * F + 5 ≤ D → pmu 5 par bang ≤ F → par ≤ 8 → bang ≤ 8 → TB S t n b → ji S t 6 = nI key → TKC S t k → TKok b n k → CDC S t L → L.length + 1 ≤ k.1 → (∀ S', jtp S S' t → PO8 S' t (pread b n key F 5 par bang k L) → Q (rB (pread b n key F 5 par bang k L)) S') → jFi E mX8_readsPiece D 0 0 [.ref t, .int (nI par), .int (nI bang)] S Q) ∧
    (∀ (lev par bang D : Nat) (k : jtk) (L : List Nat) (S : jM) (Q : Int32 → jM → Prop), 2 * F + 6 ≤ D → pmu lev par bang ≤ F → lev ≤ 5 → par ≤ 8 → bang ≤ 8 → TB S t n b → ji S t 6 = nI key → TKC S t k → TKok b n k → CDC S t L → L.length + 1 ≤ k.1 → (∀ S', jtp S S' t → PO8 S' t (pread b n key F lev par bang k L) → Q (rB (pread b n key F lev par bang k L)) S') → jFi E mX8_readsChain D 0 0 [.ref t, .int (nI lev), .int (nI par), .int (nI bang)] S Q) := by
  intro F
  induction F with
  | zero =>
    refine ⟨fun par bang D k L S Q hD hm => ?_, fun lev par bang D k L S Q hD hm hl => ?_⟩
    · unfold pmu at hm; omega
    · unfold pmu at hm; omega
  | succ F ih =>
    obtain ⟨ihP, ihC⟩ := ih
    have piece : ∀ (par bang D : Nat) (k : jtk) (L : List Nat) (S : jM) (Q : Int32 → jM → Prop), 2 * (F + 1) + 5 ≤ D → pmu 5 par bang ≤ F + 1 → par ≤ 8 → bang ≤ 8 → TB S t n b → ji S t 6 = nI key → TKC S t k → TKok b n k → CDC S t L → L.length + 1 ≤ k.1 → (∀ S', jtp S S' t → PO8 S' t (pread b n key (F + 1) 5 par bang k L) → Q (rB (pread b n key (F + 1) 5 par bang k L)) S') → jFi E mX8_readsPiece D 0 0 [.ref t, .int (nI par), .int (nI bang)] S Q := by
      intro par bang D k L S Q hD hm hp8 hb8 hT h6 hK ok hL hlen hq
      obtain ⟨e, rfl⟩ : ∃ e, D = e + 5 + 1 := ⟨D - 6, by omega⟩
      have h96 := hT.2.1
      have s3 := ok.so
      have hn := pnext_ok ok
      have er : pread b n key (F + 1) 5 par bang k L = if k.2.2.1 = 1 ∨ k.2.2.1 = 2 then (if popd b key k = 30000 then (false, k, []) else (true, pnext b n k, L ++ [popd b key k]))
        else if k.2.2.1 = 3 ∧ b k.1 = 33 ∧ bang < 8 then
          (if (pread b n key F 5 par (bang + 1) (pnext b n k) L).1 = true then (true, (pread b n key F 5 par (bang + 1) (pnext b n k) L).2.1, (pread b n key F 5 par (bang + 1) (pnext b n k) L).2.2 ++ [20033]) else (false, (pread b n key F 5 par (bang + 1) (pnext b n k) L).2.1, []))
        else if k.2.2.1 = 3 ∧ b k.1 = 40 ∧ par < 8 then
          (if (pread b n key F 0 (par + 1) bang (pnext b n k) L).1 = true ∧ (pread b n key F 0 (par + 1) bang (pnext b n k) L).2.1.2.2.1 = 3 ∧ b (pread b n key F 0 (par + 1) bang (pnext b n k) L).2.1.1 = 41 then (true, pnext b n (pread b n key F 0 (par + 1) bang (pnext b n k) L).2.1, (pread b n key F 0 (par + 1) bang (pnext b n k) L).2.2)
            else (false, (pread b n key F 0 (par + 1) bang (pnext b n k) L).2.1, []))
        else (false, k, []) := by rw [pread]; rw [if_neg (by omega)]
      rw [er] at hq
      unfold pmu at hm
      -- an operand
      have opd : (k.2.2.1 = 1 ∨ k.2.2.1 = 2) → jFi E mX8_readsOperand (e + 5) 0 0 [.ref t] S (fun r S3 => (r = 0 ∨ r = 1) ∧ Q r S3) := by
        intro hs
        rw [if_pos hs] at hq
        refine c_X8_readsOperand hT hK ok hk h6 hL hlen hs (fun c => ⟨Or.inl rfl, ?_⟩) (fun c S1 g1 K1 C1 => ⟨Or.inr rfl, ?_⟩)
        · rw [if_pos c] at hq
          exact hq S jtp.rfl ⟨fun z => Bool.noConfusion z, fun _ => hK.1⟩
        · rw [if_neg c] at hq
          exact hq S1 g1 ⟨fun _ => ⟨K1, C1⟩, fun z => Bool.noConfusion z⟩
      have paren : ¬ (k.2.2.1 = 1 ∨ k.2.2.1 = 2) → ¬ (k.2.2.1 = 3 ∧ b k.1 = 33 ∧ bang < 8) → jFi E mX8_isInHand (e + 5) 0 0 [.ref t, .int 40] S (fun r12 S11 => (r12 = 0 → Q 0 S11) ∧ (¬ r12 = 0 → (8 ≤ nI par → Q 0 S11) ∧ (¬ 8 ≤ nI par → jk S11 t = 8 ∧ jFv E mX8_step (e + 5) 0 0 [.ref t] S11 (fun S16 => jk S16 t = 8 ∧ jFi E mX8_readsChain (e + 5) 0 0 [.ref t, .int 0, .int (nI par + 1), .int (nI bang)] S16 (fun r19 S18 => (r19 = 0 → Q 0 S18) ∧ (¬ r19 = 0 → jk S18 t = 8 ∧ jFi E mX8_isInHand (e + 5) 0 0 [.ref t, .int 41] S18 (fun r23 S22 => (r23 = 0 → Q 0 S22) ∧ (¬ r23 = 0 → jk S22 t = 8 ∧ jFv E mX8_step (e + 5) 0 0 [.ref t] S22 (fun S26 => Q 1 S26))))))))) := by
        intro n1 n2
        rw [if_neg n1, if_neg n2] at hq
        refine c_X8_isInHand (c := 40) hT hK ok (by omega) (fun c3 c40 => ⟨fun z => absurd z (by decide), fun _ => ⟨fun z => ?_, fun z => ?_⟩⟩) (fun nn => ⟨fun _ => ?_, fun z => absurd rfl z⟩)
        · have hp : ¬ par < 8 := fun q => by
            have := (nI_leI (a := 8) (by omega) (by omega)).mp z
            omega
          rw [if_neg (fun q => hp q.2.2)] at hq
          exact hq S jtp.rfl ⟨fun z => Bool.noConfusion z, fun _ => hK.1⟩
        · have hp : par < 8 := by
            rcases Nat.lt_or_ge par 8 with q | q
            · exact q
            · exact absurd (nI_le (a := 8) q (by omega)) z
          rw [if_pos ⟨c3, c40, hp⟩] at hq
          have en : k.1 < k.2.1 := ok.2.2.2.1 (by omega)
          refine ⟨hT.1.1, c_X8_next hT hK ok (fun S1 g1 K1 => ⟨(hT.ts g1).1.1, ?_⟩)⟩
          rw [nI_1]
          have pg := pread_ok (b := b) (n := n) (key := key) F 0 (par + 1) bang (pnext b n k) L hn.1
          refine ihC 0 (par + 1) bang (e + 5) (pnext b n k) L S1 _ (by omega) (by unfold pmu; omega) (by omega) (by omega) hb8 (hT.ts g1) ((g1.2.2 6 (by omega)).trans h6) K1 hn.1 (hL.ts g1) (by omega) (fun S2 g2 p2 => ?_)
          generalize pread b n key F 0 (par + 1) bang (pnext b n k) L = r at hq pg p2 ⊢
          have g12 : jtp S S2 t := g1.tp.trans g2
          by_cases c1 : r.1 = true
          · have eB : rB r = 1 := by unfold rB; rw [if_pos c1]
            rw [eB]
            obtain ⟨K2, C2⟩ := p2.1 c1
            have T2 := hT.tp g12
            refine ⟨fun z => absurd z (by decide), fun _ => ⟨T2.1.1, c_X8_isInHand (c := 41) T2 K2 pg.1 (by omega) (fun d3 d41 => ⟨fun z => absurd z (by decide), fun _ => ⟨T2.1.1, c_X8_next T2 K2 pg.1 (fun S3 g3 K3 => ?_)⟩⟩) (fun nn => ⟨fun _ => ?_, fun z => absurd rfl z⟩)⟩⟩
            · rw [if_pos ⟨c1, d3, d41⟩] at hq
              exact hq S3 (g12.trans g3.tp) ⟨fun _ => ⟨K3, C2.ts g3⟩, fun z => Bool.noConfusion z⟩
            · rw [if_neg (fun z => nn z.2)] at hq
              exact hq S2 g12 ⟨fun z => Bool.noConfusion z, fun _ => K2.1⟩
          · have eB : rB r = 0 := by unfold rB; rw [if_neg c1]
            rw [eB]
            refine ⟨fun _ => ?_, fun z => absurd rfl z⟩
            rw [if_neg (fun z => c1 z.1)] at hq
            exact hq S2 g12 ⟨fun z => Bool.noConfusion z, fun _ => p2.2 (by simpa using c1)⟩
        · rw [if_neg (fun q => nn ⟨q.1, q.2.1⟩)] at hq
          exact hq S jtp.rfl ⟨fun z => Bool.noConfusion z, fun _ => hK.1⟩
      refine T_X8_readsPiece ⟨hT.1.1, ?_⟩
      rw [hK.2.2.1]
      refine ⟨fun c1 => opd (Or.inl (nI_inj (b := 1) (by omega) (by omega) c1)), fun c1 => ⟨fun c2 => opd (Or.inr (nI_inj (b := 2) (by omega) (by omega) c2)), fun c2 => ?_⟩⟩
      have nop : ¬ (k.2.2.1 = 1 ∨ k.2.2.1 = 2) := fun z => by
        rcases z with z | z
        · exact c1 (by rw [z]; rfl)
        · exact c2 (by rw [z]; rfl)
      refine c_X8_isInHand (c := 33) hT hK ok (by omega) (fun c3 c33 => ⟨fun z => absurd z (by decide), fun _ => ⟨fun z => ⟨hT.1.1, ?_⟩, fun z => ⟨hT.1.1, ?_⟩⟩⟩) (fun nn => ⟨fun _ => ⟨hT.1.1, paren nop (fun q => nn ⟨q.1, q.2.1⟩)⟩, fun z => absurd rfl z⟩)
      · have hb : ¬ bang < 8 := fun q => by
          have := (nI_leI (a := 8) (by omega) (by omega)).mp z
          omega
        exact paren nop (fun q => hb q.2.2)
      · have hb : bang < 8 := by
          rcases Nat.lt_or_ge bang 8 with q | q
          · exact q
          · exact absurd (nI_le (a := 8) q (by omega)) z
        rw [if_neg nop, if_pos ⟨c3, c33, hb⟩] at hq
        have en : k.1 < k.2.1 := ok.2.2.2.1 (by omega)
        refine c_X8_next hT hK ok (fun S1 g1 K1 => ⟨(hT.ts g1).1.1, ?_⟩)
        rw [nI_1]
        have pg := pread_ok (b := b) (n := n) (key := key) F 5 par (bang + 1) (pnext b n k) L hn.1
        refine ihP par (bang + 1) (e + 5) (pnext b n k) L S1 _ (by omega) (by unfold pmu; omega) hp8 (by omega) (hT.ts g1) ((g1.2.2 6 (by omega)).trans h6) K1 hn.1 (hL.ts g1) (by omega) (fun S2 g2 p2 => ?_)
        generalize pread b n key F 5 par (bang + 1) (pnext b n k) L = r at hq pg p2 ⊢
        have g12 : jtp S S2 t := g1.tp.trans g2
        have T2 := hT.tp g12
        refine ⟨T2.1.1, ?_⟩
        by_cases c1 : r.1 = true
        · have eB : rB r = 1 := by unfold rB; rw [if_pos c1]
          rw [eB]
          obtain ⟨K2, C2⟩ := p2.1 c1
          obtain ⟨k1, k2, -⟩ := pg.2.2 c1
          have k3 := pg.1.1
          have k4 := pg.1.2.1
          refine c_X8_write (w := 20033) T2 C2 (by omega) (fun S3 g3 f3 e9 r3 => ⟨Or.inr rfl, ?_⟩)
          rw [if_pos c1] at hq
          exact hq S3 (g12.trans g3) ⟨fun _ => ⟨K2.of f3, C2.not (by omega) f3 e9 r3⟩, fun z => Bool.noConfusion z⟩
        · have eB : rB r = 0 := by unfold rB; rw [if_neg c1]
          rw [eB]
          refine c_X8_writeAny T2 (fun S3 g3 e2 => ⟨Or.inl rfl, ?_⟩)
          rw [if_neg c1] at hq
          exact hq S3 (g12.trans g3) ⟨fun z => Bool.noConfusion z, fun _ => e2.trans (p2.2 (by simpa using c1))⟩
    refine ⟨piece, fun lev par bang D k L S Q hD hm hl5 hp8 hb8 hT h6 hK ok hL hlen hq => ?_⟩
    obtain ⟨e, rfl⟩ : ∃ e, D = e + 5 + 1 := ⟨D - 6, by omega⟩
    have h96 := hT.2.1
    refine T_X8_readsChain ⟨fun c => ⟨hT.1.1, ?_⟩, fun c => ⟨hT.1.1, ?_⟩⟩
    · have hlev : lev < 5 := (nI_ltI (b := 5) (by omega) (by omega)).mp c
      have er : pread b n key (F + 1) lev par bang k L = if (pread b n key F (lev + 1) par bang k L).1 = true then ploop b n lev (pread b n key F (lev + 1) par bang) (if lev = 2 then 1 else 96) (pread b n key F (lev + 1) par bang k L).2.1 (pread b n key F (lev + 1) par bang k L).2.2 else (false, (pread b n key F (lev + 1) par bang k L).2.1, []) := by rw [pread]; rw [if_pos hlev]
      rw [er] at hq
      unfold pmu at hm
      have sub : ∀ (k : jtk) (L : List Nat) (S1 : jM) (Q' : Int32 → jM → Prop), jtp S S1 t → TKC S1 t k → TKok b n k → CDC S1 t L → L.length + 1 ≤ k.1 → (∀ S', jtp S S' t → PO8 S' t (pread b n key F (lev + 1) par bang k L) → Q' (rB (pread b n key F (lev + 1) par bang k L)) S') → jFi E mX8_readsChain (e + 5) 0 0 [.ref t, .int (nI (lev + 1)), .int (nI par), .int (nI bang)] S1 Q' := fun k L S1 Q' g1 K1 o1 C1 l1 q1 =>
        ihC (lev + 1) par bang (e + 5) k L S1 Q' (by omega) (by unfold pmu; omega) (by omega) hp8 hb8 (hT.tp g1) ((g1.2.2 6 (Or.inr rfl)).trans h6) K1 o1 C1 l1 (fun S2 g2 p2 => q1 S2 (g1.trans g2) p2)
      have loop : ∀ (c i m : Nat) (k : jtk) (L : List Nat) (S1 : jM), i + c = m → m ≤ 96 → jtp S S1 t → TKC S1 t k → TKok b n k → CDC S1 t L → L.length + 1 ≤ k.1 → (∀ S', jtp S S' t → PO8 S' t (ploop b n lev (pread b n key F (lev + 1) par bang) c k L) → Q (rB (ploop b n lev (pread b n key F (lev + 1) par bang) c k L)) S') → L_X8_readsChain_42 E (e + 5) Q t (nI lev) (nI par) (nI bang) (nI m) (nI i) S1 := by
        intro c
        induction c with
        | zero =>
          intro i m k L S1 hi hm96 g1 K1 o1 C1 l1 q1
          obtain rfl : i = m := by omega
          exact T_X8_readsChain_42 ⟨fun _ => q1 S1 g1 ⟨fun _ => ⟨K1, C1⟩, fun z => Bool.noConfusion z⟩, fun cc => absurd Int32.le_rfl cc⟩
        | succ c ihc =>
          intro i m k L S1 hi hm96 g1 K1 o1 C1 l1 q1
          have T1 := hT.tp g1
          have hn := pnext_ok o1
          have ep : ploop b n lev (pread b n key F (lev + 1) par bang) (c + 1) k L = if plev b k = lev then (if (pread b n key F (lev + 1) par bang (pnext b n k) L).1 = true then ploop b n lev (pread b n key F (lev + 1) par bang) c (pread b n key F (lev + 1) par bang (pnext b n k) L).2.1 ((pread b n key F (lev + 1) par bang (pnext b n k) L).2.2 ++ [20000 + b k.1]) else (false, (pread b n key F (lev + 1) par bang (pnext b n k) L).2.1, [])) else (true, k, L) := rfl
          rw [ep] at q1
          refine T_X8_readsChain_42 ⟨fun cc => absurd cc (nI_ge (by omega) (by omega)), fun _ => ⟨T1.1.1, c_X8_levelInHand T1 K1 o1 ⟨fun cl => ⟨T1.1.1, ?_⟩, fun cl => ?_⟩⟩⟩
          · have el : plev b k = lev := by
              by_cases c9 : plev b k = 9
              · rw [if_pos c9] at cl
                have := nI_pos (n := lev) (by omega)
                rw [← cl] at this; exact absurd (by decide) this
              · rw [if_neg c9] at cl
                have p9 : plev b k ≤ 9 := by
                  unfold plev
                  repeat' split
                  all_goals omega
                exact nI_inj (by omega) (by omega) cl
            rw [if_pos el] at q1
            have hs := plev_ok (b := b) (t := k) (by omega)
            have en : k.1 < k.2.1 := o1.2.2.2.1 (by rw [hs.1]; decide)
            have hl := o1.lt (by rw [hs.1]; decide)
            rw [K1.1]
            refine c_X8_byteAt T1 hl ⟨T1.1.1, c_X8_next T1 K1 o1 (fun S2 g2 K2 => ⟨(T1.ts g2).1.1, ?_⟩)⟩
            rw [nI_1]
            have g12 := g1.trans g2.tp
            have pg := pread_ok (b := b) (n := n) (key := key) F (lev + 1) par bang (pnext b n k) L hn.1
            refine sub (pnext b n k) L S2 _ g12 K2 hn.1 (C1.ts g2) (by omega) (fun S3 g3 p3 => ?_)
            generalize pread b n key F (lev + 1) par bang (pnext b n k) L = r at q1 pg p3 ⊢
            have T3 := hT.tp g3
            by_cases c1 : r.1 = true
            · have eB : rB r = 1 := by unfold rB; rw [if_pos c1]
              rw [eB]
              rw [if_pos c1] at q1
              obtain ⟨K3, C3⟩ := p3.1 c1
              obtain ⟨k1, k2, -⟩ := pg.2.2 c1
              have k3 := pg.1.1
              have k4 := pg.1.2.1
              refine ⟨fun z => absurd z (by decide), fun _ => ⟨T3.1.1, ?_⟩⟩
              rw [show (20000 : Int32) = nI 20000 from rfl, nI_add, nI_1]
              refine c_X8_write (w := 20000 + b k.1) T3 C3 (by omega) (fun S4 g4 f4 e9 r4 => ?_)
              refine ihc (i + 1) m r.2.1 (r.2.2 ++ [20000 + b k.1]) S4 (by omega) hm96 (g3.trans g4) (K3.of f4) pg.1 (C3.not (by omega) f4 e9 r4) ?_ q1
              rw [List.length_append]
              show r.2.2.length + 1 + 1 ≤ r.2.1.1
              omega
            · have eB : rB r = 0 := by unfold rB; rw [if_neg c1]
              rw [eB]
              rw [if_neg c1] at q1
              exact ⟨fun _ => q1 S3 g3 ⟨fun z => Bool.noConfusion z, fun _ => p3.2 (by simpa using c1)⟩, fun z => absurd rfl z⟩
          · have el : ¬ plev b k = lev := fun z => cl (by rw [if_neg (by omega), z])
            rw [if_neg el] at q1
            exact q1 S1 g1 ⟨fun _ => ⟨K1, C1⟩, fun z => Bool.noConfusion z⟩
      rw [nI_1]
      have pg := pread_ok (b := b) (n := n) (key := key) F (lev + 1) par bang k L ok
      refine sub k L S _ jtp.rfl hK ok hL hlen (fun S1 g1 p1 => ?_)
      by_cases c1 : (pread b n key F (lev + 1) par bang k L).1 = true
      · have eB : rB (pread b n key F (lev + 1) par bang k L) = 1 := by unfold rB; rw [if_pos c1]
        rw [eB]
        rw [if_pos c1] at hq
        obtain ⟨K1, C1⟩ := p1.1 c1
        obtain ⟨k1, k2, -⟩ := pg.2.2 c1
        refine ⟨fun z => absurd z (by decide), fun _ => ⟨fun c2 => ?_, fun c2 => ?_⟩⟩
        · have e2 : lev = 2 := nI_inj (b := 2) (by omega) (by omega) c2
          rw [if_pos e2] at hq
          exact loop 1 0 1 _ _ S1 (by omega) (by omega) g1 K1 pg.1 C1 (by omega) hq
        · have e2 : ¬ lev = 2 := fun z => c2 (by rw [z]; rfl)
          rw [if_neg e2] at hq
          exact loop 96 0 96 _ _ S1 (by omega) (by omega) g1 K1 pg.1 C1 (by omega) hq
      · have eB : rB (pread b n key F (lev + 1) par bang k L) = 0 := by unfold rB; rw [if_neg c1]
        rw [eB]
        rw [if_neg c1] at hq
        exact ⟨fun _ => hq S1 g1 ⟨fun z => Bool.noConfusion z, fun _ => p1.2 (by simpa using c1)⟩, fun z => absurd rfl z⟩
    · have hlev : lev = 5 := by
        rcases Nat.lt_or_ge lev 5 with q | q
        · exact absurd (nI_lt (b := 5) q (by omega)) c
        · omega
      subst hlev
      exact piece par bang (e + 5) k L S _ (by omega) hm hp8 hb8 hT h6 hK ok hL hlen (fun S' g p => ⟨rB_01 _, hq S' g p⟩)
end jTape4
end
section
/-! TEXT: the whole tape -/
def pkey (b : Nat → Nat) (k : jtk) : Nat :=
  if k.2.2.1 = 1 ∧ k.2.1 - k.1 = 4 ∧ b k.1 = 116 ∧ b (k.1 + 1) = 101 ∧ b (k.1 + 2) = 114 ∧ b (k.1 + 3) = 109 then 0
  else if k.2.2.1 = 1 ∧ k.2.1 - k.1 = 4 ∧ b k.1 = 102 ∧ b (k.1 + 1) = 97 ∧ b (k.1 + 2) = 109 ∧ b (k.1 + 3) = 101 then 1
  else if k.2.2.1 = 1 ∧ k.2.1 - k.1 = 4 ∧ b k.1 = 102 ∧ b (k.1 + 1) = 105 ∧ b (k.1 + 2) = 110 ∧ b (k.1 + 3) = 101 then 2 else 9
/-- the tape as a whole: good, the place of the FAULT, the key, the code -/
def ptx (b : Nat → Nat) (n : Nat) : Bool × Nat × Nat × List Nat :=
  if pkey b (ptok b n 0 0) = 9 then (false, (ptok b n 0 0).1, 0, [])
  else if (pread b n (pkey b (ptok b n 0 0)) 70 0 0 0 (pnext b n (ptok b n 0 0)) []).1 = true ∧ (pread b n (pkey b (ptok b n 0 0)) 70 0 0 0 (pnext b n (ptok b n 0 0)) []).2.1.2.2.1 = 0
    then (true, 0, pkey b (ptok b n 0 0), (pread b n (pkey b (ptok b n 0 0)) 70 0 0 0 (pnext b n (ptok b n 0 0)) []).2.2)
    else (false, (pread b n (pkey b (ptok b n 0 0)) 70 0 0 0 (pnext b n (ptok b n 0 0)) []).2.1.1, 0, [])
theorem pwd_0 {b : Nat → Nat} {k : jtk} (hb : ∀ j, j < 4 → k.2.1 - k.1 = 4 → b (k.1 + j) < 256) : pwd b k 0 ↔ (k.2.2.1 = 1 ∧ k.2.1 - k.1 = 4 ∧ b k.1 = 116 ∧ b (k.1 + 1) = 101 ∧ b (k.1 + 2) = 114 ∧ b (k.1 + 3) = 109) := by
  constructor
  · rintro ⟨h1, h2, h3⟩
    have q : ∀ j, j < 4 → ∀ c, c < 256 → sB 0 j = nI c → b (k.1 + j) = c := fun j hj c hc e => by
      have := hb j hj h2
      exact nI_inj (by omega) (by omega) ((h3 j hj).trans e)
    exact ⟨h1, h2, q 0 (by omega) 116 (by omega) rfl, q 1 (by omega) 101 (by omega) rfl, q 2 (by omega) 114 (by omega) rfl, q 3 (by omega) 109 (by omega) rfl⟩
  · rintro ⟨h1, h2, a, b1, c, d⟩
    refine ⟨h1, h2, fun j hj => ?_⟩
    rcases (show j = 0 ∨ j = 1 ∨ j = 2 ∨ j = 3 by omega) with rfl | rfl | rfl | rfl
    · rw [Nat.add_zero, a]; rfl
    · rw [b1]; rfl
    · rw [c]; rfl
    · rw [d]; rfl
theorem pwd_1 {b : Nat → Nat} {k : jtk} (hb : ∀ j, j < 4 → k.2.1 - k.1 = 4 → b (k.1 + j) < 256) : pwd b k 1 ↔ (k.2.2.1 = 1 ∧ k.2.1 - k.1 = 4 ∧ b k.1 = 102 ∧ b (k.1 + 1) = 97 ∧ b (k.1 + 2) = 109 ∧ b (k.1 + 3) = 101) := by
  constructor
  · rintro ⟨h1, h2, h3⟩
    have q : ∀ j, j < 4 → ∀ c, c < 256 → sB 1 j = nI c → b (k.1 + j) = c := fun j hj c hc e => by
      have := hb j hj h2
      exact nI_inj (by omega) (by omega) ((h3 j hj).trans e)
    exact ⟨h1, h2, q 0 (by omega) 102 (by omega) rfl, q 1 (by omega) 97 (by omega) rfl, q 2 (by omega) 109 (by omega) rfl, q 3 (by omega) 101 (by omega) rfl⟩
  · rintro ⟨h1, h2, a, b1, c, d⟩
    refine ⟨h1, h2, fun j hj => ?_⟩
    rcases (show j = 0 ∨ j = 1 ∨ j = 2 ∨ j = 3 by omega) with rfl | rfl | rfl | rfl
    · rw [Nat.add_zero, a]; rfl
    · rw [b1]; rfl
    · rw [c]; rfl
    · rw [d]; rfl
theorem pwd_2 {b : Nat → Nat} {k : jtk} (hb : ∀ j, j < 4 → k.2.1 - k.1 = 4 → b (k.1 + j) < 256) : pwd b k 2 ↔ (k.2.2.1 = 1 ∧ k.2.1 - k.1 = 4 ∧ b k.1 = 102 ∧ b (k.1 + 1) = 105 ∧ b (k.1 + 2) = 110 ∧ b (k.1 + 3) = 101) := by
  constructor
  · rintro ⟨h1, h2, h3⟩
    have q : ∀ j, j < 4 → ∀ c, c < 256 → sB 2 j = nI c → b (k.1 + j) = c := fun j hj c hc e => by
      have := hb j hj h2
      exact nI_inj (by omega) (by omega) ((h3 j hj).trans e)
    exact ⟨h1, h2, q 0 (by omega) 102 (by omega) rfl, q 1 (by omega) 105 (by omega) rfl, q 2 (by omega) 110 (by omega) rfl, q 3 (by omega) 101 (by omega) rfl⟩
  · rintro ⟨h1, h2, a, b1, c, d⟩
    refine ⟨h1, h2, fun j hj => ?_⟩
    rcases (show j = 0 ∨ j = 1 ∨ j = 2 ∨ j = 3 by omega) with rfl | rfl | rfl | rfl
    · rw [Nat.add_zero, a]; rfl
    · rw [b1]; rfl
    · rw [c]; rfl
    · rw [d]; rfl
theorem pkey_lt {b : Nat → Nat} {k : jtk} (h : ¬ pkey b k = 9) : pkey b k < 3 := by
  unfold pkey at h ⊢
  split
  · omega
  · rename_i q1
    rw [if_neg q1] at h
    split
    · omega
    · rename_i q2
      rw [if_neg q2] at h
      split
      · omega
      · rename_i q3
        rw [if_neg q3] at h
        exact absurd rfl h
/-- the code of a good tape -/
theorem ptx_ok {b : Nat → Nat} {n : Nat} (h : (ptx b n).1 = true) : (ptx b n).2.2.1 < 3 ∧ pEX (ptx b n).2.2.1 (ptx b n).2.2.2 ∧ (ptx b n).2.2.2.length ≤ n := by
  have k0 := (ptok_ok (b := b) (n := n) (w := 0) (e := 0) (Nat.zero_le _)).1
  have hn := pnext_ok k0
  unfold ptx at h ⊢
  by_cases c9 : pkey b (ptok b n 0 0) = 9
  · rw [if_pos c9] at h; exact Bool.noConfusion h
  · rw [if_neg c9] at h ⊢
    have hk : pkey b (ptok b n 0 0) < 3 := pkey_lt c9
    generalize pkey b (ptok b n 0 0) = key at h hk ⊢
    have pg := pread_ok (b := b) (n := n) (key := key) 70 0 0 0 (pnext b n (ptok b n 0 0)) [] hn.1
    generalize pread b n key 70 0 0 0 (pnext b n (ptok b n 0 0)) [] = r at h pg ⊢
    by_cases c1 : r.1 = true ∧ r.2.1.2.2.1 = 0
    · rw [if_pos c1]
      obtain ⟨k1, k2, A, eA, xA⟩ := pg.2.2 c1.1
      refine ⟨hk, ?_, ?_⟩
      · show pEX key r.2.2
        rw [eA]; exact xA
      · show r.2.2.length ≤ n
        have := pg.1.1
        have := pg.1.2.1
        have e0 : ([] : List Nat).length = 0 := rfl
        omega
    · rw [if_neg c1] at h; exact Bool.noConfusion h
/-! the code as a text -/
theorem prn_take {key : Nat} (L : List Nat) (hx : pEX key L) : ∀ i, i ≤ L.length → prn 0 (L.take i) = some (dpt (fun j => L.getD j 0) i) ∧ dpt (fun j => L.getD j 0) i ≤ pops (L.take i)
  | 0, _ => ⟨rfl, Nat.zero_le _⟩
  | i + 1, hi => by
    obtain ⟨h1, h2⟩ := prn_take L hx i (by omega)
    have hlt : i < L.length := by omega
    have et : L.take (i + 1) = L.take i ++ [L.getD i 0] := by
      rw [List.take_add_one, List.getElem?_eq_getElem hlt]
      simp [List.getD_eq_getElem?_getD, List.getElem?_eq_getElem hlt]
    have tot : prn 0 L = some (0 + 1) := hx.2 0
    have spl : L = L.take (i + 1) ++ L.drop (i + 1) := (List.take_append_drop (i + 1) L).symm
    have run : prn 0 (L.take (i + 1)) = prn (dpt (fun j => L.getD j 0) i) [L.getD i 0] := by rw [et]; exact prn_app _ _ 0 _ h1
    have some1 : ∃ e, prn 0 (L.take (i + 1)) = some e := by
      cases hc : prn 0 (L.take (i + 1)) with
      | some e => exact ⟨e, rfl⟩
      | none =>
        exfalso
        have key2 : ∀ (A B : List Nat) (e : Nat), prn e A = none → prn e (A ++ B) = none := by
          intro A
          induction A with
          | nil => intro B e h; exact absurd h (by simp [prn])
          | cons w A ih =>
            intro B e h
            have h' : (if w < 20000 then prn (e + 1) A else if w = 20033 then (if 1 ≤ e then prn e A else none) else (if 2 ≤ e then prn (e - 1) A else none)) = none := h
            show (if w < 20000 then prn (e + 1) (A ++ B) else if w = 20033 then (if 1 ≤ e then prn e (A ++ B) else none) else (if 2 ≤ e then prn (e - 1) (A ++ B) else none)) = none
            by_cases c1 : w < 20000
            · rw [if_pos c1] at h' ⊢; exact ih B _ h'
            · rw [if_neg c1] at h' ⊢
              by_cases c2 : w = 20033
              · rw [if_pos c2] at h' ⊢
                by_cases c3 : 1 ≤ e
                · rw [if_pos c3] at h' ⊢; exact ih B _ h'
                · rw [if_neg c3]
              · rw [if_neg c2] at h' ⊢
                by_cases c3 : 2 ≤ e
                · rw [if_pos c3] at h' ⊢; exact ih B _ h'
                · rw [if_neg c3]
        have := key2 _ (L.drop (i + 1)) 0 hc
        rw [← spl, tot] at this
        exact absurd this (by simp)
    obtain ⟨e, he⟩ := some1
    have ed : dpt (fun j => L.getD j 0) (i + 1) = if L.getD i 0 < 20000 then dpt (fun j => L.getD j 0) i + 1 else if L.getD i 0 = 20033 then dpt (fun j => L.getD j 0) i else dpt (fun j => L.getD j 0) i - 1 := rfl
    have ep : pops (L.take (i + 1)) = pops (L.take i) + (if L.getD i 0 < 20000 then 1 else 0) := by
      rw [et, pops_app]
      show _ + ((if L.getD i 0 < 20000 then 1 else 0) + 0) = _
      rw [Nat.add_zero]
    have one : prn (dpt (fun j => L.getD j 0) i) [L.getD i 0] = if L.getD i 0 < 20000 then some (dpt (fun j => L.getD j 0) i + 1) else if L.getD i 0 = 20033 then (if 1 ≤ dpt (fun j => L.getD j 0) i then some (dpt (fun j => L.getD j 0) i) else none) else (if 2 ≤ dpt (fun j => L.getD j 0) i then some (dpt (fun j => L.getD j 0) i - 1) else none) := rfl
    rw [run, one] at he
    rw [run, one, ed, ep]
    by_cases c1 : L.getD i 0 < 20000
    · rw [if_pos c1, if_pos c1, if_pos c1]; exact ⟨rfl, by omega⟩
    · rw [if_neg c1] at he ⊢
      rw [if_neg c1, if_neg c1]
      by_cases c2 : L.getD i 0 = 20033
      · rw [if_pos c2] at he ⊢
        rw [if_pos c2]
        by_cases c3 : 1 ≤ dpt (fun j => L.getD j 0) i
        · rw [if_pos c3]; exact ⟨rfl, by omega⟩
        · rw [if_neg c3] at he; exact absurd he (by simp)
      · rw [if_neg c2] at he ⊢
        rw [if_neg c2]
        by_cases c3 : 2 ≤ dpt (fun j => L.getD j 0) i
        · rw [if_pos c3]; exact ⟨rfl, by omega⟩
        · rw [if_neg c3] at he; exact absurd he (by simp)
theorem WFt_of {key : Nat} {L : List Nat} (hx : pEX key L) (hl : L.length ≤ 96) : WFt key L.length (pops L) (fun i => L.getD i 0) := by
  have mem : ∀ i, i < L.length → L.getD i 0 ∈ L := fun i hi => by
    simp [List.getD_eq_getElem?_getD, List.getElem?_eq_getElem hi]
  have step : ∀ i, i < L.length → prn (dpt (fun j => L.getD j 0) i) [L.getD i 0] = some (dpt (fun j => L.getD j 0) (i + 1)) := fun i hi => by
    have h1 := (prn_take L hx i (by omega)).1
    have h2 := (prn_take L hx (i + 1) (by omega)).1
    have et : L.take (i + 1) = L.take i ++ [L.getD i 0] := by
      rw [List.take_add_one, List.getElem?_eq_getElem hi]
      simp [List.getD_eq_getElem?_getD, List.getElem?_eq_getElem hi]
    rw [et, prn_app _ _ 0 _ h1] at h2
    exact h2
  have one : ∀ e w, prn e [w] = if w < 20000 then some (e + 1) else if w = 20033 then (if 1 ≤ e then some e else none) else (if 2 ≤ e then some (e - 1) else none) := fun _ _ => rfl
  have popl : ∀ A : List Nat, pops A ≤ A.length := by
    intro A
    induction A with
    | nil => exact Nat.le_refl _
    | cons w A ih =>
      show (if w < 20000 then 1 else 0) + pops A ≤ A.length + 1
      split <;> omega
  have pmono : ∀ i, pops (L.take i) ≤ pops L := fun i => by
    have e : pops L = pops (L.take i) + pops (L.drop i) := by rw [← pops_app, List.take_append_drop]
    omega
  refine ⟨fun i hi => hx.1 _ (mem i hi), fun i hi e => ?_, fun i hi e1 e2 => ?_, ?_, fun i hi => ?_, Nat.le_trans (popl L) hl, hl⟩
  · have h := step i hi
    rw [one] at h
    have e' : L.getD i 0 = 20033 := e
    rw [if_neg (by omega), if_pos e'] at h
    by_cases c : 1 ≤ dpt (fun j => L.getD j 0) i
    · exact c
    · rw [if_neg c] at h; exact absurd h (by simp)
  · have h := step i hi
    rw [one] at h
    have e1' : 20000 ≤ L.getD i 0 := e1
    have e2' : L.getD i 0 ≠ 20033 := e2
    rw [if_neg (by omega), if_neg e2'] at h
    by_cases c : 2 ≤ dpt (fun j => L.getD j 0) i
    · exact c
    · rw [if_neg c] at h; exact absurd h (by simp)
  · have h := (prn_take L hx L.length (Nat.le_refl _)).1
    rw [List.take_length, hx.2 0] at h
    exact (Option.some.inj h).symm
  · exact Nat.le_trans (prn_take L hx i hi).2 (pmono i)
/-! the class asks whether its tape is a text -/
def jtq (S S' : jM) (t : Nat) : Prop := jsame S S' ∧ (∀ y, y ≠ t → y ≠ t + 2 → ji S' y = ji S y) ∧ ji S' t 1 = ji S t 1
section jTape5
variable {E : jEnv} {d : Nat} {S S' : jM} {t n : Nat} {b : Nat → Nat}
theorem jtp.tq (h : jtp S S' t) : jtq S S' t := ⟨h.1, h.2.1, h.2.2 1 (Or.inl _root_.rfl)⟩
theorem jtq.trans {S1 S2 : jM} (h1 : jtq S S1 t) (h2 : jtq S1 S2 t) : jtq S S2 t := ⟨h1.1.trans h2.1, fun y a b => (h2.2.1 y a b).trans (h1.2.1 y a b), h2.2.2.trans h1.2.2⟩
theorem jtq.put {j : Nat} {w : Int32} (hj : j ≠ 1) : jtq S (jput S t j w) t := ⟨⟨rfl, rfl, rfl, rfl⟩, fun y a _ => ji_put_ne _ _ _ _ a, by rw [ji_put, if_neg (fun z => hj z.2.symm)]⟩
theorem TB.tq (h : TB S t n b) (g : jtq S S' t) : TB S' t n b := by
  obtain ⟨h1, h2, h3, h4⟩ := h
  exact ⟨h1.same g.1, h2, g.2.2.trans h3, fun j hj => ⟨(h4 j hj).1, by rw [g.2.1 _ (by omega) (by omega)]; exact (h4 j hj).2⟩⟩
theorem c_X8_isText {Q : Int32 → jM → Prop} (hT : TB S t n b) (h1 : (ptx b n).1 = true → ∀ S', jtq S S' t → ji S' t 6 = nI (ptx b n).2.2.1 → CDC S' t (ptx b n).2.2.2 → Q 1 S') (h0 : (ptx b n).1 = false → ∀ S', jtq S S' t → ji S' t 2 = nI (ptx b n).2.1 → Q 0 S') : jFi E mX8_isText (d + 147) 0 0 [.ref t] S Q := by
  have h96 := hT.2.1
  have ok0 := (ptok_ok (b := b) (n := n) (w := 0) (e := 0) (Nat.zero_le _)).1
  have hn := pnext_ok ok0
  have p0 : jtq S (jput (jput (jput (jput S t 3 0) t 4 0) t 7 0) t 9 0) t := (((jtq.put (by omega)).trans (jtq.put (by omega))).trans (jtq.put (by omega))).trans (jtq.put (by omega))
  have T0 := hT.tq p0
  refine T_X8_isText ⟨hT.1.1, ?_⟩
  have f3 : ji (jput (jput (jput (jput S t 3 0) t 4 0) t 7 0) t 9 0) t 3 = nI 0 := by rw [ji_put, if_neg (by omega), ji_put, if_neg (by omega), ji_put, if_neg (by omega), ji_put_same]; rfl
  have f4 : ji (jput (jput (jput (jput S t 3 0) t 4 0) t 7 0) t 9 0) t 4 = nI 0 := by rw [ji_put, if_neg (by omega), ji_put, if_neg (by omega), ji_put_same]; rfl
  have f7 : ji (jput (jput (jput (jput S t 3 0) t 4 0) t 7 0) t 9 0) t 7 = nI 0 := by rw [ji_put, if_neg (by omega), ji_put_same]; rfl
  have f9 : ji (jput (jput (jput (jput S t 3 0) t 4 0) t 7 0) t 9 0) t 9 = nI 0 := by rw [ji_put_same]; rfl
  generalize jput (jput (jput (jput S t 3 0) t 4 0) t 7 0) t 9 0 = S0 at p0 T0 f3 f4 f7 f9 ⊢
  refine c_X8_step (e := 0) (so := 0) T0 f3 f4 (Nat.zero_le _) (by omega) (fun S1 g1 K1 => ?_)
  rw [if_neg (by omega)] at K1
  have T1 := T0.ts g1
  have C1 : CDC S1 t [] := ⟨(g1.2.2 9 (by omega)).trans f9, (g1.2.2 7 (by omega)).trans f7, fun i hi => absurd hi (Nat.not_lt_zero _)⟩
  have q1 : jtq S S1 t := p0.trans g1.tp.tq
  have bs : ∀ j, j < 4 → (ptok b n 0 0).2.1 - (ptok b n 0 0).1 = 4 → b ((ptok b n 0 0).1 + j) < 256 := fun j hj e => (hT.2.2.2 _ (by have := ok0.2.1; omega)).1
  refine ⟨T1.1.1, c_X8_keyInHand T1 K1 ok0 (fun i hi hw hno => ⟨T1.1.1, fun _ => ?_, fun z => absurd (Int32.not_lt.mp (nI_pos (by omega))) z⟩) (fun hno => ⟨T1.1.1, fun z => absurd z (by decide), fun _ => ?_⟩)⟩
  · -- a key
    have ek : pkey b (ptok b n 0 0) = i := by
      unfold pkey
      rcases (show i = 0 ∨ i = 1 ∨ i = 2 by omega) with rfl | rfl | rfl
      · rw [if_pos ((pwd_0 bs).mp hw)]
      · rw [if_neg (fun z => hno 0 (by omega) ((pwd_0 bs).mpr z)), if_pos ((pwd_1 bs).mp hw)]
      · rw [if_neg (fun z => hno 0 (by omega) ((pwd_0 bs).mpr z)), if_neg (fun z => hno 1 (by omega) ((pwd_1 bs).mpr z)), if_pos ((pwd_2 bs).mp hw)]
    have e1 : ptx b n = if (pread b n i 70 0 0 0 (pnext b n (ptok b n 0 0)) []).1 = true ∧ (pread b n i 70 0 0 0 (pnext b n (ptok b n 0 0)) []).2.1.2.2.1 = 0 then (true, 0, i, (pread b n i 70 0 0 0 (pnext b n (ptok b n 0 0)) []).2.2) else (false, (pread b n i 70 0 0 0 (pnext b n (ptok b n 0 0)) []).2.1.1, 0, []) := by
      unfold ptx
      rw [ek, if_neg (by omega)]
    rw [e1] at h1 h0
    have g2 : jtq S1 (jput S1 t 6 (nI i)) t := jtq.put (by omega)
    have T2 := T1.tq g2
    have K2 : TKC (jput S1 t 6 (nI i)) t (ptok b n 0 0) := ⟨by rw [ji_put, if_neg (by omega)]; exact K1.1, by rw [ji_put, if_neg (by omega)]; exact K1.2.1, by rw [ji_put, if_neg (by omega)]; exact K1.2.2.1, by rw [ji_put, if_neg (by omega)]; exact K1.2.2.2⟩
    have C2 : CDC (jput S1 t 6 (nI i)) t [] := ⟨by rw [ji_put, if_neg (by omega)]; exact C1.1, by rw [ji_put, if_neg (by omega)]; exact C1.2.1, fun i hi => absurd hi (Nat.not_lt_zero _)⟩
    refine c_X8_next T2 K2 ok0 (fun S3 g3 K3 => ⟨(T2.ts g3).1.1, ?_⟩)
    have e6 : ji S3 t 6 = nI i := (g3.2.2 6 (by omega)).trans (ji_put_same _ _ _ _)
    have l4 : 4 ≤ (pnext b n (ptok b n 0 0)).1 := by
      have := hw.2.1
      have := hn.2
      omega
    have pg := pread_ok (b := b) (n := n) (key := i) 70 0 0 0 (pnext b n (ptok b n 0 0)) [] hn.1
    refine (c_X8_read hi 70).2 0 0 0 (d + 146) (pnext b n (ptok b n 0 0)) [] S3 _ (by omega) (by decide) (by omega) (by omega) (by omega) (T2.ts g3) e6 K3 hn.1 (C2.ts g3) (by show 0 + 1 ≤ _; omega) (fun S4 g4 p4 => ?_)
    generalize pread b n i 70 0 0 0 (pnext b n (ptok b n 0 0)) [] = r at h1 h0 pg p4 ⊢
    have q4 : jtq S S4 t := ((q1.trans g2).trans g3.tp.tq).trans g4.tq
    have T4 := hT.tq q4
    by_cases c1 : r.1 = true
    · have eB : rB r = 1 := by unfold rB; rw [if_pos c1]
      rw [eB]
      obtain ⟨K4, C4⟩ := p4.1 c1
      have s3 := pg.1.so
      refine ⟨fun z => absurd z (by decide), fun _ => ⟨T4.1.1, ?_⟩⟩
      rw [K4.2.2.1]
      refine ⟨fun z => ?_, fun z => ?_⟩
      · have e0 : r.2.1.2.2.1 = 0 := nI_inj (b := 0) (by omega) (by omega) z
        rw [if_pos ⟨c1, e0⟩] at h1
        exact h1 rfl S4 q4 ((g4.2.2 6 (Or.inr rfl)).trans e6) C4
      · rw [if_neg (fun q => z (by rw [q.2]; rfl))] at h0
        exact h0 rfl S4 q4 K4.1
    · have eB : rB r = 0 := by unfold rB; rw [if_neg c1]
      rw [eB]
      refine ⟨fun _ => ?_, fun z => absurd rfl z⟩
      rw [if_neg (fun q => c1 q.1)] at h0
      exact h0 rfl S4 q4 (p4.2 (by simpa using c1))
  · -- none
    have ek : pkey b (ptok b n 0 0) = 9 := by
      unfold pkey
      rw [if_neg (fun z => hno 0 (by omega) ((pwd_0 bs).mpr z)), if_neg (fun z => hno 1 (by omega) ((pwd_1 bs).mpr z)), if_neg (fun z => hno 2 (by omega) ((pwd_2 bs).mpr z))]
    have e1 : ptx b n = (false, (ptok b n 0 0).1, 0, []) := by unfold ptx; rw [if_pos ek]
    rw [e1] at h0
    exact h0 rfl _ (q1.trans (jtq.put (by omega))) (by rw [ji_put, if_neg (by omega)]; exact K1.1)
end jTape5
end
section
/-! TEXT: the class makes its text -/
theorem jr_putr_ne (S : jM) (a j : Nat) (v : Option Nat) {y : Nat} (h : y ≠ a) : jr (jputr S a j v) y = jr S y := by funext i; rw [jr_putr, if_neg (fun z => h z.1)]
theorem jr_putr_same (S : jM) (a j : Nat) (v : Option Nat) : jr (jputr S a j v) a j = v := by rw [jr_putr, if_pos ⟨rfl, rfl⟩]
section jTxtNew
variable {E : jEnv} {d : Nat} {S S' : jM} {t key : Nat}
theorem jmax1 {o : Nat} (h : o ≤ 96) : ¬ jmax 1 (nI o) < 0 ∧ Int32.toNatClampNeg (jmax 1 (nI o)) = if o = 0 then 1 else o := by
  unfold jmax
  by_cases c : (1 : Int32) < nI o
  · have : 1 < o := (nI_ltI (a := 1) (by omega) (by omega)).mp c
    rw [if_pos c, if_neg (by omega), jcl (by omega)]
    exact ⟨nI_pos (by omega), rfl⟩
  · have : ¬ 1 < o := fun z => c (nI_lt (a := 1) z (by omega))
    rw [if_neg c]
    refine ⟨by decide, ?_⟩
    by_cases h0 : o = 0
    · rw [if_pos h0]; rfl
    · rw [if_neg h0, show o = 1 by omega]; rfl
theorem c_X8_textRead {Q : Option Nat → jM → Prop} {L : List Nat} (hT : TpL S t) (ht : t + 2 < jn S) (hC : CDC S t L) (h6 : ji S t 6 = nI key) (hl : L.length ≤ 96) (hp : pops L ≤ 96) (hq : ∀ S', jn S' = jn S + 3 → (∀ y, y < jn S → jcs S S' y) → TxC S' (jn S) key L.length (pops L) (fun i => L.getD i 0) → Q (some (jn S + 1)) S') : jFr E mX8_textRead (d + 2) 3 196 [.ref t] S Q := by
  obtain ⟨l9, l7, lr⟩ := hC
  have c9 : Int32.toNatClampNeg (ji S t 9) = L.length := by rw [l9]; exact jcl (by omega)
  have n9 : ¬ ji S t 9 < 0 := by rw [l9]; exact nI_pos (by omega)
  have nt : t ≠ jn S := by omega
  have nt2 : t + 2 ≠ jn S := by omega
  have jt : ∀ k m, ji (jnew S k m) t = ji S t := fun k m => by rw [ji_newE, if_neg nt]
  refine T_X8_textRead ⟨hT.1, ⟨n9, by rw [c9]; omega, by omega, by rw [c9]; omega⟩, fun q5 e5 => ?_⟩
  subst e5
  rw [c9, jt, c9]
  refine ⟨by rw [jk_newE, if_neg nt]; exact hT.1, t + 2, by rw [jr_newE, if_neg nt]; exact hT.2.2.1, by rw [jk_newE, if_neg nt2]; exact hT.2.2.2.2.2.1, by rw [jk_newE, if_pos rfl], ⟨by decide, by decide, n9, ?_, ?_⟩, ⟨by omega, by omega⟩, fun q16 e16 => ?_⟩
  · rw [jl_newE, if_neg nt2, hT.2.2.2.2.2.2]; show 0 + L.length ≤ 96; omega
  · rw [jl_newE, if_pos rfl]; show 0 + L.length ≤ L.length; omega
  have z0 : Int32.toNatClampNeg 0 = 0 := rfl
  rw [z0] at e16 ⊢
  have hn2 : jn (jrow (jnew S 12 L.length) (jn S) (va_cpy (ji (jnew S 12 L.length) (t + 2)) (ji (jnew S 12 L.length) (jn S)) 0 0 L.length)) = jn S + 1 := rfl
  rw [hn2] at e16
  subst e16
  -- the row behind the copy
  have hk2 : ∀ y, jk (jrow (jnew S 12 L.length) (jn S) (va_cpy (ji (jnew S 12 L.length) (t + 2)) (ji (jnew S 12 L.length) (jn S)) 0 0 L.length)) y = if y = jn S then 12 else jk S y := fun y => rfl
  have hl2 : ∀ y, jl (jrow (jnew S 12 L.length) (jn S) (va_cpy (ji (jnew S 12 L.length) (t + 2)) (ji (jnew S 12 L.length) (jn S)) 0 0 L.length)) y = if y = jn S then L.length else jl S y := fun y => rfl
  have hr2 : ∀ y, jr (jrow (jnew S 12 L.length) (jn S) (va_cpy (ji (jnew S 12 L.length) (t + 2)) (ji (jnew S 12 L.length) (jn S)) 0 0 L.length)) y = if y = jn S then (fun _ => none) else jr S y := fun y => rfl
  have hi2 : ∀ y, y ≠ jn S → ji (jrow (jnew S 12 L.length) (jn S) (va_cpy (ji (jnew S 12 L.length) (t + 2)) (ji (jnew S 12 L.length) (jn S)) 0 0 L.length)) y = ji S y := fun y hy => by rw [ji_row_ne _ _ _ hy, ji_newE, if_neg hy]
  have hw2 : ∀ i, i < L.length → ji (jrow (jnew S 12 L.length) (jn S) (va_cpy (ji (jnew S 12 L.length) (t + 2)) (ji (jnew S 12 L.length) (jn S)) 0 0 L.length)) (jn S) i = nI (L.getD i 0) := fun i hi => by
    rw [ji_row_same, pk_cpy_in (by omega) (by omega), ji_newE, if_neg nt2, show 0 + (i - 0) = i by omega]; exact lr i hi
  generalize jrow (jnew S 12 L.length) (jn S) (va_cpy (ji (jnew S 12 L.length) (t + 2)) (ji (jnew S 12 L.length) (jn S)) 0 0 L.length) = S2 at hn2 hk2 hl2 hr2 hi2 hw2 ⊢
  have nt3 : t ≠ jn S2 := by omega
  have j3 : ji (jnew S2 9 0) t = ji S t := by rw [ji_newE, if_neg nt3]; exact hi2 t nt
  rw [j3, h6, l7]
  obtain ⟨m1, m2⟩ := jmax1 hp
  refine ⟨by rw [jk_newE, if_neg nt3, hk2, if_neg nt]; exact hT.1, ⟨by omega, by omega⟩, T_X9_init ⟨by rw [jk_newE, hn2, if_pos rfl], ⟨m1, by rw [m2]; split <;> omega, by omega, by rw [m2]; split <;> omega⟩, fun q6 e6 => ?_⟩⟩
  rw [m2]
  have e6' : q6 = jn S + 2 := e6.trans (show jn S2 + 1 = jn S + 2 by rw [hn2])
  subst e6'
  refine ⟨?_, ⟨by omega, by split <;> omega⟩, ⟨by omega, by omega⟩, ?_⟩
  · rw [jk_newE, if_neg]
    · show jk (jnew S2 9 0) (jn S + 1) = 9
      rw [jk_newE, hn2, if_pos rfl]
    · show ¬ jn S + 1 = jn S2 + 1
      omega
  have n4 : jn (jputr (jput (jput (jnew S2 9 0) (jn S + 1) 0 (nI key)) (jn S + 1) 1 (nI (pops L))) (jn S + 1) 2 (some (jn S))) = jn S + 2 := by show jn S2 + 1 = _; rw [hn2]
  have hk4 : ∀ y, jk (jputr (jput (jput (jnew S2 9 0) (jn S + 1) 0 (nI key)) (jn S + 1) 1 (nI (pops L))) (jn S + 1) 2 (some (jn S))) y = if y = jn S + 1 then 9 else jk S2 y := fun y => by show jk (jnew S2 9 0) y = _; rw [jk_newE, hn2]
  have hl4 : ∀ y, y ≠ jn S + 1 → jl (jputr (jput (jput (jnew S2 9 0) (jn S + 1) 0 (nI key)) (jn S + 1) 1 (nI (pops L))) (jn S + 1) 2 (some (jn S))) y = jl S2 y := fun y hy => by show jl (jnew S2 9 0) y = _; rw [jl_newE, hn2, if_neg hy]
  have hi4 : ∀ y, y ≠ jn S + 1 → ji (jputr (jput (jput (jnew S2 9 0) (jn S + 1) 0 (nI key)) (jn S + 1) 1 (nI (pops L))) (jn S + 1) 2 (some (jn S))) y = ji S2 y := fun y hy => by
    rw [ji_putr, ji_put_ne _ _ _ _ hy, ji_put_ne _ _ _ _ hy, ji_newE, hn2, if_neg hy]
  have hi40 : ji (jputr (jput (jput (jnew S2 9 0) (jn S + 1) 0 (nI key)) (jn S + 1) 1 (nI (pops L))) (jn S + 1) 2 (some (jn S))) (jn S + 1) 0 = nI key := by
    rw [ji_putr, ji_put, if_neg (by omega), ji_put_same]
  have hi41 : ji (jputr (jput (jput (jnew S2 9 0) (jn S + 1) 0 (nI key)) (jn S + 1) 1 (nI (pops L))) (jn S + 1) 2 (some (jn S))) (jn S + 1) 1 = nI (pops L) := by
    rw [ji_putr, ji_put_same]
  have hr4 : ∀ y, y ≠ jn S + 1 → jr (jputr (jput (jput (jnew S2 9 0) (jn S + 1) 0 (nI key)) (jn S + 1) 1 (nI (pops L))) (jn S + 1) 2 (some (jn S))) y = jr S2 y := fun y hy => by
    rw [jr_putr_ne _ _ _ _ hy]
    show jr (jnew S2 9 0) y = _
    rw [jr_newE, hn2, if_neg hy]
  have hr42 : jr (jputr (jput (jput (jnew S2 9 0) (jn S + 1) 0 (nI key)) (jn S + 1) 1 (nI (pops L))) (jn S + 1) 2 (some (jn S))) (jn S + 1) 2 = some (jn S) := jr_putr_same _ _ _ _
  generalize jputr (jput (jput (jnew S2 9 0) (jn S + 1) 0 (nI key)) (jn S + 1) 1 (nI (pops L))) (jn S + 1) 2 (some (jn S)) = S4 at n4 hk4 hl4 hi4 hi40 hi41 hr4 hr42 ⊢
  refine hq _ ?_ (fun y hy => ⟨?_, ?_, ?_, ?_⟩) ⟨?_, ?_, ?_, ?_, ?_, ?_, ?_, ?_, ?_, fun i hi => ?_⟩
  · show jn S4 + 1 = _; rw [n4]
  · show jk (jnew S4 12 (if pops L = 0 then 1 else pops L)) y = _
    rw [jk_newE, n4, if_neg (by omega), hk4, if_neg (by omega), hk2, if_neg (by omega)]
  · show jl (jnew S4 12 (if pops L = 0 then 1 else pops L)) y = _
    rw [jl_newE, n4, if_neg (by omega), hl4 y (by omega), hl2, if_neg (by omega)]
  · rw [ji_putr, ji_newE, n4, if_neg (by omega), hi4 y (by omega), hi2 y (by omega)]
  · rw [jr_putr_ne _ _ _ _ (by omega), jr_newE, n4, if_neg (by omega), hr4 y (by omega), hr2, if_neg (by omega)]
  · show jk (jnew S4 12 (if pops L = 0 then 1 else pops L)) (jn S + 1) = 9
    rw [jk_newE, n4, if_neg (by omega), hk4, if_pos rfl]
  · rw [jr_putr, if_neg (by omega), jr_newE, n4, if_neg (by omega), hr42]
  · rw [jr_putr_same]
  · show jk (jnew S4 12 (if pops L = 0 then 1 else pops L)) (jn S) = 12
    rw [jk_newE, n4, if_neg (by omega), hk4, if_neg (by omega), hk2, if_pos rfl]
  · show jl (jnew S4 12 (if pops L = 0 then 1 else pops L)) (jn S) = _
    rw [jl_newE, n4, if_neg (by omega), hl4 _ (by omega), hl2, if_pos rfl]
  · show jk (jnew S4 12 (if pops L = 0 then 1 else pops L)) (jn S + 2) = 12
    rw [jk_newE, n4, if_pos rfl]
  · show jl (jnew S4 12 (if pops L = 0 then 1 else pops L)) (jn S + 2) = _
    rw [jl_newE, n4, if_pos rfl]
  · rw [ji_putr, ji_newE, n4, if_neg (by omega)]; exact hi40
  · rw [ji_putr, ji_newE, n4, if_neg (by omega)]; exact hi41
  · rw [ji_putr, ji_newE, n4, if_neg (by omega), hi4 _ (by omega)]; exact hw2 i hi
end jTxtNew
end
