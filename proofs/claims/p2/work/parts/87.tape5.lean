/-! TEXT: the whole tape -/
def pkey (b : Nat → Nat) (k : jtk) : Nat :=
  if k.2.2.1 = 1 ∧ k.2.1 - k.1 = 4 ∧ b k.1 = 116 ∧ b (k.1 + 1) = 101 ∧ b (k.1 + 2) = 114 ∧ b (k.1 + 3) = 109 then 0
  else if k.2.2.1 = 1 ∧ k.2.1 - k.1 = 4 ∧ b k.1 = 102 ∧ b (k.1 + 1) = 97 ∧ b (k.1 + 2) = 109 ∧ b (k.1 + 3) = 101 then 1
  else if k.2.2.1 = 1 ∧ k.2.1 - k.1 = 4 ∧ b k.1 = 102 ∧ b (k.1 + 1) = 105 ∧ b (k.1 + 2) = 110 ∧ b (k.1 + 3) = 101 then 2 else 9
/-- the tape as a whole: good, the place of the FAULT, the key, the code -/
def ptx (b : Nat → Nat) (n : Nat) : Bool × Nat × Nat × List Nat :=
  if pkey b (ptok b n 0 0) = 9 then (false, (ptok b n 0 0).1, 0, [])
  else if (pread b n (pkey b (ptok b n 0 0)) 70 0 0 0 (pnext b n (ptok b n 0 0)) []).1 = true ∧ (pread b n (pkey b (ptok b n 0 0)) 70 0 0 0 (pnext b n (ptok b n 0 0)) []).2.1.2.2.1 = 0
    then (true, 0, pkey b (ptok b n 0 0), (pread b n (pkey b (ptok b n 0 0)) 70 0 0 0 (pnext b n (ptok b n 0 0)) []).2.2)
    else (false, (pread b n (pkey b (ptok b n 0 0)) 70 0 0 0 (pnext b n (ptok b n 0 0)) []).2.1.1, 0, [])
theorem pwd_0 {b : Nat → Nat} {k : jtk} (hb : ∀ j, j < 4 → k.2.1 - k.1 = 4 → b (k.1 + j) < 256) : pwd b k 0 ↔ (k.2.2.1 = 1 ∧ k.2.1 - k.1 = 4 ∧ b k.1 = 116 ∧ b (k.1 + 1) = 101 ∧ b (k.1 + 2) = 114 ∧ b (k.1 + 3) = 109) := by
  constructor
  · rintro ⟨h1, h2, h3⟩
    have q : ∀ j, j < 4 → ∀ c, c < 256 → sB 0 j = nI c → b (k.1 + j) = c := fun j hj c hc e => by
      have := hb j hj h2
      exact nI_inj (by omega) (by omega) ((h3 j hj).trans e)
    exact ⟨h1, h2, q 0 (by omega) 116 (by omega) rfl, q 1 (by omega) 101 (by omega) rfl, q 2 (by omega) 114 (by omega) rfl, q 3 (by omega) 109 (by omega) rfl⟩
  · rintro ⟨h1, h2, a, b1, c, d⟩
    refine ⟨h1, h2, fun j hj => ?_⟩
    rcases (show j = 0 ∨ j = 1 ∨ j = 2 ∨ j = 3 by omega) with rfl | rfl | rfl | rfl
    · rw [Nat.add_zero, a]; rfl
    · rw [b1]; rfl
    · rw [c]; rfl
    · rw [d]; rfl
theorem pwd_1 {b : Nat → Nat} {k : jtk} (hb : ∀ j, j < 4 → k.2.1 - k.1 = 4 → b (k.1 + j) < 256) : pwd b k 1 ↔ (k.2.2.1 = 1 ∧ k.2.1 - k.1 = 4 ∧ b k.1 = 102 ∧ b (k.1 + 1) = 97 ∧ b (k.1 + 2) = 109 ∧ b (k.1 + 3) = 101) := by
  constructor
  · rintro ⟨h1, h2, h3⟩
    have q : ∀ j, j < 4 → ∀ c, c < 256 → sB 1 j = nI c → b (k.1 + j) = c := fun j hj c hc e => by
      have := hb j hj h2
      exact nI_inj (by omega) (by omega) ((h3 j hj).trans e)
    exact ⟨h1, h2, q 0 (by omega) 102 (by omega) rfl, q 1 (by omega) 97 (by omega) rfl, q 2 (by omega) 109 (by omega) rfl, q 3 (by omega) 101 (by omega) rfl⟩
  · rintro ⟨h1, h2, a, b1, c, d⟩
    refine ⟨h1, h2, fun j hj => ?_⟩
    rcases (show j = 0 ∨ j = 1 ∨ j = 2 ∨ j = 3 by omega) with rfl | rfl | rfl | rfl
    · rw [Nat.add_zero, a]; rfl
    · rw [b1]; rfl
    · rw [c]; rfl
    · rw [d]; rfl
theorem pwd_2 {b : Nat → Nat} {k : jtk} (hb : ∀ j, j < 4 → k.2.1 - k.1 = 4 → b (k.1 + j) < 256) : pwd b k 2 ↔ (k.2.2.1 = 1 ∧ k.2.1 - k.1 = 4 ∧ b k.1 = 102 ∧ b (k.1 + 1) = 105 ∧ b (k.1 + 2) = 110 ∧ b (k.1 + 3) = 101) := by
  constructor
  · rintro ⟨h1, h2, h3⟩
    have q : ∀ j, j < 4 → ∀ c, c < 256 → sB 2 j = nI c → b (k.1 + j) = c := fun j hj c hc e => by
      have := hb j hj h2
      exact nI_inj (by omega) (by omega) ((h3 j hj).trans e)
    exact ⟨h1, h2, q 0 (by omega) 102 (by omega) rfl, q 1 (by omega) 105 (by omega) rfl, q 2 (by omega) 110 (by omega) rfl, q 3 (by omega) 101 (by omega) rfl⟩
  · rintro ⟨h1, h2, a, b1, c, d⟩
    refine ⟨h1, h2, fun j hj => ?_⟩
    rcases (show j = 0 ∨ j = 1 ∨ j = 2 ∨ j = 3 by omega) with rfl | rfl | rfl | rfl
    · rw [Nat.add_zero, a]; rfl
    · rw [b1]; rfl
    · rw [c]; rfl
    · rw [d]; rfl
theorem pkey_lt {b : Nat → Nat} {k : jtk} (h : ¬ pkey b k = 9) : pkey b k < 3 := by
  unfold pkey at h ⊢
  split
  · omega
  · rename_i q1
    rw [if_neg q1] at h
    split
    · omega
    · rename_i q2
      rw [if_neg q2] at h
      split
      · omega
      · rename_i q3
        rw [if_neg q3] at h
        exact absurd rfl h
/-- the code of a good tape -/
theorem ptx_ok {b : Nat → Nat} {n : Nat} (h : (ptx b n).1 = true) : (ptx b n).2.2.1 < 3 ∧ pEX (ptx b n).2.2.1 (ptx b n).2.2.2 ∧ (ptx b n).2.2.2.length ≤ n := by
  have k0 := (ptok_ok (b := b) (n := n) (w := 0) (e := 0) (Nat.zero_le _)).1
  have hn := pnext_ok k0
  unfold ptx at h ⊢
  by_cases c9 : pkey b (ptok b n 0 0) = 9
  · rw [if_pos c9] at h; exact Bool.noConfusion h
  · rw [if_neg c9] at h ⊢
    have hk : pkey b (ptok b n 0 0) < 3 := pkey_lt c9
    generalize pkey b (ptok b n 0 0) = key at h hk ⊢
    have pg := pread_ok (b := b) (n := n) (key := key) 70 0 0 0 (pnext b n (ptok b n 0 0)) [] hn.1
    generalize pread b n key 70 0 0 0 (pnext b n (ptok b n 0 0)) [] = r at h pg ⊢
    by_cases c1 : r.1 = true ∧ r.2.1.2.2.1 = 0
    · rw [if_pos c1]
      obtain ⟨k1, k2, A, eA, xA⟩ := pg.2.2 c1.1
      refine ⟨hk, ?_, ?_⟩
      · show pEX key r.2.2
        rw [eA]; exact xA
      · show r.2.2.length ≤ n
        have := pg.1.1
        have := pg.1.2.1
        have e0 : ([] : List Nat).length = 0 := rfl
        omega
    · rw [if_neg c1] at h; exact Bool.noConfusion h
/-! the code as a text -/
theorem prn_take {key : Nat} (L : List Nat) (hx : pEX key L) : ∀ i, i ≤ L.length → prn 0 (L.take i) = some (dpt (fun j => L.getD j 0) i) ∧ dpt (fun j => L.getD j 0) i ≤ pops (L.take i)
  | 0, _ => ⟨rfl, Nat.zero_le _⟩
  | i + 1, hi => by
    obtain ⟨h1, h2⟩ := prn_take L hx i (by omega)
    have hlt : i < L.length := by omega
    have et : L.take (i + 1) = L.take i ++ [L.getD i 0] := by
      rw [List.take_add_one, List.getElem?_eq_getElem hlt]
      simp [List.getD_eq_getElem?_getD, List.getElem?_eq_getElem hlt]
    have tot : prn 0 L = some (0 + 1) := hx.2 0
    have spl : L = L.take (i + 1) ++ L.drop (i + 1) := (List.take_append_drop (i + 1) L).symm
    have run : prn 0 (L.take (i + 1)) = prn (dpt (fun j => L.getD j 0) i) [L.getD i 0] := by rw [et]; exact prn_app _ _ 0 _ h1
    have some1 : ∃ e, prn 0 (L.take (i + 1)) = some e := by
      cases hc : prn 0 (L.take (i + 1)) with
      | some e => exact ⟨e, rfl⟩
      | none =>
        exfalso
        have key2 : ∀ (A B : List Nat) (e : Nat), prn e A = none → prn e (A ++ B) = none := by
          intro A
          induction A with
          | nil => intro B e h; exact absurd h (by simp [prn])
          | cons w A ih =>
            intro B e h
            have h' : (if w < 20000 then prn (e + 1) A else if w = 20033 then (if 1 ≤ e then prn e A else none) else (if 2 ≤ e then prn (e - 1) A else none)) = none := h
            show (if w < 20000 then prn (e + 1) (A ++ B) else if w = 20033 then (if 1 ≤ e then prn e (A ++ B) else none) else (if 2 ≤ e then prn (e - 1) (A ++ B) else none)) = none
            by_cases c1 : w < 20000
            · rw [if_pos c1] at h' ⊢; exact ih B _ h'
            · rw [if_neg c1] at h' ⊢
              by_cases c2 : w = 20033
              · rw [if_pos c2] at h' ⊢
                by_cases c3 : 1 ≤ e
                · rw [if_pos c3] at h' ⊢; exact ih B _ h'
                · rw [if_neg c3]
              · rw [if_neg c2] at h' ⊢
                by_cases c3 : 2 ≤ e
                · rw [if_pos c3] at h' ⊢; exact ih B _ h'
                · rw [if_neg c3]
        have := key2 _ (L.drop (i + 1)) 0 hc
        rw [← spl, tot] at this
        exact absurd this (by simp)
    obtain ⟨e, he⟩ := some1
    have ed : dpt (fun j => L.getD j 0) (i + 1) = if L.getD i 0 < 20000 then dpt (fun j => L.getD j 0) i + 1 else if L.getD i 0 = 20033 then dpt (fun j => L.getD j 0) i else dpt (fun j => L.getD j 0) i - 1 := rfl
    have ep : pops (L.take (i + 1)) = pops (L.take i) + (if L.getD i 0 < 20000 then 1 else 0) := by
      rw [et, pops_app]
      show _ + ((if L.getD i 0 < 20000 then 1 else 0) + 0) = _
      rw [Nat.add_zero]
    have one : prn (dpt (fun j => L.getD j 0) i) [L.getD i 0] = if L.getD i 0 < 20000 then some (dpt (fun j => L.getD j 0) i + 1) else if L.getD i 0 = 20033 then (if 1 ≤ dpt (fun j => L.getD j 0) i then some (dpt (fun j => L.getD j 0) i) else none) else (if 2 ≤ dpt (fun j => L.getD j 0) i then some (dpt (fun j => L.getD j 0) i - 1) else none) := rfl
    rw [run, one] at he
    rw [run, one, ed, ep]
    by_cases c1 : L.getD i 0 < 20000
    · rw [if_pos c1, if_pos c1, if_pos c1]; exact ⟨rfl, by omega⟩
    · rw [if_neg c1] at he ⊢
      rw [if_neg c1, if_neg c1]
      by_cases c2 : L.getD i 0 = 20033
      · rw [if_pos c2] at he ⊢
        rw [if_pos c2]
        by_cases c3 : 1 ≤ dpt (fun j => L.getD j 0) i
        · rw [if_pos c3]; exact ⟨rfl, by omega⟩
        · rw [if_neg c3] at he; exact absurd he (by simp)
      · rw [if_neg c2] at he ⊢
        rw [if_neg c2]
        by_cases c3 : 2 ≤ dpt (fun j => L.getD j 0) i
        · rw [if_pos c3]; exact ⟨rfl, by omega⟩
        · rw [if_neg c3] at he; exact absurd he (by simp)
theorem WFt_of {key : Nat} {L : List Nat} (hx : pEX key L) (hl : L.length ≤ 96) : WFt key L.length (pops L) (fun i => L.getD i 0) := by
  have mem : ∀ i, i < L.length → L.getD i 0 ∈ L := fun i hi => by
    simp [List.getD_eq_getElem?_getD, List.getElem?_eq_getElem hi]
  have step : ∀ i, i < L.length → prn (dpt (fun j => L.getD j 0) i) [L.getD i 0] = some (dpt (fun j => L.getD j 0) (i + 1)) := fun i hi => by
    have h1 := (prn_take L hx i (by omega)).1
    have h2 := (prn_take L hx (i + 1) (by omega)).1
    have et : L.take (i + 1) = L.take i ++ [L.getD i 0] := by
      rw [List.take_add_one, List.getElem?_eq_getElem hi]
      simp [List.getD_eq_getElem?_getD, List.getElem?_eq_getElem hi]
    rw [et, prn_app _ _ 0 _ h1] at h2
    exact h2
  have one : ∀ e w, prn e [w] = if w < 20000 then some (e + 1) else if w = 20033 then (if 1 ≤ e then some e else none) else (if 2 ≤ e then some (e - 1) else none) := fun _ _ => rfl
  have popl : ∀ A : List Nat, pops A ≤ A.length := by
    intro A
    induction A with
    | nil => exact Nat.le_refl _
    | cons w A ih =>
      show (if w < 20000 then 1 else 0) + pops A ≤ A.length + 1
      split <;> omega
  have pmono : ∀ i, pops (L.take i) ≤ pops L := fun i => by
    have e : pops L = pops (L.take i) + pops (L.drop i) := by rw [← pops_app, List.take_append_drop]
    omega
  refine ⟨fun i hi => hx.1 _ (mem i hi), fun i hi e => ?_, fun i hi e1 e2 => ?_, ?_, fun i hi => ?_, Nat.le_trans (popl L) hl, hl⟩
  · have h := step i hi
    rw [one] at h
    have e' : L.getD i 0 = 20033 := e
    rw [if_neg (by omega), if_pos e'] at h
    by_cases c : 1 ≤ dpt (fun j => L.getD j 0) i
    · exact c
    · rw [if_neg c] at h; exact absurd h (by simp)
  · have h := step i hi
    rw [one] at h
    have e1' : 20000 ≤ L.getD i 0 := e1
    have e2' : L.getD i 0 ≠ 20033 := e2
    rw [if_neg (by omega), if_neg e2'] at h
    by_cases c : 2 ≤ dpt (fun j => L.getD j 0) i
    · exact c
    · rw [if_neg c] at h; exact absurd h (by simp)
  · have h := (prn_take L hx L.length (Nat.le_refl _)).1
    rw [List.take_length, hx.2 0] at h
    exact (Option.some.inj h).symm
  · exact Nat.le_trans (prn_take L hx i hi).2 (pmono i)
/-! the class asks whether its tape is a text -/
def jtq (S S' : jM) (t : Nat) : Prop := jsame S S' ∧ (∀ y, y ≠ t → y ≠ t + 2 → ji S' y = ji S y) ∧ ji S' t 1 = ji S t 1
section jTape5
variable {E : jEnv} {d : Nat} {S S' : jM} {t n : Nat} {b : Nat → Nat}
theorem jtp.tq (h : jtp S S' t) : jtq S S' t := ⟨h.1, h.2.1, h.2.2 1 (Or.inl _root_.rfl)⟩
theorem jtq.trans {S1 S2 : jM} (h1 : jtq S S1 t) (h2 : jtq S1 S2 t) : jtq S S2 t := ⟨h1.1.trans h2.1, fun y a b => (h2.2.1 y a b).trans (h1.2.1 y a b), h2.2.2.trans h1.2.2⟩
theorem jtq.put {j : Nat} {w : Int32} (hj : j ≠ 1) : jtq S (jput S t j w) t := ⟨⟨rfl, rfl, rfl, rfl⟩, fun y a _ => ji_put_ne _ _ _ _ a, by rw [ji_put, if_neg (fun z => hj z.2.symm)]⟩
theorem TB.tq (h : TB S t n b) (g : jtq S S' t) : TB S' t n b := by
  obtain ⟨h1, h2, h3, h4⟩ := h
  exact ⟨h1.same g.1, h2, g.2.2.trans h3, fun j hj => ⟨(h4 j hj).1, by rw [g.2.1 _ (by omega) (by omega)]; exact (h4 j hj).2⟩⟩
theorem c_X8_isText {Q : Int32 → jM → Prop} (hT : TB S t n b) (h1 : (ptx b n).1 = true → ∀ S', jtq S S' t → ji S' t 6 = nI (ptx b n).2.2.1 → CDC S' t (ptx b n).2.2.2 → Q 1 S') (h0 : (ptx b n).1 = false → ∀ S', jtq S S' t → ji S' t 2 = nI (ptx b n).2.1 → Q 0 S') : jFi E mX8_isText (d + 147) 0 0 [.ref t] S Q := by
  have h96 := hT.2.1
  have ok0 := (ptok_ok (b := b) (n := n) (w := 0) (e := 0) (Nat.zero_le _)).1
  have hn := pnext_ok ok0
  have p0 : jtq S (jput (jput (jput (jput S t 3 0) t 4 0) t 7 0) t 9 0) t := (((jtq.put (by omega)).trans (jtq.put (by omega))).trans (jtq.put (by omega))).trans (jtq.put (by omega))
  have T0 := hT.tq p0
  refine T_X8_isText ⟨hT.1.1, ?_⟩
  have f3 : ji (jput (jput (jput (jput S t 3 0) t 4 0) t 7 0) t 9 0) t 3 = nI 0 := by rw [ji_put, if_neg (by omega), ji_put, if_neg (by omega), ji_put, if_neg (by omega), ji_put_same]; rfl
  have f4 : ji (jput (jput (jput (jput S t 3 0) t 4 0) t 7 0) t 9 0) t 4 = nI 0 := by rw [ji_put, if_neg (by omega), ji_put, if_neg (by omega), ji_put_same]; rfl
  have f7 : ji (jput (jput (jput (jput S t 3 0) t 4 0) t 7 0) t 9 0) t 7 = nI 0 := by rw [ji_put, if_neg (by omega), ji_put_same]; rfl
  have f9 : ji (jput (jput (jput (jput S t 3 0) t 4 0) t 7 0) t 9 0) t 9 = nI 0 := by rw [ji_put_same]; rfl
  generalize jput (jput (jput (jput S t 3 0) t 4 0) t 7 0) t 9 0 = S0 at p0 T0 f3 f4 f7 f9 ⊢
  refine c_X8_step (e := 0) (so := 0) T0 f3 f4 (Nat.zero_le _) (by omega) (fun S1 g1 K1 => ?_)
  rw [if_neg (by omega)] at K1
  have T1 := T0.ts g1
  have C1 : CDC S1 t [] := ⟨(g1.2.2 9 (by omega)).trans f9, (g1.2.2 7 (by omega)).trans f7, fun i hi => absurd hi (Nat.not_lt_zero _)⟩
  have q1 : jtq S S1 t := p0.trans g1.tp.tq
  have bs : ∀ j, j < 4 → (ptok b n 0 0).2.1 - (ptok b n 0 0).1 = 4 → b ((ptok b n 0 0).1 + j) < 256 := fun j hj e => (hT.2.2.2 _ (by have := ok0.2.1; omega)).1
  refine ⟨T1.1.1, c_X8_keyInHand T1 K1 ok0 (fun i hi hw hno => ⟨T1.1.1, fun _ => ?_, fun z => absurd (Int32.not_lt.mp (nI_pos (by omega))) z⟩) (fun hno => ⟨T1.1.1, fun z => absurd z (by decide), fun _ => ?_⟩)⟩
  · -- a key
    have ek : pkey b (ptok b n 0 0) = i := by
      unfold pkey
      rcases (show i = 0 ∨ i = 1 ∨ i = 2 by omega) with rfl | rfl | rfl
      · rw [if_pos ((pwd_0 bs).mp hw)]
      · rw [if_neg (fun z => hno 0 (by omega) ((pwd_0 bs).mpr z)), if_pos ((pwd_1 bs).mp hw)]
      · rw [if_neg (fun z => hno 0 (by omega) ((pwd_0 bs).mpr z)), if_neg (fun z => hno 1 (by omega) ((pwd_1 bs).mpr z)), if_pos ((pwd_2 bs).mp hw)]
    have e1 : ptx b n = if (pread b n i 70 0 0 0 (pnext b n (ptok b n 0 0)) []).1 = true ∧ (pread b n i 70 0 0 0 (pnext b n (ptok b n 0 0)) []).2.1.2.2.1 = 0 then (true, 0, i, (pread b n i 70 0 0 0 (pnext b n (ptok b n 0 0)) []).2.2) else (false, (pread b n i 70 0 0 0 (pnext b n (ptok b n 0 0)) []).2.1.1, 0, []) := by
      unfold ptx
      rw [ek, if_neg (by omega)]
    rw [e1] at h1 h0
    have g2 : jtq S1 (jput S1 t 6 (nI i)) t := jtq.put (by omega)
    have T2 := T1.tq g2
    have K2 : TKC (jput S1 t 6 (nI i)) t (ptok b n 0 0) := ⟨by rw [ji_put, if_neg (by omega)]; exact K1.1, by rw [ji_put, if_neg (by omega)]; exact K1.2.1, by rw [ji_put, if_neg (by omega)]; exact K1.2.2.1, by rw [ji_put, if_neg (by omega)]; exact K1.2.2.2⟩
    have C2 : CDC (jput S1 t 6 (nI i)) t [] := ⟨by rw [ji_put, if_neg (by omega)]; exact C1.1, by rw [ji_put, if_neg (by omega)]; exact C1.2.1, fun i hi => absurd hi (Nat.not_lt_zero _)⟩
    refine c_X8_next T2 K2 ok0 (fun S3 g3 K3 => ⟨(T2.ts g3).1.1, ?_⟩)
    have e6 : ji S3 t 6 = nI i := (g3.2.2 6 (by omega)).trans (ji_put_same _ _ _ _)
    have l4 : 4 ≤ (pnext b n (ptok b n 0 0)).1 := by
      have := hw.2.1
      have := hn.2
      omega
    have pg := pread_ok (b := b) (n := n) (key := i) 70 0 0 0 (pnext b n (ptok b n 0 0)) [] hn.1
    refine (c_X8_read hi 70).2 0 0 0 (d + 146) (pnext b n (ptok b n 0 0)) [] S3 _ (by omega) (by decide) (by omega) (by omega) (by omega) (T2.ts g3) e6 K3 hn.1 (C2.ts g3) (by show 0 + 1 ≤ _; omega) (fun S4 g4 p4 => ?_)
    generalize pread b n i 70 0 0 0 (pnext b n (ptok b n 0 0)) [] = r at h1 h0 pg p4 ⊢
    have q4 : jtq S S4 t := ((q1.trans g2).trans g3.tp.tq).trans g4.tq
    have T4 := hT.tq q4
    by_cases c1 : r.1 = true
    · have eB : rB r = 1 := by unfold rB; rw [if_pos c1]
      rw [eB]
      obtain ⟨K4, C4⟩ := p4.1 c1
      have s3 := pg.1.so
      refine ⟨fun z => absurd z (by decide), fun _ => ⟨T4.1.1, ?_⟩⟩
      rw [K4.2.2.1]
      refine ⟨fun z => ?_, fun z => ?_⟩
      · have e0 : r.2.1.2.2.1 = 0 := nI_inj (b := 0) (by omega) (by omega) z
        rw [if_pos ⟨c1, e0⟩] at h1
        exact h1 rfl S4 q4 ((g4.2.2 6 (Or.inr rfl)).trans e6) C4
      · rw [if_neg (fun q => z (by rw [q.2]; rfl))] at h0
        exact h0 rfl S4 q4 K4.1
    · have eB : rB r = 0 := by unfold rB; rw [if_neg c1]
      rw [eB]
      refine ⟨fun _ => ?_, fun z => absurd rfl z⟩
      rw [if_neg (fun q => c1 q.1)] at h0
      exact h0 rfl S4 q4 (p4.2 (by simpa using c1))
  · -- none
    have ek : pkey b (ptok b n 0 0) = 9 := by
      unfold pkey
      rw [if_neg (fun z => hno 0 (by omega) ((pwd_0 bs).mpr z)), if_neg (fun z => hno 1 (by omega) ((pwd_1 bs).mpr z)), if_neg (fun z => hno 2 (by omega) ((pwd_2 bs).mpr z))]
    have e1 : ptx b n = (false, (ptok b n 0 0).1, 0, []) := by unfold ptx; rw [if_pos ek]
    rw [e1] at h0
    exact h0 rfl _ (q1.trans (jtq.put (by omega))) (by rw [ji_put, if_neg (by omega)]; exact K1.1)
end jTape5
