/-! TEXTS on both sides: their words as numbers (a number for itself, names from 10000, signs from 20000), and what they give -/
/-- how deep the pile is ahead of word i -/
def dpt (cw : Nat → Nat) : Nat → Nat
  | 0 => 0
  | i + 1 => if cw i < 20000 then dpt cw i + 1 else if cw i = 20033 then dpt cw i else dpt cw i - 1
/-- the pile ahead of word i -/
def fvt (vals : Nat → Int32) (cw : Nat → Nat) : Nat → Nat → Int32
  | 0 => fun _ => 0
  | i + 1 => if cw i < 20000 then upd (fvt vals cw i) (dpt cw i) (if cw i < 10000 then nI (cw i) else vals (cw i - 10000))
    else if cw i = 20033 then upd (fvt vals cw i) (dpt cw i - 1) (if fvt vals cw i (dpt cw i - 1) = 0 then 1 else 0)
    else upd (fvt vals cw i) (dpt cw i - 2) (jjoinM (nI (cw i - 20000)) (fvt vals cw i (dpt cw i - 2)) (fvt vals cw i (dpt cw i - 1)))
def sgn : List Nat := [124, 38, 60, 61, 62, 43, 45, 42, 47]
def nmc (key : Nat) : Nat := if key = 0 then 3 else 2
def WFw (key w : Nat) : Prop := w < 10000 ∨ (∃ i, i < nmc key ∧ w = 10000 + i) ∨ w = 20033 ∨ ∃ c, c ∈ sgn ∧ w = 20000 + c
def WFt (key n ops : Nat) (cw : Nat → Nat) : Prop := (∀ i, i < n → WFw key (cw i)) ∧ (∀ i, i < n → cw i = 20033 → 1 ≤ dpt cw i) ∧ (∀ i, i < n → 20000 ≤ cw i → cw i ≠ 20033 → 2 ≤ dpt cw i) ∧ dpt cw n = 1 ∧ (∀ i, i ≤ n → dpt cw i ≤ ops) ∧ ops ≤ 96 ∧ n ≤ 96
def whatw (w : Nat) : Nat := if w < 10000 then 0 else if w < 20000 then 1 else 2
def letw (key i : Nat) : Nat := if key = 0 then (if i = 0 then 107 else if i = 1 then 103 else 97) else if key = 1 then (if i = 0 then 102 else 97) else (if i = 0 then 99 else 100)
def valw (key w : Nat) : Nat := if w < 10000 then w else if w < 20000 then letw key (w - 10000) else w - 20000
/-- the class's TEXT: its words at q, itself at q + 1, its pile at q + 2 -/
def TxC (S : jM) (q key n ops : Nat) (cw : Nat → Nat) : Prop := jk S (q + 1) = 9 ∧ jr S (q + 1) 2 = some q ∧ jr S (q + 1) 3 = some (q + 2) ∧ jk S q = 12 ∧ jl S q = n ∧ jk S (q + 2) = 12 ∧ jl S (q + 2) = (if ops = 0 then 1 else ops) ∧ ji S (q + 1) 0 = nI key ∧ ji S (q + 1) 1 = nI ops ∧ ∀ i, i < n → ji S q i = nI (cw i)
/-- the reference's TEXT t -/
def TxM (v : Nat → Int32) (t key n ops : Nat) (cw : Nat → Nat) : Prop := v (135 + 200 * t) = nI key ∧ v (136 + 200 * t) = nI ops ∧ v (137 + 200 * t) = nI n ∧ ∀ i, i < n → v (139 + 200 * t + 2 * i) = nI (whatw (cw i)) ∧ v (140 + 200 * t + 2 * i) = nI (valw key (cw i))
theorem WFw.lt {key w : Nat} (h : WFw key w) : w < 20125 := by
  rcases h with h | ⟨i, hi, rfl⟩ | rfl | ⟨c, hc, rfl⟩
  · omega
  · unfold nmc at hi; split at hi <;> omega
  · omega
  · have : c ≤ 124 := by
      have hd : ∀ c ∈ sgn, c ≤ 124 := by decide
      exact hd c hc
    omega
theorem jdivm1 (x : Int32) : x / (-1) = -x := by
  apply Int32.toInt_inj.mp
  have e : (-1 : Int32).toInt = -1 := by decide
  rw [Int32.toInt_div, e, Int.tdiv_neg, Int.tdiv_one, ← Int32.toInt_neg]
/-- both sides join alike -/
theorem jjoin_eq {c : Nat} (hc : c ∈ sgn) (a b : Int32) : jjoinC (nI c) a b = jjoinM (nI c) a b := by
  have hd : c = 124 ∨ c = 38 ∨ c = 60 ∨ c = 61 ∨ c = 62 ∨ c = 43 ∨ c = 45 ∨ c = 42 ∨ c = 47 := by
    simpa [sgn] using hc
  rcases hd with rfl | rfl | rfl | rfl | rfl | rfl | rfl | rfl | rfl
  all_goals try rfl
  show (if b = 0 then 0 else a / b) = (if b = 0 then 0 else if b = (-1) then -a else a / b)
  by_cases h0 : b = 0
  · rw [if_pos h0, if_pos h0]
  · rw [if_neg h0, if_neg h0]
    by_cases h1 : b = -1
    · rw [if_pos h1, h1, jdivm1]
    · rw [if_neg h1]
def jv3 (a b c : Int32) : Nat → Int32 := fun i => if i = 0 then a else if i = 1 then b else c
theorem jvalof_eq {key w : Nat} {a b c : Int32} (h : WFw key w) (hw : w < 20000) : jvalof (nI w) a b c = if w < 10000 then nI w else jv3 a b c (w - 10000) := by
  have n0 : w ≠ 10000 → ¬ nI w = 10000 := fun h => nI_ne (b := 10000) (by omega) (by omega) h
  have n1 : w ≠ 10001 → ¬ nI w = 10001 := fun h => nI_ne (b := 10001) (by omega) (by omega) h
  have n2 : w ≠ 10002 → ¬ nI w = 10002 := fun h => nI_ne (b := 10002) (by omega) (by omega) h
  unfold jvalof
  by_cases h1 : w < 10000
  · rw [if_pos h1, if_neg (n0 (by omega)), if_neg (n1 (by omega)), if_neg (n2 (by omega))]
  · rw [if_neg h1]
    rcases h with h | ⟨i, hi, e⟩ | h | ⟨c, hc, h⟩
    · omega
    · have hi3 : i < 3 := by unfold nmc at hi; split at hi <;> omega
      rw [show w - 10000 = i by omega]
      unfold jv3
      rcases (show i = 0 ∨ i = 1 ∨ i = 2 by omega) with rfl | rfl | rfl
      · rw [if_pos (by rw [e]; rfl), if_pos rfl]
      · rw [if_neg (n0 (by omega)), if_pos (by rw [e]; rfl), if_neg (by omega), if_pos rfl]
      · rw [if_neg (n0 (by omega)), if_neg (n1 (by omega)), if_pos (by rw [e]; rfl), if_neg (by omega), if_neg (by omega)]
    · omega
    · omega
section jTxt1
variable {E : jEnv} {d : Nat} {S : jM} {q key n ops m t : Nat} {cw : Nat → Nat} {v : Nat → Int32}
theorem TxC.keep {S' : jM} {lo hi : Nat} (h : TxC S q key n ops cw) (hc : jch S S' lo hi) (hd : q + 2 ≤ lo ∨ hi ≤ q) : TxC S' q key n ops cw := by
  obtain ⟨a1, a2, a3, a4, a5, a6, a7, a8, a9, a10⟩ := h
  obtain ⟨k, l, r, -⟩ := hc.1
  unfold TxC
  rw [k, l, r, hc.2 (q + 1) (by omega), hc.2 q (by omega)]
  exact ⟨a1, a2, a3, a4, a5, a6, a7, a8, a9, a10⟩
theorem WFt.le96 (h : WFt key n ops cw) {i : Nat} (hi : i ≤ n) : dpt cw i ≤ 96 := Nat.le_trans (h.2.2.2.2.1 i hi) h.2.2.2.2.2.1
theorem c_X9_workOut {Q : Int32 → jM → Prop} {a b c : Int32} (hC : TxC S q key n ops cw) (hW : WFt key n ops cw) (h : ∀ S', jch S S' (q + 2) (q + 3) → Q (fvt (jv3 a b c) cw n 0) S') : jFi E mX9_workOut (d + 1) 0 0 [.ref (q + 1), .int a, .int b, .int c] S Q := by
  have key : ∀ (r i : Nat) (S1 : jM), i + r = n → jch S S1 (q + 2) (q + 3) → (∀ j, j < dpt cw i → ji S1 (q + 2) j = fvt (jv3 a b c) cw i j) → L_X9_workOut_6 E d Q (q + 1) a b c (nI (dpt cw i)) (nI i) S1 := by
    intro r
    induction r with
    | zero =>
      intro i S1 hi c1 hs
      obtain rfl : i = n := by omega
      obtain ⟨a1, a2, a3, a4, a5, a6, a7, a8, a9, a10⟩ := hC.keep c1 (by omega)
      have hd1 := hW.2.2.2.1
      refine T_X9_workOut_6 ⟨a1, q, a2, a4, fun _ => ⟨fun _ => ⟨q + 2, a3, a6, ?_, ?_⟩, fun cc => absurd (by rw [hd1]; rfl) cc⟩, fun cc => absurd (by rw [a5]; exact Int32.le_rfl) cc⟩
      · rw [a7]
        split
        · exact jin_nI (n := 0) (by omega) (by omega)
        · exact jin_nI (n := 0) (by omega) (by have := hW.2.2.2.2.2.1; omega)
      · rw [jtn0, hs 0 (by omega)]; exact h S1 c1
    | succ r ih =>
      intro i S1 hi c1 hs
      obtain ⟨a1, a2, a3, a4, a5, a6, a7, a8, a9, a10⟩ := hC.keep c1 (by omega)
      have hn96 := hW.2.2.2.2.2.2
      have ho96 := hW.2.2.2.2.2.1
      have w1 := hW.1 i (by omega)
      have wlt := w1.lt
      have dle := hW.2.2.2.2.1 i (by omega)
      have dle1 := hW.2.2.2.2.1 (i + 1) (by omega)
      have e10 : ji S1 q (Int32.toNatClampNeg (nI i)) = nI (cw i) := by rw [jcl (by omega)]; exact a10 i (by omega)
      have l2 : ∀ y, y < ops → vp_in (nI y) (jl S1 (q + 2)) := fun y hy => by
        rw [a7, if_neg (by omega)]; exact jin_nI hy (by omega)
      have nxt : ∀ (y : Nat) (w : Int32), fvt (jv3 a b c) cw (i + 1) = upd (fvt (jv3 a b c) cw i) y w → (∀ j, j < dpt cw (i + 1) → j ≠ y → j < dpt cw i) → L_X9_workOut_6 E d Q (q + 1) a b c (nI (dpt cw (i + 1))) (nI (i + 1)) (jput S1 (q + 2) y w) := by
        intro y w hf hlt
        refine ih (i + 1) _ (by omega) (c1.trans (jch.put (by omega) (by omega))) (fun j hj => ?_)
        rw [hf, ji_put]
        unfold upd
        by_cases hjy : j = y
        · rw [if_pos ⟨rfl, hjy⟩, if_pos hjy]
        · rw [if_neg (fun cc => hjy cc.2), if_neg hjy]; exact hs j (hlt j hj hjy)
      refine T_X9_workOut_6 ⟨a1, q, a2, a4, fun cc => absurd cc (by rw [a5]; exact nI_ge (by omega) (by omega)), fun _ => ⟨by rw [a5]; exact jin_nI (by omega) (by omega), fun c20 => ⟨fun c33 => ?_, fun c33 => ?_⟩, fun c20 => ?_⟩⟩
      · rw [e10] at c20 c33
        have w20 : 20000 ≤ cw i := (nI_leI (a := 20000) (by omega) (by omega)).mp c20
        have w33 : cw i = 20033 := nI_inj (b := 20033) (by omega) (by omega) c33
        have d1 := hW.2.1 i (by omega) w33
        have ed : dpt cw (i + 1) = dpt cw i := by show (if cw i < 20000 then _ else if cw i = 20033 then _ else _) = _; rw [if_neg (by omega), if_pos w33]
        have ef : fvt (jv3 a b c) cw (i + 1) = upd (fvt (jv3 a b c) cw i) (dpt cw i - 1) (if fvt (jv3 a b c) cw i (dpt cw i - 1) = 0 then 1 else 0) := by
          show (if cw i < 20000 then _ else if cw i = 20033 then _ else _) = _
          rw [if_neg (by omega), if_pos w33]
        have em : nI (dpt cw i) - 1 = nI (dpt cw i - 1) := by
          obtain ⟨y, hy⟩ : ∃ y, dpt cw i = y + 1 := ⟨dpt cw i - 1, by omega⟩
          rw [hy]; exact nI_pred y
        rw [em, nI_1]
        refine ⟨q + 2, a3, a6, fun cc => absurd cc ?_, fun _ => ⟨l2 _ (by omega), ?_⟩⟩
        · rw [a7, if_neg (by omega), jwi_at (by omega) (by omega)]; decide
        · rw [jcl (by omega), hs _ (by omega), ← ed]
          have nx := nxt (dpt cw i - 1) _ ef (fun j hj _ => by omega)
          rw [ed] at nx ⊢
          refine ⟨fun c0 => ?_, fun c0 => ?_⟩
          · rw [if_pos c0] at nx; exact nx
          · rw [if_neg c0] at nx; exact nx
      · rw [e10] at c20 c33
        have w20 : 20000 ≤ cw i := (nI_leI (a := 20000) (by omega) (by omega)).mp c20
        have w33 : cw i ≠ 20033 := fun e => c33 (by rw [e]; rfl)
        have d2 := hW.2.2.1 i (by omega) w20 w33
        have ed : dpt cw (i + 1) = dpt cw i - 1 := by show (if cw i < 20000 then _ else if cw i = 20033 then _ else _) = _; rw [if_neg (by omega), if_neg w33]
        have ef : fvt (jv3 a b c) cw (i + 1) = upd (fvt (jv3 a b c) cw i) (dpt cw i - 2) (jjoinM (nI (cw i - 20000)) (fvt (jv3 a b c) cw i (dpt cw i - 2)) (fvt (jv3 a b c) cw i (dpt cw i - 1))) := by
          show (if cw i < 20000 then _ else if cw i = 20033 then _ else _) = _
          rw [if_neg (by omega), if_neg w33]
        obtain ⟨y, hy⟩ : ∃ y, dpt cw i = y + 2 := ⟨dpt cw i - 2, by omega⟩
        have em : nI (dpt cw i) + (-1) = nI (dpt cw i - 1) := by
          rw [hy, ← Int32.sub_eq_add_neg]; exact nI_pred (y + 1)
        have em2 : nI (dpt cw i - 1) - 1 = nI (dpt cw i - 2) := by rw [hy]; exact nI_pred y
        rw [em, em2, nI_1]
        refine ⟨fun cc => absurd cc ?_, fun _ => ⟨q + 2, a3, a6, fun cc => absurd cc ?_, fun _ => ⟨l2 _ (by omega), l2 _ (by omega), ?_⟩⟩⟩
        · rw [show (1 : Int32) = nI 1 from rfl]; exact nI_ge (by omega) (by omega)
        · rw [a7, if_neg (by omega)]; exact nI_nlt (by omega) (by omega)
        · have hsg : ∃ cc, cc ∈ sgn ∧ cw i = 20000 + cc := by
            rcases w1 with w1 | ⟨k, hk, w1⟩ | w1 | w1
            · omega
            · have : k < 3 := by unfold nmc at hk; split at hk <;> omega
              omega
            · exact absurd w1 w33
            · exact w1
          obtain ⟨ch, hch, ech⟩ := hsg
          have ej : nI (cw i) - 20000 = nI (cw i - 20000) := by
            rw [ech, show 20000 + ch - 20000 = ch by omega, ← nI_add, show (20000 : Int32) = nI 20000 from rfl, Int32.add_comm, Int32.add_sub_cancel]
          have nx := nxt (dpt cw i - 2) _ ef (fun j hj _ => by omega)
          rw [ed] at nx
          rw [jcl (n := dpt cw i - 2) (by omega), jcl (n := dpt cw i - 1) (by omega), e10, hs _ (by omega), hs _ (by omega), ej, show cw i - 20000 = ch by omega, jjoin_eq hch]
          rw [show cw i - 20000 = ch by omega] at nx
          exact nx
      · rw [e10] at c20
        have w20 : cw i < 20000 := by
          rcases Nat.lt_or_ge (cw i) 20000 with h9 | h9
          · exact h9
          · exact absurd ((nI_leI (a := 20000) (b := cw i) (by omega) (by omega)).mpr h9) c20
        have ed : dpt cw (i + 1) = dpt cw i + 1 := by show (if cw i < 20000 then _ else _) = _; rw [if_pos w20]
        have ef : fvt (jv3 a b c) cw (i + 1) = upd (fvt (jv3 a b c) cw i) (dpt cw i) (if cw i < 10000 then nI (cw i) else jv3 a b c (cw i - 10000)) := by
          show (if cw i < 20000 then _ else _) = _
          rw [if_pos w20]
        rw [nI_1, nI_1]
        refine ⟨q + 2, a3, a6, fun cc => absurd cc ?_, fun _ => ⟨l2 _ (by omega), ?_⟩⟩
        · rw [a7, if_neg (by omega), jwi_at (by omega) (by omega)]; decide
        · have nx := nxt (dpt cw i) _ ef (fun j hj hne => by omega)
          rw [ed] at nx
          rw [jcl (by omega), e10, jvalof_eq w1 w20]
          exact nx
  exact T_X9_workOut (key n 0 S (by omega) jch.rfl (fun j hj => absurd hj (Nat.not_lt_zero _)))
/-! the reference works a text out -/
theorem nI_txt (t k : Nat) : jtextat (nI t) + nI k = nI (135 + 200 * t + k) := by
  unfold jtextat
  rw [show (135 : Int32) = nI 135 from rfl, show (200 : Int32) = nI 200 from rfl, nI_mul, nI_add, nI_add]
theorem c_X11_worked {Q : Int32 → jM → Prop} {vals : Nat → Int32} (hM : MR S m v) (ht : t < 14) (hk : key < 3) (hT : TxM v t key n ops cw) (hW : WFt key n ops cw) (hn : ∀ i, i < nmc key → ji S (m + 16) (letw key i) = vals i) (h : ∀ S', jch S S' (m + 17) (m + 18) → Q (fvt vals cw n 0) S') : jFi E mX11_worked (d + 1) 0 0 [.ref m, .int (nI t)] S Q := by
  have r31 := hM.1.row 16 100 (f := 31) rfl
  have r30 := hM.1.row 15 128 (f := 30) rfl
  have ho96 := hW.2.2.2.2.2.1
  have hn96 := hW.2.2.2.2.2.2
  have keyl : ∀ (r i : Nat) (S1 : jM), i + r = n → jch S S1 (m + 17) (m + 18) → (∀ j, j < dpt cw i → ji S1 (m + 17) j = fvt vals cw i j) → L_X11_worked_4 E d Q m (nI t) (nI (dpt cw i)) (nI i) S1 := by
    intro r
    induction r with
    | zero =>
      intro i S1 hi c1 hs
      obtain rfl : i = n := by omega
      have hM1 := hM.keep c1 (by omega)
      have i2 := hM1.at (i := jtextat (nI t) + 2) (137 + 200 * t) (by rw [show (2 : Int32) = nI 2 from rfl, nI_txt]; congr 1; omega) (by omega)
      have q31 := hM1.1.row 16 100 (f := 31) rfl
      have hd1 := hW.2.2.2.1
      refine T_X11_worked_4 ⟨hM1.k, _, hM1.r, hM1.k1, i2.1, fun _ => ⟨_, q31.1, q31.2.1, by rw [q31.2.2]; exact jin_nI (n := 0) (by omega) (by omega), ?_⟩, fun cc => absurd (by rw [i2.2, hT.2.2.1]; exact Int32.le_rfl) cc⟩
      rw [jtn0, show m + 1 + 16 = m + 17 by omega, hs 0 (by omega)]; exact h S1 c1
    | succ r ih =>
      intro i S1 hi c1 hs
      have hM1 := hM.keep c1 (by omega)
      have i2 := hM1.at (i := jtextat (nI t) + 2) (137 + 200 * t) (by rw [show (2 : Int32) = nI 2 from rfl, nI_txt]; congr 1; omega) (by omega)
      have q31 := hM1.1.row 16 100 (f := 31) rfl
      have q30 := hM1.1.row 15 128 (f := 30) rfl
      have e17 : m + 1 + 16 = m + 17 := by omega
      have e16 : m + 1 + 15 = m + 16 := by omega
      rw [e17] at q31
      rw [e16] at q30
      have p4 : (jtextat (nI t) + 4) + (2 * nI i) = nI (139 + 200 * t + 2 * i) := by
        rw [show (4 : Int32) = nI 4 from rfl, nI_txt, show (2 : Int32) = nI 2 from rfl, nI_mul, nI_add]; congr 1; omega
      have p5 : ((jtextat (nI t) + 4) + (2 * nI i)) + 1 = nI (140 + 200 * t + 2 * i) := by
        rw [p4, nI_1]; congr 1; omega
      have i4 := hM1.at (i := (jtextat (nI t) + 4) + (2 * nI i)) (139 + 200 * t + 2 * i) p4 (by omega)
      have i5 := hM1.at (i := ((jtextat (nI t) + 4) + (2 * nI i)) + 1) (140 + 200 * t + 2 * i) p5 (by omega)
      have w1 := hW.1 i (by omega)
      have wlt := w1.lt
      have dle := hW.2.2.2.2.1 i (by omega)
      have dle1 := hW.2.2.2.2.1 (i + 1) (by omega)
      obtain ⟨h4, h5⟩ := hT.2.2.2 i (by omega)
      have e4 := i4.2.trans h4
      have e5 := i5.2.trans h5
      have l2 : ∀ y, y < 100 → vp_in (nI y) (jl S1 (m + 17)) := fun y hy => by
        rw [q31.2.2]; exact jin_nI hy (by omega)
      have nxt : ∀ (y : Nat) (w : Int32), fvt vals cw (i + 1) = upd (fvt vals cw i) y w → (∀ j, j < dpt cw (i + 1) → j ≠ y → j < dpt cw i) → L_X11_worked_4 E d Q m (nI t) (nI (dpt cw (i + 1))) (nI (i + 1)) (jput S1 (m + 17) y w) := by
        intro y w hf hlt
        refine ih (i + 1) _ (by omega) (c1.trans (jch.put (by omega) (by omega))) (fun j hj => ?_)
        rw [hf, ji_put]
        unfold upd
        by_cases hjy : j = y
        · rw [if_pos ⟨rfl, hjy⟩, if_pos hjy]
        · rw [if_neg (fun cc => hjy cc.2), if_neg hjy]; exact hs j (hlt j hj hjy)
      refine T_X11_worked_4 ⟨hM1.k, _, hM1.r, hM1.k1, i2.1, fun cc => absurd cc (by rw [i2.2, hT.2.2.1]; exact nI_ge (by omega) (by omega)), fun _ => ⟨i4.1, i5.1, fun c20 => ⟨fun c33 => ?_, fun c33 => ?_⟩, fun c20 => ?_⟩⟩
      · rw [e4] at c20
        rw [e5] at c33
        have w20 : 20000 ≤ cw i := by
          rcases Nat.lt_or_ge (cw i) 20000 with h9 | h9
          · refine absurd c20 (nI_ne (b := 2) ?_ (by omega) ?_)
            · unfold whatw; split <;> first | omega | (split <;> omega)
            · unfold whatw; split <;> first | omega | (split <;> omega)
          · exact h9
        have ev : valw key (cw i) = cw i - 20000 := by unfold valw; rw [if_neg (by omega), if_neg (by omega)]
        rw [ev] at c33
        have w33 : cw i = 20033 := by have := nI_inj (b := 33) (by omega) (by omega) c33; omega
        have d1 := hW.2.1 i (by omega) w33
        have ed : dpt cw (i + 1) = dpt cw i := by show (if cw i < 20000 then _ else if cw i = 20033 then _ else _) = _; rw [if_neg (by omega), if_pos w33]
        have ef : fvt vals cw (i + 1) = upd (fvt vals cw i) (dpt cw i - 1) (if fvt vals cw i (dpt cw i - 1) = 0 then 1 else 0) := by
          show (if cw i < 20000 then _ else if cw i = 20033 then _ else _) = _
          rw [if_neg (by omega), if_pos w33]
        have em : nI (dpt cw i) - 1 = nI (dpt cw i - 1) := by
          obtain ⟨y, hy⟩ : ∃ y, dpt cw i = y + 1 := ⟨dpt cw i - 1, by omega⟩
          rw [hy]; exact nI_pred y
        rw [em, nI_1]
        refine ⟨m + 17, q31.1, q31.2.1, l2 _ (by omega), ?_⟩
        rw [jcl (by omega), hs _ (by omega)]
        have nx := nxt (dpt cw i - 1) _ ef (fun j hj _ => by omega)
        rw [ed] at nx
        refine ⟨fun c0 => ?_, fun c0 => ?_⟩
        · rw [if_pos c0] at nx; exact nx
        · rw [if_neg c0] at nx; exact nx
      · rw [e4] at c20
        rw [e5] at c33
        have w20 : 20000 ≤ cw i := by
          rcases Nat.lt_or_ge (cw i) 20000 with h9 | h9
          · refine absurd c20 (nI_ne (b := 2) ?_ (by omega) ?_)
            · unfold whatw; split <;> first | omega | (split <;> omega)
            · unfold whatw; split <;> first | omega | (split <;> omega)
          · exact h9
        have ev : valw key (cw i) = cw i - 20000 := by unfold valw; rw [if_neg (by omega), if_neg (by omega)]
        rw [ev] at c33
        have w33 : cw i ≠ 20033 := fun e => c33 (by rw [e]; rfl)
        have d2 := hW.2.2.1 i (by omega) w20 w33
        have ed : dpt cw (i + 1) = dpt cw i - 1 := by show (if cw i < 20000 then _ else if cw i = 20033 then _ else _) = _; rw [if_neg (by omega), if_neg w33]
        have ef : fvt vals cw (i + 1) = upd (fvt vals cw i) (dpt cw i - 2) (jjoinM (nI (cw i - 20000)) (fvt vals cw i (dpt cw i - 2)) (fvt vals cw i (dpt cw i - 1))) := by
          show (if cw i < 20000 then _ else if cw i = 20033 then _ else _) = _
          rw [if_neg (by omega), if_neg w33]
        obtain ⟨y, hy⟩ : ∃ y, dpt cw i = y + 2 := ⟨dpt cw i - 2, by omega⟩
        have em : nI (dpt cw i) + (-1) = nI (dpt cw i - 1) := by
          rw [hy, ← Int32.sub_eq_add_neg]; exact nI_pred (y + 1)
        have em2 : nI (dpt cw i - 1) - 1 = nI (dpt cw i - 2) := by rw [hy]; exact nI_pred y
        rw [em, em2, nI_1]
        refine ⟨m + 17, q31.1, q31.2.1, l2 _ (by omega), l2 _ (by omega), ?_⟩
        have nx := nxt (dpt cw i - 2) _ ef (fun j hj _ => by omega)
        rw [ed] at nx
        rw [jcl (n := dpt cw i - 2) (by omega), jcl (n := dpt cw i - 1) (by omega), e5, ev, hs _ (by omega), hs _ (by omega)]
        exact nx
      · rw [e4] at c20
        have w20 : cw i < 20000 := by
          rcases Nat.lt_or_ge (cw i) 20000 with h9 | h9
          · exact h9
          · refine absurd ?_ c20
            unfold whatw; rw [if_neg (by omega), if_neg (by omega)]; rfl
        have ed : dpt cw (i + 1) = dpt cw i + 1 := by show (if cw i < 20000 then _ else _) = _; rw [if_pos w20]
        have ef : fvt vals cw (i + 1) = upd (fvt vals cw i) (dpt cw i) (if cw i < 10000 then nI (cw i) else vals (cw i - 10000)) := by
          show (if cw i < 20000 then _ else _) = _
          rw [if_pos w20]
        have nx := nxt (dpt cw i) _ ef (fun j hj hne => by omega)
        rw [ed] at nx
        rw [nI_1, nI_1]
        refine ⟨m + 17, q31.1, fun c0 => ⟨q31.2.1, l2 _ (by omega), ?_⟩, fun c0 => ?_⟩
        · rw [e4] at c0
          have w10 : cw i < 10000 := by
            rcases Nat.lt_or_ge (cw i) 10000 with h9 | h9
            · exact h9
            · refine absurd c0 (nI_ne (b := 0) ?_ (by omega) ?_)
              · unfold whatw; split <;> first | omega | (split <;> omega)
              · unfold whatw; rw [if_neg (by omega), if_pos w20]; omega
          have ev : valw key (cw i) = cw i := by unfold valw; rw [if_pos w10]
          rw [if_pos w10] at nx
          rw [jcl (by omega), e5, ev]
          exact nx
        · rw [e4] at c0
          have w10 : ¬ cw i < 10000 := fun h9 => c0 (by unfold whatw; rw [if_pos h9]; rfl)
          obtain ⟨k, hk3, ek⟩ : ∃ k, k < nmc key ∧ cw i = 10000 + k := by
            rcases w1 with w1 | w1 | w1 | ⟨c9, hc9, w1⟩
            · exact absurd w1 w10
            · exact w1
            · omega
            · omega
          have ev : valw key (cw i) = letw key k := by unfold valw; rw [if_neg w10, if_pos w20, show cw i - 10000 = k by omega]
          have hl : letw key k < 128 := by unfold letw; repeat' split
                                           all_goals omega
          rw [if_neg w10, show cw i - 10000 = k by omega] at nx
          rw [jcl (n := dpt cw i) (by omega), e5, ev, jcl (n := letw key k) (by omega)]
          refine ⟨m + 16, q30.1, q30.2.1, by rw [q30.2.2]; exact jin_nI hl (by omega), q31.2.1, l2 _ (by omega), ?_⟩
          rw [c1.2 (m + 16) (by omega), hn k hk3]
          exact nx
  exact T_X11_worked (keyl n 0 S (by omega) jch.rfl (fun j hj => absurd hj (Nat.not_lt_zero _)))
end jTxt1
