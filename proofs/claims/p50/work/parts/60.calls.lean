section
/-! TEXTS on both sides: their words as numbers (a number for itself, names from 10000, signs from 20000), and what they give -/
/-- how deep the pile is ahead of word i -/
def dpt (cw : Nat → Nat) : Nat → Nat
  | 0 => 0
  | i + 1 => if cw i < 20000 then dpt cw i + 1 else if cw i = 20033 then dpt cw i else dpt cw i - 1
/-- the pile ahead of word i -/
def fvt (vals : Nat → Int32) (cw : Nat → Nat) : Nat → Nat → Int32
  | 0 => fun _ => 0
  | i + 1 => if cw i < 20000 then upd (fvt vals cw i) (dpt cw i) (if cw i < 10000 then nI (cw i) else vals (cw i - 10000))
    else if cw i = 20033 then upd (fvt vals cw i) (dpt cw i - 1) (if fvt vals cw i (dpt cw i - 1) = 0 then 1 else 0)
    else upd (fvt vals cw i) (dpt cw i - 2) (jjoinM (nI (cw i - 20000)) (fvt vals cw i (dpt cw i - 2)) (fvt vals cw i (dpt cw i - 1)))
def sgn : List Nat := [124, 38, 60, 61, 62, 43, 45, 42, 47]
def nmc (key : Nat) : Nat := if key = 0 then 3 else 2
def WFw (key w : Nat) : Prop := w < 10000 ∨ (∃ i, i < nmc key ∧ w = 10000 + i) ∨ w = 20033 ∨ ∃ c, c ∈ sgn ∧ w = 20000 + c
def WFt (key n ops : Nat) (cw : Nat → Nat) : Prop := (∀ i, i < n → WFw key (cw i)) ∧ (∀ i, i < n → cw i = 20033 → 1 ≤ dpt cw i) ∧ (∀ i, i < n → 20000 ≤ cw i → cw i ≠ 20033 → 2 ≤ dpt cw i) ∧ dpt cw n = 1 ∧ (∀ i, i ≤ n → dpt cw i ≤ ops) ∧ ops ≤ 96 ∧ n ≤ 96
def whatw (w : Nat) : Nat := if w < 10000 then 0 else if w < 20000 then 1 else 2
def letw (key i : Nat) : Nat := if key = 0 then (if i = 0 then 107 else if i = 1 then 103 else 97) else if key = 1 then (if i = 0 then 102 else 97) else (if i = 0 then 99 else 100)
def valw (key w : Nat) : Nat := if w < 10000 then w else if w < 20000 then letw key (w - 10000) else w - 20000
/-- the class's TEXT: its words at q, itself at q + 1, its pile at q + 2 -/
def TxC (S : jM) (q key n ops : Nat) (cw : Nat → Nat) : Prop := jk S (q + 1) = 9 ∧ jr S (q + 1) 2 = some q ∧ jr S (q + 1) 3 = some (q + 2) ∧ jk S q = 12 ∧ jl S q = n ∧ jk S (q + 2) = 12 ∧ jl S (q + 2) = (if ops = 0 then 1 else ops) ∧ ji S (q + 1) 0 = nI key ∧ ji S (q + 1) 1 = nI ops ∧ ∀ i, i < n → ji S q i = nI (cw i)
/-- the reference's TEXT t -/
def TxM (v : Nat → Int32) (t key n ops : Nat) (cw : Nat → Nat) : Prop := v (135 + 200 * t) = nI key ∧ v (136 + 200 * t) = nI ops ∧ v (137 + 200 * t) = nI n ∧ ∀ i, i < n → v (139 + 200 * t + 2 * i) = nI (whatw (cw i)) ∧ v (140 + 200 * t + 2 * i) = nI (valw key (cw i))
theorem WFw.lt {key w : Nat} (h : WFw key w) : w < 20125 := by
  rcases h with h | ⟨i, hi, rfl⟩ | rfl | ⟨c, hc, rfl⟩
  · omega
  · unfold nmc at hi; split at hi <;> omega
  · omega
  · have : c ≤ 124 := by
      have hd : ∀ c ∈ sgn, c ≤ 124 := by decide
      exact hd c hc
    omega
theorem jdivm1 (x : Int32) : x / (-1) = -x := by
  apply Int32.toInt_inj.mp
  have e : (-1 : Int32).toInt = -1 := by decide
  rw [Int32.toInt_div, e, Int.tdiv_neg, Int.tdiv_one, ← Int32.toInt_neg]
/-- both sides join alike -/
theorem jjoin_eq {c : Nat} (hc : c ∈ sgn) (a b : Int32) : jjoinC (nI c) a b = jjoinM (nI c) a b := by
  have hd : c = 124 ∨ c = 38 ∨ c = 60 ∨ c = 61 ∨ c = 62 ∨ c = 43 ∨ c = 45 ∨ c = 42 ∨ c = 47 := by
    simpa [sgn] using hc
  rcases hd with rfl | rfl | rfl | rfl | rfl | rfl | rfl | rfl | rfl
  all_goals try rfl
  show (if b = 0 then 0 else a / b) = (if b = 0 then 0 else if b = (-1) then -a else a / b)
  by_cases h0 : b = 0
  · rw [if_pos h0, if_pos h0]
  · rw [if_neg h0, if_neg h0]
    by_cases h1 : b = -1
    · rw [if_pos h1, h1, jdivm1]
    · rw [if_neg h1]
def jv3 (a b c : Int32) : Nat → Int32 := fun i => if i = 0 then a else if i = 1 then b else c
theorem jvalof_eq {key w : Nat} {a b c : Int32} (h : WFw key w) (hw : w < 20000) : jvalof (nI w) a b c = if w < 10000 then nI w else jv3 a b c (w - 10000) := by
  have n0 : w ≠ 10000 → ¬ nI w = 10000 := fun h => nI_ne (b := 10000) (by omega) (by omega) h
  have n1 : w ≠ 10001 → ¬ nI w = 10001 := fun h => nI_ne (b := 10001) (by omega) (by omega) h
  have n2 : w ≠ 10002 → ¬ nI w = 10002 := fun h => nI_ne (b := 10002) (by omega) (by omega) h
  unfold jvalof
  by_cases h1 : w < 10000
  · rw [if_pos h1, if_neg (n0 (by omega)), if_neg (n1 (by omega)), if_neg (n2 (by omega))]
  · rw [if_neg h1]
    rcases h with h | ⟨i, hi, e⟩ | h | ⟨c, hc, h⟩
    · omega
    · have hi3 : i < 3 := by unfold nmc at hi; split at hi <;> omega
      rw [show w - 10000 = i by omega]
      unfold jv3
      rcases (show i = 0 ∨ i = 1 ∨ i = 2 by omega) with rfl | rfl | rfl
      · rw [if_pos (by rw [e]; rfl), if_pos rfl]
      · rw [if_neg (n0 (by omega)), if_pos (by rw [e]; rfl), if_neg (by omega), if_pos rfl]
      · rw [if_neg (n0 (by omega)), if_neg (n1 (by omega)), if_pos (by rw [e]; rfl), if_neg (by omega), if_neg (by omega)]
    · omega
    · omega
section jTxt1
variable {E : jEnv} {d : Nat} {S : jM} {q key n ops m t : Nat} {cw : Nat → Nat} {v : Nat → Int32}
theorem TxC.keep {S' : jM} {lo hi : Nat} (h : TxC S q key n ops cw) (hc : jch S S' lo hi) (hd : q + 2 ≤ lo ∨ hi ≤ q) : TxC S' q key n ops cw := by
  obtain ⟨a1, a2, a3, a4, a5, a6, a7, a8, a9, a10⟩ := h
  obtain ⟨k, l, r, -⟩ := hc.1
  unfold TxC
  rw [k, l, r, hc.2 (q + 1) (by omega), hc.2 q (by omega)]
  exact ⟨a1, a2, a3, a4, a5, a6, a7, a8, a9, a10⟩
theorem c_X9_workOut {Q : Int32 → jM → Prop} {a b c : Int32} (hC : TxC S q key n ops cw) (hW : WFt key n ops cw) (h : ∀ S', jch S S' (q + 2) (q + 3) → Q (fvt (jv3 a b c) cw n 0) S') : jFi E mX9_workOut (d + 1) 0 0 [.ref (q + 1), .int a, .int b, .int c] S Q := by
  have key : ∀ (r i : Nat) (S1 : jM), i + r = n → jch S S1 (q + 2) (q + 3) → (∀ j, j < dpt cw i → ji S1 (q + 2) j = fvt (jv3 a b c) cw i j) → L_X9_workOut_6 E d Q (q + 1) a b c (nI (dpt cw i)) (nI i) S1 := by
    intro r
    induction r with
    | zero =>
      intro i S1 hi c1 hs
      obtain rfl : i = n := by omega
      obtain ⟨a1, a2, a3, a4, a5, a6, a7, a8, a9, a10⟩ := hC.keep c1 (by omega)
      have hd1 := hW.2.2.2.1
      refine T_X9_workOut_6 ⟨a1, q, a2, a4, fun _ => ⟨fun _ => ⟨q + 2, a3, a6, ?_, ?_⟩, fun cc => absurd (by rw [hd1]; rfl) cc⟩, fun cc => absurd (by rw [a5]; exact Int32.le_rfl) cc⟩
      · rw [a7]
        split
        · exact jin_nI (n := 0) (by omega) (by omega)
        · exact jin_nI (n := 0) (by omega) (by have := hW.2.2.2.2.2.1; omega)
      · rw [jtn0, hs 0 (by omega)]; exact h S1 c1
    | succ r ih =>
      intro i S1 hi c1 hs
      obtain ⟨a1, a2, a3, a4, a5, a6, a7, a8, a9, a10⟩ := hC.keep c1 (by omega)
      have hn96 := hW.2.2.2.2.2.2
      have ho96 := hW.2.2.2.2.2.1
      have w1 := hW.1 i (by omega)
      have wlt := w1.lt
      have dle := hW.2.2.2.2.1 i (by omega)
      have dle1 := hW.2.2.2.2.1 (i + 1) (by omega)
      have e10 : ji S1 q (Int32.toNatClampNeg (nI i)) = nI (cw i) := by rw [jcl (by omega)]; exact a10 i (by omega)
      have l2 : ∀ y, y < ops → vp_in (nI y) (jl S1 (q + 2)) := fun y hy => by
        rw [a7, if_neg (by omega)]; exact jin_nI hy (by omega)
      have nxt : ∀ (y : Nat) (w : Int32), fvt (jv3 a b c) cw (i + 1) = upd (fvt (jv3 a b c) cw i) y w → (∀ j, j < dpt cw (i + 1) → j ≠ y → j < dpt cw i) → L_X9_workOut_6 E d Q (q + 1) a b c (nI (dpt cw (i + 1))) (nI (i + 1)) (jput S1 (q + 2) y w) := by
        intro y w hf hlt
        refine ih (i + 1) _ (by omega) (c1.trans (jch.put (by omega) (by omega))) (fun j hj => ?_)
        rw [hf, ji_put]
        unfold upd
        by_cases hjy : j = y
        · rw [if_pos ⟨rfl, hjy⟩, if_pos hjy]
        · rw [if_neg (fun cc => hjy cc.2), if_neg hjy]; exact hs j (hlt j hj hjy)
      refine T_X9_workOut_6 ⟨a1, q, a2, a4, fun cc => absurd cc (by rw [a5]; exact nI_ge (by omega) (by omega)), fun _ => ⟨by rw [a5]; exact jin_nI (by omega) (by omega), fun c20 => ⟨fun c33 => ?_, fun c33 => ?_⟩, fun c20 => ?_⟩⟩
      · rw [e10] at c20 c33
        have w20 : 20000 ≤ cw i := (nI_leI (a := 20000) (by omega) (by omega)).mp c20
        have w33 : cw i = 20033 := nI_inj (b := 20033) (by omega) (by omega) c33
        have d1 := hW.2.1 i (by omega) w33
        have ed : dpt cw (i + 1) = dpt cw i := by show (if cw i < 20000 then _ else if cw i = 20033 then _ else _) = _; rw [if_neg (by omega), if_pos w33]
        have ef : fvt (jv3 a b c) cw (i + 1) = upd (fvt (jv3 a b c) cw i) (dpt cw i - 1) (if fvt (jv3 a b c) cw i (dpt cw i - 1) = 0 then 1 else 0) := by
          show (if cw i < 20000 then _ else if cw i = 20033 then _ else _) = _
          rw [if_neg (by omega), if_pos w33]
        have em : nI (dpt cw i) - 1 = nI (dpt cw i - 1) := by
          obtain ⟨y, hy⟩ : ∃ y, dpt cw i = y + 1 := ⟨dpt cw i - 1, by omega⟩
          rw [hy]; exact nI_pred y
        rw [em, nI_1]
        refine ⟨q + 2, a3, a6, fun cc => absurd cc ?_, fun _ => ⟨l2 _ (by omega), ?_⟩⟩
        · rw [a7, if_neg (by omega), jwi_at (by omega) (by omega)]; decide
        · rw [jcl (by omega), hs _ (by omega), ← ed]
          have nx := nxt (dpt cw i - 1) _ ef (fun j hj _ => by omega)
          rw [ed] at nx ⊢
          refine ⟨fun c0 => ?_, fun c0 => ?_⟩
          · rw [if_pos c0] at nx; exact nx
          · rw [if_neg c0] at nx; exact nx
      · rw [e10] at c20 c33
        have w20 : 20000 ≤ cw i := (nI_leI (a := 20000) (by omega) (by omega)).mp c20
        have w33 : cw i ≠ 20033 := fun e => c33 (by rw [e]; rfl)
        have d2 := hW.2.2.1 i (by omega) w20 w33
        have ed : dpt cw (i + 1) = dpt cw i - 1 := by show (if cw i < 20000 then _ else if cw i = 20033 then _ else _) = _; rw [if_neg (by omega), if_neg w33]
        have ef : fvt (jv3 a b c) cw (i + 1) = upd (fvt (jv3 a b c) cw i) (dpt cw i - 2) (jjoinM (nI (cw i - 20000)) (fvt (jv3 a b c) cw i (dpt cw i - 2)) (fvt (jv3 a b c) cw i (dpt cw i - 1))) := by
          show (if cw i < 20000 then _ else if cw i = 20033 then _ else _) = _
          rw [if_neg (by omega), if_neg w33]
        obtain ⟨y, hy⟩ : ∃ y, dpt cw i = y + 2 := ⟨dpt cw i - 2, by omega⟩
        have em : nI (dpt cw i) + (-1) = nI (dpt cw i - 1) := by
          rw [hy, ← Int32.sub_eq_add_neg]; exact nI_pred (y + 1)
        have em2 : nI (dpt cw i - 1) - 1 = nI (dpt cw i - 2) := by rw [hy]; exact nI_pred y
        rw [em, em2, nI_1]
        refine ⟨fun cc => absurd cc ?_, fun _ => ⟨q + 2, a3, a6, fun cc => absurd cc ?_, fun _ => ⟨l2 _ (by omega), l2 _ (by omega), ?_⟩⟩⟩
        · rw [show (1 : Int32) = nI 1 from rfl]; exact nI_ge (by omega) (by omega)
        · rw [a7, if_neg (by omega)]; exact nI_nlt (by omega) (by omega)
        · have hsg : ∃ cc, cc ∈ sgn ∧ cw i = 20000 + cc := by
            rcases w1 with w1 | ⟨k, hk, w1⟩ | w1 | w1
            · omega
            · have : k < 3 := by unfold nmc at hk; split at hk <;> omega
              omega
            · exact absurd w1 w33
            · exact w1
          obtain ⟨ch, hch, ech⟩ := hsg
          have ej : nI (cw i) - 20000 = nI (cw i - 20000) := by
            rw [ech, show 20000 + ch - 20000 = ch by omega, ← nI_add, show (20000 : Int32) = nI 20000 from rfl, Int32.add_comm, Int32.add_sub_cancel]
          have nx := nxt (dpt cw i - 2) _ ef (fun j hj _ => by omega)
          rw [ed] at nx
          rw [jcl (n := dpt cw i - 2) (by omega), jcl (n := dpt cw i - 1) (by omega), e10, hs _ (by omega), hs _ (by omega), ej, show cw i - 20000 = ch by omega, jjoin_eq hch]
          rw [show cw i - 20000 = ch by omega] at nx
          exact nx
      · rw [e10] at c20
        have w20 : cw i < 20000 := by
          rcases Nat.lt_or_ge (cw i) 20000 with h9 | h9
          · exact h9
          · exact absurd ((nI_leI (a := 20000) (b := cw i) (by omega) (by omega)).mpr h9) c20
        have ed : dpt cw (i + 1) = dpt cw i + 1 := by show (if cw i < 20000 then _ else _) = _; rw [if_pos w20]
        have ef : fvt (jv3 a b c) cw (i + 1) = upd (fvt (jv3 a b c) cw i) (dpt cw i) (if cw i < 10000 then nI (cw i) else jv3 a b c (cw i - 10000)) := by
          show (if cw i < 20000 then _ else _) = _
          rw [if_pos w20]
        rw [nI_1, nI_1]
        refine ⟨q + 2, a3, a6, fun cc => absurd cc ?_, fun _ => ⟨l2 _ (by omega), ?_⟩⟩
        · rw [a7, if_neg (by omega), jwi_at (by omega) (by omega)]; decide
        · have nx := nxt (dpt cw i) _ ef (fun j hj hne => by omega)
          rw [ed] at nx
          rw [jcl (by omega), e10, jvalof_eq w1 w20]
          exact nx
  exact T_X9_workOut (key n 0 S (by omega) jch.rfl (fun j hj => absurd hj (Nat.not_lt_zero _)))
/-! the reference works a text out -/
theorem nI_txt (t k : Nat) : jtextat (nI t) + nI k = nI (135 + 200 * t + k) := by
  unfold jtextat
  rw [show (135 : Int32) = nI 135 from rfl, show (200 : Int32) = nI 200 from rfl, nI_mul, nI_add, nI_add]
theorem c_X11_worked {Q : Int32 → jM → Prop} {vals : Nat → Int32} (hM : MR S m v) (ht : t < 14) (hk : key < 3) (hT : TxM v t key n ops cw) (hW : WFt key n ops cw) (hn : ∀ i, i < nmc key → ji S (m + 16) (letw key i) = vals i) (h : ∀ S', jch S S' (m + 17) (m + 18) → Q (fvt vals cw n 0) S') : jFi E mX11_worked (d + 1) 0 0 [.ref m, .int (nI t)] S Q := by
  have r31 := hM.1.row 16 100 (f := 31) rfl
  have r30 := hM.1.row 15 128 (f := 30) rfl
  have ho96 := hW.2.2.2.2.2.1
  have hn96 := hW.2.2.2.2.2.2
  have keyl : ∀ (r i : Nat) (S1 : jM), i + r = n → jch S S1 (m + 17) (m + 18) → (∀ j, j < dpt cw i → ji S1 (m + 17) j = fvt vals cw i j) → L_X11_worked_4 E d Q m (nI t) (nI (dpt cw i)) (nI i) S1 := by
    intro r
    induction r with
    | zero =>
      intro i S1 hi c1 hs
      obtain rfl : i = n := by omega
      have hM1 := hM.keep c1 (by omega)
      have i2 := hM1.at (i := jtextat (nI t) + 2) (137 + 200 * t) (by rw [show (2 : Int32) = nI 2 from rfl, nI_txt]; congr 1; omega) (by omega)
      have q31 := hM1.1.row 16 100 (f := 31) rfl
      have hd1 := hW.2.2.2.1
      refine T_X11_worked_4 ⟨hM1.k, _, hM1.r, hM1.k1, i2.1, fun _ => ⟨_, q31.1, q31.2.1, by rw [q31.2.2]; exact jin_nI (n := 0) (by omega) (by omega), ?_⟩, fun cc => absurd (by rw [i2.2, hT.2.2.1]; exact Int32.le_rfl) cc⟩
      rw [jtn0, show m + 1 + 16 = m + 17 by omega, hs 0 (by omega)]; exact h S1 c1
    | succ r ih =>
      intro i S1 hi c1 hs
      have hM1 := hM.keep c1 (by omega)
      have i2 := hM1.at (i := jtextat (nI t) + 2) (137 + 200 * t) (by rw [show (2 : Int32) = nI 2 from rfl, nI_txt]; congr 1; omega) (by omega)
      have q31 := hM1.1.row 16 100 (f := 31) rfl
      have q30 := hM1.1.row 15 128 (f := 30) rfl
      have e17 : m + 1 + 16 = m + 17 := by omega
      have e16 : m + 1 + 15 = m + 16 := by omega
      rw [e17] at q31
      rw [e16] at q30
      have p4 : (jtextat (nI t) + 4) + (2 * nI i) = nI (139 + 200 * t + 2 * i) := by
        rw [show (4 : Int32) = nI 4 from rfl, nI_txt, show (2 : Int32) = nI 2 from rfl, nI_mul, nI_add]; congr 1; omega
      have p5 : ((jtextat (nI t) + 4) + (2 * nI i)) + 1 = nI (140 + 200 * t + 2 * i) := by
        rw [p4, nI_1]; congr 1; omega
      have i4 := hM1.at (i := (jtextat (nI t) + 4) + (2 * nI i)) (139 + 200 * t + 2 * i) p4 (by omega)
      have i5 := hM1.at (i := ((jtextat (nI t) + 4) + (2 * nI i)) + 1) (140 + 200 * t + 2 * i) p5 (by omega)
      have w1 := hW.1 i (by omega)
      have wlt := w1.lt
      have dle := hW.2.2.2.2.1 i (by omega)
      have dle1 := hW.2.2.2.2.1 (i + 1) (by omega)
      obtain ⟨h4, h5⟩ := hT.2.2.2 i (by omega)
      have e4 := i4.2.trans h4
      have e5 := i5.2.trans h5
      have l2 : ∀ y, y < 100 → vp_in (nI y) (jl S1 (m + 17)) := fun y hy => by
        rw [q31.2.2]; exact jin_nI hy (by omega)
      have nxt : ∀ (y : Nat) (w : Int32), fvt vals cw (i + 1) = upd (fvt vals cw i) y w → (∀ j, j < dpt cw (i + 1) → j ≠ y → j < dpt cw i) → L_X11_worked_4 E d Q m (nI t) (nI (dpt cw (i + 1))) (nI (i + 1)) (jput S1 (m + 17) y w) := by
        intro y w hf hlt
        refine ih (i + 1) _ (by omega) (c1.trans (jch.put (by omega) (by omega))) (fun j hj => ?_)
        rw [hf, ji_put]
        unfold upd
        by_cases hjy : j = y
        · rw [if_pos ⟨rfl, hjy⟩, if_pos hjy]
        · rw [if_neg (fun cc => hjy cc.2), if_neg hjy]; exact hs j (hlt j hj hjy)
      refine T_X11_worked_4 ⟨hM1.k, _, hM1.r, hM1.k1, i2.1, fun cc => absurd cc (by rw [i2.2, hT.2.2.1]; exact nI_ge (by omega) (by omega)), fun _ => ⟨i4.1, i5.1, fun c20 => ⟨fun c33 => ?_, fun c33 => ?_⟩, fun c20 => ?_⟩⟩
      · rw [e4] at c20
        rw [e5] at c33
        have w20 : 20000 ≤ cw i := by
          rcases Nat.lt_or_ge (cw i) 20000 with h9 | h9
          · refine absurd c20 (nI_ne (b := 2) ?_ (by omega) ?_)
            · unfold whatw; split <;> first | omega | (split <;> omega)
            · unfold whatw; split <;> first | omega | (split <;> omega)
          · exact h9
        have ev : valw key (cw i) = cw i - 20000 := by unfold valw; rw [if_neg (by omega), if_neg (by omega)]
        rw [ev] at c33
        have w33 : cw i = 20033 := by have := nI_inj (b := 33) (by omega) (by omega) c33; omega
        have d1 := hW.2.1 i (by omega) w33
        have ed : dpt cw (i + 1) = dpt cw i := by show (if cw i < 20000 then _ else if cw i = 20033 then _ else _) = _; rw [if_neg (by omega), if_pos w33]
        have ef : fvt vals cw (i + 1) = upd (fvt vals cw i) (dpt cw i - 1) (if fvt vals cw i (dpt cw i - 1) = 0 then 1 else 0) := by
          show (if cw i < 20000 then _ else if cw i = 20033 then _ else _) = _
          rw [if_neg (by omega), if_pos w33]
        have em : nI (dpt cw i) - 1 = nI (dpt cw i - 1) := by
          obtain ⟨y, hy⟩ : ∃ y, dpt cw i = y + 1 := ⟨dpt cw i - 1, by omega⟩
          rw [hy]; exact nI_pred y
        rw [em, nI_1]
        refine ⟨m + 17, q31.1, q31.2.1, l2 _ (by omega), ?_⟩
        rw [jcl (by omega), hs _ (by omega)]
        have nx := nxt (dpt cw i - 1) _ ef (fun j hj _ => by omega)
        rw [ed] at nx
        refine ⟨fun c0 => ?_, fun c0 => ?_⟩
        · rw [if_pos c0] at nx; exact nx
        · rw [if_neg c0] at nx; exact nx
      · rw [e4] at c20
        rw [e5] at c33
        have w20 : 20000 ≤ cw i := by
          rcases Nat.lt_or_ge (cw i) 20000 with h9 | h9
          · refine absurd c20 (nI_ne (b := 2) ?_ (by omega) ?_)
            · unfold whatw; split <;> first | omega | (split <;> omega)
            · unfold whatw; split <;> first | omega | (split <;> omega)
          · exact h9
        have ev : valw key (cw i) = cw i - 20000 := by unfold valw; rw [if_neg (by omega), if_neg (by omega)]
        rw [ev] at c33
        have w33 : cw i ≠ 20033 := fun e => c33 (by rw [e]; rfl)
        have d2 := hW.2.2.1 i (by omega) w20 w33
        have ed : dpt cw (i + 1) = dpt cw i - 1 := by show (if cw i < 20000 then _ else if cw i = 20033 then _ else _) = _; rw [if_neg (by omega), if_neg w33]
        have ef : fvt vals cw (i + 1) = upd (fvt vals cw i) (dpt cw i - 2) (jjoinM (nI (cw i - 20000)) (fvt vals cw i (dpt cw i - 2)) (fvt vals cw i (dpt cw i - 1))) := by
          show (if cw i < 20000 then _ else if cw i = 20033 then _ else _) = _
          rw [if_neg (by omega), if_neg w33]
        obtain ⟨y, hy⟩ : ∃ y, dpt cw i = y + 2 := ⟨dpt cw i - 2, by omega⟩
        have em : nI (dpt cw i) + (-1) = nI (dpt cw i - 1) := by
          rw [hy, ← Int32.sub_eq_add_neg]; exact nI_pred (y + 1)
        have em2 : nI (dpt cw i - 1) - 1 = nI (dpt cw i - 2) := by rw [hy]; exact nI_pred y
        rw [em, em2, nI_1]
        refine ⟨m + 17, q31.1, q31.2.1, l2 _ (by omega), l2 _ (by omega), ?_⟩
        have nx := nxt (dpt cw i - 2) _ ef (fun j hj _ => by omega)
        rw [ed] at nx
        rw [jcl (n := dpt cw i - 2) (by omega), jcl (n := dpt cw i - 1) (by omega), e5, ev, hs _ (by omega), hs _ (by omega)]
        exact nx
      · rw [e4] at c20
        have w20 : cw i < 20000 := by
          rcases Nat.lt_or_ge (cw i) 20000 with h9 | h9
          · exact h9
          · refine absurd ?_ c20
            unfold whatw; rw [if_neg (by omega), if_neg (by omega)]; rfl
        have ed : dpt cw (i + 1) = dpt cw i + 1 := by show (if cw i < 20000 then _ else _) = _; rw [if_pos w20]
        have ef : fvt vals cw (i + 1) = upd (fvt vals cw i) (dpt cw i) (if cw i < 10000 then nI (cw i) else vals (cw i - 10000)) := by
          show (if cw i < 20000 then _ else _) = _
          rw [if_pos w20]
        have nx := nxt (dpt cw i) _ ef (fun j hj hne => by omega)
        rw [ed] at nx
        rw [nI_1, nI_1]
        refine ⟨m + 17, q31.1, fun c0 => ⟨q31.2.1, l2 _ (by omega), ?_⟩, fun c0 => ?_⟩
        · rw [e4] at c0
          have w10 : cw i < 10000 := by
            rcases Nat.lt_or_ge (cw i) 10000 with h9 | h9
            · exact h9
            · refine absurd c0 (nI_ne (b := 0) ?_ (by omega) ?_)
              · unfold whatw; split <;> first | omega | (split <;> omega)
              · unfold whatw; rw [if_neg (by omega), if_pos w20]; omega
          have ev : valw key (cw i) = cw i := by unfold valw; rw [if_pos w10]
          rw [if_pos w10] at nx
          rw [jcl (by omega), e5, ev]
          exact nx
        · rw [e4] at c0
          have w10 : ¬ cw i < 10000 := fun h9 => c0 (by unfold whatw; rw [if_pos h9]; rfl)
          obtain ⟨k, hk3, ek⟩ : ∃ k, k < nmc key ∧ cw i = 10000 + k := by
            rcases w1 with w1 | w1 | w1 | ⟨c9, hc9, w1⟩
            · exact absurd w1 w10
            · exact w1
            · omega
            · omega
          have ev : valw key (cw i) = letw key k := by unfold valw; rw [if_neg w10, if_pos w20, show cw i - 10000 = k by omega]
          have hl : letw key k < 128 := by unfold letw; repeat' split
                                           all_goals omega
          rw [if_neg w10, show cw i - 10000 = k by omega] at nx
          rw [jcl (n := dpt cw i) (by omega), e5, ev, jcl (n := letw key k) (by omega)]
          refine ⟨m + 16, q30.1, q30.2.1, by rw [q30.2.2]; exact jin_nI hl (by omega), q31.2.1, l2 _ (by omega), ?_⟩
          rw [c1.2 (m + 16) (by omega), hn k hk3]
          exact nx
  exact T_X11_worked (keyl n 0 S (by omega) jch.rfl (fun j hj => absurd hj (Nat.not_lt_zero _)))
end jTxt1
end
section
/-! THE INVARIANT of both sides, between any two calls -/
/-- TEXTS of a realm whose row of them is r, by the row v of the reference -/
def TXS (S : jM) (x r M : Nat) (v : Nat → Int32) : Prop := ∃ cnt, cnt ≤ 14 ∧ v 1 = nI cnt ∧ (∀ t, t < cnt → ∃ m key n ops cw, m < M ∧ jr S r t = some (x + 115 + 3 * m + 1) ∧ key < 3 ∧ TxC S (x + 115 + 3 * m) key n ops cw ∧ TxM v t key n ops cw ∧ WFt key n ops cw) ∧ ∀ t, t < 14 → ∀ b, jr S r t = some b → jk S b = 9 ∧ b < x + 115 + 3 * M
/-- SHEETS -/
def jpl (y : Int32) : Prop := y = kNONE ∨ (-99999 ≤ y ∧ y ≤ 99999)
def SHR (S : jM) (x : Nat) : Prop := ∀ i, i < 4 → ∃ so n, n ≤ 24 ∧ (so = -1 ∨ so = 0 ∨ so = 1) ∧ ji S (x + 66 + 2 * i) 0 = so ∧ ji S (x + 98) i = so ∧ ji S (x + 66 + 2 * i) 1 = nI n ∧ ji S (x + 99) i = nI n ∧ ∀ j, j < 24 → ji S (x + 67 + 2 * i) j = ji S (x + 100) (24 * i + j) ∧ jpl (ji S (x + 67 + 2 * i) j)
/-- SLOTS -/
def SLR (S : jM) (x : Nat) : Prop := ∀ i, i < 5 → ∃ th, th < 4 ∧ ji S (x + 74 + 4 * i) 0 = nI th ∧ ji S (x + 101) i = nI th ∧ (th = 1 → (∃ k, k < 6 ∧ ji S (x + 75 + 4 * i) 0 = nI k ∧ ji S (x + 102) i = nI k) ∧ ji S (x + 103) i = jworth (ji S (x + 75 + 4 * i) 0) (ji S (x + 75 + 4 * i) 4)) ∧ (th = 2 → (∃ n, n ≤ 24 ∧ ji S (x + 76 + 4 * i) 1 = nI n ∧ ji S (x + 104) i = nI n) ∧ ∀ j, j < 24 → ji S (x + 77 + 4 * i) j = ji S (x + 105) (24 * i + j)) ∧ (th = 3 → ji S (x + 74 + 4 * i) 3 = ji S (x + 102) i)
/-- numbers that wait -/
def WTR (S : jM) (x : Nat) : Prop := ∃ w, w ≤ 60 ∧ ji S x 9 = nI w ∧ ji S (x + 94) 34 = nI w ∧ ∀ j, j < w → ji S (x + 65) j = ji S (x + 113) j
/-- THE TAPE -/
def TPR (S : jM) (x : Nat) : Prop := ∃ tn, tn ≤ 96 ∧ ji S (x + 60) 1 = nI tn ∧ ji S (x + 94) 19 = nI tn ∧ ∀ j, j < tn → ∃ c, c < 256 ∧ ji S (x + 61) j = nI c ∧ ji S (x + 109) j = nI c
/-- THE IMAGE -/
def IMG (S : jM) (x M : Nat) : Prop := ∃ sz v, RmR S (x + 21) sz v ∧ (∀ t, t < 14 → ∀ b, jr S (x + 40) t = some b → jk S b = 9 ∧ b < x + 115 + 3 * M) ∧ ((ji S x 2 = 0 ∧ ji S (x + 94) 3 = 0) ∨ (ji S x 2 = 1 ∧ ji S (x + 94) 3 = 1 ∧ Rg sz v ∧ (∀ j, j < 2935 → ji S (x + 96) j = v j) ∧ TXS S x (x + 40) M v))
def RST (S : jM) (x M : Nat) : Prop := IMG S x M ∧ SHR S x ∧ SLR S x ∧ WTR S x ∧ TPR S x
def IV (S : jM) (x sz M : Nat) (v : Nat → Int32) : Prop := PI S x sz v ∧ CL S x ∧ GL S (x + 41) ∧ jn S = x + 115 + 3 * M ∧ TXS S x (x + 20) M v ∧ RST S x M
def INV (S : jM) (x M : Nat) : Prop := ∃ sz v, IV S x sz M v
/-- what a pair of calls may change: as jfr, and the piles of the class's texts -/
def jfq (S S' : jM) (x : Nat) : Prop := jsame S S' ∧ ∀ y, (y < x + 1 ∨ x + 21 ≤ y) → (y < x + 41 ∨ x + 60 ≤ y) → y ≠ x + 95 → y ≠ x + 97 → (y < x + 106 ∨ x + 109 ≤ y) → (y < x + 110 ∨ x + 113 ≤ y) → y ≠ x + 114 → (y < x + 115 ∨ (y - x) % 3 ≠ 0) → ji S' y = ji S y
section jInv
variable {S S' : jM} {x sz M : Nat} {v : Nat → Int32}
theorem jfq.of (h : jfr S S' x) : jfq S S' x := ⟨h.1, fun y a b c d e f _ _ => h.2 y a b c d e (by omega)⟩
theorem jfq.rfl : jfq S S x := ⟨jsame.rfl, fun _ _ _ _ _ _ _ _ _ => _root_.rfl⟩
theorem jfq.trans {S1 S2 : jM} (h1 : jfq S S1 x) (h2 : jfq S1 S2 x) : jfq S S2 x := ⟨h1.1.trans h2.1, fun y a b c d e f g i => (h2.2 y a b c d e f g i).trans (h1.2 y a b c d e f g i)⟩
theorem jfq.pile {m : Nat} (h : jch S S' (x + 115 + 3 * m + 2) (x + 115 + 3 * m + 3)) : jfq S S' x := ⟨h.1, fun y _ _ _ _ _ _ _ g => h.2 y (by omega)⟩
theorem jfq.scr {lo hi : Nat} (h : jch S S' lo hi) (a : x + 110 ≤ lo) (b : hi ≤ x + 113) : jfq S S' x := ⟨h.1, fun y _ _ _ _ _ c _ _ => h.2 y (by omega)⟩
theorem TxC.move {q key n ops : Nat} {cw : Nat → Nat} (h : TxC S q key n ops cw) (hk : ∀ y, q ≤ y → y < q + 3 → jk S' y = jk S y) (hl : ∀ y, q ≤ y → y < q + 3 → jl S' y = jl S y) (hr : jr S' (q + 1) = jr S (q + 1)) (hi : ∀ y, q ≤ y → y < q + 2 → ji S' y = ji S y) : TxC S' q key n ops cw := by
  obtain ⟨a1, a2, a3, a4, a5, a6, a7, a8, a9, a10⟩ := h
  unfold TxC
  rw [hk (q + 1) (by omega) (by omega), hk q (by omega) (by omega), hk (q + 2) (by omega) (by omega), hl q (by omega) (by omega), hl (q + 2) (by omega) (by omega), hr, hi (q + 1) (by omega) (by omega), hi q (by omega) (by omega)]
  exact ⟨a1, a2, a3, a4, a5, a6, a7, a8, a9, a10⟩
theorem TxM.cong {t key n ops : Nat} {cw : Nat → Nat} {v' : Nat → Int32} (h : TxM v t key n ops cw) (ht : t < 14) (hn : n ≤ 96) (he : ∀ j, 135 ≤ j → j < 2935 → v' j = v j) : TxM v' t key n ops cw := by
  obtain ⟨a1, a2, a3, a4⟩ := h
  unfold TxM
  rw [he _ (by omega) (by omega), he _ (by omega) (by omega), he _ (by omega) (by omega)]
  refine ⟨a1, a2, a3, fun i hi => ?_⟩
  rw [he _ (by omega) (by omega), he _ (by omega) (by omega)]
  exact a4 i hi
theorem TXS.move {r r' M' : Nat} {v' : Nat → Int32} (h : TXS S x r M v) (hM : M ≤ M') (hk : ∀ y, y < x + 115 + 3 * M → jk S' y = jk S y) (hl : ∀ y, y < x + 115 + 3 * M → jl S' y = jl S y) (hrr : ∀ t, t < 14 → jr S' r' t = jr S r t) (hr : ∀ y, x + 115 ≤ y → y < x + 115 + 3 * M → jr S' y = jr S y) (hi : ∀ y, x + 115 ≤ y → y < x + 115 + 3 * M → (y - x) % 3 ≠ 0 → ji S' y = ji S y) (he : ∀ j, (j = 1 ∨ 135 ≤ j) → j < 2935 → v' j = v j) : TXS S' x r' M' v' := by
  obtain ⟨cnt, c14, e1, hT, hz⟩ := h
  refine ⟨cnt, c14, (he 1 (Or.inl rfl) (by omega)).trans e1, fun t ht => ?_, fun t ht b hb => ?_⟩
  · obtain ⟨m, key, n, ops, cw, hm, a1, a2, a3, a4, a5⟩ := hT t ht
    exact ⟨m, key, n, ops, cw, by omega, (hrr t (by omega)).trans a1, a2, a3.move (fun y p q => hk y (by omega)) (fun y p q => hl y (by omega)) (hr _ (by omega) (by omega)) (fun y p q => hi y (by omega) (by omega) (by omega)), a4.cong (by omega) a5.2.2.2.2.2.2 (fun j p q => he j (Or.inr p) q), a5⟩
  · rw [hrr t ht] at hb
    obtain ⟨q1, q2⟩ := hz t ht b hb
    rw [hk b q2]; exact ⟨q1, by omega⟩
/-- under what leaves kinds and references -/
theorem TXS.same {r : Nat} {v' : Nat → Int32} (h : TXS S x r M v) (hs : jsame S S') (hi : ∀ y, x + 115 ≤ y → (y - x) % 3 ≠ 0 → ji S' y = ji S y) (he : ∀ j, (j = 1 ∨ 135 ≤ j) → j < 2935 → v' j = v j) : TXS S' x r M v' := by
  obtain ⟨cnt, c14, e1, hT, hz⟩ := h
  obtain ⟨k, l, rr, -⟩ := hs
  refine ⟨cnt, c14, (he 1 (Or.inl rfl) (by omega)).trans e1, fun t ht => ?_, fun t ht b hb => ?_⟩
  · obtain ⟨m, key, n, ops, cw, hm, a1, a2, a3, a4, a5⟩ := hT t ht
    exact ⟨m, key, n, ops, cw, hm, by rw [rr]; exact a1, a2, a3.move (fun y p q => by rw [k]) (fun y p q => by rw [l]) (by rw [rr]) (fun y p q => hi y (by omega) (by omega)), a4.cong (by omega) a5.2.2.2.2.2.2 (fun j p q => he j (Or.inr p) q), a5⟩
  · rw [rr] at hb; rw [k]; exact hz t ht b hb
theorem RST.keep (h : RST S x M) (hq : jfq S S' x) : RST S' x M := by
  obtain ⟨⟨sz, v, i1, i2, i3⟩, h1, h2, h3, h4⟩ := h
  have g : ∀ y, (y = x ∨ (x + 21 ≤ y ∧ y < x + 41) ∨ (x + 60 ≤ y ∧ y ≤ x + 94) ∨ y = x + 96 ∨ (x + 98 ≤ y ∧ y < x + 106) ∨ y = x + 109 ∨ y = x + 113) → ji S' y = ji S y := fun y hy => hq.2 y (by omega) (by omega) (by omega) (by omega) (by omega) (by omega) (by omega) (by omega)
  obtain ⟨k, l, rr, -⟩ := id hq.1
  refine ⟨⟨sz, v, i1.grow (fun y p q => ⟨by rw [k], by rw [l], g y (by omega), by rw [rr]⟩), fun t ht b hb => by rw [rr] at hb; rw [k]; exact i2 t ht b hb, ?_⟩, fun i hi => ?_, fun i hi => ?_, ?_, ?_⟩
  · rw [g x (by omega), g (x + 94) (by omega)]
    rcases i3 with i3 | ⟨a1, a2, a3, a4, a5⟩
    · exact Or.inl i3
    · exact Or.inr ⟨a1, a2, a3, fun j hj => by rw [g (x + 96) (by omega)]; exact a4 j hj, a5.same hq.1 (fun y p q => hq.2 y (by omega) (by omega) (by omega) (by omega) (by omega) (by omega) (by omega) (by omega)) (fun _ _ _ => _root_.rfl)⟩
  · rw [g (x + 66 + 2 * i) (by omega), g (x + 98) (by omega), g (x + 99) (by omega), g (x + 67 + 2 * i) (by omega), g (x + 100) (by omega)]
    exact h1 i hi
  · rw [g (x + 74 + 4 * i) (by omega), g (x + 75 + 4 * i) (by omega), g (x + 76 + 4 * i) (by omega), g (x + 77 + 4 * i) (by omega), g (x + 101) (by omega), g (x + 102) (by omega), g (x + 103) (by omega), g (x + 104) (by omega), g (x + 105) (by omega)]
    exact h2 i hi
  · unfold WTR
    rw [g x (by omega), g (x + 94) (by omega), g (x + 65) (by omega), g (x + 113) (by omega)]
    exact h3
  · unfold TPR
    rw [g (x + 60) (by omega), g (x + 94) (by omega), g (x + 61) (by omega), g (x + 109) (by omega)]
    exact h4
/-- the two sides alike again, the rest as it was -/
theorem IV.next {sz' : Nat} {v' : Nat → Int32} (h : IV S x sz M v) (hq : jfq S S' x) (hP : PI S' x sz' v') (he : ∀ j, (j = 1 ∨ 135 ≤ j) → j < 2935 → v' j = v j) : IV S' x sz' M v' := by
  obtain ⟨-, h2, h3, h4, h5, h6⟩ := h
  exact ⟨hP, h2.same hq.1, h3.same hq.1, by rw [hq.1.2.2.2]; exact h4, h5.same hq.1 (fun y p q => hq.2 y (by omega) (by omega) (by omega) (by omega) (by omega) (by omega) (by omega) (by omega)) he, h6.keep hq⟩
theorem IV.po {r r' : Int32} (h : IV S x sz M v) (hp : PO S x r r' S') : r = r' ∧ INV S' x M := by
  obtain ⟨h1, h2, h3, sz', v', h4⟩ := hp
  refine ⟨h1, sz', v', h.next (jfq.of h2) h4 (fun j hj _ => ?_)⟩
  have a := h4.2.1.2 j
  have b := h.1.2.1.2 j
  exact a.symm.trans ((h3 j hj).trans b)
theorem IV.inv (h : IV S x sz M v) : INV S x M := ⟨sz, v, h⟩
/-- the start -/
theorem IV_start (h : FR S x) (hn : jn S = x + 115) : IV S x 0 0 v0 := by
  obtain ⟨cl, cn, ml, mn⟩ := id h
  obtain ⟨n1, n2, n3, n4, n5, n6, n7, n8, n9, n10⟩ := id cn
  have z : ∀ k, 1 ≤ k → k < 20 → k ≠ 3 → ∀ j, ji S (x + 95 + k) j = 0 := fun k a b c j => h.zero k a b c j
  refine ⟨h.pi, cl, n5.1, hn, ⟨0, by omega, rfl, fun t ht => absurd ht (Nat.not_lt_zero _), fun t ht b hb => ?_⟩, ⟨0, v0, n2, fun t ht b hb => ?_, Or.inl ⟨h.x0 2, h.m0 3⟩⟩, fun i hi => ?_, fun i hi => ?_, ⟨0, by omega, h.x0 9, h.m0 34, fun j hj => absurd hj (Nat.not_lt_zero _)⟩, ⟨0, by omega, n6 1, h.m0 19, fun j hj => absurd hj (Nat.not_lt_zero _)⟩⟩
  · rw [n3 t ht] at hb; exact absurd hb (by simp)
  · rw [n4 t ht] at hb; exact absurd hb (by simp)
  · obtain ⟨s1, s2, s3⟩ := n8 i hi
    refine ⟨-1, 0, by omega, Or.inl rfl, s1, mn.2.2.1 i hi, s2, z 4 (by omega) (by omega) (by omega) i, fun j hj => ⟨?_, ?_⟩⟩
    · rw [s3 j hj]; exact (z 5 (by omega) (by omega) (by omega) _).symm
    · rw [s3 j hj]; exact Or.inr (by decide)
  · refine ⟨0, by omega, n9 i hi, z 6 (by omega) (by omega) (by omega) i, fun c => absurd c (by omega), fun c => absurd c (by omega), fun c => absurd c (by omega)⟩
end jInv
end
section
/-! TAKES, TEACHES, WORTH on both sides -/
/-- only piles of the class's texts change -/
def jpi (S S' : jM) (x : Nat) : Prop := jsame S S' ∧ ∀ y, (y < x + 115 ∨ (y - x) % 3 ≠ 0) → ji S' y = ji S y
def jlst (v : Nat → Int32) (key : Int32) (n i : Nat) (a : Int32) : Int32 := jfold (fun t a => if v (135 + 200 * t) = key then nI t else a) n i a
abbrev lwt : Type := Option (Nat × Nat × Nat × Nat × (Nat → Nat))
/-- the TEXT that counts for a key: t, its place m in the class, how many words, how many operands, the words -/
def LWD (S : jM) (x r : Nat) (v : Nat → Int32) (key : Nat) : lwt → Prop
  | none => ∃ cnt, cnt ≤ 14 ∧ v 1 = nI cnt ∧ jlst v (nI key) cnt 0 (-1) = -1
  | some (t, m, n, ops, cw) => ∃ cnt, cnt ≤ 14 ∧ v 1 = nI cnt ∧ jlst v (nI key) cnt 0 (-1) = nI t ∧ t < cnt ∧ jr S r t = some (x + 115 + 3 * m + 1) ∧ TxC S (x + 115 + 3 * m) key n ops cw ∧ TxM v t key n ops cw ∧ WFt key n ops cw
def lwv (o : lwt) (z a b c : Int32) : Int32 := match o with
  | none => z
  | some (_, _, n, _, cw) => fvt (jv3 a b c) cw n 0
def jcl99 (z : Int32) : Nat := (jclamp z 1 99).toBitVec.toNat
theorem jcl99_is (z : Int32) : 1 ≤ jcl99 z ∧ jcl99 z ≤ 99 ∧ jclamp z 1 99 = nI (jcl99 z) ∧ jmax 1 (jmin 99 z) = nI (jcl99 z) := by
  have hv : ∃ j, 1 ≤ j ∧ j ≤ 99 ∧ jclamp z 1 99 = nI j ∧ jmax 1 (jmin 99 z) = nI j := by
    rw [show jclamp z 1 99 = (if 1 ≤ z then (if z ≤ 99 then z else 99) else 1) from rfl]
    by_cases h1 : (1 : Int32) ≤ z
    · rw [if_pos h1]
      by_cases h2 : z ≤ 99
      · rw [if_pos h2]
        have hlt : z < nI 100 := Int32.lt_of_le_of_lt h2 (by decide)
        obtain ⟨j, hj, e⟩ := jofI (x := z) (n := 100) (by omega) (Int32.le_trans (by decide) h1) hlt
        refine ⟨j, ?_, by omega, e, ?_⟩
        · rw [e, show (1 : Int32) = nI 1 from rfl, nI_leI (by omega) (by omega)] at h1; exact h1
        · have hd : ∀ j : Fin 100, 1 ≤ j.val → jmax 1 (jmin 99 (nI j.val)) = nI j.val := by decide +kernel
          rw [e]
          refine hd ⟨j, hj⟩ ?_
          rw [e, show (1 : Int32) = nI 1 from rfl, nI_leI (by omega) (by omega)] at h1; exact h1
      · rw [if_neg h2]
        refine ⟨99, by omega, by omega, rfl, ?_⟩
        have h3 : ¬ z < 99 := fun h => h2 (Int32.le_of_lt h)
        unfold jmin
        rw [if_neg h3]
        decide
    · rw [if_neg h1]
      refine ⟨1, by omega, by omega, rfl, ?_⟩
      have h2 : z < 1 := Int32.not_le.mp h1
      have h3 : z < 99 := Int32.lt_of_lt_of_le h2 (by decide)
      unfold jmin jmax
      rw [if_pos h3, if_neg (fun h => h1 (Int32.le_of_lt h))]
      rfl
  obtain ⟨j, h1, h2, h3, h4⟩ := hv
  have e : jcl99 z = j := by
    unfold jcl99
    rw [h3]
    show (BitVec.ofNat 32 j).toNat = j
    rw [BitVec.toNat_ofNat]
    exact Nat.mod_eq_of_lt (by omega)
  rw [e]
  exact ⟨h1, h2, h3, h4⟩
theorem jcl99_k : ∀ k : Fin 25, jcl99 (3 + nI k.val) = 3 + k.val := by decide +kernel
/-- days, as numbers -/
def tdays (kd ag j : Nat) : Nat := if kd = 1 then 2 * j else if kd = 2 then (if j ≤ 1 then 1 else j - 1) else if kd = 3 then 2 * j + ag / 10 else if kd = 4 then (if j ≤ 3 then 1 else (j - 1) / 2) else if kd = 5 then 1 else j
theorem tdays_le {kd ag j : Nat} (ha : ag < 100) (hj : j ≤ 99) : tdays kd ag j ≤ 207 := by
  unfold tdays
  repeat' split
  all_goals omega
theorem jdiv10 : ∀ a : Fin 100, nI a.val / 10 = nI (a.val / 10) := by decide +kernel
theorem jdays_eq {kd ag j : Nat} (hk : kd < 6) (ha : ag < 100) (h1 : 1 ≤ j) (h2 : j ≤ 99) : jdays (nI kd) (nI ag) (nI j) = nI (tdays kd ag j) := by
  have hd : ∀ kd : Fin 6, ∀ j : Fin 100, kd.val ≠ 3 → 1 ≤ j.val → jdays (nI kd.val) 0 (nI j.val) = nI (tdays kd.val 0 j.val) := by decide +kernel
  by_cases h3 : kd = 3
  · subst h3
    show 2 * nI j + nI ag / 10 = nI (2 * j + ag / 10)
    rw [jdiv10 ⟨ag, ha⟩, show (2 : Int32) = nI 2 from rfl, nI_mul, nI_add]
  · have e1 : jdays (nI kd) (nI ag) (nI j) = jdays (nI kd) 0 (nI j) := by
      have hne : ¬ nI kd = 3 := nI_ne (b := 3) (by omega) (by omega) h3
      unfold jdays
      rw [if_neg hne, if_neg hne]
    have e2 : tdays kd ag j = tdays kd 0 j := by unfold tdays; rw [if_neg h3, if_neg h3]
    rw [e1, e2]; exact hd ⟨kd, hk⟩ ⟨j, by omega⟩ h3 h1
/-- the days, by the text that counts -/
def tkd (o : lwt) (k kd tg ag : Nat) : Nat := tdays kd ag (jcl99 (lwv o (3 + nI k) (nI k) (nI tg) (nI ag)))
section jTakes
variable {E : jEnv} {d : Nat} {S S' : jM} {x r m sz M : Nat} {v : Nat → Int32}
theorem jpi.rfl : jpi S S x := ⟨jsame.rfl, fun _ _ => _root_.rfl⟩
theorem jpi.trans {S1 S2 : jM} (h1 : jpi S S1 x) (h2 : jpi S1 S2 x) : jpi S S2 x := ⟨h1.1.trans h2.1, fun y a => (h2.2 y a).trans (h1.2 y a)⟩
theorem jpi.pile {m : Nat} (h : jch S S' (x + 115 + 3 * m + 2) (x + 115 + 3 * m + 3)) : jpi S S' x := ⟨h.1, fun y g => h.2 y (by omega)⟩
theorem jpi.fq (h : jpi S S' x) : jfq S S' x := ⟨h.1, fun y _ _ _ _ _ _ _ g => h.2 y g⟩
theorem jpi.pi (h : jpi S S' x) (hP : PI S x sz v) : PI S' x sz v := by
  have cs : ∀ y, y < x + 115 → jcs S S' y := fun y hy => ⟨by rw [h.1.1], by rw [h.1.2.1], h.2 y (Or.inl hy), by rw [h.1.2.2.1]⟩
  exact ⟨hP.1.of h.1 (hP.1.2.2.grow (fun y p q => cs y (by omega))), ⟨hP.2.1.1.same h.1, fun j => by rw [h.2 _ (Or.inl (by omega))]; exact hP.2.1.2 j⟩, hP.2.2⟩
theorem jlst_cases (v : Nat → Int32) (key : Int32) (cnt : Nat) : ∀ (n i : Nat) (a : Int32), i + n = cnt → (a = -1 ∨ ∃ t, t < cnt ∧ a = nI t ∧ v (135 + 200 * t) = key) → (jlst v key n i a = -1 ∨ ∃ t, t < cnt ∧ jlst v key n i a = nI t ∧ v (135 + 200 * t) = key)
  | 0, _, _, _, h => h
  | n + 1, i, a, hi, h => by
    refine jlst_cases v key cnt n (i + 1) _ (by omega) ?_
    dsimp only
    by_cases c : v (135 + 200 * i) = key
    · rw [if_pos c]; exact Or.inr ⟨i, by omega, rfl, c⟩
    · rw [if_neg c]; exact h
theorem LWD_ex {key : Nat} (hk : key < 3) (hT : TXS S x r M v) : ∃ o, LWD S x r v key o := by
  obtain ⟨cnt, c14, e1, hT, -⟩ := hT
  rcases jlst_cases v (nI key) cnt cnt 0 (-1) (by omega) (Or.inl rfl) with h | ⟨t, ht, h, hk2⟩
  · exact ⟨none, cnt, c14, e1, h⟩
  · obtain ⟨m, key', n, ops, cw, hm, a1, a2, a3, a4, a5⟩ := hT t ht
    have : key' = key := nI_inj (by omega) (by omega) (a4.1.symm.trans hk2)
    subst this
    exact ⟨some (t, m, n, ops, cw), cnt, c14, e1, h, ht, a1, a3, a4, a5⟩
theorem LWD.keep {key : Nat} {o : lwt} (h : LWD S x r v key o) (hp : jfq S S' x) : LWD S' x r v key o := by
  cases o with
  | none => exact h
  | some q =>
    obtain ⟨t, m, n, ops, cw⟩ := q
    obtain ⟨cnt, c14, e1, h1, h2, h3, h4, h5, h6⟩ := h
    obtain ⟨k, l, rr, -⟩ := id hp.1
    exact ⟨cnt, c14, e1, h1, h2, by rw [rr]; exact h3, h4.move (fun y _ _ => by rw [k]) (fun y _ _ => by rw [l]) (by rw [rr]) (fun y p q => hp.2 y (by omega) (by omega) (by omega) (by omega) (by omega) (by omega) (by omega) (by omega)), h5, h6⟩
theorem LWD.row {key : Nat} {o : lwt} {v' : Nat → Int32} (h : LWD S x r v key o) (he : ∀ j, (j = 1 ∨ 135 ≤ j) → j < 2935 → v' j = v j) : LWD S x r v' key o := by
  have hj : ∀ (cnt : Nat), cnt ≤ 14 → ∀ (n i : Nat) (a : Int32), i + n = cnt → jlst v' (nI key) n i a = jlst v (nI key) n i a := by
    intro cnt c14 n
    induction n with
    | zero => intro i a _; rfl
    | succ n ih =>
      intro i a hi
      show jlst v' (nI key) n (i + 1) (if v' (135 + 200 * i) = nI key then nI i else a) = jlst v (nI key) n (i + 1) (if v (135 + 200 * i) = nI key then nI i else a)
      rw [he _ (by omega) (by omega)]
      exact ih (i + 1) _ (by omega)
  cases o with
  | none =>
    obtain ⟨cnt, c14, e1, h1⟩ := h
    exact ⟨cnt, c14, (he 1 (Or.inl rfl) (by omega)).trans e1, (hj cnt c14 cnt 0 (-1) (by omega)).trans h1⟩
  | some q =>
    obtain ⟨t, m, n, ops, cw⟩ := q
    obtain ⟨cnt, c14, e1, h1, h2, h3, h4, h5, h6⟩ := h
    exact ⟨cnt, c14, (he 1 (Or.inl rfl) (by omega)).trans e1, (hj cnt c14 cnt 0 (-1) (by omega)).trans h1, h2, h3, h4, h5.cong (by omega) h6.2.2.2.2.2.2 (fun j p q => he j (Or.inr p) q), h6⟩
/-! which text counts -/
theorem c_X3_numberOfLaw {Q : Int32 → jM → Prop} {cnt : Nat} {w : Int32} (hR : RmR S r sz v) (hT : TXS S x (r + 19) M v) (hc : cnt ≤ 14) (e1 : v 1 = nI cnt) (h : Q (jlst v w cnt 0 (-1)) S) : jFi E mX3_numberOfLaw d 0 0 [.ref r, .int w] S Q := by
  obtain ⟨cnt', c14, e1', hT, -⟩ := hT
  obtain rfl : cnt' = cnt := nI_inj (by omega) (by omega) (e1'.symm.trans e1)
  have n6 := hR.n6
  obtain ⟨⟨k1, -, -, -, -, k6, -, -, k9, k10⟩, -⟩ := hR
  have key : ∀ (n i : Nat) (a : Int32), i + n = cnt' → Q (jlst v w n i a) S → L_X3_numberOfLaw_4 E d Q r w a (nI i) S := by
    intro n
    induction n with
    | zero =>
      intro i a hi hq
      obtain rfl : i = cnt' := by omega
      exact T_X3_numberOfLaw_4 ⟨k1, fun _ => hq, fun c => absurd (by rw [n6, e1]; exact Int32.le_rfl) c⟩
    | succ n ih =>
      intro i a hi hq
      obtain ⟨m, key, n', ops, cw, hm, a1, a2, a3, a4, a5⟩ := hT i (by omega)
      have hq2 : Q (jlst v w n (i + 1) (if v (135 + 200 * i) = w then nI i else a)) S := hq
      refine T_X3_numberOfLaw_4 ⟨k1, fun c => absurd c (by rw [n6, e1]; exact nI_ge (by omega) (by omega)), fun _ => ⟨fun c => absurd c (nI_ge (b := 14) (by omega) (by omega)), fun _ => ⟨r + 19, k6, k9, by rw [k10]; exact jin_nI (by omega) (by omega), fun c => ?_, fun b c => ?_⟩⟩⟩
      · rw [jcl (by omega), a1] at c; exact absurd c (by simp)
      · rw [jcl (by omega), a1] at c
        obtain rfl : x + 115 + 3 * m + 1 = b := Option.some.inj c
        refine ⟨a3.1, ?_⟩
        rw [a3.2.2.2.2.2.2.2.1, nI_1, ← a4.1]
        refine ⟨fun c => ?_, fun c => ?_⟩
        · rw [if_pos c] at hq2; exact ih (i + 1) _ (by omega) hq2
        · rw [if_neg c] at hq2; exact ih (i + 1) _ (by omega) hq2
  exact T_X3_numberOfLaw (key cnt' 0 (-1) (by omega) h)
theorem c_X11_counts {Q : Int32 → jM → Prop} {cnt : Nat} {w : Int32} (hM : MR S m v) (hc : cnt ≤ 14) (e1 : v 1 = nI cnt) (h : Q (jlst v w cnt 0 (-1)) S) : jFi E mX11_counts (d + 1) 0 0 [.ref m, .int w] S Q := by
  have i1 := hM.at (i := 1) 1 rfl (by omega)
  have key : ∀ (n i : Nat) (a : Int32), i + n = cnt → Q (jlst v w n i a) S → L_X11_counts_4 E d Q m w a (nI i) S := by
    intro n
    induction n with
    | zero =>
      intro i a hi hq
      obtain rfl : i = cnt := by omega
      exact T_X11_counts_4 ⟨hM.k, _, hM.r, hM.k1, i1.1, fun _ => hq, fun c => absurd (by rw [i1.2, e1]; exact Int32.le_rfl) c⟩
    | succ n ih =>
      intro i a hi hq
      have hq2 : Q (jlst v w n (i + 1) (if v (135 + 200 * i) = w then nI i else a)) S := hq
      have ia := hM.at (i := jtextat (nI i)) (135 + 200 * i) (by have := nI_txt i 0; rw [nI_0, Int32.add_zero] at this; exact this) (by omega)
      refine T_X11_counts_4 ⟨hM.k, _, hM.r, hM.k1, i1.1, fun c => absurd c (by rw [i1.2, e1]; exact nI_ge (by omega) (by omega)), fun _ => ⟨ia.1, ?_⟩⟩
      rw [ia.2, nI_1]
      refine ⟨fun c => ?_, fun c => ?_⟩
      · rw [if_pos c] at hq2; exact ih (i + 1) _ (by omega) hq2
      · rw [if_neg c] at hq2; exact ih (i + 1) _ (by omega) hq2
  exact T_X11_counts (key cnt 0 (-1) (by omega) h)
theorem jwi_m1 (n : Int32) : jwi (-1) n = 0 := by unfold jwi; rw [if_pos (by decide)]
/-- the class's law of a key: its number, then its text -/
theorem c_X3_law {Q : Option Nat → jM → Prop} {key : Nat} {o : lwt} {P : Int32 → jM → Prop} (hR : RmR S r sz v) (hT : TXS S x (r + 19) M v) (hL : LWD S x (r + 19) v key o) (h0 : o = none → Q none S) (h1 : ∀ t m n ops cw, o = some (t, m, n, ops, cw) → Q (some (x + 115 + 3 * m + 1)) S)
    (hP : ∀ w, jFr E mX3_findText (d + 1) 0 0 [.ref r, .int w] S Q → P w S) : jFi E mX3_numberOfLaw (d + 1) 0 0 [.ref r, .int (nI key)] S P := by
  have n6 := hR.n6
  have hR0 := id hR
  obtain ⟨⟨k1, -, -, -, -, k6, -, -, k9, k10⟩, -⟩ := hR0
  cases o with
  | none =>
    obtain ⟨cnt, c14, e1, e⟩ := hL
    refine c_X3_numberOfLaw hR hT c14 e1 (hP _ ?_)
    rw [e]
    exact T_X3_findText ⟨k1, fun _ => h0 rfl, fun c => absurd (jwi_m1 _) c⟩
  | some q =>
    obtain ⟨t, m, n, ops, cw⟩ := q
    obtain ⟨cnt, c14, e1, e, ht, a1, -⟩ := hL
    refine c_X3_numberOfLaw hR hT c14 e1 (hP _ ?_)
    rw [e]
    refine T_X3_findText ⟨k1, fun c => absurd c (by rw [n6, e1, jwi_at ht (by omega)]; decide), fun _ => ⟨fun c => absurd c (nI_ge (b := 14) (by omega) (by omega)), fun _ => ⟨r + 19, k6, k9, by rw [k10]; exact jin_nI (by omega) (by omega), fun c => ?_, fun b c => ?_⟩⟩⟩
    · rw [jcl (by omega), a1] at c; exact absurd c (by simp)
    · rw [jcl (by omega), a1] at c
      obtain rfl : x + 115 + 3 * m + 1 = b := Option.some.inj c
      exact h1 t m n ops cw rfl
theorem c_X3_daysTaken {Q : Int32 → jM → Prop} {o : lwt} {a k kd tg ag : Nat} (hR : RmR S r sz v) (hT : TXS S x (r + 19) M v) (hL : LWD S x (r + 19) v 0 o) (ha : jk S a = 2) (hax : a < x + 115) (e0 : ji S a 0 = nI kd) (e2 : ji S a 2 = nI tg) (e5 : ji S a 5 = nI ag) (hkd : kd < 6) (hag : ag < 100)
    (h : ∀ S', jpi S S' x → Q (nI (tkd o k kd tg ag)) S') : jFi E mX3_daysTaken (d + 3) 0 0 [.ref r, .ref a, .int (nI k)] S Q := by
  refine T_X3_daysTaken ⟨hR.1.1, c_X3_law (key := 0) hR hT hL (fun e => ?_) (fun t m n ops cw e => ?_) (fun w hw => ⟨hR.1.1, hw⟩)⟩
  · subst e
    refine ⟨fun _ => ⟨ha, c_X2_daysFrom ha ?_⟩, fun b c => absurd c (by simp)⟩
    obtain ⟨z1, z2, z3, z4⟩ := jcl99_is (3 + nI k)
    rw [e0, e5, z4, jdays_eq hkd hag z1 z2]
    exact h S jpi.rfl
  · subst e
    refine ⟨fun c => absurd c (by simp), fun b c => ?_⟩
    obtain rfl : x + 115 + 3 * m + 1 = b := Option.some.inj c
    obtain ⟨cnt, c14, e1, e, ht, a1, a3, a4, a5⟩ := hL
    refine ⟨ha, a3.1, ?_⟩
    rw [e2, e5]
    refine c_X9_workOut a3 a5 (fun S1 c1 => ?_)
    have k1 : jk S1 a = 2 := by rw [c1.1.1]; exact ha
    refine ⟨k1, c_X2_daysFrom k1 ?_⟩
    obtain ⟨z1, z2, z3, z4⟩ := jcl99_is (fvt (jv3 (nI k) (nI tg) (nI ag)) cw n 0)
    rw [c1.2 a (by omega), e0, e5, z4, jdays_eq hkd hag z1 z2]
    exact h S1 (jpi.pile c1)
/-- the reference's days -/
theorem c_X11_takes {Q : Int32 → jM → Prop} {o : lwt} {i k kd tg ag : Nat} (hM : MR S m v) (hL : LWD S x r v 0 o) (hi : i < 9) (e0 : mfv v i 0 = nI kd) (e2 : mfv v i 2 = nI tg) (e5 : mfv v i 5 = nI ag) (hkd : kd < 6) (hag : ag < 100) (hk : k < 25)
    (h : ∀ S', jch S S' (m + 16) (m + 18) → MR S' m v → Q (nI (tkd o k kd tg ag)) S') : jFi E mX11_takes (d + 2) 0 0 [.ref m, .int (nI i), .int (nI k)] S Q := by
  have fin : ∀ (S1 : jM) (j : Nat), 1 ≤ j → j ≤ 99 → jch S S1 (m + 16) (m + 18) → MR S1 m v → tkd o k kd tg ag = tdays kd ag j → ((nI j ≤ 1 → jk S1 m = 11 ∧ jFi E mX11_of (d + 1) 0 0 [.ref m, .int (nI i), .int 0] S1 (fun r8 S7 => (r8 = 1 → Q (2 * nI j) S7) ∧ (r8 = 2 → Q 1 S7) ∧ (r8 = 3 → jk S7 m = 11 ∧ jFi E mX11_of (d + 1) 0 0 [.ref m, .int (nI i), .int 5] S7 (fun r14 S13 => Q ((2 * nI j) + (r14 / 10)) S13)) ∧ (r8 = 4 → Q 1 S7) ∧ (r8 = 5 → Q 1 S7) ∧ (¬ r8 = 1 → ¬ r8 = 2 → ¬ r8 = 3 → ¬ r8 = 4 → ¬ r8 = 5 → Q (nI j) S7))) ∧ (¬ nI j ≤ 1 → jk S1 m = 11 ∧ jFi E mX11_of (d + 1) 0 0 [.ref m, .int (nI i), .int 0] S1 (fun r19 S18 => (r19 = 1 → Q (2 * nI j) S18) ∧ (r19 = 2 → Q (nI j - 1) S18) ∧ (r19 = 3 → jk S18 m = 11 ∧ jFi E mX11_of (d + 1) 0 0 [.ref m, .int (nI i), .int 5] S18 (fun r25 S24 => Q ((2 * nI j) + (r25 / 10)) S24)) ∧ (r19 = 4 → ((nI j - 1) ≤ 1 → Q 1 S18) ∧ (¬ (nI j - 1) ≤ 1 → Q ((nI j - 1) / 2) S18)) ∧ (r19 = 5 → Q 1 S18) ∧ (¬ r19 = 1 → ¬ r19 = 2 → ¬ r19 = 3 → ¬ r19 = 4 → ¬ r19 = 5 → Q (nI j) S18)))) := by
    intro S1 j j1 j2 c1 h1 et
    have hq := h S1 c1 h1
    rw [et] at hq
    have hne : ∀ w : Nat, w < 6 → nI kd = nI w → kd = w := fun w hw e => nI_inj (by omega) (by omega) e
    have q1 : nI kd = 1 → Q (2 * nI j) S1 := fun e => by
      have := hne 1 (by omega) e
      subst this
      rw [show (2 : Int32) = nI 2 from rfl, nI_mul]; exact hq
    have q3 : nI kd = 3 → jk S1 m = 11 ∧ jFi E mX11_of (d + 1) 0 0 [.ref m, .int (nI i), .int 5] S1 (fun r14 S13 => Q ((2 * nI j) + (r14 / 10)) S13) := fun e => by
      have := hne 3 (by omega) e
      subst this
      refine ⟨h1.k, c_X11_of (f := 5) h1 hi (by omega) ?_⟩
      rw [e5, jdiv10 ⟨ag, hag⟩, show (2 : Int32) = nI 2 from rfl, nI_mul, nI_add]; exact hq
    have q5 : nI kd = 5 → Q 1 S1 := fun e => by
      have := hne 5 (by omega) e
      subst this
      exact hq
    have q0 : ¬ nI kd = 1 → ¬ nI kd = 2 → ¬ nI kd = 3 → ¬ nI kd = 4 → ¬ nI kd = 5 → Q (nI j) S1 := fun n1 n2 n3 n4 n5 => by
      have : kd = 0 := by
        rcases (show kd = 0 ∨ kd = 1 ∨ kd = 2 ∨ kd = 3 ∨ kd = 4 ∨ kd = 5 by omega) with e | e | e | e | e | e
        · exact e
        · exact absurd (by rw [e]; rfl) n1
        · exact absurd (by rw [e]; rfl) n2
        · exact absurd (by rw [e]; rfl) n3
        · exact absurd (by rw [e]; rfl) n4
        · exact absurd (by rw [e]; rfl) n5
      subst this
      exact hq
    refine ⟨fun c => ⟨h1.k, c_X11_of (f := 0) h1 hi (by omega) ?_⟩, fun c => ⟨h1.k, c_X11_of (f := 0) h1 hi (by omega) ?_⟩⟩
    · have jj : j = 1 := by
        rw [show (1 : Int32) = nI 1 from rfl, nI_leI (by omega) (by omega)] at c; omega
      rw [e0]
      refine ⟨q1, fun e => ?_, q3, fun e => ?_, q5, q0⟩
      · have := hne 2 (by omega) e
        subst this; subst jj
        exact hq
      · have := hne 4 (by omega) e
        subst this; subst jj
        exact hq
    · have jj : 2 ≤ j := by
        rcases Nat.lt_or_ge j 2 with h9 | h9
        · exact absurd (by rw [show (1 : Int32) = nI 1 from rfl, nI_leI (by omega) (by omega)]; omega) c
        · exact h9
      obtain ⟨y, rfl⟩ : ∃ y, j = y + 1 := ⟨j - 1, by omega⟩
      rw [e0, nI_pred]
      refine ⟨q1, fun e => ?_, q3, fun e => ⟨fun c2 => ?_, fun c2 => ?_⟩, q5, q0⟩
      · have := hne 2 (by omega) e
        subst this
        have e9 : tdays 2 ag (y + 1) = y := by show (if y + 1 ≤ 1 then 1 else y + 1 - 1) = y; rw [if_neg (by omega)]; omega
        rw [e9] at hq; exact hq
      · have := hne 4 (by omega) e
        subst this
        have y1 : y ≤ 1 := by rw [show (1 : Int32) = nI 1 from rfl, nI_leI (by omega) (by omega)] at c2; exact c2
        have e9 : tdays 4 ag (y + 1) = 1 := by show (if y + 1 ≤ 3 then 1 else (y + 1 - 1) / 2) = 1; rw [if_pos (by omega)]
        rw [e9] at hq; exact hq
      · have := hne 4 (by omega) e
        subst this
        have y1 : 2 ≤ y := by
          rcases Nat.lt_or_ge y 2 with h9 | h9
          · exact absurd (by rw [show (1 : Int32) = nI 1 from rfl, nI_leI (by omega) (by omega)]; omega) c2
          · exact h9
        have hd2 : ∀ y : Fin 99, nI y.val / 2 = nI (y.val / 2) := by decide +kernel
        have e9 : tdays 4 ag (y + 1) = y / 2 := by
          show (if y + 1 ≤ 3 then 1 else (y + 1 - 1) / 2) = y / 2
          by_cases h3 : y + 1 ≤ 3
          · rw [if_pos h3, show y = 2 by omega]
          · rw [if_neg h3, show y + 1 - 1 = y by omega]
        rw [e9] at hq
        rw [hd2 ⟨y, by omega⟩]; exact hq
  have r30 := hM.1.row 15 128 (f := 30) rfl
  rw [show m + 1 + 15 = m + 16 by omega] at r30
  cases o with
  | none =>
    obtain ⟨cnt, c14, e1, e⟩ := hL
    refine T_X11_takes ⟨hM.k, c_X11_counts (w := 0) hM c14 e1 ?_⟩
    have e' : jlst v 0 cnt 0 (-1) = -1 := e
    rw [e']
    refine ⟨fun _ => ?_, fun c => absurd (by decide) c⟩
    have ek : (3 : Int32) + nI k = nI (3 + k) := nI_add 3 k
    rw [ek]
    refine fin S (3 + k) (by omega) (by omega) jch.rfl hM ?_
    show tdays kd ag (jcl99 (3 + nI k)) = _
    rw [jcl99_k ⟨k, hk⟩]
  | some q =>
    obtain ⟨t, m', n, ops, cw⟩ := q
    obtain ⟨cnt, c14, e1, e, ht, a1, a3, a4, a5⟩ := hL
    refine T_X11_takes ⟨hM.k, c_X11_counts (w := 0) hM c14 e1 ?_⟩
    have e' : jlst v 0 cnt 0 (-1) = nI t := e
    rw [e']
    refine ⟨fun c => absurd c (nI_pos (by omega)), fun _ => ⟨hM.k, _, r30.1, r30.2.1, by rw [r30.2.2]; exact jin_nI (n := 107) (by omega) (by omega), ?_⟩⟩
    have n107 : Int32.toNatClampNeg 107 = 107 := rfl
    have n103 : Int32.toNatClampNeg 103 = 103 := rfl
    have n97 : Int32.toNatClampNeg 97 = 97 := rfl
    rw [n107]
    have c1 : jch S (jput S (m + 16) 107 (nI k)) (m + 16) (m + 18) := jch.put (by omega) (by omega)
    have h1 := hM.keep c1 (by omega)
    refine c_X11_of (f := 2) h1 hi (by omega) ⟨r30.2.1, by show vp_in 103 (jl S (m + 16)); rw [r30.2.2]; exact jin_nI (n := 103) (by omega) (by omega), h1.k, _, r30.1, ?_⟩
    rw [n103, e2]
    have c2 := c1.trans (jch.put (S := jput S (m + 16) 107 (nI k)) (a := m + 16) (j := 103) (v := nI tg) (by omega) (by omega))
    have h2 := hM.keep c2 (by omega)
    refine c_X11_of (f := 5) h2 hi (by omega) ⟨r30.2.1, by show vp_in 97 (jl S (m + 16)); rw [r30.2.2]; exact jin_nI (n := 97) (by omega) (by omega), h2.k, ?_⟩
    rw [n97, e5]
    have c3 := c2.trans (jch.put (S := jput (jput S (m + 16) 107 (nI k)) (m + 16) 103 (nI tg)) (a := m + 16) (j := 97) (v := nI ag) (by omega) (by omega))
    have h3 := hM.keep c3 (by omega)
    refine c_X11_worked (vals := jv3 (nI k) (nI tg) (nI ag)) h3 (by omega) (by omega) a4 a5 (fun i hi9 => ?_) (fun S4 c4 => ?_)
    · have hi9 : i < 3 := hi9
      rcases (show i = 0 ∨ i = 1 ∨ i = 2 by omega) with rfl | rfl | rfl
      · show ji _ (m + 16) 107 = nI k
        rw [ji_put, if_neg (by omega), ji_put, if_neg (by omega), ji_put_same]
      · show ji _ (m + 16) 103 = nI tg
        rw [ji_put, if_neg (by omega), ji_put_same]
      · show ji _ (m + 16) 97 = nI ag
        rw [ji_put_same]
    · have c5 : jch S S4 (m + 16) (m + 18) := c3.trans (c4.wide (by omega) (by omega))
      obtain ⟨z1, z2, z3, z4⟩ := jcl99_is (fvt (jv3 (nI k) (nI tg) (nI ag)) cw n 0)
      rw [z3]
      exact fin S4 _ z1 z2 c5 (hM.keep c5 (by omega)) rfl
end jTakes
end
section
/-! TOLD, FAME, FINE, WHY, TEXTTOLD, MADE, LEARN on both sides -/
theorem jbm {k : Nat} (h : k < 1024) : jbc (nI k) = jmany (nI k) := jbc_many ⟨k, h⟩
theorem jbm_and {k : Nat} (h : k < 1024) (y : Int32) : jbc (nI k &&& y) = jmany (nI k &&& y) := by
  obtain ⟨k', hk, e⟩ := nI_andle h y
  rw [e]; exact jbm hk
theorem j_and_comm (a b : Int32) : a &&& b = b &&& a := Int32.and_comm a b
theorem jmany_le : ∀ n : Fin 1024, ∃ k : Fin 11, jmany (nI n.val) = nI k.val := by
  intro n
  have hd : ∀ n : Fin 1024, (jmany (nI n.val)).toBitVec.toNat < 11 := by decide +kernel
  exact ⟨⟨_, hd n⟩, nI_bv _⟩
section jTold
variable {E : jEnv} {d : Nat} {S S' : jM} {x r m sz M : Nat} {v : Nat → Int32}
/-- a master of the class, by the row -/
theorem XR.ms (h : XR S x sz v) {i f : Nat} (hi : i < 9) (hf : f < 7) : ji S (x + 2 + 2 + i) f = mfv v i f := h.g.at hi hf
theorem XR.mk (h : XR S x sz v) {i : Nat} (hi : i < 9) : jk S (x + 2 + 2 + i) = 2 := h.g.mk2 hi
theorem Rg.kd (h : Rg sz v) {i : Nat} (hi : i < 9) : ∃ k, k < 6 ∧ mfv v i 0 = nI k := h.msf i 0 hi (by omega)
theorem Rg.tw (h : Rg sz v) {i : Nat} (hi : i < 9) : ∃ k, k < 6 ∧ mfv v i 1 = nI k := h.msf i 1 hi (by omega)
theorem Rg.ge (h : Rg sz v) {i : Nat} (hi : i < 9) : ∃ k, k < 10 ∧ mfv v i 2 = nI k := h.msf i 2 hi (by omega)
theorem Rg.ba (h : Rg sz v) {i : Nat} (hi : i < 9) : ∃ k, k < 1024 ∧ mfv v i 3 = nI k := h.msf i 3 hi (by omega)
theorem Rg.fe (h : Rg sz v) {i : Nat} (hi : i < 9) : ∃ k, k < 100 ∧ mfv v i 4 = nI k := h.msf i 4 hi (by omega)
theorem Rg.ag (h : Rg sz v) {i : Nat} (hi : i < 9) : ∃ k, k < 100 ∧ mfv v i 5 = nI k := h.msf i 5 hi (by omega)
theorem Rg.de (h : Rg sz v) {i : Nat} (hi : i < 9) : mfv v i 6 = 0 ∨ mfv v i 6 = 1 := by
  obtain ⟨k, hk, e⟩ := h.msf i 6 hi (by omega)
  have hk : k < 2 := hk
  rcases (show k = 0 ∨ k = 1 by omega) with rfl | rfl
  · exact Or.inl e
  · exact Or.inr e
theorem c_X11_teaches {Q : Int32 → jM → Prop} {i k : Nat} (hM : MR S m v) (hg : Rg sz v) (hi : i < 9) (hk : k < 1024) (h : Q (jteach (mfv v i 0) (mfv v i 3) (nI k)) S) : jFi E mX11_teaches (d + 1) 0 0 [.ref m, .int (nI i), .int (nI k)] S Q := by
  obtain ⟨b, hb, eb⟩ := hg.ba hi
  have e1 : jmany (nI k &&& mfv v i 3) = jbc (mfv v i 3 &&& nI k) := by rw [j_and_comm (mfv v i 3), jbm_and hk]
  have e2 : jmany (nI k) = jbc (nI k) := (jbm hk).symm
  have e3 : (2 ≤ jbc (mfv v i 3 &&& nI k)) ↔ 1 < jbc (mfv v i 3 &&& nI k) := by
    rw [Int32.le_iff_toInt_le, Int32.lt_iff_toInt_lt]
    have a2 : (2 : Int32).toInt = 2 := by decide
    have a1 : (1 : Int32).toInt = 1 := by decide
    omega
  refine T_X11_teaches ⟨hM.k, c_X11_of (f := 3) hM hi (by omega) ⟨hM.k, c_X11_of (f := 0) hM hi (by omega) ?_⟩⟩
  rw [e1, e2, e3]
  unfold jteach at h
  generalize mfv v i 0 = kd at h ⊢
  generalize jbc (mfv v i 3 &&& nI k) = b1 at h ⊢
  generalize jbc (nI k) = b2 at h ⊢
  refine ⟨fun c => ?_, fun c => ⟨fun c1 => ⟨fun c2 => ?_, fun c2 => ?_⟩, fun c1 => ?_⟩, fun c => ?_, fun c => ⟨fun c1 => ?_, fun c1 => ?_⟩, fun n2 n3 n4 n5 => ⟨fun c1 => ?_, fun c1 => ?_⟩⟩
  all_goals simp_all
theorem c_X11_worth {Q : Int32 → jM → Prop} {i : Nat} (hM : MR S m v) (hi : i < 9) (h : Q (jworth (mfv v i 0) (mfv v i 4)) S) : jFi E mX11_worth (d + 1) 0 0 [.ref m, .int (nI i)] S Q := by
  refine T_X11_worth ⟨hM.k, c_X11_of (f := 4) hM hi (by omega) ⟨hM.k, c_X11_of (f := 0) hM hi (by omega) ?_⟩⟩
  have e95 : ∀ f : Int32, 99 - f - 4 = 95 - f := fun f => by
    rw [Int32.sub_eq_add_neg, Int32.sub_eq_add_neg, Int32.sub_eq_add_neg, Int32.add_assoc, Int32.add_comm (-f), ← Int32.add_assoc]
    rfl
  unfold jworth at h
  rw [e95] at h
  generalize mfv v i 0 = kd at h ⊢
  generalize mfv v i 4 = f at h ⊢
  refine ⟨fun c => ?_, fun c => ?_, fun c => ?_, fun c => ?_, fun c => ?_, fun n1 n2 n3 n4 n5 => ?_⟩
  all_goals simp_all
theorem PI.kn (h : PI S x sz v) : ∃ k, k < 1024 ∧ v 4 = nI k := h.2.2.kn
theorem jch.fq97 (h : jch S S' (x + 94 + 16) (x + 94 + 18)) : jfq S S' x := ⟨h.1, fun y _ _ _ _ _ c _ _ => h.2 y (by omega)⟩
theorem jch.pi97 (h : jch S S' (x + 94 + 16) (x + 94 + 18)) (hP : PI S x sz v) : PI S' x sz v :=
  ⟨hP.1.of h.1 (hP.1.2.2.keep h (by omega)), hP.2.1.keep h (by omega), hP.2.2⟩
/-- both calls left the two sides as they were -/
theorem IV.still {S1 S2 : jM} (h : IV S x sz M v) (h1 : jpi S S1 x) (h2 : jch S1 S2 (x + 94 + 16) (x + 94 + 18)) : INV S2 x M :=
  ⟨sz, v, h.next (h1.fq.trans h2.fq97) (h2.pi97 (h1.pi h.1)) (fun _ _ _ => rfl)⟩
theorem Q_told {w u : Int32} (h : IV S x sz M v) : jFi E mX10_told (d + 4) 0 0 [.ref x, .int w, .int u] S (fun r S1 => jFm E mX11_told (d + 3) (x + 94) [.int w, .int u] S1 (fun r' S2 => r = r' ∧ INV S2 x M)) := by
  obtain ⟨hX, hM, hg⟩ := id h.1
  have hz := hX.sz9
  have eu : jisin (Int32.toInt64 u) 0 9 = jwi u 10 := jisin_wi u 10 9 rfl (jle_lt (by decide))
  refine T_X10_told ⟨hX.1, x + 1, hX.2.1, hX.k3, x + 2, hX.r0, hX.g.1.1, c_X0_find hX.g.1 hX.g.2.1 hz (fun n hn e => ⟨fun c => absurd c (by simp), fun b eb => ?_⟩) (fun hno => ⟨fun _ => ?_, fun b e => absurd e (by simp)⟩)⟩
  · obtain rfl : x + 2 + 2 + n = b := Option.some.inj eb
    subst e
    have n9 : n < 9 := by omega
    have ism : ∀ {Q : Int32 → jM → Prop} {S1 : jM}, MR S1 (x + 94) v → Q 1 S1 → jFi E mX11_isMaster (d + 2) 0 0 [.ref (x + 94), .int (nI n)] S1 Q := fun hM1 hq => c_X11_isMaster hM1 hX.v0 hz (fun _ _ _ => hq) (fun hh => absurd rfl (hh n hn))
    have k2 := hX.mk n9
    have small : ∀ f : Nat, f < 7 → ∀ r, r = mfv v n f → jFm E mX11_told (d + 3) (x + 94) [.int (nI n), .int (nI f)] S (fun r' S2 => r = r' ∧ INV S2 x M) := by
      intro f hf r hr
      refine U_X11_told hM.k ⟨hM.k, ism hM ⟨fun c => absurd c (by decide), fun _ => ⟨fun c => absurd c ?_, fun _ => ⟨fun c => absurd c ?_, fun _ => ⟨hM.k, c_X11_of hM n9 hf ⟨hr, h.inv⟩⟩⟩⟩⟩⟩
      · have e9 : jisin (Int32.toInt64 (nI f)) 0 9 = jwi (nI f) 10 := jisin_wi (nI f) 10 9 rfl (jle_lt (by decide))
        rw [e9, show (10 : Int32) = nI 10 from rfl, jwi_at (by omega) (by omega)]; decide
      · rw [show (7 : Int32) = nI 7 from rfl]; exact nI_ge (by omega) (by omega)
    have kn := hg.kn
    obtain ⟨kk, hkk, ekk⟩ := kn
    have i4 := hM.at (i := 4) 4 rfl (by omega)
    refine ⟨hX.1, x + 1, hX.2.1, hX.k3, x + 16, hX.r2, fun c => ⟨k2, ?_⟩, fun c => ⟨k2, ?_⟩, fun c => ⟨k2, ?_⟩, fun c => ⟨k2, ?_⟩, fun c => ⟨k2, ?_⟩, fun c => ⟨k2, ?_⟩, fun c => ⟨k2, fun c6 => ?_, fun c6 => ?_⟩, fun c => ⟨hX.l.1.1, ?_⟩, fun c => ⟨hX.l.1.1, k2, c_X2_teaches k2 ?_⟩, fun c => ⟨k2, c_X2_worth k2 ?_⟩, fun c0 c1 c2 c3 c4 c5 c6 c7 c8 c9 => ?_⟩
    · subst c; exact small 0 (by omega) _ (hX.ms n9 (by omega))
    · subst c; exact small 1 (by omega) _ (hX.ms n9 (by omega))
    · subst c; exact small 2 (by omega) _ (hX.ms n9 (by omega))
    · subst c; exact small 3 (by omega) _ (hX.ms n9 (by omega))
    · subst c; exact small 4 (by omega) _ (hX.ms n9 (by omega))
    · subst c; exact small 5 (by omega) _ (hX.ms n9 (by omega))
    · subst c
      rw [hX.ms n9 (by omega)] at c6
      exact small 6 (by omega) _ c6.symm
    · subst c
      rw [hX.ms n9 (by omega)] at c6
      rcases hg.de n9 with e | e
      · exact absurd e c6
      · exact small 6 (by omega) _ e.symm
    · subst c
      obtain ⟨kd, hkd, ekd⟩ := hg.kd n9
      obtain ⟨tg, htg, etg⟩ := hg.ge n9
      obtain ⟨ag, hag, eag⟩ := hg.ag n9
      obtain ⟨o, hL⟩ := LWD_ex (key := 0) (by omega) h.2.2.2.2.1
      obtain ⟨⟨c9, hc9⟩, ec9⟩ := jmany_le ⟨kk, hkk⟩
      have ec : jbc (ji S (x + 16) 1) = nI c9 := by rw [hX.l.2.2.1, ekk, jbm hkk]; exact ec9
      rw [ec]
      refine c_X3_daysTaken (M := M) hX.2.2 h.2.2.2.2.1 hL k2 (by omega) ((hX.ms n9 (by omega)).trans ekd) ((hX.ms n9 (by omega)).trans etg) ((hX.ms n9 (by omega)).trans eag) hkd hag (fun S1 p1 => ?_)
      have hP1 := p1.pi h.1
      have hM1 := hP1.2.1
      have j4 := hM1.at (i := 4) 4 rfl (by omega)
      refine U_X11_told hM1.k ⟨hM1.k, ism hM1 ⟨fun c => absurd c (by decide), fun _ => ⟨fun c => absurd c (by decide), fun _ => ⟨fun _ => ⟨fun _ => ⟨hM1.k, _, hM1.r, hM1.k1, j4.1, ?_⟩, fun c => absurd rfl c⟩, fun c => absurd (by decide) c⟩⟩⟩⟩
      rw [j4.2, ekk, show jmany (nI kk) = nI c9 from ec9]
      exact c_X11_takes (o := o) hM1 (hL.keep p1.fq) n9 ekd etg eag hkd hag (by omega) (fun S2 c2 _ => ⟨rfl, h.still p1 c2⟩)
    · subst c
      rw [hX.l.2.2.1, hX.ms n9 (by omega), hX.ms n9 (by omega)]
      refine ⟨fun c => ?_, fun c => ?_⟩
      · refine U_X11_told hM.k ⟨hM.k, ism hM ⟨fun c => absurd c (by decide), fun _ => ⟨fun c => absurd c (by decide), fun _ => ⟨fun _ => ⟨fun c => absurd c (by decide), fun _ => ⟨fun c => absurd c (by decide), fun _ => ⟨hM.k, _, hM.r, hM.k1, i4.1, ?_⟩⟩⟩, fun c => absurd (by decide) c⟩⟩⟩⟩
        rw [i4.2, ekk]
        rw [ekk] at c
        exact c_X11_teaches hM hg n9 hkk ⟨fun _ => ⟨rfl, h.inv⟩, fun c2 => absurd c c2⟩
      · refine U_X11_told hM.k ⟨hM.k, ism hM ⟨fun c => absurd c (by decide), fun _ => ⟨fun c => absurd c (by decide), fun _ => ⟨fun _ => ⟨fun c => absurd c (by decide), fun _ => ⟨fun c => absurd c (by decide), fun _ => ⟨hM.k, _, hM.r, hM.k1, i4.1, ?_⟩⟩⟩, fun c => absurd (by decide) c⟩⟩⟩⟩
        rw [i4.2, ekk]
        rw [ekk] at c
        exact c_X11_teaches hM hg n9 hkk ⟨fun c2 => absurd c2 c, fun _ => ⟨rfl, h.inv⟩⟩
    · subst c
      rw [hX.ms n9 (by omega), hX.ms n9 (by omega)]
      exact U_X11_told hM.k ⟨hM.k, ism hM ⟨fun c => absurd c (by decide), fun _ => ⟨fun c => absurd c (by decide), fun _ => ⟨fun _ => ⟨fun c => absurd c (by decide), fun _ => ⟨fun _ => ⟨hM.k, c_X11_worth hM n9 ⟨rfl, h.inv⟩⟩, fun c => absurd rfl c⟩⟩, fun c => absurd (by decide) c⟩⟩⟩⟩
    · have hu : jwi u 10 = 0 := by
        rcases jwi_cases u (b := 10) 10 rfl (by omega) with ⟨j, hj, e, -⟩ | ⟨-, e⟩
        · rcases (show j = 0 ∨ j = 1 ∨ j = 2 ∨ j = 3 ∨ j = 4 ∨ j = 5 ∨ j = 6 ∨ j = 7 ∨ j = 8 ∨ j = 9 by omega) with rfl | rfl | rfl | rfl | rfl | rfl | rfl | rfl | rfl | rfl
          · exact absurd e c0
          · exact absurd e c1
          · exact absurd e c2
          · exact absurd e c3
          · exact absurd e c4
          · exact absurd e c5
          · exact absurd e c6
          · exact absurd e c7
          · exact absurd e c8
          · exact absurd e c9
        · exact e
      exact U_X11_told hM.k ⟨hM.k, ism hM ⟨fun c => absurd c (by decide), fun _ => ⟨fun _ => ⟨rfl, h.inv⟩, fun c => absurd (eu.trans hu) c⟩⟩⟩
  · exact U_X11_told hM.k ⟨hM.k, c_X11_isMaster hM hX.v0 hz (fun j hj e => absurd e (hno j hj)) (fun _ => ⟨fun _ => ⟨rfl, h.inv⟩, fun c => absurd rfl c⟩)⟩
end jTold
end
section
/-! FAME, FINE, WHY, TEXTTOLD, MADE, LEARN on both sides -/
section jLearn
variable {E : jEnv} {d : Nat} {S S' : jM} {x r m sz M : Nat} {v : Nat → Int32}
theorem c_X3_fameOf {Q : Int32 → jM → Prop} {o : lwt} {a : Nat} {fe ag : Int32} (hR : RmR S r sz v) (hT : TXS S x (r + 19) M v) (hL : LWD S x (r + 19) v 1 o) (ha : jk S a = 2) (e4 : ji S a 4 = fe) (e5 : ji S a 5 = ag) (h : ∀ S', jpi S S' x → Q (lwv o fe fe ag 0) S') : jFi E mX3_fameOf (d + 2) 0 0 [.ref r, .ref a] S Q := by
  refine T_X3_fameOf ⟨hR.1.1, c_X3_law (key := 1) hR hT hL (fun e => ?_) (fun t m n ops cw e => ?_) (fun w hw => ⟨hR.1.1, hw⟩)⟩
  · subst e
    refine ⟨fun _ => ⟨ha, ?_⟩, fun b c => absurd c (by simp)⟩
    rw [e4]; exact h S jpi.rfl
  · subst e
    refine ⟨fun c => absurd c (by simp), fun b c => ?_⟩
    obtain rfl : x + 115 + 3 * m + 1 = b := Option.some.inj c
    obtain ⟨cnt, c14, e1, e, ht, a1, a3, a4, a5⟩ := hL
    refine ⟨ha, a3.1, ?_⟩
    rw [e4, e5]
    exact c_X9_workOut a3 a5 (fun S1 c1 => h S1 (jpi.pile c1))
theorem c_X3_fineNow {Q : Int32 → jM → Prop} {o : lwt} (hR : RmR S r sz v) (hT : TXS S x (r + 19) M v) (hL : LWD S x (r + 19) v 2 o) (h : ∀ S', jpi S S' x → Q (lwv o (v 5) (v 5) (v 2) 0) S') : jFi E mX3_fineNow (d + 2) 0 0 [.ref r] S Q := by
  obtain ⟨l1, l2, l3, l4, l5, l6, -⟩ := id hR.2.2.2.2.2.1
  have r2 := hR.1.2.2.2.1
  refine T_X3_fineNow ⟨hR.1.1, c_X3_law (key := 2) hR hT hL (fun e => ?_) (fun t m n ops cw e => ?_) (fun w hw => ⟨hR.1.1, hw⟩)⟩
  · subst e
    refine ⟨fun _ => ⟨hR.1.1, _, r2, l1.1, ?_⟩, fun b c => absurd c (by simp)⟩
    rw [l4]; exact h S jpi.rfl
  · subst e
    refine ⟨fun c => absurd c (by simp), fun b c => ?_⟩
    obtain rfl : x + 115 + 3 * m + 1 = b := Option.some.inj c
    obtain ⟨cnt, c14, e1, e, ht, a1, a3, a4, a5⟩ := hL
    refine ⟨hR.1.1, _, r2, l1.1, a3.1, ?_⟩
    rw [l4, l6]
    exact c_X9_workOut a3 a5 (fun S1 c1 => h S1 (jpi.pile c1))
theorem Q_fame {w : Int32} (h : IV S x sz M v) : jFi E mX10_fame (d + 3) 0 0 [.ref x, .int w] S (fun r S1 => jFm E mX11_fame (d + 3) (x + 94) [.int w] S1 (fun r' S2 => r = r' ∧ INV S2 x M)) := by
  obtain ⟨hX, hM, hg⟩ := id h.1
  have hz := hX.sz9
  refine T_X10_fame ⟨hX.1, x + 1, hX.2.1, hX.k3, x + 2, hX.r0, hX.g.1.1, c_X0_find hX.g.1 hX.g.2.1 hz (fun i hn e => ⟨fun c => absurd c (by simp), fun b eb => ?_⟩) (fun hno => ⟨fun _ => ?_, fun b e => absurd e (by simp)⟩)⟩
  · obtain rfl : x + 2 + 2 + i = b := Option.some.inj eb
    subst e
    have n9 : i < 9 := by omega
    obtain ⟨o, hL⟩ := LWD_ex (key := 1) (by omega) h.2.2.2.2.1
    refine ⟨hX.1, x + 1, hX.2.1, hX.k3, c_X3_fameOf (M := M) (o := o) hX.2.2 h.2.2.2.2.1 hL (hX.mk n9) (hX.ms n9 (by omega)) (hX.ms n9 (by omega)) (fun S1 p1 => ?_)⟩
    have hP1 := p1.pi h.1
    have hM1 := hP1.2.1
    have hL1 := hL.keep p1.fq
    have r30 := hM1.1.row 15 128 (f := 30) rfl
    rw [show x + 94 + 1 + 15 = x + 94 + 16 by omega] at r30
    refine U_X11_fame hM1.k ⟨hM1.k, c_X11_isMaster hM1 hX.v0 hz (fun _ _ _ => ⟨fun c => absurd c (by decide), fun _ => ⟨hM1.k, ?_⟩⟩) (fun hh => absurd rfl (hh i hn))⟩
    cases o with
    | none =>
      obtain ⟨cnt, c14, e1, e⟩ := hL1
      refine c_X11_counts (w := 1) hM1 c14 e1 ?_
      have e' : jlst v 1 cnt 0 (-1) = -1 := e
      rw [e']
      exact ⟨fun c => absurd c j0m1, fun _ => ⟨hM1.k, c_X11_of (f := 4) hM1 n9 (by omega) ⟨rfl, sz, v, h.next p1.fq hP1 (fun _ _ _ => rfl)⟩⟩⟩
    | some q =>
      obtain ⟨t, m', n, ops, cw⟩ := q
      obtain ⟨cnt, c14, e1, e, ht, a1, a3, a4, a5⟩ := hL1
      refine c_X11_counts (w := 1) hM1 c14 e1 ?_
      have e' : jlst v 1 cnt 0 (-1) = nI t := e
      rw [e']
      refine ⟨fun _ => ⟨hM1.k, _, r30.1, c_X11_of (f := 4) hM1 n9 (by omega) ⟨r30.2.1, by rw [r30.2.2]; exact jin_nI (n := 102) (by omega) (by omega), hM1.k, _, r30.1, ?_⟩⟩, fun c => absurd (nI_pos' (by omega)) c⟩
      have n102 : Int32.toNatClampNeg 102 = 102 := rfl
      have n97 : Int32.toNatClampNeg 97 = 97 := rfl
      rw [n102]
      have c2 : jch S1 (jput S1 (x + 94 + 16) 102 (mfv v i 4)) (x + 94 + 16) (x + 94 + 18) := jch.put (by omega) (by omega)
      have h2 := hM1.keep c2 (by omega)
      refine c_X11_of (f := 5) h2 n9 (by omega) ⟨r30.2.1, by show vp_in 97 (jl S1 (x + 94 + 16)); rw [r30.2.2]; exact jin_nI (n := 97) (by omega) (by omega), h2.k, ?_⟩
      rw [n97]
      have c3 := c2.trans (jch.put (S := jput S1 (x + 94 + 16) 102 (mfv v i 4)) (a := x + 94 + 16) (j := 97) (v := mfv v i 5) (by omega) (by omega))
      refine c_X11_worked (vals := jv3 (mfv v i 4) (mfv v i 5) 0) (hM1.keep c3 (by omega)) (by omega) (by omega) a4 a5 (fun k hk9 => ?_) (fun S4 c4 => ⟨rfl, h.still p1 (c3.trans (c4.wide (by omega) (by omega)))⟩)
      have hk9 : k < 2 := hk9
      rcases (show k = 0 ∨ k = 1 by omega) with rfl | rfl
      · show ji _ (x + 94 + 16) 102 = mfv v i 4
        rw [ji_put, if_neg (by omega), ji_put_same]
      · show ji _ (x + 94 + 16) 97 = mfv v i 5
        rw [ji_put_same]
  · exact U_X11_fame hM.k ⟨hM.k, c_X11_isMaster hM hX.v0 hz (fun j hj e => absurd e (hno j hj)) (fun _ => ⟨fun _ => ⟨rfl, h.inv⟩, fun c => absurd rfl c⟩)⟩
theorem Q_fine (h : IV S x sz M v) : jFi E mX10_fine (d + 3) 0 0 [.ref x] S (fun r S1 => jFm E mX11_fine (d + 3) (x + 94) [] S1 (fun r' S2 => r = r' ∧ INV S2 x M)) := by
  obtain ⟨hX, hM, hg⟩ := id h.1
  obtain ⟨o, hL⟩ := LWD_ex (key := 2) (by omega) h.2.2.2.2.1
  refine T_X10_fine ⟨hX.1, x + 1, hX.2.1, hX.k3, c_X3_fineNow (M := M) (o := o) hX.2.2 h.2.2.2.2.1 hL (fun S1 p1 => ?_)⟩
  have hP1 := p1.pi h.1
  have hM1 := hP1.2.1
  have hL1 := hL.keep p1.fq
  have r30 := hM1.1.row 15 128 (f := 30) rfl
  rw [show x + 94 + 1 + 15 = x + 94 + 16 by omega] at r30
  have i5 := hM1.at (i := 5) 5 rfl (by omega)
  have i2 := hM1.at (i := 2) 2 rfl (by omega)
  cases o with
  | none =>
    obtain ⟨cnt, c14, e1, e⟩ := hL1
    refine U_X11_fine hM1.k ⟨hM1.k, c_X11_counts (w := 2) hM1 c14 e1 ?_⟩
    have e' : jlst v 2 cnt 0 (-1) = -1 := e
    rw [e']
    refine ⟨fun c => absurd c j0m1, fun _ => ⟨hM1.k, _, hM1.r, hM1.k1, i5.1, ?_⟩⟩
    rw [i5.2]
    exact ⟨rfl, sz, v, h.next p1.fq hP1 (fun _ _ _ => rfl)⟩
  | some q =>
    obtain ⟨t, m', n, ops, cw⟩ := q
    obtain ⟨cnt, c14, e1, e, ht, a1, a3, a4, a5⟩ := hL1
    refine U_X11_fine hM1.k ⟨hM1.k, c_X11_counts (w := 2) hM1 c14 e1 ?_⟩
    have e' : jlst v 2 cnt 0 (-1) = nI t := e
    rw [e']
    have n99 : Int32.toNatClampNeg 99 = 99 := rfl
    have n100 : Int32.toNatClampNeg 100 = 100 := rfl
    refine ⟨fun _ => ⟨hM1.k, _, r30.1, _, hM1.r, hM1.k1, i5.1, r30.2.1, by rw [r30.2.2]; exact jin_nI (n := 99) (by omega) (by omega), i2.1, by rw [r30.2.2]; exact jin_nI (n := 100) (by omega) (by omega), ?_⟩, fun c => absurd (nI_pos' (by omega)) c⟩
    rw [n99, n100, ji_put_ne _ _ _ _ (by omega), i5.2, i2.2]
    have c2 : jch S1 (jput S1 (x + 94 + 16) 99 (v 5)) (x + 94 + 16) (x + 94 + 18) := jch.put (by omega) (by omega)
    have c3 := c2.trans (jch.put (S := jput S1 (x + 94 + 16) 99 (v 5)) (a := x + 94 + 16) (j := 100) (v := v 2) (by omega) (by omega))
    refine c_X11_worked (vals := jv3 (v 5) (v 2) 0) (hM1.keep c3 (by omega)) (by omega) (by omega) a4 a5 (fun k hk9 => ?_) (fun S4 c4 => ⟨rfl, h.still p1 (c3.trans (c4.wide (by omega) (by omega)))⟩)
    have hk9 : k < 2 := hk9
    rcases (show k = 0 ∨ k = 1 by omega) with rfl | rfl
    · show ji _ (x + 94 + 16) 99 = v 5
      rw [ji_put, if_neg (by omega), ji_put_same]
    · show ji _ (x + 94 + 16) 100 = v 2
      rw [ji_put_same]
theorem Q_why {w : Int32} (h : IV S x sz M v) : jFi E mX10_why (d + 2) 0 0 [.ref x, .int w] S (fun r S1 => jFm E mX11_why (d + 2) (x + 94) [.int w] S1 (fun r' S2 => r = r' ∧ INV S2 x M)) := by
  obtain ⟨hX, hM, hg⟩ := id h.1
  have ew : jisin (Int32.toInt64 w) 0 2 = jwi w 3 := jisin_wi w 3 2 rfl (jle_lt (by decide))
  obtain ⟨cnt, c14, e1, -⟩ := id h.2.2.2.2.1
  refine T_X10_why ⟨fun c => U_X11_why hM.k ⟨fun _ => ⟨rfl, h.inv⟩, fun c1 => absurd (ew.trans c) c1⟩, fun c => ⟨hX.1, x + 1, hX.2.1, hX.k3, c_X3_numberOfLaw (M := M) hX.2.2 h.2.2.2.2.1 c14 e1 ?_⟩⟩
  have ref : ∀ r, r = jornone (jlst v w cnt 0 (-1)) → jFm E mX11_why (d + 2) (x + 94) [.int w] S (fun r' S2 => r = r' ∧ INV S2 x M) := fun r hr =>
    U_X11_why hM.k ⟨fun c1 => absurd (ew.symm.trans c1) c, fun _ => ⟨hM.k, c_X11_counts hM c14 e1 ⟨hr, h.inv⟩⟩⟩
  refine ⟨fun c0 => ref _ ?_, fun c0 => ref _ ?_⟩
  · unfold jornone; rw [if_pos c0]
  · unfold jornone; rw [if_neg c0]
theorem Q_textTold {w u : Int32} (h : IV S x sz M v) : jFi E mX10_textTold (d + 2) 0 0 [.ref x, .int w, .int u] S (fun r S1 => jFm E mX11_textTold (d + 2) (x + 94) [.int w, .int u] S1 (fun r' S2 => r = r' ∧ INV S2 x M)) := by
  obtain ⟨hX, hM, hg⟩ := id h.1
  have eu : jisin (Int32.toInt64 u) 0 1 = jwi u 2 := jisin_wi u 2 1 rfl (jle_lt (by decide))
  obtain ⟨cnt, c14, e1, hT, -⟩ := id h.2.2.2.2.1
  obtain ⟨⟨k1, -, -, -, -, k6, -, -, k9, k10⟩, -⟩ := id hX.2.2
  have n6 := hX.2.2.n6
  have i1 := hM.at (i := 1) 1 rfl (by omega)
  have isx : ∀ {Q : Int32 → jM → Prop}, Q (jwi w (nI cnt)) S → jFi E mX11_isText (d + 1) 0 0 [.ref (x + 94), .int w] S Q := by
    intro Q hq
    refine T_X11_isText ⟨hM.k, _, hM.r, hM.k1, i1.1, jisin01 _ _ _, ?_⟩
    rw [i1.2, e1]
    have e9 : jisin (Int32.toInt64 w) 0 (Int32.toInt64 (nI cnt - 1)) = jwi w (nI cnt) := by
      refine jisin_wi w (nI cnt) (nI cnt - 1) rfl (jle_lt ?_)
      cases cnt with
      | zero => decide
      | succ y => rw [nI_pred, nI_toInt (by omega), nI_toInt (by omega)]; omega
    rw [e9]; exact hq
  refine T_X10_textTold ⟨hX.1, x + 1, hX.2.1, hX.k3, T_X3_findText ⟨k1, fun c => ?_, fun c => ?_⟩⟩
  · rw [n6, e1] at c
    refine ⟨fun _ => U_X11_textTold hM.k ⟨hM.k, isx ?_⟩, fun b e => absurd e (by simp)⟩
    rw [c]; exact ⟨fun _ => ⟨rfl, h.inv⟩, fun c => absurd rfl c⟩
  · rw [n6, e1] at c
    rcases jwi_cases w (b := nI cnt) cnt rfl (by omega) with ⟨t, ht, e, e9⟩ | ⟨-, e⟩
    · subst e
      obtain ⟨m', key, n, ops, cw, hm, a1, a2, a3, a4, a5⟩ := hT t ht
      refine ⟨fun c => absurd c (nI_ge (b := 14) (by omega) (by omega)), fun _ => ⟨x + 20, k6, k9, by rw [k10]; exact jin_nI (by omega) (by omega), fun c2 => ?_, fun b c2 => ?_⟩⟩
      · rw [jcl (by omega), a1] at c2; exact absurd c2 (by simp)
      · rw [jcl (by omega), a1] at c2
        obtain rfl : x + 115 + 3 * m' + 1 = b := Option.some.inj c2
        refine ⟨fun c => absurd c (by simp), fun b eb => ?_⟩
        obtain rfl : x + 115 + 3 * m' + 1 = b := Option.some.inj eb
        refine ⟨fun cu => U_X11_textTold hM.k ⟨hM.k, isx ?_⟩, fun cu => ?_⟩
        · rw [e9]; exact ⟨fun c => absurd c (by decide), fun _ => ⟨fun _ => ⟨rfl, h.inv⟩, fun c => absurd (eu.trans cu) c⟩⟩
        · have ref : ∀ (f : Nat) (r : Int32), f < 2 → u = nI f → r = v (135 + 200 * t + f) → jFm E mX11_textTold (d + 2) (x + 94) [.int (nI t), .int u] S (fun r' S2 => r = r' ∧ INV S2 x M) := by
            intro f r hf ef hr
            have ia := hM.at (i := jtextat (nI t) + u) (135 + 200 * t + f) (by rw [ef]; exact nI_txt t f) (by omega)
            refine U_X11_textTold hM.k ⟨hM.k, isx ?_⟩
            rw [e9]
            refine ⟨fun c => absurd c (by decide), fun _ => ⟨fun c => absurd (eu.symm.trans c) cu, fun _ => ⟨hM.k, _, hM.r, hM.k1, ia.1, ?_⟩⟩⟩
            rw [ia.2]; exact ⟨hr, h.inv⟩
          refine ⟨fun c0 => ⟨a3.1, ref 0 _ (by omega) c0 ?_⟩, fun c0 => ⟨a3.1, ref 1 _ (by omega) ?_ ?_⟩⟩
          · rw [a3.2.2.2.2.2.2.2.1]; exact a4.1.symm
          · rcases jwi_cases u (b := 2) 2 rfl (by omega) with ⟨j, hj, e, -⟩ | ⟨-, e⟩
            · rcases (show j = 0 ∨ j = 1 by omega) with rfl | rfl
              · exact absurd e c0
              · exact e
            · exact absurd e cu
          · rw [a3.2.2.2.2.2.2.2.2.1, show 135 + 200 * t + 1 = 136 + 200 * t by omega]; exact a4.2.1.symm
    · exact absurd e c
/-! made -/
def vus (g : Int32) (v : Nat → Int32) : Nat → Int32 := if jable (v 4) g = 0 then v else vday 1 (upd v (26 + g.toNatClampNeg) 0)
theorem vus_o {g : Int32} {j : Nat} (h : j ≠ 2) (h4 : j ≠ 4) (hj : j < 26 ∨ 36 ≤ j) (hg : ∃ k, k < 10 ∧ g = nI k) : vus g v j = v j := by
  obtain ⟨k, hk, rfl⟩ := hg
  unfold vus
  split
  · rfl
  · rw [(vday_at _ _).2.2.2 j h h4 hj, jcl (by omega), upd_ne _ (by omega)]
theorem C_prac {Q : Int32 → jM → Prop} {g : Nat} (hX : XR S x sz v) (hg : Rg sz v) (hg10 : g < 10) (h : ∀ r S', jch S S' (x + 16) (x + 19) → XR S' x sz (vus (nI g) v) → Rg sz (vus (nI g) v) → Q r S') : jFi E mX1_practise (d + 3) 0 0 [.ref (x + 16), .int (nI g)] S Q := by
  refine c_X1_practise hX.l (fun h0 => ?_) (fun g' hg' e h0 S1 c1 l1 => ?_)
  · have e : vus (nI g) v = v := by unfold vus; rw [if_pos h0]
    exact h 0 S jch.rfl (by rw [e]; exact hX) (by rw [e]; exact hg)
  · obtain rfl : g' = g := nI_inj (by omega) (by omega) e.symm
    obtain ⟨h1, g1⟩ := PI.day (u := upd v (26 + g') 0) (n := 1) (b := 1) hX hg (fun j hj => upd_ne 0 (by omega)) rfl (by omega) c1 (by
      have e : (fun i => upd v (26 + g') 0 (26 + i)) = upd (fun i => v (26 + i)) g' 0 := by
        funext i
        unfold upd
        by_cases hi : i = g'
        · rw [if_pos hi, if_pos (by omega)]
        · rw [if_neg hi, if_neg (by omega)]
      rw [e]; exact l1)
    have e : vus (nI g') v = vday 1 (upd v (26 + g') 0) := by unfold vus; rw [if_neg h0, jcl (by omega)]
    exact h 1 S1 c1 (by rw [e]; exact h1) (by rw [e]; exact g1)
theorem c_X11_uses {Q : jM → Prop} {g : Nat} (hM : MR S m v) (hg : Rg sz v) (hg10 : g < 10) (h : ∀ S', jch S S' (m + 1) (m + 2) → MR S' m (vday 1 (upd v (26 + g) 0)) → Q S') : jFv E mX11_uses (d + 3) 0 0 [.ref m, .int (nI g)] S Q := by
  have ei : (26 : Int32) + nI g = nI (26 + g) := nI_add 26 g
  refine T_X11_uses ⟨hM.k, m + 1, hM.r, hM.k1, (hM.at _ ei (by omega)).1, ?_⟩
  exact c_X11_goesBy (sz := sz) (hM.puts _ ei (by omega)) (hg.put (fun c => absurd (by rw [show 26 + g = 16 + (10 + g) by omega]; exact rgb_from _ (by omega)) c)) (fun S2 c2 h2 => h S2 ((jch.put (by omega) (by omega)).trans c2) h2)
def vmk : Nat → Nat → (Nat → Int32) → Nat → Int32
  | 0, _, v => v
  | n + 1, i, v => vmk n (i + 1) (vus (v (9 + i)) v)
theorem Q_made (h : IV S x sz M v) : jFi E mX10_made (d + 6) 0 0 [.ref x] S (fun r S1 => jFm E mX11_made (d + 5) (x + 94) [] S1 (fun r' S2 => r = r' ∧ INV S2 x M)) := by
  obtain ⟨hX, hM, hg⟩ := id h.1
  obtain ⟨w, hw, e7⟩ := hg.wi
  have kC : ∀ (Q : jM → Prop) (n i : Nat) (S1 : jM) (u : Nat → Int32), i + n = w → u 7 = nI w → jch S S1 (x + 16) (x + 19) → XR S1 x sz u → Rg sz u → (∀ S', jch S S' (x + 16) (x + 19) → XR S' x sz (vmk n i u) → Rg sz (vmk n i u) → Q S') → L_X3_makeChair_2 E (d + 4) Q (x + 1) (nI i) S1 := by
    intro Q n
    induction n with
    | zero =>
      intro i S1 u hi u7 c1 h1 g1 hq
      obtain rfl : i = w := by omega
      exact T_X3_makeChair_2 ⟨h1.k3, fun _ => hq S1 c1 h1 g1, fun c => absurd (by rw [h1.2.2.n4, u7]; exact Int32.le_rfl) c⟩
    | succ n ih =>
      intro i S1 u hi u7 c1 h1 g1 hq
      obtain ⟨g, hg10, eg⟩ := g1.wd i (by omega)
      obtain ⟨⟨q1, q2, q3, q4, q5, q6, q7, q8, q9, q10⟩, b1, b2, b3, b4, b5, b6, b7, b8⟩ := id h1.2.2
      refine T_X3_makeChair_2 ⟨h1.k3, fun c => absurd c (by rw [h1.2.2.n4, u7]; exact nI_ge (by omega) (by omega)), fun _ => ⟨fun c => absurd c (nI_ge (b := 6) (by omega) (by omega)), fun _ => ⟨x + 16, q4, x + 19, q5, q7, by rw [q8]; exact jin_nI (by omega) (by omega), b5.1.1, ?_⟩⟩⟩
      rw [jcl (by omega), b7 i (by omega), eg, nI_1]
      refine C_prac h1 g1 hg10 (fun r S2 c2 h2 g2 => ih (i + 1) S2 _ (by omega) ?_ (c1.trans c2) h2 g2 (fun S' c' h' g' => hq S' c' ?_ ?_))
      · rw [vus_o (by omega) (by omega) (by omega) ⟨g, hg10, rfl⟩]; exact u7
      · show XR S' x sz (vmk n (i + 1) (vus (u (9 + i)) u)); rw [eg]; exact h'
      · show Rg sz (vmk n (i + 1) (vus (u (9 + i)) u)); rw [eg]; exact g'
  have kM : ∀ (Q : Int32 → jM → Prop) (S0 : jM) (n i : Nat) (S1 : jM) (u : Nat → Int32), i + n = w → u 7 = nI w → jch S0 S1 (x + 95) (x + 96) → MR S1 (x + 94) u → Rg sz u → (∀ S', jch S0 S' (x + 95) (x + 96) → MR S' (x + 94) (vmk n i u) → Q (vmk n i u 2) S') → L_X11_made_12 E (d + 4) Q (x + 94) (nI i) S1 := by
    intro Q S0 n
    induction n with
    | zero =>
      intro i S1 u hi u7 c1 h1 g1 hq
      obtain rfl : i = w := by omega
      have i7 := h1.at (i := 7) 7 rfl (by omega)
      have i2 := h1.at (i := 2) 2 rfl (by omega)
      refine T_X11_made_12 ⟨h1.k, _, h1.r, h1.k1, i7.1, fun _ => ⟨i2.1, ?_⟩, fun c => absurd (by rw [i7.2, u7]; exact Int32.le_rfl) c⟩
      rw [i2.2]; exact hq S1 c1 h1
    | succ n ih =>
      intro i S1 u hi u7 c1 h1 g1 hq
      obtain ⟨g, hg10, eg⟩ := g1.wd i (by omega)
      have i7 := h1.at (i := 7) 7 rfl (by omega)
      have i9 := h1.at (i := 9 + nI i) (9 + i) (nI_add 9 i) (by omega)
      have rg : Rg sz (vus (nI g) u) := by
        unfold vus
        by_cases ha : jable (u 4) (nI g) = 0
        · rw [if_pos ha]; exact g1
        · rw [if_neg ha, jcl (by omega)]
          have g2 : Rg sz (upd u (26 + g) 0) := g1.put (fun c => absurd (by rw [show 26 + g = 16 + (10 + g) by omega]; exact rgb_from _ (by omega)) c)
          intro j hj hr
          obtain ⟨a1, a2, a3, a4⟩ := vday_at 1 (upd u (26 + g) 0)
          by_cases j2 : j = 2
          · subst j2
            obtain ⟨a, ha9, e2⟩ := g2 2 (by omega) (by decide)
            rw [a1, e2]; exact (jday (a := a) (b := 1) ha9 (by omega)).2
          · by_cases j4 : j = 4
            · subst j4; rw [a2]; exact pfold_kn 10 0 _ g2.kn
            · by_cases jr : j < 26 ∨ 36 ≤ j
              · rw [a4 j j2 j4 jr]; exact g2 j hj hr
              · exfalso
                have := rgb_from (j - 16) (by omega)
                rw [show 16 + (j - 16) = j by omega] at this
                exact hr this
      have e7' : vus (nI g) u 7 = nI w := by rw [vus_o (by omega) (by omega) (by omega) ⟨g, hg10, rfl⟩]; exact u7
      have hq' : ∀ S', jch S0 S' (x + 95) (x + 96) → MR S' (x + 94) (vmk n (i + 1) (vus (nI g) u)) → Q (vmk n (i + 1) (vus (nI g) u) 2) S' := fun S' c' h' => by
        have := hq S' c'
        rw [show vmk (n + 1) i u = vmk n (i + 1) (vus (u (9 + i)) u) from rfl, eg] at this
        exact this h'
      refine T_X11_made_12 ⟨h1.k, _, h1.r, h1.k1, i7.1, fun c => absurd c (by rw [i7.2, u7]; exact nI_ge (by omega) (by omega)), fun _ => ⟨i9.1, ?_⟩⟩
      rw [i9.2, eg, nI_1]
      refine c_X11_doesKnow h1 g1.kn hg10 ⟨fun ha => ?_, fun ha => ⟨h1.k, _, h1.r, h1.k1, i9.1, ?_⟩⟩
      · have e : vus (nI g) u = u := by unfold vus; rw [if_pos ha]
        rw [e] at hq' rg e7'
        exact ih (i + 1) S1 u (by omega) u7 c1 h1 g1 hq'
      · rw [i9.2, eg]
        have e : vus (nI g) u = vday 1 (upd u (26 + g) 0) := by unfold vus; rw [if_neg ha, jcl (by omega)]
        rw [e] at hq' rg e7'
        exact c_X11_uses h1 g1 hg10 (fun S2 c2 h2 => ih (i + 1) S2 _ (by omega) e7' (c1.trans c2) h2 rg hq')
  have vo : ∀ (n i : Nat) (u : Nat → Int32), i + n ≤ 6 → Rg sz u → ∀ j, j ≠ 2 → j ≠ 4 → (j < 26 ∨ 36 ≤ j) → (∀ k, k < 6 → ∃ g, g < 10 ∧ u (9 + k) = nI g) → vmk n i u j = u j := by
    intro n
    induction n with
    | zero => intro i u _ _ j _ _ _ _; rfl
    | succ n ih =>
      intro i u hi hu j j2 j4 jr hk
      obtain ⟨g, hg10, eg⟩ := hk i (by omega)
      have e1 : ∀ j, j ≠ 2 → j ≠ 4 → (j < 26 ∨ 36 ≤ j) → vus (u (9 + i)) u j = u j := fun j a b c => vus_o a b c ⟨g, hg10, eg⟩
      show vmk n (i + 1) (vus (u (9 + i)) u) j = u j
      have ih2 : ∀ (n i : Nat) (u : Nat → Int32), i + n ≤ 6 → (∀ k, k < 6 → ∃ g, g < 10 ∧ u (9 + k) = nI g) → ∀ j, j ≠ 2 → j ≠ 4 → (j < 26 ∨ 36 ≤ j) → vmk n i u j = u j := by
        intro n
        induction n with
        | zero => intro i u _ _ j _ _ _; rfl
        | succ n ih =>
          intro i u hi hk j j2 j4 jr
          obtain ⟨g, hg10, eg⟩ := hk i (by omega)
          show vmk n (i + 1) (vus (u (9 + i)) u) j = u j
          rw [ih (i + 1) _ (by omega) (fun k hk6 => by rw [vus_o (by omega) (by omega) (by omega) ⟨g, hg10, eg⟩]; exact hk k hk6) j j2 j4 jr]
          exact vus_o j2 j4 jr ⟨g, hg10, eg⟩
      rw [ih2 n (i + 1) _ (by omega) (fun k hk6 => by rw [e1 _ (by omega) (by omega) (by omega)]; exact hk k hk6) j j2 j4 jr]
      exact e1 j j2 j4 jr
  refine T_X10_made ⟨hX.1, x + 1, hX.2.1, hX.k3, c_X3_can hX.2.2 hg hw e7 ⟨fun c => ?_, fun c => ⟨hX.1, x + 1, hX.2.1, hX.k3, T_X3_makeChair (kC _ w 0 S v (by omega) e7 jch.rfl hX hg (fun S1 c1 h1 g1 => ?_))⟩⟩⟩
  · exact U_X11_made hM.k ⟨hM.k, c_X11_can hM hg hw e7 ⟨fun _ => ⟨rfl, h.inv⟩, fun c2 => absurd c c2⟩⟩
  · refine ⟨h1.1, x + 1, h1.2.1, h1.k3, x + 16, h1.r2, h1.l.1.1, ?_⟩
    rw [h1.l.2.2.2.2.2.1]
    have hM1 := hM.keep c1 (by omega)
    refine U_X11_made hM1.k ⟨hM1.k, c_X11_can hM1 hg hw e7 ⟨fun c2 => absurd c2 c, fun _ => kM _ S1 w 0 S1 v (by omega) e7 jch.rfl hM1 hg (fun S2 c2 h2 => ⟨rfl, sz, _, h.next ((jfq.of (jfr.realm c1 (by omega) (by omega))).trans (jfq.of (jfr.row c2))) ⟨h1.of c2.1 (h1.2.2.keep c2 (by omega)), h2, g1⟩ (fun j hj _ => vo w 0 v (by omega) hg j (by omega) (by omega) (by omega) (fun k hk => hg.wd k hk))⟩)⟩⟩
end jLearn
end
section
/-! LEARN on both sides -/
section jLearn2
variable {E : jEnv} {d : Nat} {S S' : jM} {x r m sz M : Nat} {v : Nat → Int32}
theorem Rg.day {n : Int32} {b : Nat} (hg : Rg sz v) (hn : n = nI b) (hb : b < 1000000) : Rg sz (vday n v) := by
  intro j hj hr
  obtain ⟨a1, a2, a3, a4⟩ := vday_at n v
  by_cases j2 : j = 2
  · subst j2
    obtain ⟨a, ha9, e2⟩ := hg 2 (by omega) (by decide)
    rw [a1, e2, hn]; exact (jday (a := a) (b := b) ha9 hb).2
  · by_cases j4 : j = 4
    · subst j4; rw [a2]; exact pfold_kn 10 0 _ hg.kn
    · by_cases jr : j < 26 ∨ 36 ≤ j
      · rw [a4 j j2 j4 jr]; exact hg j hj hr
      · exfalso
        have := rgb_from (j - 16) (by omega)
        rw [show 16 + (j - 16) = j by omega] at this
        exact hr this
theorem c_X11_canLearn {Q : Int32 → jM → Prop} {i : Nat} (hM : MR S m v) (hg : Rg sz v) (hi : i < 9) (h : Q (jcan (v 3) (v 4) (v 5) (mfv v i 0) (mfv v i 1) (mfv v i 2) (mfv v i 3) (mfv v i 4) (mfv v i 6)) S) : jFi E mX11_canLearn (d + 2) 0 0 [.ref m, .int (nI i)] S Q := by
  obtain ⟨kn, hkn, ekn⟩ := hg.kn
  obtain ⟨g, hg10, eg⟩ := hg.ge hi
  have i3 := hM.at (i := 3) 3 rfl (by omega)
  have i4 := hM.at (i := 4) 4 rfl (by omega)
  have i5 := hM.at (i := 5) 5 rfl (by omega)
  unfold jcan at h
  refine T_X11_canLearn ⟨hM.k, c_X11_of (f := 6) hM hi (by omega) ⟨fun c6 => ⟨hM.k, c_X11_of (f := 1) hM hi (by omega) ⟨hM.k, _, hM.r, hM.k1, i3.1, ?_, ?_⟩⟩, fun c6 => ?_⟩⟩
  · rw [i3.2]
    intro c1
    rw [if_pos c1, if_pos c6] at h
    refine ⟨i4.1, ?_⟩
    rw [i4.2, ekn]
    rw [ekn] at h
    refine c_X11_teaches hM hg hi hkn ⟨fun ct => ?_, fun ct => ⟨hM.k, c_X11_of (f := 2) hM hi (by omega) ⟨hM.k, ?_⟩⟩⟩
    · rw [if_pos ct] at h; exact h
    · rw [if_neg ct] at h
      rw [eg] at h ⊢
      refine c_X11_doesKnow hM hg.kn hg10 ⟨fun ca => ⟨hM.k, c_X11_of (f := 4) hM hi (by omega) ⟨hM.k, _, hM.r, hM.k1, i5.1, ?_⟩⟩, fun ca => ?_⟩
      · rw [ekn] at ca
        rw [if_pos ca] at h
        rw [i5.2]
        refine ⟨fun cf => ?_, fun cf => ?_⟩
        · rw [if_pos cf] at h; exact h
        · rw [if_neg cf] at h; exact h
      · rw [ekn] at ca
        rw [if_neg ca] at h; exact h
  · rw [i3.2]
    intro c1
    rw [if_neg c1] at h; exact h
  · by_cases c1 : mfv v i 1 = v 3
    · rw [if_pos c1, if_neg c6] at h; exact h
    · rw [if_neg c1] at h; exact h
/-- what one knows behind a lesson -/
def jbl (kd ba g kn : Int32) : Int32 := (kn &&& (junl kd ba ^^^ (-1))) ||| jshl 1 g
theorem c_X11_behindLesson {Q : Int32 → jM → Prop} {i : Nat} {kn : Int32} (hM : MR S m v) (hi : i < 9) (h : Q (jbl (mfv v i 0) (mfv v i 3) (mfv v i 2) kn) S) : jFi E mX11_behindLesson (d + 1) 0 0 [.ref m, .int (nI i), .int kn] S Q := by
  unfold jbl junl at h
  refine T_X11_behindLesson ⟨hM.k, c_X11_of (f := 0) hM hi (by omega) ⟨fun c => ⟨hM.k, c_X11_of (f := 3) hM hi (by omega) ⟨hM.k, c_X11_of (f := 2) hM hi (by omega) ?_⟩⟩, fun c => ⟨hM.k, c_X11_of (f := 2) hM hi (by omega) ?_⟩⟩⟩
  · rw [if_pos c] at h; exact h
  · rw [if_neg c, show (0 : Int32) ^^^ (-1) = -1 by decide, j_and_m1] at h; exact h
/-- the row behind a lesson of n days -/
def vle (v : Nat → Int32) (i g : Nat) (n : Int32) : Nat → Int32 := upd (upd (upd (vday n (upd v 5 (v 5 - mfv v i 4))) 4 (jbl (mfv v i 0) (mfv v i 3) (nI g) (vday n (upd v 5 (v 5 - mfv v i 4)) 4))) (16 + g) (nI i)) (26 + g) 0
theorem mfv_o {u : Nat → Int32} {i f : Nat} (h : ∀ j, 72 ≤ j → u j = v j) : mfv u i f = mfv v i f := h _ (by omega)
theorem vday_m (n : Int32) (u : Nat → Int32) (j : Nat) (h : 36 ≤ j) : vday n u j = u j := (vday_at n u).2.2.2 j (by omega) (by omega) (by omega)
/-- the reference learns -/
theorem c_X11_learns {Q : Int32 → jM → Prop} {o : lwt} {i g c9 kd ag : Nat} (hM : MR S m v) (hg : Rg sz v) (hL : LWD S x r v 0 o) (hi : i < 9) (e0 : mfv v i 0 = nI kd) (e2 : mfv v i 2 = nI g) (e5 : mfv v i 5 = nI ag) (hkd : kd < 6) (hag : ag < 100) (hg10 : g < 10) (h9 : c9 < 25) (ec9 : jmany (v 4) = nI c9) (hx : x + 94 = m) (hfe : ∃ k, k < 10000 ∧ v 5 - mfv v i 4 = nI k)
    (h : ∀ S', jfq S S' x → (∀ y, y ≠ m + 1 → y ≠ m + 16 → y ≠ m + 17 → ji S' y = ji S y) → MR S' m (vle v i g (nI (tkd o c9 kd g ag))) → Q (nI (tkd o c9 kd g ag)) S') : jFi E mX11_learns (d + 3) 0 0 [.ref m, .int (nI i)] S Q := by
  subst hx
  have i5 := hM.at (i := 5) 5 rfl (by omega)
  have n5 : Int32.toNatClampNeg 5 = 5 := rfl
  have n4 : Int32.toNatClampNeg 4 = 4 := rfl
  refine T_X11_learns ⟨hM.k, _, hM.r, hM.k1, i5.1, c_X11_of (f := 4) hM hi (by omega) ⟨hM.k1, i5.1, hM.k, _, hM.r, hM.k1, (hM.at (i := 4) 4 rfl (by omega)).1, ?_⟩⟩
  rw [i5.2]
  have h1 := hM.puts (i := 5) (w := v 5 - mfv v i 4) 5 rfl (by omega)
  rw [(h1.at (i := 4) 4 rfl (by omega)).2, upd_ne _ (by omega), ec9, n5]
  rw [n5] at h1
  have c1 : jch S (jput S (x + 94 + 1) 5 (v 5 - mfv v i 4)) (x + 95) (x + 96) := jch.put (by omega) (by omega)
  generalize jput S (x + 94 + 1) 5 (v 5 - mfv v i 4) = S1 at h1 c1 ⊢
  have hu : ∀ j, 72 ≤ j → upd v 5 (v 5 - mfv v i 4) j = v j := fun j hj => upd_ne _ (by omega)
  have hL1 : LWD S1 x r (upd v 5 (v 5 - mfv v i 4)) 0 o := (hL.keep (jfq.of (jfr.row c1))).row (fun j hj _ => upd_ne _ (by omega))
  refine c_X11_takes (o := o) h1 hL1 hi ((mfv_o hu).trans e0) ((mfv_o hu).trans e2) ((mfv_o hu).trans e5) hkd hag h9 (fun S2 c2 h2 => ⟨h2.k, ?_⟩)
  have hg1 : Rg sz (upd v 5 (v 5 - mfv v i 4)) := hg.put (fun _ => hfe)
  refine c_X11_goesBy h2 hg1 (fun S3 c3 h3 => ⟨h3.k, ?_⟩)
  have hu3 : ∀ j, 72 ≤ j → vday (nI (tkd o c9 kd g ag)) (upd v 5 (v 5 - mfv v i 4)) j = v j := fun j hj => (vday_m _ _ j (by omega)).trans (hu j hj)
  have i4 := h3.at (i := 4) 4 rfl (by omega)
  refine c_X11_of (f := 2) h3 hi (by omega) ⟨h3.k, _, h3.r, h3.k1, i4.1, ?_⟩
  rw [i4.2, mfv_o hu3, e2]
  refine c_X11_behindLesson h3 hi ⟨h3.k1, i4.1, h3.k, _, h3.r, h3.k1, ?_⟩
  rw [mfv_o hu3, mfv_o hu3, mfv_o hu3, e2]
  have e16 : (16 : Int32) + nI g = nI (16 + g) := nI_add 16 g
  have e26 : (26 : Int32) + nI g = nI (26 + g) := nI_add 26 g
  refine ⟨(h3.at _ e16 (by omega)).1, (h3.at _ e26 (by omega)).1, ?_⟩
  have h4 := ((h3.puts (i := 4) (w := jbl (mfv v i 0) (mfv v i 3) (nI g) (vday (nI (tkd o c9 kd g ag)) (upd v 5 (v 5 - mfv v i 4)) 4)) 4 rfl (by omega)).puts (w := nI i) (16 + g) e16 (by omega)).puts (w := 0) (26 + g) e26 (by omega)
  have cp : ∀ {S9 : jM} {j : Nat} {w : Int32}, jch S9 (jput S9 (x + 94 + 1) j w) (x + 95) (x + 96) := jch.put (by omega) (by omega)
  refine h _ (((((jfq.of (jfr.row c1)).trans c2.fq97).trans (jfq.of (jfr.row c3))).trans (jfq.of (jfr.row cp))).trans ((jfq.of (jfr.row cp)).trans (jfq.of (jfr.row cp)))) (fun y y1 y16 y17 => ?_) h4
  rw [ji_put_ne _ _ _ _ (by omega), ji_put_ne _ _ _ _ (by omega), ji_put_ne _ _ _ _ (by omega), c3.2 y (by omega), c2.2 y (by omega), c1.2 y (by omega)]
theorem jclub {g : Nat} {kd ba kn : Int32} (hg : g < 10) (hk : ∃ k, k < 1024 ∧ kn = nI k) : ∃ k, k < 1024 ∧ jbl kd ba (nI g) kn = nI k := by
  obtain ⟨k, hk, rfl⟩ := hk
  obtain ⟨k2, hk2, e2⟩ := nI_andle hk (junl kd ba ^^^ (-1))
  obtain ⟨⟨k3, hk3⟩, e3⟩ := jorF ⟨k2, hk2⟩ ⟨g, hg⟩
  refine ⟨k3, hk3, ?_⟩
  unfold jbl
  rw [e2]; exact e3
theorem vle_o {i g : Nat} {n : Int32} {j : Nat} (hg : g < 10) (h : j < 2 ∨ 36 ≤ j ∨ (7 ≤ j ∧ j < 16)) : vle v i g n j = v j := by
  unfold vle
  rw [upd_ne _ (by omega), upd_ne _ (by omega), upd_ne _ (by omega), (vday_at _ _).2.2.2 j (by omega) (by omega) (by omega), upd_ne _ (by omega)]
theorem Rg.le {i g : Nat} {n : Int32} {b : Nat} (hg : Rg sz v) (hi : i < 9) (hg10 : g < 10) (hn : n = nI b) (hb : b < 1000000) (hfe : ∃ k, k < 10000 ∧ v 5 - mfv v i 4 = nI k) : Rg sz (vle v i g n) := by
  have g1 : Rg sz (vday n (upd v 5 (v 5 - mfv v i 4))) := (hg.put (n := 5) (fun _ => hfe)).day hn hb
  unfold vle
  exact (((g1.put (n := 4) (fun _ => jclub hg10 g1.kn)).put (n := 16 + g) (fun c => absurd (rgb_from g (by omega)) c)).put (n := 26 + g) (fun c => absurd (by rw [show 26 + g = 16 + (10 + g) by omega]; exact rgb_from _ (by omega)) c))
/-- the class's learner behind a lesson -/
theorem XR.le {i g : Nat} {n : Int32} {b : Nat} (hX : XR S x sz v) (hg : Rg sz v) (hi : i < 9) (hg10 : g < 10) (hn : n = nI b) (hb : b < 1000000) (hc : jch S S' (x + 16) (x + 19))
    (hl : LdR S' (x + 16) (v 3) (((pdays n (v 6) (v 4, fun i => v (26 + i))).1 &&& (junl (mfv v i 0) (mfv v i 3) ^^^ (-1))) ||| jshl 1 (nI g)) (v 5 - mfv v i 4) (v 6) (jmin 9999 (v 2 + n)) (upd (fun i => v (16 + i)) g (nI i)) (upd (pdays n (v 6) (v 4, fun i => v (26 + i))).2 g 0)) : XR S' x sz (vle v i g n) := by
  obtain ⟨a1, a2, a3, a4⟩ := vday_at n (upd v 5 (v 5 - mfv v i 4))
  have eu : (fun i_1 => upd v 5 (v 5 - mfv v i 4) (26 + i_1)) = fun i => v (26 + i) := by funext j; exact upd_ne _ (by omega)
  rw [eu, upd_ne _ (by omega), upd_ne _ (by omega)] at a2 a3
  rw [upd_ne _ (by omega)] at a1
  obtain ⟨da, hda, e2⟩ := hg 2 (by omega) (by decide)
  have hd := (jday (a := da) (b := b) hda hb).1
  rw [← e2, ← hn] at hd
  refine hX.lear hc ?_ (fun j p1 p2 => vle_o hg10 (by omega))
  have v3 : vle v i g n 3 = v 3 := by
    unfold vle; rw [upd_ne _ (by omega), upd_ne _ (by omega), upd_ne _ (by omega), a4 3 (by omega) (by omega) (by omega), upd_ne _ (by omega)]
  have v4 : vle v i g n 4 = ((pdays n (v 6) (v 4, fun i => v (26 + i))).1 &&& (junl (mfv v i 0) (mfv v i 3) ^^^ (-1))) ||| jshl 1 (nI g) := by
    unfold vle; rw [upd_ne _ (by omega), upd_ne _ (by omega), upd_at, a2]; rfl
  have v5 : vle v i g n 5 = v 5 - mfv v i 4 := by
    unfold vle; rw [upd_ne _ (by omega), upd_ne _ (by omega), upd_ne _ (by omega), a4 5 (by omega) (by omega) (by omega), upd_at]
  have v6 : vle v i g n 6 = v 6 := by
    unfold vle; rw [upd_ne _ (by omega), upd_ne _ (by omega), upd_ne _ (by omega), a4 6 (by omega) (by omega) (by omega), upd_ne _ (by omega)]
  have v2 : vle v i g n 2 = jmin 9999 (v 2 + n) := by
    unfold vle; rw [upd_ne _ (by omega), upd_ne _ (by omega), upd_ne _ (by omega), a1, hd]
  rw [v3, v4, v5, v6, v2]
  refine hl.cong (fun j hj => ?_) (fun j hj => ?_)
  · by_cases hjg : j = g
    · subst hjg
      have e : vle v i j n (16 + j) = nI i := by unfold vle; rw [upd_ne _ (by omega), upd_at]
      rw [e]; unfold upd; rw [if_pos rfl]
    · have e : vle v i g n (16 + j) = v (16 + j) := by unfold vle; rw [upd_ne _ (by omega), upd_ne _ (by omega), upd_ne _ (by omega), a4 _ (by omega) (by omega) (by omega), upd_ne _ (by omega)]
      rw [e]; unfold upd; rw [if_neg hjg]
  · by_cases hjg : j = g
    · subst hjg
      have e : vle v i j n (26 + j) = 0 := by unfold vle; rw [upd_at]
      rw [e]; unfold upd; rw [if_pos rfl]
    · have e : vle v i g n (26 + j) = (pdays n (v 6) (v 4, fun i => v (26 + i))).2 j := by unfold vle; rw [upd_ne _ (by omega), upd_ne _ (by omega), upd_ne _ (by omega), a3 j hj]
      rw [e]; unfold upd; rw [if_neg hjg]
theorem jcan_fee {at_ kn co tk tt tg tb tf td : Int32} (h : ¬ jcan at_ kn co tk tt tg tb tf td = 0) : ¬ co < tf := by
  intro hc
  apply h
  unfold jcan
  repeat' split
  all_goals first | rfl | contradiction
theorem jfee {c f : Nat} (hc : c < 10000) (h : ¬ nI c < nI f) (hf : f < 100) : ∃ k, k < 10000 ∧ nI c - nI f = nI k := by
  have hle : f ≤ c := by
    rcases Nat.lt_or_ge c f with h9 | h9
    · exact absurd (nI_lt h9 (by omega)) h
    · exact h9
  refine ⟨c - f, by omega, ?_⟩
  have e : nI c = nI f + nI (c - f) := by rw [nI_add]; congr 1; omega
  rw [e, Int32.add_comm, Int32.add_sub_cancel]
theorem Q_learn {w : Int32} (h : IV S x sz M v) : jFi E mX10_learn (d + 5) 0 0 [.ref x, .int w] S (fun r S1 => jFm E mX11_learn (d + 4) (x + 94) [.int w] S1 (fun r' S2 => r = r' ∧ INV S2 x M)) := by
  obtain ⟨hX, hM, hg⟩ := id h.1
  have hz := hX.sz9
  refine T_X10_learn ⟨hX.1, x + 1, hX.2.1, hX.k3, x + 2, hX.r0, hX.g.1.1, c_X0_find hX.g.1 hX.g.2.1 hz (fun i hn e => ⟨fun c => absurd c (by simp), fun b eb => ?_⟩) (fun hno => ⟨fun _ => ?_, fun b e => absurd e (by simp)⟩)⟩
  · obtain rfl : x + 2 + 2 + i = b := Option.some.inj eb
    subst e
    have n9 : i < 9 := by omega
    have k2 := hX.mk n9
    have ism : ∀ {Q : Int32 → jM → Prop} {S1 : jM}, MR S1 (x + 94) v → Q 1 S1 → jFi E mX11_isMaster (d + 3) 0 0 [.ref (x + 94), .int (nI i)] S1 Q := fun hM1 hq => c_X11_isMaster hM1 hX.v0 hz (fun _ _ _ => hq) (fun hh => absurd rfl (hh i hn))
    refine ⟨hX.1, x + 1, hX.2.1, hX.k3, x + 16, hX.r2, hX.l.1.1, c_X1_canLearnOf hX.l k2 ?_⟩
    rw [hX.ms n9 (by omega), hX.ms n9 (by omega), hX.ms n9 (by omega), hX.ms n9 (by omega), hX.ms n9 (by omega), hX.ms n9 (by omega)]
    refine ⟨fun c => ?_, fun c => ?_⟩
    · exact U_X11_learn hM.k ⟨hM.k, ism hM ⟨fun c => absurd c (by decide), fun _ => ⟨hM.k, c_X11_canLearn hM hg n9 ⟨fun _ => ⟨rfl, h.inv⟩, fun c2 => absurd c c2⟩⟩⟩⟩
    · obtain ⟨kd, hkd, ekd⟩ := hg.kd n9
      obtain ⟨g, hg10, eg⟩ := hg.ge n9
      obtain ⟨ag, hag, eag⟩ := hg.ag n9
      obtain ⟨fe, hfe, efe⟩ := hg.fe n9
      obtain ⟨kk, hkk, ekk⟩ := hg.kn
      obtain ⟨co, hco, eco⟩ := hg 5 (by omega) (by decide)
      have hfee : ∃ k, k < 10000 ∧ v 5 - mfv v i 4 = nI k := by
        have hf := jcan_fee c
        rw [eco, efe] at hf ⊢
        exact jfee hco hf hfe
      obtain ⟨o, hL⟩ := LWD_ex (key := 0) (by omega) h.2.2.2.2.1
      obtain ⟨⟨c9, hc9⟩, ec9⟩ := jmany_le ⟨kk, hkk⟩
      have em : jmany (v 4) = nI c9 := by rw [ekk]; exact ec9
      have ec : jbc (ji S (x + 16) 1) = nI c9 := by rw [hX.l.2.2.1, ekk, jbm hkk]; exact ec9
      refine ⟨hX.1, x + 1, hX.2.1, hX.l.1.1, hX.k3, ?_⟩
      rw [ec]
      refine c_X3_daysTaken (M := M) hX.2.2 h.2.2.2.2.1 hL k2 (by omega) ((hX.ms n9 (by omega)).trans ekd) ((hX.ms n9 (by omega)).trans eg) ((hX.ms n9 (by omega)).trans eag) hkd hag (fun S1 p1 => ?_)
      have hP1 := p1.pi h.1
      have hX1 := hP1.1
      refine ⟨hX1.l.1.1, c_X1_learnOf hX1.l (hX1.mk n9) (by omega) hg10 ((hX1.ms n9 (by omega)).trans eg) (fun S2 c2 l2 => ?_)⟩
      rw [hX1.ms n9 (by omega), hX1.ms n9 (by omega), hX1.ms n9 (by omega)] at l2
      have tb := tdays_le (kd := kd) (ag := ag) (j := jcl99 (lwv o (3 + nI c9) (nI c9) (nI g) (nI ag))) hag (jcl99_is _).2.1
      have h2 : XR S2 x sz (vle v i g (nI (tkd o c9 kd g ag))) := hX1.le hg n9 hg10 (b := tkd o c9 kd g ag) rfl (Nat.lt_of_le_of_lt tb (by omega)) c2 l2
      have g2 : Rg sz (vle v i g (nI (tkd o c9 kd g ag))) := hg.le n9 hg10 (b := tkd o c9 kd g ag) rfl (Nat.lt_of_le_of_lt tb (by omega)) hfee
      refine ⟨h2.l.1.1, ?_⟩
      rw [h2.l.2.2.1]
      have hM2 := hP1.2.1.keep c2 (by omega)
      have f2 : jfq S S2 x := p1.fq.trans (jfq.of (jfr.realm c2 (by omega) (by omega)))
      refine U_X11_learn hM2.k ⟨hM2.k, ism hM2 ⟨fun c => absurd c (by decide), fun _ => ⟨hM2.k, c_X11_canLearn hM2 hg n9 ⟨fun c2 => absurd c2 c, fun _ => ⟨hM2.k, ?_⟩⟩⟩⟩⟩
      refine c_X11_learns (o := o) hM2 hg (hL.keep f2) n9 ekd eg eag hkd hag hg10 (by omega) em rfl hfee (fun S3 f3 o3 h3 => ?_)
      have i4 := h3.at (i := 4) 4 rfl (by omega)
      refine ⟨h3.k, _, h3.r, h3.k1, i4.1, ?_⟩
      rw [i4.2]
      refine ⟨rfl, sz, _, h.next (f2.trans f3) ⟨h2.of f3.1 (h2.2.2.grow (fun y p q => ⟨by rw [f3.1.1], by rw [f3.1.2.1], o3 y (by omega) (by omega) (by omega), by rw [f3.1.2.2.1]⟩)), h3, g2⟩ (fun j hj _ => vle_o hg10 (by omega))⟩
  · exact U_X11_learn hM.k ⟨hM.k, c_X11_isMaster hM hX.v0 hz (fun j hj e => absurd e (hno j hj)) (fun _ => ⟨fun _ => ⟨rfl, h.inv⟩, fun c => absurd rfl c⟩)⟩
end jLearn2
end
section
/-! SHEETS on both sides, by any state -/
def SH1 (S : jM) (x i : Nat) : Prop := ∃ so n, n ≤ 24 ∧ (so = -1 ∨ so = 0 ∨ so = 1) ∧ ji S (x + 66 + 2 * i) 0 = so ∧ ji S (x + 98) i = so ∧ ji S (x + 66 + 2 * i) 1 = nI n ∧ ji S (x + 99) i = nI n ∧ ∀ j, j < 24 → ji S (x + 67 + 2 * i) j = ji S (x + 100) (24 * i + j) ∧ jpl (ji S (x + 67 + 2 * i) j)
section jSheets
variable {E : jEnv} {d : Nat} {S S' : jM} {x sz M : Nat} {v : Nat → Int32}
theorem ML.r1 (h : ML S (x + 94)) : jr S (x + 94) 1 = some (x + 96) ∧ jk S (x + 96) = 12 ∧ jl S (x + 96) = 3135 := h.row 1 3135 (f := 1) rfl
theorem ML.r2 (h : ML S (x + 94)) : jr S (x + 94) 2 = some (x + 97) ∧ jk S (x + 97) = 12 ∧ jl S (x + 97) = 3135 := h.row 2 3135 (f := 2) rfl
theorem ML.r4 (h : ML S (x + 94)) : jr S (x + 94) 4 = some (x + 98) ∧ jk S (x + 98) = 12 ∧ jl S (x + 98) = 4 := h.row 3 4 (f := 4) rfl
theorem ML.r5 (h : ML S (x + 94)) : jr S (x + 94) 5 = some (x + 99) ∧ jk S (x + 99) = 12 ∧ jl S (x + 99) = 4 := h.row 4 4 (f := 5) rfl
theorem ML.r6 (h : ML S (x + 94)) : jr S (x + 94) 6 = some (x + 100) ∧ jk S (x + 100) = 12 ∧ jl S (x + 100) = 96 := h.row 5 96 (f := 6) rfl
theorem ML.r7 (h : ML S (x + 94)) : jr S (x + 94) 7 = some (x + 101) ∧ jk S (x + 101) = 12 ∧ jl S (x + 101) = 5 := h.row 6 5 (f := 7) rfl
theorem ML.r8 (h : ML S (x + 94)) : jr S (x + 94) 8 = some (x + 102) ∧ jk S (x + 102) = 12 ∧ jl S (x + 102) = 5 := h.row 7 5 (f := 8) rfl
theorem ML.r9 (h : ML S (x + 94)) : jr S (x + 94) 9 = some (x + 103) ∧ jk S (x + 103) = 12 ∧ jl S (x + 103) = 5 := h.row 8 5 (f := 9) rfl
theorem ML.r10 (h : ML S (x + 94)) : jr S (x + 94) 10 = some (x + 104) ∧ jk S (x + 104) = 12 ∧ jl S (x + 104) = 5 := h.row 9 5 (f := 10) rfl
theorem ML.r11 (h : ML S (x + 94)) : jr S (x + 94) 11 = some (x + 105) ∧ jk S (x + 105) = 12 ∧ jl S (x + 105) = 120 := h.row 10 120 (f := 11) rfl
theorem ML.r18 (h : ML S (x + 94)) : jr S (x + 94) 18 = some (x + 109) ∧ jk S (x + 109) = 12 ∧ jl S (x + 109) = 96 := h.row 14 96 (f := 18) rfl
theorem ML.r32 (h : ML S (x + 94)) : jr S (x + 94) 32 = some (x + 112) ∧ jk S (x + 112) = 12 ∧ jl S (x + 112) = 24 := h.row 17 24 (f := 32) rfl
theorem ML.r33 (h : ML S (x + 94)) : jr S (x + 94) 33 = some (x + 113) ∧ jk S (x + 113) = 12 ∧ jl S (x + 113) = 60 := h.row 18 60 (f := 33) rfl
theorem ML.r35 (h : ML S (x + 94)) : jr S (x + 94) 35 = some (x + 114) ∧ jk S (x + 114) = 12 ∧ jl S (x + 114) = 60 := h.row 19 60 (f := 35) rfl
/-! the rest's pieces stay where nothing of theirs is written -/
theorem IMG.keep (h : IMG S x M) (hs : jsame S S') (hx : ji S' x 2 = ji S x 2) (hm : ji S' (x + 94) 3 = ji S (x + 94) 3) (hi : ∀ y, ((x + 21 ≤ y ∧ y < x + 41) ∨ y = x + 96 ∨ x + 115 ≤ y) → ji S' y = ji S y) : IMG S' x M := by
  obtain ⟨sz, v, i1, i2, i3⟩ := h
  obtain ⟨k, l, rr, -⟩ := id hs
  refine ⟨sz, v, i1.grow (fun y p q => ⟨by rw [k], by rw [l], hi y (by omega), by rw [rr]⟩), fun t ht b hb => by rw [rr] at hb; rw [k]; exact i2 t ht b hb, ?_⟩
  rw [hx, hm]
  rcases i3 with i3 | ⟨a1, a2, a3, a4, a5⟩
  · exact Or.inl i3
  · exact Or.inr ⟨a1, a2, a3, fun j hj => by rw [hi (x + 96) (by omega)]; exact a4 j hj, a5.same hs (fun y p _ => hi y (by omega)) (fun _ _ _ => rfl)⟩
theorem SH1.keep {i : Nat} (h : SH1 S x i) (h1 : ji S' (x + 66 + 2 * i) = ji S (x + 66 + 2 * i)) (h2 : ji S' (x + 67 + 2 * i) = ji S (x + 67 + 2 * i)) (h3 : ji S' (x + 98) i = ji S (x + 98) i) (h4 : ji S' (x + 99) i = ji S (x + 99) i) (h5 : ∀ j, j < 24 → ji S' (x + 100) (24 * i + j) = ji S (x + 100) (24 * i + j)) : SH1 S' x i := by
  obtain ⟨so, n, a1, a2, a3, a4, a5, a6, a7⟩ := h
  refine ⟨so, n, a1, a2, by rw [h1]; exact a3, by rw [h3]; exact a4, by rw [h1]; exact a5, by rw [h4]; exact a6, fun j hj => ?_⟩
  rw [h2, h5 j hj]; exact a7 j hj
theorem SHR.keep (h : SHR S x) (hi : ∀ y, ((x + 66 ≤ y ∧ y < x + 74) ∨ (x + 98 ≤ y ∧ y ≤ x + 100)) → ji S' y = ji S y) : SHR S' x := fun i h4 =>
  SH1.keep (h i h4) (hi _ (by omega)) (hi _ (by omega)) (by rw [hi (x + 98) (by omega)]) (by rw [hi (x + 99) (by omega)]) (fun j _ => by rw [hi (x + 100) (by omega)])
theorem SLR.keep (h : SLR S x) (hi : ∀ y, ((x + 74 ≤ y ∧ y < x + 94) ∨ (x + 101 ≤ y ∧ y ≤ x + 105)) → ji S' y = ji S y) : SLR S' x := by
  intro i h5
  rw [hi (x + 74 + 4 * i) (by omega), hi (x + 75 + 4 * i) (by omega), hi (x + 76 + 4 * i) (by omega), hi (x + 77 + 4 * i) (by omega), hi (x + 101) (by omega), hi (x + 102) (by omega), hi (x + 103) (by omega), hi (x + 104) (by omega), hi (x + 105) (by omega)]
  exact h i h5
theorem WTR.keep (h : WTR S x) (h1 : ji S' x 9 = ji S x 9) (h2 : ji S' (x + 94) 34 = ji S (x + 94) 34) (h3 : ji S' (x + 65) = ji S (x + 65)) (h4 : ji S' (x + 113) = ji S (x + 113)) : WTR S' x := by
  unfold WTR
  rw [h1, h2, h3, h4]; exact h
theorem TPR.keep (h : TPR S x) (h1 : ji S' (x + 60) 1 = ji S (x + 60) 1) (h2 : ji S' (x + 94) 19 = ji S (x + 94) 19) (h3 : ji S' (x + 61) = ji S (x + 61)) (h4 : ji S' (x + 109) = ji S (x + 109)) : TPR S' x := by
  unfold TPR
  rw [h1, h2, h3, h4]; exact h
/-- only the rest changes -/
theorem IV.rst (h : IV S x sz M v) (hs : jsame S S') (hi : ∀ y, ((x + 1 ≤ y ∧ y < x + 21) ∨ y = x + 95 ∨ x + 115 ≤ y) → ji S' y = ji S y) (hr : RST S' x M) : INV S' x M := by
  obtain ⟨⟨hX, hM, hg⟩, h2, h3, h4, h5, h6⟩ := h
  obtain ⟨k, l, rr, nn⟩ := id hs
  exact ⟨sz, v, ⟨hX.of hs (hX.2.2.grow (fun y p q => ⟨by rw [k], by rw [l], hi y (by omega), by rw [rr]⟩)), ⟨hM.1.same hs, fun j => by rw [hi (x + 94 + 1) (by omega)]; exact hM.2 j⟩, hg⟩, h2.same hs, h3.same hs, by rw [nn]; exact h4, h5.same hs (fun y p _ => hi y (by omega)) (fun _ _ _ => rfl), hr⟩
/-! sheet -/
theorem Q_sheet {w u t : Int32} (h : IV S x sz M v) : jFi E mX10_sheet (d + 2) 0 0 [.ref x, .int w, .int u, .int t] S (fun r S1 => jFm E mX11_sheet (d + 2) (x + 94) [.int w, .int u, .int t] S1 (fun r' S2 => r = r' ∧ INV S2 x M)) := by
  obtain ⟨⟨hX, hM, hg⟩, hC, hGL, hjn, hT, hI, hS, hSl, hW, hTp⟩ := id h
  have eu : jisin (Int32.toInt64 u) (-1) 1 = if u < -1 then 0 else if 1 < u then 0 else 1 := jisin_int u (-1) 1
  refine T_X10_sheet ⟨hX.1, c_X10_findSheet hC (fun c => ⟨fun _ => g_sheetBad hM.k (Or.inl c) ⟨rfl, h.inv⟩, fun b e => absurd e (by simp)⟩) (fun i hi e e1 => ⟨fun c => absurd c (by simp), fun b eb => ⟨fun c1 => g_sheetBad hM.k (Or.inr (Or.inl c1)) ⟨rfl, h.inv⟩, fun c1 => ⟨fun c2 => ?_, fun c2 => g_sheetBad hM.k (Or.inr (Or.inr c2)) ⟨rfl, h.inv⟩⟩⟩⟩)⟩
  obtain rfl : x + 66 + 2 * i = b := Option.some.inj eb
  subst e
  have hs1 : ¬ jissheet (nI i) = 0 := by rw [jissheet_wi, e1]; decide
  have hu1 : ¬ jisin (Int32.toInt64 u) (-1) 1 = 0 := by rw [eu, if_neg c1, if_neg (Int32.not_lt.mpr c2)]; decide
  have hsh := hC.sh i hi
  have hup : u ≠ -1 → ¬ u < 0 := fun c3 => by
    rw [Int32.lt_iff_toInt_lt] at c1 ⊢
    have hne : u.toInt ≠ (-1 : Int32).toInt := fun e => c3 (Int32.toInt_inj.mp e)
    have e9 : (-1 : Int32).toInt = -1 := by decide
    have e0 : (0 : Int32).toInt = 0 := by decide
    rw [e9] at c1 hne; rw [e0]; omega
  have hso : u ≠ -1 → u = 0 ∨ u = 1 := fun c3 => by
    have h0 := hup c3
    rw [Int32.lt_iff_toInt_lt] at h0
    rw [Int32.le_iff_toInt_le] at c2
    have e0 : (0 : Int32).toInt = 0 := by decide
    have e1 : (1 : Int32).toInt = 1 := by decide
    rw [e0] at h0; rw [e1] at c2
    rcases (show u.toInt = 0 ∨ u.toInt = 1 by omega) with e | e
    · exact Or.inl (Int32.toInt_inj.mp (e.trans e0.symm))
    · exact Or.inr (Int32.toInt_inj.mp (e.trans e1.symm))
  -- behind both
  have fin : ∀ (S1 : jM) (so : Int32) (n : Nat), n ≤ 24 → (so = -1 ∨ so = 0 ∨ so = 1) → jsame S S1 → (∀ y, y ≠ x + 66 + 2 * i → y ≠ x + 67 + 2 * i → ji S1 y = ji S y) → ShR S1 (x + 66 + 2 * i) (x + 67 + 2 * i) so (nI n) (fun _ => 0) → ∀ (r : Int32), r = nI n → L_X11_sheet_69 E d (fun r' S2 => r = r' ∧ INV S2 x M) (x + 94) (nI i) 0 (jput (jput S1 (x + 98) i so) (x + 99) i (nI n)) := by
    intro S1 so n hn hso s1 o1 r1 r hr
    refine c_X11_sheetL hi ((hM.1.same s1).same ⟨rfl, rfl, rfl, rfl⟩) (fun S2 s2 o2 z2 => ⟨?_, ?_⟩)
    · rw [hr]
      exact (ji_put_same _ _ _ _).symm
    · have o3 : ∀ y, y ≠ x + 98 → y ≠ x + 99 → y ≠ x + 100 → ji S2 y = ji S1 y := fun y a b c => (o2 y c).trans ((ji_put_ne _ _ _ _ b).trans (ji_put_ne _ _ _ _ a))
      have s3 : jsame S S2 := s1.trans (jsame.trans (S1 := jput (jput S1 (x + 98) i so) (x + 99) i (nI n)) ⟨rfl, rfl, rfl, rfl⟩ s2)
      have o4 : ∀ y, (y < x + 66 ∨ x + 74 ≤ y) → y ≠ x + 98 → y ≠ x + 99 → y ≠ x + 100 → ji S2 y = ji S y := fun y a b c e => (o3 y b c e).trans (o1 y (by omega) (by omega))
      refine h.rst s3 (fun y hy => o4 y (by omega) (by omega) (by omega) (by omega)) ⟨hI.keep s3 (by rw [o4 x (by omega) (by omega) (by omega) (by omega)]) (by rw [o4 (x + 94) (by omega) (by omega) (by omega) (by omega)]) (fun y hy => o4 y (by omega) (by omega) (by omega) (by omega)), fun k hk => ?_, hSl.keep (fun y hy => o4 y (by omega) (by omega) (by omega) (by omega)), hW.keep (by rw [o4 x (by omega) (by omega) (by omega) (by omega)]) (by rw [o4 (x + 94) (by omega) (by omega) (by omega) (by omega)]) (o4 _ (by omega) (by omega) (by omega) (by omega)) (o4 _ (by omega) (by omega) (by omega) (by omega)), hTp.keep (by rw [o4 (x + 60) (by omega) (by omega) (by omega) (by omega)]) (by rw [o4 (x + 94) (by omega) (by omega) (by omega) (by omega)]) (o4 _ (by omega) (by omega) (by omega) (by omega)) (o4 _ (by omega) (by omega) (by omega) (by omega))⟩
      have e98 : ji S2 (x + 98) = ji (jput (jput S1 (x + 98) i so) (x + 99) i (nI n)) (x + 98) := o2 _ (by omega)
      have e99 : ji S2 (x + 99) = ji (jput (jput S1 (x + 98) i so) (x + 99) i (nI n)) (x + 99) := o2 _ (by omega)
      by_cases hki : k = i
      · subst hki
        obtain ⟨q1, q2, q3, q4⟩ := r1
        refine ⟨so, n, hn, hso, ?_, ?_, ?_, ?_, fun j hj => ⟨?_, ?_⟩⟩
        · rw [o3 _ (by omega) (by omega) (by omega)]; exact q2
        · rw [e98, ji_put_ne _ _ _ _ (by omega), ji_put_same]
        · rw [o3 _ (by omega) (by omega) (by omega)]; exact q3
        · rw [e99, ji_put_same]
        · rw [o3 _ (by omega) (by omega) (by omega), q4 j hj]
          have := z2 (24 * k + j)
          rw [if_pos (by omega)] at this
          exact this.symm
        · rw [o3 _ (by omega) (by omega) (by omega), q4 j hj]; exact Or.inr (by show (-99999 : Int32) ≤ 0 ∧ (0 : Int32) ≤ 99999; decide)
      · refine SH1.keep (hS k hk) ?_ ?_ ?_ ?_ (fun j hj => ?_)
        · rw [o3 _ (by omega) (by omega) (by omega)]; exact o1 _ (by omega) (by omega)
        · rw [o3 _ (by omega) (by omega) (by omega)]; exact o1 _ (by omega) (by omega)
        · rw [e98, ji_put_ne _ _ _ _ (by omega), ji_put, if_neg (fun c => hki c.2), o1 _ (by omega) (by omega)]
        · rw [e99, ji_put, if_neg (fun c => hki c.2), ji_put_ne _ _ _ _ (by omega), o1 _ (by omega) (by omega)]
        · have := z2 (24 * k + j)
          rw [if_neg (by omega)] at this
          refine this.trans ?_
          show ji (jput (jput S1 (x + 98) i so) (x + 99) i (nI n)) (x + 100) (24 * k + j) = _
          rw [ji_put_ne _ _ _ _ (by omega), ji_put_ne _ _ _ _ (by omega), o1 _ (by omega) (by omega)]
  have ci : Int32.toNatClampNeg (nI i) = i := jcl (by omega)
  refine ⟨fun c3 => ⟨hsh.1, c_X6_begin hsh (fun S1 s1 o1 r1 => ?_)⟩, fun c3 => ⟨fun c4 => ⟨fun c5 => ⟨hsh.1, c_X6_begin hsh (fun S1 s1 o1 r1 => ?_)⟩, fun c5 => ?_⟩, fun c4 => ?_⟩⟩
  · have hM1 := hM.1.same s1
    have hu0 : u < 0 := by rw [c3]; decide
    refine U_X11_sheet hM1.1 ⟨fun c => absurd c hs1, fun _ => ⟨fun c => absurd c hu1, fun _ => ⟨fun _ => ⟨hM1.1, _, hM1.r4.1, hM1.r4.2.1, by rw [hM1.r4.2.2]; exact jin_nI hi (by omega), _, hM1.r5.1, fun c => absurd c (Int32.not_le.mpr hu0), fun _ => ⟨hM1.r5.2.1, by rw [hM1.r5.2.2]; exact jin_nI hi (by omega), ?_⟩⟩, fun c => absurd hu0 c⟩⟩⟩
    rw [ci, c3]
    exact fin S1 (-1) 0 (by omega) (Or.inl rfl) s1 o1 r1 0 rfl
  · have hM1 := hM.1.same s1
    obtain ⟨n, hn, en⟩ := nI_of2 (x := t) (M := 24) (n := 24) (by decide) (Int32.not_lt.mpr c5) c4
    subst en
    refine U_X11_sheet hM1.1 ⟨fun c => absurd c hs1, fun _ => ⟨fun c => absurd c hu1, fun _ => ⟨fun c => absurd c (hup c3), fun _ => ⟨fun _ => ⟨fun _ => ⟨hM1.1, _, hM1.r4.1, hM1.r4.2.1, by rw [hM1.r4.2.2]; exact jin_nI hi (by omega), _, hM1.r5.1, fun _ => ⟨hM1.r5.2.1, by rw [hM1.r5.2.2]; exact jin_nI hi (by omega), ?_⟩, fun c => absurd (Int32.not_lt.mp (hup c3)) c⟩, fun c => absurd c5 c⟩, fun c => absurd c4 c⟩⟩⟩⟩
    rw [ci]
    exact fin S1 u n hn (Or.inr (hso c3)) s1 o1 r1 _ rfl
  · exact U_X11_sheet hM.k ⟨fun c => absurd c hs1, fun _ => ⟨fun c => absurd c hu1, fun _ => ⟨fun c => absurd c (hup c3), fun _ => ⟨fun _ => ⟨fun c => absurd c c5, fun _ => ⟨rfl, h.inv⟩⟩, fun c => absurd c4 c⟩⟩⟩⟩
  · exact U_X11_sheet hM.k ⟨fun c => absurd c hs1, fun _ => ⟨fun c => absurd c hu1, fun _ => ⟨fun c => absurd c (hup c3), fun _ => ⟨fun c => absurd c c4, fun _ => ⟨rfl, h.inv⟩⟩⟩⟩⟩
end jSheets
end
section
/-! MARK, POUR, READS, COPY on both sides -/
theorem jshort (t : Int32) : jshr (jshl t 16) 16 = Int16.toInt32 (Int32.toInt16 t) := by
  unfold jshr jshl
  rw [show (16 : Int32) &&& 31 = 16 by decide]
  apply Int32.toBitVec_inj.mp
  have e1 : (t <<< (16 : Int32) >>> (16 : Int32)).toBitVec = (t.toBitVec <<< 16).sshiftRight 16 := rfl
  have e2 : (Int16.toInt32 (Int32.toInt16 t)).toBitVec = (t.toBitVec.setWidth 16).signExtend 32 := by
    have e3 : (Int16.toInt32 (Int32.toInt16 t)).toBitVec = (t.toBitVec.signExtend 16).signExtend 32 := rfl
    rw [e3, BitVec.signExtend_eq_setWidth_of_le _ (by decide : 16 ≤ 32)]
  rw [e1, e2]
  apply BitVec.eq_of_getLsbD_eq
  intro i hi
  rw [BitVec.getLsbD_sshiftRight, BitVec.getLsbD_signExtend]
  by_cases h : i < 16
  · have h32 : ¬ 32 ≤ i := by omega
    have h16 : 16 + i < 32 := by omega
    simp [h, h32, h16, hi]
  · have h16 : ¬ 16 + i < 32 := by omega
    have h32 : ¬ 32 ≤ i := by omega
    simp [h, h32, h16, hi, BitVec.msb_eq_getLsbD_last]
theorem jpl_short (t : Int16) : jpl (Int16.toInt32 t) := by
  refine Or.inr ⟨?_, ?_⟩
  · rw [Int32.le_iff_toInt_le, Int16.toInt_toInt32]
    have := Int16.le_toInt t
    have e : (-99999 : Int32).toInt = -99999 := by decide
    rw [e]; omega
  · rw [Int32.le_iff_toInt_le, Int16.toInt_toInt32]
    have := Int16.toInt_lt t
    have e : (99999 : Int32).toInt = 99999 := by decide
    rw [e]; omega
theorem jcl0 (y : Int32) : jmax 0 (jmin 99 y) = jclamp y 0 99 ∧ ∃ k, k < 100 ∧ jclamp y 0 99 = nI k := by
  rw [show jclamp y 0 99 = (if 0 ≤ y then (if y ≤ 99 then y else 99) else 0) from rfl]
  by_cases h1 : (0 : Int32) ≤ y
  · rw [if_pos h1]
    by_cases h2 : y ≤ 99
    · rw [if_pos h2]
      have hlt : y < nI 100 := Int32.lt_of_le_of_lt h2 (by decide)
      obtain ⟨j, hj, e⟩ := jofI (x := y) (n := 100) (by omega) h1 hlt
      have hd : ∀ j : Fin 100, jmax 0 (jmin 99 (nI j.val)) = nI j.val := by decide +kernel
      exact ⟨by rw [e]; exact hd ⟨j, hj⟩, j, hj, e⟩
    · rw [if_neg h2]
      have h3 : ¬ y < 99 := fun h => h2 (Int32.le_of_lt h)
      unfold jmin
      rw [if_neg h3]
      exact ⟨by decide, 99, by omega, rfl⟩
  · rw [if_neg h1]
    have h2 : y < 0 := Int32.not_le.mp h1
    have h3 : y < 99 := Int32.lt_of_lt_of_le h2 (by decide)
    unfold jmin jmax
    rw [if_pos h3, if_neg (fun h => h1 (Int32.le_of_lt h))]
    exact ⟨rfl, 0, by omega, rfl⟩
theorem jisin_sz (w : Int32) {n : Nat} (hn : n < 2 ^ 31) : jisin (Int32.toInt64 w) 0 (Int32.toInt64 (nI n - 1)) = jwi w (nI n) := by
  refine jisin_wi w (nI n) (nI n - 1) rfl (jle_lt ?_)
  cases n with
  | zero => decide
  | succ y => rw [nI_pred, nI_toInt (by omega), nI_toInt (by omega)]; omega
theorem nI_24 (i j : Nat) : (24 : Int32) * nI i + nI j = nI (24 * i + j) := by rw [show (24 : Int32) = nI 24 from rfl, nI_mul, nI_add]
section jMarks
variable {E : jEnv} {d : Nat} {S S' : jM} {x sz M : Nat} {v : Nat → Int32}
theorem c_X6_hasPlace {Q : Int32 → jM → Prop} {a n : Nat} {w : Int32} (hk : jk S a = 6) (hn : n ≤ 24) (e : ji S a 1 = nI n) (h : Q (jwi w (nI n)) S) : jFi E mX6_hasPlace (d + 1) 0 0 [.ref a, .int w] S Q := by
  refine T_X6_hasPlace ⟨hk, ?_⟩
  rw [e]
  refine ⟨fun c => by rw [c] at h; exact h, fun c => ?_⟩
  rcases jwi_cases w (b := nI n) n rfl (by omega) with ⟨j, hj, ej, e1⟩ | ⟨-, e1⟩
  · rw [e1] at h
    exact ⟨fun c => absurd c (by rw [ej]; exact nI_ge (b := 24) (by omega) (by omega)), fun _ => h⟩
  · exact absurd e1 c
theorem c_X6_isNumber {Q : Int32 → jM → Prop} {a p n j : Nat} (hL : ShL S a p) (hn : n ≤ 24) (e : ji S a 1 = nI n) (hj : j < n) (h0 : ji S p j = kNONE → Q 0 S) (h1 : ¬ ji S p j = kNONE → Q 1 S) : jFi E mX6_isNumber (d + 2) 0 0 [.ref a, .int (nI j)] S Q := by
  obtain ⟨k6, r2, k12, l24⟩ := hL
  refine T_X6_isNumber ⟨k6, c_X6_hasPlace k6 hn e ?_⟩
  rw [jwi_at hj (by omega)]
  refine ⟨fun c => absurd c (by decide), fun _ => ⟨k6, p, r2, k12, by rw [l24]; exact jin_nI (by omega) (by omega), ?_⟩⟩
  rw [jcl (by omega)]
  exact ⟨h0, h1⟩
/-- the sheet at hand is there, on the class's side and on the reference's -/
theorem SH1.miss {i : Nat} {so : Int32} (hso : so = -1 ∨ so = 0 ∨ so = 1) : (so = -1 ↔ ¬ 0 ≤ so) := by
  rcases hso with rfl | rfl | rfl <;> decide
/-- one place of a sheet is otherwise on both sides -/
theorem IV.place {i j : Nat} {z : Int32} (h : IV S x sz M v) (hi : i < 4) (hj : j < 24) (hz : jpl z) : INV (jput (jput S (x + 67 + 2 * i) j z) (x + 100) (24 * i + j) z) x M := by
  obtain ⟨⟨hX, hM, hg⟩, hC, hGL, hjn, hT, hI, hS, hSl, hW, hTp⟩ := id h
  have s3 : jsame S (jput (jput S (x + 67 + 2 * i) j z) (x + 100) (24 * i + j) z) := ⟨rfl, rfl, rfl, rfl⟩
  have o4 : ∀ y, y ≠ x + 67 + 2 * i → y ≠ x + 100 → ji (jput (jput S (x + 67 + 2 * i) j z) (x + 100) (24 * i + j) z) y = ji S y := fun y a b => (ji_put_ne _ _ _ _ b).trans (ji_put_ne _ _ _ _ a)
  refine h.rst s3 (fun y hy => o4 y (by omega) (by omega)) ⟨hI.keep s3 (by rw [o4 x (by omega) (by omega)]) (by rw [o4 (x + 94) (by omega) (by omega)]) (fun y hy => o4 y (by omega) (by omega)), fun k hk => ?_, hSl.keep (fun y hy => o4 y (by omega) (by omega)), hW.keep (by rw [o4 x (by omega) (by omega)]) (by rw [o4 (x + 94) (by omega) (by omega)]) (o4 _ (by omega) (by omega)) (o4 _ (by omega) (by omega)), hTp.keep (by rw [o4 (x + 60) (by omega) (by omega)]) (by rw [o4 (x + 94) (by omega) (by omega)]) (o4 _ (by omega) (by omega)) (o4 _ (by omega) (by omega))⟩
  obtain ⟨so, n, a1, a2, a3, a4, a5, a6, a7⟩ := hS k hk
  refine ⟨so, n, a1, a2, by rw [o4 _ (by omega) (by omega)]; exact a3, by rw [o4 _ (by omega) (by omega)]; exact a4, by rw [o4 _ (by omega) (by omega)]; exact a5, by rw [o4 _ (by omega) (by omega)]; exact a6, fun l hl => ?_⟩
  obtain ⟨b1, b2⟩ := a7 l hl
  rw [ji_put_ne _ _ _ _ (show x + 67 + 2 * k ≠ x + 100 by omega), ji_put, ji_put, ji_put_ne _ _ _ _ (show x + 100 ≠ x + 67 + 2 * i by omega)]
  by_cases hkl : k = i ∧ l = j
  · obtain ⟨rfl, rfl⟩ := hkl
    rw [if_pos ⟨rfl, rfl⟩, if_pos ⟨rfl, rfl⟩]
    exact ⟨rfl, hz⟩
  · rw [if_neg (by omega), if_neg (by omega)]
    exact ⟨b1, b2⟩
theorem Q_mark {w u t : Int32} (h : IV S x sz M v) : jFi E mX10_mark (d + 2) 0 0 [.ref x, .int w, .int u, .int t] S (fun r S1 => jFm E mX11_mark (d + 2) (x + 94) [.int w, .int u, .int t] S1 (fun r' S2 => r = r' ∧ INV S2 x M)) := by
  obtain ⟨⟨hX, hM, hg⟩, hC, hGL, hjn, hT, hI, hS, hSl, hW, hTp⟩ := id h
  refine T_X10_mark ⟨hX.1, c_X10_findSheet hC (fun c => ⟨fun _ => U_X11_mark hM.k ⟨fun _ => ⟨rfl, h.inv⟩, fun c2 => absurd ((jissheet_wi w).trans c) c2⟩, fun b e => absurd e (by simp)⟩) (fun i hi e e1 => ⟨fun c => absurd c (by simp), fun b eb => ?_⟩)⟩
  obtain rfl : x + 66 + 2 * i = b := Option.some.inj eb
  subst e
  have hs1 : ¬ jissheet (nI i) = 0 := by rw [jissheet_wi, e1]; decide
  obtain ⟨k6, r2, k12, l24⟩ := hC.sh i hi
  obtain ⟨so, n, a1, a2, a3, a4, a5, a6, a7⟩ := hS i hi
  have hM1 := hM.1
  have ci : Int32.toNatClampNeg (nI i) = i := jcl (by omega)
  have ms := SH1.miss (i := i) a2
  have et : jisin (Int32.toInt64 t) (-99999) 99999 = if t < -99999 then 0 else if 99999 < t then 0 else 1 := jisin_int t (-99999) 99999
  refine ⟨k6, ?_⟩
  rw [a3]
  refine ⟨fun c => U_X11_mark hM.k ⟨fun c => absurd c hs1, fun _ => ⟨hM.k, _, hM1.r4.1, hM1.r4.2.1, by rw [hM1.r4.2.2]; exact jin_nI hi (by omega), fun c0 => absurd c0 (by rw [ci, a4]; exact ms.mp c), fun _ => ⟨rfl, h.inv⟩⟩⟩, fun c => ?_⟩
  have so0 : 0 ≤ so := by
    rcases a2 with e | e | e
    · exact absurd e c
    · rw [e]; decide
    · rw [e]; decide
  -- the reference, up to its place
  have ref : ∀ (S1 : jM) (Q : Int32 → jM → Prop), MR S1 (x + 94) v → ji S1 (x + 98) i = so → ji S1 (x + 99) i = nI n → (jwi u (nI n) = 0 → Q (-1000000013) S1) → (¬ jwi u (nI n) = 0 → so = 0 → t = kNONE → Q (-1000000012) S1) → (¬ jwi u (nI n) = 0 → so = 1 → ¬ t = kNONE → (t < -99999 ∨ 99999 < t) → Q (-1000000001) S1) → (∀ j, j < n → u = nI j → ((so = 0 ∧ ¬ t = kNONE) → Q 1 (jput S1 (x + 100) (24 * i + j) (Int16.toInt32 (Int32.toInt16 t)))) ∧ ((so = 1 ∧ (t = kNONE ∨ (¬ t < -99999 ∧ ¬ 99999 < t))) → Q 1 (jput S1 (x + 100) (24 * i + j) t))) → jFm E mX11_mark (d + 2) (x + 94) [.int (nI i), .int u, .int t] S1 Q := by
    intro S1 Q h1 b4 b6 q1 q2 q3 q4
    have m1 := h1.1
    refine U_X11_mark h1.k ⟨fun c => absurd c hs1, fun _ => ⟨h1.k, _, m1.r4.1, m1.r4.2.1, by rw [m1.r4.2.2]; exact jin_nI hi (by omega), ?_⟩⟩
    rw [ci, b4]
    refine ⟨fun _ => ⟨_, m1.r5.1, m1.r5.2.1, by rw [m1.r5.2.2]; exact jin_nI hi (by omega), ?_⟩, fun c0 => absurd so0 c0⟩
    rw [b6, jisin_sz u (by omega)]
    refine ⟨q1, fun cu => ?_⟩
    rcases jwi_cases u (b := nI n) n rfl (by omega) with ⟨j, hj, ej, -⟩ | ⟨-, ej⟩
    · obtain ⟨p1, p2⟩ := q4 j hj ej
      have e24 : (24 : Int32) * nI i + u = nI (24 * i + j) := by rw [ej, nI_24]
      have in24 : vp_in (24 * nI i + u) (jl S1 (x + 100)) := by rw [e24, m1.r6.2.2]; exact jin_nI (by omega) (by omega)
      refine ⟨fun s0 => ⟨fun t0 => q2 cu s0 t0, fun t0 => ⟨fun s1 => absurd (s0.symm.trans s1) (by decide), fun _ => ⟨_, m1.r6.1, m1.r6.2.1, in24, ?_⟩⟩⟩, fun s0 => ⟨fun s1 => ⟨fun t0 => ⟨_, m1.r6.1, m1.r6.2.1, in24, ?_⟩, fun t0 => ⟨fun ct => ?_, fun ct => ⟨_, m1.r6.1, m1.r6.2.1, in24, ?_⟩⟩⟩, fun s1 => ?_⟩⟩
      · rw [e24, jcl (by omega), jshort]; exact p1 ⟨s0, t0⟩
      · rw [e24, jcl (by omega)]; exact p2 ⟨s1, Or.inl t0⟩
      · refine q3 cu s1 t0 ?_
        rw [et] at ct
        by_cases c1 : t < -99999
        · exact Or.inl c1
        · rw [if_neg c1] at ct
          by_cases c2 : 99999 < t
          · exact Or.inr c2
          · rw [if_neg c2] at ct; exact absurd ct (by decide)
      · rw [e24, jcl (by omega)]
        refine p2 ⟨s1, Or.inr ?_⟩
        rw [et] at ct
        by_cases c1 : t < -99999
        · rw [if_pos c1] at ct; exact absurd rfl ct
        · rw [if_neg c1] at ct
          by_cases c2 : 99999 < t
          · rw [if_pos c2] at ct; exact absurd rfl ct
          · exact ⟨c1, c2⟩
      · rcases a2 with e | e | e
        · exact absurd e c
        · exact absurd e s0
        · exact absurd e s1
    · exact absurd ej cu
  have sim : ∀ (r : Int32), ((jwi u (nI n) = 0 → r = (-1000000013)) ∧ (¬ jwi u (nI n) = 0 → so = 0 → t = kNONE → r = (-1000000012)) ∧ (¬ jwi u (nI n) = 0 → so = 1 → ¬ t = kNONE → (t < -99999 ∨ 99999 < t) → r = (-1000000001)) ∧ (jwi u (nI n) = 0 ∨ (so = 0 ∧ t = kNONE) ∨ (so = 1 ∧ ¬ t = kNONE ∧ (t < -99999 ∨ 99999 < t)))) → jFm E mX11_mark (d + 2) (x + 94) [.int (nI i), .int u, .int t] S (fun r' S2 => r = r' ∧ INV S2 x M) := by
    intro r hr
    refine ref S _ hM a4 a6 (fun c1 => ⟨hr.1 c1, h.inv⟩) (fun c1 c2 c3 => ⟨hr.2.1 c1 c2 c3, h.inv⟩) (fun c1 c2 c3 c4 => ⟨hr.2.2.1 c1 c2 c3 c4, h.inv⟩) (fun j hj ej => ⟨fun p => ?_, fun p => ?_⟩)
    · rcases hr.2.2.2 with c1 | ⟨c1, c2⟩ | ⟨c1, c2, c3⟩
      · rw [ej, jwi_at hj (by omega)] at c1; exact absurd c1 (by decide)
      · exact absurd c2 p.2
      · exact absurd (p.1.symm.trans c1) (by decide)
    · rcases hr.2.2.2 with c1 | ⟨c1, c2⟩ | ⟨c1, c2, c3⟩
      · rw [ej, jwi_at hj (by omega)] at c1; exact absurd c1 (by decide)
      · exact absurd (c1.symm.trans p.1) (by decide)
      · rcases p.2 with q | q
        · exact absurd q c2
        · rcases c3 with c3 | c3
          · exact absurd c3 q.1
          · exact absurd c3 q.2
  refine c_X6_hasPlace k6 a1 a5 ⟨fun cu => sim _ ⟨fun _ => rfl, fun c1 => absurd cu c1, fun c1 => absurd cu c1, Or.inl cu⟩, fun cu => ⟨k6, ?_⟩⟩
  rw [a3]
  rcases jwi_cases u (b := nI n) n rfl (by omega) with ⟨j, hj, ej, -⟩ | ⟨-, ej⟩
  · have inj : vp_in u (jl S (x + 67 + 2 * i)) := by rw [ej, l24]; exact jin_nI (by omega) (by omega)
    have cj : Int32.toNatClampNeg u = j := by rw [ej]; exact jcl (by omega)
    have put : ∀ z : Int32, jpl z → ((so = 0 ∧ ¬ t = kNONE ∧ z = Int16.toInt32 (Int32.toInt16 t)) ∨ (so = 1 ∧ (t = kNONE ∨ (¬ t < -99999 ∧ ¬ 99999 < t)) ∧ z = t)) → jFm E mX11_mark (d + 2) (x + 94) [.int (nI i), .int u, .int t] (jput S (x + 67 + 2 * i) j z) (fun r' S2 => (1 : Int32) = r' ∧ INV S2 x M) := by
      intro z hz hc
      have c1 : jch S (jput S (x + 67 + 2 * i) j z) (x + 67 + 2 * i) (x + 68 + 2 * i) := jch.put (by omega) (by omega)
      refine ref _ _ (hM.keep c1 (by omega)) (by rw [c1.2 _ (by omega)]; exact a4) (by rw [c1.2 _ (by omega)]; exact a6) (fun c2 => absurd c2 cu) (fun _ s0 t0 => ?_) (fun _ s1 t0 t1 => ?_) (fun j' hj' ej' => ⟨fun p => ⟨rfl, ?_⟩, fun p => ⟨rfl, ?_⟩⟩)
      · rcases hc with hc | hc
        · exact absurd t0 hc.2.1
        · exact absurd (s0.symm.trans hc.1) (by decide)
      · rcases hc with hc | hc
        · exact absurd (s1.symm.trans hc.1) (by decide)
        · rcases hc.2.1 with q | q
          · exact absurd q t0
          · rcases t1 with t1 | t1
            · exact absurd t1 q.1
            · exact absurd t1 q.2
      · obtain rfl : j' = j := nI_inj (by omega) (by omega) (ej'.symm.trans ej)
        rcases hc with hc | hc
        · rw [← hc.2.2]; exact h.place hi (by omega) hz
        · exact absurd (p.1.symm.trans hc.1) (by decide)
      · obtain rfl : j' = j := nI_inj (by omega) (by omega) (ej'.symm.trans ej)
        rcases hc with hc | hc
        · exact absurd (p.1.symm.trans hc.1) (by decide)
        · rw [← hc.2.2]; exact h.place hi (by omega) hz
    refine ⟨fun s0 => ⟨fun t0 => sim _ ⟨fun c1 => absurd c1 cu, fun _ _ _ => rfl, fun _ s1 => absurd (s0.symm.trans s1) (by decide), Or.inr (Or.inl ⟨s0, t0⟩)⟩, fun t0 => ⟨_, r2, k12, inj, ?_⟩⟩, fun s0 => ⟨fun t0 => ⟨_, r2, k12, inj, ?_⟩, fun t0 => ⟨fun t1 => ?_, fun t1 => ⟨fun t2 => ⟨_, r2, k12, inj, ?_⟩, fun t2 => ?_⟩⟩⟩⟩
    · rw [cj]; exact put _ (jpl_short _) (Or.inl ⟨s0, t0, rfl⟩)
    all_goals
      have s1 : so = 1 := by
        rcases a2 with e | e | e
        · exact absurd e c
        · exact absurd e s0
        · exact e
    · rw [cj]; exact put _ (Or.inl t0) (Or.inr ⟨s1, Or.inl t0, rfl⟩)
    · exact sim _ ⟨fun c1 => absurd c1 cu, fun _ q => absurd q s0, fun _ _ _ _ => rfl, Or.inr (Or.inr ⟨s1, t0, Or.inl t1⟩)⟩
    · rw [cj]
      exact put _ (Or.inr ⟨Int32.not_lt.mp t1, t2⟩) (Or.inr ⟨s1, Or.inr ⟨t1, Int32.not_lt.mpr t2⟩, rfl⟩)
    · exact sim _ ⟨fun c1 => absurd c1 cu, fun _ q => absurd q s0, fun _ _ _ _ => rfl, Or.inr (Or.inr ⟨s1, t0, Or.inr (Int32.not_le.mp t2)⟩)⟩
  · exact absurd ej cu
end jMarks
end
section
/-! POUR, READS, COPY on both sides -/
/-- fees come from a row: one place; all of them -/
def vp1 (pl : Nat → Int32) (sz i : Nat) (p : (Nat → Int32) × Int32) : (Nat → Int32) × Int32 :=
  if i < sz then (if pl i = kNONE then p else (upd p.1 (72 + 7 * i + 4) (jclamp (pl i) 0 99), if jclamp (pl i) 0 99 = mfv p.1 i 4 then p.2 else p.2 + 1)) else p
section jPour
variable {E : jEnv} {d : Nat} {S S' : jM} {x sz M : Nat} {v : Nat → Int32}
theorem vp_end {pl : Nat → Int32} : ∀ (n i : Nat) (p : (Nat → Int32) × Int32), sz ≤ i → jfold (vp1 pl sz) n i p = p
  | 0, _, _, _ => rfl
  | n + 1, i, p, h => by
    show jfold (vp1 pl sz) n (i + 1) (vp1 pl sz i p) = p
    have e : vp1 pl sz i p = p := by unfold vp1; rw [if_neg (by omega)]
    rw [e]; exact vp_end n (i + 1) p (by omega)
theorem vp_o {pl : Nat → Int32} (hz : sz ≤ 9) : ∀ (n i : Nat) (p : (Nat → Int32) × Int32) (j : Nat), (j < 72 ∨ 135 ≤ j) → (jfold (vp1 pl sz) n i p).1 j = p.1 j
  | 0, _, _, _, _ => rfl
  | n + 1, i, p, j, hj => by
    show (jfold (vp1 pl sz) n (i + 1) (vp1 pl sz i p)).1 j = p.1 j
    rw [vp_o hz n (i + 1) _ j hj]
    unfold vp1
    split
    · split
      · rfl
      · exact upd_ne _ (by omega)
    · rfl
theorem vp_rg {pl : Nat → Int32} (hz : sz ≤ 9) : ∀ (n i : Nat) (p : (Nat → Int32) × Int32), Rg sz p.1 → Rg sz (jfold (vp1 pl sz) n i p).1
  | 0, _, _, h => h
  | n + 1, i, p, h => by
    show Rg sz (jfold (vp1 pl sz) n (i + 1) (vp1 pl sz i p)).1
    refine vp_rg hz n (i + 1) _ ?_
    unfold vp1
    split
    · split
      · exact h
      · refine h.put (fun _ => ?_)
        rw [rgb_m i 4 (by omega)]
        exact (jcl0 (pl i)).2
    · exact h
theorem Q_pour {w : Int32} (h : IV S x sz M v) : jFi E mX10_pour (d + 3) 0 0 [.ref x, .int w] S (fun r S1 => jFm E mX11_pour (d + 3) (x + 94) [.int w] S1 (fun r' S2 => r = r' ∧ INV S2 x M)) := by
  obtain ⟨⟨hX, hM, hg⟩, hC, hGL, hjn, hT, hI, hS, hSl, hW, hTp⟩ := id h
  have hz := hX.sz9
  refine T_X10_pour ⟨hX.1, c_X10_findSheet hC (fun c => ⟨fun _ => U_X11_pour hM.k ⟨fun _ => ⟨rfl, h.inv⟩, fun c2 => absurd ((jissheet_wi w).trans c) c2⟩, fun b e => absurd e (by simp)⟩) (fun i hi e e1 => ⟨fun c => absurd c (by simp), fun b eb => ?_⟩)⟩
  obtain rfl : x + 66 + 2 * i = b := Option.some.inj eb
  subst e
  have hs1 : ¬ jissheet (nI i) = 0 := by rw [jissheet_wi, e1]; decide
  have hsh := hC.sh i hi
  obtain ⟨k6, r2, k12, l24⟩ := id hsh
  obtain ⟨so, n, a1, a2, a3, a4, a5, a6, a7⟩ := hS i hi
  have hM1 := hM.1
  have ci : Int32.toNatClampNeg (nI i) = i := jcl (by omega)
  have ms := SH1.miss (i := i) a2
  refine ⟨k6, ?_⟩
  rw [a3]
  refine ⟨fun c => U_X11_pour hM.k ⟨fun c => absurd c hs1, fun _ => ⟨hM.k, _, hM1.r4.1, hM1.r4.2.1, by rw [hM1.r4.2.2]; exact jin_nI hi (by omega), fun c0 => absurd c0 (by rw [ci, a4]; exact ms.mp c), fun _ => ⟨rfl, h.inv⟩⟩⟩, fun c => ?_⟩
  have so0 : 0 ≤ so := by
    rcases a2 with e | e | e
    · exact absurd e c
    · rw [e]; decide
    · rw [e]; decide
  have kC : ∀ (Q : Int32 → jM → Prop) (c k : Nat) (S1 : jM) (p : (Nat → Int32) × Int32), k + c = n → jch S S1 (x + 2) (x + 13) → XR S1 x sz p.1 → (∀ S', jch S S' (x + 2) (x + 13) → XR S' x sz (jfold (vp1 (ji S (x + 67 + 2 * i)) sz) c k p).1 → Q (jfold (vp1 (ji S (x + 67 + 2 * i)) sz) c k p).2 S') → L_X10_pour_30 E (d + 2) Q x (x + 66 + 2 * i) p.2 (nI k) S1 := by
    intro Q c
    induction c with
    | zero =>
      intro k S1 p hk c1 h1 hq
      obtain rfl : k = n := by omega
      refine T_X10_pour_30 ⟨by rw [c1.1.1]; exact k6, fun _ => hq S1 c1 h1, fun cc => absurd (by rw [c1.2 _ (by omega), a5]; exact Int32.le_rfl) cc⟩
    | succ c ih =>
      intro k S1 p hk c1 h1 hq
      have hsh1 : ShL S1 (x + 66 + 2 * i) (x + 67 + 2 * i) := ⟨by rw [c1.1.1]; exact k6, by rw [c1.1.2.2.1]; exact r2, by rw [c1.1.1]; exact k12, by rw [c1.1.2.1]; exact l24⟩
      have b5 : ji S1 (x + 66 + 2 * i) 1 = nI n := by rw [c1.2 _ (by omega)]; exact a5
      have bp : ji S1 (x + 67 + 2 * i) = ji S (x + 67 + 2 * i) := c1.2 _ (by omega)
      have nx : vp1 (ji S (x + 67 + 2 * i)) sz k p = p → L_X10_pour_30 E (d + 2) Q x (x + 66 + 2 * i) p.2 (nI (k + 1)) S1 := fun e =>
        ih (k + 1) S1 p (by omega) c1 h1 (by have hq2 : ∀ S', jch S S' (x + 2) (x + 13) → XR S' x sz (jfold (vp1 (ji S (x + 67 + 2 * i)) sz) c (k + 1) (vp1 (ji S (x + 67 + 2 * i)) sz k p)).1 → Q (jfold (vp1 (ji S (x + 67 + 2 * i)) sz) c (k + 1) (vp1 (ji S (x + 67 + 2 * i)) sz k p)).2 S' := hq
                                             rw [e] at hq2; exact hq2)
      refine T_X10_pour_30 ⟨hsh1.1, fun cc => absurd cc (by rw [b5]; exact nI_ge (by omega) (by omega)), fun _ => ⟨h1.1, x + 1, h1.2.1, h1.k3, x + 2, h1.r0, h1.g.1.1, c_X0_find h1.g.1 h1.g.2.1 hz (fun m hm e => ⟨fun c => absurd c (by simp), fun b eb => ⟨hsh1.1, c_X6_isNumber hsh1 a1 b5 (by omega) (fun e0 => ⟨fun _ => ?_, fun c => absurd rfl c⟩) (fun e0 => ⟨fun c => absurd c (by decide), fun _ => ⟨hsh1.1, _, hsh1.2.1, hsh1.2.2.1, by rw [hsh1.2.2.2]; exact jin_nI (by omega) (by omega), ?_⟩⟩)⟩⟩) (fun hno => ⟨fun _ => ?_, fun b e => absurd e (by simp)⟩)⟩⟩
      · obtain rfl : k = m := nI_inj (by omega) (by omega) e
        rw [bp] at e0
        rw [nI_1]
        exact nx (by unfold vp1; rw [if_pos hm, if_pos e0])
      · obtain rfl : k = m := nI_inj (by omega) (by omega) e
        obtain rfl : x + 2 + 2 + k = b := Option.some.inj eb
        rw [bp] at e0
        rw [bp, jcl (by omega), (jcl0 _).1, nI_1]
        have ev : vp1 (ji S (x + 67 + 2 * i)) sz k p = (upd p.1 (72 + 7 * k + 4) (jclamp (ji S (x + 67 + 2 * i) k) 0 99), if jclamp (ji S (x + 67 + 2 * i) k) 0 99 = mfv p.1 k 4 then p.2 else p.2 + 1) := by unfold vp1; rw [if_pos hm, if_neg e0]
        have hq2 : ∀ S', jch S S' (x + 2) (x + 13) → XR S' x sz (jfold (vp1 (ji S (x + 67 + 2 * i)) sz) c (k + 1) (vp1 (ji S (x + 67 + 2 * i)) sz k p)).1 → Q (jfold (vp1 (ji S (x + 67 + 2 * i)) sz) c (k + 1) (vp1 (ji S (x + 67 + 2 * i)) sz k p)).2 S' := hq
        rw [ev] at hq2
        have h2 := h1.mput (i := k) (f := 4) (w := jclamp (ji S (x + 67 + 2 * i) k) 0 99) (by omega) (by omega)
        have c2 : jch S (jput S1 (x + 2 + 2 + k) 4 (jclamp (ji S (x + 67 + 2 * i) k) 0 99)) (x + 2) (x + 13) := c1.trans (jch.put (by omega) (by omega))
        refine ⟨h1.mk (by omega), fun c9 => ?_, fun c9 => ?_⟩
        · rw [h1.ms (by omega) (by omega)] at c9
          rw [if_pos c9] at hq2
          rw [Int32.add_zero]
          exact ih (k + 1) _ (upd p.1 (72 + 7 * k + 4) (jclamp (ji S (x + 67 + 2 * i) k) 0 99), p.2) (by omega) c2 h2 hq2
        · rw [h1.ms (by omega) (by omega)] at c9
          rw [if_neg c9] at hq2
          exact ih (k + 1) _ (upd p.1 (72 + 7 * k + 4) (jclamp (ji S (x + 67 + 2 * i) k) 0 99), p.2 + 1) (by omega) c2 h2 hq2
      · rw [nI_1]
        exact nx (by
          unfold vp1
          rw [if_neg (fun hm => hno k hm rfl)])
  have kM : ∀ (Q : Int32 → jM → Prop) (S0 : jM) (c k : Nat) (S1 : jM) (p : (Nat → Int32) × Int32), k + c = n → ji S1 (x + 99) i = nI n → (∀ j, j < 24 → ji S1 (x + 100) (24 * i + j) = ji S (x + 67 + 2 * i) j) → p.1 0 = nI sz → jch S0 S1 (x + 95) (x + 96) → MR S1 (x + 94) p.1 → (∀ S', jch S0 S' (x + 95) (x + 96) → MR S' (x + 94) (jfold (vp1 (ji S (x + 67 + 2 * i)) sz) c k p).1 → Q (jfold (vp1 (ji S (x + 67 + 2 * i)) sz) c k p).2 S') → L_X11_pour_27 E (d + 1) Q (x + 94) (nI i) p.2 (nI k) S1 := by
    intro Q S0 c
    induction c with
    | zero =>
      intro k S1 p hk b9 b10 p0 c1 h1 hq
      obtain rfl : k = n := by omega
      refine T_X11_pour_27 ⟨h1.k, _, h1.1.r5.1, h1.1.r5.2.1, by rw [h1.1.r5.2.2]; exact jin_nI hi (by omega), fun _ => hq S1 c1 h1, fun cc => absurd (by rw [ci, b9]; exact Int32.le_rfl) cc⟩
    | succ c ih =>
      intro k S1 p hk b9 b10 p0 c1 h1 hq
      have i0 := h1.at (i := 0) 0 rfl (by omega)
      have e24 := nI_24 i k
      refine T_X11_pour_27 ⟨h1.k, _, h1.1.r5.1, h1.1.r5.2.1, by rw [h1.1.r5.2.2]; exact jin_nI hi (by omega), fun cc => absurd cc (by rw [ci, b9]; exact nI_ge (by omega) (by omega)), fun _ => ⟨_, h1.r, h1.k1, i0.1, fun cc => ?_, fun cc => ⟨_, h1.1.r6.1, h1.1.r6.2.1, by rw [e24, h1.1.r6.2.2]; exact jin_nI (by omega) (by omega), ?_⟩⟩⟩
      · rw [i0.2, p0, nI_leI (by omega) (by omega)] at cc
        have := hq S1 c1
        rw [vp_end (c + 1) k p cc] at this
        exact this h1
      · have hm : k < sz := by
          rcases Nat.lt_or_ge k sz with h9 | h9
          · exact h9
          · exact absurd (by rw [i0.2, p0]; exact nI_le h9 (by omega)) cc
        rw [e24, jcl (by omega), b10 k (by omega), nI_1]
        have hq2 : ∀ S', jch S0 S' (x + 95) (x + 96) → MR S' (x + 94) (jfold (vp1 (ji S (x + 67 + 2 * i)) sz) c (k + 1) (vp1 (ji S (x + 67 + 2 * i)) sz k p)).1 → Q (jfold (vp1 (ji S (x + 67 + 2 * i)) sz) c (k + 1) (vp1 (ji S (x + 67 + 2 * i)) sz k p)).2 S' := hq
        have e76 : (72 + 7 * nI k) + 4 = nI (72 + 7 * k + 4) := nI_mst k 4
        refine ⟨fun e0 => c_X11_of (f := 4) h1 (by omega) (by omega) ⟨h1.k, c_X11_becomes (72 + 7 * k + 4) h1 e76 (by omega) (fun S2 c2 h2 => ⟨fun _ => ?_, fun c9 => absurd rfl c9⟩)⟩, fun e0 => c_X11_becomes (72 + 7 * k + 4) h1 e76 (by omega) (fun S2 c2 h2 => ?_)⟩
        · have ev : vp1 (ji S (x + 67 + 2 * i)) sz k p = p := by unfold vp1; rw [if_pos hm, if_pos e0]
          rw [ev] at hq2
          rw [Int32.add_zero]
          have h3 : MR S2 (x + 94) p.1 := ⟨h2.1, fun j => (h2.2 j).trans (by
            by_cases hj : j = 72 + 7 * k + 4
            · subst hj; rw [upd_at]; rfl
            · exact upd_ne _ hj)⟩
          exact ih (k + 1) S2 p (by omega) (by rw [c2.2 _ (by omega)]; exact b9) (fun j hj => by rw [c2.2 _ (by omega)]; exact b10 j hj) p0 (c1.trans c2) h3 hq2
        · have ev : vp1 (ji S (x + 67 + 2 * i)) sz k p = (upd p.1 (72 + 7 * k + 4) (jclamp (ji S (x + 67 + 2 * i) k) 0 99), if jclamp (ji S (x + 67 + 2 * i) k) 0 99 = mfv p.1 k 4 then p.2 else p.2 + 1) := by unfold vp1; rw [if_pos hm, if_neg e0]
          rw [ev] at hq2
          refine ⟨fun c9 => ?_, fun c9 => ?_⟩
          · have c8 : jclamp (ji S (x + 67 + 2 * i) k) 0 99 = mfv p.1 k 4 := c9
            rw [if_pos c8] at hq2
            rw [Int32.add_zero]
            exact ih (k + 1) S2 (upd p.1 (72 + 7 * k + 4) (jclamp (ji S (x + 67 + 2 * i) k) 0 99), p.2) (by omega) (by rw [c2.2 _ (by omega)]; exact b9) (fun j hj => by rw [c2.2 _ (by omega)]; exact b10 j hj) (by show upd p.1 (72 + 7 * k + 4) (jclamp (ji S (x + 67 + 2 * i) k) 0 99) 0 = nI sz; rw [upd_ne _ (by omega)]; exact p0) (c1.trans c2) h2 hq2
          · have c8 : ¬ jclamp (ji S (x + 67 + 2 * i) k) 0 99 = mfv p.1 k 4 := c9
            rw [if_neg c8] at hq2
            exact ih (k + 1) S2 (upd p.1 (72 + 7 * k + 4) (jclamp (ji S (x + 67 + 2 * i) k) 0 99), p.2 + 1) (by omega) (by rw [c2.2 _ (by omega)]; exact b9) (fun j hj => by rw [c2.2 _ (by omega)]; exact b10 j hj) (by show upd p.1 (72 + 7 * k + 4) (jclamp (ji S (x + 67 + 2 * i) k) 0 99) 0 = nI sz; rw [upd_ne _ (by omega)]; exact p0) (c1.trans c2) h2 hq2
  refine kC _ n 0 S (v, 0) (by omega) jch.rfl hX (fun S1 c1 h1 => ?_)
  have hMs := hM.keep c1 (by omega)
  refine U_X11_pour hMs.k ⟨fun c => absurd c hs1, fun _ => ⟨hMs.k, _, hMs.1.r4.1, hMs.1.r4.2.1, by rw [hMs.1.r4.2.2]; exact jin_nI hi (by omega), fun _ => ?_, fun c0 => absurd (by rw [ci, c1.2 _ (by omega), a4]; exact so0) c0⟩⟩
  refine kM _ S1 n 0 S1 (v, 0) (by omega) (by rw [c1.2 _ (by omega)]; exact a6) (fun j hj => by rw [c1.2 _ (by omega)]; exact (a7 j hj).1.symm) hX.v0 jch.rfl hMs (fun S2 c2 h2 => ⟨rfl, sz, _, h.next ((jfq.of (jfr.realm c1 (by omega) (by omega))).trans (jfq.of (jfr.row c2))) ⟨h1.of c2.1 (h1.2.2.keep c2 (by omega)), h2, vp_rg hz n 0 (v, 0) hg⟩ (fun j hj _ => vp_o hz n 0 (v, 0) j (by omega))⟩)
theorem Q_reads {w : Int32} (h : IV S x sz M v) : jFi E mX10_reads (d + 3) 0 0 [.ref x, .int w] S (fun r S1 => jFm E mX11_reads (d + 3) (x + 94) [.int w] S1 (fun r' S2 => r = r' ∧ INV S2 x M)) := by
  obtain ⟨⟨hX, hM, hg⟩, hC, hGL, hjn, hT, hI, hS, hSl, hW, hTp⟩ := id h
  have hz := hX.sz9
  refine T_X10_reads ⟨hX.1, c_X10_findSheet hC (fun c => ⟨fun _ => U_X11_reads hM.k ⟨fun _ => ⟨rfl, h.inv⟩, fun c2 => absurd ((jissheet_wi w).trans c) c2⟩, fun b e => absurd e (by simp)⟩) (fun i hi e e1 => ⟨fun c => absurd c (by simp), fun b eb => ?_⟩)⟩
  obtain rfl : x + 66 + 2 * i = b := Option.some.inj eb
  subst e
  have hs1 : ¬ jissheet (nI i) = 0 := by rw [jissheet_wi, e1]; decide
  have hsh := hC.sh i hi
  obtain ⟨k6, r2, k12, l24⟩ := id hsh
  obtain ⟨so, n, a1, a2, a3, a4, a5, a6, a7⟩ := hS i hi
  have hM1 := hM.1
  have ci : Int32.toNatClampNeg (nI i) = i := jcl (by omega)
  have ms := SH1.miss (i := i) a2
  refine ⟨k6, ?_⟩
  rw [a3]
  refine ⟨fun c => U_X11_reads hM.k ⟨fun c => absurd c hs1, fun _ => ⟨hM.k, _, hM1.r4.1, hM1.r4.2.1, by rw [hM1.r4.2.2]; exact jin_nI hi (by omega), fun c0 => absurd c0 (by rw [ci, a4]; exact ms.mp c), fun _ => ⟨rfl, h.inv⟩⟩⟩, fun c => ?_⟩
  have so0 : 0 ≤ so := by
    rcases a2 with e | e | e
    · exact absurd e c
    · rw [e]; decide
    · rw [e]; decide
  have i0 := hM.at (i := 0) 0 rfl (by omega)
  -- both walk alike: what is left to answer from place k on
  have both : ∀ (c k : Nat), k + c = n → ∀ (Q : Int32 → jM → Prop), (∀ r, L_X11_reads_25 E (d + 1) (fun r' S2 => r = r' ∧ INV S2 x M) (x + 94) (nI i) (nI k) S → Q r S) → L_X10_reads_27 E (d + 2) Q x (x + 66 + 2 * i) (nI k) S := by
    intro c
    induction c with
    | zero =>
      intro k hk Q hq
      obtain rfl : k = n := by omega
      refine T_X10_reads_27 ⟨k6, fun _ => hq _ (T_X11_reads_25 ⟨hM.k, _, hM1.r5.1, hM1.r5.2.1, by rw [hM1.r5.2.2]; exact jin_nI hi (by omega), fun _ => ⟨rfl, h.inv⟩, fun cc => absurd (by rw [ci, a6]; exact Int32.le_rfl) cc⟩), fun cc => absurd (by rw [a5]; exact Int32.le_rfl) cc⟩
    | succ c ih =>
      intro k hk Q hq
      have e24 := nI_24 i k
      have ref : ∀ r, (ji S (x + 67 + 2 * i) k = kNONE → L_X11_reads_25 E (d + 1) (fun r' S2 => r = r' ∧ INV S2 x M) (x + 94) (nI i) (nI (k + 1)) S) → (¬ ji S (x + 67 + 2 * i) k = kNONE → sz ≤ k → r = nI k) → (¬ ji S (x + 67 + 2 * i) k = kNONE → k < sz → ji S (x + 67 + 2 * i) k = mfv v k 5 → L_X11_reads_25 E (d + 1) (fun r' S2 => r = r' ∧ INV S2 x M) (x + 94) (nI i) (nI (k + 1)) S) → (¬ ji S (x + 67 + 2 * i) k = kNONE → k < sz → ¬ ji S (x + 67 + 2 * i) k = mfv v k 5 → r = nI k) → L_X11_reads_25 E (d + 1) (fun r' S2 => r = r' ∧ INV S2 x M) (x + 94) (nI i) (nI k) S := by
        intro r q1 q2 q3 q4
        refine T_X11_reads_25 ⟨hM.k, _, hM1.r5.1, hM1.r5.2.1, by rw [hM1.r5.2.2]; exact jin_nI hi (by omega), fun cc => absurd cc (by rw [ci, a6]; exact nI_ge (by omega) (by omega)), fun _ => ⟨_, hM1.r6.1, hM1.r6.2.1, by rw [e24, hM1.r6.2.2]; exact jin_nI (by omega) (by omega), ?_⟩⟩
        rw [e24, jcl (by omega), ← (a7 k (by omega)).1, nI_1]
        refine ⟨q1, fun e0 => ⟨_, hM.r, hM.k1, i0.1, fun cc => ?_, fun cc => ?_⟩⟩
        · rw [i0.2, hX.v0, nI_leI (by omega) (by omega)] at cc
          exact ⟨q2 e0 cc, h.inv⟩
        · have hm : k < sz := by
            rcases Nat.lt_or_ge k sz with h9 | h9
            · exact h9
            · exact absurd (by rw [i0.2, hX.v0]; exact nI_le h9 (by omega)) cc
          exact c_X11_of (f := 5) hM (by omega) (by omega) ⟨fun e5 => q3 e0 hm e5, fun e5 => ⟨q4 e0 hm e5, h.inv⟩⟩
      have num : ∀ {Q2 : Int32 → jM → Prop}, (ji S (x + 67 + 2 * i) k = kNONE → Q2 0 S) → (¬ ji S (x + 67 + 2 * i) k = kNONE → Q2 1 S) → jFi E mX6_isNumber (d + 2) 0 0 [.ref (x + 66 + 2 * i), .int (nI k)] S Q2 := fun q0 q1 => c_X6_isNumber hsh a1 a5 (by omega) q0 q1
      refine T_X10_reads_27 ⟨k6, fun cc => absurd cc (by rw [a5]; exact nI_ge (by omega) (by omega)), fun _ => ⟨hX.1, x + 1, hX.2.1, hX.k3, x + 2, hX.r0, hX.g.1.1, c_X0_find hX.g.1 hX.g.2.1 hz (fun m hm e => ⟨fun c => absurd c (by simp), fun b eb => ⟨k6, num (fun e0 => ⟨fun _ => ?_, fun c => absurd rfl c⟩) (fun e0 => ⟨fun c => absurd c (by decide), fun _ => ⟨k6, _, r2, k12, by rw [l24]; exact jin_nI (by omega) (by omega), ?_⟩⟩)⟩⟩) (fun hno => ⟨fun _ => ⟨k6, num (fun e0 => ⟨fun _ => ?_, fun c => absurd rfl c⟩) (fun e0 => ⟨fun c => absurd c (by decide), fun _ => ?_⟩)⟩, fun b e => absurd e (by simp)⟩)⟩⟩
      · rw [nI_1]
        exact ih (k + 1) (by omega) Q (fun r hr => hq r (ref r (fun _ => hr) (fun c => absurd e0 c) (fun c => absurd e0 c) (fun c => absurd e0 c)))
      · obtain rfl : k = m := nI_inj (by omega) (by omega) e
        obtain rfl : x + 2 + 2 + k = b := Option.some.inj eb
        rw [jcl (by omega), nI_1]
        refine ⟨hX.mk (by omega), fun e5 => ?_, fun e5 => ?_⟩
        · rw [hX.ms (by omega) (by omega)] at e5
          exact ih (k + 1) (by omega) Q (fun r hr => hq r (ref r (fun c => absurd c e0) (fun _ c => absurd hm (by omega)) (fun _ _ _ => hr) (fun _ _ c => absurd e5 c)))
        · rw [hX.ms (by omega) (by omega)] at e5
          exact hq _ (ref _ (fun c => absurd c e0) (fun _ c => absurd hm (by omega)) (fun _ _ c => absurd c e5) (fun _ _ _ => rfl))
      · rw [nI_1]
        exact ih (k + 1) (by omega) Q (fun r hr => hq r (ref r (fun _ => hr) (fun c => absurd e0 c) (fun c => absurd e0 c) (fun c => absurd e0 c)))
      · have hk2 : sz ≤ k := by
          rcases Nat.lt_or_ge k sz with h9 | h9
          · exact absurd rfl (hno k h9)
          · exact h9
        exact hq _ (ref _ (fun c => absurd c e0) (fun _ _ => rfl) (fun _ c => absurd c (by omega)) (fun _ c => absurd c (by omega)))
  exact both n 0 (by omega) _ (fun r hr => U_X11_reads hM.k ⟨fun c => absurd c hs1, fun _ => ⟨hM.k, _, hM1.r4.1, hM1.r4.2.1, by rw [hM1.r4.2.2]; exact jin_nI hi (by omega), fun _ => hr, fun c0 => absurd (by rw [ci, a4]; exact so0) c0⟩⟩)
end jPour
end
section
/-! COPY; SLOTS: LAY, ASK, ITEM, REST on both sides -/
section jSlots
variable {E : jEnv} {d : Nat} {S S' : jM} {x sz M : Nat} {v : Nat → Int32}
theorem jl_sum {p n s : Nat} (hp : p < 2 ^ 31) (hn : n < 2 ^ 31) (hs : s < 2 ^ 31) : (0 < lg_cmp ((nI p).toInt64 + (nI n).toInt64) (nI s).toInt64) ↔ s < p + n := by
  rw [jcmp_gt, nI_l hp, nI_l hn, nI_l hs, lN_add, Int64.lt_iff_toInt_lt, lN_toInt hs]
  have e : (lN (p + n)).toInt = ((p + n : Nat) : Int) := lg_ofNat_toInt (by omega)
  rw [e]; omega
theorem c_X6_hasPlaces {Q : Int32 → jM → Prop} {a n : Nat} {p m : Int32} (hk : jk S a = 6) (hn : n ≤ 24) (e : ji S a 1 = nI n) (h0 : (p < 0 ∨ m < 0 ∨ ∀ i j, i < 2 ^ 31 → j < 2 ^ 31 → p = nI i → m = nI j → n < i + j) → Q 0 S) (h1 : ∀ i j, p = nI i → m = nI j → i + j ≤ n → Q 1 S) : jFi E mX6_hasPlaces d 0 0 [.ref a, .int p, .int m] S Q := by
  refine T_X6_hasPlaces ⟨fun c => h0 (Or.inl c), fun c1 => ⟨fun c => h0 (Or.inr (Or.inl c)), fun c2 => ⟨hk, ?_⟩⟩⟩
  obtain ⟨i, hi, ei⟩ := nI_of c1
  obtain ⟨j, hj, ej⟩ := nI_of c2
  subst ei; subst ej
  rw [e]
  refine ⟨fun c => h0 (Or.inr (Or.inr (fun i' j' hi' hj' ei ej => ?_))), fun c => ?_⟩
  · have := nI_inj hj hj' ej
    have := (nI_ltI (by omega) (by omega)).mp c
    omega
  · have hjn : j ≤ n := by
      rcases Nat.lt_or_ge n j with h9 | h9
      · exact absurd (nI_lt h9 (by omega)) c
      · exact h9
    have es : nI n - nI j = nI (n - j) := by
      have e2 : nI n = nI j + nI (n - j) := by rw [nI_add]; congr 1; omega
      rw [e2, Int32.add_comm, Int32.add_sub_cancel]
    rw [es]
    refine ⟨fun c3 => h0 (Or.inr (Or.inr (fun i' j' hi' hj' ei ej => ?_))), fun c3 => h1 i j rfl rfl ?_⟩
    · have := nI_inj hj hj' ej
      have := nI_inj hi hi' ei
      have := (nI_ltI (by omega) (by omega)).mp c3
      omega
    · rcases Nat.lt_or_ge (n - j) i with h9 | h9
      · exact absurd (nI_lt h9 (by omega)) c3
      · omega
theorem Q_copy {w u t a n : Int32} (h : IV S x sz M v) : jFi E mX10_copy (d + 2) 0 0 [.ref x, .int w, .int u, .int t, .int a, .int n] S (fun r S1 => jFm E mX11_copy (d + 2) (x + 94) [.int w, .int u, .int t, .int a, .int n] S1 (fun r' S2 => r = r' ∧ INV S2 x M)) := by
  obtain ⟨⟨hX, hM, hg⟩, hC, hGL, hjn, hT, hI, hS, hSl, hW, hTp⟩ := id h
  have hk := hM.k
  have bad : jwi w 4 = 0 ∨ jwi t 4 = 0 → jFm E mX11_copy (d + 2) (x + 94) [.int w, .int u, .int t, .int a, .int n] S (fun r' S2 => kBAD = r' ∧ INV S2 x M) := by
    intro hc
    refine U_X11_copy hk ⟨fun _ => ⟨rfl, h.inv⟩, fun c => ⟨fun _ => ⟨rfl, h.inv⟩, fun c2 => ?_⟩⟩
    rcases hc with hc | hc
    · exact absurd ((jissheet_wi w).trans hc) c
    · exact absurd ((jissheet_wi t).trans hc) c2
  refine T_X10_copy ⟨hX.1, c_X10_findSheet hC (fun c => ⟨fun _ => ⟨hX.1, c_X10_findSheet hC (fun c2 => ⟨fun _ => bad (Or.inl c), fun _ _ => bad (Or.inl c)⟩) (fun _ _ _ _ => ⟨fun _ => bad (Or.inl c), fun _ _ => bad (Or.inl c)⟩)⟩, fun b e => absurd e (by simp)⟩) (fun i hi e e1 => ⟨fun c => absurd c (by simp), fun b eb => ⟨hX.1, c_X10_findSheet hC (fun c2 => ⟨fun _ => bad (Or.inr c2), fun b e => absurd e (by simp)⟩) (fun k hk4 f f1 => ⟨fun c => absurd c (by simp), fun b2 eb2 => ?_⟩)⟩⟩)⟩
  obtain rfl : x + 66 + 2 * i = b := Option.some.inj eb
  obtain rfl : x + 66 + 2 * k = b2 := Option.some.inj eb2
  subst e
  subst f
  obtain ⟨k6, r2, k12, l24⟩ := hC.sh i hi
  obtain ⟨p6, q2, p12, q24⟩ := hC.sh k hk4
  obtain ⟨so, s1, a1, a2, a3, a4, a5, a6, a7⟩ := hS i hi
  obtain ⟨sp, s2, b1, b2, b3, b4, b5, b6, b7⟩ := hS k hk4
  have hM1 := hM.1
  have ci : Int32.toNatClampNeg (nI i) = i := jcl (by omega)
  have ck : Int32.toNatClampNeg (nI k) = k := jcl (by omega)
  have hs1 : ¬ jissheet (nI i) = 0 := by rw [jissheet_wi, e1]; decide
  have hs2 : ¬ jissheet (nI k) = 0 := by rw [jissheet_wi, f1]; decide
  have in4 : ∀ y, y < 4 → vp_in (nI y) (jl S (x + 98)) := fun y hy => by rw [hM1.r4.2.2]; exact jin_nI hy (by omega)
  have neg1 : ∀ z : Int32, (z = -1 ∨ z = 0 ∨ z = 1) → (z < 0 ↔ z = -1) := by
    intro z hz
    rcases hz with rfl | rfl | rfl <;> decide
  refine ⟨k6, ?_⟩
  rw [a3, b3]
  refine ⟨fun c => U_X11_copy hk ⟨fun c => absurd c hs1, fun _ => ⟨fun c => absurd c hs2, fun _ => ⟨hk, _, hM1.r4.1, hM1.r4.2.1, in4 i hi, fun _ => ⟨rfl, h.inv⟩, fun c0 => absurd (by rw [ci, a4]; exact (neg1 so a2).mpr c) c0⟩⟩⟩, fun c => ⟨p6, fun c2 => ?_, fun c2 => ⟨fun c3 => ?_, fun c3 => ?_⟩⟩⟩
  all_goals
    have n1 : ¬ ji S (x + 98) (Int32.toNatClampNeg (nI i)) < 0 := by rw [ci, a4]; exact fun q => c ((neg1 so a2).mp q)
  · exact U_X11_copy hk ⟨fun c => absurd c hs1, fun _ => ⟨fun c => absurd c hs2, fun _ => ⟨hk, _, hM1.r4.1, hM1.r4.2.1, in4 i hi, fun c0 => absurd c0 n1, fun _ => ⟨in4 k hk4, fun c0 => absurd c0 (by rw [ck, b4, c2]; decide), fun _ => ⟨rfl, h.inv⟩⟩⟩⟩⟩
  all_goals
    have n2 : (0 : Int32) ≤ ji S (x + 98) (Int32.toNatClampNeg (nI k)) := by rw [ck, b4]; exact Int32.not_lt.mp (fun q => c2 ((neg1 sp b2).mp q))
  · -- of one sort
    have ix : ∀ (r : Int32), r = (-1000000013) → (u < 0 ∨ n < 0 ∨ a < 0 ∨ (∀ p q, p < 2 ^ 31 → q < 2 ^ 31 → u = nI p → n = nI q → s1 < p + q) ∨ (∀ p q, p < 2 ^ 31 → q < 2 ^ 31 → a = nI p → n = nI q → s2 < p + q)) → jFm E mX11_copy (d + 2) (x + 94) [.int (nI i), .int u, .int (nI k), .int a, .int n] S (fun r' S2 => r = r' ∧ INV S2 x M) := by
      intro r hr hc
      subst hr
      refine U_X11_copy hk ⟨fun c => absurd c hs1, fun _ => ⟨fun c => absurd c hs2, fun _ => ⟨hk, _, hM1.r4.1, hM1.r4.2.1, in4 i hi, fun c0 => absurd c0 n1, fun _ => ⟨in4 k hk4, fun _ => ⟨fun _ => ⟨fun _ => ⟨rfl, h.inv⟩, fun u0 => ⟨fun _ => ⟨rfl, h.inv⟩, fun a0 => ⟨fun _ => ⟨rfl, h.inv⟩, fun n0 => ⟨_, hM1.r5.1, hM1.r5.2.1, by rw [hM1.r5.2.2]; exact jin_nI hi (by omega), fun _ => ⟨rfl, h.inv⟩, fun g1 => ⟨by rw [hM1.r5.2.2]; exact jin_nI hk4 (by omega), fun g2 => ?_, fun _ => ⟨rfl, h.inv⟩⟩⟩⟩⟩⟩, fun c0 => absurd (by rw [ci, ck, a4, b4]; exact c3) c0⟩, fun c0 => absurd n2 c0⟩⟩⟩⟩
      exfalso
      obtain ⟨p, hp, ep⟩ := nI_of u0
      obtain ⟨q, hq, eq⟩ := nI_of n0
      obtain ⟨o, ho, eo⟩ := nI_of a0
      rw [ci, a6, ep, eq, jl_sum hp hq (by omega)] at g1
      rw [ck, b6, eo, eq] at g2
      have g2' : ¬ 0 < lg_cmp ((nI o).toInt64 + (nI q).toInt64) (nI s2).toInt64 := Int32.not_lt.mpr g2
      rw [jl_sum ho hq (by omega)] at g2'
      rcases hc with hc | hc | hc | hc | hc
      · exact u0 hc
      · exact n0 hc
      · exact a0 hc
      · exact g1 (hc p q hp hq ep eq)
      · exact g2' (hc o q ho hq eo eq)
    refine c_X6_hasPlaces k6 a1 a5 (fun hc => ⟨fun _ => ix _ rfl ?_, fun c => absurd rfl c⟩) (fun p q ep eq hpq => ⟨fun c => absurd c (by decide), fun _ => ⟨p6, ?_⟩⟩)
    · rcases hc with hc | hc | hc
      · exact Or.inl hc
      · exact Or.inr (Or.inl hc)
      · exact Or.inr (Or.inr (Or.inr (Or.inl hc)))
    refine c_X6_hasPlaces p6 b1 b5 (fun hc => ⟨fun _ => ix _ rfl ?_, fun c => absurd rfl c⟩) (fun o q' eo eq' hoq => ⟨fun c => absurd c (by decide), fun _ => ?_⟩)
    · rcases hc with hc | hc | hc
      · exact Or.inr (Or.inr (Or.inl hc))
      · exact Or.inr (Or.inl hc)
      · exact Or.inr (Or.inr (Or.inr (Or.inr hc)))
    subst ep; subst eq; subst eo
    have hq24 : q ≤ 24 := by omega
    obtain rfl : q = q' := by
      have hq' : q' ≤ 24 := by omega
      exact nI_inj (by omega) (by omega) eq'
    refine ⟨k6, _, r2, p6, _, q2, k12, p12, ⟨nI_pos (by omega), nI_pos (by omega), nI_pos (by omega), by rw [jcl (by omega), jcl (by omega), l24]; omega, by rw [jcl (by omega), jcl (by omega), q24]; omega⟩, ?_⟩
    rw [jcl (n := p) (by omega), jcl (n := o) (by omega), jcl (n := q) (by omega)]
    have c1 : jch S (jrow S (x + 67 + 2 * k) (va_cpy (ji S (x + 67 + 2 * i)) (ji S (x + 67 + 2 * k)) p o q)) (x + 67 + 2 * k) (x + 68 + 2 * k) := jch.row (by omega) (by omega)
    have e1 : ji (jrow S (x + 67 + 2 * k) (va_cpy (ji S (x + 67 + 2 * i)) (ji S (x + 67 + 2 * k)) p o q)) (x + 67 + 2 * k) = va_cpy (ji S (x + 67 + 2 * i)) (ji S (x + 67 + 2 * k)) p o q := ji_row_same _ _ _
    generalize jrow S (x + 67 + 2 * k) (va_cpy (ji S (x + 67 + 2 * i)) (ji S (x + 67 + 2 * k)) p o q) = S1 at c1 e1 ⊢
    have hMs := hM.keep c1 (by omega)
    have m1 := hMs.1
    have r100 : ji S1 (x + 100) = ji S (x + 100) := c1.2 _ (by omega)
    -- the second row of steps
    have lB : ∀ (S0 : jM), jch S1 S0 (x + 112) (x + 113) → (∀ j, j < q → ji S0 (x + 112) j = ji S (x + 100) (24 * i + p + j)) → ∀ (c e : Nat) (S2 : jM), e + c = q → jch S0 S2 (x + 100) (x + 101) → (∀ j, ji S2 (x + 100) j = if 24 * k + o ≤ j ∧ j < 24 * k + o + e then ji S0 (x + 112) (j - (24 * k + o)) else ji S (x + 100) j) → L_X11_copy_150 E d (fun r' S2 => nI q = r' ∧ INV S2 x M) (x + 94) (nI k) (nI o) (nI q) (nI e) S2 := by
      intro S0 c0 hc0 c
      induction c with
      | zero =>
        intro e S2 he c2 h2
        obtain rfl : e = q := by omega
        refine T_X11_copy_150 ⟨fun _ => ⟨rfl, ?_⟩, fun cc => absurd Int32.le_rfl cc⟩
        have s3 : jsame S S2 := c1.1.trans (c0.1.trans c2.1)
        have o4 : ∀ y, y ≠ x + 67 + 2 * k → y ≠ x + 100 → y ≠ x + 112 → ji S2 y = ji S y := fun y a b c => (c2.2 y (by omega)).trans ((c0.2 y (by omega)).trans (c1.2 y (by omega)))
        refine h.rst s3 (fun y hy => o4 y (by omega) (by omega) (by omega)) ⟨hI.keep s3 (by rw [o4 x (by omega) (by omega) (by omega)]) (by rw [o4 (x + 94) (by omega) (by omega) (by omega)]) (fun y hy => o4 y (by omega) (by omega) (by omega)), fun l hl => ?_, hSl.keep (fun y hy => o4 y (by omega) (by omega) (by omega)), hW.keep (by rw [o4 x (by omega) (by omega) (by omega)]) (by rw [o4 (x + 94) (by omega) (by omega) (by omega)]) (o4 _ (by omega) (by omega) (by omega)) (o4 _ (by omega) (by omega) (by omega)), hTp.keep (by rw [o4 (x + 60) (by omega) (by omega) (by omega)]) (by rw [o4 (x + 94) (by omega) (by omega) (by omega)]) (o4 _ (by omega) (by omega) (by omega)) (o4 _ (by omega) (by omega) (by omega))⟩
        obtain ⟨z, s9, d1, d2, d3, d4, d5, d6, d7⟩ := hS l hl
        refine ⟨z, s9, d1, d2, by rw [o4 _ (by omega) (by omega) (by omega)]; exact d3, by rw [o4 _ (by omega) (by omega) (by omega)]; exact d4, by rw [o4 _ (by omega) (by omega) (by omega)]; exact d5, by rw [o4 _ (by omega) (by omega) (by omega)]; exact d6, fun j hj => ?_⟩
        rw [h2 (24 * l + j)]
        by_cases hlk : l = k
        · subst hlk
          have e9 : ji S2 (x + 67 + 2 * l) = va_cpy (ji S (x + 67 + 2 * i)) (ji S (x + 67 + 2 * l)) p o e := by rw [c2.2 _ (by omega), c0.2 _ (by omega)]; exact e1
          rw [e9]
          by_cases hin : o ≤ j ∧ j < o + e
          · rw [pk_cpy_in hin.1 hin.2, if_pos (by omega), hc0 _ (by omega), show 24 * i + p + (24 * l + j - (24 * l + o)) = 24 * i + (p + (j - o)) by omega]
            exact a7 _ (by omega)
          · rw [pk_cpy_out (by omega), if_neg (by omega)]
            exact d7 j hj
        · rw [if_neg (by omega), o4 _ (by omega) (by omega) (by omega)]
          exact d7 j hj
      | succ c ih =>
        intro e S2 he c2 h2
        have m2 := (m1.same c0.1).same c2.1
        have e24 : ((24 : Int32) * nI k + nI o) + nI e = nI (24 * k + o + e) := by rw [nI_24, nI_add]
        refine T_X11_copy_150 ⟨fun cc => absurd cc (nI_ge (by omega) (by omega)), fun _ => ⟨m2.1, _, m2.r6.1, _, m2.r32.1, m2.r32.2.1, by rw [m2.r32.2.2]; exact jin_nI (by omega) (by omega), m2.r6.2.1, by rw [e24, m2.r6.2.2]; exact jin_nI (by omega) (by omega), ?_⟩⟩
        rw [e24, jcl (n := 24 * k + o + e) (by omega), jcl (n := e) (by omega), nI_1, c2.2 (x + 112) (by omega)]
        refine ih (e + 1) _ (by omega) (c2.trans (jch.put (by omega) (by omega))) (fun j => ?_)
        rw [ji_put]
        by_cases hj : j = 24 * k + o + e
        · rw [if_pos ⟨rfl, hj⟩, if_pos (by omega), hj, show 24 * k + o + e - (24 * k + o) = e by omega]
        · rw [if_neg (fun cc => hj cc.2), h2 j]
          by_cases hc : 24 * k + o ≤ j ∧ j < 24 * k + o + e
          · rw [if_pos hc, if_pos (by omega)]
          · rw [if_neg hc, if_neg (by omega)]
    have lA : ∀ (c e : Nat) (S2 : jM), e + c = q → jch S1 S2 (x + 112) (x + 113) → (∀ j, j < e → ji S2 (x + 112) j = ji S (x + 100) (24 * i + p + j)) → L_X11_copy_113 E d (fun r' S2 => nI q = r' ∧ INV S2 x M) (x + 94) (nI i) (nI p) (nI k) (nI o) (nI q) (nI e) S2 := by
      intro c
      induction c with
      | zero =>
        intro e S2 he c2 h2
        obtain rfl : e = q := by omega
        exact T_X11_copy_113 ⟨fun _ => lB S2 c2 h2 e 0 S2 (by omega) jch.rfl (fun j => by rw [if_neg (by omega), c2.2 (x + 100) (by omega), r100]), fun cc => absurd Int32.le_rfl cc⟩
      | succ c ih =>
        intro e S2 he c2 h2
        have m2 := m1.same c2.1
        have e24 : ((24 : Int32) * nI i + nI p) + nI e = nI (24 * i + p + e) := by rw [nI_24, nI_add]
        refine T_X11_copy_113 ⟨fun cc => absurd cc (nI_ge (by omega) (by omega)), fun _ => ⟨m2.1, _, m2.r32.1, _, m2.r6.1, m2.r6.2.1, by rw [e24, m2.r6.2.2]; exact jin_nI (by omega) (by omega), m2.r32.2.1, by rw [m2.r32.2.2]; exact jin_nI (by omega) (by omega), ?_⟩⟩
        rw [e24, jcl (n := 24 * i + p + e) (by omega), jcl (n := e) (by omega), nI_1, c2.2 (x + 100) (by omega), r100]
        refine ih (e + 1) _ (by omega) (c2.trans (jch.put (by omega) (by omega))) (fun j hj => ?_)
        rw [ji_put]
        by_cases hje : j = e
        · rw [if_pos ⟨rfl, hje⟩, hje]
        · rw [if_neg (fun cc => hje cc.2)]; exact h2 j (by omega)
    have o98 : ji S1 (x + 98) = ji S (x + 98) := c1.2 _ (by omega)
    have o99 : ji S1 (x + 99) = ji S (x + 99) := c1.2 _ (by omega)
    refine U_X11_copy m1.1 ⟨fun c => absurd c hs1, fun _ => ⟨fun c => absurd c hs2, fun _ => ⟨m1.1, _, m1.r4.1, m1.r4.2.1, by rw [m1.r4.2.2]; exact jin_nI hi (by omega), fun c0 => absurd (by rw [o98] at c0; exact c0) n1, fun _ => ⟨by rw [m1.r4.2.2]; exact jin_nI hk4 (by omega), fun _ => ⟨fun _ => ⟨fun c0 => absurd c0 (nI_pos (by omega)), fun _ => ⟨fun c0 => absurd c0 (nI_pos (by omega)), fun _ => ⟨fun c0 => absurd c0 (nI_pos (by omega)), fun _ => ⟨_, m1.r5.1, m1.r5.2.1, by rw [m1.r5.2.2]; exact jin_nI hi (by omega), fun g1 => ?_, fun _ => ⟨by rw [m1.r5.2.2]; exact jin_nI hk4 (by omega), fun _ => lA q 0 S1 (by omega) jch.rfl (fun j hj => absurd hj (Nat.not_lt_zero _)), fun g2 => ?_⟩⟩⟩⟩⟩, fun c0 => absurd (by rw [o98, ci, ck, a4, b4]; exact c3) c0⟩, fun c0 => absurd (by rw [o98]; exact n2) c0⟩⟩⟩⟩
    · exfalso
      rw [ci, o99, a6, jl_sum (by omega) (by omega) (by omega)] at g1
      omega
    · exfalso
      rw [ck, o99, b6] at g2
      have g3 : 0 < lg_cmp ((nI o).toInt64 + (nI q).toInt64) (nI s2).toInt64 := Int32.not_le.mp g2
      rw [jl_sum (by omega) (by omega) (by omega)] at g3
      omega
  · exact U_X11_copy hk ⟨fun c => absurd c hs1, fun _ => ⟨fun c => absurd c hs2, fun _ => ⟨hk, _, hM1.r4.1, hM1.r4.2.1, in4 i hi, fun c0 => absurd c0 n1, fun _ => ⟨in4 k hk4, fun _ => ⟨fun c0 => absurd (by rw [ci, ck, a4, b4] at c0; exact c0) c3, fun _ => ⟨rfl, h.inv⟩⟩, fun c0 => absurd n2 c0⟩⟩⟩⟩
end jSlots
end
section
/-! SLOTS: LAY, ASK, ITEM, REST on both sides -/
def SL1 (S : jM) (x i : Nat) : Prop := ∃ th, th < 4 ∧ ji S (x + 74 + 4 * i) 0 = nI th ∧ ji S (x + 101) i = nI th ∧ (th = 1 → (∃ k, k < 6 ∧ ji S (x + 75 + 4 * i) 0 = nI k ∧ ji S (x + 102) i = nI k) ∧ ji S (x + 103) i = jworth (ji S (x + 75 + 4 * i) 0) (ji S (x + 75 + 4 * i) 4)) ∧ (th = 2 → (∃ n, n ≤ 24 ∧ ji S (x + 76 + 4 * i) 1 = nI n ∧ ji S (x + 104) i = nI n) ∧ ∀ j, j < 24 → ji S (x + 77 + 4 * i) j = ji S (x + 105) (24 * i + j)) ∧ (th = 3 → ji S (x + 74 + 4 * i) 3 = ji S (x + 102) i)
section jLay
variable {E : jEnv} {d : Nat} {S S' S2 : jM} {x sz M : Nat} {v : Nat → Int32}
theorem IV.slot {i : Nat} (h : IV S x sz M v) (hi : i < 5) (s : jsame S S2) (o : ∀ y, (y < x + 74 + 4 * i ∨ x + 78 + 4 * i ≤ y) → (y < x + 101 ∨ x + 106 ≤ y) → ji S2 y = ji S y) (ol : ∀ l, l < 5 → l ≠ i → ji S2 (x + 101) l = ji S (x + 101) l ∧ ji S2 (x + 102) l = ji S (x + 102) l ∧ ji S2 (x + 103) l = ji S (x + 103) l ∧ ji S2 (x + 104) l = ji S (x + 104) l ∧ ∀ j, j < 24 → ji S2 (x + 105) (24 * l + j) = ji S (x + 105) (24 * l + j)) (h1 : SL1 S2 x i) : INV S2 x M := by
  obtain ⟨⟨hX, hM, hg⟩, hC, hGL, hjn, hT, hI, hS, hSl, hW, hTp⟩ := id h
  refine h.rst s (fun y hy => o y (by omega) (by omega)) ⟨hI.keep s (by rw [o x (by omega) (by omega)]) (by rw [o (x + 94) (by omega) (by omega)]) (fun y hy => o y (by omega) (by omega)), hS.keep (fun y hy => o y (by omega) (by omega)), fun l hl => ?_, hW.keep (by rw [o x (by omega) (by omega)]) (by rw [o (x + 94) (by omega) (by omega)]) (o _ (by omega) (by omega)) (o _ (by omega) (by omega)), hTp.keep (by rw [o (x + 60) (by omega) (by omega)]) (by rw [o (x + 94) (by omega) (by omega)]) (o _ (by omega) (by omega)) (o _ (by omega) (by omega))⟩
  by_cases e : l = i
  · rw [e]; exact h1
  · obtain ⟨b1, b2, b3, b4, b5⟩ := ol l hl e
    have p0 := o (x + 74 + 4 * l) (by omega) (by omega)
    have p1 := o (x + 75 + 4 * l) (by omega) (by omega)
    have p2 := o (x + 76 + 4 * l) (by omega) (by omega)
    have p3 := o (x + 77 + 4 * l) (by omega) (by omega)
    obtain ⟨th, a1, a2, a3, a4, a5, a6⟩ := hSl l hl
    rw [p0, p1, p2, p3, b1, b2, b3, b4]
    refine ⟨th, a1, a2, a3, a4, fun c => ⟨(a5 c).1, fun j hj => ?_⟩, a6⟩
    rw [b5 j hj]; exact (a5 c).2 j hj
theorem c_X11_lay {Q : Int32 → jM → Prop} {i : Nat} {u t : Int32} (hM : MR S (x + 94) v) (hz0 : v 0 = nI sz) (hz : sz ≤ 9) (hi : i < 5)
    (hb : ((u ≠ 0 ∧ u ≠ 1 ∧ u ≠ 2 ∧ u ≠ 3) ∨ (u = 1 ∧ ∀ n, n < sz → t ≠ nI n) ∨ (u = 2 ∧ jwi t 4 = 0)) → Q kBAD S)
    (h0 : u = 0 ∨ u = 3 → Q (ji S (x + 101) i) (jput (jput (jput S (x + 101) i u) (x + 102) i t) (x + 103) i 0))
    (h1 : u = 1 → ∀ n, n < sz → t = nI n → Q (ji S (x + 101) i) (jput (jput (jput S (x + 101) i u) (x + 102) i (mfv v n 0)) (x + 103) i (jworth (mfv v n 0) (mfv v n 4))))
    (h2 : u = 2 → ∀ k, k < 4 → t = nI k → ¬ 0 ≤ ji S (x + 98) k → Q kNOTHING S)
    (h3 : u = 2 → ∀ k, k < 4 → t = nI k → 0 ≤ ji S (x + 98) k → ∀ S2, jsame S S2 → (∀ y, (y < x + 101 ∨ x + 106 ≤ y) → ji S2 y = ji S y) → (∀ l, l < 5 → l ≠ i → ji S2 (x + 101) l = ji S (x + 101) l ∧ ji S2 (x + 102) l = ji S (x + 102) l ∧ ji S2 (x + 103) l = ji S (x + 103) l ∧ ji S2 (x + 104) l = ji S (x + 104) l ∧ ∀ j, j < 24 → ji S2 (x + 105) (24 * l + j) = ji S (x + 105) (24 * l + j)) → ji S2 (x + 101) i = 2 → ji S2 (x + 104) i = ji S (x + 99) k → (∀ j, j < 24 → ji S2 (x + 105) (24 * i + j) = ji S (x + 100) (24 * k + j)) → Q (ji S (x + 101) i) S2) : jFm E mX11_lay (d + 2) (x + 94) [.int (nI i), .int u, .int t] S Q := by
  have e : jisslot (nI i) ≠ 0 := by rw [jisslot_wi, show (5 : Int32) = nI 5 from rfl, jwi_at hi (by omega)]; decide
  have m := hM.1
  have ci : Int32.toNatClampNeg (nI i) = i := jcl (by omega)
  have i5 : ∀ n, n = 5 → vp_in (nI i) n := fun n hn => by rw [hn]; exact jin_nI hi (by omega)
  have i7 := i5 _ m.r7.2.2
  have i8 := i5 _ m.r8.2.2
  have i9 := i5 _ m.r9.2.2
  have i10 := i5 _ m.r10.2.2
  refine U_X11_lay hM.k ⟨fun c0 => ⟨fun c => absurd c e, fun _ => ⟨fun c2 => absurd (c0.symm.trans c2) (by decide), fun _ => ⟨m.1, _, m.r7.1, m.r7.2.1, i7, _, m.r8.1, fun c1 => absurd (c0.symm.trans c1) (by decide), fun _ => ⟨m.r8.2.1, i8, _, m.r9.1, m.r9.2.1, i9, ?_⟩⟩⟩⟩, fun c0 => ⟨fun c3 => ⟨fun c => absurd c e, fun _ => ⟨fun c2 => absurd (c3.symm.trans c2) (by decide), fun _ => ⟨m.1, _, m.r7.1, m.r7.2.1, i7, _, m.r8.1, fun c1 => absurd (c3.symm.trans c1) (by decide), fun _ => ⟨m.r8.2.1, i8, _, m.r9.1, m.r9.2.1, i9, ?_⟩⟩⟩⟩, fun c3 => ⟨fun c1 => ⟨m.1, c_X11_isMaster hM hz0 hz (fun n hn en => ⟨fun c => absurd c (by decide), fun _ => ⟨fun c => absurd c e, fun _ => ⟨fun c2 => absurd (c1.symm.trans c2) (by decide), fun _ => ⟨m.1, _, m.r7.1, m.r7.2.1, i7, _, m.r8.1, ?_⟩⟩⟩⟩) (fun hn => ⟨fun _ => ⟨fun c2 => absurd (c1.symm.trans c2) (by decide), fun _ => ⟨fun _ => hb (Or.inr (Or.inl ⟨c1, hn⟩)), fun _ => hb (Or.inr (Or.inl ⟨c1, hn⟩))⟩⟩, fun c => absurd rfl c⟩)⟩, fun c1 => ⟨fun c2 => ⟨fun cs => ⟨fun c => absurd c e, fun _ => hb (Or.inr (Or.inr ⟨c2, (jissheet_wi t).symm.trans cs⟩))⟩, fun cs => ⟨fun c => absurd c e, fun _ => ?_⟩⟩, fun c2 => ⟨fun c => absurd c e, fun _ => hb (Or.inl ⟨c0, c1, c2, c3⟩)⟩⟩⟩⟩⟩
  · rw [ci]; exact h0 (Or.inl c0)
  · rw [ci]; exact h0 (Or.inr c3)
  · have q1 : jch S (jput S (x + 101) (Int32.toNatClampNeg (nI i)) u) (x + 101) (x + 102) := jch.put (by omega) (by omega)
    have hM1 := hM.keep q1 (by omega)
    have m1 := hM1.1
    subst en
    refine c_X11_of (f := 0) hM1 (by omega) (by omega) ⟨m1.r8.2.1, i8, m1.1, _, m1.r9.1, ?_⟩
    have q2 : jch (jput S (x + 101) (Int32.toNatClampNeg (nI i)) u) (jput (jput S (x + 101) (Int32.toNatClampNeg (nI i)) u) (x + 102) (Int32.toNatClampNeg (nI i)) (mfv v n 0)) (x + 102) (x + 103) := jch.put (by omega) (by omega)
    have hM2 := hM1.keep q2 (by omega)
    refine c_X11_worth hM2 (by omega) ⟨hM2.1.r9.2.1, i9, ?_⟩
    rw [ci]; exact h1 c1 n hn rfl
  · rcases jwi_cases t (b := 4) 4 rfl (by omega) with ⟨k, hk, rfl, -⟩ | ⟨-, e4⟩
    · have ck : Int32.toNatClampNeg (nI k) = k := jcl (by omega)
      refine ⟨m.1, _, m.r4.1, m.r4.2.1, by rw [m.r4.2.2]; exact jin_nI hk (by omega), fun c => ⟨_, m.r7.1, m.r7.2.1, i7, _, m.r8.1, m.r8.2.1, i8, _, m.r9.1, m.r9.2.1, i9, _, m.r10.1, _, m.r5.1, m.r5.2.1, by rw [m.r5.2.2]; exact jin_nI hk (by omega), m.r10.2.1, i10, ?_⟩, fun c => h2 c2 k hk rfl (by rw [ck] at c; exact c)⟩
      rw [ck] at c
      rw [ci, ck]
      have q0 : jch S (jput (jput (jput (jput S (x + 101) i u) (x + 102) i (nI k)) (x + 103) i 0) (x + 104) i (ji (jput (jput (jput S (x + 101) i u) (x + 102) i (nI k)) (x + 103) i 0) (x + 99) k)) (x + 101) (x + 105) := (((jch.put (by omega) (by omega)).trans (jch.put (by omega) (by omega))).trans (jch.put (by omega) (by omega))).trans (jch.put (by omega) (by omega))
      have f4 : ∀ l, ji (jput (jput (jput (jput S (x + 101) i u) (x + 102) i (nI k)) (x + 103) i 0) (x + 104) i (ji (jput (jput (jput S (x + 101) i u) (x + 102) i (nI k)) (x + 103) i 0) (x + 99) k)) (x + 104) l = if l = i then ji S (x + 99) k else ji S (x + 104) l := by
        intro l
        rw [ji_put, ji_put_ne _ _ _ _ (show x + 99 ≠ x + 103 by omega), ji_put_ne _ _ _ _ (show x + 99 ≠ x + 102 by omega), ji_put_ne _ _ _ _ (show x + 99 ≠ x + 101 by omega), ji_put_ne _ _ _ _ (show x + 104 ≠ x + 103 by omega), ji_put_ne _ _ _ _ (show x + 104 ≠ x + 102 by omega), ji_put_ne _ _ _ _ (show x + 104 ≠ x + 101 by omega)]
        by_cases hl : l = i
        · rw [if_pos ⟨rfl, hl⟩, if_pos hl]
        · rw [if_neg (fun c => hl c.2), if_neg hl]
      have f1 : ∀ l, ji (jput (jput (jput (jput S (x + 101) i u) (x + 102) i (nI k)) (x + 103) i 0) (x + 104) i (ji (jput (jput (jput S (x + 101) i u) (x + 102) i (nI k)) (x + 103) i 0) (x + 99) k)) (x + 101) l = if l = i then u else ji S (x + 101) l := by
        intro l
        rw [ji_put_ne _ _ _ _ (show x + 101 ≠ x + 104 by omega), ji_put_ne _ _ _ _ (show x + 101 ≠ x + 103 by omega), ji_put_ne _ _ _ _ (show x + 101 ≠ x + 102 by omega), ji_put]
        by_cases hl : l = i
        · rw [if_pos ⟨rfl, hl⟩, if_pos hl]
        · rw [if_neg (fun c => hl c.2), if_neg hl]
      have f2 : ∀ l, l ≠ i → ji (jput (jput (jput (jput S (x + 101) i u) (x + 102) i (nI k)) (x + 103) i 0) (x + 104) i (ji (jput (jput (jput S (x + 101) i u) (x + 102) i (nI k)) (x + 103) i 0) (x + 99) k)) (x + 102) l = ji S (x + 102) l := by
        intro l hl
        rw [ji_put_ne _ _ _ _ (show x + 102 ≠ x + 104 by omega), ji_put_ne _ _ _ _ (show x + 102 ≠ x + 103 by omega), ji_put, if_neg (fun c => hl c.2), ji_put_ne _ _ _ _ (show x + 102 ≠ x + 101 by omega)]
      have f3 : ∀ l, l ≠ i → ji (jput (jput (jput (jput S (x + 101) i u) (x + 102) i (nI k)) (x + 103) i 0) (x + 104) i (ji (jput (jput (jput S (x + 101) i u) (x + 102) i (nI k)) (x + 103) i 0) (x + 99) k)) (x + 103) l = ji S (x + 103) l := by
        intro l hl
        rw [ji_put_ne _ _ _ _ (show x + 103 ≠ x + 104 by omega), ji_put, if_neg (fun c => hl c.2), ji_put_ne _ _ _ _ (show x + 103 ≠ x + 102 by omega), ji_put_ne _ _ _ _ (show x + 103 ≠ x + 101 by omega)]
      generalize jput (jput (jput (jput S (x + 101) i u) (x + 102) i (nI k)) (x + 103) i 0) (x + 104) i (ji (jput (jput (jput S (x + 101) i u) (x + 102) i (nI k)) (x + 103) i 0) (x + 99) k) = S0 at q0 f1 f2 f3 f4 ⊢
      have m0 := m.same q0.1
      have lp : ∀ (c e : Nat) (S2 : jM), e + c = 24 → jch S0 S2 (x + 105) (x + 106) → (∀ j, ji S2 (x + 105) j = if 24 * i ≤ j ∧ j < 24 * i + e then ji S (x + 100) (24 * k + (j - 24 * i)) else ji S (x + 105) j) → L_X11_lay_150 E d Q (x + 94) (nI i) (nI k) (ji S (x + 101) i) (nI e) S2 := by
        intro c
        induction c with
        | zero =>
          intro e S2 he c2' r2
          obtain rfl : e = 24 := by omega
          refine T_X11_lay_150 ⟨fun _ => ?_, fun cc => absurd (by decide) cc⟩
          have s1 : ∀ y, y < x + 105 ∨ x + 106 ≤ y → ji S2 y = ji S0 y := fun y hy => c2'.2 y hy
          refine h3 c2 k hk rfl c S2 (q0.1.trans c2'.1) (fun y hy => (s1 y (by omega)).trans (q0.2 y (by omega))) (fun l hl hne => ⟨?_, ?_, ?_, ?_, fun j hj => ?_⟩) ?_ ?_ (fun j hj => ?_)
          · rw [s1 _ (by omega), f1, if_neg hne]
          · rw [s1 _ (by omega), f2 l hne]
          · rw [s1 _ (by omega), f3 l hne]
          · rw [s1 _ (by omega), f4, if_neg hne]
          · rw [r2, if_neg (by omega)]
          · rw [s1 _ (by omega), f1, if_pos rfl]; exact c2
          · rw [s1 _ (by omega), f4, if_pos rfl]
          · rw [r2, if_pos (by omega), show 24 * i + j - 24 * i = j by omega]
        | succ c ih =>
          intro e S2 he c2' r2
          have m2 := m0.same c2'.1
          refine T_X11_lay_150 ⟨fun cc => absurd cc (nI_ge (b := 24) (by omega) (by omega)), fun _ => ⟨m2.1, _, m2.r11.1, _, m2.r6.1, m2.r6.2.1, by rw [nI_24, m2.r6.2.2]; exact jin_nI (by omega) (by omega), m2.r11.2.1, by rw [nI_24, m2.r11.2.2]; exact jin_nI (by omega) (by omega), ?_⟩⟩
          rw [nI_24, nI_24, jcl (n := 24 * i + e) (by omega), jcl (n := 24 * k + e) (by omega), nI_1, c2'.2 (x + 100) (by omega), q0.2 (x + 100) (by omega)]
          refine ih (e + 1) _ (by omega) (c2'.trans (jch.put (by omega) (by omega))) (fun j => ?_)
          rw [ji_put]
          by_cases hj : j = 24 * i + e
          · rw [if_pos ⟨rfl, hj⟩, if_pos (by omega), hj, show 24 * i + e - 24 * i = e by omega]
          · rw [if_neg (fun cc => hj cc.2), r2 j]
            by_cases hc : 24 * i ≤ j ∧ j < 24 * i + e
            · rw [if_pos hc, if_pos (by omega)]
            · rw [if_neg hc, if_neg (by omega)]
      exact lp 24 0 S0 (by omega) jch.rfl (fun j => by rw [if_neg (by omega)]; rw [q0.2 (x + 105) (by omega)])
    · exact absurd ((jissheet_wi t).trans e4) cs
theorem g_layBad {Q : Int32 → jM → Prop} {w u t : Int32} (hM : MR S (x + 94) v) (hz0 : v 0 = nI sz) (hz : sz ≤ 9) (hs : jwi w 5 = 0) (hq : Q kBAD S) : jFm E mX11_lay (d + 2) (x + 94) [.int w, .int u, .int t] S Q := by
  have e : jisslot w = 0 := (jisslot_wi w).trans hs
  refine U_X11_lay hM.k ⟨fun _ => ⟨fun _ => hq, fun c => absurd e c⟩, fun c0 => ⟨fun _ => ⟨fun _ => hq, fun c => absurd e c⟩, fun c3 => ⟨fun c1 => ⟨hM.k, c_X11_isMaster hM hz0 hz (fun n hn en => ⟨fun c => absurd c (by decide), fun _ => ⟨fun _ => hq, fun c => absurd e c⟩⟩) (fun hn => ⟨fun _ => ⟨fun c2 => absurd (c1.symm.trans c2) (by decide), fun _ => ⟨fun _ => hq, fun c => absurd e c⟩⟩, fun c => absurd rfl c⟩)⟩, fun c1 => ⟨fun c2 => ⟨fun _ => ⟨fun _ => hq, fun c => absurd e c⟩, fun _ => ⟨fun _ => hq, fun c => absurd e c⟩⟩, fun c2 => ⟨fun _ => hq, fun c => absurd e c⟩⟩⟩⟩⟩
theorem Q_lay {w u t : Int32} (h : IV S x sz M v) : jFi E mX10_lay (d + 3) 0 0 [.ref x, .int w, .int u, .int t] S (fun r S1 => jFm E mX11_lay (d + 3) (x + 94) [.int w, .int u, .int t] S1 (fun r' S2 => r = r' ∧ INV S2 x M)) := by
  obtain ⟨⟨hX, hM, hg⟩, hC, hGL, hjn, hT, hI, hS, hSl, hW, hTp⟩ := id h
  have hz0 := hX.v0
  have hz := hX.sz9
  refine T_X10_lay ⟨hX.1, c_X10_findSlot hC (fun c => ⟨fun _ => g_layBad hM hz0 hz c ⟨rfl, h.inv⟩, fun b e => absurd e (by simp)⟩) (fun i hi e e1 => ⟨fun c => absurd c (by simp), fun b eb => ?_⟩)⟩
  obtain rfl : x + 74 + 4 * i = b := Option.some.inj eb
  subst e
  obtain ⟨th, t1, t2, t3, t4, t5, t6⟩ := hSl i hi
  obtain ⟨k7, r1, r2, k2, k6, r22, k12, l24⟩ := hC.sl i hi
  have was : ∀ S1 : jM, jch S S1 (x + 74 + 4 * i) (x + 78 + 4 * i) → ji S (x + 74 + 4 * i) 0 = ji S1 (x + 101) i := fun S1 c => by rw [c.2 _ (by omega), t2, t3]
  have out : ∀ S1 S2 : jM, jch S S1 (x + 74 + 4 * i) (x + 78 + 4 * i) → jsame S1 S2 → (∀ y, (y < x + 101 ∨ x + 106 ≤ y) → ji S2 y = ji S1 y) → (∀ l, l < 5 → l ≠ i → ji S2 (x + 101) l = ji S1 (x + 101) l ∧ ji S2 (x + 102) l = ji S1 (x + 102) l ∧ ji S2 (x + 103) l = ji S1 (x + 103) l ∧ ji S2 (x + 104) l = ji S1 (x + 104) l ∧ ∀ j, j < 24 → ji S2 (x + 105) (24 * l + j) = ji S1 (x + 105) (24 * l + j)) → SL1 S2 x i → INV S2 x M := by
    intro S1 S2 c s o ol hs
    refine h.slot hi (c.1.trans s) (fun y p q => (o y q).trans (c.2 y p)) (fun l hl hne => ?_) hs
    rw [← c.2 (x + 101) (by omega), ← c.2 (x + 102) (by omega), ← c.2 (x + 103) (by omega), ← c.2 (x + 104) (by omega), ← c.2 (x + 105) (by omega)]
    exact ol l hl hne
  have out3 : ∀ (S1 : jM) (a b c : Int32), jch S S1 (x + 74 + 4 * i) (x + 78 + 4 * i) → SL1 (jput (jput (jput S1 (x + 101) i a) (x + 102) i b) (x + 103) i c) x i → INV (jput (jput (jput S1 (x + 101) i a) (x + 102) i b) (x + 103) i c) x M := by
    intro S1 a b c c1 hs
    refine out S1 _ c1 ⟨rfl, rfl, rfl, rfl⟩ (fun y hy => ?_) (fun l hl hne => ⟨?_, ?_, ?_, ?_, fun j hj => ?_⟩) hs
    · rw [ji_put_ne _ _ _ _ (by omega), ji_put_ne _ _ _ _ (by omega), ji_put_ne _ _ _ _ (by omega)]
    · rw [ji_put_ne _ _ _ _ (by omega), ji_put_ne _ _ _ _ (by omega), ji_put, if_neg (fun q => hne q.2)]
    · rw [ji_put_ne _ _ _ _ (by omega), ji_put, if_neg (fun q => hne q.2), ji_put_ne _ _ _ _ (by omega)]
    · rw [ji_put, if_neg (fun q => hne q.2), ji_put_ne _ _ _ _ (by omega), ji_put_ne _ _ _ _ (by omega)]
    · rw [ji_put_ne _ _ _ _ (by omega), ji_put_ne _ _ _ _ (by omega), ji_put_ne _ _ _ _ (by omega)]
    · rw [ji_put_ne _ _ _ _ (by omega), ji_put_ne _ _ _ _ (by omega), ji_put_ne _ _ _ _ (by omega)]
  have p1 : ∀ (S1 : jM) (a b c : Int32), ji (jput (jput (jput S1 (x + 101) i a) (x + 102) i b) (x + 103) i c) (x + 101) i = a := fun S1 a b c => by rw [ji_put_ne _ _ _ _ (by omega), ji_put_ne _ _ _ _ (by omega), ji_put_same]
  have p2 : ∀ (S1 : jM) (a b c : Int32), ji (jput (jput (jput S1 (x + 101) i a) (x + 102) i b) (x + 103) i c) (x + 102) i = b := fun S1 a b c => by rw [ji_put_ne _ _ _ _ (by omega), ji_put_same]
  have p3 : ∀ (S1 : jM) (a b c : Int32) (y : Nat), y < x + 101 → ji (jput (jput (jput S1 (x + 101) i a) (x + 102) i b) (x + 103) i c) y = ji S1 y := fun S1 a b c y hy => by rw [ji_put_ne _ _ _ _ (by omega), ji_put_ne _ _ _ _ (by omega), ji_put_ne _ _ _ _ (by omega)]
  refine ⟨k7, fun c => ?_, fun c => ⟨hX.1, T_X10_layMaster ⟨hX.1, x + 1, hX.2.1, hX.k3, x + 2, hX.r0, hX.g.1.1, c_X0_find hX.g.1 hX.g.2.1 hz (fun n hn en => ⟨fun c => absurd c (by simp), fun b eb => ?_⟩) (fun hn => ⟨fun _ => ?_, fun b e => absurd e (by simp)⟩)⟩⟩, fun c => ⟨hX.1, T_X10_laySheet ⟨hX.1, c_X10_findSheet hC (fun c4 => ⟨fun _ => ?_, fun b e => absurd e (by simp)⟩) (fun k hk4 e e1 => ⟨fun c => absurd c (by simp), fun b eb => ?_⟩)⟩⟩, fun c => ?_, fun c0 c1 c2 c3 => ?_⟩
  · -- nothing
    subst c
    have c1 : jch S (jput S (x + 74 + 4 * i) 0 0) (x + 74 + 4 * i) (x + 78 + 4 * i) := jch.put (by omega) (by omega)
    rw [was _ c1]
    refine c_X11_lay (hM.keep c1 (by omega)) hz0 hz hi (fun c => ?_) (fun _ => ⟨rfl, ?_⟩) (fun c => absurd c (by decide)) (fun c => absurd c (by decide)) (fun c => absurd c (by decide))
    · rcases c with c | c | c
      · exact absurd rfl c.1
      · exact absurd c.1 (by decide)
      · exact absurd c.1 (by decide)
    · refine out3 _ _ _ _ c1 ⟨0, by omega, ?_, p1 _ _ _ _, fun c => absurd c (by omega), fun c => absurd c (by omega), fun c => absurd c (by omega)⟩
      rw [p3 _ _ _ _ _ (by omega), ji_put_same]; rfl
  · -- a master
    obtain rfl : x + 2 + 2 + n = b := Option.some.inj eb
    subst c
    subst en
    refine ⟨k7, _, r1, k2, c_X2_become k2 (hX.g.1.2.2.2.2 n (by omega)).2 ?_ ?_⟩
    · rw [ji_put_ne _ _ _ _ (by omega), XR.ms hX (by omega) (by omega)]
      exact hg.de (by omega)
    · have c1 : jch S (jrow (jput S (x + 74 + 4 * i) 0 1) (x + 74 + 4 * i + 1) (mrow (ji (jput S (x + 74 + 4 * i) 0 1) (x + 74 + 4 * i + 1)) (ji (jput S (x + 74 + 4 * i) 0 1) (x + 2 + 2 + n) 0) (ji (jput S (x + 74 + 4 * i) 0 1) (x + 2 + 2 + n) 1) (ji (jput S (x + 74 + 4 * i) 0 1) (x + 2 + 2 + n) 2) (ji (jput S (x + 74 + 4 * i) 0 1) (x + 2 + 2 + n) 3) (ji (jput S (x + 74 + 4 * i) 0 1) (x + 2 + 2 + n) 4) (ji (jput S (x + 74 + 4 * i) 0 1) (x + 2 + 2 + n) 5) (ji (jput S (x + 74 + 4 * i) 0 1) (x + 2 + 2 + n) 6))) (x + 74 + 4 * i) (x + 78 + 4 * i) := (jch.put (by omega) (by omega)).trans (jch.row (by omega) (by omega))
      have g0 : ji (jrow (jput S (x + 74 + 4 * i) 0 1) (x + 74 + 4 * i + 1) (mrow (ji (jput S (x + 74 + 4 * i) 0 1) (x + 74 + 4 * i + 1)) (ji (jput S (x + 74 + 4 * i) 0 1) (x + 2 + 2 + n) 0) (ji (jput S (x + 74 + 4 * i) 0 1) (x + 2 + 2 + n) 1) (ji (jput S (x + 74 + 4 * i) 0 1) (x + 2 + 2 + n) 2) (ji (jput S (x + 74 + 4 * i) 0 1) (x + 2 + 2 + n) 3) (ji (jput S (x + 74 + 4 * i) 0 1) (x + 2 + 2 + n) 4) (ji (jput S (x + 74 + 4 * i) 0 1) (x + 2 + 2 + n) 5) (ji (jput S (x + 74 + 4 * i) 0 1) (x + 2 + 2 + n) 6))) (x + 74 + 4 * i) 0 = 1 := by rw [ji_row_ne _ _ _ (by omega), ji_put_same]
      have g1 : ji (jrow (jput S (x + 74 + 4 * i) 0 1) (x + 74 + 4 * i + 1) (mrow (ji (jput S (x + 74 + 4 * i) 0 1) (x + 74 + 4 * i + 1)) (ji (jput S (x + 74 + 4 * i) 0 1) (x + 2 + 2 + n) 0) (ji (jput S (x + 74 + 4 * i) 0 1) (x + 2 + 2 + n) 1) (ji (jput S (x + 74 + 4 * i) 0 1) (x + 2 + 2 + n) 2) (ji (jput S (x + 74 + 4 * i) 0 1) (x + 2 + 2 + n) 3) (ji (jput S (x + 74 + 4 * i) 0 1) (x + 2 + 2 + n) 4) (ji (jput S (x + 74 + 4 * i) 0 1) (x + 2 + 2 + n) 5) (ji (jput S (x + 74 + 4 * i) 0 1) (x + 2 + 2 + n) 6))) (x + 75 + 4 * i) 0 = mfv v n 0 := by
        rw [show x + 75 + 4 * i = x + 74 + 4 * i + 1 by omega, ji_row_same]
        show ji (jput S (x + 74 + 4 * i) 0 1) (x + 2 + 2 + n) 0 = _
        rw [ji_put_ne _ _ _ _ (by omega), XR.ms hX (by omega) (by omega)]
      have g4 : ji (jrow (jput S (x + 74 + 4 * i) 0 1) (x + 74 + 4 * i + 1) (mrow (ji (jput S (x + 74 + 4 * i) 0 1) (x + 74 + 4 * i + 1)) (ji (jput S (x + 74 + 4 * i) 0 1) (x + 2 + 2 + n) 0) (ji (jput S (x + 74 + 4 * i) 0 1) (x + 2 + 2 + n) 1) (ji (jput S (x + 74 + 4 * i) 0 1) (x + 2 + 2 + n) 2) (ji (jput S (x + 74 + 4 * i) 0 1) (x + 2 + 2 + n) 3) (ji (jput S (x + 74 + 4 * i) 0 1) (x + 2 + 2 + n) 4) (ji (jput S (x + 74 + 4 * i) 0 1) (x + 2 + 2 + n) 5) (ji (jput S (x + 74 + 4 * i) 0 1) (x + 2 + 2 + n) 6))) (x + 75 + 4 * i) 4 = mfv v n 4 := by
        rw [show x + 75 + 4 * i = x + 74 + 4 * i + 1 by omega, ji_row_same]
        show ji (jput S (x + 74 + 4 * i) 0 1) (x + 2 + 2 + n) 4 = _
        rw [ji_put_ne _ _ _ _ (by omega), XR.ms hX (by omega) (by omega)]
      generalize jrow (jput S (x + 74 + 4 * i) 0 1) (x + 74 + 4 * i + 1) _ = S1 at c1 g0 g1 g4 ⊢
      rw [was _ c1]
      refine c_X11_lay (hM.keep c1 (by omega)) hz0 hz hi (fun c => ?_) (fun c => ?_) (fun _ n' hn' en' => ⟨rfl, ?_⟩) (fun c => absurd c (by decide)) (fun c => absurd c (by decide))
      · rcases c with c | c | c
        · exact absurd rfl c.2.1
        · exact absurd rfl (c.2 n hn)
        · exact absurd c.1 (by decide)
      · rcases c with c | c
        · exact absurd c (by decide)
        · exact absurd c (by decide)
      · obtain rfl : n = n' := nI_inj (by omega) (by omega) en'
        obtain ⟨k, hk, ek⟩ := hg.kd (i := n) (by omega)
        refine out3 _ _ _ _ c1 ⟨1, by omega, ?_, p1 _ _ _ _, fun _ => ⟨⟨k, hk, ?_, (p2 _ _ _ _).trans ek⟩, ?_⟩, fun c => absurd c (by omega), fun c => absurd c (by omega)⟩
        · rw [p3 _ _ _ _ _ (by omega), g0]; rfl
        · rw [p3 _ _ _ _ _ (by omega), g1]; exact ek
        · rw [ji_put_same, p3 _ _ _ _ _ (by omega), g1, g4]
  · subst c
    refine c_X11_lay hM hz0 hz hi (fun _ => ⟨rfl, h.inv⟩) (fun c => ?_) (fun _ n hn' en' => absurd en' (hn n hn')) (fun c => absurd c (by decide)) (fun c => absurd c (by decide))
    rcases c with c | c
    · exact absurd c (by decide)
    · exact absurd c (by decide)
  · subst c
    have no : ∀ k, k < 4 → t ≠ nI k := fun k hk e => by
      rw [e, show (4 : Int32) = nI 4 from rfl, jwi_at hk (by omega)] at c4
      exact absurd c4 (by decide)
    refine c_X11_lay hM hz0 hz hi (fun _ => ⟨rfl, h.inv⟩) (fun c => ?_) (fun c => absurd c (by decide)) (fun _ k hk e => absurd e (no k hk)) (fun _ k hk e => absurd e (no k hk))
    rcases c with c | c
    · exact absurd c (by decide)
    · exact absurd c (by decide)
  · -- a sheet
    obtain rfl : x + 66 + 2 * k = b := Option.some.inj eb
    subst c
    subst e
    obtain ⟨s6, s2, s12, s24⟩ := hC.sh k hk4
    obtain ⟨so, n, a1, a2, a3, a4, a5, a6, a7⟩ := hS k hk4
    have ms := SH1.miss (i := k) a2
    have bad : ∀ q : Prop, (((2 : Int32) ≠ 0 ∧ (2 : Int32) ≠ 1 ∧ (2 : Int32) ≠ 2 ∧ (2 : Int32) ≠ 3) ∨ ((2 : Int32) = 1 ∧ ∀ n, n < sz → nI k ≠ nI n) ∨ ((2 : Int32) = 2 ∧ jwi (nI k) 4 = 0)) → q := by
      intro q c
      rcases c with c | c | c
      · exact absurd rfl c.2.2.1
      · exact absurd c.1 (by decide)
      · rw [e1] at c; exact absurd c.2 (by decide)
    refine ⟨s6, fun c => ?_, fun c => ⟨k7, _, r2, k6, T_X6_become ⟨s6, k6, _, s2, _, r22, s12, k12, ⟨by decide, by decide, by decide, by show 0 + 24 ≤ jl S (x + 67 + 2 * k); rw [s24]; omega, by show 0 + 24 ≤ jl S (x + 74 + 4 * i + 3); rw [l24]; omega⟩, ?_⟩⟩⟩
    · rw [a3] at c
      refine c_X11_lay hM hz0 hz hi (bad _) (fun c => ?_) (fun c => absurd c (by decide)) (fun _ k' hk' e' c' => ⟨rfl, h.inv⟩) (fun _ k' hk' e' c' => ?_)
      · rcases c with c | c
        · exact absurd c (by decide)
        · exact absurd c (by decide)
      · obtain rfl : k = k' := nI_inj (by omega) (by omega) e'
        rw [a4] at c'
        exact absurd c' (ms.mp c)
    · rw [a3] at c
      rw [show Int32.toNatClampNeg 0 = 0 from rfl, show Int32.toNatClampNeg 24 = 24 from rfl]
      have c1 : jch S (jrow (jput (jput (jput S (x + 74 + 4 * i) 0 2) (x + 74 + 4 * i + 2) 0 (ji (jput S (x + 74 + 4 * i) 0 2) (x + 66 + 2 * k) 0)) (x + 74 + 4 * i + 2) 1 (ji (jput S (x + 74 + 4 * i) 0 2) (x + 66 + 2 * k) 1)) (x + 74 + 4 * i + 3) (va_cpy (ji (jput (jput (jput S (x + 74 + 4 * i) 0 2) (x + 74 + 4 * i + 2) 0 (ji (jput S (x + 74 + 4 * i) 0 2) (x + 66 + 2 * k) 0)) (x + 74 + 4 * i + 2) 1 (ji (jput S (x + 74 + 4 * i) 0 2) (x + 66 + 2 * k) 1)) (x + 67 + 2 * k)) (ji (jput (jput (jput S (x + 74 + 4 * i) 0 2) (x + 74 + 4 * i + 2) 0 (ji (jput S (x + 74 + 4 * i) 0 2) (x + 66 + 2 * k) 0)) (x + 74 + 4 * i + 2) 1 (ji (jput S (x + 74 + 4 * i) 0 2) (x + 66 + 2 * k) 1)) (x + 74 + 4 * i + 3)) 0 0 24)) (x + 74 + 4 * i) (x + 78 + 4 * i) := (((jch.put (by omega) (by omega)).trans (jch.put (by omega) (by omega))).trans (jch.put (by omega) (by omega))).trans (jch.row (by omega) (by omega))
      have g0 : ji (jrow (jput (jput (jput S (x + 74 + 4 * i) 0 2) (x + 74 + 4 * i + 2) 0 (ji (jput S (x + 74 + 4 * i) 0 2) (x + 66 + 2 * k) 0)) (x + 74 + 4 * i + 2) 1 (ji (jput S (x + 74 + 4 * i) 0 2) (x + 66 + 2 * k) 1)) (x + 74 + 4 * i + 3) (va_cpy (ji (jput (jput (jput S (x + 74 + 4 * i) 0 2) (x + 74 + 4 * i + 2) 0 (ji (jput S (x + 74 + 4 * i) 0 2) (x + 66 + 2 * k) 0)) (x + 74 + 4 * i + 2) 1 (ji (jput S (x + 74 + 4 * i) 0 2) (x + 66 + 2 * k) 1)) (x + 67 + 2 * k)) (ji (jput (jput (jput S (x + 74 + 4 * i) 0 2) (x + 74 + 4 * i + 2) 0 (ji (jput S (x + 74 + 4 * i) 0 2) (x + 66 + 2 * k) 0)) (x + 74 + 4 * i + 2) 1 (ji (jput S (x + 74 + 4 * i) 0 2) (x + 66 + 2 * k) 1)) (x + 74 + 4 * i + 3)) 0 0 24)) (x + 74 + 4 * i) 0 = 2 := by rw [ji_row_ne _ _ _ (by omega), ji_put_ne _ _ _ _ (by omega), ji_put_ne _ _ _ _ (by omega), ji_put_same]
      have g1 : ji (jrow (jput (jput (jput S (x + 74 + 4 * i) 0 2) (x + 74 + 4 * i + 2) 0 (ji (jput S (x + 74 + 4 * i) 0 2) (x + 66 + 2 * k) 0)) (x + 74 + 4 * i + 2) 1 (ji (jput S (x + 74 + 4 * i) 0 2) (x + 66 + 2 * k) 1)) (x + 74 + 4 * i + 3) (va_cpy (ji (jput (jput (jput S (x + 74 + 4 * i) 0 2) (x + 74 + 4 * i + 2) 0 (ji (jput S (x + 74 + 4 * i) 0 2) (x + 66 + 2 * k) 0)) (x + 74 + 4 * i + 2) 1 (ji (jput S (x + 74 + 4 * i) 0 2) (x + 66 + 2 * k) 1)) (x + 67 + 2 * k)) (ji (jput (jput (jput S (x + 74 + 4 * i) 0 2) (x + 74 + 4 * i + 2) 0 (ji (jput S (x + 74 + 4 * i) 0 2) (x + 66 + 2 * k) 0)) (x + 74 + 4 * i + 2) 1 (ji (jput S (x + 74 + 4 * i) 0 2) (x + 66 + 2 * k) 1)) (x + 74 + 4 * i + 3)) 0 0 24)) (x + 76 + 4 * i) 1 = nI n := by
        rw [show x + 76 + 4 * i = x + 74 + 4 * i + 2 by omega, ji_row_ne _ _ _ (by omega), ji_put_same, ji_put_ne _ _ _ _ (by omega), a5]
      have g2 : ∀ j, j < 24 → ji (jrow (jput (jput (jput S (x + 74 + 4 * i) 0 2) (x + 74 + 4 * i + 2) 0 (ji (jput S (x + 74 + 4 * i) 0 2) (x + 66 + 2 * k) 0)) (x + 74 + 4 * i + 2) 1 (ji (jput S (x + 74 + 4 * i) 0 2) (x + 66 + 2 * k) 1)) (x + 74 + 4 * i + 3) (va_cpy (ji (jput (jput (jput S (x + 74 + 4 * i) 0 2) (x + 74 + 4 * i + 2) 0 (ji (jput S (x + 74 + 4 * i) 0 2) (x + 66 + 2 * k) 0)) (x + 74 + 4 * i + 2) 1 (ji (jput S (x + 74 + 4 * i) 0 2) (x + 66 + 2 * k) 1)) (x + 67 + 2 * k)) (ji (jput (jput (jput S (x + 74 + 4 * i) 0 2) (x + 74 + 4 * i + 2) 0 (ji (jput S (x + 74 + 4 * i) 0 2) (x + 66 + 2 * k) 0)) (x + 74 + 4 * i + 2) 1 (ji (jput S (x + 74 + 4 * i) 0 2) (x + 66 + 2 * k) 1)) (x + 74 + 4 * i + 3)) 0 0 24)) (x + 77 + 4 * i) j = ji S (x + 67 + 2 * k) j := by
        intro j hj
        rw [show x + 77 + 4 * i = x + 74 + 4 * i + 3 by omega, ji_row_same, pk_cpy_in (by omega) (by omega), ji_put_ne _ _ _ _ (by omega), ji_put_ne _ _ _ _ (by omega), ji_put_ne _ _ _ _ (by omega), show 0 + (j - 0) = j by omega]
      generalize jrow (jput (jput (jput S (x + 74 + 4 * i) 0 2) (x + 74 + 4 * i + 2) 0 (ji (jput S (x + 74 + 4 * i) 0 2) (x + 66 + 2 * k) 0)) (x + 74 + 4 * i + 2) 1 (ji (jput S (x + 74 + 4 * i) 0 2) (x + 66 + 2 * k) 1)) (x + 74 + 4 * i + 3) _ = S1 at c1 g0 g1 g2 ⊢
      rw [was _ c1]
      refine c_X11_lay (hM.keep c1 (by omega)) hz0 hz hi (bad _) (fun c => ?_) (fun c => absurd c (by decide)) (fun _ k' hk' e' c' => ?_) (fun _ k' hk' e' c' S2 z1 z2 z3 z4 z5 z6 => ⟨rfl, ?_⟩)
      · rcases c with c | c
        · exact absurd c (by decide)
        · exact absurd c (by decide)
      · obtain rfl : k = k' := nI_inj (by omega) (by omega) e'
        rw [c1.2 _ (by omega), a4] at c'
        exact absurd (ms.mpr c') c
      · obtain rfl : k = k' := nI_inj (by omega) (by omega) e'
        refine out S1 S2 c1 z1 z2 z3 ⟨2, by omega, ?_, z4, fun c => absurd c (by omega), fun _ => ⟨⟨n, a1, ?_, ?_⟩, fun j hj => ?_⟩, fun c => absurd c (by omega)⟩
        · rw [z2 _ (by omega)]; exact g0
        · rw [z2 _ (by omega)]; exact g1
        · rw [z5, c1.2 _ (by omega)]; exact a6
        · rw [z2 _ (by omega), g2 j hj, z6 j hj, c1.2 _ (by omega)]; exact (a7 j hj).1
  · -- a number
    subst c
    have c1 : jch S (jput (jput S (x + 74 + 4 * i) 0 3) (x + 74 + 4 * i) 3 t) (x + 74 + 4 * i) (x + 78 + 4 * i) := (jch.put (by omega) (by omega)).trans (jch.put (by omega) (by omega))
    rw [was _ c1]
    refine c_X11_lay (hM.keep c1 (by omega)) hz0 hz hi (fun c => ?_) (fun _ => ⟨rfl, ?_⟩) (fun c => absurd c (by decide)) (fun c => absurd c (by decide)) (fun c => absurd c (by decide))
    · rcases c with c | c | c
      · exact absurd rfl c.2.2.2
      · exact absurd c.1 (by decide)
      · exact absurd c.1 (by decide)
    · refine out3 _ _ _ _ c1 ⟨3, by omega, ?_, p1 _ _ _ _, fun c => absurd c (by omega), fun c => absurd c (by omega), fun _ => ?_⟩
      · rw [p3 _ _ _ _ _ (by omega), ji_put, if_neg (by omega), ji_put_same]; rfl
      · rw [p2, p3 _ _ _ _ _ (by omega), ji_put_same]
  · refine c_X11_lay hM hz0 hz hi (fun _ => ⟨rfl, h.inv⟩) (fun c => ?_) (fun c => absurd c c1) (fun c => absurd c c2) (fun c => absurd c c2)
    rcases c with c | c
    · exact absurd c c0
    · exact absurd c c3
theorem Q_ask {w u : Int32} (h : IV S x sz M v) : jFi E mX10_ask (d + 2) 0 0 [.ref x, .int w, .int u] S (fun r S1 => jFm E mX11_ask (d + 2) (x + 94) [.int w, .int u] S1 (fun r' S2 => r = r' ∧ INV S2 x M)) := by
  obtain ⟨⟨hX, hM, hg⟩, hC, hGL, hjn, hT, hI, hS, hSl, hW, hTp⟩ := id h
  have m := hM.1
  have e6 : jisin (Int32.toInt64 u) 0 5 = jwi u 6 := jisin_wi u 6 5 rfl (jle_lt (by decide))
  refine T_X10_ask ⟨hX.1, c_X10_findSlot hC (fun c => ⟨fun _ => U_X11_ask hM.k ⟨fun _ => ⟨rfl, h.inv⟩, fun c2 => absurd ((jisslot_wi w).trans c) c2⟩, fun b e => absurd e (by simp)⟩) (fun i hi e e1 => ⟨fun c => absurd c (by simp), fun b eb => ?_⟩)⟩
  obtain rfl : x + 74 + 4 * i = b := Option.some.inj eb
  subst e
  have hs : ¬ jisslot (nI i) = 0 := by rw [jisslot_wi, e1]; decide
  obtain ⟨th, t1, t2, t3, t4, t5, t6⟩ := hSl i hi
  obtain ⟨k7, r1, r2, k2, k6, r22, k12, l24⟩ := hC.sl i hi
  have ci : Int32.toNatClampNeg (nI i) = i := jcl (by omega)
  have i5 : ∀ n, n = 5 → vp_in (nI i) n := fun n hn => by rw [hn]; exact jin_nI hi (by omega)
  have i7 := i5 _ m.r7.2.2
  have i8 := i5 _ m.r8.2.2
  have i9 := i5 _ m.r9.2.2
  have th0 : ∀ k, k < 4 → nI th = nI k → th = k := fun k hk e => nI_inj (by omega) (by omega) e
  refine ⟨fun c => U_X11_ask hM.k ⟨fun c => absurd c hs, fun _ => ⟨fun _ => ⟨rfl, h.inv⟩, fun c2 => absurd (e6.trans c) c2⟩⟩, fun c => ⟨k7, ?_⟩⟩
  have c6 : ¬ jisin (Int32.toInt64 u) 0 5 = 0 := by rw [e6]; exact c
  have ref : ∀ Q : Int32 → jM → Prop, (nI th = 0 → Q (-1000000011) S) → (¬ nI th = 0 → ¬ nI th = 1 → Q (-1000000012) S) → (nI th = 1 → jisof (ji S (x + 102) i) u = 0 → Q (-1000000012) S) → (nI th = 1 → ¬ jisof (ji S (x + 102) i) u = 0 → Q (ji S (x + 103) i) S) → jFm E mX11_ask (d + 2) (x + 94) [.int (nI i), .int u] S Q := by
    intro Q q1 q2 q3 q4
    refine U_X11_ask hM.k ⟨fun c => absurd c hs, fun _ => ⟨fun c => absurd c c6, fun _ => ⟨m.1, _, m.r7.1, m.r7.2.1, i7, ?_⟩⟩⟩
    rw [ci, t3]
    refine ⟨q1, fun n0 => ⟨fun n1 => ⟨_, m.r8.1, m.r8.2.1, i8, ?_⟩, fun n1 => q2 n0 n1⟩⟩
    exact ⟨q3 n1, fun c => ⟨_, m.r9.1, m.r9.2.1, i9, q4 n1 c⟩⟩
  rw [t2]
  refine ⟨fun n0 => ref _ (fun _ => ⟨rfl, h.inv⟩) (fun c => absurd n0 c) (fun c => absurd (n0.symm.trans c) (by decide)) (fun c => absurd (n0.symm.trans c) (by decide)), fun n0 => ⟨fun n1 => ?_, fun n1 => ref _ (fun c => absurd c n0) (fun _ _ => ⟨rfl, h.inv⟩) (fun c => absurd c n1) (fun c => absurd c n1)⟩⟩
  obtain rfl : th = 1 := th0 1 (by omega) n1
  obtain ⟨⟨k, hk, y1, y2⟩, y3⟩ := t4 rfl
  rcases jwi_cases u (b := 6) 6 rfl (by omega) with ⟨j, hj, ej, -⟩ | ⟨-, ej⟩
  · subst ej
    have y1' : ji S (x + 74 + 4 * i + 1) 0 = nI k := by rw [show x + 74 + 4 * i + 1 = x + 75 + 4 * i by omega]; exact y1
    refine ⟨_, r1, k2, c_X2_isOf k2 y1' hk hj ⟨fun c0 => ?_, fun c0 => ⟨k7, _, r1, k2, c_X2_worth k2 ?_⟩⟩⟩
    · refine ref _ (fun c => absurd c n0) (fun _ c => absurd n1 c) (fun _ _ => ⟨rfl, h.inv⟩) (fun _ c => ?_)
      rw [y2] at c; exact absurd c0 c
    · refine ref _ (fun c => absurd c n0) (fun _ c => absurd n1 c) (fun _ c => ?_) (fun _ _ => ⟨?_, h.inv⟩)
      · rw [y2] at c; exact absurd c c0
      · rw [show x + 74 + 4 * i + 1 = x + 75 + 4 * i by omega]; exact y3.symm
  · exact absurd ej c
theorem Q_item {w u : Int32} (h : IV S x sz M v) : jFi E mX10_item (d + 3) 0 0 [.ref x, .int w, .int u] S (fun r S1 => jFm E mX11_item (d + 3) (x + 94) [.int w, .int u] S1 (fun r' S2 => r = r' ∧ INV S2 x M)) := by
  obtain ⟨⟨hX, hM, hg⟩, hC, hGL, hjn, hT, hI, hS, hSl, hW, hTp⟩ := id h
  have m := hM.1
  refine T_X10_item ⟨hX.1, c_X10_findSlot hC (fun c => ⟨fun _ => U_X11_item hM.k ⟨fun _ => ⟨rfl, h.inv⟩, fun c2 => absurd ((jisslot_wi w).trans c) c2⟩, fun b e => absurd e (by simp)⟩) (fun i hi e e1 => ⟨fun c => absurd c (by simp), fun b eb => ?_⟩)⟩
  obtain rfl : x + 74 + 4 * i = b := Option.some.inj eb
  subst e
  have hs : ¬ jisslot (nI i) = 0 := by rw [jisslot_wi, e1]; decide
  obtain ⟨th, t1, t2, t3, t4, t5, t6⟩ := hSl i hi
  obtain ⟨k7, r1, r2, k2, hL⟩ := hC.sl i hi
  obtain ⟨k6, r22, k12, l24⟩ := id hL
  have ci : Int32.toNatClampNeg (nI i) = i := jcl (by omega)
  have i5 : ∀ n, n = 5 → vp_in (nI i) n := fun n hn => by rw [hn]; exact jin_nI hi (by omega)
  have i7 := i5 _ m.r7.2.2
  have i10 := i5 _ m.r10.2.2
  rw [t2]
  refine ⟨k7, fun n0 => ?_, fun n0 => ⟨fun n2 => ?_, fun n2 => ?_⟩⟩
  · refine U_X11_item hM.k ⟨fun c => absurd c hs, fun _ => ⟨m.1, _, m.r7.1, m.r7.2.1, i7, ?_⟩⟩
    rw [ci, t3]
    exact ⟨fun c => absurd (n0.symm.trans c) (by decide), fun _ => ⟨fun _ => ⟨rfl, h.inv⟩, fun c => absurd n0 c⟩⟩
  · obtain rfl : th = 2 := nI_inj (by omega) (by omega) n2
    obtain ⟨⟨n, hn, y1, y2⟩, y3⟩ := t5 rfl
    have y1' : ji S (x + 74 + 4 * i + 2) 1 = nI n := by rw [show x + 74 + 4 * i + 2 = x + 76 + 4 * i by omega]; exact y1
    have ref : ∀ Q : Int32 → jM → Prop, (jwi u (nI n) = 0 → Q (-1000000013) S) → (∀ j, j < n → u = nI j → (ji S (x + 105) (24 * i + j) = kNONE → Q (-1000000012) S) ∧ (¬ ji S (x + 105) (24 * i + j) = kNONE → Q (ji S (x + 105) (24 * i + j)) S)) → jFm E mX11_item (d + 3) (x + 94) [.int (nI i), .int u] S Q := by
      intro Q q1 q2
      refine U_X11_item hM.k ⟨fun c => absurd c hs, fun _ => ⟨m.1, _, m.r7.1, m.r7.2.1, i7, ?_⟩⟩
      rw [ci, t3]
      refine ⟨fun _ => ⟨_, m.r10.1, m.r10.2.1, i10, ?_⟩, fun c => absurd rfl c⟩
      rw [y2, jisin_sz u (by omega)]
      refine ⟨q1, fun cu => ?_⟩
      rcases jwi_cases u (b := nI n) n rfl (by omega) with ⟨j, hj, ej, -⟩ | ⟨-, ej⟩
      · subst ej
        refine ⟨_, m.r11.1, m.r11.2.1, by rw [nI_24, m.r11.2.2]; exact jin_nI (by omega) (by omega), ?_⟩
        rw [nI_24, jcl (by omega)]
        exact q2 j hj rfl
      · exact absurd ej cu
    refine ⟨_, r2, k6, c_X6_hasPlace k6 hn y1' ⟨fun cu => ref _ (fun _ => ⟨rfl, h.inv⟩) (fun j hj ej => ?_), fun cu => ?_⟩⟩
    · rw [ej, jwi_at hj (by omega)] at cu; exact absurd cu (by decide)
    · rcases jwi_cases u (b := nI n) n rfl (by omega) with ⟨j, hj, ej, -⟩ | ⟨-, ej⟩
      · subst ej
        have y3' := y3 j (by omega)
        rw [show x + 77 + 4 * i = x + 74 + 4 * i + 3 by omega] at y3'
        have one : ∀ j', nI j = nI j' → j' < n → j' = j := fun j' e hj' => (nI_inj (by omega) (by omega) e).symm
        refine ⟨k7, _, r2, k6, c_X6_isNumber (p := x + 74 + 4 * i + 3) hL hn y1' hj (fun c0 => ⟨fun _ => ref _ (fun c => absurd c cu) (fun j' hj' ej' => ?_), fun c => absurd rfl c⟩) (fun c0 => ⟨fun c => absurd c (by decide), fun _ => ⟨k7, _, r2, k6, _, r22, k12, by rw [l24]; exact jin_nI (by omega) (by omega), ?_⟩⟩)⟩
        · obtain rfl := one j' ej' hj'
          exact ⟨fun _ => ⟨rfl, h.inv⟩, fun c => absurd (y3'.symm.trans c0) c⟩
        · rw [jcl (by omega)]
          refine ref _ (fun c => absurd c cu) (fun j' hj' ej' => ?_)
          obtain rfl := one j' ej' hj'
          exact ⟨fun c => absurd (y3'.trans c) c0, fun _ => ⟨y3', h.inv⟩⟩
      · exact absurd ej cu
  · refine U_X11_item hM.k ⟨fun c => absurd c hs, fun _ => ⟨m.1, _, m.r7.1, m.r7.2.1, i7, ?_⟩⟩
    rw [ci, t3]
    exact ⟨fun c => absurd c n2, fun _ => ⟨fun c => absurd c n0, fun _ => ⟨rfl, h.inv⟩⟩⟩
theorem Q_rest {w u : Int32} (h : IV S x sz M v) : jFi E mX10_rest (d + 2) 0 0 [.ref x, .int w, .int u] S (fun r S1 => jFm E mX11_rest (d + 2) (x + 94) [.int w, .int u] S1 (fun r' S2 => r = r' ∧ INV S2 x M)) := by
  obtain ⟨⟨hX, hM, hg⟩, hC, hGL, hjn, hT, hI, hS, hSl, hW, hTp⟩ := id h
  have m := hM.1
  refine T_X10_rest ⟨hX.1, c_X10_findSlot hC (fun c => ⟨fun _ => U_X11_rest hM.k ⟨fun _ => ⟨rfl, h.inv⟩, fun c2 => absurd ((jisslot_wi w).trans c) c2⟩, fun b e => absurd e (by simp)⟩) (fun i hi e e1 => ⟨fun c => absurd c (by simp), fun b eb => ?_⟩)⟩
  obtain rfl : x + 74 + 4 * i = b := Option.some.inj eb
  subst e
  have hs : ¬ jisslot (nI i) = 0 := by rw [jisslot_wi, e1]; decide
  obtain ⟨th, t1, t2, t3, t4, t5, t6⟩ := hSl i hi
  obtain ⟨k7, r1, r2, k2, hL⟩ := hC.sl i hi
  have ci : Int32.toNatClampNeg (nI i) = i := jcl (by omega)
  have i5 : ∀ n, n = 5 → vp_in (nI i) n := fun n hn => by rw [hn]; exact jin_nI hi (by omega)
  have i7 := i5 _ m.r7.2.2
  have i8 := i5 _ m.r8.2.2
  rw [t2]
  have ref : ∀ Q : Int32 → jM → Prop, (nI th = 3 → (u = 0 → Q (-1000000002) S) ∧ (¬ u = 0 → Q (jrem (ji S (x + 102) i) u) S)) → (¬ nI th = 3 → (nI th = 0 → Q (-1000000011) S) ∧ (¬ nI th = 0 → Q (-1000000012) S)) → jFm E mX11_rest (d + 2) (x + 94) [.int (nI i), .int u] S Q := by
    intro Q q1 q2
    refine U_X11_rest hM.k ⟨fun c => absurd c hs, fun _ => ⟨m.1, _, m.r7.1, m.r7.2.1, i7, ?_⟩⟩
    rw [ci, t3]
    refine ⟨fun c => ⟨(q1 c).1, fun c2 => ⟨_, m.r8.1, m.r8.2.1, i8, c2, ?_⟩⟩, q2⟩
    exact (q1 c).2 c2
  refine ⟨k7, fun n0 => ref _ (fun c => absurd (n0.symm.trans c) (by decide)) (fun _ => ⟨fun _ => ⟨rfl, h.inv⟩, fun c => absurd n0 c⟩), fun n0 => ⟨fun n3 => ⟨fun u0 => ref _ (fun _ => ⟨fun _ => ⟨rfl, h.inv⟩, fun c => absurd u0 c⟩) (fun c => absurd n3 c), fun u0 => ⟨u0, ref _ (fun _ => ⟨fun c => absurd c u0, fun _ => ⟨?_, h.inv⟩⟩) (fun c => absurd n3 c)⟩⟩, fun n3 => ref _ (fun c => absurd c n3) (fun _ => ⟨fun c => absurd c n0, fun _ => ⟨rfl, h.inv⟩⟩)⟩⟩
  obtain rfl : th = 3 := nI_inj (by omega) (by omega) n3
  rw [t6 rfl]
end jLay
end
section
/-! TELL, TRIM, FEED on both sides -/
theorem jby (b : BitVec 32) {k : Nat} (hk : k ≤ 24) : (b >>> k) &&& 255#32 = (b.sshiftRight k) &&& 255#32 := by
  have h8 : ∀ i : Fin 32, 8 ≤ i.val → (255#32).getLsbD i.val = false := by decide +kernel
  apply BitVec.eq_of_getLsbD_eq
  intro i hi
  rw [BitVec.getLsbD_and, BitVec.getLsbD_and]
  by_cases h : 8 ≤ i
  · rw [h8 ⟨i, hi⟩ h, Bool.and_false, Bool.and_false]
  · rw [BitVec.getLsbD_ushiftRight, BitVec.getLsbD_sshiftRight]
    have h1 : k + i < 32 := by omega
    have h2 : ¬ 32 ≤ i := by omega
    simp [h1, h2]
theorem jbyN (y : Int32) : ∃ c, c < 256 ∧ y &&& 255 = nI c := by
  refine ⟨(y &&& 255).toBitVec.toNat, ?_, ?_⟩
  · have e : (y &&& 255).toBitVec = y.toBitVec &&& 255#32 := rfl
    rw [e, BitVec.toNat_and]
    exact Nat.lt_of_le_of_lt Nat.and_le_right (by decide)
  · apply Int32.toBitVec_inj.mp
    have e : (nI (y &&& 255).toBitVec.toNat).toBitVec = BitVec.ofNat 32 (y &&& 255).toBitVec.toNat := rfl
    rw [e, BitVec.ofNat_toNat, BitVec.setWidth_eq]
theorem jby24 (w : Int32) : jushr w 24 &&& 255 = jshr w 24 &&& 255 := Int32.toBitVec_inj.mp (jby w.toBitVec (k := 24) (by omega))
theorem jby16 (w : Int32) : jushr w 16 &&& 255 = jshr w 16 &&& 255 := Int32.toBitVec_inj.mp (jby w.toBitVec (k := 16) (by omega))
theorem jby8 (w : Int32) : jushr w 8 &&& 255 = jshr w 8 &&& 255 := Int32.toBitVec_inj.mp (jby w.toBitVec (k := 8) (by omega))
theorem jby0 (w : Int32) : jushr w 0 &&& 255 = jshr w 0 &&& 255 := Int32.toBitVec_inj.mp (jby w.toBitVec (k := 0) (by omega))
/-- byte e of four -/
def jbt (w : Int32) (e : Nat) : Int32 := jshr w (nI (24 - 8 * e)) &&& 255
theorem fb4_in (f : Nat → Int32) (n : Nat) (w : Int32) {j : Nat} (h1 : n ≤ j) (h2 : j < n + 4) : fb4 f n w j = jbt w (j - n) := by
  have hc : j = n ∨ j = n + 1 ∨ j = n + 2 ∨ j = n + 3 := by omega
  unfold fb4 jbt
  rcases hc with rfl | rfl | rfl | rfl
  · rw [upd_ne _ (by omega), upd_ne _ (by omega), upd_ne _ (by omega), upd_at, jby24, Nat.sub_self]; rfl
  · rw [upd_ne _ (by omega), upd_ne _ (by omega), upd_at, jby16, show n + 1 - n = 1 by omega]; rfl
  · rw [upd_ne _ (by omega), upd_at, jby8, show n + 2 - n = 2 by omega]; rfl
  · rw [upd_at, jby0, show n + 3 - n = 3 by omega]; rfl
theorem fb4_out (f : Nat → Int32) (n : Nat) (w : Int32) {j : Nat} (h : j < n ∨ n + 4 ≤ j) : fb4 f n w j = f j := by
  unfold fb4
  rw [upd_ne _ (by omega), upd_ne _ (by omega), upd_ne _ (by omega), upd_ne _ (by omega)]
section jTape
variable {E : jEnv} {d : Nat} {S S' : jM} {x sz M : Nat} {v : Nat → Int32}
theorem Q_tell {w : Int32} (h : IV S x sz M v) : jFi E mX10_tell (d + 1) 0 0 [.ref x, .int w] S (fun r S1 => jFm E mX11_tell (d + 1) (x + 94) [.int w] S1 (fun r' S2 => r = r' ∧ INV S2 x M)) := by
  obtain ⟨⟨hX, hM, hg⟩, hC, hGL, hjn, hT, hI, hS, hSl, hW, hTp⟩ := id h
  obtain ⟨n, n60, a1, a2, a3⟩ := hW
  have m := hM.1
  refine T_X10_tell ⟨hX.1, ?_⟩
  rw [a1]
  rcases Nat.lt_or_ge n 60 with h60 | h60
  · have e1 : ¬ jwi (nI n) 60 = 0 := by rw [show (60 : Int32) = nI 60 from rfl, jwi_at h60 (by omega)]; decide
    refine ⟨fun c => absurd c e1, fun _ => ⟨_, hC.2.1.2.2.2.2.2.2.2, hC.2.2.2.2.2.2.1.1, by rw [hC.2.2.2.2.2.2.1.2]; exact jin_nI h60 (by omega), ?_⟩⟩
    rw [jcl (by omega), nI_1]
    refine U_X11_tell m.1 ⟨m.1, fun c => ?_, fun _ => ⟨_, m.r33.1, m.r33.2.1, ?_, ?_⟩⟩
    · rw [ji_put_ne _ _ _ _ (by omega), ji_put_ne _ _ _ _ (by omega), a2] at c
      have := nI_inj (by omega) (by omega) (show nI n = nI 60 from c)
      omega
    · rw [ji_put_ne _ _ _ _ (by omega), ji_put_ne _ _ _ _ (by omega), a2]
      show vp_in (nI n) (jl S (x + 113))
      rw [m.r33.2.2]; exact jin_nI h60 (by omega)
    · have ea : ji (jput (jput S (x + 65) n w) x 9 (nI (n + 1))) (x + 94) 34 = nI n := by rw [ji_put_ne _ _ _ _ (by omega), ji_put_ne _ _ _ _ (by omega), a2]
      rw [ea, jcl (by omega), nI_1]
      have s3 : jsame S (jput (jput (jput (jput S (x + 65) n w) x 9 (nI (n + 1))) (x + 113) n w) (x + 94) 34 (nI (n + 1))) := ⟨rfl, rfl, rfl, rfl⟩
      have o : ∀ y, y ≠ x → y ≠ x + 65 → y ≠ x + 94 → y ≠ x + 113 → ji (jput (jput (jput (jput S (x + 65) n w) x 9 (nI (n + 1))) (x + 113) n w) (x + 94) 34 (nI (n + 1))) y = ji S y := fun y p q r s => by rw [ji_put_ne _ _ _ _ r, ji_put_ne _ _ _ _ s, ji_put_ne _ _ _ _ p, ji_put_ne _ _ _ _ q]
      have ox : ∀ j, j ≠ 9 → ji (jput (jput (jput (jput S (x + 65) n w) x 9 (nI (n + 1))) (x + 113) n w) (x + 94) 34 (nI (n + 1))) x j = ji S x j := fun j hj => by rw [ji_put_ne _ _ _ _ (by omega), ji_put_ne _ _ _ _ (by omega), ji_put, if_neg (fun c => hj c.2), ji_put_ne _ _ _ _ (by omega)]
      have om : ∀ j, j ≠ 34 → ji (jput (jput (jput (jput S (x + 65) n w) x 9 (nI (n + 1))) (x + 113) n w) (x + 94) 34 (nI (n + 1))) (x + 94) j = ji S (x + 94) j := fun j hj => by rw [ji_put, if_neg (fun c => hj c.2), ji_put_ne _ _ _ _ (by omega), ji_put_ne _ _ _ _ (by omega), ji_put_ne _ _ _ _ (by omega)]
      refine ⟨rfl, h.rst s3 (fun y hy => o y (by omega) (by omega) (by omega) (by omega)) ⟨hI.keep s3 (ox 2 (by omega)) (om 3 (by omega)) (fun y hy => o y (by omega) (by omega) (by omega) (by omega)), hS.keep (fun y hy => o y (by omega) (by omega) (by omega) (by omega)), hSl.keep (fun y hy => o y (by omega) (by omega) (by omega) (by omega)), ⟨n + 1, by omega, ?_, ?_, fun j hj => ?_⟩, hTp.keep (by rw [o (x + 60) (by omega) (by omega) (by omega) (by omega)]) (om 19 (by omega)) (o _ (by omega) (by omega) (by omega) (by omega)) (o _ (by omega) (by omega) (by omega) (by omega))⟩⟩
      · rw [ji_put_ne _ _ _ _ (by omega), ji_put_ne _ _ _ _ (by omega), ji_put_same]
      · rw [ji_put_same]
      · rw [ji_put_ne _ _ _ _ (show x + 65 ≠ x + 94 by omega), ji_put_ne _ _ _ _ (show x + 65 ≠ x + 113 by omega), ji_put_ne _ _ _ _ (show x + 65 ≠ x by omega), ji_put_ne _ _ _ _ (show x + 113 ≠ x + 94 by omega), ji_put, ji_put, ji_put_ne _ _ _ _ (show x + 113 ≠ x by omega), ji_put_ne _ _ _ _ (show x + 113 ≠ x + 65 by omega)]
        by_cases e : j = n
        · rw [if_pos ⟨rfl, e⟩, if_pos ⟨rfl, e⟩]
        · rw [if_neg (fun c => e c.2), if_neg (fun c => e c.2)]
          exact a3 j (by omega)
  · obtain rfl : n = 60 := by omega
    refine ⟨fun _ => U_X11_tell m.1 ⟨m.1, fun _ => ⟨rfl, h.inv⟩, fun c => absurd a2 c⟩, fun c => absurd (by decide) c⟩
theorem Q_trim {w : Int32} (h : IV S x sz M v) : jFi E mX10_trim (d + 1) 0 0 [.ref x, .int w] S (fun r S1 => jFm E mX11_trim (d + 1) (x + 94) [.int w] S1 (fun r' S2 => r = r' ∧ INV S2 x M)) := by
  obtain ⟨⟨hX, hM, hg⟩, hC, hGL, hjn, hT, hI, hS, hSl, hW, hTp⟩ := id h
  obtain ⟨n, n96, a1, a2, a3⟩ := hTp
  have m := hM.1
  have ej : ∀ z : Int32, jisin (Int32.toInt64 z) 0 (Int32.toInt64 (nI n)) = if z < 0 then 0 else if nI n < z then 0 else 1 := fun z => jisin_int z 0 (nI n)
  refine T_X10_trim ⟨fun c => ?_, fun c => ⟨hX.1, _, hC.2.1.2.2.2.2.1, hC.2.2.2.1.1, ?_⟩⟩
  · refine U_X11_trim m.1 ⟨m.1, ?_⟩
    rw [a2, ej, if_pos c]
    exact ⟨fun _ => ⟨rfl, h.inv⟩, fun c => absurd rfl c⟩
  · rw [a1]
    refine ⟨fun c1 => ?_, fun c1 => ?_⟩
    · refine U_X11_trim m.1 ⟨m.1, ?_⟩
      have ea : ji (jput S (x + 60) 1 w) (x + 94) 19 = nI n := by rw [ji_put_ne _ _ _ _ (by omega), a2]
      rw [ea, ej, if_neg c, if_neg (Int32.not_lt.mpr c1)]
      refine ⟨fun c => absurd c (by decide), fun _ => ⟨rfl, ?_⟩⟩
      obtain ⟨k, hk, rfl⟩ := nI_of c
      have hkn : k ≤ n := (nI_leI (by omega) (by omega)).mp c1
      have s3 : jsame S (jput (jput S (x + 60) 1 (nI k)) (x + 94) 19 (nI k)) := ⟨rfl, rfl, rfl, rfl⟩
      have o : ∀ y, y ≠ x + 60 → y ≠ x + 94 → ji (jput (jput S (x + 60) 1 (nI k)) (x + 94) 19 (nI k)) y = ji S y := fun y p q => by rw [ji_put_ne _ _ _ _ q, ji_put_ne _ _ _ _ p]
      have om : ∀ j, j ≠ 19 → ji (jput (jput S (x + 60) 1 (nI k)) (x + 94) 19 (nI k)) (x + 94) j = ji S (x + 94) j := fun j hj => by rw [ji_put, if_neg (fun c => hj c.2), ji_put_ne _ _ _ _ (by omega)]
      refine h.rst s3 (fun y hy => o y (by omega) (by omega)) ⟨hI.keep s3 (by rw [o x (by omega) (by omega)]) (om 3 (by omega)) (fun y hy => o y (by omega) (by omega)), hS.keep (fun y hy => o y (by omega) (by omega)), hSl.keep (fun y hy => o y (by omega) (by omega)), hW.keep (by rw [o x (by omega) (by omega)]) (om 34 (by omega)) (o _ (by omega) (by omega)) (o _ (by omega) (by omega)), ⟨k, by omega, ?_, ?_, fun j hj => ?_⟩⟩
      · rw [ji_put_ne _ _ _ _ (by omega), ji_put_same]
      · rw [ji_put_same]
      · rw [o _ (by omega) (by omega), o _ (by omega) (by omega)]; exact a3 j (by omega)
    · refine U_X11_trim m.1 ⟨m.1, ?_⟩
      rw [a2, ej, if_neg c, if_pos (Int32.not_le.mp c1)]
      exact ⟨fun _ => ⟨rfl, h.inv⟩, fun c => absurd rfl c⟩
/-- byte e of twelve -/
def jb12 (a b c : Int32) (e : Nat) : Int32 := if e < 4 then jbt a e else if e < 8 then jbt b (e - 4) else jbt c (e - 8)
theorem c_X11_feedB {Q : Int32 → jM → Prop} {n : Nat} {a b c : Int32} (hn : n + 12 ≤ 96) (h : ∀ S', ML S' (x + 94) → ji S' (x + 94) 19 = nI (n + 12) → jsame S S' → (∀ y, y ≠ x + 94 → y ≠ x + 109 → ji S' y = ji S y) → (∀ j, j ≠ 19 → ji S' (x + 94) j = ji S (x + 94) j) → (∀ j, ji S' (x + 109) j = if n ≤ j ∧ j < n + 12 then jb12 a b c (j - n) else ji S (x + 109) j) → Q (nI (n + 12)) S') :
    ∀ (r i : Nat) (S1 : jM), i + r = 12 → ML S1 (x + 94) → ji S1 (x + 94) 19 = nI (n + i) → jsame S S1 → (∀ y, y ≠ x + 94 → y ≠ x + 109 → ji S1 y = ji S y) → (∀ j, j ≠ 19 → ji S1 (x + 94) j = ji S (x + 94) j) → (∀ j, ji S1 (x + 109) j = if n ≤ j ∧ j < n + i then jb12 a b c (j - n) else ji S (x + 109) j) → L_X11_feed_18 E d Q (x + 94) a b c (nI i) S1 := by
  intro r
  induction r with
  | zero =>
    intro i S1 hi hM h19 hs ho hm hj
    obtain rfl : i = 12 := by omega
    refine T_X11_feed_18 ⟨fun _ => ⟨hM.1, ?_⟩, fun c => absurd (by decide) c⟩
    rw [h19]; exact h S1 hM h19 hs ho hm hj
  | succ r ih =>
    intro i S1 hi hM h19 hs ho hm hj
    have r18 := hM.r18
    have inn : vp_in (ji S1 (x + 94) 19) (jl S1 (x + 109)) := by rw [h19, r18.2.2]; exact jin_nI (by omega) (by omega)
    have sh : ∀ i : Fin 12, (24 : Int32) - 8 * jrem (nI i.val) 4 = nI (24 - 8 * (i.val % 4)) := by decide +kernel
    have nxt : ∀ w : Int32, w = jb12 a b c i → L_X11_feed_18 E d Q (x + 94) a b c (nI i + 1) (jput (jput S1 (x + 109) (Int32.toNatClampNeg (ji S1 (x + 94) 19)) w) (x + 94) 19 (ji S1 (x + 94) 19 + 1)) := by
      intro w hw
      rw [nI_1, h19, nI_1, jcl (by omega)]
      refine ih (i + 1) _ (by omega) hM (by rw [ji_put_same, show n + i + 1 = n + (i + 1) by omega]) ⟨hs.1, hs.2.1, hs.2.2.1, hs.2.2.2⟩ (fun y h1 h2 => (ji_put_ne _ _ _ _ h1).trans ((ji_put_ne _ _ _ _ (by omega)).trans (ho y h1 h2))) (fun j hj' => ?_) (fun j => ?_)
      · rw [ji_put, if_neg (fun c => hj' c.2), ji_put_ne _ _ _ _ (by omega)]; exact hm j hj'
      · rw [ji_put_ne _ _ _ _ (by omega), ji_put]
        by_cases e : j = n + i
        · rw [if_pos ⟨rfl, e⟩, if_pos (by omega), hw, e, show n + i - n = i by omega]
        · rw [if_neg (fun c => e c.2), hj j]
          by_cases e2 : n ≤ j ∧ j < n + i
          · rw [if_pos e2, if_pos (by omega)]
          · rw [if_neg e2, if_neg (by omega)]
    refine T_X11_feed_18 ⟨fun c => absurd c (nI_ge (b := 12) (by omega) (by omega)), fun _ => ⟨fun c4 => ⟨fun c8 => ⟨hM.1, _, r18.1, r18.2.1, inn, nxt _ ?_⟩, fun c8 => ⟨hM.1, _, r18.1, r18.2.1, inn, nxt _ ?_⟩⟩, fun c4 => ⟨hM.1, _, r18.1, r18.2.1, inn, nxt _ ?_⟩⟩⟩
    all_goals rw [sh ⟨i, by omega⟩]; unfold jb12 jbt
    · have := (nI_leI (a := 8) (by omega) (by omega)).mp c8
      rw [if_neg (by omega), if_neg (by omega), show i % 4 = i - 8 by omega]
    · have := (nI_leI (a := 4) (by omega) (by omega)).mp c4
      have : ¬ 8 ≤ i := fun q => c8 (nI_le (a := 8) q (by omega))
      rw [if_neg (by omega), if_pos (by omega), show i % 4 = i - 4 by omega]
    · have : ¬ 4 ≤ i := fun q => c4 (nI_le (a := 4) q (by omega))
      rw [if_pos (by omega), show i % 4 = i by omega]
theorem Q_feed {a b c : Int32} (h : IV S x sz M v) : jFi E mX10_feed (d + 2) 0 0 [.ref x, .int a, .int b, .int c] S (fun r S1 => jFm E mX11_feed (d + 2) (x + 94) [.int a, .int b, .int c] S1 (fun r' S2 => r = r' ∧ INV S2 x M)) := by
  obtain ⟨⟨hX, hM, hg⟩, hC, hGL, hjn, hT, hI, hS, hSl, hW, hTp⟩ := id h
  obtain ⟨n, n96, a1, a2, a3⟩ := hTp
  have m := hM.1
  have r5 := hC.2.1.2.2.2.2.1
  have hTL := hC.2.2.2.1
  refine T_X10_feed ⟨hX.1, _, r5, hTL.1, ?_⟩
  rw [a1]
  refine ⟨fun cn => ?_, fun cn => ?_⟩
  · have hn : n ≤ 84 := (nI_leI (b := 84) (by omega) (by omega)).mp cn
    refine c_X8_addNumber hTL a1 (by omega) (fun S1 c1 p1 p2 p3 => ⟨by rw [c1.1.1]; exact hX.1, _, by rw [c1.1.2.2.1]; exact r5, (hTL.same c1.1).1, ?_⟩)
    refine c_X8_addNumber (hTL.same c1.1) p1 (by omega) (fun S2 c2 q1 q2 q3 => ?_)
    have c12 := c1.trans c2
    refine ⟨by rw [c12.1.1]; exact hX.1, _, by rw [c12.1.2.2.1]; exact r5, (hTL.same c12.1).1, ?_⟩
    refine c_X8_addNumber (hTL.same c12.1) q1 (by omega) (fun S3 c3 t1 t2 t3 => ?_)
    have c13 := c12.trans c3
    refine ⟨by rw [c13.1.1]; exact hX.1, _, by rw [c13.1.2.2.1]; exact r5, (hTL.same c13.1).1, ?_⟩
    rw [t1]
    have m3 := m.same c13.1
    have b2 : ji S3 (x + 94) 19 = nI n := by rw [c13.2 _ (by omega)]; exact a2
    refine U_X11_feed m3.1 ⟨m3.1, fun _ => ?_, fun c => ?_⟩
    · refine c_X11_feedB (S := S3) (n := n) (by omega) (fun S4 m4 e1 s4 o4 om ob => ⟨rfl, ?_⟩) 12 0 S3 (by omega) m3 b2 jsame.rfl (fun _ _ _ => rfl) (fun _ _ => rfl) (fun j => by rw [if_neg (by omega)])
      have s : jsame S S4 := c13.1.trans s4
      have o : ∀ y, y ≠ x + 60 → y ≠ x + 61 → y ≠ x + 94 → y ≠ x + 109 → ji S4 y = ji S y := fun y p q r t => (o4 y r t).trans (c13.2 y (by omega))
      have om' : ∀ j, j ≠ 19 → ji S4 (x + 94) j = ji S (x + 94) j := fun j hj => (om j hj).trans (by rw [c13.2 _ (by omega)])
      refine h.rst s (fun y hy => o y (by omega) (by omega) (by omega) (by omega)) ⟨hI.keep s (by rw [o x (by omega) (by omega) (by omega) (by omega)]) (om' 3 (by omega)) (fun y hy => o y (by omega) (by omega) (by omega) (by omega)), hS.keep (fun y hy => o y (by omega) (by omega) (by omega) (by omega)), hSl.keep (fun y hy => o y (by omega) (by omega) (by omega) (by omega)), hW.keep (by rw [o x (by omega) (by omega) (by omega) (by omega)]) (om' 34 (by omega)) (o _ (by omega) (by omega) (by omega) (by omega)) (o _ (by omega) (by omega) (by omega) (by omega)), ⟨n + 12, by omega, ?_, e1, fun j hj => ?_⟩⟩
      · rw [o4 _ (by omega) (by omega)]; exact t1
      · rw [ob j, o4 _ (by omega) (by omega)]
        have e3 : ji S3 (x + 61) j = fb4 (ji S2 (x + 61)) (n + 4 + 4) c j := t3 j
        have e2 : ∀ j, ji S2 (x + 61) j = fb4 (ji S1 (x + 61)) (n + 4) b j := q3
        have e1 : ∀ j, ji S1 (x + 61) j = fb4 (ji S (x + 61)) n a j := p3
        rw [e3]
        by_cases g : n ≤ j
        · rw [if_pos ⟨g, hj⟩]
          unfold jb12
          by_cases g1 : j < n + 4
          · rw [fb4_out _ _ _ (by omega), e2, fb4_out _ _ _ (by omega), e1, fb4_in _ _ _ g g1, if_pos (by omega)]
            obtain ⟨c', hc', ec⟩ := jbyN (jshr a (nI (24 - 8 * (j - n))))
            exact ⟨c', hc', ec, ec⟩
          · rw [if_neg (by omega)]
            by_cases g2 : j < n + 8
            · rw [fb4_out _ _ _ (by omega), e2, fb4_in _ _ _ (by omega) (by omega), if_pos (by omega), show j - (n + 4) = j - n - 4 by omega]
              obtain ⟨c', hc', ec⟩ := jbyN (jshr b (nI (24 - 8 * (j - n - 4))))
              exact ⟨c', hc', ec, ec⟩
            · rw [fb4_in _ _ _ (by omega) (by omega), if_neg (by omega), show j - (n + 4 + 4) = j - n - 8 by omega]
              obtain ⟨c', hc', ec⟩ := jbyN (jshr c (nI (24 - 8 * (j - n - 8))))
              exact ⟨c', hc', ec, ec⟩
        · rw [if_neg (fun q => g q.1), fb4_out _ _ _ (by omega), e2, fb4_out _ _ _ (by omega), e1, fb4_out _ _ _ (by omega), c13.2 _ (by omega)]
          exact a3 j (by omega)
    · rw [b2, show (12 : Int32) = nI 12 from rfl, nI_add] at c
      exact absurd (nI_le (b := 96) (by omega) (by omega)) c
  · have hn : ¬ n ≤ 84 := fun q => cn (nI_le (b := 84) q (by omega))
    refine U_X11_feed m.1 ⟨m.1, fun c => ?_, fun _ => ⟨rfl, h.inv⟩⟩
    rw [a2, show (12 : Int32) = nI 12 from rfl, nI_add] at c
    have := (nI_leI (b := 96) (by omega) (by omega)).mp c
    omega
end jTape
end
section
/-! KEEP, BACK on both sides -/
section jKeep
variable {E : jEnv} {d : Nat} {S S' : jM} {x sz M : Nat} {v : Nat → Int32}
theorem CL.refs (h : CL S x) (hk : jk S' = jk S) (hl : jl S' = jl S) (hr : ∀ y, y ≠ x + 20 → y ≠ x + 40 → jr S' y = jr S y) : CL S' x := by
  obtain ⟨a1, ⟨a2, a3, a4, a5, a6, a7, a8, a9⟩, ⟨b1, b2, b3, b4, b5⟩, ⟨c1, c2, c3, c4, c5, c6, c7⟩, ⟨e1, e2, e3⟩, ⟨f1, f2, f3⟩, ⟨g1, g2⟩, hsh, hsl⟩ := h
  have q0 := hr x (by omega) (by omega)
  have q52 := hr (x + 52) (by omega) (by omega)
  have q60 := hr (x + 60) (by omega) (by omega)
  have q63 := hr (x + 63) (by omega) (by omega)
  have q64 := hr (x + 64) (by omega) (by omega)
  refine ⟨by rw [hk]; exact a1, by rw [q0]; exact ⟨a2, a3, a4, a5, a6, a7, a8, a9⟩, ⟨by rw [hk]; exact b1, fun k hk' => ?_, fun k hk' => by rw [hl]; exact b3 k hk', by rw [hl]; exact b4, by rw [hl]; exact b5⟩, ⟨by rw [hk]; exact c1, by rw [q60]; exact c2, by rw [q60]; exact c3, by rw [hk]; exact c4, by rw [hl]; exact c5, by rw [hk]; exact c6, by rw [hl]; exact c7⟩, ⟨by rw [hk]; exact e1, by rw [hl]; exact e2, by rw [q63]; exact e3⟩, ⟨by rw [hk]; exact f1, by rw [hl]; exact f2, by rw [q64]; exact f3⟩, ⟨by rw [hk]; exact g1, by rw [hl]; exact g2⟩, fun i hi => ?_, fun i hi => ?_⟩
  · rw [q52, hk]; exact b2 k hk'
  · obtain ⟨s1, s2, s3, s4⟩ := hsh i hi
    exact ⟨by rw [hk]; exact s1, by rw [hr _ (by omega) (by omega)]; exact s2, by rw [hk]; exact s3, by rw [hl]; exact s4⟩
  · obtain ⟨s1, s2, s3, s4, s5, s6, s7, s8⟩ := hsl i hi
    exact ⟨by rw [hk]; exact s1, by rw [hr _ (by omega) (by omega)]; exact s2, by rw [hr _ (by omega) (by omega)]; exact s3, by rw [hk]; exact s4, by rw [hk]; exact s5, by rw [hr _ (by omega) (by omega)]; exact s6, by rw [hk]; exact s7, by rw [hl]; exact s8⟩
theorem ML.rr0 (h : ML S (x + 94)) : jr S (x + 94) 0 = some (x + 95) := (h.2 0 (0, 3135) rfl).1
theorem ML.kk1 (h : ML S (x + 94)) : jk S (x + 95) = 12 := (h.2 0 (0, 3135) rfl).2.1
theorem ML.ll1 (h : ML S (x + 94)) : jl S (x + 95) = 3135 := (h.2 0 (0, 3135) rfl).2.2
theorem ML.refs2 {m : Nat} (h : ML S m) (hk : jk S' = jk S) (hl : jl S' = jl S) (hr : jr S' m = jr S m) : ML S' m := by
  unfold ML
  rw [hk, hl, hr]; exact h
theorem GL.refs {g : Nat} (h : GL S g) (hk : jk S' = jk S) (hl : jl S' = jl S) (hr : jr S' g = jr S g) (hr1 : jr S' (g + 1) = jr S (g + 1)) : GL S' g := by
  unfold GL
  rw [hk, hl, hr, hr1]; exact h
theorem RmR.cong {r : Nat} {v' : Nat → Int32} (h : RmR S r sz v) (he : ∀ j, j < 135 → v' j = v j) : RmR S r sz v' := by
  obtain ⟨a0, a1, a2, a3, a4, a5, a6, a7, a8⟩ := h
  refine ⟨a0, a1, by rw [he 0 (by omega)]; exact a2, ?_, a4.cong (fun i hi => he _ (by omega)), ?_, by rw [he 7 (by omega)]; exact a6, fun i hi => by rw [he _ (by omega)]; exact a7 i hi, by rw [he 1 (by omega)]; exact a8⟩
  · rw [he 8 (by omega)]
    exact a3.cong (fun i hi f hf => (he _ (by omega)).symm)
  · rw [he 3 (by omega), he 4 (by omega), he 5 (by omega), he 6 (by omega), he 2 (by omega)]
    exact a5.cong (fun i hi => (he _ (by omega)).symm) (fun i hi => (he _ (by omega)).symm)
theorem Rg.cong {v' : Nat → Int32} (h : Rg sz v) (he : ∀ j, j < 135 → v' j = v j) : Rg sz v' := fun j hj hb => by rw [he j hj]; exact h j hj hb
theorem Q_keep (h : IV S x sz M v) : jFi E mX10_keep (d + 3) 0 0 [.ref x] S (fun r S1 => jFm E mX11_keep (d + 3) (x + 94) [] S1 (fun r' S2 => r = r' ∧ INV S2 x M)) := by
  obtain ⟨⟨hX, hM, hg⟩, hC, hGL, hjn, hT, hI, hS, hSl, hW, hTp⟩ := id h
  obtain ⟨szi, vi, i1, i2, i3⟩ := hI
  have m := hM.1
  have hz := hT.choose_spec.2.2.2
  refine T_X10_keep ⟨hX.1, _, hC.2.1.2.1, _, hX.2.1, i1.1.1, ?_⟩
  refine c_X3_become i1 hX.2.2 hg (by omega) (fun t ht b hb => (hz t ht b hb).1) (fun S1 c1 r1 t1 => ?_)
  obtain ⟨ck, cl, cn, cr, ci⟩ := c1
  refine ⟨by rw [ck]; exact hX.1, _, by rw [cr _ (by omega)]; exact hC.2.1.2.1, r1.1.1, _, r1.1.2.1, r1.2.2.2.1.1.1, ?_⟩
  have e1 : ji S1 (x + 21 + 1) 1 = nI sz := r1.2.2.2.1.2.1
  rw [e1]
  have m1 : ML S1 (x + 94) := m.refs2 ck cl (cr _ (by omega))
  have m2 : ML (jput (jput S1 x 2 1) (x + 94) 3 1) (x + 94) := m1
  refine U_X11_keep m1.1 ⟨m1.1, _, m2.rr0, _, m2.r1.1, ?_⟩
  refine c_X11_setAside m2.kk1 m2.ll1 m2.r1.2.1 m2.r1.2.2 (by omega) (fun S4 c4 b4 => ?_)
  have m4 := m2.same c4.1
  have k4 : jk S4 = jk S := c4.1.1.trans ck
  have l4 : jl S4 = jl S := c4.1.2.1.trans cl
  have n4 : jn S4 = jn S := c4.1.2.2.2.trans cn
  have r4 : ∀ y, y ≠ x + 40 → jr S4 y = jr S y := fun y hy => by rw [c4.1.2.2.1]; exact cr y (by omega)
  have r40 : ∀ t, t < 14 → jr S4 (x + 40) t = jr S (x + 20) t := fun t ht => by rw [c4.1.2.2.1]; exact t1 t ht
  have o4 : ∀ y, (y < x + 21 ∨ x + 40 ≤ y) → y ≠ x → y ≠ x + 94 → y ≠ x + 96 → ji S4 y = ji S y := fun y p q r s => by
    rw [c4.2 y (by omega), ji_put_ne _ _ _ _ r, ji_put_ne _ _ _ _ q]; exact ci y (by omega)
  have ox : ∀ j, ji S4 x j = if j = 2 then 1 else ji S x j := fun j => by
    rw [c4.2 x (by omega), ji_put_ne _ _ _ _ (by omega), ji_put]
    by_cases e : j = 2
    · rw [if_pos ⟨rfl, e⟩, if_pos e]
    · rw [if_neg (fun c => e c.2), if_neg e, ci x (by omega)]
  have om : ∀ j, ji S4 (x + 94) j = if j = 3 then 1 else ji S (x + 94) j := fun j => by
    rw [c4.2 (x + 94) (by omega), ji_put]
    by_cases e : j = 3
    · rw [if_pos ⟨rfl, e⟩, if_pos e]
    · rw [if_neg (fun c => e c.2), if_neg e, ji_put_ne _ _ _ _ (by omega), ci _ (by omega)]
  have o95 : ∀ j, ji S4 (x + 95) j = v j := fun j => by rw [o4 _ (by omega) (by omega) (by omega) (by omega)]; exact hM.2 j
  refine ⟨m4.1, _, m4.rr0, m4.kk1, ?_, ?_, sz, v, ⟨⟨by rw [k4]; exact hX.1, by rw [r4 _ (by omega)]; exact hX.2.1, hX.2.2.grow (fun y p q => ⟨by rw [k4], by rw [l4], o4 y (by omega) (by omega) (by omega) (by omega), r4 y (by omega)⟩)⟩, ⟨m4, o95⟩, hg⟩, hC.refs k4 l4 (fun y _ q => r4 y q), hGL.refs k4 l4 (r4 _ (by omega)) (r4 _ (by omega)), by rw [n4]; exact hjn, ?_, ⟨sz, v, ?_, fun t ht b hb => ?_, Or.inr ⟨?_, ?_, hg, fun j hj => ?_, ?_⟩⟩, hS.keep (fun y hy => o4 y (by omega) (by omega) (by omega) (by omega)), hSl.keep (fun y hy => o4 y (by omega) (by omega) (by omega) (by omega)), hW.keep ?_ ?_ (o4 _ (by omega) (by omega) (by omega) (by omega)) (o4 _ (by omega) (by omega) (by omega) (by omega)), hTp.keep (by rw [o4 _ (by omega) (by omega) (by omega) (by omega)]) ?_ (o4 _ (by omega) (by omega) (by omega) (by omega)) (o4 _ (by omega) (by omega) (by omega) (by omega))⟩
  · show vp_in (nI 0) _
    rw [m4.ll1]; exact jin_nI (by omega) (by omega)
  · show nI sz = ji S4 (x + 95) 0
    rw [o95, hX.v0]
  · exact hT.move (by omega) (fun y _ => by rw [k4]) (fun y _ => by rw [l4]) (fun t _ => by rw [r4 _ (by omega)]) (fun y p _ => r4 y (by omega)) (fun y p _ _ => o4 y (by omega) (by omega) (by omega) (by omega)) (fun _ _ _ => rfl)
  · have r2 : RmR (jput (jput S1 x 2 1) (x + 94) 3 1) (x + 21) sz v := (r1.keep (jch.put (lo := x) (hi := x + 1) (by omega) (by omega)) (by omega)).keep (jch.put (lo := x + 94) (hi := x + 95) (by omega) (by omega)) (by omega)
    exact r2.keep c4 (by omega)
  · rw [r40 t ht] at hb
    rw [k4]; exact hz t ht b hb
  · rw [ox, if_pos rfl]
  · rw [om, if_pos rfl]
  · rw [b4 j, if_pos hj, ji_put_ne _ _ _ _ (by omega), ji_put_ne _ _ _ _ (by omega), ci _ (by omega)]
    exact hM.2 j
  · exact hT.move (by omega) (fun y _ => by rw [k4]) (fun y _ => by rw [l4]) r40 (fun y p _ => r4 y (by omega)) (fun y p _ _ => o4 y (by omega) (by omega) (by omega) (by omega)) (fun _ _ _ => rfl)
  · rw [ox, if_neg (by omega)]
  · rw [om, if_neg (by omega)]
  · rw [om, if_neg (by omega)]
theorem Q_back (h : IV S x sz M v) : jFi E mX10_back (d + 3) 0 0 [.ref x] S (fun r S1 => jFm E mX11_back (d + 3) (x + 94) [] S1 (fun r' S2 => r = r' ∧ INV S2 x M)) := by
  obtain ⟨⟨hX, hM, hg⟩, hC, hGL, hjn, hT, hI, hS, hSl, hW, hTp⟩ := id h
  obtain ⟨szi, vi, i1, i2, i3⟩ := hI
  have m := hM.1
  refine T_X10_back ⟨hX.1, fun c => ?_, fun c => ?_⟩
  · rcases i3 with ⟨-, j2⟩ | ⟨j1, -⟩
    · exact U_X11_back m.1 ⟨m.1, fun _ => ⟨rfl, h.inv⟩, fun c2 => absurd j2 c2⟩
    · rw [j1] at c; exact absurd c (by decide)
  · rcases i3 with ⟨j1, -⟩ | ⟨j1, j2, j3, j4, j5⟩
    · exact absurd j1 c
    · refine ⟨_, hX.2.1, _, hC.2.1.2.1, hX.k3, ?_⟩
      refine c_X3_become hX.2.2 i1 j3 (by omega) (fun t ht b hb => (i2 t ht b hb).1) (fun S1 c1 r1 t1 => ?_)
      obtain ⟨ck, cl, cn, cr, ci⟩ := c1
      refine ⟨by rw [ck]; exact hX.1, _, by rw [cr _ (by omega)]; exact hX.2.1, r1.1.1, _, r1.1.2.1, r1.2.2.2.1.1.1, ?_⟩
      have e1 : ji S1 (x + 1 + 1) 1 = nI szi := r1.2.2.2.1.2.1
      rw [e1]
      have m1 : ML S1 (x + 94) := m.refs2 ck cl (cr _ (by omega))
      refine U_X11_back m1.1 ⟨m1.1, fun c2 => ?_, fun _ => ⟨_, m1.r1.1, _, m1.rr0, ?_⟩⟩
      · rw [ci _ (by omega), j2] at c2; exact absurd c2 (by decide)
      refine c_X11_setAside m1.r1.2.1 m1.r1.2.2 m1.kk1 m1.ll1 (by omega) (fun S4 c4 b4 => ?_)
      have m4 := m1.same c4.1
      have k4 : jk S4 = jk S := c4.1.1.trans ck
      have l4 : jl S4 = jl S := c4.1.2.1.trans cl
      have n4 : jn S4 = jn S := c4.1.2.2.2.trans cn
      have r4 : ∀ y, y ≠ x + 20 → jr S4 y = jr S y := fun y hy => by rw [c4.1.2.2.1]; exact cr y (by omega)
      have r20 : ∀ t, t < 14 → jr S4 (x + 20) t = jr S (x + 40) t := fun t ht => by
        rw [c4.1.2.2.1]
        have := t1 t ht
        rw [show x + 21 + 19 = x + 40 by omega, show x + 1 + 19 = x + 20 by omega] at this
        exact this
      have o4 : ∀ y, (y < x + 1 ∨ x + 20 ≤ y) → y ≠ x + 95 → ji S4 y = ji S y := fun y p q => by
        rw [c4.2 y (by omega)]; exact ci y (by omega)
      have e2935 : ∀ j, j < 2935 → (fun j => if j < 2935 then vi j else v j) j = vi j := fun j hj => if_pos hj
      have o95 : ∀ j, ji S4 (x + 95) j = if j < 2935 then vi j else v j := fun j => by
        have b5 : ji S4 (x + 95) j = if j < 2935 then ji S1 (x + 96) j else ji S1 (x + 95) j := b4 j
        rw [b5, ci _ (by omega), ci _ (by omega)]
        by_cases hj : j < 2935
        · rw [if_pos hj, if_pos hj]; exact j4 j hj
        · rw [if_neg hj, if_neg hj]; exact hM.2 j
      refine ⟨m4.1, _, m4.rr0, m4.kk1, ?_, ?_, szi, (fun j => if j < 2935 then vi j else v j), ⟨⟨by rw [k4]; exact hX.1, by rw [r4 _ (by omega)]; exact hX.2.1, (r1.keep c4 (by omega)).cong (fun j hj => e2935 j (by omega))⟩, ⟨m4, o95⟩, j3.cong (fun j hj => e2935 j (by omega))⟩, hC.refs k4 l4 (fun y q _ => r4 y q), hGL.refs k4 l4 (r4 _ (by omega)) (r4 _ (by omega)), by rw [n4]; exact hjn, ?_, ⟨szi, vi, ?_, fun t ht b hb => ?_, Or.inr ⟨?_, ?_, j3, fun j hj => ?_, ?_⟩⟩, hS.keep (fun y hy => o4 y (by omega) (by omega)), hSl.keep (fun y hy => o4 y (by omega) (by omega)), hW.keep (by rw [o4 _ (by omega) (by omega)]) (by rw [o4 _ (by omega) (by omega)]) (o4 _ (by omega) (by omega)) (o4 _ (by omega) (by omega)), hTp.keep (by rw [o4 _ (by omega) (by omega)]) (by rw [o4 _ (by omega) (by omega)]) (o4 _ (by omega) (by omega)) (o4 _ (by omega) (by omega))⟩
      · show vp_in (nI 0) _
        rw [m4.ll1]; exact jin_nI (by omega) (by omega)
      · show nI szi = ji S4 (x + 95) 0
        rw [o95, if_pos (by omega)]; exact i1.2.2.1.symm
      · exact j5.move (by omega) (fun y _ => by rw [k4]) (fun y _ => by rw [l4]) r20 (fun y p _ => r4 y (by omega)) (fun y p _ _ => o4 y (by omega) (by omega)) (fun j _ hj => e2935 j hj)
      · exact i1.grow (fun y p q => ⟨by rw [k4], by rw [l4], o4 y (by omega) (by omega), r4 y (by omega)⟩)
      · rw [r4 _ (by omega)] at hb
        rw [k4]; exact i2 t ht b hb
      · rw [o4 _ (by omega) (by omega)]; exact j1
      · rw [o4 _ (by omega) (by omega)]; exact j2
      · rw [o4 _ (by omega) (by omega)]; exact j4 j hj
      · exact j5.move (by omega) (fun y _ => by rw [k4]) (fun y _ => by rw [l4]) (fun t _ => by rw [r4 _ (by omega)]) (fun y p _ => r4 y (by omega)) (fun y p _ _ => o4 y (by omega) (by omega)) (fun _ _ _ => rfl)
end jKeep
end
section
/-! CHECK on both sides -/
/-- the guild after k years -/
def ykk (sz : Nat) (p : gst) : Nat → gst
  | 0 => p
  | k + 1 => yyear sz (ykk sz p k)
/-- number j of the row due -/
def ydue (sz : Nat) (p : gst) (j : Nat) : Int32 := if j % 2 = 0 then mdead (ykk sz p (j / 2 + 1)).2 sz else mages (ykk sz p (j / 2 + 1)).2 sz
theorem ydue_e (sz : Nat) (p : gst) (k : Nat) : ydue sz p (2 * k) = mdead (ykk sz p (k + 1)).2 sz := by
  unfold ydue
  rw [if_pos (by omega), show 2 * k / 2 + 1 = k + 1 by omega]
theorem ydue_o (sz : Nat) (p : gst) (k : Nat) : ydue sz p (2 * k + 1) = mages (ykk sz p (k + 1)).2 sz := by
  unfold ydue
  rw [if_neg (by omega), show (2 * k + 1) / 2 + 1 = k + 1 by omega]
/-- what check answers: the first place that is not as due -/
def CKR (n w : Nat) (f g : Nat → Int32) (r : Int32) : Prop := ∃ j, j ≤ 2 * n ∧ (∀ i, i < j → i < w ∧ f i = g i) ∧ (j = 2 * n ∨ ¬ (j < w ∧ f j = g j)) ∧ r = if j = 2 * n ∧ w = 2 * n then 0 else nI (1 + j)
theorem CKR.one {n w : Nat} {f g : Nat → Int32} {r r' : Int32} (h : CKR n w f g r) (h' : CKR n w f g r') : r = r' := by
  obtain ⟨j, a1, a2, a3, a4⟩ := h
  obtain ⟨k, b1, b2, b3, b4⟩ := h'
  have e : j = k := by
    rcases Nat.lt_trichotomy j k with c | c | c
    · rcases a3 with a3 | a3
      · omega
      · exact absurd (b2 j c) a3
    · exact c
    · rcases b3 with b3 | b3
      · omega
      · exact absurd (a2 k c) b3
  subst e
  rw [a4, b4]
section jCheck
variable {E : jEnv} {d : Nat} {S S' : jM} {x sz M : Nat} {v : Nat → Int32}
theorem c_X11_allOf {Q : Int32 → jM → Prop} {m f : Nat} (hM : MR S m v) (h0 : v 0 = nI sz) (hz : sz ≤ 9) (hf : f < 7) (h : Q (jfold (fun i a => a + mfv v i f) sz 0 (0 : Int32)) S) : jFi E mX11_allOf (d + 1) 0 0 [.ref m, .int (nI f)] S Q := by
  obtain ⟨a1, a2⟩ := hM.at (i := 0) 0 rfl (by omega)
  have key : ∀ (n i : Nat) (a : Int32), i + n = sz → Q (jfold (fun i a => a + mfv v i f) n i a) S → L_X11_allOf_4 E d Q m (nI f) a (nI i) S := by
    intro n
    induction n with
    | zero =>
      intro i a hi hq
      obtain rfl : i = sz := by omega
      refine T_X11_allOf_4 ⟨hM.k, _, hM.r, hM.k1, a1, ?_⟩
      rw [a2, h0]
      exact ⟨fun _ => hq, fun c => absurd (nI_le (Nat.le_refl _) (by omega)) c⟩
    | succ n ih =>
      intro i a hi hq
      refine T_X11_allOf_4 ⟨hM.k, _, hM.r, hM.k1, a1, ?_⟩
      rw [a2, h0]
      refine ⟨fun c => absurd c (nI_ge (by omega) (by omega)), fun _ => c_X11_of hM (by omega) hf ?_⟩
      rw [nI_1]
      exact ih (i + 1) _ (by omega) hq
  exact T_X11_allOf (key sz 0 0 (by omega) h)
theorem mages_v (p : gst) : ∀ (n i : Nat) (a : Int32), i + n ≤ 9 → jfold (fun i a => a + mfv (vg v p) i 5) n i a = jfold (fun i a => a + p.2 i 5) n i a
  | 0, _, _, _ => rfl
  | n + 1, i, a, h => by
    show jfold _ n (i + 1) (a + mfv (vg v p) i 5) = jfold _ n (i + 1) (a + p.2 i 5)
    rw [show mfv (vg v p) i 5 = p.2 i 5 from vg_m p (by omega) (by omega)]
    exact mages_v p n (i + 1) _ (by omega)
theorem mdead_v (p : gst) (hd : ∀ i, i < 9 → p.2 i 6 = 0 ∨ p.2 i 6 = 1) : ∀ (n i : Nat) (a : Int32), i + n ≤ 9 → jfold (fun i a => a + mfv (vg v p) i 6) n i a = jfold (fun i a => if p.2 i 6 = 0 then a + 0 else a + 1) n i a
  | 0, _, _, _ => rfl
  | n + 1, i, a, h => by
    show jfold _ n (i + 1) (a + mfv (vg v p) i 6) = jfold _ n (i + 1) (if p.2 i 6 = 0 then a + 0 else a + 1)
    rw [show mfv (vg v p) i 6 = p.2 i 6 from vg_m p (by omega) (by omega)]
    have e : a + p.2 i 6 = if p.2 i 6 = 0 then a + 0 else a + 1 := by
      rcases hd i (by omega) with e | e
      · rw [if_pos e, e]
      · rw [if_neg (by rw [e]; decide), e]
    rw [e]
    exact mdead_v p hd n (i + 1) _ (by omega)
theorem c_X10_isWaiting {Q : Int32 → jM → Prop} {j w : Nat} {t : Int32} (hC : CL S x) (hj : j < 60) (hw : w ≤ 60) (h1 : j < w → ji S (x + 65) j = t → Q 1 S) (h0 : ¬ (j < w ∧ ji S (x + 65) j = t) → Q 0 S) : jFi E mX10_isWaiting (d + 1) 0 0 [.ref x, .int (nI j), .int (nI w), .int t] S Q := by
  refine T_X10_isWaiting ⟨fun c => h0 (fun q => ?_), fun c => ⟨fun c2 => ?_, fun _ => ⟨hC.1, _, hC.2.1.2.2.2.2.2.2.2, hC.2.2.2.2.2.2.1.1, by rw [hC.2.2.2.2.2.2.1.2]; exact jin_nI hj (by omega), ?_⟩⟩⟩
  · have := (nI_leI (by omega) (by omega)).mp c
    omega
  · rw [show (60 : Int32) = nI 60 from rfl, jwi_at hj (by omega)] at c2
    exact absurd c2 (by decide)
  · have hjw : j < w := by
      rcases Nat.lt_or_ge j w with q | q
      · exact q
      · exact absurd (nI_le q (by omega)) c
    rw [jcl (by omega)]
    exact ⟨fun e => h1 hjw e, fun e => h0 (fun q => e q.2)⟩
theorem nI_2 (k : Nat) : (2 : Int32) * nI k = nI (2 * k) := by rw [show (2 : Int32) = nI 2 from rfl, nI_mul]
theorem Q_check {u : Int32} (h : IV S x sz M v) : jFi E mX10_check (d + 3) 0 0 [.ref x, .int u] S (fun r S1 => jFm E mX11_check (d + 3) (x + 94) [.int u] S1 (fun r' S2 => r = r' ∧ INV S2 x M)) := by
  obtain ⟨⟨hX, hM, hg⟩, hC, hGL, hjn, hT, hI, hS, hSl, hW, hTp⟩ := id h
  obtain ⟨szi, vi, i1, i2, i3⟩ := id hI
  obtain ⟨w, w60, w1, w2, w3⟩ := id hW
  have m := hM.1
  -- what both leave
  have fin : ∀ (S2 : jM), jsame S S2 → (∀ y, y ≠ x → (y < x + 41 ∨ x + 52 ≤ y) → y ≠ x + 94 → y ≠ x + 97 → y ≠ x + 114 → ji S2 y = ji S y) → (∀ j, ji S2 x j = if j = 9 then 0 else ji S x j) → (∀ j, ji S2 (x + 94) j = if j = 34 then 0 else ji S (x + 94) j) → INV S2 x M := by
    intro S2 s o ox om
    refine h.rst s (fun y hy => o y (by omega) (by omega) (by omega) (by omega) (by omega)) ⟨hI.keep s (by rw [ox, if_neg (by omega)]) (by rw [om, if_neg (by omega)]) (fun y hy => o y (by omega) (by omega) (by omega) (by omega) (by omega)), hS.keep (fun y hy => o y (by omega) (by omega) (by omega) (by omega) (by omega)), hSl.keep (fun y hy => o y (by omega) (by omega) (by omega) (by omega) (by omega)), ⟨0, by omega, by rw [ox, if_pos rfl]; rfl, by rw [om, if_pos rfl]; rfl, fun j hj => absurd hj (Nat.not_lt_zero _)⟩, hTp.keep (by rw [o _ (by omega) (by omega) (by omega) (by omega) (by omega)]) (by rw [om, if_neg (by omega)]) (o _ (by omega) (by omega) (by omega) (by omega) (by omega)) (o _ (by omega) (by omega) (by omega) (by omega) (by omega))⟩
  have putx : ∀ j, ji (jput S x 9 0) x j = if j = 9 then 0 else ji S x j := fun j => by
    rw [ji_put]
    by_cases e : j = 9
    · rw [if_pos ⟨rfl, e⟩, if_pos e]
    · rw [if_neg (fun c => e c.2), if_neg e]
  have putm : ∀ (S1 : jM) (j : Nat), ji S1 (x + 94) = ji S (x + 94) → ji (jput S1 (x + 94) 34 0) (x + 94) j = if j = 34 then 0 else ji S (x + 94) j := fun S1 j e1 => by
    rw [ji_put]
    by_cases e : j = 34
    · rw [if_pos ⟨rfl, e⟩, if_pos e]
    · rw [if_neg (fun c => e c.2), if_neg e, e1]
  have fin0 : INV (jput (jput S x 9 0) (x + 94) 34 0) x M := by
    refine fin _ ⟨rfl, rfl, rfl, rfl⟩ (fun y a b c _ _ => by rw [ji_put_ne _ _ _ _ c, ji_put_ne _ _ _ _ a]) (fun j => by rw [ji_put_ne _ _ _ _ (by omega), putx]) (fun j => putm _ j (ji_put_ne _ _ _ _ (by omega)))
  have ej : jisin (Int32.toInt64 u) 1 30 = if u < 1 then 0 else if 30 < u then 0 else 1 := jisin_int u 1 30
  refine T_X10_check ⟨hX.1, fun c => ?_, fun c => ⟨fun c1 => ⟨fun c2 => ?_, fun c2 => ?_⟩, fun c1 => ?_⟩⟩
  · refine U_X11_check m.1 ⟨m.1, fun _ => ⟨rfl, fin0⟩, fun c3 => absurd (by rw [ej, if_pos c]) c3⟩
  · refine U_X11_check m.1 ⟨m.1, fun c3 => ?_, fun _ => ⟨fun _ => ⟨rfl, fin0⟩, fun c3 => ?_⟩⟩
    · rw [ej, if_neg c, if_neg (Int32.not_lt.mpr c1)] at c3; exact absurd c3 (by decide)
    · rw [ji_put_ne _ _ _ _ (by omega)] at c3
      rcases i3 with ⟨-, j2⟩ | ⟨j1, -⟩
      · exact absurd j2 c3
      · rw [j1] at c2; exact absurd c2 (by decide)
  · rcases i3 with ⟨j1, -⟩ | ⟨j1, j2, j3, j4, j5⟩
    · exact absurd j1 c2
    have hu : ¬ u < 0 := fun q => c (Int32.lt_of_lt_of_le q (by decide))
    obtain ⟨n, hn, rfl⟩ := nI_of hu
    have n30 : n ≤ 30 := (nI_leI (b := 30) (by omega) (by omega)).mp c1
    have e2935 : ∀ j, j < 2935 → (fun j => if j < 2935 then vi j else v j) j = vi j := fun j hj => if_pos hj
    have hR := i1.cong (v' := fun j => if j < 2935 then vi j else v j) (fun j hj => e2935 j (by omega))
    have hgr := j3.cong (v' := fun j => if j < 2935 then vi j else v j) (fun j hj => e2935 j (by omega))
    have hv0 : (fun j => if j < 2935 then vi j else v j) 0 = nI szi := hR.2.2.1
    have vrow : ∀ j, (if j < 2935 then vi j else v j) = (fun j => if j < 2935 then vi j else v j) j := fun _ => rfl
    generalize (fun j => if j < 2935 then vi j else v j) = vr at hR hgr hv0 vrow
    have hz : szi ≤ 9 := hR.2.1
    -- the class
    have c0 : jch S (jput S x 9 0) x (x + 1) := jch.put (by omega) (by omega)
    have hC0 := hC.same c0.1
    refine ⟨_, hC.2.1.2.2.1, _, hC.2.1.2.1, i1.1.1, _, i1.1.2.1, hGL.1, ?_⟩
    refine c_X0_become (g := x + 41) (sz := (ji S (x + 41) 1).toBitVec.toNat) (z := ji S (x + 41) 2) (mf := fun i f => ji S (x + 41 + 2 + i) f) ⟨hGL.same c0.1, by rw [c0.2 _ (by omega)]; exact nI_bv _, by rw [c0.2 _ (by omega)], fun i _ f _ => by rw [c0.2 _ (by omega)]⟩ (hR.keep c0 (by omega)).2.2.2.1 (by omega) (fun i hi => ?_) (fun S1 c1 g1 => ?_)
    · exact hgr.de hi
    have key : ∀ (r : Int32) (S2 : jM), CKR n w (ji S (x + 65)) (ydue szi (vr 8, mfv vr)) r → jch (jput S x 9 0) S2 (x + 41) (x + 41 + 11) → jFm E mX11_check (d + 3) (x + 94) [.int (nI n)] S2 (fun r' S2 => r = r' ∧ INV S2 x M) := by
      intro r S2 hr c2'
      have o2 : ∀ y, y ≠ x → (y < x + 41 ∨ x + 52 ≤ y) → ji S2 y = ji S y := fun y a b => by rw [c2'.2 y (by omega), c0.2 y (by omega)]
      have s2 : jsame S S2 := c0.1.trans c2'.1
      have m2 := m.same s2
      refine U_X11_check m2.1 ⟨m2.1, fun c3 => ?_, fun _ => ⟨fun c3 => ?_, fun _ => ⟨_, m2.rr0, _, m2.r2.1, ?_⟩⟩⟩
      · rw [ej, if_neg c, if_neg (Int32.not_lt.mpr ‹nI n ≤ 30›)] at c3; exact absurd c3 (by decide)
      · rw [o2 _ (by omega) (by omega), j2] at c3; exact absurd c3 (by decide)
      have m3 : ML (jput S2 (x + 94) 34 0) (x + 94) := m2
      refine c_X11_setAside m3.kk1 m3.ll1 m3.r2.2.1 m3.r2.2.2 (by omega) (fun S4 c4 b4 => ?_)
      have m4 := m3.same c4.1
      refine ⟨m4.1, _, m4.r1.1, _, m4.rr0, ?_⟩
      refine c_X11_setAside m4.r1.2.1 m4.r1.2.2 m4.kk1 m4.ll1 (by omega) (fun S5 c5 b5 => ?_)
      have m5 := m4.same c5.1
      have o5 : ∀ y, y ≠ x → (y < x + 41 ∨ x + 52 ≤ y) → y ≠ x + 94 → y ≠ x + 95 → y ≠ x + 97 → ji S5 y = ji S y := fun y a b c e f => by
        rw [c5.2 y (by omega), c4.2 y (by omega), ji_put_ne _ _ _ _ c]; exact o2 y a b
      have s5 : jsame S S5 := s2.trans ((show jsame S2 (jput S2 (x + 94) 34 0) from ⟨rfl, rfl, rfl, rfl⟩).trans (c4.1.trans c5.1))
      have r95 : ∀ j, ji S5 (x + 95) j = vr j := fun j => by
        have b5' : ji S5 (x + 95) j = if j < 2935 then ji S4 (x + 96) j else ji S4 (x + 95) j := b5 j
        rw [b5', c4.2 _ (by omega), c4.2 _ (by omega), ji_put_ne _ _ _ _ (by omega), ji_put_ne _ _ _ _ (by omega), o2 _ (by omega) (by omega), o2 _ (by omega) (by omega), ← vrow]
        by_cases hj : j < 2935
        · rw [if_pos hj, if_pos hj]; exact j4 j hj
        · rw [if_neg hj, if_neg hj]; exact hM.2 j
      have r97 : ∀ j, j < 2935 → ji S5 (x + 97) j = v j := fun j hj => by
        rw [c5.2 _ (by omega)]
        have b4' : ji S4 (x + 97) j = if j < 2935 then ji (jput S2 (x + 94) 34 0) (x + 95) j else ji (jput S2 (x + 94) 34 0) (x + 97) j := b4 j
        rw [b4', if_pos hj, ji_put_ne _ _ _ _ (by omega), o2 _ (by omega) (by omega)]; exact hM.2 j
      have hi95 : ∀ j, 2935 ≤ j → vr j = v j := fun j hj => by rw [← vrow, if_neg (by omega)]
      have q34 : ji S2 (x + 94) 34 = nI w := by rw [o2 _ (by omega) (by omega)]; exact w2
      rw [q34]
      -- the comparing
      have cmp : ∀ (S6 : jM), ML S6 (x + 94) → INV S6 x M → (∀ j, j < 2 * n → ji S6 (x + 114) j = ydue szi (vr 8, mfv vr) j) → (∀ j, j < w → ji S6 (x + 113) j = ji S (x + 65) j) → ∀ (c e : Nat), e + c = 2 * n → e ≤ w → (∀ i, i < e → i < w ∧ ji S (x + 65) i = ydue szi (vr 8, mfv vr) i) → L_X11_check_125 E (d + 2) (fun r' S2 => r = r' ∧ INV S2 x M) (x + 94) (nI w) (nI (2 * n)) (nI e) S6 := by
        intro S6 m6 v6 h114 h113 c
        induction c with
        | zero =>
          intro e he hew hall
          obtain rfl : e = 2 * n := by omega
          have en : ∀ q : Prop, (nI (2 * n) = nI w → w = 2 * n → q) → nI (2 * n) = nI w → q := fun q f e => f e (nI_inj (by omega) (by omega) e).symm
          have stop : (nI (2 * n) = nI w → (nI (2 * n) = nI (2 * n) → r = 0 ∧ INV S6 x M) ∧ (¬ nI (2 * n) = nI (2 * n) → r = 1 + nI (2 * n) ∧ INV S6 x M)) ∧ (¬ nI (2 * n) = nI w → r = 1 + nI (2 * n) ∧ INV S6 x M) := by
            refine ⟨fun e1 => ⟨fun _ => ⟨hr.one ⟨2 * n, by omega, hall, Or.inl rfl, ?_⟩, v6⟩, fun c => absurd rfl c⟩, fun e1 => ⟨hr.one ⟨2 * n, by omega, hall, Or.inl rfl, ?_⟩, v6⟩⟩
            · rw [if_pos ⟨rfl, (nI_inj (by omega) (by omega) e1).symm⟩]
            · rw [if_neg (fun q => e1 (by rw [q.2])), show (1 : Int32) = nI 1 from rfl, nI_add]
          exact T_X11_check_125 ⟨fun _ => stop, fun _ => ⟨fun _ => stop, fun c => absurd Int32.le_rfl c⟩⟩
        | succ c ih =>
          intro e he hew hall
          have ne : ¬ nI (2 * n) ≤ nI e := nI_ge (by omega) (by omega)
          have n2 : ¬ nI e = nI (2 * n) := fun q => by have := nI_inj (by omega) (by omega) q; omega
          have stop : ¬ (e < w ∧ ji S (x + 65) e = ydue szi (vr 8, mfv vr) e) → (nI e = nI w → (nI e = nI (2 * n) → r = 0 ∧ INV S6 x M) ∧ (¬ nI e = nI (2 * n) → r = 1 + nI e ∧ INV S6 x M)) ∧ (¬ nI e = nI w → r = 1 + nI e ∧ INV S6 x M) := by
            intro hno
            have hq : r = 1 + nI e := hr.one ⟨e, by omega, hall, Or.inr hno, by rw [if_neg (fun q => by omega), show (1 : Int32) = nI 1 from rfl, nI_add]⟩
            exact ⟨fun _ => ⟨fun q => absurd q n2, fun _ => ⟨hq, v6⟩⟩, fun _ => ⟨hq, v6⟩⟩
          refine T_X11_check_125 ⟨fun c1 => stop (fun q => ?_), fun c1 => ⟨fun c2 => absurd c2 ne, fun _ => ⟨m6.1, _, m6.r33.1, m6.r33.2.1, ?_, _, m6.r35.1, m6.r35.2.1, ?_, ?_⟩⟩⟩
          · have := (nI_leI (by omega) (by omega)).mp c1
            omega
          · rw [m6.r33.2.2]; exact jin_nI (by omega) (by omega)
          · rw [m6.r35.2.2]; exact jin_nI (by omega) (by omega)
          · have hlt : e < w := by
              rcases Nat.lt_or_ge e w with q | q
              · exact q
              · exact absurd (nI_le q (by omega)) c1
            rw [jcl (by omega), h114 e (by omega), h113 e hlt, nI_1]
            refine ⟨fun q => ih (e + 1) (by omega) (by omega) (fun i hi => ?_), fun q => stop (fun z => q z.2)⟩
            by_cases hie : i = e
            · rw [hie]; exact ⟨hlt, q⟩
            · exact hall i (by omega)
      -- the years
      have lR : ∀ (c k : Nat) (S6 : jM), k + c = n → jsame S5 S6 → (∀ y, y ≠ x + 95 → y ≠ x + 114 → ji S6 y = ji S5 y) → MR S6 (x + 94) (vg vr (ykk szi (vr 8, mfv vr) k)) → Rg szi (vg vr (ykk szi (vr 8, mfv vr) k)) → (∀ j, j < 2 * k → ji S6 (x + 114) j = ydue szi (vr 8, mfv vr) j) → L_X11_check_64 E (d + 2) (fun r' S2 => r = r' ∧ INV S2 x M) (x + 94) (nI n) (nI w) (nI (2 * k)) (nI k) S6 := by
        intro c
        induction c with
        | zero =>
          intro k S6 hk s6 o6 h6 g6 d6
          obtain rfl : k = n := by omega
          have m6 := h6.1
          refine T_X11_check_64 ⟨fun _ => ⟨m6.1, _, m6.r2.1, _, m6.rr0, ?_⟩, fun cc => absurd Int32.le_rfl cc⟩
          refine c_X11_setAside m6.r2.2.1 m6.r2.2.2 m6.kk1 m6.ll1 (by omega) (fun S7 c7 b7 => ?_)
          have m7 := m6.same c7.1
          have o7 : ∀ y, y ≠ x + 95 → y ≠ x + 114 → ji S7 y = ji S5 y := fun y a b => by rw [c7.2 y (by omega)]; exact o6 y a b
          have r7 : ∀ j, ji S7 (x + 95) j = v j := fun j => by
            have b7' : ji S7 (x + 95) j = if j < 2935 then ji S6 (x + 97) j else ji S6 (x + 95) j := b7 j
            rw [b7']
            by_cases hj : j < 2935
            · rw [if_pos hj, o6 _ (by omega) (by omega)]; exact r97 j hj
            · rw [if_neg hj]
              have := h6.2 j
              rw [show x + 94 + 1 = x + 95 by omega] at this
              rw [this, vg_o _ (by omega) (by omega)]
              exact hi95 j (by omega)
          refine cmp S7 m7 (fin S7 (s5.trans (s6.trans c7.1)) (fun y a b c e f => ?_) (fun j => ?_) (fun j => ?_)) (fun j hj => ?_) (fun j hj => ?_) (2 * k) 0 (by omega) (by omega) (fun i hi => absurd hi (Nat.not_lt_zero _))
          · by_cases hy : y = x + 95
            · subst hy
              funext j
              rw [r7 j]; exact (hM.2 j).symm
            · rw [o7 y hy f]; exact o5 y a b c hy e
          · rw [o7 _ (by omega) (by omega), c5.2 _ (by omega), c4.2 _ (by omega), ji_put_ne _ _ _ _ (by omega), c2'.2 _ (by omega)]; exact putx j
          · rw [o7 _ (by omega) (by omega), c5.2 _ (by omega), c4.2 _ (by omega)]
            exact putm S2 j (o2 _ (by omega) (by omega))
          · rw [c7.2 _ (by omega)]; exact d6 j hj
          · rw [o7 _ (by omega) (by omega), o5 _ (by omega) (by omega) (by omega) (by omega) (by omega)]
            exact (w3 j hj).symm
        | succ c ih =>
          intro k S6 hk s6 o6 h6 g6 d6
          refine T_X11_check_64 ⟨fun cc => absurd cc (nI_ge (by omega) (by omega)), fun _ => ⟨h6.k, ?_⟩⟩
          refine c_X11_year hv0 hz h6 g6 (fun S7 c7 h7 g7 => ?_)
          have m7 := h7.1
          have dd : ∀ i, i < 9 → (ykk szi (vr 8, mfv vr) (k + 1)).2 i 6 = 0 ∨ (ykk szi (vr 8, mfv vr) (k + 1)).2 i 6 = 1 := fun i hi => by
            have := g7.de (i := i) hi
            rw [show mfv (vg vr (yyear szi (ykk szi (vr 8, mfv vr) k))) i 6 = (ykk szi (vr 8, mfv vr) (k + 1)).2 i 6 from vg_m _ hi (by omega)] at this
            exact this
          have h8 : vg vr (yyear szi (ykk szi (vr 8, mfv vr) k)) 0 = nI szi := by rw [vg_o _ (by omega) (by omega)]; exact hv0
          refine ⟨m7.1, _, m7.r35.1, c_X11_allOf (f := 6) h7 h8 hz (by omega) ⟨m7.r35.2.1, ?_, m7.1, _, m7.r35.1, ?_⟩⟩
          · rw [m7.r35.2.2]; exact jin_nI (by omega) (by omega)
          rw [jcl (n := 2 * k) (by omega), mdead_v (yyear szi (ykk szi (vr 8, mfv vr) k)) dd szi 0 0 (by omega)]
          have e6 : jfold (fun i a => if (yyear szi (ykk szi (vr 8, mfv vr) k)).2 i 6 = 0 then a + 0 else a + 1) szi 0 (0 : Int32) = ydue szi (vr 8, mfv vr) (2 * k) := (ydue_e szi (vr 8, mfv vr) k).symm
          rw [e6]
          have c8 : jch S7 (jput S7 (x + 114) (2 * k) (ydue szi (vr 8, mfv vr) (2 * k))) (x + 114) (x + 115) := jch.put (by omega) (by omega)
          have h9 := h7.keep c8 (by omega)
          refine c_X11_allOf (f := 5) h9 h8 hz (by omega) ⟨h9.1.r35.2.1, ?_, ?_⟩
          · rw [nI_1, h9.1.r35.2.2]; exact jin_nI (by omega) (by omega)
          rw [nI_1 k, nI_1 (2 * k), jcl (n := 2 * k + 1) (by omega), mages_v (yyear szi (ykk szi (vr 8, mfv vr) k)) szi 0 0 (by omega)]
          have e5 : jfold (fun i a => a + (yyear szi (ykk szi (vr 8, mfv vr) k)).2 i 5) szi 0 (0 : Int32) = ydue szi (vr 8, mfv vr) (2 * k + 1) := (ydue_o szi (vr 8, mfv vr) k).symm
          rw [e5, show nI (2 * k) + 2 = nI (2 * (k + 1)) from (by rw [show (2 : Int32) = nI 2 from rfl, nI_add]; congr 1)]
          have c9 : jch (jput S7 (x + 114) (2 * k) (ydue szi (vr 8, mfv vr) (2 * k))) (jput (jput S7 (x + 114) (2 * k) (ydue szi (vr 8, mfv vr) (2 * k))) (x + 114) (2 * k + 1) (ydue szi (vr 8, mfv vr) (2 * k + 1))) (x + 114) (x + 115) := jch.put (by omega) (by omega)
          refine ih (k + 1) _ (by omega) (s6.trans (c7.1.trans (c8.1.trans c9.1))) (fun y a b => by rw [c9.2 y (by omega), c8.2 y (by omega), c7.2 y (by omega)]; exact o6 y a b) (h9.keep c9 (by omega)) g7 (fun j hj => ?_)
          rw [ji_put, ji_put]
          by_cases q1 : j = 2 * k + 1
          · rw [if_pos ⟨rfl, q1⟩, q1]
          · rw [if_neg (fun q => q1 q.2)]
            by_cases q2 : j = 2 * k
            · rw [if_pos ⟨rfl, q2⟩, q2]
            · rw [if_neg (fun q => q2 q.2), c7.2 _ (by omega)]
              exact d6 j (by omega)
      refine lR n 0 S5 (by omega) jsame.rfl (fun _ _ _ => rfl) ⟨m5, fun j => ?_⟩ (hgr.cong (fun j _ => vg_self j)) (fun j hj => absurd hj (Nat.not_lt_zero _))
      show ji S5 (x + 94 + 1) j = vg vr (vr 8, mfv vr) j
      rw [vg_self]; exact r95 j
    rw [w1]
    have w65 : ∀ (S2 : jM), jch (jput S x 9 0) S2 (x + 41) (x + 41 + 11) → ji S2 (x + 65) = ji S (x + 65) := fun S2 c => by rw [c.2 _ (by omega), c0.2 _ (by omega)]
    have lC : ∀ (c k : Nat) (S2 : jM), k + c = n → 2 * k ≤ w → (∀ i, i < 2 * k → i < w ∧ ji S (x + 65) i = ydue szi (vr 8, mfv vr) i) → jch (jput S x 9 0) S2 (x + 41) (x + 41 + 11) → GR S2 (x + 41) szi (ykk szi (vr 8, mfv vr) k).1 (ykk szi (vr 8, mfv vr) k).2 → L_X10_check_50 E (d + 2) (fun r S1 => jFm E mX11_check (d + 3) (x + 94) [.int (nI n)] S1 (fun r' S2 => r = r' ∧ INV S2 x M)) x (nI n) (nI w) (nI k) S2 := by
      intro c
      induction c with
      | zero =>
        intro k S2 hk hkw hall c2' g2
        obtain rfl : k = n := by omega
        refine T_X10_check_50 ⟨fun _ => ⟨fun e => key _ S2 ⟨2 * k, by omega, hall, Or.inl rfl, ?_⟩ c2', fun e => key _ S2 ⟨2 * k, by omega, hall, Or.inl rfl, ?_⟩ c2'⟩, fun cc => absurd Int32.le_rfl cc⟩
        · rw [nI_2] at e
          rw [if_pos ⟨rfl, nI_inj (by omega) (by omega) e⟩]
        · rw [nI_2] at e
          rw [if_neg (fun q => e (by rw [q.2])), nI_2, show (1 : Int32) = nI 1 from rfl, nI_add]
      | succ c ih =>
        intro k S2 hk hkw hall c2' g2
        have hC2 := (hC0.same c2'.1)
        refine T_X10_check_50 ⟨fun cc => absurd cc (nI_ge (by omega) (by omega)), fun _ => ⟨hC2.1, _, hC2.2.1.2.2.1, g2.1.1, c_X0_liveYear g2 hz (fun S3 c3 g3 => ?_)⟩⟩
        have c23 := c2'.trans c3
        have hC3 := hC0.same c23.1
        refine ⟨hC3.1, _, hC3.2.1.2.2.1, g3.1.1, c_X0_countDead g3 hz ⟨hC3.1, ?_⟩⟩
        rw [nI_2]
        refine c_X10_isWaiting hC3 (by omega) w60 (fun q1 q2 => ⟨fun c => absurd c (by decide), fun _ => ⟨hC3.1, _, hC3.2.1.2.2.1, g3.1.1, c_X0_agesTogether g3 hz ⟨hC3.1, ?_⟩⟩⟩) (fun q => ⟨fun _ => key _ S3 ⟨2 * k, by omega, hall, Or.inr (fun z => q ⟨z.1, ?_⟩), ?_⟩ c23, fun c => absurd rfl c⟩)
        · rw [w65 S3 c23] at q2
          have q2' : ji S (x + 65) (2 * k) = ydue szi (vr 8, mfv vr) (2 * k) := q2.trans (ydue_e szi (vr 8, mfv vr) k).symm
          have all1 : ∀ i, i < 2 * k + 1 → i < w ∧ ji S (x + 65) i = ydue szi (vr 8, mfv vr) i := fun i hi => by
            by_cases e : i = 2 * k
            · rw [e]; exact ⟨q1, q2'⟩
            · exact hall i (by omega)
          rw [nI_1]
          refine c_X10_isWaiting hC3 (by omega) w60 (fun q3 q4 => ⟨fun c => absurd c (by decide), fun _ => ?_⟩) (fun q => ⟨fun _ => key _ S3 ⟨2 * k + 1, by omega, all1, Or.inr (fun z => q ⟨z.1, ?_⟩), ?_⟩ c23, fun c => absurd rfl c⟩)
          · rw [nI_1]
            rw [w65 S3 c23] at q4
            have q4' : ji S (x + 65) (2 * k + 1) = ydue szi (vr 8, mfv vr) (2 * k + 1) := q4.trans (ydue_o szi (vr 8, mfv vr) k).symm
            refine ih (k + 1) S3 (by omega) (by omega) (fun i hi => ?_) c23 g3
            by_cases e : i = 2 * k + 1
            · rw [e]; exact ⟨q3, q4'⟩
            · exact all1 i (by omega)
          · rw [w65 S3 c23, z.2]; exact ydue_o szi (vr 8, mfv vr) k
          · rw [if_neg (fun z => by omega), show (2 : Int32) = nI 2 from rfl, nI_add, show 2 + 2 * k = 1 + (2 * k + 1) by omega]
        · rw [w65 S3 c23, z.2]; exact ydue_e szi (vr 8, mfv vr) k
        · rw [if_neg (fun z => by omega), show (1 : Int32) = nI 1 from rfl, nI_add]
    exact lC n 0 S1 (by omega) (by omega) (fun i hi => absurd hi (Nat.not_lt_zero _)) c1 g1
  · refine U_X11_check m.1 ⟨m.1, fun _ => ⟨rfl, fin0⟩, fun c3 => absurd (by rw [ej, if_neg c, if_pos (Int32.not_le.mp c1)]) c3⟩
end jCheck
end
section
/-! CUT on both sides -/
theorem i32sub {a b : Int32} (h1 : -2147483648 ≤ a.toInt - b.toInt) (h2 : a.toInt - b.toInt < 2147483648) : (a - b).toInt = a.toInt - b.toInt := by
  rw [Int32.toInt_sub]
  exact Int.bmod_eq_of_le (by omega) (by omega)
/-- how far a number of days is from a number of the sheet -/
def apn (t : Nat) (y : Int32) : Nat := Int.natAbs ((t : Int) - y.toInt)
theorem apn_is {t : Nat} {y : Int32} (ht : t ≤ 207) (hy : -99999 ≤ y ∧ y ≤ 99999) : jabs (nI t - y) = nI (apn t y) ∧ joff y (nI t) = nI (apn t y) ∧ apn t y ≤ 100206 := by
  obtain ⟨y1, y2⟩ := hy
  rw [Int32.le_iff_toInt_le] at y1 y2
  have f1 : (-99999 : Int32).toInt = -99999 := by decide
  have f2 : (99999 : Int32).toInt = 99999 := by decide
  have f0 : (0 : Int32).toInt = 0 := by decide
  rw [f1] at y1
  rw [f2] at y2
  have et : (nI t).toInt = (t : Int) := nI_toInt (by omega)
  have e1 : (nI t - y).toInt = (t : Int) - y.toInt := by rw [i32sub (by omega) (by omega), et]
  have e2 : (y - nI t).toInt = y.toInt - (t : Int) := by rw [i32sub (by omega) (by omega), et]
  have e3 : (0 - (nI t - y)).toInt = y.toInt - (t : Int) := by rw [i32sub (by omega) (by omega), e1, f0]; omega
  have hb : apn t y ≤ 100206 := by unfold apn; omega
  have en : (nI (apn t y)).toInt = (apn t y : Int) := nI_toInt (by omega)
  refine ⟨?_, ?_, hb⟩
  · apply Int32.toInt_inj.mp
    rw [en]
    unfold jabs apn
    by_cases c : 0 ≤ nI t - y
    · rw [if_pos c, e1]
      rw [Int32.le_iff_toInt_le, e1, f0] at c
      omega
    · rw [if_neg c, e3]
      rw [Int32.le_iff_toInt_le, e1, f0] at c
      omega
  · apply Int32.toInt_inj.mp
    rw [en]
    unfold joff apn
    by_cases c : nI t ≤ y
    · rw [if_pos c, e2]
      rw [Int32.le_iff_toInt_le, et] at c
      omega
    · rw [if_neg c, e1]
      rw [Int32.le_iff_toInt_le, et] at c
      omega
def aps (f : Nat → Nat) : Nat → Nat → Nat → Nat
  | 0, _, a => a
  | n + 1, k, a => aps f n (k + 1) (a + f k)
theorem aps_le {f : Nat → Nat} {b : Nat} (hf : ∀ k, f k ≤ b) : ∀ (n k a : Nat), aps f n k a ≤ a + n * b
  | 0, _, a => by show a ≤ a + 0 * b; omega
  | n + 1, k, a => by
    have := aps_le hf n (k + 1) (a + f k)
    have := hf k
    show aps f n (k + 1) (a + f k) ≤ a + (n + 1) * b
    have e : (n + 1) * b = n * b + b := Nat.succ_mul n b
    omega
/-- the best, and how far -/
def cbst (A : Nat → Nat) : Nat → Nat → Option (Nat × Nat) → Option (Nat × Nat)
  | 0, _, o => o
  | c + 1, i, none => cbst A c (i + 1) (some (i, A i))
  | c + 1, i, some (b, l) => cbst A c (i + 1) (if A i < l then some (i, A i) else some (b, l))
def cans (o : Option (Nat × Nat)) (u : Int32) : Int32 := match o with
  | none => kNONE
  | some (b, l) => if u = 0 then nI b else nI l
section jCut
variable {E : jEnv} {d : Nat} {S S' : jM} {x sz M : Nat} {v : Nat → Int32}
theorem IV.pil {S1 : jM} (h : IV S x sz M v) (p : jpi S S1 x) : IV S1 x sz M v := h.next p.fq (p.pi h.1) (fun _ _ _ => rfl)
theorem tkd_le {o : lwt} {k kd tg ag : Nat} (ha : ag < 100) : tkd o k kd tg ag ≤ 207 := tdays_le ha (jcl99_is _).2.1
theorem c_X3_apart {Q : Int32 → jM → Prop} {o : lwt} {i n j kd tg ag : Nat} {F : Nat → Nat} (h : IV S x sz M v) (hi : i < 4) (hn : n ≤ 24) (e1 : ji S (x + 66 + 2 * i) 1 = nI n) (hy : ∀ k, k < 24 → jpl (ji S (x + 67 + 2 * i) k)) (hL : LWD S x (x + 20) v 0 o) (hj : j < 9) (e0 : mfv v j 0 = nI kd) (e2 : mfv v j 2 = nI tg) (e5 : mfv v j 5 = nI ag) (hkd : kd < 6) (hag : ag < 100)
    (hF : ∀ k, k < n → F k = if ji S (x + 67 + 2 * i) k = kNONE then 0 else apn (tkd o k kd tg ag) (ji S (x + 67 + 2 * i) k)) (hq : ∀ S', jpi S S' x → Q (nI (aps F n 0 0)) S') : jFi E mX3_apart (d + 4) 0 0 [.ref (x + 1), .ref (x + 2 + 2 + j), .ref (x + 66 + 2 * i)] S Q := by
  have key : ∀ (c k a : Nat) (S1 : jM), k + c = n → jpi S S1 x → (∀ S', jpi S S' x → Q (nI (aps F c k a)) S') → L_X3_apart_5 E (d + 3) Q (x + 1) (x + 2 + 2 + j) (x + 66 + 2 * i) (nI a) (nI k) S1 := by
    intro c
    induction c with
    | zero =>
      intro k a S1 hk p1 hq1
      obtain rfl : k = n := by omega
      have hC1 := (h.pil p1).2.1
      refine T_X3_apart_5 ⟨(hC1.sh i hi).1, ?_⟩
      rw [p1.2 _ (by omega), e1]
      exact ⟨fun _ => hq1 S1 p1, fun cc => absurd Int32.le_rfl cc⟩
    | succ c ih =>
      intro k a S1 hk p1 hq1
      have h1 := h.pil p1
      have hC1 := h1.2.1
      have hX1 := h1.1.1
      have hs := hC1.sh i hi
      have e1' : ji S1 (x + 66 + 2 * i) 1 = nI n := by rw [p1.2 _ (by omega)]; exact e1
      have y1 : ji S1 (x + 67 + 2 * i) = ji S (x + 67 + 2 * i) := p1.2 _ (by omega)
      refine T_X3_apart_5 ⟨hs.1, ?_⟩
      rw [e1']
      refine ⟨fun cc => absurd cc (nI_ge (by omega) (by omega)), fun _ => c_X6_isNumber hs hn e1' (by omega) (fun c0 => ⟨fun _ => ?_, fun cc => absurd rfl cc⟩) (fun c0 => ⟨fun cc => absurd cc (by decide), fun _ => ⟨hX1.k3, ?_⟩⟩)⟩
      · rw [nI_1]
        rw [y1] at c0
        refine ih (k + 1) a S1 (by omega) p1 (fun S' p' => ?_)
        have e : aps F (c + 1) k a = aps F c (k + 1) a := by
          show aps F c (k + 1) (a + F k) = _
          rw [hF k (by omega), if_pos c0]; rfl
        rw [← e]; exact hq1 S' p'
      · rw [y1] at c0
        refine c_X3_daysTaken (M := M) hX1.2.2 h1.2.2.2.2.1 (hL.keep p1.fq) (hX1.mk hj) (by omega) ((hX1.ms hj (by omega)).trans e0) ((hX1.ms hj (by omega)).trans e2) ((hX1.ms hj (by omega)).trans e5) hkd hag (fun S2 p2 => ?_)
        have p12 := p1.trans p2
        have hs2 := (h.pil p12).2.1.sh i hi
        refine ⟨hs2.1, _, hs2.2.1, hs2.2.2.1, by rw [hs2.2.2.2]; exact jin_nI (by omega) (by omega), ?_⟩
        rw [nI_1, jcl (by omega), p12.2 (x + 67 + 2 * i) (by omega)]
        have hyk : -99999 ≤ ji S (x + 67 + 2 * i) k ∧ ji S (x + 67 + 2 * i) k ≤ 99999 := (hy k (by omega)).elim (fun q => absurd q c0) id
        rw [(apn_is (tkd_le hag) hyk).1, nI_add]
        refine ih (k + 1) _ S2 (by omega) p12 (fun S' p' => ?_)
        have e : aps F (c + 1) k a = aps F c (k + 1) (a + apn (tkd o k kd tg ag) (ji S (x + 67 + 2 * i) k)) := by
          show aps F c (k + 1) (a + F k) = _
          rw [hF k (by omega), if_neg c0]
        rw [← e]; exact hq1 S' p'
  exact T_X3_apart (key n 0 0 S (by omega) jpi.rfl hq)
theorem Q_cut {w u : Int32} (h : IV S x sz M v) : jFi E mX10_cut (d + 5) 0 0 [.ref x, .int w, .int u] S (fun r S1 => jFm E mX11_cut (d + 3) (x + 94) [.int w, .int u] S1 (fun r' S2 => r = r' ∧ INV S2 x M)) := by
  obtain ⟨⟨hX, hM, hg⟩, hC, hGL, hjn, hT, hI, hS, hSl, hW, hTp⟩ := id h
  have m := hM.1
  have hz := hX.sz9
  have eu : jisin (Int32.toInt64 u) 0 1 = jwi u 2 := jisin_wi u 2 1 rfl (jle_lt (by decide))
  refine T_X10_cut ⟨hX.1, c_X10_findSheet hC (fun c => ⟨fun _ => U_X11_cut m.1 ⟨fun _ => ⟨rfl, h.inv⟩, fun c2 => absurd ((jissheet_wi w).trans c) c2⟩, fun b e => absurd e (by simp)⟩) (fun i hi e e1 => ⟨fun c => absurd c (by simp), fun b eb => ?_⟩)⟩
  obtain rfl : x + 66 + 2 * i = b := Option.some.inj eb
  subst e
  have hs1 : ¬ jissheet (nI i) = 0 := by rw [jissheet_wi, e1]; decide
  obtain ⟨k6, r2, k12, l24⟩ := hC.sh i hi
  obtain ⟨so, n, a1, a2, a3, a4, a5, a6, a7⟩ := hS i hi
  have ms := SH1.miss (i := i) a2
  have ci : Int32.toNatClampNeg (nI i) = i := jcl (by omega)
  refine ⟨fun c => U_X11_cut m.1 ⟨fun c => absurd c hs1, fun _ => ⟨fun _ => ⟨rfl, h.inv⟩, fun c2 => absurd (eu.trans c) c2⟩⟩, fun cu => ⟨k6, ?_⟩⟩
  have cu' : ¬ jisin (Int32.toInt64 u) 0 1 = 0 := by rw [eu]; exact cu
  rw [a3]
  refine ⟨fun c => U_X11_cut m.1 ⟨fun c => absurd c hs1, fun _ => ⟨fun c => absurd c cu', fun _ => ⟨m.1, _, m.r4.1, m.r4.2.1, by rw [m.r4.2.2]; exact jin_nI hi (by omega), fun c0 => absurd c0 (by rw [ci, a4]; exact ms.mp c), fun _ => ⟨rfl, h.inv⟩⟩⟩⟩, fun c => ?_⟩
  obtain ⟨o, hL⟩ := LWD_ex (key := 0) (by omega) hT
  -- the masters' numbers
  obtain ⟨kd, hkd⟩ := Classical.axiomOfChoice (r := fun (j : Nat) (k : Nat) => j < 9 → k < 6 ∧ mfv v j 0 = nI k) (fun j => (Classical.em (j < 9)).elim (fun hj => (hg.kd hj).elim (fun k hk => ⟨k, fun _ => hk⟩)) (fun hj => ⟨0, fun q => absurd q hj⟩))
  obtain ⟨tg, htg⟩ := Classical.axiomOfChoice (r := fun (j : Nat) (k : Nat) => j < 9 → k < 10 ∧ mfv v j 2 = nI k) (fun j => (Classical.em (j < 9)).elim (fun hj => (hg.ge hj).elim (fun k hk => ⟨k, fun _ => hk⟩)) (fun hj => ⟨0, fun q => absurd q hj⟩))
  obtain ⟨ag, hag⟩ := Classical.axiomOfChoice (r := fun (j : Nat) (k : Nat) => j < 9 → k < 100 ∧ mfv v j 5 = nI k) (fun j => (Classical.em (j < 9)).elim (fun hj => (hg.ag hj).elim (fun k hk => ⟨k, fun _ => hk⟩)) (fun hj => ⟨0, fun q => absurd q hj⟩))
  obtain ⟨F, hF⟩ : ∃ F : Nat → Nat → Nat, ∀ j k, F j k = if k < 24 then (if ji S (x + 67 + 2 * i) k = kNONE then 0 else apn (tkd o k (kd j) (tg j) (ag j)) (ji S (x + 67 + 2 * i) k)) else 0 := ⟨_, fun _ _ => rfl⟩
  have Fb : ∀ j, j < 9 → ∀ k, F j k ≤ 100206 := fun j hj k => by
    rw [hF]
    by_cases hk : k < 24
    · rw [if_pos hk]
      by_cases c0 : ji S (x + 67 + 2 * i) k = kNONE
      · rw [if_pos c0]; omega
      · rw [if_neg c0]
        exact (apn_is (tkd_le (hag j hj).1) ((a7 k hk).2.elim (fun q => absurd q c0) id)).2.2
    · rw [if_neg hk]; omega
  obtain ⟨A, hA⟩ : ∃ A : Nat → Nat, ∀ j, A j = aps (F j) n 0 0 := ⟨_, fun _ => rfl⟩
  have Ab : ∀ j, j < 9 → A j ≤ 2404944 := fun j hj => by
    rw [hA]
    have q1 := aps_le (Fb j hj) n 0 0
    have q2 : n * 100206 ≤ 24 * 100206 := Nat.mul_le_mul_right _ a1
    omega
  -- the reference
  have ref : ∀ S1, jpi S S1 x → ∀ r, r = cans (cbst A sz 0 none) u → jFm E mX11_cut (d + 3) (x + 94) [.int (nI i), .int u] S1 (fun r' S2 => r = r' ∧ INV S2 x M) := by
    intro S1 p1 r hr
    have h1 := h.pil p1
    have hM1 := h1.1.2.1
    have m1 := hM1.1
    have b6 : ∀ S2, jch S1 S2 (x + 94 + 16) (x + 94 + 18) → ji S2 (x + 99) i = nI n := fun S2 c2 => by rw [c2.2 _ (by omega), p1.2 _ (by omega)]; exact a6
    have b7 : ∀ S2, jch S1 S2 (x + 94 + 16) (x + 94 + 18) → ∀ k, k < 24 → ji S2 (x + 100) (24 * i + k) = ji S (x + 67 + 2 * i) k := fun S2 c2 k hk => by rw [c2.2 _ (by omega), p1.2 _ (by omega)]; exact (a7 k hk).1.symm
    have inner : ∀ (j : Nat) (x3 x4 : Int32), j < 9 → ∀ (c k a : Nat) (S2 : jM), k + c = n → a + c * 100206 ≤ 2404944 → jch S1 S2 (x + 94 + 16) (x + 94 + 18) → (∀ S3, jch S1 S3 (x + 94 + 16) (x + 94 + 18) → (x3 < 0 → L_X11_cut_41 E (d + 1) (fun r' S2 => r = r' ∧ INV S2 x M) (x + 94) (nI i) u (nI j) (nI (aps (F j) c k a)) (nI (j + 1)) S3) ∧ (¬ x3 < 0 → (x4 ≤ nI (aps (F j) c k a) → L_X11_cut_41 E (d + 1) (fun r' S2 => r = r' ∧ INV S2 x M) (x + 94) (nI i) u x3 x4 (nI (j + 1)) S3) ∧ (¬ x4 ≤ nI (aps (F j) c k a) → L_X11_cut_41 E (d + 1) (fun r' S2 => r = r' ∧ INV S2 x M) (x + 94) (nI i) u (nI j) (nI (aps (F j) c k a)) (nI (j + 1)) S3))) → L_X11_cut_58 E (d + 1) (fun r' S2 => r = r' ∧ INV S2 x M) (x + 94) (nI i) u x3 x4 (nI j) (nI a) (nI k) S2 := by
      intro j x3 x4 hj c
      induction c with
      | zero =>
        intro k a S2 hk hb c2 hq
        obtain rfl : k = n := by omega
        have m2 := m1.same c2.1
        refine T_X11_cut_58 ⟨m2.1, _, m2.r5.1, m2.r5.2.1, by rw [m2.r5.2.2]; exact jin_nI hi (by omega), ?_⟩
        rw [ci, b6 S2 c2, nI_1]
        exact ⟨fun _ => hq S2 c2, fun cc => absurd Int32.le_rfl cc⟩
      | succ c ih =>
        intro k a S2 hk hb c2 hq
        have m2 := m1.same c2.1
        have hM2 : MR S2 (x + 94) v := hM1.keep c2 (by omega)
        refine T_X11_cut_58 ⟨m2.1, _, m2.r5.1, m2.r5.2.1, by rw [m2.r5.2.2]; exact jin_nI hi (by omega), ?_⟩
        rw [ci, b6 S2 c2, nI_1 k]
        refine ⟨fun cc => absurd cc (nI_ge (by omega) (by omega)), fun _ => ⟨_, m2.r6.1, m2.r6.2.1, by rw [nI_24, m2.r6.2.2]; exact jin_nI (by omega) (by omega), ?_⟩⟩
        rw [nI_24, jcl (n := 24 * i + k) (by omega), b7 S2 c2 k (by omega)]
        have hFk := hF j k
        rw [if_pos (by omega)] at hFk
        have e : aps (F j) (c + 1) k a = aps (F j) c (k + 1) (a + F j k) := rfl
        have fb := Fb j hj k
        have hsm : (c + 1) * 100206 = c * 100206 + 100206 := Nat.succ_mul c 100206
        refine ⟨fun c0 => ?_, fun c0 => ?_⟩
        · rw [if_pos c0] at hFk
          rw [show nI a + 0 = nI (a + F j k) by rw [hFk]; exact nI_add a 0]
          exact ih (k + 1) (a + F j k) S2 (by omega) (by omega) c2 (by rw [← e]; exact hq)
        · rw [if_neg c0] at hFk
          refine c_X11_takes (o := o) hM2 ((hL.keep p1.fq).keep (jch.fq97 c2)) hj (hkd j hj).2 (htg j hj).2 (hag j hj).2 (hkd j hj).1 (hag j hj).1 (by omega) (fun S3 c3 _ => ?_)
          have hyk : -99999 ≤ ji S (x + 67 + 2 * i) k ∧ ji S (x + 67 + 2 * i) k ≤ 99999 := (a7 k (by omega)).2.elim (fun q => absurd q c0) id
          rw [(apn_is (tkd_le (hag j hj).1) hyk).2.1, ← hFk, nI_add]
          exact ih (k + 1) (a + F j k) S3 (by omega) (by omega) (c2.trans c3) (by rw [← e]; exact hq)
    have outer : ∀ (c j : Nat) (ob : Option (Nat × Nat)) (x3 x4 : Int32) (S2 : jM), j + c = sz → jch S1 S2 (x + 94 + 16) (x + 94 + 18) → ((ob = none ∧ x3 = -1) ∨ ∃ b l, ob = some (b, l) ∧ b < 9 ∧ l ≤ 2404944 ∧ x3 = nI b ∧ x4 = nI l) → r = cans (cbst A c j ob) u → L_X11_cut_41 E (d + 1) (fun r' S2 => r = r' ∧ INV S2 x M) (x + 94) (nI i) u x3 x4 (nI j) S2 := by
      intro c
      induction c with
      | zero =>
        intro j ob x3 x4 S2 hj c2 hob hr
        obtain rfl : j = sz := by omega
        have hM2 : MR S2 (x + 94) v := hM1.keep c2 (by omega)
        have i0 := hM2.at (i := 0) 0 rfl (by omega)
        refine T_X11_cut_41 ⟨hM2.k, _, hM2.r, hM2.k1, i0.1, ?_⟩
        rw [i0.2, hX.v0]
        have inv : INV S2 x M := h.still p1 c2
        refine ⟨fun _ => ?_, fun cc => absurd Int32.le_rfl cc⟩
        rcases hob with ⟨rfl, rfl⟩ | ⟨b, l, rfl, hb, hl, rfl, rfl⟩
        · exact ⟨fun cc => absurd cc (by decide), fun _ => ⟨hr, inv⟩⟩
        · refine ⟨fun _ => ⟨fun u0 => ⟨?_, inv⟩, fun u0 => ⟨?_, inv⟩⟩, fun cc => absurd (Int32.not_lt.mp (nI_pos (by omega))) cc⟩
          · rw [hr]; show (if u = 0 then nI b else nI l) = nI b; rw [if_pos u0]
          · rw [hr]; show (if u = 0 then nI b else nI l) = nI l; rw [if_neg u0]
      | succ c ih =>
        intro j ob x3 x4 S2 hj c2 hob hr
        have hM2 : MR S2 (x + 94) v := hM1.keep c2 (by omega)
        have i0 := hM2.at (i := 0) 0 rfl (by omega)
        refine T_X11_cut_41 ⟨hM2.k, _, hM2.r, hM2.k1, i0.1, ?_⟩
        rw [i0.2, hX.v0]
        have aj := Ab j (by omega)
        have nb : n * 100206 ≤ 24 * 100206 := Nat.mul_le_mul_right _ a1
        refine ⟨fun cc => absurd cc (nI_ge (by omega) (by omega)), fun _ => inner j x3 x4 (by omega) n 0 0 S2 (by omega) (by omega) c2 (fun S3 c3 => ?_)⟩
        rw [← hA]
        rcases hob with ⟨rfl, rfl⟩ | ⟨b, l, rfl, hb, hl, rfl, rfl⟩
        · exact ⟨fun _ => ih (j + 1) (some (j, A j)) _ _ S3 (by omega) c3 (Or.inr ⟨j, A j, rfl, by omega, aj, rfl, rfl⟩) hr, fun cc => absurd (by decide) cc⟩
        · have hr' : r = cans (cbst A c (j + 1) (if A j < l then some (j, A j) else some (b, l))) u := hr
          refine ⟨fun cc => absurd cc (nI_pos (by omega)), fun _ => ⟨fun q => ih (j + 1) (some (b, l)) _ _ S3 (by omega) c3 (Or.inr ⟨b, l, rfl, hb, hl, rfl, rfl⟩) ?_, fun q => ih (j + 1) (some (j, A j)) _ _ S3 (by omega) c3 (Or.inr ⟨j, A j, rfl, by omega, aj, rfl, rfl⟩) ?_⟩⟩
          · have := (nI_leI (by omega) (by omega)).mp q
            rw [if_neg (by omega)] at hr'; exact hr'
          · have : ¬ l ≤ A j := fun z => q (nI_le z (by omega))
            rw [if_pos (by omega)] at hr'; exact hr'
    refine U_X11_cut m1.1 ⟨fun c => absurd c hs1, fun _ => ⟨fun c => absurd c cu', fun _ => ⟨m1.1, _, m1.r4.1, m1.r4.2.1, by rw [m1.r4.2.2]; exact jin_nI hi (by omega), fun _ => outer sz 0 none _ _ S1 (by omega) jch.rfl (Or.inl ⟨rfl, rfl⟩) hr, fun c0 => ?_⟩⟩⟩
    rw [ci, p1.2 _ (by omega), a4] at c0
    exact absurd (ms.mpr c0) c
  -- the class
  have loop : ∀ (c j : Nat) (ob : Option (Nat × Nat)) (x4 x5 : Int32) (S1 : jM), j + c = 9 → jpi S S1 x → ((ob = none ∧ x4 = -1000000005 ∧ x5 = 1000000000) ∨ ∃ b l, ob = some (b, l) ∧ b < 9 ∧ l ≤ 2404944 ∧ x4 = nI b ∧ x5 = nI l) → cbst A sz 0 none = cbst A (sz - j) j ob → L_X10_cut_45 E (d + 4) (fun r S1 => jFm E mX11_cut (d + 3) (x + 94) [.int (nI i), .int u] S1 (fun r' S2 => r = r' ∧ INV S2 x M)) x u (x + 66 + 2 * i) x4 x5 (nI j) S1 := by
    intro c
    induction c with
    | zero =>
      intro j ob x4 x5 S1 hj p1 hob hb
      obtain rfl : j = 9 := by omega
      have hb' : cbst A sz 0 none = ob := by rw [hb, show sz - 9 = 0 by omega]; rfl
      refine T_X10_cut_45 ⟨fun _ => ?_, fun cc => absurd (by decide) cc⟩
      rcases hob with ⟨rfl, rfl, rfl⟩ | ⟨b, l, rfl, hb9, hl, rfl, rfl⟩
      · exact ⟨fun _ => ref S1 p1 _ (by rw [hb']; rfl), fun _ => ⟨fun _ => ref S1 p1 _ (by rw [hb']; rfl), fun cc => absurd rfl cc⟩⟩
      · have nn : ¬ nI b = -1000000005 := fun q => by
          have := nI_pos (n := b) (by omega)
          rw [q] at this; exact absurd (by decide) this
        refine ⟨fun u0 => ref S1 p1 _ ?_, fun u0 => ⟨fun q => absurd q nn, fun _ => ref S1 p1 _ ?_⟩⟩
        · rw [hb']; show nI b = if u = 0 then nI b else nI l; rw [if_pos u0]
        · rw [hb']; show nI l = if u = 0 then nI b else nI l; rw [if_neg u0]
    | succ c ih =>
      intro j ob x4 x5 S1 hj p1 hob hb
      have h1 := h.pil p1
      have hX1 := h1.1.1
      refine T_X10_cut_45 ⟨fun cc => absurd cc (nI_ge (b := 9) (by omega) (by omega)), fun _ => ⟨hX1.1, _, hX1.2.1, hX1.k3, _, hX1.r0, hX1.g.1.1, c_X0_find hX1.g.1 hX1.g.2.1 hz (fun n' hn' en => ⟨fun cc => absurd cc (by simp), fun b2 eb2 => ⟨hX1.1, _, hX1.2.1, hX1.k3, ?_⟩⟩) (fun hno => ⟨fun _ => ⟨fun _ => ?_, fun cc => absurd Int32.le_rfl cc⟩, fun b2 e2 => absurd e2 (by simp)⟩)⟩⟩
      · obtain rfl : x + 2 + 2 + n' = b2 := Option.some.inj eb2
        obtain rfl : j = n' := nI_inj (by omega) (by omega) en
        refine c_X3_apart (o := o) (n := n) (F := F j) h1 hi a1 (by rw [p1.2 _ (by omega)]; exact a5) (fun k hk => by rw [p1.2 _ (by omega)]; exact (a7 k hk).2) (hL.keep p1.fq) (by omega) (hkd j (by omega)).2 (htg j (by omega)).2 (hag j (by omega)).2 (hkd j (by omega)).1 (hag j (by omega)).1 ?_ (fun S2 p2 => ?_)
        · intro k hk
          rw [hF, if_pos (by omega), p1.2 (x + 67 + 2 * i) (by omega)]
        · rw [← hA, nI_1]
          have p12 := p1.trans p2
          have aj := Ab j (by omega)
          have es : sz - j = (sz - (j + 1)) + 1 := by omega
          rw [es] at hb
          rcases hob with ⟨rfl, rfl, rfl⟩ | ⟨b, l, rfl, hb9, hl, rfl, rfl⟩
          · refine ⟨fun q => ?_, fun _ => ih (j + 1) (some (j, A j)) _ _ S2 (by omega) p12 (Or.inr ⟨j, A j, rfl, by omega, aj, rfl, rfl⟩) hb⟩
            have := (nI_leI (a := 1000000000) (by omega) (by omega)).mp q
            omega
          · have hb2 : cbst A sz 0 none = cbst A (sz - (j + 1)) (j + 1) (if A j < l then some (j, A j) else some (b, l)) := hb
            refine ⟨fun q => ih (j + 1) (some (b, l)) _ _ S2 (by omega) p12 (Or.inr ⟨b, l, rfl, hb9, hl, rfl, rfl⟩) ?_, fun q => ih (j + 1) (some (j, A j)) _ _ S2 (by omega) p12 (Or.inr ⟨j, A j, rfl, by omega, aj, rfl, rfl⟩) ?_⟩
            · have := (nI_leI (by omega) (by omega)).mp q
              rw [if_neg (by omega)] at hb2; exact hb2
            · have : ¬ l ≤ A j := fun z => q (nI_le z (by omega))
              rw [if_pos (by omega)] at hb2; exact hb2
      · have hjs : sz ≤ j := by
          rcases Nat.lt_or_ge j sz with q | q
          · exact absurd rfl (hno j q)
          · exact q
        rw [nI_1]
        refine ih (j + 1) ob _ _ S1 (by omega) p1 hob ?_
        rw [hb, show sz - j = 0 by omega, show sz - (j + 1) = 0 by omega]
        rfl
  exact loop 9 0 none _ _ S (by omega) jpi.rfl (Or.inl ⟨rfl, rfl, rfl⟩) rfl
end jCut
end
section
/-! TOGETHER, NEVER on both sides -/
def tb (a : Int32) (k : Nat) : Bool := a.toBitVec.getLsbD k
theorem tb_ext {a b : Int32} (h : ∀ k, k < 32 → tb a k = tb b k) : a = b := by
  apply Int32.toBitVec_inj.mp
  apply BitVec.eq_of_getLsbD_eq
  exact h
theorem tb_and (a b : Int32) (k : Nat) : tb (a &&& b) k = (tb a k && tb b k) := by
  show (a.toBitVec &&& b.toBitVec).getLsbD k = _
  rw [BitVec.getLsbD_and]; rfl
theorem tb_or (a b : Int32) (k : Nat) : tb (a ||| b) k = (tb a k || tb b k) := by
  show (a.toBitVec ||| b.toBitVec).getLsbD k = _
  rw [BitVec.getLsbD_or]; rfl
theorem tb_not (a : Int32) {k : Nat} (h : k < 32) : tb (a ^^^ (-1)) k = !tb a k := by
  show (a.toBitVec ^^^ BitVec.allOnes 32).getLsbD k = _
  rw [BitVec.getLsbD_xor, BitVec.getLsbD_allOnes]
  simp [h, tb]
theorem tb_0 (k : Nat) : tb 0 k = false := by
  show (0#32).getLsbD k = false
  simp
theorem tb_bitF : ∀ g : Fin 10, ∀ k : Fin 32, tb (jshl 1 (nI g.val)) k.val = decide (k.val = g.val) := by decide +kernel
theorem tb_bit {g k : Nat} (hg : g < 10) (hk : k < 32) : tb (jshl 1 (nI g)) k = decide (k = g) := tb_bitF ⟨g, hg⟩ ⟨k, hk⟩
theorem tb_z {a : Int32} : a = 0 ↔ ∀ k, k < 32 → tb a k = false := ⟨fun h k _ => by rw [h]; exact tb_0 k, fun h => tb_ext (fun k hk => by rw [h k hk, tb_0])⟩
theorem tb_nz {a : Int32} (h : ¬ a = 0) : ∃ k, k < 32 ∧ tb a k = true := by
  refine Classical.byContradiction (fun hn => h (tb_z.mpr (fun k hk => ?_)))
  cases e : tb a k
  · rfl
  · exact absurd ⟨k, hk, e⟩ hn
/-- a bit is in, or not -/
theorem tb_in {a : Int32} {g : Nat} (hg : g < 10) : (a &&& jshl 1 (nI g) = 0) ↔ tb a g = false := by
  rw [tb_z]
  constructor
  · intro h
    have := h g (by omega)
    rw [tb_and, tb_bit hg (by omega)] at this
    simpa using this
  · intro h k hk
    rw [tb_and, tb_bit hg hk]
    by_cases e : k = g
    · subst e; rw [h]; rfl
    · simp [e]
theorem tb_in1 {a : Int32} {g : Nat} (hg : g < 10) : (¬ a &&& jshl 1 (nI g) = 0) ↔ tb a g = true := by
  rw [tb_in hg]; simp
def tsub (a b : Int32) : Prop := ∀ k, k < 32 → tb a k = true → tb b k = true
theorem tsub_and {a b : Int32} (h : tsub a b) : b &&& a = a := tb_ext (fun k hk => by
  rw [tb_and]
  cases e : tb a k
  · simp
  · rw [h k hk e]; rfl)
theorem tsub_lt {a : Int32} {k : Nat} (hk : k < 1024) (h : tsub a (nI k)) : ∃ j, j < 1024 ∧ a = nI j := by
  obtain ⟨j, hj, e⟩ := nI_andle hk a
  rw [tsub_and h] at e
  exact ⟨j, hj, e⟩
theorem jbc_z : ∀ k : Fin 1024, jbc (nI k.val) = 0 → nI k.val = 0 := by decide +kernel
theorem jbc_s : ∀ k : Fin 1024, ∀ g : Fin 10, ¬ (nI k.val &&& jshl 1 (nI g.val) = 0) → jbc (nI k.val &&& (jshl 1 (nI g.val) ^^^ (-1))) + 1 = jbc (nI k.val) := by decide +kernel
theorem j_new (w kn b : Int32) : w &&& ((kn ||| b) ^^^ (-1)) = (w &&& (kn ^^^ (-1))) &&& (b ^^^ (-1)) := tb_ext (fun k hk => by
  rw [tb_and, tb_not _ hk, tb_or, tb_and, tb_and, tb_not _ hk, tb_not _ hk]
  cases tb w k <;> cases tb kn k <;> cases tb b k <;> rfl)
section jTog
variable {E : jEnv} {d : Nat} {S S' : jM} {x sz M : Nat} {v : Nat → Int32}
/-- a lesson that brings on -/
def tOK (v : Nat → Int32) (w kn : Int32) (i : Nat) : Prop := ¬ ((w &&& (kn ^^^ (-1))) &&& jshl 1 (mfv v i 2)) = 0 ∧ mfv v i 6 = 0 ∧ ¬ jteach (mfv v i 0) (mfv v i 3) kn = 0 ∧ junl (mfv v i 0) (mfv v i 3) &&& kn = 0
def tRe (v : Nat → Int32) (sz : Nat) (w : Int32) : Nat → Int32 → Prop
  | 0, kn => kn = w
  | n + 1, kn => ∃ i, i < sz ∧ tOK v w kn i ∧ tRe v sz w n (kn ||| jshl 1 (mfv v i 2))
theorem tOK.bits {w kn : Int32} {i g : Nat} (h : tOK v w kn i) (hg : g < 10) (e : mfv v i 2 = nI g) : tb w g = true ∧ tb kn g = false := by
  have h1 := h.1
  rw [e, tb_in1 hg, tb_and, tb_not _ (by omega)] at h1
  cases p : tb w g <;> cases q : tb kn g <;> simp_all
theorem c_X0_helps {Q : Int32 → jM → Prop} {w kn : Int32} {i : Nat} (hX : XR S x sz v) (hi : i < 9) (h1 : tOK v w kn i → Q 1 S) (h0 : ¬ tOK v w kn i → Q 0 S) : jFi E mX0_helps (d + 2) 0 0 [.ref (x + 2 + 2 + i), .int kn, .int w] S Q := by
  have k2 := hX.mk hi
  refine T_X0_helps ⟨k2, ?_⟩
  rw [hX.ms hi (by omega), hX.ms hi (by omega)]
  refine ⟨fun c => h0 (fun t => t.1 c), fun c => ⟨fun c1 => c_X2_teaches k2 ?_, fun c1 => h0 (fun t => c1 t.2.1)⟩⟩
  rw [hX.ms hi (by omega), hX.ms hi (by omega)]
  refine ⟨fun c2 => h0 (fun t => t.2.2.1 c2), fun c2 => ⟨k2, c_X2_unlearnt k2 ?_⟩⟩
  rw [hX.ms hi (by omega), hX.ms hi (by omega)]
  exact ⟨fun c3 => h1 ⟨c, c1, c2, c3⟩, fun c3 => h0 (fun t => c3 t.2.2.2)⟩
theorem c_X0_leadsTo {w : Int32} {k0 : Nat} (hX : XR S x sz v) (hg : Rg sz v) (hw : w = nI k0) (hk0 : k0 < 1024) : ∀ (n D : Nat) (kn : Int32) (Q : Int32 → jM → Prop), n + 3 ≤ D → n ≤ 3 → tsub kn w → jbc (w &&& (kn ^^^ (-1))) = nI n → (tRe v sz w n kn → Q 1 S) → (¬ tRe v sz w n kn → Q 0 S) → jFi E mX0_leadsTo D 0 0 [.ref (x + 2), .int kn, .int w] S Q := by
  intro n
  induction n with
  | zero =>
    intro D kn Q hD _ hs hc h1 h0
    obtain ⟨e, rfl⟩ : ∃ e, D = e + 1 := ⟨D - 1, by omega⟩
    obtain ⟨j, hj, ej⟩ := nI_andle hk0 (kn ^^^ (-1))
    rw [hw, ej] at hc
    have z := jbc_z ⟨j, hj⟩ hc
    have ekw : kn = w := tb_ext (fun k hk => by
      have u0 : tb (w &&& (kn ^^^ (-1))) k = false := by rw [hw, ej, show nI j = 0 from z, tb_0]
      rw [tb_and, tb_not _ hk] at u0
      have := hs k hk
      cases p : tb w k <;> cases q : tb kn k <;> simp_all)
    exact T_X0_leadsTo ⟨fun _ => h1 ekw, fun c => absurd ekw c⟩
  | succ n ih =>
    intro D kn Q hD hn3 hs hc h1 h0
    obtain ⟨e, rfl⟩ : ∃ e, D = e + 2 + 1 := ⟨D - 3, by omega⟩
    have hne : ¬ kn = w := fun c => by
      rw [c] at hc
      have z : w &&& (w ^^^ (-1)) = 0 := tb_z.mpr (fun k hk => by rw [tb_and, tb_not _ hk]; simp)
      rw [z] at hc
      have := nI_inj (by omega) (by omega) (show nI 0 = nI (n + 1) from hc)
      omega
    have loop : ∀ (c i : Nat), i + c = sz → (∀ j, j < i → ¬ (tOK v w kn j ∧ tRe v sz w n (kn ||| jshl 1 (mfv v j 2)))) → L_X0_leadsTo_23 E (e + 2) Q (x + 2) kn w (nI i) S := by
      have hz := hX.sz9
      intro c
      induction c with
      | zero =>
        intro i hi hno
        obtain rfl : i = sz := by omega
        refine T_X0_leadsTo_23 ⟨hX.g.1.1, ?_⟩
        rw [hX.g.2.1]
        exact ⟨fun _ => h0 (fun ⟨j, hj, t⟩ => hno j hj t), fun cc => absurd Int32.le_rfl cc⟩
      | succ c ihc =>
        intro i hi hno
        refine T_X0_leadsTo_23 ⟨hX.g.1.1, ?_⟩
        rw [hX.g.2.1]
        refine ⟨fun cc => absurd cc (nI_ge (by omega) (by omega)), fun _ => c_X0_findAt hX.g.1 hX.g.2.1 hz (by omega) ⟨fun cc => absurd cc (by simp), fun b eb => ?_⟩⟩
        obtain rfl : x + 2 + 2 + i = b := Option.some.inj eb
        have nxt : ¬ (tOK v w kn i ∧ tRe v sz w n (kn ||| jshl 1 (mfv v i 2))) → L_X0_leadsTo_23 E (e + 2) Q (x + 2) kn w (nI i + 1) S := fun hn => by
          rw [nI_1]
          refine ihc (i + 1) (by omega) (fun j hj => ?_)
          by_cases ej : j = i
          · rw [ej]; exact hn
          · exact hno j (by omega)
        refine c_X0_helps hX (by omega) (fun t => ⟨fun cc => absurd cc (by decide), fun _ => ⟨hX.mk (by omega), ?_⟩⟩) (fun t => ⟨fun _ => nxt (fun q => t q.1), fun cc => absurd rfl cc⟩)
        rw [hX.ms (by omega) (by omega)]
        obtain ⟨g, hg10, eg⟩ := hg.ge (i := i) (by omega)
        have tt := t.bits hg10 eg
        refine ih (e + 2) (kn ||| jshl 1 (mfv v i 2)) _ (by omega) (by omega) (fun k hk hb => ?_) ?_ (fun r => ⟨fun cc => absurd cc (by decide), fun _ => h1 ⟨i, by omega, t, r⟩⟩) (fun r => ⟨fun _ => nxt (fun q => r q.2), fun cc => absurd rfl cc⟩)
        · rw [eg, tb_or, tb_bit hg10 hk] at hb
          by_cases ek : k = g
          · rw [ek]; exact tt.1
          · simp only [ek, decide_false, Bool.or_false] at hb
            exact hs k hk hb
        · obtain ⟨j, hj, ej⟩ := nI_andle hk0 (kn ^^^ (-1))
          have t1 := t.1
          rw [hw, ej] at hc t1
          rw [eg] at t1 ⊢
          have q := jbc_s ⟨j, hj⟩ ⟨g, hg10⟩ t1
          rw [j_new, hw, ej]
          have q2 : jbc (nI j &&& (jshl 1 (nI g) ^^^ (-1))) + 1 = nI n + 1 := by rw [nI_1]; exact q.trans hc
          have q3 := congrArg (fun z => z - 1) q2
          simpa [Int32.add_sub_cancel] using q3
    refine T_X0_leadsTo ⟨fun c => absurd c hne, fun _ => ⟨fun _ => loop sz 0 (by omega) (fun j hj => absurd hj (Nat.not_lt_zero _)), fun c => absurd ?_ c⟩⟩
    rw [hc]; exact nI_le (b := 3) (by omega) (by omega)
/-! the reference counts all rows of masters through -/
def rGo (v : Nat → Int32) (w had kn : Int32) (i : Nat) : Prop := mfv v i 6 = 0 ∧ ¬ w &&& jshl 1 (mfv v i 2) = 0 ∧ had &&& jshl 1 (mfv v i 2) = 0 ∧ ¬ jteach (mfv v i 0) (mfv v i 3) kn = 0
def rS (v : Nat → Int32) (sz : Nat) (w : Int32) : Nat → Nat → Int32 → Int32 → Prop
  | 0, _, kn, had => had = w ∧ kn = w
  | c + 1, left, kn, had => rGo v w had kn (left % sz) ∧ rS v sz w c (left / sz) (jbl (mfv v (left % sz) 0) (mfv v (left % sz) 3) (mfv v (left % sz) 2) kn) (had ||| jshl 1 (mfv v (left % sz) 2))
def tSq (v : Nat → Int32) (sz : Nat) (w : Int32) : Nat → Nat → Int32 → Prop
  | 0, _, kn => kn = w
  | c + 1, left, kn => tOK v w kn (left % sz) ∧ tSq v sz w c (left / sz) (kn ||| jshl 1 (mfv v (left % sz) 2))
theorem rS_lossy (hg : Rg sz v) (hz : sz ≤ 9) (h0 : 0 < sz) {w : Int32} : ∀ (c left : Nat) (kn had : Int32), (∃ k, k < 32 ∧ tb had k = true ∧ tb kn k = false) → ¬ rS v sz w c left kn had
  | 0, _, kn, had, ⟨k, _, a, b⟩, ⟨e1, e2⟩ => by rw [e1] at a; rw [e2, a] at b; exact absurd b (by decide)
  | c + 1, left, kn, had, ⟨k, hk, a, b⟩, ⟨r1, r2⟩ => by
    have hlt : left % sz < 9 := Nat.lt_of_lt_of_le (Nat.mod_lt _ h0) hz
    obtain ⟨g, hg10, eg⟩ := hg.ge hlt
    have hh := r1.2.2.1
    rw [eg, tb_in hg10] at hh
    have hkg : ¬ k = g := fun e => by rw [e, hh] at a; exact absurd a (by decide)
    refine rS_lossy hg hz h0 c (left / sz) _ _ ⟨k, hk, ?_, ?_⟩ r2
    · rw [tb_or, a]; rfl
    · unfold jbl
      rw [tb_or, tb_and, b, eg, tb_bit hg10 hk]
      simp [hkg]
theorem rS_eq (hg : Rg sz v) (hz : sz ≤ 9) (h0 : 0 < sz) {w : Int32} : ∀ (c left : Nat) (kn : Int32), rS v sz w c left kn kn ↔ tSq v sz w c left kn
  | 0, _, kn => ⟨fun h => h.1, fun h => ⟨h, h⟩⟩
  | c + 1, left, kn => by
    have hlt : left % sz < 9 := Nat.lt_of_lt_of_le (Nat.mod_lt _ h0) hz
    obtain ⟨g, hg10, eg⟩ := hg.ge hlt
    have new : (¬ w &&& jshl 1 (nI g) = 0 ∧ kn &&& jshl 1 (nI g) = 0) ↔ ¬ ((w &&& (kn ^^^ (-1))) &&& jshl 1 (nI g)) = 0 := by
      rw [tb_in1 hg10, tb_in hg10, tb_in1 hg10, tb_and, tb_not _ (by omega)]
      cases tb w g <;> cases tb kn g <;> simp
    have keep : junl (mfv v (left % sz) 0) (mfv v (left % sz) 3) &&& kn = 0 → jbl (mfv v (left % sz) 0) (mfv v (left % sz) 3) (mfv v (left % sz) 2) kn = kn ||| jshl 1 (mfv v (left % sz) 2) := fun hu => tb_ext (fun k hk => by
      unfold jbl
      have := tb_z.mp hu k hk
      rw [tb_and] at this
      rw [tb_or, tb_or, tb_and, tb_not _ hk]
      cases p : tb kn k <;> cases q : tb (junl (mfv v (left % sz) 0) (mfv v (left % sz) 3)) k <;> simp_all)
    constructor
    · rintro ⟨⟨r1, r2, r3, r4⟩, r5⟩
      by_cases hu : junl (mfv v (left % sz) 0) (mfv v (left % sz) 3) &&& kn = 0
      · rw [keep hu] at r5
        rw [eg] at r2 r3
        exact ⟨⟨by rw [eg]; exact new.mp ⟨r2, r3⟩, r1, r4, hu⟩, (rS_eq hg hz h0 c _ _).mp r5⟩
      · exfalso
        obtain ⟨k, hk, ek⟩ := tb_nz hu
        rw [tb_and] at ek
        have p := (Bool.and_eq_true_iff.mp ek)
        rw [eg, tb_in hg10] at r3
        have hkg : ¬ k = g := fun e => by rw [← e, p.2] at r3; exact absurd r3 (by decide)
        refine rS_lossy hg hz h0 c _ _ _ ⟨k, hk, ?_, ?_⟩ r5
        · rw [tb_or, p.2]; rfl
        · unfold jbl
          rw [tb_or, tb_and, tb_not _ hk, p.1, eg, tb_bit hg10 hk]
          simp [hkg]
    · rintro ⟨⟨t1, t2, t3, t4⟩, t5⟩
      rw [eg] at t1
      have n := new.mpr t1
      refine ⟨⟨t2, by rw [eg]; exact n.1, by rw [eg]; exact n.2, t3⟩, ?_⟩
      rw [keep t4]
      exact (rS_eq hg hz h0 c _ _).mpr t5
theorem tSq_ex {w : Int32} : ∀ (n : Nat) (kn : Int32), (∃ code, code < sz ^ n ∧ tSq v sz w n code kn) ↔ tRe v sz w n kn
  | 0, kn => ⟨fun ⟨_, _, h⟩ => h, fun h => ⟨0, by simp, h⟩⟩
  | n + 1, kn => by
    constructor
    · rintro ⟨code, hc, t1, t2⟩
      have h0 : 0 < sz := by
        rcases Nat.eq_zero_or_pos sz with e | e
        · rw [e, Nat.pow_succ, Nat.mul_zero] at hc; omega
        · exact e
      refine ⟨code % sz, Nat.mod_lt _ h0, t1, (tSq_ex n _).mp ⟨code / sz, ?_, t2⟩⟩
      rw [Nat.pow_succ] at hc
      exact Nat.div_lt_of_lt_mul (by rw [Nat.mul_comm]; exact hc)
    · rintro ⟨i, hi, t1, t2⟩
      obtain ⟨code, hc, t3⟩ := (tSq_ex n _).mpr t2
      have e1 : (i + sz * code) % sz = i := by rw [Nat.add_mul_mod_self_left, Nat.mod_eq_of_lt hi]
      have e2 : (i + sz * code) / sz = code := by rw [Nat.add_mul_div_left _ _ (by omega), Nat.div_eq_of_lt hi, Nat.zero_add]
      refine ⟨i + sz * code, ?_, ?_⟩
      · have : sz * (code + 1) ≤ sz * sz ^ n := Nat.mul_le_mul_left _ hc
        rw [Nat.pow_succ, Nat.mul_comm (sz ^ n)]
        rw [Nat.mul_add, Nat.mul_one] at this
        omega
      · show tOK v w kn ((i + sz * code) % sz) ∧ tSq v sz w n ((i + sz * code) / sz) (kn ||| jshl 1 (mfv v ((i + sz * code) % sz) 2))
        rw [e1, e2]; exact ⟨t1, t3⟩
end jTog
end
section
/-! TOGETHER, NEVER on both sides, second part -/
section jTog2
variable {E : jEnv} {d : Nat} {S S' : jM} {x sz M : Nat} {v : Nat → Int32}
theorem nI_dv {i s : Nat} (h : i < 2 ^ 31) (h0 : 0 < s) (hs : s < 2 ^ 31) : nI i / nI s = nI (i / s) := pk_div (d := s) h h0 hs
theorem nI_rm {i s : Nat} (h : i < 2 ^ 31) (h0 : 0 < s) (hs : s < 2 ^ 31) : jrem (nI i) (nI s) = nI (i % s) := pk_rem (d := s) h h0 hs
theorem pw9 {n : Nat} (hz : sz ≤ 9) (hn : n ≤ 3) : sz ^ n ≤ 729 := by
  have h1 : sz ^ n ≤ 9 ^ n := Nat.pow_le_pow_left hz n
  have h2 : 9 ^ n ≤ 9 ^ 3 := Nat.pow_le_pow_right (by omega) hn
  have h3 : 9 ^ 3 = 729 := by decide
  omega
theorem c_X11_areTogether {Q : Int32 → jM → Prop} {w : Int32} {k0 n : Nat} (hM : MR S (x + 94) v) (hg : Rg sz v) (hv0 : v 0 = nI sz) (hz : sz ≤ 9) (hw : w = nI k0) (hk0 : k0 < 1024) (hn : jmany w = nI n) (hn3 : n ≤ 3) (h1 : tRe v sz w n 0 → Q 1 S) (h0 : ¬ tRe v sz w n 0 → Q 0 S) : jFi E mX11_areTogether (d + 2) 0 0 [.ref (x + 94), .int w] S Q := by
  have i0 := hM.at (i := 0) 0 rfl (by omega)
  have all9 := pw9 (n := n) hz hn3
  have wneg : ¬ (-1 : Int32) = w := fun e => by
    have := nI_pos (n := k0) (by omega)
    rw [← hw, ← e] at this; exact absurd (by decide) this
  -- a row that is spoilt
  have dead : ∀ (c i left code : Nat) (x6 : Int32), i + c = n → 0 < sz → left < 1000 → L_X11_areTogether_34 E (d + 1) Q (x + 94) w (nI n) (nI (sz ^ n)) (nI (code + 1)) S → L_X11_areTogether_53 E (d + 1) Q (x + 94) w (nI n) (nI (sz ^ n)) (nI code) (nI left) x6 (-1) (nI i) S := by
    intro c
    induction c with
    | zero =>
      intro i left code x6 hi hs hl hk
      obtain rfl : i = n := by omega
      refine T_X11_areTogether_53 ⟨fun _ => ⟨fun c => absurd c wneg, fun _ => by rw [nI_1]; exact hk⟩, fun cc => absurd Int32.le_rfl cc⟩
    | succ c ih =>
      intro i left code x6 hi hs hl hk
      refine T_X11_areTogether_53 ⟨fun cc => absurd cc (nI_ge (by omega) (by omega)), fun _ => ⟨hM.k, _, hM.r, hM.k1, i0.1, ?_⟩⟩
      have nz : ¬ nI sz = 0 := fun e => by have := nI_inj (by omega) (by omega) (show nI sz = nI 0 from e); omega
      rw [i0.2, hv0, nI_rm (by omega) hs (by omega), nI_dv (by omega) hs (by omega), nI_1]
      have hm9 : left % sz < 9 := Nat.lt_of_lt_of_le (Nat.mod_lt _ hs) hz
      have hd : left / sz ≤ left := Nat.div_le_self _ _
      refine ⟨nz, nz, c_X11_of (f := 2) hM hm9 (by omega) ⟨fun _ => ih (i + 1) _ code _ (by omega) hs (by omega) hk, fun cc => absurd (by decide) cc⟩⟩
  -- a row that is good so far
  have good : ∀ (c i left code : Nat) (kn had : Int32), i + c = n → 0 < sz → left < 1000 → tsub kn w → tsub had w → (rS v sz w c left kn had → Q 1 S) → (¬ rS v sz w c left kn had → L_X11_areTogether_34 E (d + 1) Q (x + 94) w (nI n) (nI (sz ^ n)) (nI (code + 1)) S) → L_X11_areTogether_53 E (d + 1) Q (x + 94) w (nI n) (nI (sz ^ n)) (nI code) (nI left) kn had (nI i) S := by
    intro c
    induction c with
    | zero =>
      intro i left code kn had hi hs hl s1 s2 q1 q0
      obtain rfl : i = n := by omega
      rw [← nI_1] at q0
      exact T_X11_areTogether_53 ⟨fun _ => ⟨fun c => ⟨fun c2 => q1 ⟨c, c2⟩, fun c2 => q0 (fun r => c2 r.2)⟩, fun c => q0 (fun r => c r.1)⟩, fun cc => absurd Int32.le_rfl cc⟩
    | succ c ih =>
      intro i left code kn had hi hs hl s1 s2 q1 q0
      refine T_X11_areTogether_53 ⟨fun cc => absurd cc (nI_ge (by omega) (by omega)), fun _ => ⟨hM.k, _, hM.r, hM.k1, i0.1, ?_⟩⟩
      have nz : ¬ nI sz = 0 := fun e => by have := nI_inj (by omega) (by omega) (show nI sz = nI 0 from e); omega
      rw [i0.2, hv0, nI_rm (by omega) hs (by omega), nI_dv (by omega) hs (by omega), nI_1]
      have hm9 : left % sz < 9 := Nat.lt_of_lt_of_le (Nat.mod_lt _ hs) hz
      have hd : left / sz ≤ left := Nat.div_le_self _ _
      rw [hw] at s1 s2
      obtain ⟨kh, hkh, ekh⟩ := tsub_lt hk0 s2
      obtain ⟨kk, hkk, ekk⟩ := tsub_lt hk0 s1
      rw [← hw] at s1 s2
      obtain ⟨g, hg10, eg⟩ := hg.ge hm9
      have no : ¬ rGo v w had kn (left % sz) → L_X11_areTogether_53 E (d + 1) Q (x + 94) w (nI n) (nI (sz ^ n)) (nI code) (nI (left / sz)) 0 (-1) (nI (i + 1)) S := fun hno => dead c (i + 1) _ code _ (by omega) hs (by omega) (q0 (fun r => hno r.1))
      refine ⟨nz, nz, c_X11_of (f := 2) hM hm9 (by omega) ⟨fun cc => absurd cc (by rw [ekh]; exact nI_pos (by omega)), fun _ => ⟨hM.k, c_X11_of (f := 6) hM hm9 (by omega) ⟨fun c6 => ⟨fun cw => no (fun r => r.2.1 cw), fun cw => ⟨fun ch => ⟨hM.k, ?_⟩, fun ch => no (fun r => ch r.2.2.1)⟩⟩, fun c6 => no (fun r => c6 r.1)⟩⟩⟩⟩
      rw [ekk]
      refine c_X11_teaches hM hg hm9 hkk ⟨fun ct => no (fun r => r.2.2.2 (by rw [ekk]; exact ct)), fun ct => ⟨hM.k, c_X11_behindLesson hM hm9 ?_⟩⟩
      rw [← ekk]
      rw [← ekk] at ct
      have hwg : tb w g = true := by rw [eg, tb_in1 hg10] at cw; exact cw
      refine ih (i + 1) (left / sz) code _ _ (by omega) hs (by omega) (fun k hk hb => ?_) (fun k hk hb => ?_) (fun r => q1 ⟨⟨c6, cw, ch, ct⟩, r⟩) (fun r => q0 (fun z => r z.2))
      · unfold jbl at hb
        rw [tb_or, tb_and, eg, tb_bit hg10 hk] at hb
        by_cases ek : k = g
        · rw [ek]; exact hwg
        · simp only [ek, decide_false, Bool.or_false, Bool.and_eq_true] at hb
          exact s1 k hk hb.1
      · rw [tb_or, eg, tb_bit hg10 hk] at hb
        by_cases ek : k = g
        · rw [ek]; exact hwg
        · simp only [ek, decide_false, Bool.or_false] at hb
          exact s2 k hk hb
  have sub0 : tsub 0 w := fun k _ hb => by rw [tb_0] at hb; exact absurd hb (by decide)
  have codes : ∀ (c code : Nat), code + c = sz ^ n → (∀ e, e < code → ¬ tSq v sz w n e 0) → L_X11_areTogether_34 E (d + 1) Q (x + 94) w (nI n) (nI (sz ^ n)) (nI code) S := by
    intro c
    induction c with
    | zero =>
      intro code hc hno
      obtain rfl : code = sz ^ n := by omega
      refine T_X11_areTogether_34 ⟨fun _ => h0 (fun t => ?_), fun cc => absurd Int32.le_rfl cc⟩
      obtain ⟨e, he, te⟩ := (tSq_ex n 0).mpr t
      exact hno e he te
    | succ c ih =>
      intro code hc hno
      refine T_X11_areTogether_34 ⟨fun cc => absurd cc (nI_ge (by omega) (by omega)), fun _ => ?_⟩
      cases n with
      | zero =>
        have hc1 : code + (c + 1) = 1 := by simpa using hc
        refine T_X11_areTogether_53 ⟨fun _ => ?_, fun cc => absurd (by exact Int32.le_rfl) cc⟩
        have yes : tRe v sz w 0 0 → Q 1 S := h1
        refine ⟨fun e => ⟨fun _ => yes e, fun q => absurd e q⟩, fun e => ?_⟩
        rw [nI_1]
        refine ih (code + 1) (by omega) (fun e' he' => ?_)
        exact fun t => e t
      | succ n' =>
        have hs : 0 < sz := by
          rcases Nat.eq_zero_or_pos sz with e | e
          · rw [e, Nat.pow_succ, Nat.mul_zero] at hc; omega
          · exact e
        refine good (n' + 1) 0 code code 0 0 (by omega) hs (by omega) sub0 sub0 (fun r => h1 ((tSq_ex (n' + 1) 0).mp ⟨code, by omega, (rS_eq hg hz hs _ _ _).mp r⟩)) (fun r => ih (code + 1) (by omega) (fun e he => ?_))
        by_cases ee : e = code
        · rw [ee]; exact fun t => r ((rS_eq hg hz hs _ _ _).mpr t)
        · exact hno e (by omega)
  have pows : ∀ (c i : Nat), i + c = n → L_X11_areTogether_10 E (d + 1) Q (x + 94) w (nI n) (nI (sz ^ i)) (nI i) S := by
    intro c
    induction c with
    | zero =>
      intro i hi
      obtain rfl : i = n := by omega
      exact T_X11_areTogether_10 ⟨fun _ => codes (sz ^ i) 0 (by omega) (fun e he => absurd he (Nat.not_lt_zero _)), fun cc => absurd Int32.le_rfl cc⟩
    | succ c ih =>
      intro i hi
      refine T_X11_areTogether_10 ⟨fun cc => absurd cc (nI_ge (by omega) (by omega)), fun _ => ⟨hM.k, _, hM.r, hM.k1, i0.1, ?_⟩⟩
      rw [i0.2, hv0, nI_mul, ← Nat.pow_succ, nI_1]
      exact ih (i + 1) (by omega)
  refine T_X11_areTogether ?_
  rw [hn]
  exact pows n 0 (by omega)
/-- the class's question, from nothing -/
theorem c_X0_canBringTogether {Q : Int32 → jM → Prop} {w : Int32} {k0 n : Nat} (hX : XR S x sz v) (hg : Rg sz v) (hw : w = nI k0) (hk0 : k0 < 1024) (hn : jbc w = nI n) (hn3 : n ≤ 3) (h1 : tRe v sz w n 0 → Q 1 S) (h0 : ¬ tRe v sz w n 0 → Q 0 S) : jFi E mX0_canBringTogether (d + 7) 0 0 [.ref (x + 2), .int w] S Q := by
  have e0 : w &&& (0 ^^^ (-1)) = w := tb_ext (fun k hk => by rw [tb_and, tb_not _ hk, tb_0]; simp)
  exact T_X0_canBringTogether (c_X0_leadsTo hX hg hw hk0 n (d + 6) 0 _ (by omega) hn3 (fun k _ hb => by rw [tb_0] at hb; exact absurd hb (by decide)) (by rw [e0]; exact hn) (fun t => ⟨Or.inr rfl, h1 t⟩) (fun t => ⟨Or.inl rfl, h0 t⟩))
theorem Q_together {w : Int32} (h : IV S x sz M v) : jFi E mX10_together (d + 8) 0 0 [.ref x, .int w] S (fun r S1 => jFm E mX11_together (d + 3) (x + 94) [.int w] S1 (fun r' S2 => r = r' ∧ INV S2 x M)) := by
  obtain ⟨hX, hM, hg⟩ := id h.1
  have hz := hX.sz9
  have e0 : jisin (Int32.toInt64 w) 0 1023 = jwi w 1024 := jisin_wi w 1024 1023 rfl (jle_lt (by decide))
  refine T_X10_together ⟨fun c => U_X11_together hM.k ⟨fun _ => ⟨rfl, h.inv⟩, fun c2 => absurd (e0.trans c) c2⟩, fun c => ?_⟩
  have c' : ¬ jisin (Int32.toInt64 w) 0 1023 = 0 := by rw [e0]; exact c
  rcases jwi_cases w (b := 1024) 1024 rfl (by omega) with ⟨k0, hk0, hw, -⟩ | ⟨-, e⟩
  · have ebm : jbc w = jmany w := by rw [hw]; exact jbm hk0
    refine ⟨fun c3 => ?_, fun c3 => U_X11_together hM.k ⟨fun q => absurd q c', fun _ => ⟨fun q => absurd (by rw [ebm]; exact q) c3, fun _ => ⟨rfl, h.inv⟩⟩⟩⟩
    obtain ⟨⟨n, hn11⟩, hn⟩ := jmany_le ⟨k0, hk0⟩
    have hmn : jmany w = nI n := by rw [hw]; exact hn
    have hn3 : n ≤ 3 := by
      rw [ebm, hmn] at c3
      exact (nI_leI (b := 3) (by omega) (by omega)).mp c3
    have ref : ∀ r : Int32, (tRe v sz w n 0 → r = 1) → (¬ tRe v sz w n 0 → r = 0) → jFm E mX11_together (d + 3) (x + 94) [.int w] S (fun r' S2 => r = r' ∧ INV S2 x M) := fun r p1 p0 =>
      U_X11_together hM.k ⟨fun q => absurd q c', fun _ => ⟨fun _ => ⟨hM.k, c_X11_areTogether hM hg hX.v0 hz hw hk0 hmn hn3 (fun t => ⟨fun q => absurd q (by decide), fun _ => ⟨p1 t, h.inv⟩⟩) (fun t => ⟨fun _ => ⟨p0 t, h.inv⟩, fun q => absurd rfl q⟩)⟩, fun q => absurd (by rw [← ebm]; exact c3) q⟩⟩
    exact ⟨hX.1, _, hX.2.1, hX.k3, _, hX.r0, hX.g.1.1, c_X0_canBringTogether hX hg hw hk0 (ebm.trans hmn) hn3 (fun t => ⟨fun q => absurd q (by decide), fun _ => ref 1 (fun _ => rfl) (fun q => absurd t q)⟩) (fun t => ⟨fun _ => ref 0 (fun q => absurd q t) (fun _ => rfl), fun q => absurd rfl q⟩)⟩
  · exact absurd e c
/-! never -/
/-- the first pair a, b that is taught and does not come together -/
def nvB (P : Nat → Nat → Prop) (a : Nat) : Nat → Nat → Int32 → Prop
  | 0, _, _ => False
  | c + 1, b, r => (P a b ∧ r = nI (10 * a + b)) ∨ (¬ P a b ∧ nvB P a c (b + 1) r)
def nvN (P : Nat → Nat → Prop) (a : Nat) : Nat → Nat → Prop
  | 0, _ => True
  | c + 1, b => ¬ P a b ∧ nvN P a c (b + 1)
def nvA (P : Nat → Nat → Prop) : Nat → Nat → Int32 → Prop
  | 0, _, r => r = kNONE
  | c + 1, a, r => nvB P a (9 - a) (a + 1) r ∨ (nvN P a (9 - a) (a + 1) ∧ nvA P c (a + 1) r)
theorem nvB_one {P : Nat → Nat → Prop} {a : Nat} {r r' : Int32} : ∀ (c b : Nat), nvB P a c b r → nvB P a c b r' → r = r'
  | 0, _, h, _ => h.elim
  | c + 1, b, h, h' => by
    rcases h with ⟨p, e⟩ | ⟨p, e⟩ <;> rcases h' with ⟨p', e'⟩ | ⟨p', e'⟩
    · rw [e, e']
    · exact absurd p p'
    · exact absurd p' p
    · exact nvB_one c (b + 1) e e'
theorem nvB_no {P : Nat → Nat → Prop} {a : Nat} {r : Int32} : ∀ (c b : Nat), nvB P a c b r → nvN P a c b → False
  | 0, _, h, _ => h
  | c + 1, b, h, n => by
    rcases h with ⟨p, _⟩ | ⟨_, e⟩
    · exact n.1 p
    · exact nvB_no c (b + 1) e n.2
theorem nvA_one {P : Nat → Nat → Prop} {r r' : Int32} : ∀ (c a : Nat), nvA P c a r → nvA P c a r' → r = r'
  | 0, _, h, h' => h.trans h'.symm
  | c + 1, a, h, h' => by
    rcases h with e | ⟨n, e⟩ <;> rcases h' with e' | ⟨n', e'⟩
    · exact nvB_one _ _ e e'
    · exact (nvB_no _ _ e n').elim
    · exact (nvB_no _ _ e' n).elim
    · exact nvA_one c (a + 1) e e'
/-- the two bits of a pair -/
theorem pair_b : ∀ a : Fin 10, ∀ b : Fin 10, a.val < b.val → (∃ k : Fin 1024, jshl 1 (nI a.val) ||| jshl 1 (nI b.val) = nI k.val) ∧ jbc (jshl 1 (nI a.val) ||| jshl 1 (nI b.val)) = nI 2 ∧ jmany (jshl 1 (nI a.val) ||| jshl 1 (nI b.val)) = nI 2 := by
  have h : ∀ a : Fin 10, ∀ b : Fin 10, a.val < b.val → (jshl 1 (nI a.val) ||| jshl 1 (nI b.val) = nI (2 ^ a.val + 2 ^ b.val) ∧ 2 ^ a.val + 2 ^ b.val < 1024) ∧ jbc (jshl 1 (nI a.val) ||| jshl 1 (nI b.val)) = nI 2 ∧ jmany (jshl 1 (nI a.val) ||| jshl 1 (nI b.val)) = nI 2 := by decide +kernel
  intro a b hab
  obtain ⟨⟨h1, h2⟩, h3⟩ := h a b hab
  exact ⟨⟨⟨_, h2⟩, h1⟩, h3⟩
def nvP (v : Nat → Int32) (sz : Nat) (ta : Int32) (a b : Nat) : Prop := ta &&& (jshl 1 (nI a) ||| jshl 1 (nI b)) = (jshl 1 (nI a) ||| jshl 1 (nI b)) ∧ ¬ tRe v sz (jshl 1 (nI a) ||| jshl 1 (nI b)) 2 0
theorem l_X10_never {Q : Int32 → jM → Prop} {ta : Int32} (hX : XR S x sz v) (hg : Rg sz v) (h : ∀ r, nvA (nvP v sz ta) 10 0 r → Q r S) : L_X10_never_13 E (d + 7) Q x ta 0 S := by
  have inner : ∀ (c b a : Nat), a < b → b + c = 10 → a < 10 → (∀ r, nvB (nvP v sz ta) a c b r → Q r S) → (nvN (nvP v sz ta) a c b → L_X10_never_13 E (d + 7) Q x ta (nI (a + 1)) S) → L_X10_never_23 E (d + 7) Q x ta (nI a) (nI b) S := by
    intro c
    induction c with
    | zero =>
      intro b a hab hb ha q n
      obtain rfl : b = 10 := by omega
      exact T_X10_never_23 ⟨fun _ => by rw [nI_1]; exact n trivial, fun cc => absurd (by decide) cc⟩
    | succ c ih =>
      intro b a hab hb ha q n
      obtain ⟨⟨⟨k, hk⟩, ek⟩, e2, -⟩ := pair_b ⟨a, ha⟩ ⟨b, by omega⟩ hab
      have nxt : ¬ nvP v sz ta a b → L_X10_never_23 E (d + 7) Q x ta (nI a) (nI b + 1) S := fun hp => by
        rw [nI_1]
        exact ih (b + 1) a (by omega) (by omega) ha (fun r hr => q r (Or.inr ⟨hp, hr⟩)) (fun hn => n ⟨hp, hn⟩)
      refine T_X10_never_23 ⟨fun cc => absurd cc (nI_ge (b := 10) (by omega) (by omega)), fun _ => ⟨fun c1 => ⟨hX.1, _, hX.2.1, hX.k3, _, hX.r0, hX.g.1.1, c_X0_canBringTogether hX hg ek hk e2 (by omega) (fun t => ⟨fun cc => absurd cc (by decide), fun _ => nxt (fun p => p.2 t)⟩) (fun t => ⟨fun _ => ?_, fun cc => absurd rfl cc⟩)⟩, fun c1 => nxt (fun p => c1 p.1)⟩⟩
      rw [show (10 : Int32) = nI 10 from rfl, nI_mul, nI_add]
      exact q _ (Or.inl ⟨⟨c1, t⟩, rfl⟩)
  have outer : ∀ (c a : Nat), a + c = 10 → (∀ r, nvA (nvP v sz ta) c a r → Q r S) → L_X10_never_13 E (d + 7) Q x ta (nI a) S := by
    intro c
    induction c with
    | zero =>
      intro a ha q
      obtain rfl : a = 10 := by omega
      exact T_X10_never_13 ⟨fun _ => q _ rfl, fun cc => absurd (by decide) cc⟩
    | succ c ih =>
      intro a ha q
      refine T_X10_never_13 ⟨fun cc => absurd cc (nI_ge (b := 10) (by omega) (by omega)), fun _ => ?_⟩
      rw [nI_1]
      exact inner (9 - a) (a + 1) a (by omega) (by omega) (by omega) (fun r hr => q r (Or.inl hr)) (fun hn => ih (a + 1) (by omega) (fun r hr => q r (Or.inr ⟨hn, hr⟩)))
  exact outer 10 0 (by omega) h
theorem l_X11_never {Q : Int32 → jM → Prop} {ta : Int32} (hM : MR S (x + 94) v) (hv0 : v 0 = nI sz) (hz : sz ≤ 9) (hg : Rg sz v) (h : ∀ r, nvA (nvP v sz ta) 10 0 r → Q r S) : L_X11_never_7 E (d + 2) Q (x + 94) ta 0 S := by
  have inner : ∀ (c b a : Nat), a < b → b + c = 10 → a < 10 → (∀ r, nvB (nvP v sz ta) a c b r → Q r S) → (nvN (nvP v sz ta) a c b → L_X11_never_7 E (d + 2) Q (x + 94) ta (nI (a + 1)) S) → L_X11_never_17 E (d + 2) Q (x + 94) ta (nI a) (nI b) S := by
    intro c
    induction c with
    | zero =>
      intro b a hab hb ha q n
      obtain rfl : b = 10 := by omega
      exact T_X11_never_17 ⟨fun _ => by rw [nI_1]; exact n trivial, fun cc => absurd (by decide) cc⟩
    | succ c ih =>
      intro b a hab hb ha q n
      obtain ⟨⟨⟨k, hk⟩, ek⟩, -, e2⟩ := pair_b ⟨a, ha⟩ ⟨b, by omega⟩ hab
      have nxt : ¬ nvP v sz ta a b → L_X11_never_17 E (d + 2) Q (x + 94) ta (nI a) (nI b + 1) S := fun hp => by
        rw [nI_1]
        exact ih (b + 1) a (by omega) (by omega) ha (fun r hr => q r (Or.inr ⟨hp, hr⟩)) (fun hn => n ⟨hp, hn⟩)
      refine T_X11_never_17 ⟨fun cc => absurd cc (nI_ge (b := 10) (by omega) (by omega)), fun _ => ⟨fun c1 => ⟨hM.k, c_X11_areTogether hM hg hv0 hz ek hk e2 (by omega) (fun t => ⟨fun cc => absurd cc (by decide), fun _ => nxt (fun p => p.2 t)⟩) (fun t => ⟨fun _ => ?_, fun cc => absurd rfl cc⟩)⟩, fun c1 => nxt (fun p => c1 p.1)⟩⟩
      rw [show (10 : Int32) = nI 10 from rfl, nI_mul, nI_add]
      exact q _ (Or.inl ⟨⟨c1, t⟩, rfl⟩)
  have outer : ∀ (c a : Nat), a + c = 10 → (∀ r, nvA (nvP v sz ta) c a r → Q r S) → L_X11_never_7 E (d + 2) Q (x + 94) ta (nI a) S := by
    intro c
    induction c with
    | zero =>
      intro a ha q
      obtain rfl : a = 10 := by omega
      exact T_X11_never_7 ⟨fun _ => q _ rfl, fun cc => absurd (by decide) cc⟩
    | succ c ih =>
      intro a ha q
      refine T_X11_never_7 ⟨fun cc => absurd cc (nI_ge (b := 10) (by omega) (by omega)), fun _ => ?_⟩
      rw [nI_1]
      exact inner (9 - a) (a + 1) a (by omega) (by omega) (by omega) (fun r hr => q r (Or.inl hr)) (fun hn => ih (a + 1) (by omega) (fun r hr => q r (Or.inr ⟨hn, hr⟩)))
  exact outer 10 0 (by omega) h
theorem Q_never (h : IV S x sz M v) : jFi E mX10_never (d + 8) 0 0 [.ref x] S (fun r S1 => jFm E mX11_never (d + 3) (x + 94) [] S1 (fun r' S2 => r = r' ∧ INV S2 x M)) := by
  obtain ⟨hX, hM, hg⟩ := id h.1
  have hz := hX.sz9
  refine T_X10_never ⟨hX.1, _, hX.2.1, hX.k3, _, hX.r0, hX.g.1.1, c_X0_taught hX.g hz (l_X10_never hX hg (fun r hr => ?_))⟩
  exact U_X11_never hM.k ⟨hM.k, c_X11_taughtNow hM hX.v0 hz (l_X11_never hM hX.v0 hz hg (fun r' hr' => ⟨nvA_one 10 0 hr hr', h.inv⟩))⟩
end jTog2
end
section
/-! SOONEST: the class's search comes to its end and leaves all else -/
/-- what the search changes -/
def jse (S S' : jM) (x : Nat) : Prop := jsame S S' ∧ ∀ y, (y < x + 52 ∨ x + 60 ≤ y) → (y < x + 115 ∨ (y - x) % 3 ≠ 0) → ji S' y = ji S y
section jSoon1
variable {E : jEnv} {d : Nat} {S S' : jM} {x sz M : Nat} {v : Nat → Int32}
theorem jse.rfl : jse S S x := ⟨jsame.rfl, fun _ _ _ => _root_.rfl⟩
theorem jse.trans {S1 S2 : jM} (h1 : jse S S1 x) (h2 : jse S1 S2 x) : jse S S2 x := ⟨h1.1.trans h2.1, fun y a b => (h2.2 y a b).trans (h1.2 y a b)⟩
theorem jse.put {y j : Nat} {w : Int32} (h1 : x + 52 ≤ y) (h2 : y < x + 60) : jse S (jput S y j w) x := ⟨⟨_root_.rfl, _root_.rfl, _root_.rfl, _root_.rfl⟩, fun z _ _ => ji_put_ne _ _ _ _ (by omega)⟩
theorem jse.of (h : jpi S S' x) : jse S S' x := ⟨h.1, fun y _ b => h.2 y b⟩
theorem jse.fq (h : jse S S' x) : jfq S S' x := ⟨h.1, fun y _ _ _ _ _ _ _ g => h.2 y (by omega) g⟩
theorem IV.se (h : IV S x sz M v) (p : jse S S' x) : IV S' x sz M v := by
  obtain ⟨hX, hM, hg⟩ := id h.1
  have g : ∀ y, (y < x + 52 ∨ (x + 60 ≤ y ∧ y < x + 115)) → ji S' y = ji S y := fun y hy => p.2 y (by omega) (by omega)
  exact h.next p.fq ⟨hX.of p.1 (hX.2.2.grow (fun y a b => ⟨by rw [p.1.1], by rw [p.1.2.1], g y (by omega), by rw [p.1.2.2.1]⟩)), ⟨hM.1.same p.1, fun j => by rw [g (x + 94 + 1) (by omega)]; exact hM.2 j⟩, hg⟩ (fun _ _ _ => _root_.rfl)
theorem jwi_in {w : Int32} {n : Nat} (hn : n < 2 ^ 31) (h : ¬ jwi w (nI n) = 0) : vp_in w n := by
  rcases jwi_cases w (b := nI n) n _root_.rfl hn with ⟨j, hj, e, -⟩ | ⟨-, e⟩
  · rw [e]; exact jin_nI hj hn
  · exact absurd e h
theorem c_X5_keptOf {Q : Int32 → jM → Prop} {a b c : Int32} (hs : SrL S (x + 52)) (h : ∀ r, Q r S) : jFi E mX5_keptOf d 0 0 [.ref (x + 52), .int a, .int b, .int c] S Q := by
  have key : ∀ (n i : Nat) (y : Int32), i + n = 10 → L_X5_keptOf_12 E d Q (x + 52) b c y (nI i) S := by
    intro n
    induction n with
    | zero =>
      intro i y hi
      obtain rfl : i = 10 := by omega
      exact T_X5_keptOf_12 ⟨fun _ => h _, fun cc => absurd (by decide) cc⟩
    | succ n ih =>
      intro i y hi
      refine T_X5_keptOf_12 ⟨fun cc => absurd cc (nI_ge (b := 10) (by omega) (by omega)), fun _ => ⟨hs.1, _, (hs.2.1 5 (by omega)).1, (hs.2.1 5 (by omega)).2, ?_, ?_⟩⟩
      · show vp_in (nI i) (jl S (x + 52 + 6))
        rw [hs.2.2.2.1]; exact jin_nI (by omega) (by omega)
      · rw [nI_1]
        exact ⟨fun _ => ih (i + 1) _ (by omega), fun _ => ih (i + 1) _ (by omega)⟩
  exact T_X5_keptOf ⟨fun _ => h _, fun _ => key 10 0 a (by omega)⟩
theorem c_X5_daysTaken {Q : Int32 → jM → Prop} {j : Nat} {a k : Int32} (h : IV S x sz M v) (hj : j < 9) (hq : ∀ r S', jse S S' x → Q r S') : jFi E mX5_daysTaken (d + 4) 0 0 [.ref (x + 52), .ref (x + 1), .int a, .ref (x + 2 + 2 + j), .int k] S Q := by
  obtain ⟨⟨hX, hM, hg⟩, hC, -, -, hT, -⟩ := id h
  have hs := hC.2.2.1
  have r6 := hs.2.1 6 (by omega)
  have l99 : jl S (x + 52 + 1 + 6) = 99 := hs.2.2.2.2
  obtain ⟨o, hL⟩ := LWD_ex (key := 0) (by omega) hT
  obtain ⟨kd, hkd, ekd⟩ := hg.kd hj
  obtain ⟨tg, htg, etg⟩ := hg.ge hj
  obtain ⟨ag, hag, eag⟩ := hg.ag hj
  have days : ∀ Q' : Int32 → jM → Prop, (∀ r S', jse S S' x → Q' r S') → jFi E mX3_daysTaken (d + 3) 0 0 [.ref (x + 1), .ref (x + 2 + 2 + j), .int k] S Q' := by
    intro Q' q
    rw [nI_bv k]
    exact c_X3_daysTaken (M := M) hX.2.2 hT hL (hX.mk hj) (by omega) ((hX.ms hj (by omega)).trans ekd) ((hX.ms hj (by omega)).trans etg) ((hX.ms hj (by omega)).trans eag) hkd hag (fun S' p => q _ S' (jse.of p))
  refine T_X5_daysTaken ⟨hs.1, _, r6.1, r6.2, ?_⟩
  rw [l99]
  refine ⟨fun _ => ⟨hX.k3, days _ (fun r S' p => hq r S' p)⟩, fun c => ?_⟩
  have hin := jwi_in (by omega) c
  refine ⟨hin, fun _ => ⟨hX.k3, days _ (fun r S' p => ?_)⟩, fun _ => hq _ S jse.rfl⟩
  have hs1 := (h.se p).2.1.2.2.1
  have q6 := hs1.2.1 6 (by omega)
  have m99 : jl S' (x + 52 + 1 + 6) = 99 := hs1.2.2.2.2
  rw [m99]
  exact ⟨q6.2, hin, hs1.1, _, q6.1, q6.2, by rw [m99]; exact hin, hq _ _ (p.trans (jse.put (by omega) (by omega)))⟩
theorem c_X5_offer {Q : jM → Prop} {w : Int32} (hs : SrL S (x + 52)) (hq : ∀ S', jse S S' x → Q S') : jFv E mX5_offer (d + 1) 0 0 [.ref (x + 52), .int w] S Q := by
  have r2 := hs.2.1 2 (by omega)
  have r3 := hs.2.1 3 (by omega)
  have r4 := hs.2.1 4 (by omega)
  refine T_X5_offer ⟨fun _ => hq S jse.rfl, fun c => ?_⟩
  have hin : vp_in w 5 := jwi_in (n := 5) (by omega) c
  have i2 : vp_in w (jl S (x + 52 + 1 + 2)) := by rw [hs.2.2.1 2 (by omega)]; exact hin
  have i3 : vp_in w (jl S (x + 52 + 1 + 3)) := by rw [hs.2.2.1 3 (by omega)]; exact hin
  have i4 : vp_in w (jl S (x + 52 + 1 + 4)) := by rw [hs.2.2.1 4 (by omega)]; exact hin
  have fin : ∀ r : Int32, (r = 0 → Q S) ∧ (¬ r = 0 → jk S (x + 52) = 5 ∧ ∃ b19, jr S (x + 52) 2 = some b19 ∧ (jk S b19 = 12 ∧ vp_in w (jl S b19) ∧ (∃ b22, jr S (x + 52) 3 = some b22 ∧ (jk S b22 = 12 ∧ vp_in w (jl S b22) ∧ (∃ b25, jr S (x + 52) 4 = some b25 ∧ (jk S b25 = 12 ∧ vp_in w (jl S b25) ∧ (Q (jput (jput (jput S (x + 52) 9 (ji S b19 (Int32.toNatClampNeg w))) (x + 52) 10 (ji S b22 (Int32.toNatClampNeg w))) (x + 52) 11 (ji S b25 (Int32.toNatClampNeg w)))))))))) := fun r => ⟨fun _ => hq S jse.rfl, fun _ => ⟨hs.1, _, r2.1, r2.2, i2, _, r3.1, r3.2, i3, _, r4.1, r4.2, i4, hq _ (((jse.put (by omega) (by omega)).trans (jse.put (by omega) (by omega))).trans (jse.put (by omega) (by omega)))⟩⟩
  exact ⟨hs.1, _, r2.1, r2.2, i2, _, r3.1, r3.2, i3, _, r4.1, r4.2, i4, T_X5_isBetter ⟨hs.1, fun _ => ⟨fun _ => ⟨fun _ => fin _, fun _ => fin _⟩, fun _ => ⟨fun _ => fin _, fun _ => fin _⟩⟩, fun _ => ⟨fun _ => fin _, fun _ => fin _⟩⟩⟩
/-- from the lesson on -/
theorem t_X5_try {Q : jM → Prop} {D st j : Nat} {x3 kn ar pr fo gt : Int32} {a4 : Nat} (h : IV S x sz M v) (hD : 4 ≤ D) (hj : j < 9) (ha : a4 = x + 2 + 2 + j) (hst : st + 1 < 5) (hgt : vp_in gt 10) (G : ∀ S', jse S S' x → ∀ Q' : jM → Prop, (∀ S'', jse S' S'' x → Q' S'') → jFv E mX5_goOn D 0 0 [.ref (x + 52), .ref (x + 1), .int (nI (st + 1))] S' Q') (hq : ∀ S', jse S S' x → Q S') : jFi E mX2_teaches D 0 0 [.ref a4, .int kn] S (fun r49 S48 => (r49 = 0 → Q S48) ∧ (¬ r49 = 0 → jk S48 (x + 52) = 5 ∧ jFi E mX5_daysTaken D 0 0 [.ref (x + 52), .ref (x + 1), .int x3, .ref a4, .int (jbc kn)] S48 (fun r56 S55 => jk S55 (x + 52) = 5 ∧ ((ar + r56) ≤ (ji S55 (x + 52) 9) → ∃ b59, jr S55 (x + 52) 0 = some b59 ∧ (jk S55 a4 = 2 ∧ jk S55 b59 = 12 ∧ vp_in (nI st + 1) (jl S55 b59) ∧ (∃ b63, jr S55 (x + 52) 1 = some b63 ∧ (jFi E mX5_keptOf D 0 0 [.ref (x + 52), .int kn, .int (ar + r56), .int fo] (jput S55 b59 (Int32.toNatClampNeg (nI st + 1)) (ji S55 a4 1)) (fun r65 S64 => jk S64 a4 = 2 ∧ jFi E mX2_unlearnt D 0 0 [.ref a4] S64 (fun r68 S67 => jk S67 b63 = 12 ∧ vp_in (nI st + 1) (jl S67 b63) ∧ (jk S67 (x + 52) = 5 ∧ ∃ b72, jr S67 (x + 52) 2 = some b72 ∧ (jk S67 b72 = 12 ∧ vp_in (nI st + 1) (jl S67 b72) ∧ (∃ b75, jr S67 (x + 52) 3 = some b75 ∧ (jk S67 b75 = 12 ∧ vp_in (nI st + 1) (jl S67 b75) ∧ (∃ b78, jr S67 (x + 52) 4 = some b78 ∧ (((nI st) = 0 → jk S67 b78 = 12 ∧ vp_in (nI st + 1) (jl S67 b78) ∧ (∃ b94, jr S67 (x + 52) 5 = some b94 ∧ (jk S67 b94 = 12 ∧ vp_in gt (jl S67 b94) ∧ (∀ y97 : Int32, y97 = (ji (jput (jput (jput (jput S67 b63 (Int32.toNatClampNeg (nI st + 1)) ((r65 &&& (r68 ^^^ (-1))) ||| (jshl 1 gt))) b72 (Int32.toNatClampNeg (nI st + 1)) (ar + r56)) b75 (Int32.toNatClampNeg (nI st + 1)) pr) b78 (Int32.toNatClampNeg (nI st + 1)) x3) b94 (Int32.toNatClampNeg gt)) → (jFv E mX5_goOn D 0 0 [.ref (x + 52), .ref (x + 1), .int (nI st + 1)] (jput (jput (jput (jput (jput S67 b63 (Int32.toNatClampNeg (nI st + 1)) ((r65 &&& (r68 ^^^ (-1))) ||| (jshl 1 gt))) b72 (Int32.toNatClampNeg (nI st + 1)) (ar + r56)) b75 (Int32.toNatClampNeg (nI st + 1)) pr) b78 (Int32.toNatClampNeg (nI st + 1)) x3) b94 (Int32.toNatClampNeg gt) (ar + r56)) (fun S98 => jk S98 (x + 52) = 5 ∧ ∃ b100, jr S98 (x + 52) 5 = some b100 ∧ (jk S98 b100 = 12 ∧ vp_in gt (jl S98 b100) ∧ (Q (jput S98 b100 (Int32.toNatClampNeg gt) y97))))))))) ∧ (¬ (nI st) = 0 → jk S67 b78 = 12 ∧ vp_in (nI st) (jl S67 b78) ∧ (vp_in (nI st + 1) (jl S67 b78) ∧ (∃ b83, jr S67 (x + 52) 5 = some b83 ∧ (jk S67 b83 = 12 ∧ vp_in gt (jl S67 b83) ∧ (∀ y86 : Int32, y86 = (ji (jput (jput (jput (jput S67 b63 (Int32.toNatClampNeg (nI st + 1)) ((r65 &&& (r68 ^^^ (-1))) ||| (jshl 1 gt))) b72 (Int32.toNatClampNeg (nI st + 1)) (ar + r56)) b75 (Int32.toNatClampNeg (nI st + 1)) pr) b78 (Int32.toNatClampNeg (nI st + 1)) (ji (jput (jput (jput S67 b63 (Int32.toNatClampNeg (nI st + 1)) ((r65 &&& (r68 ^^^ (-1))) ||| (jshl 1 gt))) b72 (Int32.toNatClampNeg (nI st + 1)) (ar + r56)) b75 (Int32.toNatClampNeg (nI st + 1)) pr) b78 (Int32.toNatClampNeg (nI st)))) b83 (Int32.toNatClampNeg gt)) → (jFv E mX5_goOn D 0 0 [.ref (x + 52), .ref (x + 1), .int (nI st + 1)] (jput (jput (jput (jput (jput S67 b63 (Int32.toNatClampNeg (nI st + 1)) ((r65 &&& (r68 ^^^ (-1))) ||| (jshl 1 gt))) b72 (Int32.toNatClampNeg (nI st + 1)) (ar + r56)) b75 (Int32.toNatClampNeg (nI st + 1)) pr) b78 (Int32.toNatClampNeg (nI st + 1)) (ji (jput (jput (jput S67 b63 (Int32.toNatClampNeg (nI st + 1)) ((r65 &&& (r68 ^^^ (-1))) ||| (jshl 1 gt))) b72 (Int32.toNatClampNeg (nI st + 1)) (ar + r56)) b75 (Int32.toNatClampNeg (nI st + 1)) pr) b78 (Int32.toNatClampNeg (nI st)))) b83 (Int32.toNatClampNeg gt) (ar + r56)) (fun S87 => jk S87 (x + 52) = 5 ∧ ∃ b89, jr S87 (x + 52) 5 = some b89 ∧ (jk S87 b89 = 12 ∧ vp_in gt (jl S87 b89) ∧ (Q (jput S87 b89 (Int32.toNatClampNeg gt) y86)))))))))))))))))))))) ∧ (¬ (ar + r56) ≤ (ji S55 (x + 52) 9) → Q S55)))) := by
  subst ha
  obtain ⟨e, rfl⟩ : ∃ e, D = e + 4 := ⟨D - 4, by omega⟩
  rw [nI_1]
  have hX := h.1.1
  have k2 := hX.mk hj
  have hs := h.2.1.2.2.1
  refine c_X2_teaches (d := e + 3) k2 ⟨fun _ => hq S jse.rfl, fun _ => ⟨hs.1, c_X5_daysTaken h hj (fun r S1 p1 => ?_)⟩⟩
  have h1 := h.se p1
  have s1 := h1.2.1.2.2.1
  have l1 : ∀ k, k < 5 → ∀ i, i < 5 → vp_in (nI i) (jl S1 (x + 52 + 1 + k)) := fun k hk i hi => by rw [s1.2.2.1 k hk]; exact jin_nI hi (by omega)
  have l10 : vp_in gt (jl S1 (x + 52 + 1 + 5)) := by rw [show x + 52 + 1 + 5 = x + 52 + 6 by omega, s1.2.2.2.1]; exact hgt
  refine ⟨s1.1, fun _ => ⟨_, (s1.2.1 0 (by omega)).1, h1.1.1.mk hj, (s1.2.1 0 (by omega)).2, l1 0 (by omega) _ (by omega), _, (s1.2.1 1 (by omega)).1, c_X5_keptOf s1 (fun r2 => ⟨h1.1.1.mk hj, c_X2_unlearnt (h1.1.1.mk hj) ⟨(s1.2.1 1 (by omega)).2, l1 1 (by omega) _ (by omega), s1.1, _, (s1.2.1 2 (by omega)).1, (s1.2.1 2 (by omega)).2, l1 2 (by omega) _ (by omega), _, (s1.2.1 3 (by omega)).1, (s1.2.1 3 (by omega)).2, l1 3 (by omega) _ (by omega), _, (s1.2.1 4 (by omega)).1, fun _ => ⟨(s1.2.1 4 (by omega)).2, l1 4 (by omega) _ (by omega), _, (s1.2.1 5 (by omega)).1, (s1.2.1 5 (by omega)).2, l10, fun y _ => ?_⟩, fun _ => ⟨(s1.2.1 4 (by omega)).2, l1 4 (by omega) _ (by omega), l1 4 (by omega) _ (by omega), _, (s1.2.1 5 (by omega)).1, (s1.2.1 5 (by omega)).2, l10, fun y _ => ?_⟩⟩⟩)⟩, fun _ => hq S1 p1⟩
  all_goals
    have pp : ∀ {S0 : jM} {y j : Nat} {w : Int32}, jse S S0 x → x + 52 ≤ y → y < x + 60 → jse S (jput S0 y j w) x := fun p a b => p.trans (jse.put a b)
    refine G _ ?_ _ (fun S3 p3 => ?_)
    · exact pp (pp (pp (pp (pp (pp p1 (by omega) (by omega)) (by omega) (by omega)) (by omega) (by omega)) (by omega) (by omega)) (by omega) (by omega)) (by omega) (by omega)
    · have q3 := (pp (pp (pp (pp (pp (pp p1 (by omega) (by omega)) (by omega) (by omega)) (by omega) (by omega)) (by omega) (by omega)) (by omega) (by omega)) (by omega) (by omega)).trans p3
      have s3 := (h.se q3).2.1.2.2.1
      exact ⟨s3.1, _, (s3.2.1 5 (by omega)).1, (s3.2.1 5 (by omega)).2, by rw [show x + 52 + 1 + 5 = x + 52 + 6 by omega, s3.2.2.2.1]; exact hgt, hq _ (q3.trans (jse.put (by omega) (by omega)))⟩
theorem c_X5_tryMaster {Q : jM → Prop} {D st j : Nat} {x3 : Int32} (h : IV S x sz M v) (hD : 4 ≤ D) (hj : j < 9) (hst : st < 5) (G : st + 1 < 5 → ∀ S', jse S S' x → ∀ Q' : jM → Prop, (∀ S'', jse S' S'' x → Q' S'') → jFv E mX5_goOn D 0 0 [.ref (x + 52), .ref (x + 1), .int (nI (st + 1))] S' Q') (hq : ∀ S', jse S S' x → Q S') : jFv E mX5_tryMaster (D + 1) 0 0 [.ref (x + 52), .ref (x + 1), .int (nI st), .int x3, .ref (x + 2 + 2 + j)] S Q := by
  have hX := h.1.1
  have k2 := hX.mk hj
  have hs := h.2.1.2.2.1
  have l1 : ∀ k, k < 5 → vp_in (nI st) (jl S (x + 52 + 1 + k)) := fun k hk => by rw [hs.2.2.1 k hk]; exact jin_nI hst (by omega)
  refine T_X5_tryMaster ⟨k2, fun _ => hq S jse.rfl, fun _ => ⟨fun _ => hq S jse.rfl, fun c1 => ⟨fun _ => hq S jse.rfl, fun c2 => ⟨hX.k3, _, hX.r1, hs.1, _, (hs.2.1 0 (by omega)).1, (hs.2.1 0 (by omega)).2, l1 0 (by omega), hX.q.1.1, ?_⟩⟩⟩⟩
  have hst1 : st + 1 < 5 := by
    rw [nI_1] at c1
    rcases jwi_cases (nI (st + 1)) (b := 5) 5 _root_.rfl (by omega) with ⟨i, hi, e, -⟩ | ⟨-, e⟩
    · have := nI_inj (by omega) (by omega) e
      omega
    · exact absurd e c1
  have hgt : vp_in (ji S (x + 2 + 2 + j) 2) 10 := jwi_in (n := 10) (by omega) c2
  obtain ⟨e, rfl⟩ : ∃ e, D = e + 4 := ⟨D - 4, by omega⟩
  have few : ∀ (w u : Int32) (Q' : Int32 → jM → Prop), (∀ r, Q' r S) → jFi E mX4_fewest (e + 4) 0 0 [.ref (x + 13), .int w, .int u] S Q' := by
    intro w u Q' q
    refine T_X4_fewest ⟨fun _ => q _, fun c => ⟨fun _ => q _, fun c3 => ?_⟩⟩
    rcases jwi_cases w (b := 6) 6 _root_.rfl (by omega) with ⟨a, ha, ea, -⟩ | ⟨-, ea⟩
    · rcases jwi_cases u (b := 6) 6 _root_.rfl (by omega) with ⟨b, hb, eb, -⟩ | ⟨-, eb⟩
      · have hh : jFi E mX4_fewest (e + 4) 0 0 [.ref (x + 13), .int (nI a), .int (nI b)] S Q' := c_X4_fewest hX.q ha hb (q _)
        obtain ⟨z1, z2, z3, z4, z5, z6, z7⟩ := hX.q.1
        refine ⟨z1, _, z3, z6, ?_, q _⟩
        rw [z7, ea, eb, show (6 : Int32) = nI 6 from _root_.rfl, nI_mul, nI_add]; exact jin_nI (by omega) (by omega)
      · exact absurd eb c3
    · exact absurd ea c
  refine few _ _ _ (fun r => ⟨hs.1, _, (hs.2.1 2 (by omega)).1, (hs.2.1 2 (by omega)).2, l1 2 (by omega), hX.k3, _, hX.r2, hX.l.1.1, fun _ => ⟨_, (hs.2.1 1 (by omega)).1, (hs.2.1 1 (by omega)).2, l1 1 (by omega), _, (hs.2.1 3 (by omega)).1, (hs.2.1 3 (by omega)).2, l1 3 (by omega), k2, fun _ => ⟨fun _ => hq S jse.rfl, fun _ => ⟨fun _ => hq S jse.rfl, fun _ => ⟨fun _ => ?_, fun _ => hq S jse.rfl⟩⟩⟩, fun _ => hq S jse.rfl⟩, fun _ => ⟨_, (hs.2.1 1 (by omega)).1, (hs.2.1 1 (by omega)).2, l1 1 (by omega), c_X5_keptOf hs (fun r2 => ⟨hs.1, _, (hs.2.1 3 (by omega)).1, (hs.2.1 3 (by omega)).2, l1 3 (by omega), k2, fun _ => ⟨fun _ => hq S jse.rfl, fun _ => ⟨hX.k3, _, hX.r2, hX.l.1.1, fun _ => hq S jse.rfl, fun _ => ⟨fun _ => ?_, fun _ => hq S jse.rfl⟩⟩⟩, fun _ => hq S jse.rfl⟩)⟩⟩)
  · exact t_X5_try h (by omega) hj _root_.rfl hst1 hgt (G hst1) hq
  · exact t_X5_try h (by omega) hj _root_.rfl hst1 hgt (G hst1) hq
theorem c_X5_goOn : ∀ (c st D : Nat) (S : jM) (Q : jM → Prop), st + c = 5 → 6 + 2 * c ≤ D → IV S x sz M v → (∀ S', jse S S' x → Q S') → jFv E mX5_goOn D 0 0 [.ref (x + 52), .ref (x + 1), .int (nI st)] S Q := by
  intro c
  induction c with
  | zero =>
    intro st D S Q hst hD h hq
    obtain rfl : st = 5 := by omega
    obtain ⟨e, rfl⟩ : ∃ e, D = e + 1 := ⟨D - 1, by omega⟩
    exact T_X5_goOn ⟨fun _ => hq S jse.rfl, fun cc => absurd (by decide) cc⟩
  | succ c ih =>
    intro st D S Q hst hD h hq
    obtain ⟨e, rfl⟩ : ∃ e, D = e + 1 + 1 := ⟨D - 2, by omega⟩
    have hX := h.1.1
    have hz := hX.sz9
    have hs := h.2.1.2.2.1
    have loop : ∀ (n i : Nat) (x3 x4 : Int32) (S1 : jM), i + n = sz → jse S S1 x → L_X5_goOn_63 E (e + 1) Q (x + 52) (x + 1) (nI st) x3 x4 (nI i) S1 := by
      intro n
      induction n with
      | zero =>
        intro i x3 x4 S1 hi p1
        obtain rfl : i = sz := by omega
        have hX1 := (h.se p1).1.1
        refine T_X5_goOn_63 ⟨hX1.k3, _, hX1.r0, hX1.g.1.1, ?_⟩
        rw [hX1.g.2.1]
        exact ⟨fun _ => hq S1 p1, fun cc => absurd Int32.le_rfl cc⟩
      | succ n ihn =>
        intro i x3 x4 S1 hi p1
        have h1 := h.se p1
        have hX1 := h1.1.1
        refine T_X5_goOn_63 ⟨hX1.k3, _, hX1.r0, hX1.g.1.1, ?_⟩
        rw [hX1.g.2.1]
        refine ⟨fun cc => absurd cc (nI_ge (by omega) (by omega)), fun _ => c_X0_findAt hX1.g.1 hX1.g.2.1 hz (by omega) ⟨fun cc => absurd cc (by simp), fun b eb => ?_⟩⟩
        obtain rfl : x + 2 + 2 + i = b := Option.some.inj eb
        rw [nI_1]
        have tr : ∀ y : Int32, jFv E mX5_tryMaster (e + 1) 0 0 [.ref (x + 52), .ref (x + 1), .int (nI st), .int y, .ref (x + 2 + 2 + i)] S1 (fun S25 => L_X5_goOn_63 E (e + 1) Q (x + 52) (x + 1) (nI st) x3 x4 (nI (i + 1)) S25) := fun y =>
          c_X5_tryMaster h1 (by omega) (by omega) (by omega) (fun hst1 S2 p2 Q' q' => ih (st + 1) e S2 Q' (by omega) (by omega) (h1.se p2) q') (fun S2 p2 => ihn (i + 1) x3 x4 S2 (by omega) (p1.trans p2))
        exact ⟨fun _ => ⟨(h1.2.1.2.2.1).1, tr _⟩, fun _ => ⟨hX1.mk (by omega), fun _ => ihn (i + 1) x3 x4 S1 (by omega) p1, fun _ => ⟨(h1.2.1.2.2.1).1, tr _⟩⟩⟩
    refine T_X5_goOn ⟨fun _ => hq S jse.rfl, fun _ => ⟨hs.1, _, (hs.2.1 1 (by omega)).1, (hs.2.1 1 (by omega)).2, by rw [hs.2.2.1 1 (by omega)]; exact jin_nI (by omega) (by omega), fun _ => c_X5_offer hs (fun S' p => hq S' p), fun _ => ⟨fun _ => hq S jse.rfl, fun _ => ⟨fun _ => loop sz 0 _ _ S (by omega) jse.rfl, fun _ => hq S jse.rfl⟩⟩⟩⟩
end jSoon1
end
section
/-! SOONEST: the reference counts all ways through -/
theorem jcl9999 (y : Int32) : ∃ k, k < 10000 ∧ jclamp y 0 9999 = nI k := by
  rw [show jclamp y 0 9999 = (if 0 ≤ y then (if y ≤ 9999 then y else 9999) else 0) from rfl]
  by_cases h1 : (0 : Int32) ≤ y
  · rw [if_pos h1]
    by_cases h2 : y ≤ 9999
    · rw [if_pos h2]
      have hlt : y < nI 10000 := Int32.lt_of_le_of_lt h2 (by decide)
      obtain ⟨j, hj, e⟩ := jofI (x := y) (n := 10000) (by omega) h1 hlt
      exact ⟨j, hj, e⟩
    · rw [if_neg h2]; exact ⟨9999, by omega, rfl⟩
  · rw [if_neg h1]; exact ⟨0, by omega, rfl⟩
/-- what the reference changes on its ways -/
def gwf (S S' : jM) (x : Nat) : Prop := jsame S S' ∧ (∀ y, y ≠ x + 94 → y ≠ x + 95 → (y < x + 110 ∨ x + 112 ≤ y) → ji S' y = ji S y) ∧ ∀ j, (j < 15 ∨ 18 ≤ j) → ji S' (x + 94) j = ji S (x + 94) j
/-- and in all -/
def gsf (S S' : jM) (x : Nat) : Prop := jsame S S' ∧ (∀ y, y ≠ x + 94 → y ≠ x + 95 → (y < x + 106 ∨ x + 109 ≤ y) → (y < x + 110 ∨ x + 112 ≤ y) → ji S' y = ji S y) ∧ ∀ j, (j < 15 ∨ 18 ≤ j) → ji S' (x + 94) j = ji S (x + 94) j
section jSoon2
variable {E : jEnv} {d : Nat} {S S' : jM} {x sz M : Nat} {v : Nat → Int32}
theorem Rg.day2 {n : Int32} (hg : Rg sz v) : Rg sz (vday n v) := by
  intro j hj hr
  obtain ⟨a1, a2, a3, a4⟩ := vday_at n v
  by_cases j2 : j = 2
  · subst j2
    rw [a1]; exact jcl9999 _
  · by_cases j4 : j = 4
    · subst j4; rw [a2]; exact pfold_kn 10 0 _ hg.kn
    · by_cases jr : j < 26 ∨ 36 ≤ j
      · rw [a4 j j2 j4 jr]; exact hg j hj hr
      · exfalso
        have := rgb_from (j - 16) (by omega)
        rw [show 16 + (j - 16) = j by omega] at this
        exact hr this
theorem gwf.rfl : gwf S S x := ⟨jsame.rfl, fun _ _ _ _ => _root_.rfl, fun _ _ => _root_.rfl⟩
theorem gwf.trans {S1 S2 : jM} (h1 : gwf S S1 x) (h2 : gwf S1 S2 x) : gwf S S2 x := ⟨h1.1.trans h2.1, fun y a b c => (h2.2.1 y a b c).trans (h1.2.1 y a b c), fun j hj => (h2.2.2 j hj).trans (h1.2.2 j hj)⟩
theorem gsf.rfl : gsf S S x := ⟨jsame.rfl, fun _ _ _ _ _ => _root_.rfl, fun _ _ => _root_.rfl⟩
theorem gsf.trans {S1 S2 : jM} (h1 : gsf S S1 x) (h2 : gsf S1 S2 x) : gsf S S2 x := ⟨h1.1.trans h2.1, fun y a b c e => (h2.2.1 y a b c e).trans (h1.2.1 y a b c e), fun j hj => (h2.2.2 j hj).trans (h1.2.2 j hj)⟩
theorem gwf.sf (h : gwf S S' x) : gsf S S' x := ⟨h.1, fun y a b _ e => h.2.1 y a b e, h.2.2⟩
theorem gwf.row (h : jch S S' (x + 95) (x + 96)) : gwf S S' x := ⟨h.1, fun y _ b _ => h.2 y (by omega), fun j _ => by rw [h.2 _ (by omega)]⟩
theorem gsf.way (h : jch S S' (x + 106) (x + 109)) : gsf S S' x := ⟨h.1, fun y _ _ b _ => h.2 y (by omega), fun j _ => by rw [h.2 _ (by omega)]⟩
theorem gwf.fld {j : Nat} {w : Int32} (h1 : 15 ≤ j) (h2 : j < 18) : gwf S (jput S (x + 94) j w) x := ⟨⟨_root_.rfl, _root_.rfl, _root_.rfl, _root_.rfl⟩, fun y a _ _ => ji_put_ne _ _ _ _ a, fun k hk => by rw [ji_put, if_neg (by omega)]⟩
theorem MR.fld {j : Nat} {w : Int32} {u : Nat → Int32} (h : MR S (x + 94) u) : MR (jput S (x + 94) j w) (x + 94) u := ⟨h.1, fun k => by rw [ji_put_ne _ _ _ _ (by omega)]; exact h.2 k⟩
theorem ML.r12 (h : ML S (x + 94)) : jr S (x + 94) 12 = some (x + 106) ∧ jk S (x + 106) = 12 ∧ jl S (x + 106) = 36 := h.row 11 36 (f := 12) _root_.rfl
theorem ML.r13 (h : ML S (x + 94)) : jr S (x + 94) 13 = some (x + 107) ∧ jk S (x + 107) = 12 ∧ jl S (x + 107) = 135 := h.row 12 135 (f := 13) _root_.rfl
theorem ML.r14 (h : ML S (x + 94)) : jr S (x + 94) 14 = some (x + 108) ∧ jk S (x + 108) = 12 ∧ jl S (x + 108) = 4 := h.row 13 4 (f := 14) _root_.rfl
/-- one way is gone -/
theorem l_X11_goesWay {Q : Int32 → jM → Prop} {S0 : jM} {wy : Nat → Nat} (hT : TXS S0 x (x + 20) M v) (hv0 : v 0 = nI sz) (hz : sz ≤ 9) (hwy : ∀ i, i < 4 → wy i < sz ∧ ji S0 (x + 108) i = nI (wy i))
    (hq : ∀ i, i < 4 → ∀ S' u, gwf S0 S' x → MR S' (x + 94) u → (∀ j, 135 ≤ j → u j = v j) → Q (nI i) S') : ∀ (c i : Nat) (u : Nat → Int32) (x1 : Int32) (S1 : jM), i + c = 4 → gwf S0 S1 x → MR S1 (x + 94) u → Rg sz u → (∀ j, (j < 2 ∨ 36 ≤ j) → u j = v j) → L_X11_goesWay_4 E (d + 3) Q (x + 94) x1 (nI i) S1 := by
  intro c
  induction c with
  | zero =>
    intro i u x1 S1 hi g1 h1 r1 a1
    obtain rfl : i = 4 := by omega
    exact T_X11_goesWay_4 ⟨fun _ => hq 3 (by omega) S1 u g1 h1 (fun j hj => a1 j (by omega)), fun cc => absurd (by decide) cc⟩
  | succ c ih =>
    intro i u x1 S1 hi g1 h1 r1 a1
    have i4 : i < 4 := by omega
    have au : ∀ j, 135 ≤ j → u j = v j := fun j hj => a1 j (by omega)
    have m1 := h1.1
    obtain ⟨ws, ew⟩ := hwy i i4
    have w9 : wy i < 9 := by omega
    have ew1 : ji S1 (x + 108) i = nI (wy i) := by rw [g1.2.1 _ (by omega) (by omega) (by omega)]; exact ew
    have t3 := h1.at (i := 3) 3 rfl (by omega)
    obtain ⟨at_, hat, eat⟩ := r1.at_
    obtain ⟨tw, htw, etw⟩ := r1.tw w9
    refine T_X11_goesWay_4 ⟨fun cc => absurd cc (nI_ge (b := 4) (by omega) (by omega)), fun _ => ⟨m1.1, _, m1.r14.1, m1.r14.2.1, by rw [m1.r14.2.2]; exact jin_nI i4 (by omega), _, m1.r12.1, _, h1.r, h1.k1, t3.1, ?_⟩⟩
    rw [jcl (n := i) (by omega), ew1, t3.2, eat]
    refine c_X11_of (f := 1) h1 w9 (by omega) ⟨m1.r12.2.1, ?_, ?_⟩
    · rw [etw, show (6 : Int32) = nI 6 from rfl, nI_mul, nI_add, m1.r12.2.2]; exact jin_nI (by omega) (by omega)
    generalize ji S1 (x + 106) (Int32.toNatClampNeg (6 * nI at_ + mfv u (wy i) 1)) = road
    refine ⟨fun _ => hq i i4 S1 u g1 h1 au, fun _ => ⟨h1.k, c_X11_goesBy h1 r1 (fun S2 c2 h2 => ⟨h2.k, _, h2.r, ?_⟩)⟩⟩
    have r2 : Rg sz (vday road u) := r1.day2
    have a2 : ∀ j, (j < 2 ∨ 36 ≤ j) → vday road u j = v j := fun j hj => ((vday_at road u).2.2.2 j (by omega) (by omega) (by omega)).trans (a1 j hj)
    have g2 := g1.trans (gwf.row c2)
    have em2 : mfv (vday road u) (wy i) 1 = mfv u (wy i) 1 := mfv_o (fun j hj => vday_m _ _ j (by omega))
    refine c_X11_of (f := 1) h2 w9 (by omega) ⟨h2.k1, (h2.at (i := 3) 3 rfl (by omega)).1, h2.k, ?_⟩
    rw [em2]
    have h3 := h2.puts (i := 3) (w := mfv u (wy i) 1) 3 rfl (by omega)
    have c3 : jch S2 (jput S2 (x + 94 + 1) (Int32.toNatClampNeg 3) (mfv u (wy i) 1)) (x + 95) (x + 96) := jch.put (by omega) (by omega)
    have r3 : Rg sz (upd (vday road u) 3 (mfv u (wy i) 1)) := r2.put (fun _ => ⟨tw, htw, etw⟩)
    have a3 : ∀ j, (j < 2 ∨ 36 ≤ j) → upd (vday road u) 3 (mfv u (wy i) 1) j = v j := fun j hj => by rw [upd_ne _ (by omega)]; exact a2 j hj
    have g3 := g2.trans (gwf.row c3)
    generalize jput S2 (x + 94 + 1) (Int32.toNatClampNeg 3) (mfv u (wy i) 1) = S3 at h3 c3 g3 ⊢
    generalize upd (vday road u) 3 (mfv u (wy i) 1) = u3 at h3 r3 a3
    refine c_X11_canLearn h3 r3 w9 ⟨fun _ => hq i i4 S3 u3 g3 h3 (fun j hj => a3 j (by omega)), fun cc => ⟨h3.k, ?_⟩⟩
    obtain ⟨kd, hkd, ekd⟩ := r3.kd w9
    obtain ⟨g, hg10, eg⟩ := r3.ge w9
    obtain ⟨ag, hag, eag⟩ := r3.ag w9
    obtain ⟨fe, hfe, efe⟩ := r3.fe w9
    obtain ⟨kk, hkk, ekk⟩ := r3.kn
    obtain ⟨co, hco, eco⟩ := r3 5 (by omega) (by decide)
    have hfee : ∃ k, k < 10000 ∧ u3 5 - mfv u3 (wy i) 4 = nI k := by
      have hf := jcan_fee cc
      rw [eco, efe] at hf ⊢
      exact jfee hco hf hfe
    have hT3 : TXS S3 x (x + 20) M u3 := hT.same g3.1 (fun y p _ => g3.2.1 y (by omega) (by omega) (by omega)) (fun j hj _ => a3 j (by omega))
    obtain ⟨o, hL⟩ := LWD_ex (key := 0) (by omega) hT3
    obtain ⟨⟨c9, hc9⟩, ec9⟩ := jmany_le ⟨kk, hkk⟩
    have em : jmany (u3 4) = nI c9 := by rw [ekk]; exact ec9
    have tb := tdays_le (kd := kd) (ag := ag) (j := jcl99 (lwv o (3 + nI c9) (nI c9) (nI g) (nI ag))) hag (jcl99_is _).2.1
    refine c_X11_learns (o := o) h3 r3 hL w9 ekd eg eag hkd hag hg10 (by omega) em rfl hfee (fun S4 f4 o4 h4 y _ => ⟨h4.k, ?_⟩)
    have r4 : Rg sz (vle u3 (wy i) g (nI (tkd o c9 kd g ag))) := r3.le w9 hg10 (b := tkd o c9 kd g ag) rfl (Nat.lt_of_le_of_lt tb (by omega)) hfee
    have a4 : ∀ j, (j < 2 ∨ 36 ≤ j) → vle u3 (wy i) g (nI (tkd o c9 kd g ag)) j = v j := fun j hj => (vle_o hg10 (by omega)).trans (a3 j hj)
    have g4 : gwf S0 S4 x := g3.trans ⟨f4.1, fun z z1 z2 z3 => o4 z (by omega) (by omega) (by omega), fun j _ => by rw [o4 (x + 94) (by omega) (by omega) (by omega)]⟩
    generalize vle u3 (wy i) g (nI (tkd o c9 kd g ag)) = u4 at h4 r4 a4
    obtain ⟨wi, hwi, ewi⟩ := r4.wi
    refine c_X11_can h4 r4 hwi ewi ⟨fun _ => ?_, fun _ => ?_⟩
    · rw [nI_1]
      exact ih (i + 1) u4 _ S4 (by omega) g4 h4 r4 a4
    · have m4 := h4.1
      have i5 : vp_in 5 (jl S4 (x + 107)) := by rw [m4.r13.2.2]; exact jin_nI (n := 5) (by omega) (by omega)
      have j5 := (h4.at (i := 5) 5 rfl (by omega)).1
      have i0 : vp_in 0 (jl S4 (x + 108)) := by rw [m4.r14.2.2]; exact jin_nI (n := 0) (by omega) (by omega)
      have fin : ∀ a b c : Int32, Q (nI i) (jput (jput (jput S4 (x + 94) 15 a) (x + 94) 16 b) (x + 94) 17 c) := fun a b c =>
        hq i i4 _ u4 (((g4.trans (gwf.fld (by omega) (by omega))).trans (gwf.fld (by omega) (by omega))).trans (gwf.fld (by omega) (by omega))) ((h4.fld).fld).fld (fun j hj => a4 j (by omega))
      exact ⟨m4.1, _, m4.r13.1, m4.r13.2.1, i5, _, h4.r, h4.k1, j5, fun _ => ⟨_, m4.r14.1, m4.r14.2.1, i0, fin _ _ _⟩, fun _ => ⟨fun _ => ⟨_, m4.r14.1, m4.r14.2.1, i0, fin _ _ _⟩, fun _ => ⟨fun _ => ⟨fun _ => ⟨_, m4.r14.1, m4.r14.2.1, i0, fin _ _ _⟩, fun _ => ⟨fun _ => ⟨_, m4.r14.1, m4.r14.2.1, i0, fun _ => fin _ _ _, fun _ => fin _ _ _⟩, fun _ => fin _ _ _⟩⟩, fun _ => fin _ _ _⟩⟩⟩
end jSoon2
end
section
/-! SOONEST: both come to an end, and leave the two sides alike -/
/-- a row of ways as one number: it grows from way to way -/
def wval (wy : Nat → Nat) : Nat := wy 0 * 1000 + wy 1 * 100 + wy 2 * 10 + wy 3
set_option maxRecDepth 100000 in
theorem wv_c1 {N a b c d n : Nat} (h : N ≤ a * 1000 + b * 100 + c * 10 + d + n) (hb : b ≤ 9) : N ≤ (a + 1) * 1000 + 0 * 100 + c * 10 + d + n := by
  have e : (a + 1) * 1000 = a * 1000 + 1000 := Nat.succ_mul a 1000
  rw [e]; simp only [Nat.zero_mul]
  omega
set_option maxRecDepth 100000 in
theorem wv_c2 {N a b c d n : Nat} (h : N ≤ a * 1000 + b * 100 + c * 10 + d + n) (hb : c ≤ 9) : N ≤ a * 1000 + (b + 1) * 100 + 0 * 10 + d + n := by
  have e : (b + 1) * 100 = b * 100 + 100 := Nat.succ_mul b 100
  rw [e]; simp only [Nat.zero_mul]
  omega
set_option maxRecDepth 100000 in
theorem wv_c3 {N a b c d n : Nat} (h : N ≤ a * 1000 + b * 100 + c * 10 + d + n) (hb : d ≤ 9) : N ≤ a * 1000 + b * 100 + (c + 1) * 10 + 0 + n := by
  have e : (c + 1) * 10 = c * 10 + 10 := Nat.succ_mul c 10
  rw [e]
  omega
set_option maxRecDepth 100000 in
theorem wv_0 {N a b c d n : Nat} (h : N ≤ a * 1000 + b * 100 + c * 10 + d + (n + 1)) (hb : b ≤ 8) (hc : c ≤ 8) (hd : d ≤ 8) : N ≤ (a + 1) * 1000 + 0 * 100 + 0 * 10 + 0 + n := by
  have e : (a + 1) * 1000 = a * 1000 + 1000 := Nat.succ_mul a 1000
  rw [e]; simp only [Nat.zero_mul]
  omega
set_option maxRecDepth 100000 in
theorem wv_1 {N a b c d n : Nat} (h : N ≤ a * 1000 + b * 100 + c * 10 + d + (n + 1)) (hc : c ≤ 8) (hd : d ≤ 8) : N ≤ a * 1000 + (b + 1) * 100 + 0 * 10 + 0 + n := by
  have e : (b + 1) * 100 = b * 100 + 100 := Nat.succ_mul b 100
  rw [e]; simp only [Nat.zero_mul]
  omega
set_option maxRecDepth 100000 in
theorem wv_2 {N a b c d n : Nat} (h : N ≤ a * 1000 + b * 100 + c * 10 + d + (n + 1)) (hd : d ≤ 8) : N ≤ a * 1000 + b * 100 + (c + 1) * 10 + 0 + n := by
  have e : (c + 1) * 10 = c * 10 + 10 := Nat.succ_mul c 10
  rw [e]
  omega
set_option maxRecDepth 100000 in
theorem wv_3 {N a b c d n : Nat} (h : N ≤ a * 1000 + b * 100 + c * 10 + d + (n + 1)) : N ≤ a * 1000 + b * 100 + c * 10 + (d + 1) + n := by omega
section jSoon3
variable {E : jEnv} {d : Nat} {S S' : jM} {x sz M : Nat} {v : Nat → Int32}
def updN (f : Nat → Nat) (n w : Nat) : Nat → Nat := fun j => if j = n then w else f j
theorem updN_at (f : Nat → Nat) (n w : Nat) : updN f n w n = w := by unfold updN; rw [if_pos rfl]
theorem updN_ne (f : Nat → Nat) {n j : Nat} (w : Nat) (h : j ≠ n) : updN f n w j = f j := by unfold updN; rw [if_neg h]
/-- what holds on the reference's side between two ways -/
def WY (S S1 : jM) (x : Nat) (v : Nat → Int32) (wy : Nat → Nat) : Prop := gsf S S1 x ∧ MR S1 (x + 94) v ∧ (∀ j, j < 135 → ji S1 (x + 107) j = v j) ∧ ∀ i, i < 4 → ji S1 (x + 108) i = nI (wy i)
theorem WY.put {S1 : jM} {wy : Nat → Nat} {i w : Nat} (h : WY S S1 x v wy) (hi : i < 4) : WY S (jput S1 (x + 108) i (nI w)) x v (updN wy i w) := by
  obtain ⟨h1, h2, h3, h4⟩ := h
  have c : jch S1 (jput S1 (x + 108) i (nI w)) (x + 108) (x + 109) := jch.put (by omega) (by omega)
  refine ⟨h1.trans (gsf.way (jch.put (by omega) (by omega))), h2.keep c (by omega), fun j hj => by rw [c.2 _ (by omega)]; exact h3 j hj, fun j hj => ?_⟩
  rw [ji_put]
  by_cases e : j = i
  · rw [if_pos ⟨rfl, e⟩, e, updN_at]
  · rw [if_neg (fun q => e q.2), updN_ne _ _ e]; exact h4 j hj
theorem WY.cong {S1 : jM} {wy wy' : Nat → Nat} (h : WY S S1 x v wy) (he : ∀ i, i < 4 → wy' i = wy i) : WY S S1 x v wy' := ⟨h.1, h.2.1, h.2.2.1, fun i hi => by rw [he i hi]; exact h.2.2.2 i hi⟩
theorem c_X11_findSoonest {Q : jM → Prop} (hM : MR S (x + 94) v) (hg : Rg sz v) (hT : TXS S x (x + 20) M v) (hv0 : v 0 = nI sz) (hz : sz ≤ 9) (hq : ∀ S', gsf S S' x → MR S' (x + 94) v → Q S') : jFv E mX11_findSoonest (d + 5) 0 0 [.ref (x + 94)] S Q := by
  have main : ∀ (n : Nat) (S1 : jM) (wy : Nat → Nat), 10000 ≤ wval wy + n → WY S S1 x v wy → wy 0 ≤ sz → (∀ j, 1 ≤ j → j < 4 → wy j < sz ∨ wy j = 0) → L_X11_findSoonest_33 E (d + 4) Q (x + 94) S1 := by
    intro n
    induction n with
    | zero =>
      intro S1 wy hn h1 h0 hd
      exfalso
      unfold wval at hn
      have := hd 1 (by omega) (by omega)
      have := hd 2 (by omega) (by omega)
      have := hd 3 (by omega) (by omega)
      omega
    | succ n ih =>
      intro S1 wy hn h1 h0 hd
      obtain ⟨g1, m1, cl1, w1⟩ := id h1
      have i0 := m1.at (i := 0) 0 rfl (by omega)
      have l1 := m1.1
      have j0 : vp_in 0 (jl S1 (x + 108)) := by rw [l1.r14.2.2]; exact jin_nI (n := 0) (by omega) (by omega)
      refine T_X11_findSoonest_33 ⟨m1.k, _, m1.r, m1.k1, i0.1, ?_⟩
      rw [i0.2, hv0]
      refine ⟨fun _ => hq S1 g1 m1, fun c0 => ⟨_, l1.r14.1, l1.r14.2.1, j0, ?_⟩⟩
      have s0 : 0 < sz := by
        rcases Nat.eq_zero_or_pos sz with e | e
        · rw [e] at c0; exact absurd (by decide) c0
        · exact e
      have ej0 : ji S1 (x + 108) (Int32.toNatClampNeg 0) = nI (wy 0) := w1 0 (by omega)
      rw [ej0]
      refine ⟨fun _ => hq S1 g1 m1, fun c1 => T_X11_goesWay ?_⟩
      have hlt : wy 0 < sz := by
        rcases Nat.lt_or_ge (wy 0) sz with q | q
        · exact q
        · exact absurd (nI_le q (by omega)) c1
      have hall : ∀ j, j < 4 → wy j < sz := fun j hj => by
        rcases Nat.eq_zero_or_pos j with e | e
        · rw [e]; exact hlt
        · rcases hd j e hj with q | q
          · exact q
          · rw [q]; exact s0
      have hT1 : TXS S1 x (x + 20) M v := hT.same g1.1 (fun y p _ => g1.2.1 y (by omega) (by omega) (by omega) (by omega)) (fun _ _ _ => rfl)
      -- the carry
      have carry : ∀ (i : Nat) (S2 : jM) (wz : Nat → Nat), i < 4 → WY S S2 x v wz → (∀ j, j < i → wz j < sz) → (∀ j, i < j → j < 4 → wz j < sz) → wz i ≤ sz → 10000 ≤ wval wz + n → L_X11_findSoonest_100 E (d + 4) Q (x + 94) (nI i) S2 := by
        intro i
        induction i with
        | zero =>
          intro S2 wz _ h2 _ b2 b3 b4
          exact T_X11_findSoonest_100 ⟨fun _ => ih S2 wz b4 h2 b3 (fun j p q => Or.inl (b2 j (by omega) q)), fun cc => absurd (by decide) cc⟩
        | succ i ihi =>
          intro S2 wz hi4 h2 b1 b2 b3 b4
          obtain ⟨g2, m2, cl2, w2⟩ := id h2
          have l2 := m2.1
          have k0 := m2.at (i := 0) 0 rfl (by omega)
          have e1 : nI (i + 1) - 1 = nI i := nI_pred i
          have e2 : nI (i + 1) + (-1) = nI i := by rw [← nI_pred i]; exact (Int32.sub_eq_add_neg _ _).symm
          refine T_X11_findSoonest_100 ⟨fun cc => absurd cc (nI_ge (a := 0) (b := i + 1) (by omega) (by omega)), fun _ => ⟨m2.k, _, l2.r14.1, l2.r14.2.1, by rw [l2.r14.2.2]; exact jin_nI hi4 (by omega), _, m2.r, m2.k1, k0.1, ?_⟩⟩
          rw [jcl (n := i + 1) (by omega), w2 (i + 1) hi4, k0.2, hv0]
          refine ⟨fun ce => ⟨by rw [e1, l2.r14.2.2]; exact jin_nI (by omega) (by omega), ?_⟩, fun ce => ?_⟩
          · have ez : wz (i + 1) = sz := nI_inj (by omega) (by omega) ce
            rw [e1, e2, jcl (n := i) (by omega), ji_put, if_neg (by omega), w2 i (by omega), nI_1]
            have h3 := (h2.put (i := i + 1) (w := 0) hi4).put (i := i) (w := wz i + 1) (by omega)
            have bi := b1 i (by omega)
            refine ihi _ _ (by omega) h3 (fun j hj => ?_) (fun j p q => ?_) ?_ ?_
            · rw [updN_ne _ _ (by omega), updN_ne _ _ (by omega)]; exact b1 j (by omega)
            · rw [updN_ne _ _ (by omega)]
              by_cases ej : j = i + 1
              · rw [ej, updN_at]; omega
              · rw [updN_ne _ _ ej]; exact b2 j (by omega) q
            · rw [updN_at]; omega
            · have hi3 : i = 0 ∨ i = 1 ∨ i = 2 := by omega
              unfold wval at b4 ⊢
              rcases hi3 with rfl | rfl | rfl
              · rw [updN_at, updN_ne _ _ (by omega), updN_at, updN_ne _ _ (by omega), updN_ne _ _ (by omega), updN_ne _ _ (by omega), updN_ne _ _ (by omega)]
                have ez1 : wz 1 = sz := ez
                exact wv_c1 b4 (by omega)
              · rw [updN_ne _ _ (by omega), updN_ne _ _ (by omega), updN_at, updN_ne _ _ (by omega), updN_at, updN_ne _ _ (by omega), updN_ne _ _ (by omega)]
                have ez1 : wz 2 = sz := ez
                exact wv_c2 b4 (by omega)
              · rw [updN_ne _ _ (by omega), updN_ne _ _ (by omega), updN_ne _ _ (by omega), updN_ne _ _ (by omega), updN_at, updN_ne _ _ (by omega), updN_at]
                have ez1 : wz 3 = sz := ez
                exact wv_c3 b4 (by omega)
          · have hne : wz (i + 1) < sz := by
              rcases Nat.lt_or_ge (wz (i + 1)) sz with q | q
              · exact q
              · exact absurd (by rw [show wz (i + 1) = sz by omega]) ce
            refine ih S2 wz b4 h2 (Nat.le_of_lt (b1 0 (by omega))) (fun j p q => Or.inl ?_)
            rcases Nat.lt_trichotomy j (i + 1) with t | t | t
            · exact b1 j t
            · rw [t]; exact hne
            · exact b2 j t q
      -- zeros behind
      have zeros : ∀ (c i a : Nat) (S2 : jM) (wz : Nat → Nat), i + c = 4 → a < i → WY S S2 x v wz → (∀ S3 wu, WY S S3 x v wu → (∀ j, j < i → wu j = wz j) → (∀ j, i ≤ j → j < 4 → wu j = 0) → L_X11_findSoonest_100 E (d + 4) Q (x + 94) (nI a) S3) → L_X11_findSoonest_80 E (d + 4) Q (x + 94) (nI a) (nI i) S2 := by
        intro c
        induction c with
        | zero =>
          intro i a S2 wz hi ha h2 k
          obtain rfl : i = 4 := by omega
          exact T_X11_findSoonest_80 ⟨fun _ => k S2 wz h2 (fun _ _ => rfl) (fun j p q => absurd p (by omega)), fun cc => absurd (by decide) cc⟩
        | succ c ihc =>
          intro i a S2 wz hi ha h2 k
          have l2 := h2.2.1.1
          refine T_X11_findSoonest_80 ⟨fun cc => absurd cc (nI_ge (b := 4) (by omega) (by omega)), fun _ => ⟨l2.1, _, l2.r14.1, l2.r14.2.1, by rw [l2.r14.2.2]; exact jin_nI (by omega) (by omega), ?_⟩⟩
          rw [nI_1, jcl (by omega)]
          refine ihc (i + 1) a _ _ (by omega) (by omega) (h2.put (i := i) (w := 0) (by omega)) (fun S3 wu h3 p q => k S3 wu h3 (fun j hj => ?_) (fun j p1 q1 => ?_))
          · rw [p j (by omega), updN_ne _ _ (by omega)]
          · by_cases e : j = i
            · rw [e, p i (by omega), updN_at]
            · exact q j (by omega) q1
      refine l_X11_goesWay (S0 := S1) (wy := wy) hT1 hv0 hz (fun i hi => ⟨hall i hi, w1 i hi⟩) (fun a ha S2 u g2 h2 a2 => ⟨h2.k, ?_⟩) 4 0 v 0 S1 (by omega) gwf.rfl m1 hg (fun _ _ => rfl)
      have o107 : ji S2 (x + 107) = ji S1 (x + 107) := g2.2.1 _ (by omega) (by omega) (by omega)
      have o108 : ji S2 (x + 108) = ji S1 (x + 108) := g2.2.1 _ (by omega) (by omega) (by omega)
      refine c_X11_laysBack (v := v) h2 (fun j hj => ?_) (fun S3 c3 h3 => ?_)
      · show ji S2 (x + 94 + 13) j = v j
        rw [show x + 94 + 13 = x + 107 by omega, o107]; exact cl1 j hj
      have h3' : MR S3 (x + 94) v := ⟨h3.1, fun j => (h3.2 j).trans (by
        show (if j < 135 then v j else u j) = v j
        by_cases hj : j < 135
        · rw [if_pos hj]
        · rw [if_neg hj]; exact a2 j (by omega))⟩
      have l3 := h3.1
      have o3 : ji S3 (x + 108) = ji S1 (x + 108) := (c3.2 _ (by omega)).trans o108
      have y3 : WY S S3 x v wy := ⟨g1.trans ((g2.trans (gwf.row c3)).sf), h3', fun j hj => by rw [c3.2 _ (by omega), o107]; exact cl1 j hj, fun i hi => by rw [o3]; exact w1 i hi⟩
      refine ⟨l3.1, _, l3.r14.1, l3.r14.2.1, by rw [l3.r14.2.2]; exact jin_nI ha (by omega), ?_⟩
      rw [jcl (by omega), y3.2.2.2 a ha, nI_1, nI_1]
      have y4 := y3.put (i := a) (w := wy a + 1) ha
      refine zeros (4 - (a + 1)) (a + 1) a _ _ (by omega) (by omega) y4 (fun S5 wu h5 p q => ?_)
      have ea : wu a = wy a + 1 := by rw [p a (by omega), updN_at]
      have eb : ∀ j, j < a → wu j = wy j := fun j hj => by rw [p j (by omega), updN_ne _ _ (by omega)]
      have ha' := hall a ha
      refine carry a S5 wu ha h5 (fun j hj => by rw [eb j hj]; exact hall j (by omega)) (fun j p1 q1 => by rw [q j (by omega) q1]; exact s0) (by omega) ?_
      have q0 := hall 0 (by omega)
      have q1 := hall 1 (by omega)
      have q2 := hall 2 (by omega)
      have q3 := hall 3 (by omega)
      unfold wval at hn ⊢
      have hac : a = 0 ∨ a = 1 ∨ a = 2 ∨ a = 3 := by omega
      rcases hac with rfl | rfl | rfl | rfl
      · rw [ea, q 1 (by omega) (by omega), q 2 (by omega) (by omega), q 3 (by omega) (by omega)]; exact wv_0 hn (by omega) (by omega) (by omega)
      · rw [ea, eb 0 (by omega), q 2 (by omega) (by omega), q 3 (by omega) (by omega)]; exact wv_1 hn (by omega) (by omega)
      · rw [ea, eb 0 (by omega), eb 1 (by omega), q 3 (by omega) (by omega)]; exact wv_2 hn (by omega)
      · rw [ea, eb 0 (by omega), eb 1 (by omega), eb 2 (by omega)]; exact wv_3 hn
  -- the start
  have start : ∀ (c i : Nat) (S1 : jM), i + c = 4 → gsf S S1 x → MR S1 (x + 94) v → (∀ j, j < 135 → ji S1 (x + 107) j = v j) → (∀ j, j < i → ji S1 (x + 108) j = 0) → L_X11_findSoonest_15 E (d + 4) Q (x + 94) (nI i) S1 := by
    intro c
    induction c with
    | zero =>
      intro i S1 hi g1 m1 cl1 w1
      obtain rfl : i = 4 := by omega
      refine T_X11_findSoonest_15 ⟨fun _ => main 10000 S1 (fun _ => 0) (by unfold wval; omega) ⟨g1, m1, cl1, fun i hi => w1 i hi⟩ (by omega) (fun j _ _ => Or.inr rfl), fun cc => absurd (by decide) cc⟩
    | succ c ih =>
      intro i S1 hi g1 m1 cl1 w1
      have l1 := m1.1
      refine T_X11_findSoonest_15 ⟨fun cc => absurd cc (nI_ge (b := 4) (by omega) (by omega)), fun _ => ⟨m1.k, _, l1.r14.1, l1.r14.2.1, by rw [l1.r14.2.2]; exact jin_nI (by omega) (by omega), ?_⟩⟩
      rw [nI_1, jcl (by omega)]
      have c1 : jch S1 (jput S1 (x + 108) i 0) (x + 108) (x + 109) := jch.put (by omega) (by omega)
      refine ih (i + 1) _ (by omega) (g1.trans (gsf.way (jch.put (by omega) (by omega)))) (m1.keep c1 (by omega)) (fun j hj => by rw [c1.2 _ (by omega)]; exact cl1 j hj) (fun j hj => ?_)
      rw [ji_put]
      by_cases e : j = i
      · rw [if_pos ⟨rfl, e⟩]
      · rw [if_neg (fun q => e q.2)]; exact w1 j (by omega)
  have g0 : gsf S (jput S (x + 94) 15 (-1)) x := (gwf.fld (by omega) (by omega)).sf
  have h0 : MR (jput S (x + 94) 15 (-1)) (x + 94) v := hM.fld
  refine T_X11_findSoonest ⟨hM.k, c_X11_findFar h0 (fun S1 c1 _ => ?_)⟩
  have h1 := h0.keep c1 (by omega)
  refine ⟨h1.k, c_X11_laysBy h1 (fun S2 c2 h2 r2 => ?_)⟩
  exact start 4 0 S2 (by omega) ((g0.trans (gsf.way ⟨c1.1, fun y hy => c1.2 y (by omega)⟩)).trans (gsf.way ⟨c2.1, fun y hy => c2.2 y (by omega)⟩)) h2 (fun j hj => r2 j hj) (fun j hj => absurd hj (Nat.not_lt_zero _))
theorem IV.sf (h : IV S x sz M v) (g : gsf S S' x) (hM : MR S' (x + 94) v) : INV S' x M := by
  obtain ⟨⟨hX, hM0, hg⟩, hC, hGL, hjn, hT, hI, hS, hSl, hW, hTp⟩ := id h
  have o : ∀ y, (y < x + 94 ∨ (x + 96 ≤ y ∧ y < x + 106) ∨ y = x + 109 ∨ x + 112 ≤ y) → ji S' y = ji S y := fun y hy => g.2.1 y (by omega) (by omega) (by omega) (by omega)
  have o95 : ji S' (x + 95) = ji S (x + 95) := funext (fun j => (hM.2 j).trans (hM0.2 j).symm)
  refine h.rst g.1 (fun y hy => ?_) ⟨hI.keep g.1 (by rw [o x (by omega)]) (g.2.2 3 (by omega)) (fun y hy => o y (by omega)), hS.keep (fun y hy => o y (by omega)), hSl.keep (fun y hy => o y (by omega)), hW.keep (by rw [o x (by omega)]) (g.2.2 34 (by omega)) (o _ (by omega)) (o _ (by omega)), hTp.keep (by rw [o (x + 60) (by omega)]) (g.2.2 19 (by omega)) (o _ (by omega)) (o _ (by omega))⟩
  by_cases e : y = x + 95
  · rw [e]; exact o95
  · exact o y (by omega)
theorem c_X5_finds {Q : Int32 → jM → Prop} (h : IV S x sz M v) (hq : ∀ r S', jse S S' x → Q r S') : jFi E mX5_finds (d + 17) 0 0 [.ref (x + 52), .ref (x + 1)] S Q := by
  have put : ∀ {S0 : jM} {y j : Nat} {w : Int32}, jse S S0 x → x + 52 ≤ y → y < x + 60 → jse S (jput S0 y j w) x := fun p a b => p.trans (jse.put a b)
  have wish : ∀ (S1 : jM) (Q' : Int32 → jM → Prop), jse S S1 x → (∀ r, Q' r S1) → jFi E mX3_wishedSet (d + 16) 0 0 [.ref (x + 1)] S1 Q' := by
    intro S1 Q' p1 q
    have hR := (h.se p1).1.1.2.2
    have key : ∀ (n i : Nat) (y : Int32), i + n = 6 → L_X3_wishedSet_4 E (d + 16) Q' (x + 1) y (nI i) S1 := by
      intro n
      induction n with
      | zero =>
        intro i y hi
        obtain rfl : i = 6 := by omega
        exact T_X3_wishedSet_4 ⟨hR.1.1, fun _ => q _, fun _ => ⟨fun _ => q _, fun cc => absurd (by decide) cc⟩⟩
      | succ n ih =>
        intro i y hi
        refine T_X3_wishedSet_4 ⟨hR.1.1, fun _ => q _, fun _ => ⟨fun _ => q _, fun _ => ⟨_, hR.1.2.2.2.2.1, hR.1.2.2.2.2.2.2.1, ?_, ?_⟩⟩⟩
        · rw [hR.1.2.2.2.2.2.2.2.1]; exact jin_nI (by omega) (by omega)
        · rw [nI_1]; exact ih (i + 1) _ (by omega)
    exact T_X3_wishedSet (key 6 0 0 (by omega))
  have hs := h.2.1.2.2.1
  have hX := h.1.1
  have l63 : ∀ (n i : Nat) (S1 : jM), i + n = 10 → jse S S1 x → L_X5_finds_63 E (d + 16) Q (x + 52) (x + 1) (nI i) S1 := by
    intro n
    induction n with
    | zero =>
      intro i S1 hi p1
      obtain rfl : i = 10 := by omega
      have h1 := h.se p1
      have s1 := h1.2.1.2.2.1
      have X1 := h1.1.1
      have in0 : ∀ k, k < 5 → vp_in 0 (jl S1 (x + 52 + 1 + k)) := fun k hk => by rw [s1.2.2.1 k hk]; exact jin_nI (n := 0) (by omega) (by omega)
      refine T_X5_finds_63 ⟨fun _ => ⟨s1.1, _, (s1.2.1 0 (by omega)).1, X1.k3, _, X1.r2, X1.l.1.1, (s1.2.1 0 (by omega)).2, in0 0 (by omega), _, (s1.2.1 1 (by omega)).1, (s1.2.1 1 (by omega)).2, in0 1 (by omega), _, (s1.2.1 2 (by omega)).1, (s1.2.1 2 (by omega)).2, in0 2 (by omega), _, (s1.2.1 3 (by omega)).1, (s1.2.1 3 (by omega)).2, in0 3 (by omega), _, (s1.2.1 4 (by omega)).1, (s1.2.1 4 (by omega)).2, in0 4 (by omega), ?_⟩, fun cc => absurd (by decide) cc⟩
      have p2 := put (put (put (put (put p1 (y := x + 52 + 1 + 0) (j := Int32.toNatClampNeg 0) (w := ji S1 (x + 16) 0) (by omega) (by omega)) (y := x + 52 + 1 + 1) (j := Int32.toNatClampNeg 0) (w := ji S1 (x + 16) 1) (by omega) (by omega)) (y := x + 52 + 1 + 2) (j := Int32.toNatClampNeg 0) (w := 0) (by omega) (by omega)) (y := x + 52 + 1 + 3) (j := Int32.toNatClampNeg 0) (w := 0) (by omega) (by omega)) (y := x + 52 + 1 + 4) (j := Int32.toNatClampNeg 0) (w := -1000000005) (by omega) (by omega)
      refine c_X5_goOn 5 0 (d + 16) _ _ (by omega) (by omega) (h.se p2) (fun S3 p3 => ?_)
      have p23 := p2.trans p3
      exact ⟨(h.se p23).2.1.2.2.1.1, fun _ => hq _ S3 p23, fun _ => hq _ S3 p23⟩
    | succ n ih =>
      intro i S1 hi p1
      have h1 := h.se p1
      have s1 := h1.2.1.2.2.1
      have X1 := h1.1.1
      refine T_X5_finds_63 ⟨fun cc => absurd cc (nI_ge (b := 10) (by omega) (by omega)), fun _ => ⟨s1.1, _, (s1.2.1 5 (by omega)).1, X1.k3, _, X1.r2, X1.l.1.1, _, X1.l.1.2.2.1, X1.l.1.2.2.2.2.2.1, ?_, (s1.2.1 5 (by omega)).2, ?_, ?_⟩⟩
      · rw [X1.l.1.2.2.2.2.2.2]; exact jin_nI (by omega) (by omega)
      · rw [show x + 52 + 1 + 5 = x + 52 + 6 by omega, s1.2.2.2.1]; exact jin_nI (by omega) (by omega)
      · rw [nI_1]; exact ih (i + 1) _ (by omega) (put p1 (by omega) (by omega))
  have l39 : ∀ (n i : Nat) (S1 : jM), i + n = 99 → jse S S1 x → L_X5_finds_39 E (d + 16) Q (x + 52) (x + 1) (nI i) S1 := by
    intro n
    induction n with
    | zero =>
      intro i S1 hi p1
      obtain rfl : i = 99 := by omega
      have s1 := (h.se p1).2.1.2.2.1
      have e99 : jl S1 (x + 52 + 1 + 6) = 99 := s1.2.2.2.2
      refine T_X5_finds_39 ⟨s1.1, _, (s1.2.1 6 (by omega)).1, (s1.2.1 6 (by omega)).2, ?_⟩
      rw [e99]
      exact ⟨fun _ => l63 10 0 S1 (by omega) p1, fun cc => absurd Int32.le_rfl cc⟩
    | succ n ih =>
      intro i S1 hi p1
      have s1 := (h.se p1).2.1.2.2.1
      have e99 : jl S1 (x + 52 + 1 + 6) = 99 := s1.2.2.2.2
      refine T_X5_finds_39 ⟨s1.1, _, (s1.2.1 6 (by omega)).1, (s1.2.1 6 (by omega)).2, ?_⟩
      rw [e99]
      refine ⟨fun cc => absurd cc (nI_ge (by omega) (by omega)), fun _ => ⟨jin_nI (by omega) (by omega), ?_⟩⟩
      rw [nI_1]; exact ih (i + 1) _ (by omega) (put p1 (by omega) (by omega))
  refine T_X5_finds ⟨hs.1, hX.k3, ?_⟩
  have p3 := put (put (put (jse.rfl (S := S) (x := x)) (y := x + 52) (j := 9) (w := 1000000000) (by omega) (by omega)) (y := x + 52) (j := 10) (w := 1000000000) (by omega) (by omega)) (y := x + 52) (j := 11) (w := 1000000000) (by omega) (by omega)
  refine wish _ _ p3 (fun r => ⟨hs.1, hX.k3, _, hX.r0, hX.g.1.1, ?_⟩)
  have p4 := put p3 (y := x + 52) (j := 7) (w := r) (by omega) (by omega)
  exact c_X0_taught (h.se p4).1.1.g hX.sz9 ⟨hs.1, l39 99 0 _ (by omega) (put p4 (by omega) (by omega))⟩
theorem Q_soonest {w : Int32} (h : IV S x sz M v) : jFi E mX10_soonest (d + 18) 0 0 [.ref x, .int w] S (fun _ S1 => jFm E mX11_soonest (d + 6) (x + 94) [.int w] S1 (fun _ S2 => INV S2 x M)) := by
  have ref : ∀ S1, jse S S1 x → jFm E mX11_soonest (d + 6) (x + 94) [.int w] S1 (fun _ S2 => INV S2 x M) := by
    intro S1 p1
    have h1 := h.se p1
    obtain ⟨⟨hX, hM, hg⟩, hC, hGL, hjn, hT, -⟩ := id h1
    obtain ⟨wi, hwi, ewi⟩ := hg.wi
    refine U_X11_soonest hM.k ⟨fun _ => h1.inv, fun _ => ⟨hM.k, c_X11_can hM hg hwi ewi ⟨fun _ => ⟨hM.k, ?_⟩, fun _ => ⟨fun _ => h1.inv, fun _ => h1.inv⟩⟩⟩⟩
    refine c_X11_findSoonest hM hg hT hX.v0 hX.sz9 (fun S2 g2 h2 => ?_)
    have v2 := h1.sf g2 h2
    exact ⟨h2.k, fun _ => ⟨fun _ => v2, fun _ => ⟨fun _ => v2, fun _ => v2⟩⟩, fun _ => v2⟩
  have hC := h.2.1
  refine T_X10_soonest ⟨fun _ => ref S jse.rfl, fun _ => ⟨hC.1, _, hC.2.1.2.2.2.1, _, h.1.1.2.1, hC.2.2.1.1, c_X5_finds h (fun r S1 p1 => ⟨fun _ => ref S1 p1, fun _ => ?_⟩)⟩⟩
  have c1 := (h.se p1).2.1
  exact ⟨fun _ => ⟨c1.1, _, c1.2.1.2.2.2.1, c1.2.2.1.1, ref S1 p1⟩, fun _ => ⟨c1.1, _, c1.2.1.2.2.2.1, c1.2.2.1.1, ref S1 p1⟩, fun _ _ => ⟨c1.1, _, c1.2.1.2.2.2.1, c1.2.2.1.1, ref S1 p1⟩⟩
end jSoon3
end
section
/-! THE SIX WORDS: rules for Strings that the program names, and what their methods answer -/
def sL (i : Nat) : Nat := ([4, 4, 4, 3, 2, 2] : List Nat).getD i 0
def sB (i j : Nat) : Int32 := (([[116, 101, 114, 109], [102, 97, 109, 101], [102, 105, 110, 101], [107, 103, 97], [102, 97], [99, 100]] : List (List Int32)).getD i []).getD j 0
section jStr2
variable {E : jEnv} {M M' : jMd} {R : Room} {Z : jZ} {pc : Nat} {lv lv1 : List (Nat × Value)} {st : List Value} {S : jM} {c k : Nat} {d mc ms n index : Nat} {As : List Value}
theorem jx_i2b {x : Int32} (hd : decode M.2.1 pc = .ok (.i2b, 1)) (h : jX E M R Z (pc + 1) lv (.int x.toInt8.toInt32 :: st) S c k) : jX E M R Z pc lv (.int x :: st) S c k := fun p e s m args below meth c0 hB H locs ls hV hS hl => lv_i2b hB.1 hB.2.1 hd rfl (h p e s m args below meth c0 hB H locs ls hV hS hl)
theorem jx_strC {i : Nat} (hM : M.1.cls = RJ0) (hi : i < 6) (hd : decode M.2.1 pc = .ok (.getfield 15, 3)) (h : jX E M R Z (pc + 3) lv (.int 0 :: st) S c k) : jX E M R Z pc lv (.ref (eK E i) :: st) S c k := by
  intro p e s m args below meth c0 hB H locs ls hV hS hl
  obtain ⟨-, -, -, -, h5, -⟩ := hB.hG
  obtain ⟨q1, q2, q3⟩ := hB.hq
  have h6 := (h5.1 i hi).2.1
  exact vk_getf (own := RJ0) (ref := RJ0) (index := 15) hB.hx hB.hb (h6.kept (fun a h9 h8 => q1 a (Nat.not_le.mp h8))) hS (by rw [← hM]; exact hB.hown) (hB.hts _ jwF_J0_15) (fun _ h9 => h9) hd (h p e s m args below meth c0 hB H locs ls hV hS hl)
theorem jx_strV {i : Nat} (hM : M.1.cls = RJ0) (hi : i < 6) (hd : decode M.2.1 pc = .ok (.getfield 9, 3)) (h : jX E M R Z (pc + 3) lv (.ref (eV E i) :: st) S c k) : jX E M R Z pc lv (.ref (eK E i) :: st) S c k := by
  intro p e s m args below meth c0 hB H locs ls hV hS hl
  obtain ⟨-, -, -, -, h5, -⟩ := hB.hG
  obtain ⟨q1, q2, q3⟩ := hB.hq
  have h6 := (h5.1 i hi).2.2.1
  exact vk_getf (own := RJ0) (ref := RJ0) (index := 9) hB.hx hB.hb (h6.kept (fun a h9 h8 => q1 a (Nat.not_le.mp h8))) hS (by rw [← hM]; exact hB.hown) (hB.hts _ jwF_J0_9) (fun _ h9 => h9) hd (h p e s m args below meth c0 hB H locs ls hV hS hl)
theorem jx_strLen {i : Nat} (hi : i < 6) (hd : decode M.2.1 pc = .ok (.arraylength, 1)) (h : jX E M R Z (pc + 1) lv (.int (nI (sL i)) :: st) S c k) : jX E M R Z pc lv (.ref (eV E i) :: st) S c k := by
  intro p e s m args below meth c0 hB H locs ls hV hS hl
  obtain ⟨-, -, -, -, h5, -⟩ := hB.hG
  obtain ⟨q1, q2, q3⟩ := hB.hq
  have h6 := (h5.1 i hi).2.2.2
  exact va_tlen hB.hx hB.hb (h6.kept (fun a h9 h8 => q1 a (Nat.not_le.mp h8))) hS (v := nI (sL i)) rfl hd (h p e s m args below meth c0 hB H locs ls hV hS hl)
theorem jx_strLd {i j : Nat} (hi : i < 6) (hj : j < sL i) (hd : decode M.2.1 pc = .ok (.baload, 1)) (h : jX E M R Z (pc + 1) lv (.int (sB i j) :: st) S c k) : jX E M R Z pc lv (.int (nI j) :: .ref (eV E i) :: st) S c k := by
  intro p e s m args below meth c0 hB H locs ls hV hS hl
  obtain ⟨-, -, -, -, h5, -⟩ := hB.hG
  obtain ⟨q1, q2, q3⟩ := hB.hq
  have h6 := (h5.1 i hi).2.2.2
  have l4 : ∀ i : Fin 6, sL i.val ≤ 4 := by decide +kernel
  have l5 : sL i ≤ 4 := l4 ⟨i, hi⟩
  have hj4 : j < 4 := Nat.lt_of_lt_of_le hj l5
  have hN : sL i < 2 ^ 31 := Nat.lt_of_le_of_lt l5 (by decide)
  exact va_tb hB.hx hB.hb (h6.kept (fun a h9 h8 => q1 a (Nat.not_le.mp h8))) hS (v := .int (sB i j)) (jin_nI hj hN) (by rw [jcl (by omega)]; rfl) hd (h p e s m args below meth c0 hB H locs ls hV hS hl)
theorem jx_compact (hM : M.1.cls = RJ0) (hd : decode M.2.1 pc = .ok (.getstatic 38, 3)) (h : jX E M R Z (pc + 3) lv (.int 1 :: st) S c k) : jX E M R Z pc lv st S c k := by
  intro p e s m args below meth c0 hB H locs ls hV hS hl
  obtain ⟨-, -, h3, -⟩ := hB.hG
  obtain ⟨q1, q2, q3⟩ := hB.hq
  exact va_gets (own := RJ0) (ref := RJ0) (index := 38) hB.hx hB.hb (h3.kept (fun a h9 h8 => q1 a (Nat.not_le.mp h8))) hS (by rw [← hM]; exact hB.hown) (hB.hts _ jwF_J0_38) (fun _ h9 => h9) hd (h p e s m args below meth c0 hB H locs ls hV hS hl)
theorem jx_sioobe (hM : M.1.cls = RJ0) (hd : decode M.2.1 pc = .ok (.getstatic 1053, 3)) (h : ∀ o : Option Nat, jX E M R Z (pc + 3) lv (va_rf o :: st) S c k) : jX E M R Z pc lv st S c k := by
  intro p e s m args below meth c0 hB H locs ls hV hS hl
  obtain ⟨-, -, -, h4, -⟩ := hB.hG
  obtain ⟨q1, q2, q3⟩ := hB.hq
  rcases h4.kept (fun a h9 h8 => q1 a (Nat.not_le.mp h8)) with h4 | ⟨t, h4⟩
  · exact va_gets (own := RJ0) (ref := RJ3) (index := 1053) hB.hx hB.hb h4 hS (by rw [← hM]; exact hB.hown) (hB.hts _ jwF_J0_1053) (fun _ h9 => h9) hd (h none p e s m args below meth c0 hB H locs ls hV hS hl)
  · exact va_gets (own := RJ0) (ref := RJ3) (index := 1053) hB.hx hB.hb h4 hS (by rw [← hM]; exact hB.hown) (hB.hts _ jwF_J0_1053) (fun _ h9 => h9) hd (h (some t) p e s m args below meth c0 hB H locs ls hV hS hl)
theorem jx_callK {Q' : Option Value → jM → Prop} {i : Nat} (ho : jMo M' n) (hi : i < 6) (hq : RJ0 = M'.1.cls) (w1 : Cond.methodLink M.1.cls index M'.1 ∈ jT) (w2 : Cond.instanceMethod M'.1 ∈ jT) (w3 : Cond.selects M'.1.cls M'.1 M'.1 ∈ jT) (hd : decode M.2.1 pc = .ok (.invokevirtual index, 3)) (hR : jRok R d) (hA : As.length = n) (hs : (st.map fun v => v.category).sum ≤ 8) (hm : c + mc ≤ R.cells ∧ k + ms ≤ R.slots)
    (hF : jF E M' d mc ms (.ref (eK E i) :: As) S Q') (h : ∀ (r : Option Value) (S' : jM), Q' r S' → jX E M R Z (pc + 3) lv (r.toList ++ st) S' (c + mc) (k + ms)) : jX E M R Z pc lv (As.reverse ++ .ref (eK E i) :: st) S c k := by
  intro p e s m args below meth c0 hB H locs ls hV hS hl
  have hx45 := ho.2.2.2.2.2
  have hR1 := hR.1
  have hR2 := hR.2
  obtain ⟨-, -, -, -, h5, -⟩ := hB.hG
  obtain ⟨q1, q2, q3⟩ := hB.hq
  refine jx_cont hB hS (va_runV (g := F0 m pc ls (As.reverse ++ .ref (eK E i) :: st)) (C := M'.1.cls) (Ts := jT) ⟨hB.hx, hB.hb, hB.hml, hB.hown, hB.hts⟩ hF ⟨callB_of n hB.hts (jGood ho) rfl rfl rfl (hB.hts _ ho.2.1) (hB.hts _ w1) ⟨ho.2.2.1, ho.2.2.2.1, ho.2.2.2.2.1⟩ ⟨hR1, by show 8 + (M'.2.2.1 + 11) + 64 * d ≤ R.locals; omega⟩, hB.hts _ w2, hB.hts _ w3⟩ ⟨jPre.blind, by rw [← hq]; exact vk_recv (h5.kept (fun a h9 h8 => q1 a (Nat.not_le.mp h8))) hi hS, fun U hU hW => ⟨rfl, by rw [hU]; exact hV, va_K.moved hW.alike hB.hK, hB.hG.warm hW⟩⟩ rfl hA hl.1 rfl (lv_room hs) hd hm) (fun r S' hq2 H1 locs1 hV1 hS1 => h r S' hq2 p e s m args below meth c0 hB H1 locs1 ls hV1 hS1 hl)
theorem jx_callKi {Q' : Int32 → jM → Prop} {i : Nat} (ho : jMo M' n) (hi : i < 6) (hq : RJ0 = M'.1.cls) (w1 : Cond.methodLink M.1.cls index M'.1 ∈ jT) (w2 : Cond.instanceMethod M'.1 ∈ jT) (w3 : Cond.selects M'.1.cls M'.1 M'.1 ∈ jT) (hd : decode M.2.1 pc = .ok (.invokevirtual index, 3)) (hR : jRok R d) (hA : As.length = n) (hs : (st.map fun v => v.category).sum ≤ 8) (hm : c + mc ≤ R.cells ∧ k + ms ≤ R.slots)
    (hF : jFi E M' d mc ms (.ref (eK E i) :: As) S Q') (h : ∀ (v : Int32) (S' : jM), Q' v S' → jX E M R Z (pc + 3) lv (.int v :: st) S' (c + mc) (k + ms)) : jX E M R Z pc lv (As.reverse ++ .ref (eK E i) :: st) S c k :=
  jx_callK ho hi hq w1 w2 w3 hd hR hA hs hm hF (fun r S' hr => by obtain ⟨v, rfl, h9⟩ := hr; exact h v S' h9)
end jStr2
section jStr3
variable {E : jEnv} {d : Nat} {S : jM} {i : Nat}
theorem c_J0_coder {Q : Int32 → jM → Prop} (hi : i < 6) (h : Q 0 S) : jFi E mJ0_coder_7d493 d 0 0 [.ref (eK E i)] S Q := by
  refine jF_of (by decide) (jle rfl) ?_
  refine jx_lv (lv1 := [(0, .ref (eK E i))]) [0] rfl ?_
  refine jx_compact rfl kd1079.1 ?_
  refine jx_if_eq (tgt := 13) kd1079.2.1 (by decide) (fun c => absurd c (by decide)) (fun _ => ?_)
  refine jx_aload_n 0 kd1079.2.2.1 rfl rfl ?_
  refine jx_strC rfl hi kd1079.2.2.2.1 ?_
  refine jx_goto (tgt := 14) kd1079.2.2.2.2.1 (by decide) ?_
  exact jx_iret kd1079.2.2.2.2.2.2.1 rfl (by decide) (jle rfl) (jle rfl) ⟨_, rfl, h⟩
theorem c_J0_isLatin1 {Q : Int32 → jM → Prop} (hi : i < 6) (h : Q 1 S) : jFi E mJ0_isLatin1_aae02 d 0 0 [.ref (eK E i)] S Q := by
  refine jF_of (by decide) (jle rfl) ?_
  refine jx_lv (lv1 := [(0, .ref (eK E i))]) [0] rfl ?_
  refine jx_compact rfl kd1080.1 ?_
  refine jx_if_eq (tgt := 17) kd1080.2.1 (by decide) (fun c => absurd c (by decide)) (fun _ => ?_)
  refine jx_aload_n 0 kd1080.2.2.1 rfl rfl ?_
  refine jx_strC rfl hi kd1080.2.2.2.1 ?_
  refine jx_if_ne (tgt := 17) kd1080.2.2.2.2.1 (by decide) (fun c => absurd rfl c) (fun _ => ?_)
  refine jx_iconst (v := 1) kd1080.2.2.2.2.2.1 (by decide) ?_
  refine jx_goto (tgt := 18) kd1080.2.2.2.2.2.2.1 (by decide) ?_
  exact jx_iret kd1080.2.2.2.2.2.2.2.2.1 rfl (by decide) (jle rfl) (jle rfl) ⟨_, rfl, h⟩
theorem sL_shr : ∀ i : Fin 6, nI (sL i.val) >>> ((0 : Int32) &&& 31) = nI (sL i.val) := by decide +kernel
theorem c_J0_length {Q : Int32 → jM → Prop} (hi : i < 6) (h : Q (nI (sL i)) S) : jFi E mJ0_length_8abf5 (d + 1) 0 0 [.ref (eK E i)] S Q := by
  refine jF_of (by decide) (jle rfl) ?_
  refine jx_lv (lv1 := [(0, .ref (eK E i))]) [0] rfl ?_
  refine jx_aload_n 0 kd1072.1 rfl rfl ?_
  refine jx_strV rfl hi kd1072.2.1 ?_
  refine jx_strLen hi kd1072.2.2.1 ?_
  refine jx_aload_n 0 kd1072.2.2.2.1 rfl rfl ?_
  refine jx_callKi (M' := mJ0_coder_7d493) (As := []) (Q' := fun r S' => r = 0 ∧ S' = S) jo_J0_coder_7d493 hi rfl jwM_J0_335 jwN_J0_coder_7d493 jwX_J0_coder_7d493 kd1072.2.2.2.2.1 (jRok_m _ _ _) rfl (jle rfl) ⟨jle rfl, jle rfl⟩ (c_J0_coder hi ⟨rfl, rfl⟩) (fun r S' h1 => ?_)
  obtain ⟨rfl, rfl⟩ := h1
  refine jx_ishr kd1072.2.2.2.2.2.1 ?_
  rw [sL_shr ⟨i, hi⟩]
  exact jx_iret kd1072.2.2.2.2.2.2.1 rfl rfl (jle rfl) (jle rfl) ⟨_, rfl, h⟩
theorem c_J3_checkIndex {Q : Int32 → jM → Prop} {o : Option Nat} {x y : Int32} (h0 : ¬ x < 0) (h1 : x < y) (h : Q x S) : jFi E mJ3_checkIndex_8e157 d 0 0 [.int x, .int y, va_rf o] S Q := by
  refine jF_of (by decide) (by cases o <;> exact jle rfl) ?_
  refine jx_lv (lv1 := [(0, .int x), (1, .int y)]) [0, 1] (by cases o <;> rfl) ?_
  refine jx_iload_n 0 kd1091.1 rfl rfl ?_
  refine jx_if_lt (tgt := 9) kd1091.2.1 (by decide) (fun c => absurd c h0) (fun _ => ?_)
  refine jx_iload_n 0 kd1091.2.2.1 rfl rfl ?_
  refine jx_iload_n 1 kd1091.2.2.2.1 rfl rfl ?_
  refine jx_icmp_lt (tgt := 16) kd1091.2.2.2.2.1 (by decide) (fun _ => ?_) (fun c => absurd h1 c)
  refine jx_iload_n 0 kd1092.2.1 rfl rfl ?_
  exact jx_iret kd1092.2.2.1 rfl rfl (jle rfl) (jle rfl) ⟨_, rfl, h⟩
theorem c_J0_checkIndex {Q : jM → Prop} {x y : Int32} (h0 : ¬ x < 0) (h1 : x < y) (h : Q S) : jFv E mJ0_checkIndex_df160 (d + 1) 0 0 [.int x, .int y] S Q := by
  refine jF_of (by decide) (jle rfl) ?_
  refine jx_lv (lv1 := [(0, .int x), (1, .int y)]) [0, 1] rfl ?_
  refine jx_iload_n 0 kd1081.1 rfl rfl ?_
  refine jx_iload_n 1 kd1081.2.1 rfl rfl ?_
  refine jx_sioobe rfl kd1081.2.2.1 (fun o => ?_)
  refine jx_callSi (M' := mJ3_checkIndex_8e157) (As := [.int x, .int y, va_rf o]) (Q' := fun _ S' => S' = S) jo_J3_checkIndex_8e157 jwM_J0_1059 jwS_J3_checkIndex_8e157 kd1081.2.2.2.1 (jRok_m _ _ _) rfl (jle rfl) ⟨jle rfl, jle rfl⟩ (c_J3_checkIndex h0 h1 rfl) (fun r S' e => ?_)
  subst e
  refine jx_pop kd1081.2.2.2.2.1 rfl ?_
  exact jx_vret kd1081.2.2.2.2.2.1 rfl (jle rfl) (jle rfl) ⟨rfl, h⟩
theorem sB_chr : ∀ i : Fin 6, ∀ j : Fin 4, ((sB i.val j.val &&& 255).toUInt32 % 65536).toInt32 = sB i.val j.val ∧ narrow .char (.int (sB i.val j.val)) = .int (sB i.val j.val) := by decide +kernel
theorem sL_4 (hi : i < 6) : sL i ≤ 4 := by
  have l4 : ∀ i : Fin 6, sL i.val ≤ 4 := by decide +kernel
  exact l4 ⟨i, hi⟩
theorem c_J1_charAt {Q : Int32 → jM → Prop} {j : Nat} (hi : i < 6) (hj : j < sL i) (h : Q (sB i j) S) : jFi E mJ1_charAt_3b067 (d + 2) 0 0 [.ref (eV E i), .int (nI j)] S Q := by
  have j4 : j < 4 := Nat.lt_of_lt_of_le hj (sL_4 hi)
  have l4 := sL_4 hi
  refine jF_of (by decide) (jle rfl) ?_
  refine jx_lv (lv1 := [(0, .ref (eV E i)), (1, .int (nI j))]) [0, 1] rfl ?_
  refine jx_iload_n 1 kd1082.1 rfl rfl ?_
  refine jx_aload_n 0 kd1082.2.1 rfl rfl ?_
  refine jx_strLen hi kd1082.2.2.1 ?_
  refine jx_callSv (M' := mJ0_checkIndex_df160) (As := [.int (nI j), .int (nI (sL i))]) (Q' := fun S' => S' = S) jo_J0_checkIndex_df160 jwM_J1_9 jwS_J0_checkIndex_df160 kd1082.2.2.2.1 (jRok_m _ _ _) rfl (jle rfl) ⟨jle rfl, jle rfl⟩ (c_J0_checkIndex (nI_pos (by omega)) (nI_lt hj (by omega)) rfl) (fun S' e => ?_)
  subst e
  refine jx_aload_n 0 kd1082.2.2.2.2.1 rfl rfl ?_
  refine jx_iload_n 1 kd1082.2.2.2.2.2.1 rfl rfl ?_
  refine jx_strLd hi hj kd1082.2.2.2.2.2.2.1 ?_
  refine jx_sipush (v := 255) kd1082.2.2.2.2.2.2.2.1 (by decide) ?_
  refine jx_iand kd1082.2.2.2.2.2.2.2.2.1 ?_
  refine jx_i2c kd1083.1 ?_
  rw [(sB_chr ⟨i, hi⟩ ⟨j, j4⟩).1]
  exact jx_iret kd1083.2.1 rfl (sB_chr ⟨i, hi⟩ ⟨j, j4⟩).2 (jle rfl) (jle rfl) ⟨_, rfl, h⟩
theorem c_J0_charAt {Q : Int32 → jM → Prop} {j : Nat} (hi : i < 6) (hj : j < sL i) (h : Q (sB i j) S) : jFi E mJ0_charAt_5068e (d + 3) 0 0 [.ref (eK E i), .int (nI j)] S Q := by
  have j4 : j < 4 := Nat.lt_of_lt_of_le hj (sL_4 hi)
  refine jF_of (by decide) (jle rfl) ?_
  refine jx_lv (lv1 := [(0, .ref (eK E i)), (1, .int (nI j))]) [0, 1] rfl ?_
  refine jx_aload_n 0 kd1073.1 rfl rfl ?_
  refine jx_callKi (M' := mJ0_isLatin1_aae02) (As := []) (Q' := fun r S' => r = 1 ∧ S' = S) jo_J0_isLatin1_aae02 hi rfl jwM_J0_492 jwN_J0_isLatin1_aae02 jwX_J0_isLatin1_aae02 kd1073.2.1 (jRok_m _ _ _) rfl (jle rfl) ⟨jle rfl, jle rfl⟩ (c_J0_isLatin1 hi ⟨rfl, rfl⟩) (fun r S' h1 => ?_)
  obtain ⟨rfl, rfl⟩ := h1
  refine jx_if_eq (tgt := 16) kd1073.2.2.1 (by decide) (fun c => absurd c (by decide)) (fun _ => ?_)
  refine jx_aload_n 0 kd1073.2.2.2.1 rfl rfl ?_
  refine jx_strV rfl hi kd1073.2.2.2.2.1 ?_
  refine jx_iload_n 1 kd1073.2.2.2.2.2.1 rfl rfl ?_
  refine jx_callSi (M' := mJ1_charAt_3b067) (As := [.ref (eV E i), .int (nI j)]) (Q' := fun r S1 => r = sB i j ∧ S1 = S') jo_J1_charAt_3b067 jwM_J0_495 jwS_J1_charAt_3b067 kd1073.2.2.2.2.2.2.1 (jRok_m _ _ _) rfl (jle rfl) ⟨jle rfl, jle rfl⟩ (c_J1_charAt hi hj ⟨rfl, rfl⟩) (fun r S1 h1 => ?_)
  obtain ⟨rfl, rfl⟩ := h1
  exact jx_iret kd1073.2.2.2.2.2.2.2.1 rfl (sB_chr ⟨i, hi⟩ ⟨j, j4⟩).2 (jle rfl) (jle rfl) ⟨_, rfl, h⟩
/-! indexOf -/
/-- the first place of a byte in a word, from place j on -/
def sIx (i : Nat) (y : Int32) : Nat → Nat → Int32
  | 0, _ => -1
  | n + 1, j => if sB i j = y then nI j else sIx i y n (j + 1)
theorem c_J1_indexOfChar {Q : Int32 → jM → Prop} {y : Int32} (hi : i < 6) (h : Q (sIx i y.toInt8.toInt32 (sL i) 0) S) : jFi E mJ1_indexOfChar_4cfef d 0 0 [.ref (eV E i), .int y, .int 0, .int (nI (sL i))] S Q := by
  have l4 := sL_4 hi
  have loop : ∀ (n j : Nat), j + n = sL i → Q (sIx i y.toInt8.toInt32 n j) S → jX E mJ1_indexOfChar_4cfef (jRm d 0 0) (jZm E (fun r S' => ∃ v : Int32, r = some (.int v) ∧ Q v S') 0 0) 7 [(5, .int (nI j)), (4, .int y.toInt8.toInt32), (0, .ref (eV E i)), (3, .int (nI (sL i)))] [] S 0 0 := by
    intro n
    induction n with
    | zero =>
      intro j hj hq
      obtain rfl : j = sL i := by omega
      refine jx_iload 0 kd1088.2.2.2.2.2.1 rfl ?_
      refine jx_iload_n 3 kd1088.2.2.2.2.2.2.1 rfl rfl ?_
      refine jx_icmp_ge (tgt := 31) kd1088.2.2.2.2.2.2.2.1 (by decide) (fun _ => ?_) (fun c => absurd Int32.le_rfl c)
      refine jx_iconst (v := -1) kd1089.2.2.2.2.2.2.2.2.1 (by decide) ?_
      exact jx_iret kd1090.1 rfl rfl (jle rfl) (jle rfl) ⟨_, rfl, hq⟩
    | succ n ih =>
      intro j hj hq
      refine jx_iload 0 kd1088.2.2.2.2.2.1 rfl ?_
      refine jx_iload_n 3 kd1088.2.2.2.2.2.2.1 rfl rfl ?_
      refine jx_icmp_ge (tgt := 31) kd1088.2.2.2.2.2.2.2.1 (by decide) (fun c => absurd c (nI_ge (by omega) (by omega))) (fun _ => ?_)
      refine jx_aload_n 2 kd1088.2.2.2.2.2.2.2.2.1 rfl rfl ?_
      refine jx_iload 0 kd1089.1 rfl ?_
      refine jx_strLd hi (by omega) kd1089.2.1 ?_
      refine jx_iload 1 kd1089.2.2.1 rfl ?_
      refine jx_icmp_ne (tgt := 25) kd1089.2.2.2.1 (by decide) (fun c => ?_) (fun c => ?_)
      · refine jx_iinc 0 (v := nI (j + 1)) (lv1 := [(5, .int (nI (j + 1))), (4, .int y.toInt8.toInt32), (0, .ref (eV E i)), (3, .int (nI (sL i)))]) kd1089.2.2.2.2.2.2.1 rfl (nI_1 j) (by decide) rfl ?_
        refine jx_goto (tgt := 7) kd1089.2.2.2.2.2.2.2.1 (by decide) ?_
        refine ih (j + 1) (by omega) ?_
        have e : sIx i y.toInt8.toInt32 (n + 1) j = sIx i y.toInt8.toInt32 n (j + 1) := if_neg c
        rw [← e]; exact hq
      · refine jx_iload 0 kd1089.2.2.2.2.1 rfl ?_
        have e : sIx i y.toInt8.toInt32 (n + 1) j = nI j := if_pos c
        rw [e] at hq
        exact jx_iret kd1089.2.2.2.2.2.1 rfl rfl (jle rfl) (jle rfl) ⟨_, rfl, hq⟩
  refine jF_of (by decide) (jle rfl) ?_
  refine jx_lv (lv1 := [(0, .ref (eV E i)), (1, .int y), (2, .int 0), (3, .int (nI (sL i)))]) [0, 1, 2, 3] rfl ?_
  refine jx_iload_n 1 kd1088.1 rfl rfl ?_
  refine jx_i2b kd1088.2.1 ?_
  refine jx_istore (lv1 := [(4, .int y.toInt8.toInt32), (0, .ref (eV E i)), (1, .int y), (2, .int 0), (3, .int (nI (sL i)))]) kd1088.2.2.1 (by decide) rfl ?_
  refine jx_iload_n 3 kd1088.2.2.2.1 rfl rfl ?_
  refine jx_istore (lv1 := [(5, .int 0), (4, .int y.toInt8.toInt32), (0, .ref (eV E i)), (1, .int y), (2, .int 0), (3, .int (nI (sL i)))]) kd1088.2.2.2.2.1 (by decide) rfl ?_
  refine jx_lv (lv1 := [(5, .int (nI 0)), (4, .int y.toInt8.toInt32), (0, .ref (eV E i)), (3, .int (nI (sL i)))]) [0, 1, 2, 5] rfl ?_
  exact loop (sL i) 0 (by omega) h
theorem c_J1_canEncode {Q : Int32 → jM → Prop} {y : Int32} (h0 : ¬ y < 0) (h1 : ¬ 255 < y) (h : Q 1 S) : jFi E mJ1_canEncode_9a6ad d 0 0 [.int y] S Q := by
  refine jF_of (by decide) (jle rfl) ?_
  refine jx_lv (lv1 := [(0, .int y)]) [0] rfl ?_
  refine jx_iload_n 0 kd1084.1 rfl rfl ?_
  refine jx_if_lt (tgt := 15) kd1084.2.1 (by decide) (fun c => absurd c h0) (fun _ => ?_)
  refine jx_iload_n 0 kd1084.2.2.1 rfl rfl ?_
  refine jx_sipush (v := 255) kd1084.2.2.2.1 (by decide) ?_
  refine jx_icmp_gt (tgt := 15) kd1084.2.2.2.2.1 (by decide) (fun c => absurd c h1) (fun _ => ?_)
  refine jx_iconst (v := 1) kd1084.2.2.2.2.2.1 (by decide) ?_
  refine jx_goto (tgt := 16) kd1084.2.2.2.2.2.2.1 (by decide) ?_
  exact jx_iret kd1084.2.2.2.2.2.2.2.2.1 rfl (by decide) (jle rfl) (jle rfl) ⟨_, rfl, h⟩
theorem sL_mn : ∀ i : Fin 6, (if nI (sL i.val) < nI (sL i.val) then nI (sL i.val) else nI (sL i.val)) = nI (sL i.val) ∧ 0 < sL i.val := by decide +kernel
theorem c_J1_indexOf {Q : Int32 → jM → Prop} {y : Int32} (hi : i < 6) (h0 : ¬ y < 0) (h1 : ¬ 255 < y) (h : Q (sIx i y.toInt8.toInt32 (sL i) 0) S) : jFi E mJ1_indexOf_4cfef (d + 1) 0 0 [.ref (eV E i), .int y, .int 0, .int (nI (sL i))] S Q := by
  have l4 := sL_4 hi
  have lp : 0 < sL i := (sL_mn ⟨i, hi⟩).2
  refine jF_of (by decide) (jle rfl) ?_
  refine jx_lv (lv1 := [(0, .ref (eV E i)), (1, .int y), (2, .int 0), (3, .int (nI (sL i)))]) [0, 1, 2, 3] rfl ?_
  refine jx_iload_n 1 kd1085.1 rfl rfl ?_
  refine jx_callSi (M' := mJ1_canEncode_9a6ad) (As := [.int y]) (Q' := fun r S' => r = 1 ∧ S' = S) jo_J1_canEncode_9a6ad jwM_J1_88 jwS_J1_canEncode_9a6ad kd1085.2.1 (jRok_m _ _ _) rfl (jle rfl) ⟨jle rfl, jle rfl⟩ (c_J1_canEncode h0 h1 ⟨rfl, rfl⟩) (fun r S' e => ?_)
  obtain ⟨rfl, rfl⟩ := e
  refine jx_if_ne (tgt := 9) kd1085.2.2.1 (by decide) (fun _ => ?_) (fun c => absurd c (by decide))
  refine jx_iload_n 2 kd1085.2.2.2.2.2.1 rfl rfl ?_
  refine jx_iconst (v := 0) kd1085.2.2.2.2.2.2.1 (by decide) ?_
  refine jx_max jwM_J1_92 jwS_max jwZ_J9 jwO_max kd1085.2.2.2.2.2.2.2.1 (jRok_m _ _ _) (jle rfl) ⟨Nat.zero_le _, Nat.zero_le _⟩ ?_
  refine jx_istore_n (lv1 := [(2, .int 0), (0, .ref (eV E i)), (1, .int y), (3, .int (nI (sL i)))]) kd1085.2.2.2.2.2.2.2.2.1 rfl (by decide) rfl ?_
  refine jx_iload_n 3 kd1086.1 rfl rfl ?_
  refine jx_aload_n 1 kd1086.2.1 rfl rfl ?_
  refine jx_strLen hi kd1086.2.2.1 ?_
  refine jx_min jwM_J1_38 jwS_min jwZ_J9 jwO_min kd1086.2.2.2.1 (jRok_m _ _ _) (jle rfl) ⟨Nat.zero_le _, Nat.zero_le _⟩ ?_
  rw [(sL_mn ⟨i, hi⟩).1]
  refine jx_istore_n (lv1 := [(3, .int (nI (sL i))), (2, .int 0), (0, .ref (eV E i)), (1, .int y)]) kd1086.2.2.2.2.1 rfl (by decide) rfl ?_
  refine jx_iload_n 1 kd1086.2.2.2.2.2.1 rfl rfl ?_
  refine jx_iload_n 0 kd1086.2.2.2.2.2.2.1 rfl rfl ?_
  refine jx_icmp_lt (tgt := 29) kd1086.2.2.2.2.2.2.2.1 (by decide) (fun _ => ?_) (fun c => absurd (nI_lt (a := 0) lp (by omega)) c)
  refine jx_aload_n 2 kd1087.2.1 rfl rfl ?_
  refine jx_iload_n 3 kd1087.2.2.1 rfl rfl ?_
  refine jx_iload_n 1 kd1087.2.2.2.1 rfl rfl ?_
  refine jx_iload_n 0 kd1087.2.2.2.2.1 rfl rfl ?_
  refine jx_callSi (M' := mJ1_indexOfChar_4cfef) (As := [.ref (eV E i), .int y, .int 0, .int (nI (sL i))]) (Q' := fun r S1 => Q r S1) jo_J1_indexOfChar_4cfef jwM_J1_95 jwS_J1_indexOfChar_4cfef kd1087.2.2.2.2.2.1 (jRok_m _ _ _) rfl (jle rfl) ⟨jle rfl, jle rfl⟩ (c_J1_indexOfChar hi h) (fun r S1 h1 => ?_)
  exact jx_iret kd1087.2.2.2.2.2.2.1 rfl rfl (jle rfl) (jle rfl) ⟨_, rfl, h1⟩
theorem c_J0_indexOf2 {Q : Int32 → jM → Prop} {y : Int32} (hi : i < 6) (h0 : ¬ y < 0) (h1 : ¬ 255 < y) (h : Q (sIx i y.toInt8.toInt32 (sL i) 0) S) : jFi E mJ0_indexOf_7cf53 (d + 2) 0 0 [.ref (eK E i), .int y, .int 0] S Q := by
  refine jF_of (by decide) (jle rfl) ?_
  refine jx_lv (lv1 := [(0, .ref (eK E i)), (1, .int y), (2, .int 0)]) [0, 1, 2] rfl ?_
  refine jx_aload_n 0 kd1076.1 rfl rfl ?_
  refine jx_callKi (M' := mJ0_isLatin1_aae02) (As := []) (Q' := fun r S' => r = 1 ∧ S' = S) jo_J0_isLatin1_aae02 hi rfl jwM_J0_492 jwN_J0_isLatin1_aae02 jwX_J0_isLatin1_aae02 kd1076.2.1 (jRok_m _ _ _) rfl (jle rfl) ⟨jle rfl, jle rfl⟩ (c_J0_isLatin1 hi ⟨rfl, rfl⟩) (fun r S' e => ?_)
  obtain ⟨rfl, rfl⟩ := e
  refine jx_if_eq (tgt := 23) kd1076.2.2.1 (by decide) (fun c => absurd c (by decide)) (fun _ => ?_)
  refine jx_aload_n 0 kd1076.2.2.2.1 rfl rfl ?_
  refine jx_strV rfl hi kd1076.2.2.2.2.1 ?_
  refine jx_iload_n 1 kd1076.2.2.2.2.2.1 rfl rfl ?_
  refine jx_iload_n 2 kd1076.2.2.2.2.2.2.1 rfl rfl ?_
  refine jx_aload_n 0 kd1076.2.2.2.2.2.2.2.1 rfl rfl ?_
  refine jx_callKi (M' := mJ0_length_8abf5) (As := []) (Q' := fun r S1 => r = nI (sL i) ∧ S1 = S') jo_J0_length_8abf5 hi rfl jwM_J0_505 jwN_J0_length_8abf5 jwX_J0_length_8abf5 kd1076.2.2.2.2.2.2.2.2.1 (jRok_m _ _ _) rfl (jle rfl) ⟨jle rfl, jle rfl⟩ (c_J0_length hi ⟨rfl, rfl⟩) (fun r S1 e => ?_)
  obtain ⟨rfl, rfl⟩ := e
  refine jx_callSi (M' := mJ1_indexOf_4cfef) (As := [.ref (eV E i), .int y, .int 0, .int (nI (sL i))]) (Q' := fun r S1 => Q r S1) jo_J1_indexOf_4cfef jwM_J0_637 jwS_J1_indexOf_4cfef kd1077.1 (jRok_m _ _ _) rfl (jle rfl) ⟨jle rfl, jle rfl⟩ (c_J1_indexOf hi h0 h1 h) (fun r S2 h2 => ?_)
  refine jx_goto (tgt := 36) kd1077.2.1 (by decide) ?_
  exact jx_iret kd1078.1 rfl rfl (jle rfl) (jle rfl) ⟨_, rfl, h2⟩
theorem c_J0_indexOf {Q : Int32 → jM → Prop} {y : Int32} (hi : i < 6) (h0 : ¬ y < 0) (h1 : ¬ 255 < y) (h : Q (sIx i y.toInt8.toInt32 (sL i) 0) S) : jFi E mJ0_indexOf_0f7a4 (d + 3) 0 0 [.ref (eK E i), .int y] S Q := by
  refine jF_of (by decide) (jle rfl) ?_
  refine jx_lv (lv1 := [(0, .ref (eK E i)), (1, .int y)]) [0, 1] rfl ?_
  refine jx_aload_n 0 kd1075.1 rfl rfl ?_
  refine jx_iload_n 1 kd1075.2.1 rfl rfl ?_
  refine jx_iconst (v := 0) kd1075.2.2.1 (by decide) ?_
  refine jx_callKi (M' := mJ0_indexOf_7cf53) (As := [.int y, .int 0]) (Q' := fun r S' => Q r S') jo_J0_indexOf_7cf53 hi rfl jwM_J0_633 jwN_J0_indexOf_7cf53 jwX_J0_indexOf_7cf53 kd1075.2.2.2.1 (jRok_m _ _ _) rfl (jle rfl) ⟨jle rfl, jle rfl⟩ (c_J0_indexOf2 hi h0 h1 h) (fun r S' e => ?_)
  exact jx_iret kd1075.2.2.2.2.1 rfl rfl (jle rfl) (jle rfl) ⟨_, rfl, e⟩
end jStr3
end
section
/-! TEXT, the plain reading of a tape: bytes b, n of them. A word in hand: (start, end, sort, needs a blank); a reading: (good, the word in hand behind it, the code) -/
abbrev jtk : Type := Nat × Nat × Nat × Nat
abbrev jrs : Type := Bool × jtk × List Nat
def psrt (b : Nat → Nat) (n p : Nat) : Nat := if n ≤ p then 0 else if 97 ≤ b p ∧ b p ≤ 122 then 1 else if 48 ≤ b p ∧ b p ≤ 57 then 2 else 3
def pskp (b : Nat → Nat) : Nat → Nat → Nat
  | 0, p => p
  | c + 1, p => if b p = 32 then pskp b c (p + 1) else p
def prun (b : Nat → Nat) (n s : Nat) : Nat → Nat → Nat
  | 0, p => p
  | c + 1, p => if psrt b n p = s then prun b n s c (p + 1) else p
/-- the next word behind place e, w = 1: what was in hand was letters or digits -/
def ptok (b : Nat → Nat) (n w e : Nat) : jtk :=
  let st := pskp b (n - e) e
  let so := psrt b n st
  (st, (if so = 0 then st else if so = 3 then st + 1 else prun b n so (n - (st + 1)) (st + 1)), so, (if w = 1 ∧ st = e then 1 else 0))
def pnext (b : Nat → Nat) (n : Nat) (t : jtk) : jtk := ptok b n (if t.2.2.1 = 1 ∨ t.2.2.1 = 2 then 1 else 0) t.2.1
def plev (b : Nat → Nat) (t : jtk) : Nat :=
  if t.2.2.1 = 3 then (if b t.1 = 124 then 0 else if b t.1 = 38 then 1 else if b t.1 = 60 then 2 else if b t.1 = 61 then 2 else if b t.1 = 62 then 2 else if b t.1 = 43 then 3 else if b t.1 = 45 then 3 else if b t.1 = 42 then 4 else if b t.1 = 47 then 4 else 9) else 9
def pnum (b : Nat → Nat) : Nat → Nat → Nat → Nat
  | 0, _, a => a
  | c + 1, p, a => pnum b c (p + 1) (10 * a + b p - 48)
/-- the name in hand: its place among a key's names, or 9 -/
def pnam (key c : Nat) : Nat := if key = 0 then (if c = 107 then 0 else if c = 103 then 1 else if c = 97 then 2 else 9) else if key = 1 then (if c = 102 then 0 else if c = 97 then 1 else 9) else (if c = 99 then 0 else if c = 100 then 1 else 9)
/-- the operand in hand as a word of the code, 30000: none -/
def popd (b : Nat → Nat) (key : Nat) (t : jtk) : Nat :=
  if t.2.2.2 = 1 then 30000 else if t.2.2.1 = 2 then (if 4 < t.2.1 - t.1 then 30000 else pnum b (t.2.1 - t.1) t.1 0) else if t.2.2.1 = 1 then (if t.2.1 - t.1 = 1 then (if pnam key (b t.1) = 9 then 30000 else 10000 + pnam key (b t.1)) else 30000) else 30000
/-- parts of a level, each by f, joined by its signs -/
def ploop (b : Nat → Nat) (n lev : Nat) (f : jtk → List Nat → jrs) : Nat → jtk → List Nat → jrs
  | 0, t, L => (true, t, L)
  | c + 1, t, L => if plev b t = lev then
      (if (f (pnext b n t) L).1 = true then ploop b n lev f c (f (pnext b n t) L).2.1 ((f (pnext b n t) L).2.2 ++ [20000 + b t.1]) else (false, (f (pnext b n t) L).2.1, []))
    else (true, t, L)
def pread (b : Nat → Nat) (n key : Nat) : Nat → Nat → Nat → Nat → jtk → List Nat → jrs
  | 0, _, _, _, t, _ => (false, t, [])
  | F + 1, lev, par, bang, t, L =>
    if lev < 5 then
      (if (pread b n key F (lev + 1) par bang t L).1 = true then ploop b n lev (pread b n key F (lev + 1) par bang) (if lev = 2 then 1 else 96) (pread b n key F (lev + 1) par bang t L).2.1 (pread b n key F (lev + 1) par bang t L).2.2 else (false, (pread b n key F (lev + 1) par bang t L).2.1, []))
    else if t.2.2.1 = 1 ∨ t.2.2.1 = 2 then (if popd b key t = 30000 then (false, t, []) else (true, pnext b n t, L ++ [popd b key t]))
    else if t.2.2.1 = 3 ∧ b t.1 = 33 ∧ bang < 8 then
      (if (pread b n key F 5 par (bang + 1) (pnext b n t) L).1 = true then (true, (pread b n key F 5 par (bang + 1) (pnext b n t) L).2.1, (pread b n key F 5 par (bang + 1) (pnext b n t) L).2.2 ++ [20033]) else (false, (pread b n key F 5 par (bang + 1) (pnext b n t) L).2.1, []))
    else if t.2.2.1 = 3 ∧ b t.1 = 40 ∧ par < 8 then
      (if (pread b n key F 0 (par + 1) bang (pnext b n t) L).1 = true ∧ (pread b n key F 0 (par + 1) bang (pnext b n t) L).2.1.2.2.1 = 3 ∧ b (pread b n key F 0 (par + 1) bang (pnext b n t) L).2.1.1 = 41 then (true, pnext b n (pread b n key F 0 (par + 1) bang (pnext b n t) L).2.1, (pread b n key F 0 (par + 1) bang (pnext b n t) L).2.2)
        else (false, (pread b n key F 0 (par + 1) bang (pnext b n t) L).2.1, []))
    else (false, t, [])
/-- fuel enough -/
def pmu (lev par bang : Nat) : Nat := 7 * (8 - par) + (8 - bang) + (6 - lev)
/-! what holds of it -/
theorem pskp_ge (b : Nat → Nat) : ∀ (c p : Nat), p ≤ pskp b c p ∧ pskp b c p ≤ p + c
  | 0, p => ⟨Nat.le_refl _, Nat.le_refl _⟩
  | c + 1, p => by
    show p ≤ (if b p = 32 then pskp b c (p + 1) else p) ∧ (if b p = 32 then pskp b c (p + 1) else p) ≤ p + (c + 1)
    have := pskp_ge b c (p + 1)
    split <;> omega
theorem prun_ge (b : Nat → Nat) (n s : Nat) : ∀ (c p : Nat), p ≤ prun b n s c p ∧ prun b n s c p ≤ p + c
  | 0, p => ⟨Nat.le_refl _, Nat.le_refl _⟩
  | c + 1, p => by
    show p ≤ (if psrt b n p = s then prun b n s c (p + 1) else p) ∧ (if psrt b n p = s then prun b n s c (p + 1) else p) ≤ p + (c + 1)
    have := prun_ge b n s c (p + 1)
    split <;> omega
/-- a word in hand as it may be -/
def TKok (b : Nat → Nat) (n : Nat) (t : jtk) : Prop := t.1 ≤ t.2.1 ∧ t.2.1 ≤ n ∧ t.2.2.1 = psrt b n t.1 ∧ (t.2.2.1 ≠ 0 → t.1 < t.2.1) ∧ (t.2.2.2 = 0 ∨ t.2.2.2 = 1) ∧ (t.2.2.1 = 3 → t.2.1 = t.1 + 1) ∧ (∀ p, t.1 ≤ p → p < t.2.1 → psrt b n p = t.2.2.1)
theorem psrt_0 {b : Nat → Nat} {n p : Nat} : psrt b n p = 0 ↔ n ≤ p := by
  unfold psrt
  constructor
  · intro h
    split at h
    · assumption
    · split at h
      · exact absurd h (by decide)
      · split at h <;> exact absurd h (by decide)
  · intro h; rw [if_pos h]
theorem psrt_le {b : Nat → Nat} {n p : Nat} : psrt b n p ≤ 3 := by
  unfold psrt
  split
  · omega
  · split
    · omega
    · split <;> omega
theorem prun_all (b : Nat → Nat) (n s : Nat) : ∀ (c p q : Nat), p ≤ q → q < prun b n s c p → psrt b n q = s
  | 0, p, q, h1, h2 => by
    have : prun b n s 0 p = p := rfl
    omega
  | c + 1, p, q, h1, h2 => by
    have e : prun b n s (c + 1) p = if psrt b n p = s then prun b n s c (p + 1) else p := rfl
    rw [e] at h2
    by_cases hc : psrt b n p = s
    · rw [if_pos hc] at h2
      by_cases hq : q = p
      · rw [hq]; exact hc
      · exact prun_all b n s c (p + 1) q (by omega) h2
    · rw [if_neg hc] at h2; omega
theorem ptok_ok {b : Nat → Nat} {n w e : Nat} (he : e ≤ n) : TKok b n (ptok b n w e) ∧ e ≤ (ptok b n w e).1 := by
  have h1 := pskp_ge b (n - e) e
  have z := psrt_0 (b := b) (n := n) (p := pskp b (n - e) e)
  have le := psrt_le (b := b) (n := n) (p := pskp b (n - e) e)
  unfold TKok ptok
  show ((pskp b (n - e) e ≤ _) ∧ _) ∧ _
  generalize hst : pskp b (n - e) e = st at h1 z le ⊢
  have r := prun_ge b n (psrt b n st) (n - (st + 1)) (st + 1)
  have ra := prun_all b n (psrt b n st) (n - (st + 1)) (st + 1)
  refine ⟨⟨?_, ?_, rfl, fun h => ?_, ?_, fun h => ?_, fun p p1 p2 => ?_⟩, h1.1⟩
  · show st ≤ if psrt b n st = 0 then st else if psrt b n st = 3 then st + 1 else _
    split
    · omega
    · split <;> omega
  · show (if psrt b n st = 0 then st else if psrt b n st = 3 then st + 1 else prun b n (psrt b n st) (n - (st + 1)) (st + 1)) ≤ n
    by_cases c : psrt b n st = 0
    · rw [if_pos c]; omega
    · have : ¬ n ≤ st := fun q => c (z.mpr q)
      rw [if_neg c]
      split <;> omega
  · show st < if psrt b n st = 0 then st else if psrt b n st = 3 then st + 1 else _
    have h' : ¬ psrt b n st = 0 := h
    rw [if_neg h']
    split <;> omega
  · show (if w = 1 ∧ st = e then 1 else 0) = 0 ∨ (if w = 1 ∧ st = e then 1 else 0) = 1
    split <;> simp
  · show (if psrt b n st = 0 then st else if psrt b n st = 3 then st + 1 else _) = st + 1
    have h' : psrt b n st = 3 := h
    rw [if_neg (by rw [h']; decide), if_pos h']
  · have p1' : st ≤ p := p1
    have p2' : p < if psrt b n st = 0 then st else if psrt b n st = 3 then st + 1 else prun b n (psrt b n st) (n - (st + 1)) (st + 1) := p2
    show psrt b n p = psrt b n st
    by_cases hp : p = st
    · rw [hp]
    · by_cases c : psrt b n st = 0
      · rw [if_pos c] at p2'; omega
      · rw [if_neg c] at p2'
        by_cases c3 : psrt b n st = 3
        · rw [if_pos c3] at p2'; omega
        · rw [if_neg c3] at p2'
          exact ra p (by omega) p2'
theorem pnext_ok {b : Nat → Nat} {n : Nat} {t : jtk} (h : TKok b n t) : TKok b n (pnext b n t) ∧ t.2.1 ≤ (pnext b n t).1 := ptok_ok h.2.1
end
section
/-! TEXT: what a reading gives -/
/-- the pile's depth behind a code -/
def prn : Nat → List Nat → Option Nat
  | e, [] => some e
  | e, w :: A => if w < 20000 then prn (e + 1) A else if w = 20033 then (if 1 ≤ e then prn e A else none) else (if 2 ≤ e then prn (e - 1) A else none)
def pEX (key : Nat) (A : List Nat) : Prop := (∀ w ∈ A, WFw key w) ∧ ∀ e, prn e A = some (e + 1)
theorem prn_app : ∀ (A B : List Nat) (e f : Nat), prn e A = some f → prn e (A ++ B) = prn f B
  | [], B, e, f, h => by
    have : e = f := Option.some.inj h
    rw [this]; rfl
  | w :: A, B, e, f, h => by
    show (if w < 20000 then prn (e + 1) (A ++ B) else if w = 20033 then (if 1 ≤ e then prn e (A ++ B) else none) else (if 2 ≤ e then prn (e - 1) (A ++ B) else none)) = prn f B
    have h' : (if w < 20000 then prn (e + 1) A else if w = 20033 then (if 1 ≤ e then prn e A else none) else (if 2 ≤ e then prn (e - 1) A else none)) = some f := h
    by_cases c1 : w < 20000
    · rw [if_pos c1] at h' ⊢; exact prn_app A B _ f h'
    · rw [if_neg c1] at h' ⊢
      by_cases c2 : w = 20033
      · rw [if_pos c2] at h' ⊢
        by_cases c3 : 1 ≤ e
        · rw [if_pos c3] at h' ⊢; exact prn_app A B _ f h'
        · rw [if_neg c3] at h'; exact absurd h' (by simp)
      · rw [if_neg c2] at h' ⊢
        by_cases c3 : 2 ≤ e
        · rw [if_pos c3] at h' ⊢; exact prn_app A B _ f h'
        · rw [if_neg c3] at h'; exact absurd h' (by simp)
theorem pEX_op {key w : Nat} (h : WFw key w) (hw : w < 20000) : pEX key [w] := by
  refine ⟨fun v hv => by rw [List.mem_singleton.mp hv]; exact h, fun e => ?_⟩
  show (if w < 20000 then prn (e + 1) [] else _) = _
  rw [if_pos hw]; rfl
theorem pEX_not {key : Nat} {A : List Nat} (h : pEX key A) : pEX key (A ++ [20033]) := by
  refine ⟨fun v hv => ?_, fun e => ?_⟩
  · rcases List.mem_append.mp hv with q | q
    · exact h.1 v q
    · rw [List.mem_singleton.mp q]; exact Or.inr (Or.inr (Or.inl rfl))
  · rw [prn_app A [20033] e (e + 1) (h.2 e)]
    show (if 20033 < 20000 then _ else if 20033 = 20033 then (if 1 ≤ e + 1 then prn (e + 1) [] else none) else _) = _
    rw [if_neg (by decide), if_pos rfl, if_pos (by omega)]; rfl
theorem pEX_bin {key c : Nat} {A B : List Nat} (hA : pEX key A) (hB : pEX key B) (hc : c ∈ sgn) : pEX key (A ++ B ++ [20000 + c]) := by
  have h33 : c ≠ 33 := by
    intro e
    rw [e] at hc
    exact absurd hc (by decide)
  refine ⟨fun v hv => ?_, fun e => ?_⟩
  · rcases List.mem_append.mp hv with q | q
    · rcases List.mem_append.mp q with q | q
      · exact hA.1 v q
      · exact hB.1 v q
    · rw [List.mem_singleton.mp q]; exact Or.inr (Or.inr (Or.inr ⟨c, hc, rfl⟩))
  · rw [prn_app (A ++ B) [20000 + c] e (e + 2) (by rw [prn_app A B e (e + 1) (hA.2 e)]; exact hB.2 (e + 1))]
    show (if 20000 + c < 20000 then _ else if 20000 + c = 20033 then _ else (if 2 ≤ e + 2 then prn (e + 2 - 1) [] else none)) = _
    rw [if_neg (by omega), if_neg (by omega), if_pos (by omega)]; rfl
theorem psrt_2 {b : Nat → Nat} {n p : Nat} (h : psrt b n p = 2) : 48 ≤ b p ∧ b p ≤ 57 := by
  unfold psrt at h
  split at h
  · exact absurd h (by decide)
  · split at h
    · exact absurd h (by decide)
    · split at h
      · assumption
      · exact absurd h (by decide)
theorem pnum_lt (b : Nat → Nat) : ∀ (c p a k : Nat), (∀ q, p ≤ q → q < p + c → 48 ≤ b q ∧ b q ≤ 57) → a < 10 ^ k → pnum b c p a < 10 ^ (k + c)
  | 0, p, a, k, _, h => h
  | c + 1, p, a, k, hd, h => by
    have h1 := hd p (by omega) (by omega)
    have h2 : 10 * a + b p - 48 < 10 ^ (k + 1) := by
      rw [Nat.pow_succ]
      have : a + 1 ≤ 10 ^ k := h
      omega
    have := pnum_lt b c (p + 1) (10 * a + b p - 48) (k + 1) (fun q q1 q2 => hd q (by omega) (by omega)) h2
    rw [show k + 1 + c = k + (c + 1) by omega] at this
    exact this
theorem pnam_ok {key c : Nat} (h : ¬ pnam key c = 9) : pnam key c < nmc key := by
  unfold pnam at h ⊢
  unfold nmc
  split
  · rename_i hk
    rw [if_pos hk] at h
    split
    · omega
    · rename_i q1
      rw [if_neg q1] at h
      split
      · omega
      · rename_i q2
        rw [if_neg q2] at h
        split
        · omega
        · rename_i q3
          rw [if_neg q3] at h; exact absurd rfl h
  · rename_i hk
    rw [if_neg hk] at h
    split
    · rename_i hk1
      rw [if_pos hk1] at h
      split
      · omega
      · rename_i q1
        rw [if_neg q1] at h
        split
        · omega
        · rename_i q2
          rw [if_neg q2] at h; exact absurd rfl h
    · rename_i hk1
      rw [if_neg hk1] at h
      split
      · omega
      · rename_i q1
        rw [if_neg q1] at h
        split
        · omega
        · rename_i q2
          rw [if_neg q2] at h; exact absurd rfl h
theorem popd_ok {b : Nat → Nat} {n key : Nat} {t : jtk} (ht : TKok b n t) (h : ¬ popd b key t = 30000) : WFw key (popd b key t) ∧ popd b key t < 20000 ∧ t.2.2.2 = 0 := by
  obtain ⟨h1, h2, h3, h4, h5, h6, h7⟩ := ht
  unfold popd at h ⊢
  by_cases c0 : t.2.2.2 = 1
  · rw [if_pos c0] at h; exact absurd rfl h
  · rw [if_neg c0] at h ⊢
    by_cases c1 : t.2.2.1 = 2
    · rw [if_pos c1] at h ⊢
      by_cases c2 : 4 < t.2.1 - t.1
      · rw [if_pos c2] at h; exact absurd rfl h
      · rw [if_neg c2] at h ⊢
        have hb := pnum_lt b (t.2.1 - t.1) t.1 0 0 (fun q q1 q2 => psrt_2 ((h7 q q1 (by omega)).trans c1)) (by decide)
        have hp : 10 ^ (0 + (t.2.1 - t.1)) ≤ 10 ^ 4 := Nat.pow_le_pow_right (by omega) (by omega)
        have e4 : (10 : Nat) ^ 4 = 10000 := by decide
        have hl : pnum b (t.2.1 - t.1) t.1 0 < 10000 := by omega
        exact ⟨Or.inl hl, by omega, by omega⟩
    · rw [if_neg c1] at h ⊢
      by_cases c2 : t.2.2.1 = 1
      · rw [if_pos c2] at h ⊢
        by_cases c3 : t.2.1 - t.1 = 1
        · rw [if_pos c3] at h ⊢
          by_cases c4 : pnam key (b t.1) = 9
          · rw [if_pos c4] at h; exact absurd rfl h
          · rw [if_neg c4] at h ⊢
            have hn := pnam_ok c4
            have hn3 : nmc key ≤ 3 := by unfold nmc; split <;> omega
            exact ⟨Or.inr (Or.inl ⟨_, hn, rfl⟩), by omega, by omega⟩
        · rw [if_neg c3] at h; exact absurd rfl h
      · rw [if_neg c2] at h; exact absurd rfl h
theorem plev_ok {b : Nat → Nat} {t : jtk} (h : plev b t < 5) : t.2.2.1 = 3 ∧ b t.1 ∈ sgn := by
  unfold plev at h
  by_cases c : t.2.2.1 = 3
  · rw [if_pos c] at h
    refine ⟨c, ?_⟩
    have hd : b t.1 = 124 ∨ b t.1 = 38 ∨ b t.1 = 60 ∨ b t.1 = 61 ∨ b t.1 = 62 ∨ b t.1 = 43 ∨ b t.1 = 45 ∨ b t.1 = 42 ∨ b t.1 = 47 := by
      by_cases e1 : b t.1 = 124
      · exact Or.inl e1
      · rw [if_neg e1] at h
        by_cases e2 : b t.1 = 38
        · exact Or.inr (Or.inl e2)
        · rw [if_neg e2] at h
          by_cases e3 : b t.1 = 60
          · exact Or.inr (Or.inr (Or.inl e3))
          · rw [if_neg e3] at h
            by_cases e4 : b t.1 = 61
            · exact Or.inr (Or.inr (Or.inr (Or.inl e4)))
            · rw [if_neg e4] at h
              by_cases e5 : b t.1 = 62
              · exact Or.inr (Or.inr (Or.inr (Or.inr (Or.inl e5))))
              · rw [if_neg e5] at h
                by_cases e6 : b t.1 = 43
                · exact Or.inr (Or.inr (Or.inr (Or.inr (Or.inr (Or.inl e6)))))
                · rw [if_neg e6] at h
                  by_cases e7 : b t.1 = 45
                  · exact Or.inr (Or.inr (Or.inr (Or.inr (Or.inr (Or.inr (Or.inl e7))))))
                  · rw [if_neg e7] at h
                    by_cases e8 : b t.1 = 42
                    · exact Or.inr (Or.inr (Or.inr (Or.inr (Or.inr (Or.inr (Or.inr (Or.inl e8)))))))
                    · rw [if_neg e8] at h
                      by_cases e9 : b t.1 = 47
                      · exact Or.inr (Or.inr (Or.inr (Or.inr (Or.inr (Or.inr (Or.inr (Or.inr e9)))))))
                      · rw [if_neg e9] at h; exact absurd h (by decide)
    rcases hd with e | e | e | e | e | e | e | e | e <;> rw [e] <;> decide
  · rw [if_neg c] at h; exact absurd h (by decide)
/-- a good reading: goes on, and writes no more words than it passes bytes -/
def PG (b : Nat → Nat) (n key : Nat) (t : jtk) (L : List Nat) (r : jrs) : Prop := TKok b n r.2.1 ∧ t.1 ≤ r.2.1.1 ∧ (r.1 = true → t.1 < r.2.1.1 ∧ r.2.2.length + t.1 ≤ L.length + r.2.1.1 ∧ ∃ A, r.2.2 = L ++ A ∧ pEX key A)
theorem ploop_ok {b : Nat → Nat} {n key lev : Nat} {f : jtk → List Nat → jrs} (hl : lev < 5) (hf : ∀ t L, TKok b n t → PG b n key t L (f t L)) : ∀ (c : Nat) (t : jtk) (L L0 : List Nat) (t0 : jtk), TKok b n t → t0.1 < t.1 → L.length + t0.1 ≤ L0.length + t.1 → (∃ A, L = L0 ++ A ∧ pEX key A) → PG b n key t0 L0 (ploop b n lev f c t L)
  | 0, t, L, L0, t0, ht, h1, h2, h3 => ⟨ht, Nat.le_of_lt h1, fun _ => ⟨h1, h2, h3⟩⟩
  | c + 1, t, L, L0, t0, ht, h1, h2, h3 => by
    have e : ploop b n lev f (c + 1) t L = if plev b t = lev then (if (f (pnext b n t) L).1 = true then ploop b n lev f c (f (pnext b n t) L).2.1 ((f (pnext b n t) L).2.2 ++ [20000 + b t.1]) else (false, (f (pnext b n t) L).2.1, [])) else (true, t, L) := rfl
    rw [e]
    by_cases c1 : plev b t = lev
    · rw [if_pos c1]
      have hs := plev_ok (b := b) (t := t) (by omega)
      have hn := pnext_ok ht
      have en : t.1 < t.2.1 := ht.2.2.2.1 (by rw [hs.1]; decide)
      obtain ⟨g1, g2, g3⟩ := hf (pnext b n t) L hn.1
      by_cases c2 : (f (pnext b n t) L).1 = true
      · rw [if_pos c2]
        obtain ⟨k1, k2, A2, eA2, xA2⟩ := g3 c2
        obtain ⟨A, eA, xA⟩ := h3
        refine ploop_ok hl hf c _ _ L0 t0 g1 (by omega) ?_ ⟨A ++ A2 ++ [20000 + b t.1], ?_, pEX_bin xA xA2 hs.2⟩
        · rw [List.length_append]
          show _ + 1 + _ ≤ _
          omega
        · rw [eA2, eA]; simp only [List.append_assoc]
      · rw [if_neg c2]
        exact ⟨g1, by show t0.1 ≤ (f (pnext b n t) L).2.1.1; omega, fun q => Bool.noConfusion q⟩
    · rw [if_neg c1]; exact ⟨ht, Nat.le_of_lt h1, fun _ => ⟨h1, h2, h3⟩⟩
theorem pread_ok {b : Nat → Nat} {n key : Nat} : ∀ (F lev par bang : Nat) (t : jtk) (L : List Nat), TKok b n t → PG b n key t L (pread b n key F lev par bang t L)
  | 0, lev, par, bang, t, L, ht => ⟨ht, Nat.le_refl _, fun q => Bool.noConfusion q⟩
  | F + 1, lev, par, bang, t, L, ht => by
    rw [pread]
    by_cases c0 : lev < 5
    · rw [if_pos c0]
      obtain ⟨g1, g2, g3⟩ := pread_ok F (lev + 1) par bang t L ht
      by_cases c1 : (pread b n key F (lev + 1) par bang t L).1 = true
      · rw [if_pos c1]
        obtain ⟨k1, k2, k3⟩ := g3 c1
        exact ploop_ok c0 (fun t L ht => pread_ok F (lev + 1) par bang t L ht) _ _ _ L t g1 k1 k2 k3
      · rw [if_neg c1]; exact ⟨g1, g2, fun q => Bool.noConfusion q⟩
    · rw [if_neg c0]
      have hn := pnext_ok ht
      by_cases c1 : t.2.2.1 = 1 ∨ t.2.2.1 = 2
      · rw [if_pos c1]
        have en : t.1 < t.2.1 := ht.2.2.2.1 (by omega)
        by_cases c2 : popd b key t = 30000
        · rw [if_pos c2]; exact ⟨ht, Nat.le_refl _, fun q => Bool.noConfusion q⟩
        · rw [if_neg c2]
          have ho := popd_ok ht c2
          refine ⟨hn.1, by show t.1 ≤ (pnext b n t).1; omega, fun _ => ⟨by show t.1 < (pnext b n t).1; omega, ?_, [popd b key t], rfl, pEX_op ho.1 ho.2.1⟩⟩
          show (L ++ [popd b key t]).length + t.1 ≤ L.length + (pnext b n t).1
          rw [List.length_append]
          show L.length + 1 + t.1 ≤ _
          omega
      · rw [if_neg c1]
        by_cases c2 : t.2.2.1 = 3 ∧ b t.1 = 33 ∧ bang < 8
        · rw [if_pos c2]
          have en : t.1 < t.2.1 := ht.2.2.2.1 (by omega)
          obtain ⟨g1, g2, g3⟩ := pread_ok F 5 par (bang + 1) (pnext b n t) L hn.1
          by_cases c3 : (pread b n key F 5 par (bang + 1) (pnext b n t) L).1 = true
          · rw [if_pos c3]
            obtain ⟨k1, k2, A, eA, xA⟩ := g3 c3
            refine ⟨g1, by show t.1 ≤ (pread b n key F 5 par (bang + 1) (pnext b n t) L).2.1.1; omega, fun _ => ⟨by show t.1 < (pread b n key F 5 par (bang + 1) (pnext b n t) L).2.1.1; omega, ?_, A ++ [20033], by show _ ++ _ = _; rw [eA, List.append_assoc], pEX_not xA⟩⟩
            show ((pread b n key F 5 par (bang + 1) (pnext b n t) L).2.2 ++ [20033]).length + t.1 ≤ L.length + (pread b n key F 5 par (bang + 1) (pnext b n t) L).2.1.1
            rw [List.length_append]
            show _ + 1 + t.1 ≤ _
            omega
          · rw [if_neg c3]; exact ⟨g1, by show t.1 ≤ (pread b n key F 5 par (bang + 1) (pnext b n t) L).2.1.1; omega, fun q => Bool.noConfusion q⟩
        · rw [if_neg c2]
          by_cases c3 : t.2.2.1 = 3 ∧ b t.1 = 40 ∧ par < 8
          · rw [if_pos c3]
            have en : t.1 < t.2.1 := ht.2.2.2.1 (by omega)
            obtain ⟨g1, g2, g3⟩ := pread_ok F 0 (par + 1) bang (pnext b n t) L hn.1
            by_cases c4 : (pread b n key F 0 (par + 1) bang (pnext b n t) L).1 = true ∧ (pread b n key F 0 (par + 1) bang (pnext b n t) L).2.1.2.2.1 = 3 ∧ b (pread b n key F 0 (par + 1) bang (pnext b n t) L).2.1.1 = 41
            · rw [if_pos c4]
              obtain ⟨k1, k2, A, eA, xA⟩ := g3 c4.1
              have hn2 := pnext_ok g1
              have g4 := g1.1
              refine ⟨hn2.1, by show t.1 ≤ (pnext b n (pread b n key F 0 (par + 1) bang (pnext b n t) L).2.1).1; omega, fun _ => ⟨by show t.1 < (pnext b n (pread b n key F 0 (par + 1) bang (pnext b n t) L).2.1).1; omega, ?_, A, eA, xA⟩⟩
              show (pread b n key F 0 (par + 1) bang (pnext b n t) L).2.2.length + t.1 ≤ L.length + (pnext b n (pread b n key F 0 (par + 1) bang (pnext b n t) L).2.1).1
              omega
            · rw [if_neg c4]; exact ⟨g1, by show t.1 ≤ (pread b n key F 0 (par + 1) bang (pnext b n t) L).2.1.1; omega, fun q => Bool.noConfusion q⟩
          · rw [if_neg c3]; exact ⟨ht, Nat.le_refl _, fun q => Bool.noConfusion q⟩
end
section
/-! TEXT: the class's tape, its small methods -/
def TB (S : jM) (t n : Nat) (b : Nat → Nat) : Prop := TpL S t ∧ n ≤ 96 ∧ ji S t 1 = nI n ∧ ∀ j, j < n → b j < 256 ∧ ji S (t + 1) j = nI (b j)
def TKC (S : jM) (t : Nat) (k : jtk) : Prop := ji S t 2 = nI k.1 ∧ ji S t 3 = nI k.2.1 ∧ ji S t 4 = nI k.2.2.1 ∧ ji S t 5 = nI k.2.2.2
/-- what a step changes -/
def jts (S S' : jM) (t : Nat) : Prop := jsame S S' ∧ (∀ y, y ≠ t → ji S' y = ji S y) ∧ ∀ j, (j < 2 ∨ 6 ≤ j) → ji S' t j = ji S t j
section jTape1
variable {E : jEnv} {d : Nat} {S S' : jM} {t n : Nat} {b : Nat → Nat}
theorem jts.rfl : jts S S t := ⟨jsame.rfl, fun _ _ => _root_.rfl, fun _ _ => _root_.rfl⟩
theorem jts.trans {S1 S2 : jM} (h1 : jts S S1 t) (h2 : jts S1 S2 t) : jts S S2 t := ⟨h1.1.trans h2.1, fun y a => (h2.2.1 y a).trans (h1.2.1 y a), fun j a => (h2.2.2 j a).trans (h1.2.2 j a)⟩
theorem jts.put {j : Nat} {w : Int32} (h1 : 2 ≤ j) (h2 : j < 6) : jts S (jput S t j w) t := ⟨⟨_root_.rfl, _root_.rfl, _root_.rfl, _root_.rfl⟩, fun y a => ji_put_ne _ _ _ _ a, fun k hk => by rw [ji_put, if_neg (by omega)]⟩
theorem TB.ts (h : TB S t n b) (g : jts S S' t) : TB S' t n b := by
  obtain ⟨h1, h2, h3, h4⟩ := h
  exact ⟨h1.same g.1, h2, (g.2.2 1 (by omega)).trans h3, fun j hj => ⟨(h4 j hj).1, by rw [g.2.1 _ (by omega)]; exact (h4 j hj).2⟩⟩
theorem c_X8_byteAt {Q : Int32 → jM → Prop} {p : Nat} (hT : TB S t n b) (hp : p < n) (h : Q (nI (b p)) S) : jFi E mX8_byteAt d 0 0 [.ref t, .int (nI p)] S Q := by
  obtain ⟨hL, h96, h1, hb⟩ := hT
  refine T_X8_byteAt ⟨fun c => absurd c (nI_pos (by omega)), fun _ => ⟨hL.1, ?_⟩⟩
  rw [h1]
  refine ⟨fun c => absurd c (nI_ge (by omega) (by omega)), fun _ => ⟨fun c => absurd c (nI_ge (b := 96) (by omega) (by omega)), fun _ => ⟨_, hL.2.1, hL.2.2.2.1, by rw [hL.2.2.2.2.1]; exact jin_nI (by omega) (by omega), ?_⟩⟩⟩
  rw [jcl (by omega), (hb p hp).2]; exact h
theorem c_X8_sortAt {Q : Int32 → jM → Prop} {p : Nat} (hT : TB S t n b) (hp : p ≤ 96) (h : Q (nI (psrt b n p)) S) : jFi E mX8_sortAt (d + 1) 0 0 [.ref t, .int (nI p)] S Q := by
  have hn := hT.2.1
  refine T_X8_sortAt ⟨hT.1.1, ?_⟩
  rw [hT.2.2.1]
  refine ⟨fun c => ?_, fun c => ?_⟩
  · have hpn : p < n := (nI_ltI (by omega) (by omega)).mp c
    have hb := (hT.2.2.2 p hpn).1
    refine c_X8_byteAt hT hpn ?_
    have e : psrt b n p = if 97 ≤ b p ∧ b p ≤ 122 then 1 else if 48 ≤ b p ∧ b p ≤ 57 then 2 else 3 := if_neg (by omega)
    rw [e] at h
    have lt : ∀ k, k < 256 → (nI (b p) < nI k ↔ b p < k) := fun k hk => nI_ltI (by omega) (by omega)
    have gt : ∀ k, k < 256 → (nI k < nI (b p) ↔ k < b p) := fun k hk => nI_ltI (by omega) (by omega)
    have l97 := lt 97 (by omega)
    have l48 := lt 48 (by omega)
    have g57 := gt 57 (by omega)
    have g122 := gt 122 (by omega)
    refine ⟨fun c1 => ⟨fun c2 => ?_, fun c2 => ⟨fun c3 => ?_, fun c3 => ?_⟩⟩, fun c1 => ⟨fun c2 => ⟨fun c3 => ?_, fun c3 => ⟨fun c4 => ?_, fun c4 => ?_⟩⟩, fun c2 => ?_⟩⟩
    · have q1 := l97.mp c1
      have q2 := l48.mp c2
      rw [if_neg (by omega), if_neg (by omega)] at h; exact h
    · have q1 := l97.mp c1
      have q2 := g57.mp c3
      rw [if_neg (by omega), if_neg (by omega)] at h; exact h
    · have q1 := l97.mp c1
      have q2 : ¬ b p < 48 := fun q => c2 (l48.mpr q)
      have q3 : ¬ 57 < b p := fun q => c3 (g57.mpr q)
      rw [if_neg (by omega), if_pos (by omega)] at h; exact h
    · have q1 : ¬ b p < 97 := fun q => c1 (l97.mpr q)
      have q2 := l48.mp c3
      omega
    · have q1 : ¬ b p < 97 := fun q => c1 (l97.mpr q)
      have q2 := g122.mp c2
      rw [if_neg (by omega), if_neg (by omega)] at h; exact h
    · have q1 : ¬ b p < 97 := fun q => c1 (l97.mpr q)
      have q2 : ¬ 57 < b p := fun q => c4 (g57.mpr q)
      omega
    · have q1 : ¬ b p < 97 := fun q => c1 (l97.mpr q)
      have q2 : ¬ 122 < b p := fun q => c2 (g122.mpr q)
      rw [if_pos (by omega)] at h; exact h
  · have hpn : n ≤ p := by
      rcases Nat.lt_or_ge p n with q | q
      · exact absurd (nI_lt q (by omega)) c
      · exact q
    rw [psrt_0.mpr hpn] at h; exact h
theorem c_X8_step {Q : jM → Prop} {e so : Nat} (hT : TB S t n b) (h3 : ji S t 3 = nI e) (h4 : ji S t 4 = nI so) (he : e ≤ n) (hso : so ≤ 3) (hq : ∀ S', jts S S' t → TKC S' t (ptok b n (if so = 1 ∨ so = 2 then 1 else 0) e) → Q S') : jFv E mX8_step (d + 2) 0 0 [.ref t] S Q := by
  have hn := hT.2.1
  -- the word's end
  have l129 : ∀ (c q st s nb : Nat) (S1 : jM), q + c = n ∨ (n ≤ q ∧ c = 0) → q ≤ 96 → jts S S1 t → ji S1 t 2 = nI st → ji S1 t 3 = nI q → ji S1 t 4 = nI s → s ≤ 3 → ji S1 t 5 = nI nb → (∀ S', jts S S' t → ji S' t 2 = nI st → ji S' t 3 = nI (if s = 3 then q else prun b n s c q) → ji S' t 4 = nI s → ji S' t 5 = nI nb → Q S') → L_X8_step_129 E (d + 1) Q t S1 := by
    intro c
    induction c with
    | zero =>
      intro q st s nb S1 hc hq96 g1 f2 f3 f4 hs f5 hq1
      have T1 := hT.ts g1
      refine T_X8_step_129 ⟨T1.1.1, ?_⟩
      rw [T1.2.2.1, f3]
      refine ⟨fun _ => ?_, fun cc => absurd (nI_le (by omega) (by omega)) cc⟩
      refine hq1 S1 g1 f2 ?_ f4 f5
      rw [f3]
      split <;> rfl
    | succ c ih =>
      intro q st s nb S1 hc hq96 g1 f2 f3 f4 hs f5 hq1
      have T1 := hT.ts g1
      refine T_X8_step_129 ⟨T1.1.1, ?_⟩
      rw [T1.2.2.1, f3, f4]
      refine ⟨fun cc => absurd cc (nI_ge (by omega) (by omega)), fun _ => ⟨fun c3 => ?_, fun c3 => ?_⟩⟩
      · have es : s = 3 := nI_inj (b := 3) (by omega) (by omega) c3
        refine hq1 S1 g1 f2 ?_ f4 f5
        rw [f3, if_pos es]
      · have es : ¬ s = 3 := fun q => c3 (by rw [q]; rfl)
        refine c_X8_sortAt T1 (by omega) ⟨T1.1.1, ?_⟩
        rw [f4, f3, nI_1]
        have ep : prun b n s (c + 1) q = if psrt b n q = s then prun b n s c (q + 1) else q := rfl
        refine ⟨fun c4 => ?_, fun c4 => ?_⟩
        · have e4 : psrt b n q = s := nI_inj (Nat.lt_of_le_of_lt psrt_le (by omega)) (by omega) c4
          rw [ep, if_pos e4, if_neg es] at hq1
          exact ih (q + 1) st s nb _ (by omega) (by omega) (g1.trans (jts.put (by omega) (by omega))) (by rw [ji_put, if_neg (by omega)]; exact f2) (by rw [ji_put_same]) (by rw [ji_put, if_neg (by omega)]; exact f4) hs (by rw [ji_put, if_neg (by omega)]; exact f5) (by rw [if_neg es]; exact hq1)
        · have e4 : ¬ psrt b n q = s := fun z => c4 (by rw [z])
          refine hq1 S1 g1 f2 ?_ f4 f5
          rw [f3, if_neg es, ep, if_neg e4]
  -- behind the blanks
  have aft : ∀ (st nb : Nat) (S1 : jM), pskp b (n - e) e = st → jts S S1 t → ji S1 t 2 = nI st → nb = (if (so = 1 ∨ so = 2) ∧ st = e then 1 else 0) → (nI (psrt b n st) = 0 → L_X8_step_129 E (d + 1) Q t (jput (jput (jput S1 t 4 (nI (psrt b n st))) t 5 (nI nb)) t 3 (nI st))) ∧ (¬ nI (psrt b n st) = 0 → L_X8_step_129 E (d + 1) Q t (jput (jput (jput S1 t 4 (nI (psrt b n st))) t 5 (nI nb)) t 3 (nI st + 1))) := by
    intro st nb S1 hst g1 f2 hnb
    have hge := pskp_ge b (n - e) e
    rw [hst] at hge
    have et : ptok b n (if so = 1 ∨ so = 2 then 1 else 0) e = (st, (if psrt b n st = 0 then st else if psrt b n st = 3 then st + 1 else prun b n (psrt b n st) (n - (st + 1)) (st + 1)), psrt b n st, nb) := by
      unfold ptok
      rw [hst]
      show (st, _, psrt b n st, _) = _
      congr 3
      rw [hnb]
      by_cases w : so = 1 ∨ so = 2
      · rw [if_pos w]
        by_cases q : st = e
        · rw [if_pos ⟨rfl, q⟩, if_pos ⟨w, q⟩]
        · rw [if_neg (fun z => q z.2), if_neg (fun z => q z.2)]
      · rw [if_neg w, if_neg (fun z => absurd z.1 (by decide)), if_neg (fun z => w z.1)]
    rw [et] at hq
    have g2 : ∀ w : Int32, jts S (jput (jput (jput S1 t 4 (nI (psrt b n st))) t 5 (nI nb)) t 3 w) t := fun w => ((g1.trans (jts.put (by omega) (by omega))).trans (jts.put (by omega) (by omega))).trans (jts.put (by omega) (by omega))
    have p2 : ∀ w : Int32, ji (jput (jput (jput S1 t 4 (nI (psrt b n st))) t 5 (nI nb)) t 3 w) t 2 = nI st := fun w => by rw [ji_put, if_neg (by omega), ji_put, if_neg (by omega), ji_put, if_neg (by omega)]; exact f2
    have p4 : ∀ w : Int32, ji (jput (jput (jput S1 t 4 (nI (psrt b n st))) t 5 (nI nb)) t 3 w) t 4 = nI (psrt b n st) := fun w => by rw [ji_put, if_neg (by omega), ji_put, if_neg (by omega), ji_put_same]
    have p5 : ∀ w : Int32, ji (jput (jput (jput S1 t 4 (nI (psrt b n st))) t 5 (nI nb)) t 3 w) t 5 = nI nb := fun w => by rw [ji_put, if_neg (by omega), ji_put_same]
    have le3 := psrt_le (b := b) (n := n) (p := st)
    refine ⟨fun c0 => ?_, fun c0 => ?_⟩
    · have e0 : psrt b n st = 0 := nI_inj (b := 0) (by omega) (by omega) c0
      have hns := psrt_0.mp e0
      refine l129 0 st st (psrt b n st) nb _ (Or.inr ⟨hns, rfl⟩) (by omega) (g2 _) (p2 _) (by rw [ji_put_same]) (p4 _) le3 (p5 _) (fun S' gg q2 q3 q4 q5 => hq S' gg ⟨q2, ?_, q4, q5⟩)
      rw [q3]
      show nI (if psrt b n st = 3 then st else st) = nI (if psrt b n st = 0 then st else _)
      rw [if_pos e0]; split <;> rfl
    · have e0 : ¬ psrt b n st = 0 := fun z => c0 (by rw [z]; rfl)
      have hns : ¬ n ≤ st := fun z => e0 (psrt_0.mpr z)
      rw [nI_1]
      refine l129 (n - (st + 1)) (st + 1) st (psrt b n st) nb _ (by omega) (by omega) (g2 _) (p2 _) (by rw [ji_put_same]) (p4 _) le3 (p5 _) (fun S' gg q2 q3 q4 q5 => hq S' gg ⟨q2, ?_, q4, q5⟩)
      rw [q3]
      show nI _ = nI (if psrt b n st = 0 then st else if psrt b n st = 3 then st + 1 else _)
      rw [if_neg e0]
  have tree : ∀ (x1 : Int32) (st : Nat) (S1 : jM), x1 = (if so = 1 ∨ so = 2 then 1 else 0) → pskp b (n - e) e = st → jts S S1 t → ji S1 t 2 = nI st → (x1 = 0 → (nI (psrt b n st) = 0 → L_X8_step_129 E (d + 1) Q t (jput (jput (jput S1 t 4 (nI (psrt b n st))) t 5 0) t 3 (ji S1 t 2))) ∧ (¬ nI (psrt b n st) = 0 → L_X8_step_129 E (d + 1) Q t (jput (jput (jput S1 t 4 (nI (psrt b n st))) t 5 0) t 3 ((ji S1 t 2) + 1)))) ∧ (¬ x1 = 0 → ((ji S1 t 2) = nI e → (nI (psrt b n st) = 0 → L_X8_step_129 E (d + 1) Q t (jput (jput (jput S1 t 4 (nI (psrt b n st))) t 5 1) t 3 (ji S1 t 2))) ∧ (¬ nI (psrt b n st) = 0 → L_X8_step_129 E (d + 1) Q t (jput (jput (jput S1 t 4 (nI (psrt b n st))) t 5 1) t 3 ((ji S1 t 2) + 1)))) ∧ (¬ (ji S1 t 2) = nI e → (nI (psrt b n st) = 0 → L_X8_step_129 E (d + 1) Q t (jput (jput (jput S1 t 4 (nI (psrt b n st))) t 5 0) t 3 (ji S1 t 2))) ∧ (¬ nI (psrt b n st) = 0 → L_X8_step_129 E (d + 1) Q t (jput (jput (jput S1 t 4 (nI (psrt b n st))) t 5 0) t 3 ((ji S1 t 2) + 1))))) := by
    intro x1 st S1 hx hst g1 f2
    have hge := pskp_ge b (n - e) e
    rw [hst] at hge
    rw [f2]
    refine ⟨fun c => aft st 0 S1 hst g1 f2 ?_, fun c => ⟨fun c1 => aft st 1 S1 hst g1 f2 ?_, fun c1 => aft st 0 S1 hst g1 f2 ?_⟩⟩
    · rw [if_neg (fun z => ?_)]
      rw [hx, if_pos z.1] at c; exact absurd c (by decide)
    · have es : st = e := nI_inj (by omega) (by omega) c1
      have w : so = 1 ∨ so = 2 := by
        refine Classical.byContradiction (fun z => c ?_)
        rw [hx, if_neg z]
      rw [if_pos ⟨w, es⟩]
    · rw [if_neg (fun z => c1 (by rw [z.2]))]
  have l35 : ∀ (c p : Nat) (x1 : Int32) (S1 : jM), p + c = n → e ≤ p → x1 = (if so = 1 ∨ so = 2 then 1 else 0) → pskp b (n - e) e = pskp b c p → jts S S1 t → ji S1 t 2 = nI p → L_X8_step_35 E (d + 1) Q t x1 (nI e) S1 := by
    intro c
    induction c with
    | zero =>
      intro p x1 S1 hp hep hx hsk g1 f2
      obtain rfl : p = n := by omega
      have T1 := hT.ts g1
      refine T_X8_step_35 ⟨T1.1.1, fun _ => ?_, fun cc => absurd (by rw [T1.2.2.1, f2]; exact Int32.le_rfl) cc⟩
      rw [f2]
      refine c_X8_sortAt T1 (by omega) ⟨T1.1.1, ?_⟩
      exact tree x1 p S1 hx hsk g1 f2
    | succ c ih =>
      intro p x1 S1 hp hep hx hsk g1 f2
      have T1 := hT.ts g1
      refine T_X8_step_35 ⟨T1.1.1, fun cc => absurd (by rw [T1.2.2.1, f2] at cc; exact cc) (nI_ge (by omega) (by omega)), fun _ => ?_⟩
      rw [f2]
      have hb := (hT.2.2.2 p (by omega)).1
      have ek : pskp b (c + 1) p = if b p = 32 then pskp b c (p + 1) else p := rfl
      refine c_X8_byteAt T1 (by omega) ⟨fun c32 => ⟨T1.1.1, ?_⟩, fun c32 => ⟨T1.1.1, ?_⟩⟩
      · have e32 : b p = 32 := nI_inj (b := 32) (by omega) (by omega) c32
        rw [f2, nI_1]
        refine ih (p + 1) x1 _ (by omega) (by omega) hx ?_ (g1.trans (jts.put (by omega) (by omega))) (by rw [ji_put_same])
        rw [hsk, ek, if_pos e32]
      · have e32 : ¬ b p = 32 := fun z => c32 (by rw [z]; rfl)
        rw [f2]
        refine c_X8_sortAt T1 (by omega) ⟨T1.1.1, ?_⟩
        exact tree x1 p S1 hx (by rw [hsk, ek, if_neg e32]) g1 f2
  refine T_X8_step ⟨hT.1.1, ?_⟩
  rw [h4, h3]
  have g0 : jts S (jput S t 2 (nI e)) t := jts.put (by omega) (by omega)
  have f0 : ji (jput S t 2 (nI e)) t 2 = nI e := ji_put_same _ _ _ _
  refine ⟨fun c1 => l35 (n - e) e 1 _ (by omega) (Nat.le_refl _) ?_ rfl g0 f0, fun c1 => ⟨fun c2 => l35 (n - e) e 1 _ (by omega) (Nat.le_refl _) ?_ rfl g0 f0, fun c2 => l35 (n - e) e 0 _ (by omega) (Nat.le_refl _) ?_ rfl g0 f0⟩⟩
  · have : so = 1 := nI_inj (b := 1) (by omega) (by omega) c1
    rw [if_pos (Or.inl this)]
  · have : so = 2 := nI_inj (b := 2) (by omega) (by omega) c2
    rw [if_pos (Or.inr this)]
  · rw [if_neg (fun z => ?_)]
    rcases z with z | z
    · exact c1 (by rw [z]; rfl)
    · exact c2 (by rw [z]; rfl)
end jTape1
end
section
/-! TEXT: the class's tape, what is in hand -/
def pops : List Nat → Nat
  | [] => 0
  | w :: A => (if w < 20000 then 1 else 0) + pops A
theorem pops_app : ∀ (A B : List Nat), pops (A ++ B) = pops A + pops B
  | [], B => by show pops B = 0 + pops B; omega
  | w :: A, B => by
    show (if w < 20000 then 1 else 0) + pops (A ++ B) = (if w < 20000 then 1 else 0) + pops A + pops B
    rw [pops_app A B]; omega
def CDC (S : jM) (t : Nat) (L : List Nat) : Prop := ji S t 9 = nI L.length ∧ ji S t 7 = nI (pops L) ∧ ∀ i, i < L.length → ji S (t + 2) i = nI (L.getD i 0)
/-- what reading changes -/
def jtp (S S' : jM) (t : Nat) : Prop := jsame S S' ∧ (∀ y, y ≠ t → y ≠ t + 2 → ji S' y = ji S y) ∧ ∀ j, (j = 1 ∨ j = 6) → ji S' t j = ji S t j
theorem nI_sub {m k : Nat} (h : k ≤ m) : nI m - nI k = nI (m - k) := by
  have e : nI m = nI (m - k) + nI k := by rw [nI_add]; congr 1; omega
  rw [e, Int32.add_sub_cancel]
/-- word i of the keys is in hand -/
def pwd (b : Nat → Nat) (k : jtk) (i : Nat) : Prop := k.2.2.1 = 1 ∧ k.2.1 - k.1 = 4 ∧ ∀ j, j < 4 → nI (b (k.1 + j)) = sB i j
section jTape2
variable {E : jEnv} {d : Nat} {S S' : jM} {t n : Nat} {b : Nat → Nat} {k : jtk}
theorem jtp.rfl : jtp S S t := ⟨jsame.rfl, fun _ _ _ => _root_.rfl, fun _ _ => _root_.rfl⟩
theorem jtp.trans {S1 S2 : jM} (h1 : jtp S S1 t) (h2 : jtp S1 S2 t) : jtp S S2 t := ⟨h1.1.trans h2.1, fun y a b => (h2.2.1 y a b).trans (h1.2.1 y a b), fun j a => (h2.2.2 j a).trans (h1.2.2 j a)⟩
theorem jts.tp (h : jts S S' t) : jtp S S' t := ⟨h.1, fun y a _ => h.2.1 y a, fun j hj => h.2.2 j (by omega)⟩
theorem TB.tp (h : TB S t n b) (g : jtp S S' t) : TB S' t n b := by
  obtain ⟨h1, h2, h3, h4⟩ := h
  exact ⟨h1.same g.1, h2, (g.2.2 1 (Or.inl _root_.rfl)).trans h3, fun j hj => ⟨(h4 j hj).1, by rw [g.2.1 _ (by omega) (by omega)]; exact (h4 j hj).2⟩⟩
theorem CDC.ts {L : List Nat} (h : CDC S t L) (g : jts S S' t) : CDC S' t L := ⟨(g.2.2 9 (by omega)).trans h.1, (g.2.2 7 (by omega)).trans h.2.1, fun i hi => by rw [g.2.1 _ (by omega)]; exact h.2.2 i hi⟩
theorem c_X8_next {Q : jM → Prop} (hT : TB S t n b) (hK : TKC S t k) (ok : TKok b n k) (hq : ∀ S', jts S S' t → TKC S' t (pnext b n k) → Q S') : jFv E mX8_step (d + 2) 0 0 [.ref t] S Q :=
  c_X8_step hT hK.2.1 hK.2.2.1 ok.2.1 (by rw [ok.2.2.1]; exact psrt_le) hq
theorem TKok.lt (ok : TKok b n k) (h : k.2.2.1 ≠ 0) : k.1 < n := Nat.lt_of_lt_of_le (ok.2.2.2.1 h) ok.2.1
theorem TKok.so (ok : TKok b n k) : k.2.2.1 ≤ 3 := by rw [ok.2.2.1]; exact psrt_le
theorem c_X8_isInHand {Q : Int32 → jM → Prop} {c : Nat} (hT : TB S t n b) (hK : TKC S t k) (ok : TKok b n k) (hc : c < 256) (h1 : k.2.2.1 = 3 → b k.1 = c → Q 1 S) (h0 : ¬ (k.2.2.1 = 3 ∧ b k.1 = c) → Q 0 S) : jFi E mX8_isInHand (d + 1) 0 0 [.ref t, .int (nI c)] S Q := by
  have s3 := ok.so
  refine T_X8_isInHand ⟨hT.1.1, ?_⟩
  rw [hK.2.2.1, hK.1]
  refine ⟨fun c3 => ?_, fun c3 => h0 (fun z => c3 (by rw [z.1]; rfl))⟩
  have e3 : k.2.2.1 = 3 := nI_inj (b := 3) (by omega) (by omega) c3
  have hl := ok.lt (by omega)
  have hb := (hT.2.2.2 k.1 hl).1
  exact c_X8_byteAt hT hl ⟨fun e => h1 e3 (nI_inj (by omega) (by omega) e), fun e => h0 (fun z => e (by rw [z.2]))⟩
theorem c_X8_levelInHand {Q : Int32 → jM → Prop} (hT : TB S t n b) (hK : TKC S t k) (ok : TKok b n k) (h : Q (if plev b k = 9 then -1 else nI (plev b k)) S) : jFi E mX8_levelInHand (d + 1) 0 0 [.ref t] S Q := by
  have s3 := ok.so
  refine T_X8_levelInHand ⟨hT.1.1, ?_⟩
  rw [hK.2.2.1, hK.1]
  refine ⟨fun c3 => ?_, fun c3 => ?_⟩
  · have e3 : k.2.2.1 = 3 := nI_inj (b := 3) (by omega) (by omega) c3
    have hl := ok.lt (by omega)
    have hb := (hT.2.2.2 k.1 hl).1
    refine c_X8_byteAt hT hl ?_
    have eq : ∀ c, c < 256 → (nI (b k.1) = nI c ↔ b k.1 = c) := fun c hc => ⟨fun e => nI_inj (by omega) (by omega) e, fun e => by rw [e]⟩
    unfold plev at h
    rw [if_pos e3] at h
    have q38 := eq 38 (by omega)
    have q42 := eq 42 (by omega)
    have q43 := eq 43 (by omega)
    have q45 := eq 45 (by omega)
    have q47 := eq 47 (by omega)
    have q60 := eq 60 (by omega)
    have q61 := eq 61 (by omega)
    have q62 := eq 62 (by omega)
    have q124 := eq 124 (by omega)
    refine ⟨fun e => ?_, fun e => ?_, fun e => ?_, fun e => ?_, fun e => ?_, fun e => ?_, fun e => ?_, fun e => ?_, fun e => ?_, fun e1 e2 e3 e4 e5 e6 e7 e8 e9 => ?_⟩
    · rw [q38.mp e] at h; exact h
    · rw [q42.mp e] at h; exact h
    · rw [q43.mp e] at h; exact h
    · rw [q45.mp e] at h; exact h
    · rw [q47.mp e] at h; exact h
    · rw [q60.mp e] at h; exact h
    · rw [q61.mp e] at h; exact h
    · rw [q62.mp e] at h; exact h
    · rw [q124.mp e] at h; exact h
    · rw [if_neg (c := b k.1 = 124) (fun z => e9 (q124.mpr z)), if_neg (c := b k.1 = 38) (fun z => e1 (q38.mpr z)), if_neg (c := b k.1 = 60) (fun z => e6 (q60.mpr z)), if_neg (c := b k.1 = 61) (fun z => e7 (q61.mpr z)), if_neg (c := b k.1 = 62) (fun z => e8 (q62.mpr z)), if_neg (c := b k.1 = 43) (fun z => e3 (q43.mpr z)), if_neg (c := b k.1 = 45) (fun z => e4 (q45.mpr z)), if_neg (c := b k.1 = 42) (fun z => e2 (q42.mpr z)), if_neg (c := b k.1 = 47) (fun z => e5 (q47.mpr z))] at h
      exact h
  · have e3 : ¬ k.2.2.1 = 3 := fun z => c3 (by rw [z]; rfl)
    unfold plev at h
    rw [if_neg e3] at h; exact h
theorem c_X8_numberInHand {Q : Int32 → jM → Prop} (hT : TB S t n b) (hK : TKC S t k) (ok : TKok b n k) (e2 : k.2.2.1 = 2) (h0 : 4 < k.2.1 - k.1 → Q (-1) S) (h1 : ¬ 4 < k.2.1 - k.1 → Q (nI (pnum b (k.2.1 - k.1) k.1 0)) S) : jFi E mX8_numberInHand (d + 1) 0 0 [.ref t] S Q := by
  have h96 := hT.2.1
  obtain ⟨k1, k2, k3, k4, k5, k6, k7⟩ := id ok
  have loop : ∀ (c p a : Nat), p + c = k.2.1 → k.1 ≤ p → (Q (nI (pnum b c p a)) S) → L_X8_numberInHand_22 E d Q t (nI a) (nI p) S := by
    intro c
    induction c with
    | zero =>
      intro p a hp _ hq
      obtain rfl : p = k.2.1 := by omega
      refine T_X8_numberInHand_22 ⟨hT.1.1, fun _ => hq, fun cc => absurd (by rw [hK.2.1]; exact Int32.le_rfl) cc⟩
    | succ c ih =>
      intro p a hp hp1 hq
      refine T_X8_numberInHand_22 ⟨hT.1.1, fun cc => absurd (by rw [hK.2.1] at cc; exact cc) (nI_ge (by omega) (by omega)), fun _ => c_X8_byteAt hT (by omega) ?_⟩
      have hd := psrt_2 ((k7 p hp1 (by omega)).trans e2)
      rw [nI_1, show (10 : Int32) = nI 10 from rfl, nI_mul, nI_add, show (48 : Int32) = nI 48 from rfl, nI_sub (by omega)]
      exact ih (p + 1) _ (by omega) (by omega) hq
  refine T_X8_numberInHand ⟨hT.1.1, ?_⟩
  rw [hK.1, hK.2.1, nI_sub k1]
  refine ⟨fun c => loop (k.2.1 - k.1) k.1 0 (by omega) (Nat.le_refl _) (h1 ?_), fun c => h0 ?_⟩
  · have := (nI_leI (b := 4) (by omega) (by omega)).mp c
    omega
  · rcases Nat.lt_or_ge 4 (k.2.1 - k.1) with q | q
    · exact q
    · exact absurd (nI_le (b := 4) q (by omega)) c
theorem T_X8_namesOf {Q : Option Nat → jM → Prop} {key : Nat} (hk : key < 3) (h : Q (some (eK E (3 + key))) S) : jFr E mX8_namesOf d 0 0 [.int (nI key)] S Q := by
  refine jF_of (by decide) (jle rfl) ?_
  refine jx_lv (lv1 := [(0, .int (nI key))]) [0] rfl ?_
  refine jx_iload_n 0 kd284.1 rfl rfl ?_
  rcases (show key = 0 ∨ key = 1 ∨ key = 2 by omega) with rfl | rfl | rfl
  · refine jx_lookIn (v := 0) (tgt := 28) (off := 27) kd284.2.1 (by decide) rfl (by decide) (by decide) ?_
    refine jx_ldcS (q := eK E 3) rfl (fun s hG => hG.2.2.2.2.2.2.2.2.1) kd284.2.2.1 ?_
    exact jx_aret (o := some (eK E 3)) kd284.2.2.2.1 rfl (jle rfl) (jle rfl) ⟨_, rfl, h⟩
  · refine jx_lookIn (v := 1) (tgt := 31) (off := 30) kd284.2.1 (by decide) rfl (by decide) (by decide) ?_
    refine jx_ldcS (q := eK E 4) rfl (fun s hG => hG.2.2.2.2.2.2.2.2.2.1) kd284.2.2.2.2.1 ?_
    exact jx_aret (o := some (eK E 4)) kd284.2.2.2.2.2.1 rfl (jle rfl) (jle rfl) ⟨_, rfl, h⟩
  · refine jx_lookD (tgt := 34) kd284.2.1 (by decide) (by decide) (by decide) ?_
    refine jx_ldcS (q := eK E 5) rfl (fun s hG => hG.2.2.2.2.2.2.2.2.2.2.1) kd284.2.2.2.2.2.2.1 ?_
    exact jx_aret (o := some (eK E 5)) kd284.2.2.2.2.2.2.2.1 rfl (jle rfl) (jle rfl) ⟨_, rfl, h⟩
theorem pnam_ix : ∀ key : Fin 3, ∀ c : Fin 256, sIx (3 + key.val) ((nI c.val).toInt8.toInt32) (sL (3 + key.val)) 0 = if pnam key.val c.val = 9 then -1 else nI (pnam key.val c.val) := by decide +kernel
theorem chr_id : ∀ c : Fin 256, ((nI c.val).toUInt32 % 65536).toInt32 = nI c.val := by decide +kernel
theorem pnam_le (key c : Nat) : pnam key c ≤ 9 := by
  unfold pnam
  repeat' split
  all_goals omega
theorem c_X8_nameInHand {Q : Int32 → jM → Prop} {key : Nat} (hT : TB S t n b) (hK : TKC S t k) (ok : TKok b n k) (hk : key < 3) (h6 : ji S t 6 = nI key) (e1 : k.2.2.1 = 1) (h0 : ¬ k.2.1 - k.1 = 1 ∨ pnam key (b k.1) = 9 → Q (-1) S) (h1 : k.2.1 - k.1 = 1 → ¬ pnam key (b k.1) = 9 → Q (nI (10000 + pnam key (b k.1))) S) : jFi E mX8_nameInHand (d + 4) 0 0 [.ref t] S Q := by
  have h96 := hT.2.1
  have hl := ok.lt (by omega)
  have hb := (hT.2.2.2 k.1 hl).1
  have kl := ok.1
  have ke := ok.2.1
  have p9 := pnam_le key (b k.1)
  have fin : ∀ r : Int32, (r = -1 → Q (-1) S) → (¬ r < 0 → Q (10000 + r) S) → (r < 0 → r = -1) → jX E mX8_nameInHand (jRm (d + 4) 0 0) (jZm E (fun r S' => ∃ v : Int32, r = some (.int v) ∧ Q v S') 0 0) 36 [(0, .ref t)] [.int r] S 0 0 := by
    intro r q0 q1 q2
    refine jx_istore_n (lv1 := [(1, .int r), (0, .ref t)]) kd313.1 rfl (by decide) rfl ?_
    refine jx_iload_n 0 kd313.2.1 rfl rfl ?_
    refine jx_if_ge (tgt := 45) kd313.2.2.1 (by decide) (fun c => ?_) (fun c => ?_)
    · refine jx_sipush (v := 10000) kd313.2.2.2.2.2.1 (by decide) ?_
      refine jx_iload_n 0 kd313.2.2.2.2.2.2.1 rfl rfl ?_
      refine jx_iadd kd313.2.2.2.2.2.2.2.1 ?_
      exact jx_iret kd313.2.2.2.2.2.2.2.2.1 rfl rfl (jle rfl) (jle rfl) ⟨_, rfl, q1 (Int32.not_lt.mpr c)⟩
    · refine jx_iconst (v := -1) kd313.2.2.2.1 (by decide) ?_
      refine jx_goto (tgt := 50) kd313.2.2.2.2.1 (by decide) ?_
      exact jx_iret kd313.2.2.2.2.2.2.2.2.1 rfl rfl (jle rfl) (jle rfl) ⟨_, rfl, q0 (q2 (Int32.not_le.mp c))⟩
  refine jF_of (by decide) (jle rfl) ?_
  refine jx_lv (lv1 := [(0, .ref t)]) [0] rfl ?_
  refine jx_aload_n 0 kd311.1 rfl rfl ?_
  refine jx_geti jc_8 (j := 3) (by decide) rfl jwF_X8_26 kd311.2.1 hT.1.1 ?_
  refine jx_aload_n 0 kd311.2.2.1 rfl rfl ?_
  refine jx_geti jc_8 (j := 2) (by decide) rfl jwF_X8_63 kd311.2.2.2.1 hT.1.1 ?_
  refine jx_isub kd311.2.2.2.2.1 ?_
  rw [hK.1, hK.2.1, nI_sub kl]
  refine jx_iconst (v := 1) kd311.2.2.2.2.2.1 (by decide) ?_
  refine jx_icmp_ne (tgt := 35) kd311.2.2.2.2.2.2.1 (by decide) (fun c => ?_) (fun c => ?_)
  · refine jx_iconst (v := -1) kd312.2.2.2.2.2.2.2.2.1 (by decide) ?_
    exact fin (-1) (fun _ => h0 (Or.inl (fun z => c (by rw [z]; rfl)))) (fun q => absurd (by decide) q) (fun _ => rfl)
  · have ec : k.2.1 - k.1 = 1 := nI_inj (b := 1) (by omega) (by omega) c
    refine jx_aload_n 0 kd311.2.2.2.2.2.2.2.1 rfl rfl ?_
    refine jx_geti jc_8 (j := 6) (by decide) rfl jwF_X8_45 kd311.2.2.2.2.2.2.2.2.1 hT.1.1 ?_
    rw [h6]
    refine jx_callSr (M' := mX8_namesOf) (As := [.int (nI key)]) (Q' := fun o S' => o = some (eK E (3 + key)) ∧ S' = S) jo_X8_namesOf jwM_X8_130 jwS_X8_namesOf kd312.1 (jRok_m _ _ _) rfl (jle rfl) ⟨jle rfl, jle rfl⟩ (T_X8_namesOf hk ⟨rfl, rfl⟩) (fun o S' e => ?_)
    obtain ⟨rfl, rfl⟩ := e
    refine jx_aload_n 0 kd312.2.1 rfl rfl ?_
    refine jx_aload_n 0 kd312.2.2.1 rfl rfl ?_
    refine jx_geti jc_8 (j := 2) (by decide) rfl jwF_X8_63 kd312.2.2.2.1 hT.1.1 ?_
    rw [hK.1]
    refine jx_callVi (M' := mX8_byteAt) (As := [.int (nI k.1)]) (Q' := fun r S1 => r = nI (b k.1) ∧ S1 = S') jo_X8_byteAt jc_8 rfl jwM_X8_66 jwN_X8_byteAt jwX_X8_byteAt kd312.2.2.2.2.1 (jRok_m _ _ _) rfl (jle rfl) ⟨jle rfl, jle rfl⟩ hT.1.1 (c_X8_byteAt hT hl ⟨rfl, rfl⟩) (fun r S1 e => ?_)
    obtain ⟨rfl, rfl⟩ := e
    refine jx_i2c kd312.2.2.2.2.2.1 ?_
    rw [chr_id ⟨b k.1, hb⟩]
    refine jx_callKi (i := 3 + key) (M' := mJ0_indexOf_0f7a4) (As := [.int (nI (b k.1))]) (Q' := fun r S2 => r = (if pnam key (b k.1) = 9 then -1 else nI (pnam key (b k.1))) ∧ S2 = S1) jo_J0_indexOf_0f7a4 (by omega) rfl jwM_X8_133 jwN_J0_indexOf_0f7a4 jwX_J0_indexOf_0f7a4 kd312.2.2.2.2.2.2.1 (jRok_m _ _ _) rfl (jle rfl) ⟨jle rfl, jle rfl⟩ (c_J0_indexOf (by omega) (nI_pos (by omega)) (fun z => ?_) ⟨pnam_ix ⟨key, hk⟩ ⟨b k.1, hb⟩, rfl⟩) (fun r S2 e => ?_)
    · have := (nI_ltI (a := 255) (by omega) (by omega)).mp z
      omega
    · obtain ⟨rfl, rfl⟩ := e
      refine jx_goto (tgt := 36) kd312.2.2.2.2.2.2.2.1 (by decide) ?_
      by_cases c9 : pnam key (b k.1) = 9
      · rw [if_pos c9]
        exact fin (-1) (fun _ => h0 (Or.inr c9)) (fun q => absurd (by decide) q) (fun _ => rfl)
      · rw [if_neg c9]
        refine fin _ (fun z => ?_) (fun _ => ?_) (fun z => absurd z (nI_pos (by omega)))
        · have := nI_pos (n := pnam key (b k.1)) (by omega)
          rw [z] at this; exact absurd (by decide) this
        · rw [show (10000 : Int32) = nI 10000 from rfl, nI_add]; exact h1 ec c9
end jTape2
end
section
/-! TEXT: the class reads -/
section jTape3
variable {E : jEnv} {d : Nat} {S S' : jM} {t n : Nat} {b : Nat → Nat} {k : jtk}
theorem sL_k : ∀ i : Fin 3, sL i.val = 4 := by decide +kernel
theorem c_X8_isWordInHand {Q : Int32 → jM → Prop} {i : Nat} (hT : TB S t n b) (hK : TKC S t k) (ok : TKok b n k) (hi : i < 3) (h1 : pwd b k i → Q 1 S) (h0 : ¬ pwd b k i → Q 0 S) : jFi E mX8_isWordInHand (d + 4) 0 0 [.ref t, .ref (eK E i)] S Q := by
  have h96 := hT.2.1
  have kl := ok.1
  have ke := ok.2.1
  have s3 := ok.so
  have i6 : i < 6 := by omega
  have l4 : sL i = 4 := sL_k ⟨i, hi⟩
  have no : ∀ {lv : List (Nat × Value)}, ¬ pwd b k i → jX E mX8_isWordInHand (jRm (d + 4) 0 0) (jZm E (fun r S' => ∃ v : Int32, r = some (.int v) ∧ Q v S') 0 0) 24 lv [] S 0 0 := by
    intro lv hn
    refine jx_iconst (v := 0) kd280.2.2.2.1 (by decide) ?_
    exact jx_iret kd280.2.2.2.2.1 rfl (by decide) (jle rfl) (jle rfl) ⟨_, rfl, h0 hn⟩
  have len : ∀ {pc : Nat} {lv : List (Nat × Value)} {st : List Value}, decode cX8_isWordInHand pc = .ok (.invokevirtual 85, 3) → (st.map fun v => v.category).sum ≤ 8 → jX E mX8_isWordInHand (jRm (d + 4) 0 0) (jZm E (fun r S' => ∃ v : Int32, r = some (.int v) ∧ Q v S') 0 0) (pc + 3) lv (.int (nI 4) :: st) S 0 0 → jX E mX8_isWordInHand (jRm (d + 4) 0 0) (jZm E (fun r S' => ∃ v : Int32, r = some (.int v) ∧ Q v S') 0 0) pc lv (.ref (eK E i) :: st) S 0 0 := by
    intro pc lv st hd hs h
    refine jx_callKi (i := i) (M' := mJ0_length_8abf5) (As := []) (Q' := fun r S' => r = nI (sL i) ∧ S' = S) jo_J0_length_8abf5 i6 rfl jwM_X8_85 jwN_J0_length_8abf5 jwX_J0_length_8abf5 hd (jRok_m _ _ _) rfl hs ⟨jle rfl, jle rfl⟩ (c_J0_length i6 ⟨rfl, rfl⟩) (fun r S' e => ?_)
    obtain ⟨rfl, rfl⟩ := e
    rw [l4]; exact h
  have loop : ∀ (c j : Nat), j + c = 4 → k.2.2.1 = 1 → k.2.1 - k.1 = 4 → (∀ q, q < j → nI (b (k.1 + q)) = sB i q) → jX E mX8_isWordInHand (jRm (d + 4) 0 0) (jZm E (fun r S' => ∃ v : Int32, r = some (.int v) ∧ Q v S') 0 0) 28 [(2, .int (nI j)), (0, .ref t), (1, .ref (eK E i))] [] S 0 0 := by
    intro c
    induction c with
    | zero =>
      intro j hj e1 e4 hall
      obtain rfl : j = 4 := by omega
      refine jx_iload_n 0 kd280.2.2.2.2.2.2.2.1 rfl rfl ?_
      refine jx_aload_n 2 kd280.2.2.2.2.2.2.2.2.1 rfl rfl ?_
      refine len kd281.1 (jle rfl) ?_
      refine jx_icmp_ge (tgt := 62) kd281.2.1 (by decide) (fun _ => ?_) (fun c => absurd Int32.le_rfl c)
      refine jx_iconst (v := 1) kd282.2.2.2.2.2.2.2.1 (by decide) ?_
      exact jx_iret kd282.2.2.2.2.2.2.2.2.1 rfl (by decide) (jle rfl) (jle rfl) ⟨_, rfl, h1 ⟨e1, e4, hall⟩⟩
    | succ c ih =>
      intro j hj e1 e4 hall
      refine jx_iload_n 0 kd280.2.2.2.2.2.2.2.1 rfl rfl ?_
      refine jx_aload_n 2 kd280.2.2.2.2.2.2.2.2.1 rfl rfl ?_
      refine len kd281.1 (jle rfl) ?_
      refine jx_icmp_ge (tgt := 62) kd281.2.1 (by decide) (fun c => absurd c (nI_ge (by omega) (by omega))) (fun _ => ?_)
      refine jx_aload_n 1 kd281.2.2.1 rfl rfl ?_
      refine jx_aload_n 1 kd281.2.2.2.1 rfl rfl ?_
      refine jx_geti jc_8 (j := 2) (by decide) rfl jwF_X8_63 kd281.2.2.2.2.1 hT.1.1 ?_
      refine jx_iload_n 0 kd281.2.2.2.2.2.1 rfl rfl ?_
      refine jx_iadd kd281.2.2.2.2.2.2.1 ?_
      rw [hK.1, nI_add]
      refine jx_callVi (M' := mX8_byteAt) (As := [.int (nI (k.1 + j))]) (Q' := fun r S1 => r = nI (b (k.1 + j)) ∧ S1 = S) jo_X8_byteAt jc_8 rfl jwM_X8_66 jwN_X8_byteAt jwX_X8_byteAt kd281.2.2.2.2.2.2.2.1 (jRok_m _ _ _) rfl (jle rfl) ⟨jle rfl, jle rfl⟩ hT.1.1 (c_X8_byteAt hT (by omega) ⟨rfl, rfl⟩) (fun r S1 e => ?_)
      obtain ⟨rfl, rfl⟩ := e
      refine jx_aload_n 2 kd281.2.2.2.2.2.2.2.2.1 rfl rfl ?_
      refine jx_iload_n 0 kd282.1 rfl rfl ?_
      refine jx_callKi (i := i) (M' := mJ0_charAt_5068e) (As := [.int (nI j)]) (Q' := fun r S2 => r = sB i j ∧ S2 = S1) jo_J0_charAt_5068e i6 rfl jwM_X8_90 jwN_J0_charAt_5068e jwX_J0_charAt_5068e kd282.2.1 (jRok_m _ _ _) rfl (jle rfl) ⟨jle rfl, jle rfl⟩ (c_J0_charAt i6 (by omega) ⟨rfl, rfl⟩) (fun r S2 e => ?_)
      obtain ⟨rfl, rfl⟩ := e
      refine jx_icmp_eq (tgt := 56) kd282.2.2.1 (by decide) (fun c => ?_) (fun c => ?_)
      · refine jx_iinc 0 (v := nI (j + 1)) (lv1 := [(2, .int (nI (j + 1))), (0, .ref t), (1, .ref (eK E i))]) kd282.2.2.2.2.2.1 rfl (nI_1 j) (by decide) rfl ?_
        refine jx_goto (tgt := 28) kd282.2.2.2.2.2.2.1 (by decide) ?_
        refine ih (j + 1) (by omega) e1 e4 (fun q hq => ?_)
        by_cases e : q = j
        · rw [e]; exact c
        · exact hall q (by omega)
      · refine jx_iconst (v := 0) kd282.2.2.2.1 (by decide) ?_
        exact jx_iret kd282.2.2.2.2.1 rfl (by decide) (jle rfl) (jle rfl) ⟨_, rfl, h0 (fun z => c (z.2.2 j (by omega)))⟩
  refine jF_of (by decide) (jle rfl) ?_
  refine jx_lv (lv1 := [(0, .ref t), (1, .ref (eK E i))]) [0, 1] rfl ?_
  refine jx_aload_n 0 kd279.1 rfl rfl ?_
  refine jx_geti jc_8 (j := 4) (by decide) rfl jwF_X8_29 kd279.2.1 hT.1.1 ?_
  rw [hK.2.2.1]
  refine jx_iconst (v := 1) kd279.2.2.1 (by decide) ?_
  refine jx_icmp_ne (tgt := 24) kd279.2.2.2.1 (by decide) (fun c => no (fun z => c (by rw [z.1]; rfl))) (fun c => ?_)
  have e1 : k.2.2.1 = 1 := nI_inj (b := 1) (by omega) (by omega) c
  refine jx_aload_n 0 kd279.2.2.2.2.1 rfl rfl ?_
  refine jx_geti jc_8 (j := 3) (by decide) rfl jwF_X8_26 kd279.2.2.2.2.2.1 hT.1.1 ?_
  refine jx_aload_n 0 kd279.2.2.2.2.2.2.1 rfl rfl ?_
  refine jx_geti jc_8 (j := 2) (by decide) rfl jwF_X8_63 kd279.2.2.2.2.2.2.2.1 hT.1.1 ?_
  refine jx_isub kd279.2.2.2.2.2.2.2.2.1 ?_
  rw [hK.1, hK.2.1, nI_sub kl]
  refine jx_aload_n 1 kd280.1 rfl rfl ?_
  refine len kd280.2.1 (jle rfl) ?_
  refine jx_icmp_eq (tgt := 26) kd280.2.2.1 (by decide) (fun c4 => ?_) (fun c4 => no (fun z => c4 (by rw [z.2.1])))
  have e4 : k.2.1 - k.1 = 4 := nI_inj (by omega) (by omega) c4
  refine jx_iconst (v := 0) kd280.2.2.2.2.2.1 (by decide) ?_
  refine jx_istore_n (lv1 := [(2, .int (nI 0)), (0, .ref t), (1, .ref (eK E i))]) kd280.2.2.2.2.2.2.1 rfl (by decide) rfl ?_
  exact loop 4 0 (by omega) e1 e4 (fun q hq => absurd hq (Nat.not_lt_zero _))
theorem c_X8_keyInHand {Q : Int32 → jM → Prop} (hT : TB S t n b) (hK : TKC S t k) (ok : TKok b n k) (h1 : ∀ i, i < 3 → pwd b k i → (∀ j, j < i → ¬ pwd b k j) → Q (nI i) S) (h0 : (∀ j, j < 3 → ¬ pwd b k j) → Q (-1) S) : jFi E mX8_keyInHand (d + 5) 0 0 [.ref t] S Q := by
  have one : ∀ i, i < 3 → (∀ j, j < i → ¬ pwd b k j) → ((∀ j, j < i + 1 → ¬ pwd b k j) → L_X8_keyInHand_2 E (d + 4) Q t (nI (i + 1)) S) → L_X8_keyInHand_2 E (d + 4) Q t (nI i) S := by
    intro i hi hno nxt
    have w : ∀ q, q = eK E i → ((some q = none → jk S t = 8 ∧ jFi E mX8_isWordInHand (d + 4) 0 0 [.ref t, .null] S (fun r7 S6 => (r7 = 0 → L_X8_keyInHand_2 E (d + 4) Q t (nI i + 1) S6) ∧ (¬ r7 = 0 → Q (nI i) S6))) ∧ (∀ b4, some q = some b4 → jk S t = 8 ∧ jFi E mX8_isWordInHand (d + 4) 0 0 [.ref t, .ref b4] S (fun r11 S10 => (r11 = 0 → L_X8_keyInHand_2 E (d + 4) Q t (nI i + 1) S10) ∧ (¬ r11 = 0 → Q (nI i) S10)))) := by
      intro q eq
      refine ⟨fun c => absurd c (by simp), fun b4 e => ⟨hT.1.1, ?_⟩⟩
      obtain rfl : q = b4 := Option.some.inj e
      rw [eq, nI_1]
      exact c_X8_isWordInHand hT hK ok hi (fun z => ⟨fun c => absurd c (by decide), fun _ => h1 i hi z hno⟩) (fun z => ⟨fun _ => nxt (fun j hj => by
        by_cases e : j = i
        · rw [e]; exact z
        · exact hno j (by omega)), fun c => absurd rfl c⟩)
    refine T_X8_keyInHand_2 ⟨fun c => absurd c (nI_ge (b := 3) (by omega) (by omega)), fun _ => T_X8_wordOf ⟨fun c => w _ ?_, fun c => w _ ?_, fun c c2 => w _ ?_⟩⟩
    · have : i = 0 := nI_inj (b := 0) (by omega) (by omega) c
      rw [this]
    · have : i = 1 := nI_inj (b := 1) (by omega) (by omega) c
      rw [this]
    · have : i = 2 := by
        have q0 : i ≠ 0 := fun z => c (by rw [z]; rfl)
        have q1 : i ≠ 1 := fun z => c2 (by rw [z]; rfl)
        omega
      rw [this]
  exact T_X8_keyInHand (one 0 (by omega) (fun j hj => absurd hj (Nat.not_lt_zero _)) (fun a0 => one 1 (by omega) a0 (fun a1 => one 2 (by omega) a1 (fun a2 => T_X8_keyInHand_2 ⟨fun _ => h0 a2, fun c => absurd (by decide) c⟩))))
/-! writing -/
theorem getD_app {L : List Nat} {w i : Nat} : (L ++ [w]).getD i 0 = if i = L.length then w else L.getD i 0 := by
  by_cases h : i = L.length
  · rw [if_pos h, h]; simp [List.getD_eq_getElem?_getD]
  · rw [if_neg h]
    rcases Nat.lt_or_ge i L.length with q | q
    · simp [List.getD_eq_getElem?_getD, List.getElem?_append_left q]
    · have h1 : (L ++ [w])[i]? = none := by
        apply List.getElem?_eq_none
        rw [List.length_append]
        show L.length + 1 ≤ i
        omega
      have h2 : L[i]? = none := List.getElem?_eq_none q
      simp [List.getD_eq_getElem?_getD, h1, h2]
theorem c_X8_write {Q : jM → Prop} {L : List Nat} {w : Nat} (hT : TB S t n b) (hL : CDC S t L) (h96 : L.length < 96) (hq : ∀ S', jtp S S' t → (∀ j, j ≠ 9 → ji S' t j = ji S t j) → ji S' t 9 = nI (L.length + 1) → (∀ i, i < L.length + 1 → ji S' (t + 2) i = nI ((L ++ [w]).getD i 0)) → Q S') : jFv E mX8_write (d + 1) 0 0 [.ref t, .int (nI w)] S Q := by
  obtain ⟨l1, l2, l3⟩ := hL
  refine T_X8_write ⟨hT.1.1, ?_⟩
  rw [l1]
  refine ⟨fun c => absurd c (jwi96 h96), fun _ => ⟨_, hT.1.2.2.1, hT.1.2.2.2.2.2.1, by rw [hT.1.2.2.2.2.2.2]; exact jin_nI h96 (by omega), ?_⟩⟩
  rw [jcl (by omega), nI_1]
  refine hq _ ⟨⟨rfl, rfl, rfl, rfl⟩, fun y a c => by rw [ji_put_ne _ _ _ _ a, ji_put_ne _ _ _ _ c], fun j hj => by rw [ji_put, if_neg (by omega), ji_put_ne _ _ _ _ (by omega)]⟩ (fun j hj => by rw [ji_put, if_neg (by omega), ji_put_ne _ _ _ _ (by omega)]) (ji_put_same _ _ _ _) (fun i hi => ?_)
  rw [ji_put_ne _ _ _ _ (by omega), ji_put, getD_app]
  by_cases e : i = L.length
  · rw [if_pos ⟨rfl, e⟩, if_pos e]
  · rw [if_neg (fun z => e z.2), if_neg e]; exact l3 i (by omega)
/-- written whatever stands there -/
theorem c_X8_writeAny {Q : jM → Prop} {w : Int32} (hT : TB S t n b) (hq : ∀ S', jtp S S' t → ji S' t 2 = ji S t 2 → Q S') : jFv E mX8_write (d + 1) 0 0 [.ref t, .int w] S Q := by
  refine T_X8_write ⟨hT.1.1, fun _ => hq S jtp.rfl rfl, fun c => ⟨_, hT.1.2.2.1, hT.1.2.2.2.2.2.1, by rw [hT.1.2.2.2.2.2.2]; exact jwi_in (n := 96) (by omega) c, ?_⟩⟩
  refine hq _ ⟨⟨rfl, rfl, rfl, rfl⟩, fun y a c => by rw [ji_put_ne _ _ _ _ a, ji_put_ne _ _ _ _ c], fun j hj => by rw [ji_put, if_neg (by omega), ji_put_ne _ _ _ _ (by omega)]⟩ ?_
  rw [ji_put, if_neg (by omega), ji_put_ne _ _ _ _ (by omega)]
theorem c_X8_readsOperand {Q : Int32 → jM → Prop} {key : Nat} {L : List Nat} (hT : TB S t n b) (hK : TKC S t k) (ok : TKok b n k) (hk : key < 3) (h6 : ji S t 6 = nI key) (hL : CDC S t L) (hlen : L.length + 1 ≤ k.1) (hs : k.2.2.1 = 1 ∨ k.2.2.1 = 2) (h0 : popd b key k = 30000 → Q 0 S) (h1 : ¬ popd b key k = 30000 → ∀ S', jtp S S' t → TKC S' t (pnext b n k) → CDC S' t (L ++ [popd b key k]) → Q 1 S') : jFi E mX8_readsOperand (d + 5) 0 0 [.ref t] S Q := by
  have h96 := hT.2.1
  have hl := ok.lt (by omega)
  have n5 := hK.2.2.2
  have nb := ok.2.2.2.2.1
  have put : ∀ w : Nat, w = popd b key k → ¬ popd b key k = 30000 → jFv E mX8_write (d + 4) 0 0 [.ref t, .int (nI w)] S (fun S8 => jk S8 t = 8 ∧ jFv E mX8_step (d + 4) 0 0 [.ref t] (jput S8 t 7 ((ji S8 t 7) + 1)) (fun S10 => Q 1 S10)) := by
    intro w ew hne
    have w2 := (popd_ok ok hne).2.1
    refine c_X8_write hT hL (by omega) (fun S1 g1 f1 e9 r1 => ⟨(hT.tp g1).1.1, ?_⟩)
    have T1 := hT.tp g1
    rw [f1 7 (by omega), hL.2.1, nI_1]
    have g2 : jtp S1 (jput S1 t 7 (nI (pops L + 1))) t := ⟨⟨rfl, rfl, rfl, rfl⟩, fun y a _ => ji_put_ne _ _ _ _ a, fun j hj => by rw [ji_put, if_neg (by omega)]⟩
    have T2 := T1.tp g2
    have K2 : TKC (jput S1 t 7 (nI (pops L + 1))) t k := ⟨by rw [ji_put, if_neg (by omega), f1 2 (by omega)]; exact hK.1, by rw [ji_put, if_neg (by omega), f1 3 (by omega)]; exact hK.2.1, by rw [ji_put, if_neg (by omega), f1 4 (by omega)]; exact hK.2.2.1, by rw [ji_put, if_neg (by omega), f1 5 (by omega)]; exact hK.2.2.2⟩
    have C2 : CDC (jput S1 t 7 (nI (pops L + 1))) t (L ++ [popd b key k]) := by
      refine ⟨?_, ?_, fun i hi => ?_⟩
      · rw [ji_put, if_neg (by omega), e9, List.length_append]; rfl
      · rw [ji_put_same, pops_app]
        show _ = nI (pops L + ((if popd b key k < 20000 then 1 else 0) + 0))
        rw [if_pos w2]
      · rw [ji_put_ne _ _ _ _ (by omega), ← ew]
        exact r1 i (by rw [List.length_append] at hi; exact hi)
    exact c_X8_next T2 K2 ok (fun S3 g3 K3 => h1 hne S3 ((g1.trans g2).trans g3.tp) K3 (C2.ts g3))
  have bad : ∀ r : Int32, (popd b key k = 30000 ∨ (¬ k.2.2.2 = 1 ∧ r = nI (popd b key k))) → (r < 0 → popd b key k = 30000) → (popd b key k = 30000 → ¬ k.2.2.2 = 1 → r = -1) → (jk S t = 8 ∧ ((ji S t 5) = 0 → (0 ≤ r → jFv E mX8_write (d + 4) 0 0 [.ref t, .int r] S (fun S8 => jk S8 t = 8 ∧ jFv E mX8_step (d + 4) 0 0 [.ref t] (jput S8 t 7 ((ji S8 t 7) + 1)) (fun S10 => Q 1 S10))) ∧ (¬ 0 ≤ r → Q 0 S)) ∧ (¬ (ji S t 5) = 0 → Q 0 S)) := by
    intro r hr hneg hm1
    rw [n5]
    refine ⟨hT.1.1, fun c5 => ⟨fun c0 => ?_, fun c0 => h0 (hneg (Int32.not_le.mp c0))⟩, fun c5 => h0 ?_⟩
    · have e5 : ¬ k.2.2.2 = 1 := fun z => by rw [z] at c5; exact absurd c5 (by decide)
      by_cases hp : popd b key k = 30000
      · rw [hm1 hp e5] at c0; exact absurd c0 (by decide)
      · rcases hr with q | q
        · exact absurd q hp
        · rw [q.2]; exact put _ rfl hp
    · have e5 : k.2.2.2 = 1 := by
        rcases nb with q | q
        · rw [q] at c5; exact absurd rfl c5
        · exact q
      unfold popd; rw [if_pos e5]
  have s3 := ok.so
  refine T_X8_readsOperand ⟨hT.1.1, ?_⟩
  rw [hK.2.2.1]
  refine ⟨fun c2 => ?_, fun c2 => ?_⟩
  · have e2 : k.2.2.1 = 2 := nI_inj (b := 2) (by omega) (by omega) c2
    have ep : ¬ k.2.2.2 = 1 → popd b key k = if 4 < k.2.1 - k.1 then 30000 else pnum b (k.2.1 - k.1) k.1 0 := fun q => by unfold popd; rw [if_neg q, if_pos e2]
    refine c_X8_numberInHand hT hK ok e2 (fun q4 => bad (-1) (Or.inl ?_) (fun _ => ?_) (fun _ _ => rfl)) (fun q4 => bad _ ?_ (fun z => absurd z ?_) (fun z q => ?_))
    · by_cases q : k.2.2.2 = 1
      · unfold popd; rw [if_pos q]
      · rw [ep q, if_pos q4]
    · by_cases q : k.2.2.2 = 1
      · unfold popd; rw [if_pos q]
      · rw [ep q, if_pos q4]
    · by_cases q : k.2.2.2 = 1
      · exact Or.inl (by unfold popd; rw [if_pos q])
      · exact Or.inr ⟨q, by rw [ep q, if_neg q4]⟩
    · have hb := pnum_lt b (k.2.1 - k.1) k.1 0 0 (fun q q1 q2 => psrt_2 ((ok.2.2.2.2.2.2 q q1 (by omega)).trans e2)) (by decide)
      have hp : 10 ^ (0 + (k.2.1 - k.1)) ≤ 10 ^ 4 := Nat.pow_le_pow_right (by omega) (by omega)
      have e4 : (10 : Nat) ^ 4 = 10000 := by decide
      exact nI_pos (by omega)
    · rw [ep q, if_neg q4] at z
      have hb := pnum_lt b (k.2.1 - k.1) k.1 0 0 (fun q q1 q2 => psrt_2 ((ok.2.2.2.2.2.2 q q1 (by omega)).trans e2)) (by decide)
      have hp : 10 ^ (0 + (k.2.1 - k.1)) ≤ 10 ^ 4 := Nat.pow_le_pow_right (by omega) (by omega)
      have e4 : (10 : Nat) ^ 4 = 10000 := by decide
      omega
  · have e2 : ¬ k.2.2.1 = 2 := fun z => c2 (by rw [z]; rfl)
    have e1 : k.2.2.1 = 1 := by omega
    have ep : ¬ k.2.2.2 = 1 → popd b key k = if k.2.1 - k.1 = 1 then (if pnam key (b k.1) = 9 then 30000 else 10000 + pnam key (b k.1)) else 30000 := fun q => by unfold popd; rw [if_neg q, if_neg e2, if_pos e1]
    have p9 := pnam_le key (b k.1)
    refine c_X8_nameInHand hT hK ok hk h6 e1 (fun q4 => bad (-1) (Or.inl ?_) (fun _ => ?_) (fun _ _ => rfl)) (fun q4 q5 => bad _ ?_ (fun z => absurd z (nI_pos (by omega))) (fun z q => ?_))
    · by_cases q : k.2.2.2 = 1
      · unfold popd; rw [if_pos q]
      · rw [ep q]
        rcases q4 with q4 | q4
        · rw [if_neg q4]
        · by_cases q5 : k.2.1 - k.1 = 1
          · rw [if_pos q5, if_pos q4]
          · rw [if_neg q5]
    · by_cases q : k.2.2.2 = 1
      · unfold popd; rw [if_pos q]
      · rw [ep q]
        rcases q4 with q4 | q4
        · rw [if_neg q4]
        · by_cases q5 : k.2.1 - k.1 = 1
          · rw [if_pos q5, if_pos q4]
          · rw [if_neg q5]
    · by_cases q : k.2.2.2 = 1
      · exact Or.inl (by unfold popd; rw [if_pos q])
      · exact Or.inr ⟨q, by rw [ep q, if_pos q4, if_neg q5]⟩
    · rw [ep q, if_pos q4, if_neg q5] at z; omega
end jTape3
end
section
/-! TEXT: the class reads chains and pieces as the plain reading does -/
def PO8 (S : jM) (t : Nat) (r : jrs) : Prop := (r.1 = true → TKC S t r.2.1 ∧ CDC S t r.2.2) ∧ (r.1 = false → ji S t 2 = nI r.2.1.1)
def rB (r : jrs) : Int32 := if r.1 = true then 1 else 0
section jTape4
variable {E : jEnv} {d : Nat} {S S' : jM} {t n key : Nat} {b : Nat → Nat} {k : jtk}
theorem rB_01 (r : jrs) : rB r = 0 ∨ rB r = 1 := by
  unfold rB; split
  · exact Or.inr rfl
  · exact Or.inl rfl
theorem CDC.not {L : List Nat} {w : Nat} (hw : ¬ w < 20000) (hL : CDC S t L) (f : ∀ j, j ≠ 9 → ji S' t j = ji S t j) (e9 : ji S' t 9 = nI (L.length + 1)) (r : ∀ i, i < L.length + 1 → ji S' (t + 2) i = nI ((L ++ [w]).getD i 0)) : CDC S' t (L ++ [w]) := by
  refine ⟨by rw [e9, List.length_append]; rfl, ?_, fun i hi => r i (by rw [List.length_append] at hi; exact hi)⟩
  rw [f 7 (by omega), pops_app]
  show _ = nI (pops L + ((if w < 20000 then 1 else 0) + 0))
  rw [if_neg hw]; exact hL.2.1
theorem TKC.of (h : TKC S t k) (f : ∀ j, j ≠ 9 → ji S' t j = ji S t j) : TKC S' t k := ⟨(f 2 (by omega)).trans h.1, (f 3 (by omega)).trans h.2.1, (f 4 (by omega)).trans h.2.2.1, (f 5 (by omega)).trans h.2.2.2⟩
theorem c_X8_read (hk : key < 3) : ∀ (F : Nat),
    (∀ (par bang D : Nat) (k : jtk) (L : List Nat) (S : jM) (Q : Int32 → jM → Prop), 2 * F + 5 ≤ D → pmu 5 par bang ≤ F → par ≤ 8 → bang ≤ 8 → TB S t n b → ji S t 6 = nI key → TKC S t k → TKok b n k → CDC S t L → L.length + 1 ≤ k.1 → (∀ S', jtp S S' t → PO8 S' t (pread b n key F 5 par bang k L) → Q (rB (pread b n key F 5 par bang k L)) S') → jFi E mX8_readsPiece D 0 0 [.ref t, .int (nI par), .int (nI bang)] S Q) ∧
    (∀ (lev par bang D : Nat) (k : jtk) (L : List Nat) (S : jM) (Q : Int32 → jM → Prop), 2 * F + 6 ≤ D → pmu lev par bang ≤ F → lev ≤ 5 → par ≤ 8 → bang ≤ 8 → TB S t n b → ji S t 6 = nI key → TKC S t k → TKok b n k → CDC S t L → L.length + 1 ≤ k.1 → (∀ S', jtp S S' t → PO8 S' t (pread b n key F lev par bang k L) → Q (rB (pread b n key F lev par bang k L)) S') → jFi E mX8_readsChain D 0 0 [.ref t, .int (nI lev), .int (nI par), .int (nI bang)] S Q) := by
  intro F
  induction F with
  | zero =>
    refine ⟨fun par bang D k L S Q hD hm => ?_, fun lev par bang D k L S Q hD hm hl => ?_⟩
    · unfold pmu at hm; omega
    · unfold pmu at hm; omega
  | succ F ih =>
    obtain ⟨ihP, ihC⟩ := ih
    have piece : ∀ (par bang D : Nat) (k : jtk) (L : List Nat) (S : jM) (Q : Int32 → jM → Prop), 2 * (F + 1) + 5 ≤ D → pmu 5 par bang ≤ F + 1 → par ≤ 8 → bang ≤ 8 → TB S t n b → ji S t 6 = nI key → TKC S t k → TKok b n k → CDC S t L → L.length + 1 ≤ k.1 → (∀ S', jtp S S' t → PO8 S' t (pread b n key (F + 1) 5 par bang k L) → Q (rB (pread b n key (F + 1) 5 par bang k L)) S') → jFi E mX8_readsPiece D 0 0 [.ref t, .int (nI par), .int (nI bang)] S Q := by
      intro par bang D k L S Q hD hm hp8 hb8 hT h6 hK ok hL hlen hq
      obtain ⟨e, rfl⟩ : ∃ e, D = e + 5 + 1 := ⟨D - 6, by omega⟩
      have h96 := hT.2.1
      have s3 := ok.so
      have hn := pnext_ok ok
      have er : pread b n key (F + 1) 5 par bang k L = if k.2.2.1 = 1 ∨ k.2.2.1 = 2 then (if popd b key k = 30000 then (false, k, []) else (true, pnext b n k, L ++ [popd b key k]))
        else if k.2.2.1 = 3 ∧ b k.1 = 33 ∧ bang < 8 then
          (if (pread b n key F 5 par (bang + 1) (pnext b n k) L).1 = true then (true, (pread b n key F 5 par (bang + 1) (pnext b n k) L).2.1, (pread b n key F 5 par (bang + 1) (pnext b n k) L).2.2 ++ [20033]) else (false, (pread b n key F 5 par (bang + 1) (pnext b n k) L).2.1, []))
        else if k.2.2.1 = 3 ∧ b k.1 = 40 ∧ par < 8 then
          (if (pread b n key F 0 (par + 1) bang (pnext b n k) L).1 = true ∧ (pread b n key F 0 (par + 1) bang (pnext b n k) L).2.1.2.2.1 = 3 ∧ b (pread b n key F 0 (par + 1) bang (pnext b n k) L).2.1.1 = 41 then (true, pnext b n (pread b n key F 0 (par + 1) bang (pnext b n k) L).2.1, (pread b n key F 0 (par + 1) bang (pnext b n k) L).2.2)
            else (false, (pread b n key F 0 (par + 1) bang (pnext b n k) L).2.1, []))
        else (false, k, []) := by rw [pread]; rw [if_neg (by omega)]
      rw [er] at hq
      unfold pmu at hm
      -- an operand
      have opd : (k.2.2.1 = 1 ∨ k.2.2.1 = 2) → jFi E mX8_readsOperand (e + 5) 0 0 [.ref t] S (fun r S3 => (r = 0 ∨ r = 1) ∧ Q r S3) := by
        intro hs
        rw [if_pos hs] at hq
        refine c_X8_readsOperand hT hK ok hk h6 hL hlen hs (fun c => ⟨Or.inl rfl, ?_⟩) (fun c S1 g1 K1 C1 => ⟨Or.inr rfl, ?_⟩)
        · rw [if_pos c] at hq
          exact hq S jtp.rfl ⟨fun z => Bool.noConfusion z, fun _ => hK.1⟩
        · rw [if_neg c] at hq
          exact hq S1 g1 ⟨fun _ => ⟨K1, C1⟩, fun z => Bool.noConfusion z⟩
      have paren : ¬ (k.2.2.1 = 1 ∨ k.2.2.1 = 2) → ¬ (k.2.2.1 = 3 ∧ b k.1 = 33 ∧ bang < 8) → jFi E mX8_isInHand (e + 5) 0 0 [.ref t, .int 40] S (fun r12 S11 => (r12 = 0 → Q 0 S11) ∧ (¬ r12 = 0 → (8 ≤ nI par → Q 0 S11) ∧ (¬ 8 ≤ nI par → jk S11 t = 8 ∧ jFv E mX8_step (e + 5) 0 0 [.ref t] S11 (fun S16 => jk S16 t = 8 ∧ jFi E mX8_readsChain (e + 5) 0 0 [.ref t, .int 0, .int (nI par + 1), .int (nI bang)] S16 (fun r19 S18 => (r19 = 0 → Q 0 S18) ∧ (¬ r19 = 0 → jk S18 t = 8 ∧ jFi E mX8_isInHand (e + 5) 0 0 [.ref t, .int 41] S18 (fun r23 S22 => (r23 = 0 → Q 0 S22) ∧ (¬ r23 = 0 → jk S22 t = 8 ∧ jFv E mX8_step (e + 5) 0 0 [.ref t] S22 (fun S26 => Q 1 S26))))))))) := by
        intro n1 n2
        rw [if_neg n1, if_neg n2] at hq
        refine c_X8_isInHand (c := 40) hT hK ok (by omega) (fun c3 c40 => ⟨fun z => absurd z (by decide), fun _ => ⟨fun z => ?_, fun z => ?_⟩⟩) (fun nn => ⟨fun _ => ?_, fun z => absurd rfl z⟩)
        · have hp : ¬ par < 8 := fun q => by
            have := (nI_leI (a := 8) (by omega) (by omega)).mp z
            omega
          rw [if_neg (fun q => hp q.2.2)] at hq
          exact hq S jtp.rfl ⟨fun z => Bool.noConfusion z, fun _ => hK.1⟩
        · have hp : par < 8 := by
            rcases Nat.lt_or_ge par 8 with q | q
            · exact q
            · exact absurd (nI_le (a := 8) q (by omega)) z
          rw [if_pos ⟨c3, c40, hp⟩] at hq
          have en : k.1 < k.2.1 := ok.2.2.2.1 (by omega)
          refine ⟨hT.1.1, c_X8_next hT hK ok (fun S1 g1 K1 => ⟨(hT.ts g1).1.1, ?_⟩)⟩
          rw [nI_1]
          have pg := pread_ok (b := b) (n := n) (key := key) F 0 (par + 1) bang (pnext b n k) L hn.1
          refine ihC 0 (par + 1) bang (e + 5) (pnext b n k) L S1 _ (by omega) (by unfold pmu; omega) (by omega) (by omega) hb8 (hT.ts g1) ((g1.2.2 6 (by omega)).trans h6) K1 hn.1 (hL.ts g1) (by omega) (fun S2 g2 p2 => ?_)
          generalize pread b n key F 0 (par + 1) bang (pnext b n k) L = r at hq pg p2 ⊢
          have g12 : jtp S S2 t := g1.tp.trans g2
          by_cases c1 : r.1 = true
          · have eB : rB r = 1 := by unfold rB; rw [if_pos c1]
            rw [eB]
            obtain ⟨K2, C2⟩ := p2.1 c1
            have T2 := hT.tp g12
            refine ⟨fun z => absurd z (by decide), fun _ => ⟨T2.1.1, c_X8_isInHand (c := 41) T2 K2 pg.1 (by omega) (fun d3 d41 => ⟨fun z => absurd z (by decide), fun _ => ⟨T2.1.1, c_X8_next T2 K2 pg.1 (fun S3 g3 K3 => ?_)⟩⟩) (fun nn => ⟨fun _ => ?_, fun z => absurd rfl z⟩)⟩⟩
            · rw [if_pos ⟨c1, d3, d41⟩] at hq
              exact hq S3 (g12.trans g3.tp) ⟨fun _ => ⟨K3, C2.ts g3⟩, fun z => Bool.noConfusion z⟩
            · rw [if_neg (fun z => nn z.2)] at hq
              exact hq S2 g12 ⟨fun z => Bool.noConfusion z, fun _ => K2.1⟩
          · have eB : rB r = 0 := by unfold rB; rw [if_neg c1]
            rw [eB]
            refine ⟨fun _ => ?_, fun z => absurd rfl z⟩
            rw [if_neg (fun z => c1 z.1)] at hq
            exact hq S2 g12 ⟨fun z => Bool.noConfusion z, fun _ => p2.2 (by simpa using c1)⟩
        · rw [if_neg (fun q => nn ⟨q.1, q.2.1⟩)] at hq
          exact hq S jtp.rfl ⟨fun z => Bool.noConfusion z, fun _ => hK.1⟩
      refine T_X8_readsPiece ⟨hT.1.1, ?_⟩
      rw [hK.2.2.1]
      refine ⟨fun c1 => opd (Or.inl (nI_inj (b := 1) (by omega) (by omega) c1)), fun c1 => ⟨fun c2 => opd (Or.inr (nI_inj (b := 2) (by omega) (by omega) c2)), fun c2 => ?_⟩⟩
      have nop : ¬ (k.2.2.1 = 1 ∨ k.2.2.1 = 2) := fun z => by
        rcases z with z | z
        · exact c1 (by rw [z]; rfl)
        · exact c2 (by rw [z]; rfl)
      refine c_X8_isInHand (c := 33) hT hK ok (by omega) (fun c3 c33 => ⟨fun z => absurd z (by decide), fun _ => ⟨fun z => ⟨hT.1.1, ?_⟩, fun z => ⟨hT.1.1, ?_⟩⟩⟩) (fun nn => ⟨fun _ => ⟨hT.1.1, paren nop (fun q => nn ⟨q.1, q.2.1⟩)⟩, fun z => absurd rfl z⟩)
      · have hb : ¬ bang < 8 := fun q => by
          have := (nI_leI (a := 8) (by omega) (by omega)).mp z
          omega
        exact paren nop (fun q => hb q.2.2)
      · have hb : bang < 8 := by
          rcases Nat.lt_or_ge bang 8 with q | q
          · exact q
          · exact absurd (nI_le (a := 8) q (by omega)) z
        rw [if_neg nop, if_pos ⟨c3, c33, hb⟩] at hq
        have en : k.1 < k.2.1 := ok.2.2.2.1 (by omega)
        refine c_X8_next hT hK ok (fun S1 g1 K1 => ⟨(hT.ts g1).1.1, ?_⟩)
        rw [nI_1]
        have pg := pread_ok (b := b) (n := n) (key := key) F 5 par (bang + 1) (pnext b n k) L hn.1
        refine ihP par (bang + 1) (e + 5) (pnext b n k) L S1 _ (by omega) (by unfold pmu; omega) hp8 (by omega) (hT.ts g1) ((g1.2.2 6 (by omega)).trans h6) K1 hn.1 (hL.ts g1) (by omega) (fun S2 g2 p2 => ?_)
        generalize pread b n key F 5 par (bang + 1) (pnext b n k) L = r at hq pg p2 ⊢
        have g12 : jtp S S2 t := g1.tp.trans g2
        have T2 := hT.tp g12
        refine ⟨T2.1.1, ?_⟩
        by_cases c1 : r.1 = true
        · have eB : rB r = 1 := by unfold rB; rw [if_pos c1]
          rw [eB]
          obtain ⟨K2, C2⟩ := p2.1 c1
          obtain ⟨k1, k2, -⟩ := pg.2.2 c1
          have k3 := pg.1.1
          have k4 := pg.1.2.1
          refine c_X8_write (w := 20033) T2 C2 (by omega) (fun S3 g3 f3 e9 r3 => ⟨Or.inr rfl, ?_⟩)
          rw [if_pos c1] at hq
          exact hq S3 (g12.trans g3) ⟨fun _ => ⟨K2.of f3, C2.not (by omega) f3 e9 r3⟩, fun z => Bool.noConfusion z⟩
        · have eB : rB r = 0 := by unfold rB; rw [if_neg c1]
          rw [eB]
          refine c_X8_writeAny T2 (fun S3 g3 e2 => ⟨Or.inl rfl, ?_⟩)
          rw [if_neg c1] at hq
          exact hq S3 (g12.trans g3) ⟨fun z => Bool.noConfusion z, fun _ => e2.trans (p2.2 (by simpa using c1))⟩
    refine ⟨piece, fun lev par bang D k L S Q hD hm hl5 hp8 hb8 hT h6 hK ok hL hlen hq => ?_⟩
    obtain ⟨e, rfl⟩ : ∃ e, D = e + 5 + 1 := ⟨D - 6, by omega⟩
    have h96 := hT.2.1
    refine T_X8_readsChain ⟨fun c => ⟨hT.1.1, ?_⟩, fun c => ⟨hT.1.1, ?_⟩⟩
    · have hlev : lev < 5 := (nI_ltI (b := 5) (by omega) (by omega)).mp c
      have er : pread b n key (F + 1) lev par bang k L = if (pread b n key F (lev + 1) par bang k L).1 = true then ploop b n lev (pread b n key F (lev + 1) par bang) (if lev = 2 then 1 else 96) (pread b n key F (lev + 1) par bang k L).2.1 (pread b n key F (lev + 1) par bang k L).2.2 else (false, (pread b n key F (lev + 1) par bang k L).2.1, []) := by rw [pread]; rw [if_pos hlev]
      rw [er] at hq
      unfold pmu at hm
      have sub : ∀ (k : jtk) (L : List Nat) (S1 : jM) (Q' : Int32 → jM → Prop), jtp S S1 t → TKC S1 t k → TKok b n k → CDC S1 t L → L.length + 1 ≤ k.1 → (∀ S', jtp S S' t → PO8 S' t (pread b n key F (lev + 1) par bang k L) → Q' (rB (pread b n key F (lev + 1) par bang k L)) S') → jFi E mX8_readsChain (e + 5) 0 0 [.ref t, .int (nI (lev + 1)), .int (nI par), .int (nI bang)] S1 Q' := fun k L S1 Q' g1 K1 o1 C1 l1 q1 =>
        ihC (lev + 1) par bang (e + 5) k L S1 Q' (by omega) (by unfold pmu; omega) (by omega) hp8 hb8 (hT.tp g1) ((g1.2.2 6 (Or.inr rfl)).trans h6) K1 o1 C1 l1 (fun S2 g2 p2 => q1 S2 (g1.trans g2) p2)
      have loop : ∀ (c i m : Nat) (k : jtk) (L : List Nat) (S1 : jM), i + c = m → m ≤ 96 → jtp S S1 t → TKC S1 t k → TKok b n k → CDC S1 t L → L.length + 1 ≤ k.1 → (∀ S', jtp S S' t → PO8 S' t (ploop b n lev (pread b n key F (lev + 1) par bang) c k L) → Q (rB (ploop b n lev (pread b n key F (lev + 1) par bang) c k L)) S') → L_X8_readsChain_42 E (e + 5) Q t (nI lev) (nI par) (nI bang) (nI m) (nI i) S1 := by
        intro c
        induction c with
        | zero =>
          intro i m k L S1 hi hm96 g1 K1 o1 C1 l1 q1
          obtain rfl : i = m := by omega
          exact T_X8_readsChain_42 ⟨fun _ => q1 S1 g1 ⟨fun _ => ⟨K1, C1⟩, fun z => Bool.noConfusion z⟩, fun cc => absurd Int32.le_rfl cc⟩
        | succ c ihc =>
          intro i m k L S1 hi hm96 g1 K1 o1 C1 l1 q1
          have T1 := hT.tp g1
          have hn := pnext_ok o1
          have ep : ploop b n lev (pread b n key F (lev + 1) par bang) (c + 1) k L = if plev b k = lev then (if (pread b n key F (lev + 1) par bang (pnext b n k) L).1 = true then ploop b n lev (pread b n key F (lev + 1) par bang) c (pread b n key F (lev + 1) par bang (pnext b n k) L).2.1 ((pread b n key F (lev + 1) par bang (pnext b n k) L).2.2 ++ [20000 + b k.1]) else (false, (pread b n key F (lev + 1) par bang (pnext b n k) L).2.1, [])) else (true, k, L) := rfl
          rw [ep] at q1
          refine T_X8_readsChain_42 ⟨fun cc => absurd cc (nI_ge (by omega) (by omega)), fun _ => ⟨T1.1.1, c_X8_levelInHand T1 K1 o1 ⟨fun cl => ⟨T1.1.1, ?_⟩, fun cl => ?_⟩⟩⟩
          · have el : plev b k = lev := by
              by_cases c9 : plev b k = 9
              · rw [if_pos c9] at cl
                have := nI_pos (n := lev) (by omega)
                rw [← cl] at this; exact absurd (by decide) this
              · rw [if_neg c9] at cl
                have p9 : plev b k ≤ 9 := by
                  unfold plev
                  repeat' split
                  all_goals omega
                exact nI_inj (by omega) (by omega) cl
            rw [if_pos el] at q1
            have hs := plev_ok (b := b) (t := k) (by omega)
            have en : k.1 < k.2.1 := o1.2.2.2.1 (by rw [hs.1]; decide)
            have hl := o1.lt (by rw [hs.1]; decide)
            rw [K1.1]
            refine c_X8_byteAt T1 hl ⟨T1.1.1, c_X8_next T1 K1 o1 (fun S2 g2 K2 => ⟨(T1.ts g2).1.1, ?_⟩)⟩
            rw [nI_1]
            have g12 := g1.trans g2.tp
            have pg := pread_ok (b := b) (n := n) (key := key) F (lev + 1) par bang (pnext b n k) L hn.1
            refine sub (pnext b n k) L S2 _ g12 K2 hn.1 (C1.ts g2) (by omega) (fun S3 g3 p3 => ?_)
            generalize pread b n key F (lev + 1) par bang (pnext b n k) L = r at q1 pg p3 ⊢
            have T3 := hT.tp g3
            by_cases c1 : r.1 = true
            · have eB : rB r = 1 := by unfold rB; rw [if_pos c1]
              rw [eB]
              rw [if_pos c1] at q1
              obtain ⟨K3, C3⟩ := p3.1 c1
              obtain ⟨k1, k2, -⟩ := pg.2.2 c1
              have k3 := pg.1.1
              have k4 := pg.1.2.1
              refine ⟨fun z => absurd z (by decide), fun _ => ⟨T3.1.1, ?_⟩⟩
              rw [show (20000 : Int32) = nI 20000 from rfl, nI_add, nI_1]
              refine c_X8_write (w := 20000 + b k.1) T3 C3 (by omega) (fun S4 g4 f4 e9 r4 => ?_)
              refine ihc (i + 1) m r.2.1 (r.2.2 ++ [20000 + b k.1]) S4 (by omega) hm96 (g3.trans g4) (K3.of f4) pg.1 (C3.not (by omega) f4 e9 r4) ?_ q1
              rw [List.length_append]
              show r.2.2.length + 1 + 1 ≤ r.2.1.1
              omega
            · have eB : rB r = 0 := by unfold rB; rw [if_neg c1]
              rw [eB]
              rw [if_neg c1] at q1
              exact ⟨fun _ => q1 S3 g3 ⟨fun z => Bool.noConfusion z, fun _ => p3.2 (by simpa using c1)⟩, fun z => absurd rfl z⟩
          · have el : ¬ plev b k = lev := fun z => cl (by rw [if_neg (by omega), z])
            rw [if_neg el] at q1
            exact q1 S1 g1 ⟨fun _ => ⟨K1, C1⟩, fun z => Bool.noConfusion z⟩
      rw [nI_1]
      have pg := pread_ok (b := b) (n := n) (key := key) F (lev + 1) par bang k L ok
      refine sub k L S _ jtp.rfl hK ok hL hlen (fun S1 g1 p1 => ?_)
      by_cases c1 : (pread b n key F (lev + 1) par bang k L).1 = true
      · have eB : rB (pread b n key F (lev + 1) par bang k L) = 1 := by unfold rB; rw [if_pos c1]
        rw [eB]
        rw [if_pos c1] at hq
        obtain ⟨K1, C1⟩ := p1.1 c1
        obtain ⟨k1, k2, -⟩ := pg.2.2 c1
        refine ⟨fun z => absurd z (by decide), fun _ => ⟨fun c2 => ?_, fun c2 => ?_⟩⟩
        · have e2 : lev = 2 := nI_inj (b := 2) (by omega) (by omega) c2
          rw [if_pos e2] at hq
          exact loop 1 0 1 _ _ S1 (by omega) (by omega) g1 K1 pg.1 C1 (by omega) hq
        · have e2 : ¬ lev = 2 := fun z => c2 (by rw [z]; rfl)
          rw [if_neg e2] at hq
          exact loop 96 0 96 _ _ S1 (by omega) (by omega) g1 K1 pg.1 C1 (by omega) hq
      · have eB : rB (pread b n key F (lev + 1) par bang k L) = 0 := by unfold rB; rw [if_neg c1]
        rw [eB]
        rw [if_neg c1] at hq
        exact ⟨fun _ => hq S1 g1 ⟨fun z => Bool.noConfusion z, fun _ => p1.2 (by simpa using c1)⟩, fun z => absurd rfl z⟩
    · have hlev : lev = 5 := by
        rcases Nat.lt_or_ge lev 5 with q | q
        · exact absurd (nI_lt (b := 5) q (by omega)) c
        · omega
      subst hlev
      exact piece par bang (e + 5) k L S _ (by omega) hm hp8 hb8 hT h6 hK ok hL hlen (fun S' g p => ⟨rB_01 _, hq S' g p⟩)
end jTape4
end
section
/-! TEXT: the whole tape -/
def pkey (b : Nat → Nat) (k : jtk) : Nat :=
  if k.2.2.1 = 1 ∧ k.2.1 - k.1 = 4 ∧ b k.1 = 116 ∧ b (k.1 + 1) = 101 ∧ b (k.1 + 2) = 114 ∧ b (k.1 + 3) = 109 then 0
  else if k.2.2.1 = 1 ∧ k.2.1 - k.1 = 4 ∧ b k.1 = 102 ∧ b (k.1 + 1) = 97 ∧ b (k.1 + 2) = 109 ∧ b (k.1 + 3) = 101 then 1
  else if k.2.2.1 = 1 ∧ k.2.1 - k.1 = 4 ∧ b k.1 = 102 ∧ b (k.1 + 1) = 105 ∧ b (k.1 + 2) = 110 ∧ b (k.1 + 3) = 101 then 2 else 9
/-- the tape as a whole: good, the place of the FAULT, the key, the code -/
def ptx (b : Nat → Nat) (n : Nat) : Bool × Nat × Nat × List Nat :=
  if pkey b (ptok b n 0 0) = 9 then (false, (ptok b n 0 0).1, 0, [])
  else if (pread b n (pkey b (ptok b n 0 0)) 70 0 0 0 (pnext b n (ptok b n 0 0)) []).1 = true ∧ (pread b n (pkey b (ptok b n 0 0)) 70 0 0 0 (pnext b n (ptok b n 0 0)) []).2.1.2.2.1 = 0
    then (true, 0, pkey b (ptok b n 0 0), (pread b n (pkey b (ptok b n 0 0)) 70 0 0 0 (pnext b n (ptok b n 0 0)) []).2.2)
    else (false, (pread b n (pkey b (ptok b n 0 0)) 70 0 0 0 (pnext b n (ptok b n 0 0)) []).2.1.1, 0, [])
theorem pwd_0 {b : Nat → Nat} {k : jtk} (hb : ∀ j, j < 4 → k.2.1 - k.1 = 4 → b (k.1 + j) < 256) : pwd b k 0 ↔ (k.2.2.1 = 1 ∧ k.2.1 - k.1 = 4 ∧ b k.1 = 116 ∧ b (k.1 + 1) = 101 ∧ b (k.1 + 2) = 114 ∧ b (k.1 + 3) = 109) := by
  constructor
  · rintro ⟨h1, h2, h3⟩
    have q : ∀ j, j < 4 → ∀ c, c < 256 → sB 0 j = nI c → b (k.1 + j) = c := fun j hj c hc e => by
      have := hb j hj h2
      exact nI_inj (by omega) (by omega) ((h3 j hj).trans e)
    exact ⟨h1, h2, q 0 (by omega) 116 (by omega) rfl, q 1 (by omega) 101 (by omega) rfl, q 2 (by omega) 114 (by omega) rfl, q 3 (by omega) 109 (by omega) rfl⟩
  · rintro ⟨h1, h2, a, b1, c, d⟩
    refine ⟨h1, h2, fun j hj => ?_⟩
    rcases (show j = 0 ∨ j = 1 ∨ j = 2 ∨ j = 3 by omega) with rfl | rfl | rfl | rfl
    · rw [Nat.add_zero, a]; rfl
    · rw [b1]; rfl
    · rw [c]; rfl
    · rw [d]; rfl
theorem pwd_1 {b : Nat → Nat} {k : jtk} (hb : ∀ j, j < 4 → k.2.1 - k.1 = 4 → b (k.1 + j) < 256) : pwd b k 1 ↔ (k.2.2.1 = 1 ∧ k.2.1 - k.1 = 4 ∧ b k.1 = 102 ∧ b (k.1 + 1) = 97 ∧ b (k.1 + 2) = 109 ∧ b (k.1 + 3) = 101) := by
  constructor
  · rintro ⟨h1, h2, h3⟩
    have q : ∀ j, j < 4 → ∀ c, c < 256 → sB 1 j = nI c → b (k.1 + j) = c := fun j hj c hc e => by
      have := hb j hj h2
      exact nI_inj (by omega) (by omega) ((h3 j hj).trans e)
    exact ⟨h1, h2, q 0 (by omega) 102 (by omega) rfl, q 1 (by omega) 97 (by omega) rfl, q 2 (by omega) 109 (by omega) rfl, q 3 (by omega) 101 (by omega) rfl⟩
  · rintro ⟨h1, h2, a, b1, c, d⟩
    refine ⟨h1, h2, fun j hj => ?_⟩
    rcases (show j = 0 ∨ j = 1 ∨ j = 2 ∨ j = 3 by omega) with rfl | rfl | rfl | rfl
    · rw [Nat.add_zero, a]; rfl
    · rw [b1]; rfl
    · rw [c]; rfl
    · rw [d]; rfl
theorem pwd_2 {b : Nat → Nat} {k : jtk} (hb : ∀ j, j < 4 → k.2.1 - k.1 = 4 → b (k.1 + j) < 256) : pwd b k 2 ↔ (k.2.2.1 = 1 ∧ k.2.1 - k.1 = 4 ∧ b k.1 = 102 ∧ b (k.1 + 1) = 105 ∧ b (k.1 + 2) = 110 ∧ b (k.1 + 3) = 101) := by
  constructor
  · rintro ⟨h1, h2, h3⟩
    have q : ∀ j, j < 4 → ∀ c, c < 256 → sB 2 j = nI c → b (k.1 + j) = c := fun j hj c hc e => by
      have := hb j hj h2
      exact nI_inj (by omega) (by omega) ((h3 j hj).trans e)
    exact ⟨h1, h2, q 0 (by omega) 102 (by omega) rfl, q 1 (by omega) 105 (by omega) rfl, q 2 (by omega) 110 (by omega) rfl, q 3 (by omega) 101 (by omega) rfl⟩
  · rintro ⟨h1, h2, a, b1, c, d⟩
    refine ⟨h1, h2, fun j hj => ?_⟩
    rcases (show j = 0 ∨ j = 1 ∨ j = 2 ∨ j = 3 by omega) with rfl | rfl | rfl | rfl
    · rw [Nat.add_zero, a]; rfl
    · rw [b1]; rfl
    · rw [c]; rfl
    · rw [d]; rfl
theorem pkey_lt {b : Nat → Nat} {k : jtk} (h : ¬ pkey b k = 9) : pkey b k < 3 := by
  unfold pkey at h ⊢
  split
  · omega
  · rename_i q1
    rw [if_neg q1] at h
    split
    · omega
    · rename_i q2
      rw [if_neg q2] at h
      split
      · omega
      · rename_i q3
        rw [if_neg q3] at h
        exact absurd rfl h
/-- the code of a good tape -/
theorem ptx_ok {b : Nat → Nat} {n : Nat} (h : (ptx b n).1 = true) : (ptx b n).2.2.1 < 3 ∧ pEX (ptx b n).2.2.1 (ptx b n).2.2.2 ∧ (ptx b n).2.2.2.length ≤ n := by
  have k0 := (ptok_ok (b := b) (n := n) (w := 0) (e := 0) (Nat.zero_le _)).1
  have hn := pnext_ok k0
  unfold ptx at h ⊢
  by_cases c9 : pkey b (ptok b n 0 0) = 9
  · rw [if_pos c9] at h; exact Bool.noConfusion h
  · rw [if_neg c9] at h ⊢
    have hk : pkey b (ptok b n 0 0) < 3 := pkey_lt c9
    generalize pkey b (ptok b n 0 0) = key at h hk ⊢
    have pg := pread_ok (b := b) (n := n) (key := key) 70 0 0 0 (pnext b n (ptok b n 0 0)) [] hn.1
    generalize pread b n key 70 0 0 0 (pnext b n (ptok b n 0 0)) [] = r at h pg ⊢
    by_cases c1 : r.1 = true ∧ r.2.1.2.2.1 = 0
    · rw [if_pos c1]
      obtain ⟨k1, k2, A, eA, xA⟩ := pg.2.2 c1.1
      refine ⟨hk, ?_, ?_⟩
      · show pEX key r.2.2
        rw [eA]; exact xA
      · show r.2.2.length ≤ n
        have := pg.1.1
        have := pg.1.2.1
        have e0 : ([] : List Nat).length = 0 := rfl
        omega
    · rw [if_neg c1] at h; exact Bool.noConfusion h
/-! the code as a text -/
theorem prn_take {key : Nat} (L : List Nat) (hx : pEX key L) : ∀ i, i ≤ L.length → prn 0 (L.take i) = some (dpt (fun j => L.getD j 0) i) ∧ dpt (fun j => L.getD j 0) i ≤ pops (L.take i)
  | 0, _ => ⟨rfl, Nat.zero_le _⟩
  | i + 1, hi => by
    obtain ⟨h1, h2⟩ := prn_take L hx i (by omega)
    have hlt : i < L.length := by omega
    have et : L.take (i + 1) = L.take i ++ [L.getD i 0] := by
      rw [List.take_add_one, List.getElem?_eq_getElem hlt]
      simp [List.getD_eq_getElem?_getD, List.getElem?_eq_getElem hlt]
    have tot : prn 0 L = some (0 + 1) := hx.2 0
    have spl : L = L.take (i + 1) ++ L.drop (i + 1) := (List.take_append_drop (i + 1) L).symm
    have run : prn 0 (L.take (i + 1)) = prn (dpt (fun j => L.getD j 0) i) [L.getD i 0] := by rw [et]; exact prn_app _ _ 0 _ h1
    have some1 : ∃ e, prn 0 (L.take (i + 1)) = some e := by
      cases hc : prn 0 (L.take (i + 1)) with
      | some e => exact ⟨e, rfl⟩
      | none =>
        exfalso
        have key2 : ∀ (A B : List Nat) (e : Nat), prn e A = none → prn e (A ++ B) = none := by
          intro A
          induction A with
          | nil => intro B e h; exact absurd h (by simp [prn])
          | cons w A ih =>
            intro B e h
            have h' : (if w < 20000 then prn (e + 1) A else if w = 20033 then (if 1 ≤ e then prn e A else none) else (if 2 ≤ e then prn (e - 1) A else none)) = none := h
            show (if w < 20000 then prn (e + 1) (A ++ B) else if w = 20033 then (if 1 ≤ e then prn e (A ++ B) else none) else (if 2 ≤ e then prn (e - 1) (A ++ B) else none)) = none
            by_cases c1 : w < 20000
            · rw [if_pos c1] at h' ⊢; exact ih B _ h'
            · rw [if_neg c1] at h' ⊢
              by_cases c2 : w = 20033
              · rw [if_pos c2] at h' ⊢
                by_cases c3 : 1 ≤ e
                · rw [if_pos c3] at h' ⊢; exact ih B _ h'
                · rw [if_neg c3]
              · rw [if_neg c2] at h' ⊢
                by_cases c3 : 2 ≤ e
                · rw [if_pos c3] at h' ⊢; exact ih B _ h'
                · rw [if_neg c3]
        have := key2 _ (L.drop (i + 1)) 0 hc
        rw [← spl, tot] at this
        exact absurd this (by simp)
    obtain ⟨e, he⟩ := some1
    have ed : dpt (fun j => L.getD j 0) (i + 1) = if L.getD i 0 < 20000 then dpt (fun j => L.getD j 0) i + 1 else if L.getD i 0 = 20033 then dpt (fun j => L.getD j 0) i else dpt (fun j => L.getD j 0) i - 1 := rfl
    have ep : pops (L.take (i + 1)) = pops (L.take i) + (if L.getD i 0 < 20000 then 1 else 0) := by
      rw [et, pops_app]
      show _ + ((if L.getD i 0 < 20000 then 1 else 0) + 0) = _
      rw [Nat.add_zero]
    have one : prn (dpt (fun j => L.getD j 0) i) [L.getD i 0] = if L.getD i 0 < 20000 then some (dpt (fun j => L.getD j 0) i + 1) else if L.getD i 0 = 20033 then (if 1 ≤ dpt (fun j => L.getD j 0) i then some (dpt (fun j => L.getD j 0) i) else none) else (if 2 ≤ dpt (fun j => L.getD j 0) i then some (dpt (fun j => L.getD j 0) i - 1) else none) := rfl
    rw [run, one] at he
    rw [run, one, ed, ep]
    by_cases c1 : L.getD i 0 < 20000
    · rw [if_pos c1, if_pos c1, if_pos c1]; exact ⟨rfl, by omega⟩
    · rw [if_neg c1] at he ⊢
      rw [if_neg c1, if_neg c1]
      by_cases c2 : L.getD i 0 = 20033
      · rw [if_pos c2] at he ⊢
        rw [if_pos c2]
        by_cases c3 : 1 ≤ dpt (fun j => L.getD j 0) i
        · rw [if_pos c3]; exact ⟨rfl, by omega⟩
        · rw [if_neg c3] at he; exact absurd he (by simp)
      · rw [if_neg c2] at he ⊢
        rw [if_neg c2]
        by_cases c3 : 2 ≤ dpt (fun j => L.getD j 0) i
        · rw [if_pos c3]; exact ⟨rfl, by omega⟩
        · rw [if_neg c3] at he; exact absurd he (by simp)
theorem WFt_of {key : Nat} {L : List Nat} (hx : pEX key L) (hl : L.length ≤ 96) : WFt key L.length (pops L) (fun i => L.getD i 0) := by
  have mem : ∀ i, i < L.length → L.getD i 0 ∈ L := fun i hi => by
    simp [List.getD_eq_getElem?_getD, List.getElem?_eq_getElem hi]
  have step : ∀ i, i < L.length → prn (dpt (fun j => L.getD j 0) i) [L.getD i 0] = some (dpt (fun j => L.getD j 0) (i + 1)) := fun i hi => by
    have h1 := (prn_take L hx i (by omega)).1
    have h2 := (prn_take L hx (i + 1) (by omega)).1
    have et : L.take (i + 1) = L.take i ++ [L.getD i 0] := by
      rw [List.take_add_one, List.getElem?_eq_getElem hi]
      simp [List.getD_eq_getElem?_getD, List.getElem?_eq_getElem hi]
    rw [et, prn_app _ _ 0 _ h1] at h2
    exact h2
  have one : ∀ e w, prn e [w] = if w < 20000 then some (e + 1) else if w = 20033 then (if 1 ≤ e then some e else none) else (if 2 ≤ e then some (e - 1) else none) := fun _ _ => rfl
  have popl : ∀ A : List Nat, pops A ≤ A.length := by
    intro A
    induction A with
    | nil => exact Nat.le_refl _
    | cons w A ih =>
      show (if w < 20000 then 1 else 0) + pops A ≤ A.length + 1
      split <;> omega
  have pmono : ∀ i, pops (L.take i) ≤ pops L := fun i => by
    have e : pops L = pops (L.take i) + pops (L.drop i) := by rw [← pops_app, List.take_append_drop]
    omega
  refine ⟨fun i hi => hx.1 _ (mem i hi), fun i hi e => ?_, fun i hi e1 e2 => ?_, ?_, fun i hi => ?_, Nat.le_trans (popl L) hl, hl⟩
  · have h := step i hi
    rw [one] at h
    have e' : L.getD i 0 = 20033 := e
    rw [if_neg (by omega), if_pos e'] at h
    by_cases c : 1 ≤ dpt (fun j => L.getD j 0) i
    · exact c
    · rw [if_neg c] at h; exact absurd h (by simp)
  · have h := step i hi
    rw [one] at h
    have e1' : 20000 ≤ L.getD i 0 := e1
    have e2' : L.getD i 0 ≠ 20033 := e2
    rw [if_neg (by omega), if_neg e2'] at h
    by_cases c : 2 ≤ dpt (fun j => L.getD j 0) i
    · exact c
    · rw [if_neg c] at h; exact absurd h (by simp)
  · have h := (prn_take L hx L.length (Nat.le_refl _)).1
    rw [List.take_length, hx.2 0] at h
    exact (Option.some.inj h).symm
  · exact Nat.le_trans (prn_take L hx i hi).2 (pmono i)
/-! the class asks whether its tape is a text -/
def jtq (S S' : jM) (t : Nat) : Prop := jsame S S' ∧ (∀ y, y ≠ t → y ≠ t + 2 → ji S' y = ji S y) ∧ ji S' t 1 = ji S t 1
section jTape5
variable {E : jEnv} {d : Nat} {S S' : jM} {t n : Nat} {b : Nat → Nat}
theorem jtp.tq (h : jtp S S' t) : jtq S S' t := ⟨h.1, h.2.1, h.2.2 1 (Or.inl _root_.rfl)⟩
theorem jtq.trans {S1 S2 : jM} (h1 : jtq S S1 t) (h2 : jtq S1 S2 t) : jtq S S2 t := ⟨h1.1.trans h2.1, fun y a b => (h2.2.1 y a b).trans (h1.2.1 y a b), h2.2.2.trans h1.2.2⟩
theorem jtq.put {j : Nat} {w : Int32} (hj : j ≠ 1) : jtq S (jput S t j w) t := ⟨⟨rfl, rfl, rfl, rfl⟩, fun y a _ => ji_put_ne _ _ _ _ a, by rw [ji_put, if_neg (fun z => hj z.2.symm)]⟩
theorem TB.tq (h : TB S t n b) (g : jtq S S' t) : TB S' t n b := by
  obtain ⟨h1, h2, h3, h4⟩ := h
  exact ⟨h1.same g.1, h2, g.2.2.trans h3, fun j hj => ⟨(h4 j hj).1, by rw [g.2.1 _ (by omega) (by omega)]; exact (h4 j hj).2⟩⟩
theorem c_X8_isText {Q : Int32 → jM → Prop} (hT : TB S t n b) (h1 : (ptx b n).1 = true → ∀ S', jtq S S' t → ji S' t 6 = nI (ptx b n).2.2.1 → CDC S' t (ptx b n).2.2.2 → Q 1 S') (h0 : (ptx b n).1 = false → ∀ S', jtq S S' t → ji S' t 2 = nI (ptx b n).2.1 → Q 0 S') : jFi E mX8_isText (d + 147) 0 0 [.ref t] S Q := by
  have h96 := hT.2.1
  have ok0 := (ptok_ok (b := b) (n := n) (w := 0) (e := 0) (Nat.zero_le _)).1
  have hn := pnext_ok ok0
  have p0 : jtq S (jput (jput (jput (jput S t 3 0) t 4 0) t 7 0) t 9 0) t := (((jtq.put (by omega)).trans (jtq.put (by omega))).trans (jtq.put (by omega))).trans (jtq.put (by omega))
  have T0 := hT.tq p0
  refine T_X8_isText ⟨hT.1.1, ?_⟩
  have f3 : ji (jput (jput (jput (jput S t 3 0) t 4 0) t 7 0) t 9 0) t 3 = nI 0 := by rw [ji_put, if_neg (by omega), ji_put, if_neg (by omega), ji_put, if_neg (by omega), ji_put_same]; rfl
  have f4 : ji (jput (jput (jput (jput S t 3 0) t 4 0) t 7 0) t 9 0) t 4 = nI 0 := by rw [ji_put, if_neg (by omega), ji_put, if_neg (by omega), ji_put_same]; rfl
  have f7 : ji (jput (jput (jput (jput S t 3 0) t 4 0) t 7 0) t 9 0) t 7 = nI 0 := by rw [ji_put, if_neg (by omega), ji_put_same]; rfl
  have f9 : ji (jput (jput (jput (jput S t 3 0) t 4 0) t 7 0) t 9 0) t 9 = nI 0 := by rw [ji_put_same]; rfl
  generalize jput (jput (jput (jput S t 3 0) t 4 0) t 7 0) t 9 0 = S0 at p0 T0 f3 f4 f7 f9 ⊢
  refine c_X8_step (e := 0) (so := 0) T0 f3 f4 (Nat.zero_le _) (by omega) (fun S1 g1 K1 => ?_)
  rw [if_neg (by omega)] at K1
  have T1 := T0.ts g1
  have C1 : CDC S1 t [] := ⟨(g1.2.2 9 (by omega)).trans f9, (g1.2.2 7 (by omega)).trans f7, fun i hi => absurd hi (Nat.not_lt_zero _)⟩
  have q1 : jtq S S1 t := p0.trans g1.tp.tq
  have bs : ∀ j, j < 4 → (ptok b n 0 0).2.1 - (ptok b n 0 0).1 = 4 → b ((ptok b n 0 0).1 + j) < 256 := fun j hj e => (hT.2.2.2 _ (by have := ok0.2.1; omega)).1
  refine ⟨T1.1.1, c_X8_keyInHand T1 K1 ok0 (fun i hi hw hno => ⟨T1.1.1, fun _ => ?_, fun z => absurd (Int32.not_lt.mp (nI_pos (by omega))) z⟩) (fun hno => ⟨T1.1.1, fun z => absurd z (by decide), fun _ => ?_⟩)⟩
  · -- a key
    have ek : pkey b (ptok b n 0 0) = i := by
      unfold pkey
      rcases (show i = 0 ∨ i = 1 ∨ i = 2 by omega) with rfl | rfl | rfl
      · rw [if_pos ((pwd_0 bs).mp hw)]
      · rw [if_neg (fun z => hno 0 (by omega) ((pwd_0 bs).mpr z)), if_pos ((pwd_1 bs).mp hw)]
      · rw [if_neg (fun z => hno 0 (by omega) ((pwd_0 bs).mpr z)), if_neg (fun z => hno 1 (by omega) ((pwd_1 bs).mpr z)), if_pos ((pwd_2 bs).mp hw)]
    have e1 : ptx b n = if (pread b n i 70 0 0 0 (pnext b n (ptok b n 0 0)) []).1 = true ∧ (pread b n i 70 0 0 0 (pnext b n (ptok b n 0 0)) []).2.1.2.2.1 = 0 then (true, 0, i, (pread b n i 70 0 0 0 (pnext b n (ptok b n 0 0)) []).2.2) else (false, (pread b n i 70 0 0 0 (pnext b n (ptok b n 0 0)) []).2.1.1, 0, []) := by
      unfold ptx
      rw [ek, if_neg (by omega)]
    rw [e1] at h1 h0
    have g2 : jtq S1 (jput S1 t 6 (nI i)) t := jtq.put (by omega)
    have T2 := T1.tq g2
    have K2 : TKC (jput S1 t 6 (nI i)) t (ptok b n 0 0) := ⟨by rw [ji_put, if_neg (by omega)]; exact K1.1, by rw [ji_put, if_neg (by omega)]; exact K1.2.1, by rw [ji_put, if_neg (by omega)]; exact K1.2.2.1, by rw [ji_put, if_neg (by omega)]; exact K1.2.2.2⟩
    have C2 : CDC (jput S1 t 6 (nI i)) t [] := ⟨by rw [ji_put, if_neg (by omega)]; exact C1.1, by rw [ji_put, if_neg (by omega)]; exact C1.2.1, fun i hi => absurd hi (Nat.not_lt_zero _)⟩
    refine c_X8_next T2 K2 ok0 (fun S3 g3 K3 => ⟨(T2.ts g3).1.1, ?_⟩)
    have e6 : ji S3 t 6 = nI i := (g3.2.2 6 (by omega)).trans (ji_put_same _ _ _ _)
    have l4 : 4 ≤ (pnext b n (ptok b n 0 0)).1 := by
      have := hw.2.1
      have := hn.2
      omega
    have pg := pread_ok (b := b) (n := n) (key := i) 70 0 0 0 (pnext b n (ptok b n 0 0)) [] hn.1
    refine (c_X8_read hi 70).2 0 0 0 (d + 146) (pnext b n (ptok b n 0 0)) [] S3 _ (by omega) (by decide) (by omega) (by omega) (by omega) (T2.ts g3) e6 K3 hn.1 (C2.ts g3) (by show 0 + 1 ≤ _; omega) (fun S4 g4 p4 => ?_)
    generalize pread b n i 70 0 0 0 (pnext b n (ptok b n 0 0)) [] = r at h1 h0 pg p4 ⊢
    have q4 : jtq S S4 t := ((q1.trans g2).trans g3.tp.tq).trans g4.tq
    have T4 := hT.tq q4
    by_cases c1 : r.1 = true
    · have eB : rB r = 1 := by unfold rB; rw [if_pos c1]
      rw [eB]
      obtain ⟨K4, C4⟩ := p4.1 c1
      have s3 := pg.1.so
      refine ⟨fun z => absurd z (by decide), fun _ => ⟨T4.1.1, ?_⟩⟩
      rw [K4.2.2.1]
      refine ⟨fun z => ?_, fun z => ?_⟩
      · have e0 : r.2.1.2.2.1 = 0 := nI_inj (b := 0) (by omega) (by omega) z
        rw [if_pos ⟨c1, e0⟩] at h1
        exact h1 rfl S4 q4 ((g4.2.2 6 (Or.inr rfl)).trans e6) C4
      · rw [if_neg (fun q => z (by rw [q.2]; rfl))] at h0
        exact h0 rfl S4 q4 K4.1
    · have eB : rB r = 0 := by unfold rB; rw [if_neg c1]
      rw [eB]
      refine ⟨fun _ => ?_, fun z => absurd rfl z⟩
      rw [if_neg (fun q => c1 q.1)] at h0
      exact h0 rfl S4 q4 (p4.2 (by simpa using c1))
  · -- none
    have ek : pkey b (ptok b n 0 0) = 9 := by
      unfold pkey
      rw [if_neg (fun z => hno 0 (by omega) ((pwd_0 bs).mpr z)), if_neg (fun z => hno 1 (by omega) ((pwd_1 bs).mpr z)), if_neg (fun z => hno 2 (by omega) ((pwd_2 bs).mpr z))]
    have e1 : ptx b n = (false, (ptok b n 0 0).1, 0, []) := by unfold ptx; rw [if_pos ek]
    rw [e1] at h0
    exact h0 rfl _ (q1.trans (jtq.put (by omega))) (by rw [ji_put, if_neg (by omega)]; exact K1.1)
end jTape5
end
section
/-! TEXT: the class makes its text -/
theorem jr_putr_ne (S : jM) (a j : Nat) (v : Option Nat) {y : Nat} (h : y ≠ a) : jr (jputr S a j v) y = jr S y := by funext i; rw [jr_putr, if_neg (fun z => h z.1)]
theorem jr_putr_same (S : jM) (a j : Nat) (v : Option Nat) : jr (jputr S a j v) a j = v := by rw [jr_putr, if_pos ⟨rfl, rfl⟩]
section jTxtNew
variable {E : jEnv} {d : Nat} {S S' : jM} {t key : Nat}
theorem jmax1 {o : Nat} (h : o ≤ 96) : ¬ jmax 1 (nI o) < 0 ∧ Int32.toNatClampNeg (jmax 1 (nI o)) = if o = 0 then 1 else o := by
  unfold jmax
  by_cases c : (1 : Int32) < nI o
  · have : 1 < o := (nI_ltI (a := 1) (by omega) (by omega)).mp c
    rw [if_pos c, if_neg (by omega), jcl (by omega)]
    exact ⟨nI_pos (by omega), rfl⟩
  · have : ¬ 1 < o := fun z => c (nI_lt (a := 1) z (by omega))
    rw [if_neg c]
    refine ⟨by decide, ?_⟩
    by_cases h0 : o = 0
    · rw [if_pos h0]; rfl
    · rw [if_neg h0, show o = 1 by omega]; rfl
theorem c_X8_textRead {Q : Option Nat → jM → Prop} {L : List Nat} (hT : TpL S t) (ht : t + 2 < jn S) (hC : CDC S t L) (h6 : ji S t 6 = nI key) (hl : L.length ≤ 96) (hp : pops L ≤ 96) (hq : ∀ S', jn S' = jn S + 3 → (∀ y, y < jn S → jcs S S' y) → TxC S' (jn S) key L.length (pops L) (fun i => L.getD i 0) → Q (some (jn S + 1)) S') : jFr E mX8_textRead (d + 2) 3 196 [.ref t] S Q := by
  obtain ⟨l9, l7, lr⟩ := hC
  have c9 : Int32.toNatClampNeg (ji S t 9) = L.length := by rw [l9]; exact jcl (by omega)
  have n9 : ¬ ji S t 9 < 0 := by rw [l9]; exact nI_pos (by omega)
  have nt : t ≠ jn S := by omega
  have nt2 : t + 2 ≠ jn S := by omega
  have jt : ∀ k m, ji (jnew S k m) t = ji S t := fun k m => by rw [ji_newE, if_neg nt]
  refine T_X8_textRead ⟨hT.1, ⟨n9, by rw [c9]; omega, by omega, by rw [c9]; omega⟩, fun q5 e5 => ?_⟩
  subst e5
  rw [c9, jt, c9]
  refine ⟨by rw [jk_newE, if_neg nt]; exact hT.1, t + 2, by rw [jr_newE, if_neg nt]; exact hT.2.2.1, by rw [jk_newE, if_neg nt2]; exact hT.2.2.2.2.2.1, by rw [jk_newE, if_pos rfl], ⟨by decide, by decide, n9, ?_, ?_⟩, ⟨by omega, by omega⟩, fun q16 e16 => ?_⟩
  · rw [jl_newE, if_neg nt2, hT.2.2.2.2.2.2]; show 0 + L.length ≤ 96; omega
  · rw [jl_newE, if_pos rfl]; show 0 + L.length ≤ L.length; omega
  have z0 : Int32.toNatClampNeg 0 = 0 := rfl
  rw [z0] at e16 ⊢
  have hn2 : jn (jrow (jnew S 12 L.length) (jn S) (va_cpy (ji (jnew S 12 L.length) (t + 2)) (ji (jnew S 12 L.length) (jn S)) 0 0 L.length)) = jn S + 1 := rfl
  rw [hn2] at e16
  subst e16
  -- the row behind the copy
  have hk2 : ∀ y, jk (jrow (jnew S 12 L.length) (jn S) (va_cpy (ji (jnew S 12 L.length) (t + 2)) (ji (jnew S 12 L.length) (jn S)) 0 0 L.length)) y = if y = jn S then 12 else jk S y := fun y => rfl
  have hl2 : ∀ y, jl (jrow (jnew S 12 L.length) (jn S) (va_cpy (ji (jnew S 12 L.length) (t + 2)) (ji (jnew S 12 L.length) (jn S)) 0 0 L.length)) y = if y = jn S then L.length else jl S y := fun y => rfl
  have hr2 : ∀ y, jr (jrow (jnew S 12 L.length) (jn S) (va_cpy (ji (jnew S 12 L.length) (t + 2)) (ji (jnew S 12 L.length) (jn S)) 0 0 L.length)) y = if y = jn S then (fun _ => none) else jr S y := fun y => rfl
  have hi2 : ∀ y, y ≠ jn S → ji (jrow (jnew S 12 L.length) (jn S) (va_cpy (ji (jnew S 12 L.length) (t + 2)) (ji (jnew S 12 L.length) (jn S)) 0 0 L.length)) y = ji S y := fun y hy => by rw [ji_row_ne _ _ _ hy, ji_newE, if_neg hy]
  have hw2 : ∀ i, i < L.length → ji (jrow (jnew S 12 L.length) (jn S) (va_cpy (ji (jnew S 12 L.length) (t + 2)) (ji (jnew S 12 L.length) (jn S)) 0 0 L.length)) (jn S) i = nI (L.getD i 0) := fun i hi => by
    rw [ji_row_same, pk_cpy_in (by omega) (by omega), ji_newE, if_neg nt2, show 0 + (i - 0) = i by omega]; exact lr i hi
  generalize jrow (jnew S 12 L.length) (jn S) (va_cpy (ji (jnew S 12 L.length) (t + 2)) (ji (jnew S 12 L.length) (jn S)) 0 0 L.length) = S2 at hn2 hk2 hl2 hr2 hi2 hw2 ⊢
  have nt3 : t ≠ jn S2 := by omega
  have j3 : ji (jnew S2 9 0) t = ji S t := by rw [ji_newE, if_neg nt3]; exact hi2 t nt
  rw [j3, h6, l7]
  obtain ⟨m1, m2⟩ := jmax1 hp
  refine ⟨by rw [jk_newE, if_neg nt3, hk2, if_neg nt]; exact hT.1, ⟨by omega, by omega⟩, T_X9_init ⟨by rw [jk_newE, hn2, if_pos rfl], ⟨m1, by rw [m2]; split <;> omega, by omega, by rw [m2]; split <;> omega⟩, fun q6 e6 => ?_⟩⟩
  rw [m2]
  have e6' : q6 = jn S + 2 := e6.trans (show jn S2 + 1 = jn S + 2 by rw [hn2])
  subst e6'
  refine ⟨?_, ⟨by omega, by split <;> omega⟩, ⟨by omega, by omega⟩, ?_⟩
  · rw [jk_newE, if_neg]
    · show jk (jnew S2 9 0) (jn S + 1) = 9
      rw [jk_newE, hn2, if_pos rfl]
    · show ¬ jn S + 1 = jn S2 + 1
      omega
  have n4 : jn (jputr (jput (jput (jnew S2 9 0) (jn S + 1) 0 (nI key)) (jn S + 1) 1 (nI (pops L))) (jn S + 1) 2 (some (jn S))) = jn S + 2 := by show jn S2 + 1 = _; rw [hn2]
  have hk4 : ∀ y, jk (jputr (jput (jput (jnew S2 9 0) (jn S + 1) 0 (nI key)) (jn S + 1) 1 (nI (pops L))) (jn S + 1) 2 (some (jn S))) y = if y = jn S + 1 then 9 else jk S2 y := fun y => by show jk (jnew S2 9 0) y = _; rw [jk_newE, hn2]
  have hl4 : ∀ y, y ≠ jn S + 1 → jl (jputr (jput (jput (jnew S2 9 0) (jn S + 1) 0 (nI key)) (jn S + 1) 1 (nI (pops L))) (jn S + 1) 2 (some (jn S))) y = jl S2 y := fun y hy => by show jl (jnew S2 9 0) y = _; rw [jl_newE, hn2, if_neg hy]
  have hi4 : ∀ y, y ≠ jn S + 1 → ji (jputr (jput (jput (jnew S2 9 0) (jn S + 1) 0 (nI key)) (jn S + 1) 1 (nI (pops L))) (jn S + 1) 2 (some (jn S))) y = ji S2 y := fun y hy => by
    rw [ji_putr, ji_put_ne _ _ _ _ hy, ji_put_ne _ _ _ _ hy, ji_newE, hn2, if_neg hy]
  have hi40 : ji (jputr (jput (jput (jnew S2 9 0) (jn S + 1) 0 (nI key)) (jn S + 1) 1 (nI (pops L))) (jn S + 1) 2 (some (jn S))) (jn S + 1) 0 = nI key := by
    rw [ji_putr, ji_put, if_neg (by omega), ji_put_same]
  have hi41 : ji (jputr (jput (jput (jnew S2 9 0) (jn S + 1) 0 (nI key)) (jn S + 1) 1 (nI (pops L))) (jn S + 1) 2 (some (jn S))) (jn S + 1) 1 = nI (pops L) := by
    rw [ji_putr, ji_put_same]
  have hr4 : ∀ y, y ≠ jn S + 1 → jr (jputr (jput (jput (jnew S2 9 0) (jn S + 1) 0 (nI key)) (jn S + 1) 1 (nI (pops L))) (jn S + 1) 2 (some (jn S))) y = jr S2 y := fun y hy => by
    rw [jr_putr_ne _ _ _ _ hy]
    show jr (jnew S2 9 0) y = _
    rw [jr_newE, hn2, if_neg hy]
  have hr42 : jr (jputr (jput (jput (jnew S2 9 0) (jn S + 1) 0 (nI key)) (jn S + 1) 1 (nI (pops L))) (jn S + 1) 2 (some (jn S))) (jn S + 1) 2 = some (jn S) := jr_putr_same _ _ _ _
  generalize jputr (jput (jput (jnew S2 9 0) (jn S + 1) 0 (nI key)) (jn S + 1) 1 (nI (pops L))) (jn S + 1) 2 (some (jn S)) = S4 at n4 hk4 hl4 hi4 hi40 hi41 hr4 hr42 ⊢
  refine hq _ ?_ (fun y hy => ⟨?_, ?_, ?_, ?_⟩) ⟨?_, ?_, ?_, ?_, ?_, ?_, ?_, ?_, ?_, fun i hi => ?_⟩
  · show jn S4 + 1 = _; rw [n4]
  · show jk (jnew S4 12 (if pops L = 0 then 1 else pops L)) y = _
    rw [jk_newE, n4, if_neg (by omega), hk4, if_neg (by omega), hk2, if_neg (by omega)]
  · show jl (jnew S4 12 (if pops L = 0 then 1 else pops L)) y = _
    rw [jl_newE, n4, if_neg (by omega), hl4 y (by omega), hl2, if_neg (by omega)]
  · rw [ji_putr, ji_newE, n4, if_neg (by omega), hi4 y (by omega), hi2 y (by omega)]
  · rw [jr_putr_ne _ _ _ _ (by omega), jr_newE, n4, if_neg (by omega), hr4 y (by omega), hr2, if_neg (by omega)]
  · show jk (jnew S4 12 (if pops L = 0 then 1 else pops L)) (jn S + 1) = 9
    rw [jk_newE, n4, if_neg (by omega), hk4, if_pos rfl]
  · rw [jr_putr, if_neg (by omega), jr_newE, n4, if_neg (by omega), hr42]
  · rw [jr_putr_same]
  · show jk (jnew S4 12 (if pops L = 0 then 1 else pops L)) (jn S) = 12
    rw [jk_newE, n4, if_neg (by omega), hk4, if_neg (by omega), hk2, if_pos rfl]
  · show jl (jnew S4 12 (if pops L = 0 then 1 else pops L)) (jn S) = _
    rw [jl_newE, n4, if_neg (by omega), hl4 _ (by omega), hl2, if_pos rfl]
  · show jk (jnew S4 12 (if pops L = 0 then 1 else pops L)) (jn S + 2) = 12
    rw [jk_newE, n4, if_pos rfl]
  · show jl (jnew S4 12 (if pops L = 0 then 1 else pops L)) (jn S + 2) = _
    rw [jl_newE, n4, if_pos rfl]
  · rw [ji_putr, ji_newE, n4, if_neg (by omega)]; exact hi40
  · rw [ji_putr, ji_newE, n4, if_neg (by omega)]; exact hi41
  · rw [ji_putr, ji_newE, n4, if_neg (by omega), hi4 _ (by omega)]; exact hw2 i hi
end jTxtNew
end
section
/-! TEXT: the reference's tokens -/
def RB (S : jM) (x n : Nat) (b : Nat → Nat) : Prop := ML S (x + 94) ∧ n ≤ 96 ∧ ji S (x + 94) 19 = nI n ∧ ∀ j, j < n → b j < 256 ∧ ji S (x + 109) j = nI (b j)
def ptn (k : jtk) : Nat := if k.2.2.1 = 0 then 0 else if k.2.2.1 = 1 then (if k.2.2.2 = 1 then 4 else 1) else if k.2.2.1 = 2 then (if k.2.2.2 = 1 ∨ 4 < k.2.1 - k.1 then 4 else 2) else 3
def TKM (S : jM) (x : Nat) (b : Nat → Nat) (k : jtk) : Prop := ji S (x + 94) 20 = nI k.1 ∧ ji S (x + 94) 21 = nI k.2.1 ∧ ji S (x + 94) 22 = nI (ptn k) ∧ (k.2.2.1 = 3 → ji S (x + 94) 24 = nI (b k.1)) ∧ (k.2.2.1 = 1 → ji S (x + 94) 24 = if k.2.1 - k.1 = 1 then nI (b k.1) else 0) ∧ (k.2.2.1 = 2 → k.2.1 - k.1 ≤ 4 → ji S (x + 94) 23 = nI (pnum b (k.2.1 - k.1) k.1 0))
/-- what a token changes -/
def rts (S S' : jM) (x : Nat) : Prop := jsame S S' ∧ (∀ y, y ≠ x + 94 → ji S' y = ji S y) ∧ ∀ j, (j < 20 ∨ 25 ≤ j) → ji S' (x + 94) j = ji S (x + 94) j
theorem pnum_snoc (b : Nat → Nat) : ∀ (c p a : Nat), pnum b (c + 1) p a = 10 * pnum b c p a + b (p + c) - 48
  | 0, p, a => rfl
  | c + 1, p, a => by
    show pnum b (c + 1) (p + 1) (10 * a + b p - 48) = 10 * pnum b c (p + 1) (10 * a + b p - 48) + b (p + (c + 1)) - 48
    rw [pnum_snoc b c (p + 1) (10 * a + b p - 48), show p + 1 + c = p + (c + 1) by omega]
theorem psrt_1 {b : Nat → Nat} {n p : Nat} : psrt b n p = 1 ↔ p < n ∧ 97 ≤ b p ∧ b p ≤ 122 := by
  unfold psrt
  by_cases c : n ≤ p
  · rw [if_pos c]; constructor
    · intro h; exact absurd h (by decide)
    · intro h; omega
  · rw [if_neg c]
    by_cases c1 : 97 ≤ b p ∧ b p ≤ 122
    · rw [if_pos c1]; exact ⟨fun _ => ⟨by omega, c1⟩, fun _ => rfl⟩
    · rw [if_neg c1]
      constructor
      · intro h; split at h <;> exact absurd h (by decide)
      · intro h; exact absurd h.2 c1
theorem psrt_22 {b : Nat → Nat} {n p : Nat} : psrt b n p = 2 ↔ p < n ∧ 48 ≤ b p ∧ b p ≤ 57 := by
  unfold psrt
  by_cases c : n ≤ p
  · rw [if_pos c]; constructor
    · intro h; exact absurd h (by decide)
    · intro h; omega
  · rw [if_neg c]
    by_cases c1 : 97 ≤ b p ∧ b p ≤ 122
    · rw [if_pos c1]; constructor
      · intro h; exact absurd h (by decide)
      · intro h; omega
    · rw [if_neg c1]
      by_cases c2 : 48 ≤ b p ∧ b p ≤ 57
      · rw [if_pos c2]; exact ⟨fun _ => ⟨by omega, c2⟩, fun _ => rfl⟩
      · rw [if_neg c2]; constructor
        · intro h; exact absurd h (by decide)
        · intro h; exact absurd h.2 c2
section jRef1
variable {E : jEnv} {d : Nat} {S S' : jM} {x n : Nat} {b : Nat → Nat}
theorem rts.rfl : rts S S x := ⟨jsame.rfl, fun _ _ => _root_.rfl, fun _ _ => _root_.rfl⟩
theorem rts.trans {S1 S2 : jM} (h1 : rts S S1 x) (h2 : rts S1 S2 x) : rts S S2 x := ⟨h1.1.trans h2.1, fun y a => (h2.2.1 y a).trans (h1.2.1 y a), fun j a => (h2.2.2 j a).trans (h1.2.2 j a)⟩
theorem rts.put {j : Nat} {w : Int32} (h1 : 20 ≤ j) (h2 : j < 25) : rts S (jput S (x + 94) j w) x := ⟨⟨_root_.rfl, _root_.rfl, _root_.rfl, _root_.rfl⟩, fun y a => ji_put_ne _ _ _ _ a, fun k hk => by rw [ji_put, if_neg (by omega)]⟩
theorem RB.ts (h : RB S x n b) (g : rts S S' x) : RB S' x n b := by
  obtain ⟨h1, h2, h3, h4⟩ := h
  exact ⟨h1.same g.1, h2, (g.2.2 19 (by omega)).trans h3, fun j hj => ⟨(h4 j hj).1, by rw [g.2.1 _ (by omega)]; exact (h4 j hj).2⟩⟩
theorem RB.inn {p : Nat} (h : RB S x n b) (hp : p < n) : vp_in (nI p) (jl S (x + 109)) := by
  have := h.2.1
  rw [h.1.r18.2.2]; exact jin_nI (by omega) (by omega)
theorem RB.by {p : Nat} (h : RB S x n b) (hp : p < n) : ji S (x + 109) (Int32.toNatClampNeg (nI p)) = nI (b p) := by
  have := h.2.1
  rw [jcl (by omega)]; exact (h.2.2.2 p hp).2
theorem jisin_nat {c lo hi : Nat} (hc : c < 256) (hl : lo < 256) (hh : hi < 256) : jisin (Int32.toInt64 (nI c)) (Int32.toInt64 (nI lo)) (Int32.toInt64 (nI hi)) = if lo ≤ c ∧ c ≤ hi then 1 else 0 := by
  rw [jisin_int]
  by_cases c1 : nI c < nI lo
  · have := (nI_ltI (by omega) (by omega)).mp c1
    rw [if_pos c1, if_neg (by omega)]
  · have q1 : ¬ c < lo := fun z => c1 (nI_lt z (by omega))
    rw [if_neg c1]
    by_cases c2 : nI hi < nI c
    · have := (nI_ltI (by omega) (by omega)).mp c2
      rw [if_pos c2, if_neg (by omega)]
    · have q2 : ¬ hi < c := fun z => c2 (nI_lt z (by omega))
      rw [if_neg c2, if_pos (by omega)]
theorem c_X11_isLetter {Q : Int32 → jM → Prop} {p : Nat} (hT : RB S x n b) (hp : p ≤ 96) (h1 : psrt b n p = 1 → Q 1 S) (h0 : ¬ psrt b n p = 1 → Q 0 S) : jFi E mX11_isLetter (d + 1) 0 0 [.ref (x + 94), .int (nI p)] S Q := by
  have h96 := hT.2.1
  refine T_X11_isLetter ⟨hT.1.1, ?_⟩
  rw [hT.2.2.1]
  refine ⟨fun c => h0 (fun z => ?_), fun c => ?_⟩
  · have := (nI_leI (by omega) (by omega)).mp c
    have := (psrt_1.mp z).1
    omega
  · have hpn : p < n := by
      rcases Nat.lt_or_ge p n with q | q
      · exact q
      · exact absurd (nI_le q (by omega)) c
    have hb := (hT.2.2.2 p hpn).1
    refine ⟨_, hT.1.r18.1, hT.1.r18.2.1, hT.inn hpn, ?_⟩
    rw [hT.by hpn]
    have e : jisin (Int32.toInt64 (nI (b p))) 97 122 = if 97 ≤ b p ∧ b p ≤ 122 then 1 else 0 := jisin_nat hb (lo := 97) (hi := 122) (by omega) (by omega)
    rw [e]
    by_cases c1 : 97 ≤ b p ∧ b p ≤ 122
    · rw [if_pos c1]; exact ⟨fun z => absurd z (by decide), fun _ => h1 (psrt_1.mpr ⟨hpn, c1⟩)⟩
    · rw [if_neg c1]; exact ⟨fun _ => h0 (fun z => c1 (psrt_1.mp z).2), fun z => absurd _root_.rfl z⟩
theorem c_X11_isDigit {Q : Int32 → jM → Prop} {p : Nat} (hT : RB S x n b) (hp : p ≤ 96) (h1 : psrt b n p = 2 → Q 1 S) (h0 : ¬ psrt b n p = 2 → Q 0 S) : jFi E mX11_isDigit (d + 1) 0 0 [.ref (x + 94), .int (nI p)] S Q := by
  have h96 := hT.2.1
  refine T_X11_isDigit ⟨hT.1.1, ?_⟩
  rw [hT.2.2.1]
  refine ⟨fun c => h0 (fun z => ?_), fun c => ?_⟩
  · have := (nI_leI (by omega) (by omega)).mp c
    have := (psrt_22.mp z).1
    omega
  · have hpn : p < n := by
      rcases Nat.lt_or_ge p n with q | q
      · exact q
      · exact absurd (nI_le q (by omega)) c
    have hb := (hT.2.2.2 p hpn).1
    refine ⟨_, hT.1.r18.1, hT.1.r18.2.1, hT.inn hpn, ?_⟩
    rw [hT.by hpn]
    have e : jisin (Int32.toInt64 (nI (b p))) 48 57 = if 48 ≤ b p ∧ b p ≤ 57 then 1 else 0 := jisin_nat hb (lo := 48) (hi := 57) (by omega) (by omega)
    rw [e]
    by_cases c1 : 48 ≤ b p ∧ b p ≤ 57
    · rw [if_pos c1]; exact ⟨fun z => absurd z (by decide), fun _ => h1 (psrt_22.mpr ⟨hpn, c1⟩)⟩
    · rw [if_neg c1]; exact ⟨fun _ => h0 (fun z => c1 (psrt_22.mp z).2), fun z => absurd _root_.rfl z⟩
end jRef1
end
section
/-! TEXT: the reference's next token -/
section jRef2
variable {E : jEnv} {d : Nat} {S S' : jM} {x n : Nat} {b : Nat → Nat}
theorem c_X11_token {Q : jM → Prop} {e tk : Nat} (hT : RB S x n b) (h21 : ji S (x + 94) 21 = nI e) (h22 : ji S (x + 94) 22 = nI tk) (he : e ≤ n) (htk : tk ≤ 4) (hq : ∀ S', rts S S' x → TKM S' x b (ptok b n (if 0 < e ∧ (tk = 1 ∨ tk = 2) then 1 else 0) e) → Q S') : jFv E mX11_nextToken (d + 2) 0 0 [.ref (x + 94)] S Q := by
  have h96 := hT.2.1
  generalize hw : (if 0 < e ∧ (tk = 1 ∨ tk = 2) then 1 else 0) = w at hq
  have w01 : w = 0 ∨ w = 1 := by rw [← hw]; split <;> simp
  -- behind the blanks
  have aft : ∀ (st nb : Nat) (S1 : jM), pskp b (n - e) e = st → nb = (if w = 1 ∧ st = e then 1 else 0) → rts S S1 x → ji S1 (x + 94) 21 = nI st → ((ji S1 (x + 94) 21) = (ji S1 (x + 94) 19) → Q (jput (jput S1 (x + 94) 20 (ji S1 (x + 94) 21)) (x + 94) 22 0)) ∧ (¬ (ji S1 (x + 94) 21) = (ji S1 (x + 94) 19) → jFi E mX11_isLetter (d + 1) 0 0 [.ref (x + 94), .int (ji S1 (x + 94) 21)] (jput S1 (x + 94) 20 (ji S1 (x + 94) 21)) (fun r10 S9 => (r10 = 0 → jk S9 (x + 94) = 11 ∧ jFi E mX11_isDigit (d + 1) 0 0 [.ref (x + 94), .int (ji S9 (x + 94) 20)] S9 (fun r14 S13 => (r14 = 0 → jk S13 (x + 94) = 11 ∧ ∃ b17, jr S13 (x + 94) 18 = some b17 ∧ (jk S13 b17 = 12 ∧ vp_in (ji S13 (x + 94) 20) (jl S13 b17) ∧ (Q (jput (jput (jput S13 (x + 94) 22 3) (x + 94) 24 (ji S13 b17 (Int32.toNatClampNeg (ji S13 (x + 94) 20)))) (x + 94) 21 ((ji S13 (x + 94) 21) + 1))))) ∧ (¬ r14 = 0 → jk S13 (x + 94) = 11 ∧ L_X11_nextToken_214 E (d + 1) Q (x + 94) (nI nb) (jput S13 (x + 94) 23 0)))) ∧ (¬ r10 = 0 → L_X11_nextToken_128 E (d + 1) Q (x + 94) (nI nb) S9))) := by
    intro st nb S1 hst hnb g1 f21
    have hge := pskp_ge b (n - e) e
    rw [hst] at hge
    have nb01 : nb = 0 ∨ nb = 1 := by rw [hnb]; split <;> simp
    have et : ptok b n w e = (st, (if psrt b n st = 0 then st else if psrt b n st = 3 then st + 1 else prun b n (psrt b n st) (n - (st + 1)) (st + 1)), psrt b n st, nb) := by
      unfold ptok
      rw [hst, hnb]
    rw [et] at hq
    have T1 := hT.ts g1
    -- letters
    have l128 : ∀ (c q : Nat) (S2 : jM), psrt b n st = 1 → (q + c = n ∨ (n ≤ q ∧ c = 0)) → q ≤ 96 → st ≤ q → rts S S2 x → ji S2 (x + 94) 20 = nI st → ji S2 (x + 94) 21 = nI q → prun b n 1 c q = prun b n 1 (n - (st + 1)) (st + 1) → L_X11_nextToken_128 E (d + 1) Q (x + 94) (nI nb) S2 := by
      intro c
      induction c with
      | zero =>
        intro q S2 e1 hqc hq96 hsq g2 p20 p21 hr
        have hr' : q = prun b n 1 (n - (st + 1)) (st + 1) := hr
        have T2 := hT.ts g2
        have hl : st < n := (psrt_1.mp e1).1
        refine T_X11_nextToken_128 ⟨T2.1.1, ?_⟩
        rw [p21]
        refine c_X11_isLetter T2 hq96 (fun z => ?_) (fun z => ⟨fun _ => ?_, fun z2 => absurd rfl z2⟩)
        · have := (psrt_1.mp z).1
          omega
        · rw [p21, p20, nI_sub hsq]
          have hh : ∀ (y : Nat) (w24 : Int32), y = ptn (st, q, 1, nb) → w24 = (if q - st = 1 then nI (b st) else 0) → Q (jput (jput S2 (x + 94) 22 (nI y)) (x + 94) 24 w24) := by
            intro y w24 ey ew
            refine hq _ (g2.trans ((rts.put (by omega) (by omega)).trans (rts.put (by omega) (by omega)))) ?_
            rw [e1, if_neg (by decide), if_neg (by decide), ← hr']
            refine ⟨by rw [ji_put, if_neg (by omega), ji_put, if_neg (by omega)]; exact p20, by rw [ji_put, if_neg (by omega), ji_put, if_neg (by omega)]; exact p21, by rw [ji_put, if_neg (by omega), ji_put_same, ey], fun z => absurd (show (1 : Nat) = 3 from z) (by decide), fun _ => by rw [ji_put_same]; exact ew, fun z => absurd (show (1 : Nat) = 2 from z) (by decide)⟩
          have nq : ∀ z : Nat, z < 256 → (nI (q - st) = nI z ↔ q - st = z) := fun z hz => ⟨fun h => nI_inj (by omega) (by omega) h, fun h => by rw [h]⟩
          have n1 := nq 1 (by omega)
          refine ⟨fun x0 => ⟨T2.1.1, fun c1 => ⟨_, T2.1.r18.1, T2.1.r18.2.1, T2.inn hl, ?_⟩, fun c1 => ?_⟩, fun x0 => ⟨T2.1.1, fun c1 => ⟨_, T2.1.r18.1, T2.1.r18.2.1, T2.inn hl, ?_⟩, fun c1 => ?_⟩⟩
          · have e0 : nb = 0 := nI_inj (b := 0) (by omega) (by omega) x0
            rw [T2.by hl]
            exact hh 1 _ (by rw [e0]; rfl) (by rw [if_pos (n1.mp c1)])
          · have e0 : nb = 0 := nI_inj (b := 0) (by omega) (by omega) x0
            exact hh 1 _ (by rw [e0]; rfl) (by rw [if_neg (fun z => c1 (n1.mpr z))])
          · have e0 : nb = 1 := by
              rcases nb01 with q0 | q0
              · rw [q0] at x0; exact absurd rfl x0
              · exact q0
            rw [T2.by hl]
            exact hh 4 _ (by rw [e0]; rfl) (by rw [if_pos (n1.mp c1)])
          · have e0 : nb = 1 := by
              rcases nb01 with q0 | q0
              · rw [q0] at x0; exact absurd rfl x0
              · exact q0
            exact hh 4 _ (by rw [e0]; rfl) (by rw [if_neg (fun z => c1 (n1.mpr z))])
      | succ c ih =>
        intro q S2 e1 hqc hq96 hsq g2 p20 p21 hr
        have T2 := hT.ts g2
        have hl : st < n := (psrt_1.mp e1).1
        have er : prun b n 1 (c + 1) q = if psrt b n q = 1 then prun b n 1 c (q + 1) else q := rfl
        rw [er] at hr
        refine T_X11_nextToken_128 ⟨T2.1.1, ?_⟩
        rw [p21]
        refine c_X11_isLetter T2 hq96 (fun z => ⟨fun z2 => absurd z2 (by decide), fun _ => ⟨T2.1.1, ?_⟩⟩) (fun z => ⟨fun _ => ?_, fun z2 => absurd rfl z2⟩)
        · rw [if_pos z] at hr
          rw [p21, nI_1]
          exact ih (q + 1) _ e1 (by omega) (by omega) (by omega) (g2.trans (rts.put (by omega) (by omega))) (by rw [ji_put, if_neg (by omega)]; exact p20) (by rw [ji_put_same]) hr
        · rw [if_neg z] at hr
          rw [p21, p20, nI_sub hsq]
          have hh : ∀ (y : Nat) (w24 : Int32), y = ptn (st, q, 1, nb) → w24 = (if q - st = 1 then nI (b st) else 0) → Q (jput (jput S2 (x + 94) 22 (nI y)) (x + 94) 24 w24) := by
            intro y w24 ey ew
            refine hq _ (g2.trans ((rts.put (by omega) (by omega)).trans (rts.put (by omega) (by omega)))) ?_
            rw [e1, if_neg (by decide), if_neg (by decide), ← hr]
            refine ⟨by rw [ji_put, if_neg (by omega), ji_put, if_neg (by omega)]; exact p20, by rw [ji_put, if_neg (by omega), ji_put, if_neg (by omega)]; exact p21, by rw [ji_put, if_neg (by omega), ji_put_same, ey], fun z => absurd (show (1 : Nat) = 3 from z) (by decide), fun _ => by rw [ji_put_same]; exact ew, fun z => absurd (show (1 : Nat) = 2 from z) (by decide)⟩
          have nq : ∀ z : Nat, z < 256 → (nI (q - st) = nI z ↔ q - st = z) := fun z hz => ⟨fun h => nI_inj (by omega) (by omega) h, fun h => by rw [h]⟩
          have n1 := nq 1 (by omega)
          refine ⟨fun x0 => ⟨T2.1.1, fun c1 => ⟨_, T2.1.r18.1, T2.1.r18.2.1, T2.inn hl, ?_⟩, fun c1 => ?_⟩, fun x0 => ⟨T2.1.1, fun c1 => ⟨_, T2.1.r18.1, T2.1.r18.2.1, T2.inn hl, ?_⟩, fun c1 => ?_⟩⟩
          · have e0 : nb = 0 := nI_inj (b := 0) (by omega) (by omega) x0
            rw [T2.by hl]
            exact hh 1 _ (by rw [e0]; rfl) (by rw [if_pos (n1.mp c1)])
          · have e0 : nb = 0 := nI_inj (b := 0) (by omega) (by omega) x0
            exact hh 1 _ (by rw [e0]; rfl) (by rw [if_neg (fun z => c1 (n1.mpr z))])
          · have e0 : nb = 1 := by
              rcases nb01 with q0 | q0
              · rw [q0] at x0; exact absurd rfl x0
              · exact q0
            rw [T2.by hl]
            exact hh 4 _ (by rw [e0]; rfl) (by rw [if_pos (n1.mp c1)])
          · have e0 : nb = 1 := by
              rcases nb01 with q0 | q0
              · rw [q0] at x0; exact absurd rfl x0
              · exact q0
            exact hh 4 _ (by rw [e0]; rfl) (by rw [if_neg (fun z => c1 (n1.mpr z))])
    -- digits
    have dfin : ∀ (q : Nat) (S2 : jM), psrt b n st = 2 → st ≤ q → q ≤ 96 → rts S S2 x → ji S2 (x + 94) 20 = nI st → ji S2 (x + 94) 21 = nI q → ji S2 (x + 94) 23 = nI (pnum b (if q - st ≤ 4 then q - st else 4) st 0) → q = prun b n 2 (n - (st + 1)) (st + 1) → (nI nb = 0 → jk S2 (x + 94) = 11 ∧ (((ji S2 (x + 94) 21) - (ji S2 (x + 94) 20)) ≤ 4 → Q (jput S2 (x + 94) 22 2)) ∧ (¬ ((ji S2 (x + 94) 21) - (ji S2 (x + 94) 20)) ≤ 4 → Q (jput S2 (x + 94) 22 4))) ∧ (¬ nI nb = 0 → jk S2 (x + 94) = 11 ∧ Q (jput S2 (x + 94) 22 4)) := by
      intro q S2 e2 hsq hq96 g2 p20 p21 p23 hr
      have T2 := hT.ts g2
      have hh : ∀ y : Nat, y = ptn (st, q, 2, nb) → Q (jput S2 (x + 94) 22 (nI y)) := by
        intro y ey
        refine hq _ (g2.trans (rts.put (by omega) (by omega))) ?_
        rw [e2, if_neg (by decide), if_neg (by decide), ← hr]
        refine ⟨by rw [ji_put, if_neg (by omega)]; exact p20, by rw [ji_put, if_neg (by omega)]; exact p21, by rw [ji_put_same, ey], fun z => absurd (show (2 : Nat) = 3 from z) (by decide), fun z => absurd (show (2 : Nat) = 1 from z) (by decide), fun _ h4 => ?_⟩
        have h4' : q - st ≤ 4 := h4
        rw [ji_put, if_neg (by omega), p23, if_pos h4']
      have pt : ptn (st, q, 2, nb) = if nb = 1 ∨ 4 < q - st then 4 else 2 := rfl
      rw [p21, p20, nI_sub hsq]
      refine ⟨fun x0 => ⟨T2.1.1, fun c4 => hh 2 ?_, fun c4 => hh 4 ?_⟩, fun x0 => ⟨T2.1.1, hh 4 ?_⟩⟩
      · have e0 : nb = 0 := nI_inj (b := 0) (by omega) (by omega) x0
        have := (nI_leI (b := 4) (by omega) (by omega)).mp c4
        rw [pt, if_neg (by omega)]
      · have : ¬ q - st ≤ 4 := fun z => c4 (nI_le (b := 4) z (by omega))
        rw [pt, if_pos (by omega)]
      · have e0 : nb = 1 := by
          rcases nb01 with q0 | q0
          · rw [q0] at x0; exact absurd rfl x0
          · exact q0
        rw [pt, if_pos (Or.inl e0)]
    have l214 : ∀ (c q : Nat) (S2 : jM), psrt b n st = 2 → (q + c = n ∨ (n ≤ q ∧ c = 0)) → q ≤ 96 → st ≤ q → rts S S2 x → ji S2 (x + 94) 20 = nI st → ji S2 (x + 94) 21 = nI q → ji S2 (x + 94) 23 = nI (pnum b (if q - st ≤ 4 then q - st else 4) st 0) → prun b n 2 c q = prun b n 2 (n - (st + 1)) (st + 1) → L_X11_nextToken_214 E (d + 1) Q (x + 94) (nI nb) S2 := by
      intro c
      induction c with
      | zero =>
        intro q S2 e2 hqc hq96 hsq g2 p20 p21 p23 hr
        have T2 := hT.ts g2
        refine T_X11_nextToken_214 ⟨T2.1.1, ?_⟩
        rw [p21]
        refine c_X11_isDigit T2 hq96 (fun z => ?_) (fun z => ⟨fun _ => dfin q S2 e2 hsq hq96 g2 p20 p21 p23 hr, fun z2 => absurd rfl z2⟩)
        have := (psrt_22.mp z).1
        omega
      | succ c ih =>
        intro q S2 e2 hqc hq96 hsq g2 p20 p21 p23 hr
        have T2 := hT.ts g2
        have er : prun b n 2 (c + 1) q = if psrt b n q = 2 then prun b n 2 c (q + 1) else q := rfl
        rw [er] at hr
        refine T_X11_nextToken_214 ⟨T2.1.1, ?_⟩
        rw [p21]
        refine c_X11_isDigit T2 hq96 (fun z => ⟨fun z2 => absurd z2 (by decide), fun _ => ⟨T2.1.1, ?_⟩⟩) (fun z => ⟨fun _ => dfin q S2 e2 hsq hq96 g2 p20 p21 p23 (by rw [if_neg z] at hr; exact hr), fun z2 => absurd rfl z2⟩)
        rw [if_pos z] at hr
        have hz := psrt_22.mp z
        rw [p21, p20, nI_sub hsq, nI_1]
        have go : ∀ w23 : Int32, w23 = nI (pnum b (if q + 1 - st ≤ 4 then q + 1 - st else 4) st 0) → L_X11_nextToken_214 E (d + 1) Q (x + 94) (nI nb) (jput (jput S2 (x + 94) 23 w23) (x + 94) 21 (nI (q + 1))) := fun w23 ew =>
          ih (q + 1) _ e2 (by omega) (by omega) (by omega) (g2.trans ((rts.put (by omega) (by omega)).trans (rts.put (by omega) (by omega)))) (by rw [ji_put, if_neg (by omega), ji_put, if_neg (by omega)]; exact p20) (by rw [ji_put_same]) (by rw [ji_put, if_neg (by omega), ji_put_same, ew]) hr
        refine ⟨fun c4 => go _ ?_, fun c4 => ⟨_, T2.1.r18.1, T2.1.r18.2.1, T2.inn hz.1, go _ ?_⟩⟩
        · have h4 := (nI_leI (a := 4) (by omega) (by omega)).mp c4
          rw [p23, if_neg (c := q + 1 - st ≤ 4) (by omega)]
          by_cases e4 : q - st ≤ 4
          · rw [if_pos e4, show q - st = 4 by omega]
          · rw [if_neg e4]
        · have h4 : ¬ 4 ≤ q - st := fun z => c4 (nI_le (a := 4) z (by omega))
          rw [p23, if_pos (c := q - st ≤ 4) (by omega), if_pos (c := q + 1 - st ≤ 4) (by omega), T2.by hz.1, show q + 1 - st = (q - st) + 1 by omega, pnum_snoc, show st + (q - st) = q by omega, show (10 : Int32) = nI 10 from rfl, nI_mul, nI_add, show (48 : Int32) = nI 48 from rfl, nI_sub (by omega)]
    rw [T1.2.2.1, f21]
    refine ⟨fun c0 => ?_, fun c0 => ?_⟩
    · have e0 : st = n := nI_inj (by omega) (by omega) c0
      have z0 : psrt b n st = 0 := psrt_0.mpr (by omega)
      refine hq _ (g1.trans ((rts.put (by omega) (by omega)).trans (rts.put (by omega) (by omega)))) ?_
      rw [z0, if_pos rfl]
      exact ⟨by rw [ji_put, if_neg (by omega), ji_put_same], by rw [ji_put, if_neg (by omega), ji_put, if_neg (by omega)]; exact f21, by rw [ji_put_same]; rfl, fun z => absurd (show (0 : Nat) = 3 from z) (by decide), fun z => absurd (show (0 : Nat) = 1 from z) (by decide), fun z => absurd (show (0 : Nat) = 2 from z) (by decide)⟩
    · have hl : st < n := by
        have : st ≠ n := fun z => c0 (by rw [z])
        omega
      have ns : ¬ psrt b n st = 0 := fun z => by have := psrt_0.mp z; omega
      have le3 := psrt_le (b := b) (n := n) (p := st)
      have g2 : rts S (jput S1 (x + 94) 20 (nI st)) x := g1.trans (rts.put (by omega) (by omega))
      have T2 := hT.ts g2
      have p20 : ji (jput S1 (x + 94) 20 (nI st)) (x + 94) 20 = nI st := ji_put_same _ _ _ _
      have p21 : ji (jput S1 (x + 94) 20 (nI st)) (x + 94) 21 = nI st := by rw [ji_put, if_neg (by omega)]; exact f21
      have one : ∀ s, psrt b n st = s → prun b n s (n - st) st = prun b n s (n - (st + 1)) (st + 1) := fun s hs => by
        rw [show n - st = (n - (st + 1)) + 1 by omega]
        show (if psrt b n st = s then _ else _) = _
        rw [if_pos hs]
      refine c_X11_isLetter T2 (by omega) (fun e1 => ⟨fun z => absurd z (by decide), fun _ => l128 (n - st) st _ e1 (by omega) (by omega) (Nat.le_refl _) g2 p20 p21 (one 1 e1)⟩) (fun n1 => ⟨fun _ => ⟨T2.1.1, ?_⟩, fun z => absurd rfl z⟩)
      rw [p20]
      refine c_X11_isDigit T2 (by omega) (fun e2 => ⟨fun z => absurd z (by decide), fun _ => ⟨T2.1.1, ?_⟩⟩) (fun n2 => ⟨fun _ => ⟨T2.1.1, _, T2.1.r18.1, T2.1.r18.2.1, ?_, ?_⟩, fun z => absurd rfl z⟩)
      · refine l214 (n - st) st _ e2 (by omega) (by omega) (Nat.le_refl _) (g2.trans (rts.put (by omega) (by omega))) (by rw [ji_put, if_neg (by omega)]; exact p20) (by rw [ji_put, if_neg (by omega)]; exact p21) ?_ (one 2 e2)
        rw [ji_put_same, Nat.sub_self, if_pos (by omega)]; rfl
      · rw [p20]; exact T2.inn hl
      · have e3 : psrt b n st = 3 := by omega
        rw [p20, p21, nI_1, T2.by hl]
        refine hq _ (g2.trans (((rts.put (by omega) (by omega)).trans (rts.put (by omega) (by omega))).trans (rts.put (by omega) (by omega)))) ?_
        rw [e3, if_neg (by decide), if_pos rfl]
        exact ⟨by rw [ji_put, if_neg (by omega), ji_put, if_neg (by omega), ji_put, if_neg (by omega)]; exact p20, by rw [ji_put_same], by rw [ji_put, if_neg (by omega), ji_put, if_neg (by omega), ji_put_same]; rfl, fun _ => by rw [ji_put, if_neg (by omega), ji_put_same], fun z => absurd (show (3 : Nat) = 1 from z) (by decide), fun z => absurd (show (3 : Nat) = 2 from z) (by decide)⟩
  have l34 : ∀ (c p : Nat) (S1 : jM), p + c = n → e ≤ p → pskp b (n - e) e = pskp b c p → rts S S1 x → ji S1 (x + 94) 21 = nI p → L_X11_nextToken_34 E (d + 1) Q (x + 94) (nI w) (nI e) S1 := by
    intro c
    induction c with
    | zero =>
      intro p S1 hp hep hsk g1 f21
      obtain rfl : p = n := by omega
      have T1 := hT.ts g1
      have a0 := aft p 0 S1 hsk
      have a1 := aft p 1 S1 hsk
      refine T_X11_nextToken_34 ⟨T1.1.1, fun _ => ⟨fun x0 => a0 ?_ g1 f21, fun x0 => ⟨fun xe => a1 ?_ g1 f21, fun xe => a0 ?_ g1 f21⟩⟩, fun cc => absurd (by rw [T1.2.2.1, f21]; exact Int32.le_rfl) cc⟩
      · have : w = 0 := nI_inj (b := 0) (by omega) (by omega) x0
        rw [if_neg (by omega)]
      · have hw1 : w = 1 := by
          rcases w01 with q | q
          · rw [q] at x0; exact absurd rfl x0
          · exact q
        rw [f21] at xe
        have : e = p := nI_inj (by omega) (by omega) xe
        rw [if_pos ⟨hw1, this.symm⟩]
      · rw [f21] at xe
        rw [if_neg (fun z => xe (by rw [z.2]))]
    | succ c ih =>
      intro p S1 hp hep hsk g1 f21
      have T1 := hT.ts g1
      have hpn : p < n := by omega
      have hb := (hT.2.2.2 p hpn).1
      have ek : pskp b (c + 1) p = if b p = 32 then pskp b c (p + 1) else p := rfl
      refine T_X11_nextToken_34 ⟨T1.1.1, fun cc => absurd (by rw [T1.2.2.1, f21] at cc; exact cc) (nI_ge (by omega) (by omega)), fun _ => ⟨_, T1.1.r18.1, T1.1.r18.2.1, by rw [f21]; exact T1.inn hpn, fun c32 => ?_, fun c32 => ?_⟩⟩
      · rw [f21, T1.by hpn] at c32
        have e32 : b p = 32 := nI_inj (b := 32) (by omega) (by omega) c32
        rw [f21, nI_1]
        refine ih (p + 1) _ (by omega) (by omega) ?_ (g1.trans (rts.put (by omega) (by omega))) (by rw [ji_put_same])
        rw [hsk, ek, if_pos e32]
      · rw [f21, T1.by hpn] at c32
        have e32 : ¬ b p = 32 := fun z => c32 (by rw [z]; rfl)
        have hsk' : pskp b (n - e) e = p := by rw [hsk, ek, if_neg e32]
        have a0 := aft p 0 S1 hsk'
        have a1 := aft p 1 S1 hsk'
        refine ⟨fun x0 => a0 ?_ g1 f21, fun x0 => ⟨fun xe => a1 ?_ g1 f21, fun xe => a0 ?_ g1 f21⟩⟩
        · have : w = 0 := nI_inj (b := 0) (by omega) (by omega) x0
          rw [if_neg (by omega)]
        · have hw1 : w = 1 := by
            rcases w01 with q | q
            · rw [q] at x0; exact absurd rfl x0
            · exact q
          rw [f21] at xe
          have : e = p := nI_inj (by omega) (by omega) xe
          rw [if_pos ⟨hw1, this.symm⟩]
        · rw [f21] at xe
          rw [if_neg (fun z => xe (by rw [z.2]))]
  refine T_X11_nextToken ⟨hT.1.1, ?_⟩
  rw [h21, h22]
  have g34 : ∀ y : Nat, y = w → L_X11_nextToken_34 E (d + 1) Q (x + 94) (nI y) (nI e) S := fun y hy => by rw [hy]; exact l34 (n - e) e S (by omega) (Nat.le_refl _) rfl rts.rfl h21
  refine ⟨fun c0 => g34 0 ?_, fun c0 => ⟨fun c1 => g34 1 ?_, fun c1 => ⟨fun c2 => g34 1 ?_, fun c2 => g34 0 ?_⟩⟩⟩
  · have := (nI_leI (b := 0) (by omega) (by omega)).mp c0
    rw [← hw, if_neg (by omega)]
  · have e0 : 0 < e := by
      rcases Nat.eq_zero_or_pos e with q | q
      · rw [q] at c0; exact absurd (by decide) c0
      · exact q
    have : tk = 1 := nI_inj (b := 1) (by omega) (by omega) c1
    rw [← hw, if_pos ⟨e0, Or.inl this⟩]
  · have e0 : 0 < e := by
      rcases Nat.eq_zero_or_pos e with q | q
      · rw [q] at c0; exact absurd (by decide) c0
      · exact q
    have : tk = 2 := nI_inj (b := 2) (by omega) (by omega) c2
    rw [← hw, if_pos ⟨e0, Or.inr this⟩]
  · rw [← hw, if_neg (fun z => ?_)]
    rcases z.2 with q | q
    · exact c1 (by rw [q]; rfl)
    · exact c2 (by rw [q]; rfl)
end jRef2
end
section
/-! TEXT: the reference's signs, keys and steps -/
/-- the reference's code L behind place la of its row -/
def CDM (S : jM) (x la key : Nat) (L : List Nat) : Prop := ji S (x + 94) 27 = nI L.length ∧ ji S (x + 94) 29 = nI (pops L) ∧ ji S (x + 94) 28 = nI la ∧ ∀ i, i < L.length → ji S (x + 95) (la + 2 * i) = nI (whatw (L.getD i 0)) ∧ ji S (x + 95) (la + 2 * i + 1) = nI (valw key (L.getD i 0))
/-- what its reading changes -/
def rtp (S S' : jM) (x la : Nat) : Prop := jsame S S' ∧ (∀ y, y ≠ x + 94 → y ≠ x + 95 → ji S' y = ji S y) ∧ (∀ j, (j < 20 ∨ 30 ≤ j ∨ j = 28) → ji S' (x + 94) j = ji S (x + 94) j) ∧ ∀ j, (j < la ∨ la + 196 ≤ j) → ji S' (x + 95) j = ji S (x + 95) j
theorem ptn_3 {k : jtk} (h : k.2.2.1 ≤ 3) : ptn k = 3 ↔ k.2.2.1 = 3 := by
  unfold ptn
  rcases (show k.2.2.1 = 0 ∨ k.2.2.1 = 1 ∨ k.2.2.1 = 2 ∨ k.2.2.1 = 3 by omega) with e | e | e | e
  · rw [e, if_pos rfl]
  · rw [e, if_neg (by decide), if_pos rfl]
    split <;> decide
  · rw [e, if_neg (by decide), if_neg (by decide), if_pos rfl]
    split <;> decide
  · rw [e, if_neg (by decide), if_neg (by decide), if_neg (by decide)]
theorem ptn_le (k : jtk) : ptn k ≤ 4 := by
  unfold ptn
  repeat' split
  all_goals omega
theorem ptn_0 {k : jtk} (h : k.2.2.1 ≤ 3) : ptn k = 0 ↔ k.2.2.1 = 0 := by
  unfold ptn
  rcases (show k.2.2.1 = 0 ∨ k.2.2.1 = 1 ∨ k.2.2.1 = 2 ∨ k.2.2.1 = 3 by omega) with e | e | e | e
  · rw [e, if_pos rfl]
  · rw [e, if_neg (by decide), if_pos rfl]
    split <;> decide
  · rw [e, if_neg (by decide), if_neg (by decide), if_pos rfl]
    split <;> decide
  · rw [e, if_neg (by decide), if_neg (by decide), if_neg (by decide)]
theorem ptn_12 {k : jtk} (h4 : ¬ ptn k = 4) : (ptn k = 1 ∨ ptn k = 2) ↔ (k.2.2.1 = 1 ∨ k.2.2.1 = 2) := by
  unfold ptn at h4 ⊢
  by_cases c0 : k.2.2.1 = 0
  · rw [if_pos c0]; omega
  · rw [if_neg c0] at h4 ⊢
    by_cases c1 : k.2.2.1 = 1
    · rw [if_pos c1] at h4 ⊢
      by_cases q : k.2.2.2 = 1
      · rw [if_pos q] at h4; exact absurd rfl h4
      · rw [if_neg q]; omega
    · rw [if_neg c1] at h4 ⊢
      by_cases c2 : k.2.2.1 = 2
      · rw [if_pos c2] at h4 ⊢
        by_cases q : k.2.2.2 = 1 ∨ 4 < k.2.1 - k.1
        · rw [if_pos q] at h4; exact absurd rfl h4
        · rw [if_neg q]; omega
      · rw [if_neg c2]; omega
section jRef3
variable {E : jEnv} {d : Nat} {S S' : jM} {x n la key : Nat} {b : Nat → Nat} {k : jtk}
theorem rtp.rfl : rtp S S x la := ⟨jsame.rfl, fun _ _ _ => _root_.rfl, fun _ _ => _root_.rfl, fun _ _ => _root_.rfl⟩
theorem rtp.trans {S1 S2 : jM} (h1 : rtp S S1 x la) (h2 : rtp S1 S2 x la) : rtp S S2 x la := ⟨h1.1.trans h2.1, fun y a b => (h2.2.1 y a b).trans (h1.2.1 y a b), fun j a => (h2.2.2.1 j a).trans (h1.2.2.1 j a), fun j a => (h2.2.2.2 j a).trans (h1.2.2.2 j a)⟩
theorem rts.tp (h : rts S S' x) : rtp S S' x la := ⟨h.1, fun y a _ => h.2.1 y a, fun j hj => h.2.2 j (by omega), fun j _ => by rw [h.2.1 _ (by omega)]⟩
theorem RB.tp (h : RB S x n b) (g : rtp S S' x la) : RB S' x n b := by
  obtain ⟨h1, h2, h3, h4⟩ := h
  exact ⟨h1.same g.1, h2, (g.2.2.1 19 (by omega)).trans h3, fun j hj => ⟨(h4 j hj).1, by rw [g.2.1 _ (by omega) (by omega)]; exact (h4 j hj).2⟩⟩
theorem CDM.ts {L : List Nat} (h : CDM S x la key L) (g : rts S S' x) : CDM S' x la key L := ⟨(g.2.2 27 (by omega)).trans h.1, (g.2.2 29 (by omega)).trans h.2.1, (g.2.2 28 (by omega)).trans h.2.2.1, fun i hi => by rw [g.2.1 _ (by omega)]; exact h.2.2.2 i hi⟩
theorem c_X11_next {Q : jM → Prop} (hT : RB S x n b) (hK : TKM S x b k) (ok : TKok b n k) (h4 : ¬ ptn k = 4) (hq : ∀ S', rts S S' x → TKM S' x b (pnext b n k) → Q S') : jFv E mX11_nextToken (d + 2) 0 0 [.ref (x + 94)] S Q := by
  refine c_X11_token hT hK.2.1 hK.2.2.1 ok.2.1 (ptn_le k) (fun S' g K => hq S' g ?_)
  have e : (if 0 < k.2.1 ∧ (ptn k = 1 ∨ ptn k = 2) then 1 else 0) = (if k.2.2.1 = 1 ∨ k.2.2.1 = 2 then 1 else 0) := by
    by_cases c : k.2.2.1 = 1 ∨ k.2.2.1 = 2
    · have := ok.2.2.2.1 (by omega)
      rw [if_pos c, if_pos ⟨by omega, (ptn_12 h4).mpr c⟩]
    · rw [if_neg c, if_neg (fun z => c ((ptn_12 h4).mp z.2))]
  rw [e] at K
  exact K
theorem c_X11_isSign {Q : Int32 → jM → Prop} {c : Nat} (hT : RB S x n b) (hK : TKM S x b k) (ok : TKok b n k) (hc : c < 256) (h1 : k.2.2.1 = 3 → b k.1 = c → Q 1 S) (h0 : ¬ (k.2.2.1 = 3 ∧ b k.1 = c) → Q 0 S) : jFi E mX11_isSign d 0 0 [.ref (x + 94), .int (nI c)] S Q := by
  have h96 := hT.2.1
  have s3 := ok.so
  have p4 := ptn_le k
  refine T_X11_isSign ⟨hT.1.1, ?_⟩
  rw [hK.2.2.1]
  refine ⟨fun c3 => ?_, fun c3 => h0 (fun z => c3 (by rw [(ptn_3 s3).mpr z.1]; rfl))⟩
  have e3 : k.2.2.1 = 3 := (ptn_3 s3).mp (nI_inj (b := 3) (by omega) (by omega) c3)
  have hl := ok.lt (by omega)
  have hb := (hT.2.2.2 k.1 hl).1
  rw [hK.2.2.2.1 e3]
  exact ⟨fun e => h1 e3 (nI_inj (by omega) (by omega) e), fun e => h0 (fun z => e (by rw [z.2]))⟩
theorem c_X11_stepW {Q : jM → Prop} {L : List Nat} {w y z : Nat} (hM : ML S (x + 94)) (hC : CDM S x la key L) (hl : L.length ≤ 95) (hla : la + 196 ≤ 3135) (ey : y = whatw w) (ez : z = valw key w)
    (hq : ∀ S', rtp S S' x la → (∀ j, j ≠ 27 → ji S' (x + 94) j = ji S (x + 94) j) → ji S' (x + 94) 27 = nI (L.length + 1) → (∀ i, i < L.length + 1 → ji S' (x + 95) (la + 2 * i) = nI (whatw ((L ++ [w]).getD i 0)) ∧ ji S' (x + 95) (la + 2 * i + 1) = nI (valw key ((L ++ [w]).getD i 0))) → Q S') : jFv E mX11_step d 0 0 [.ref (x + 94), .int (nI y), .int (nI z)] S Q := by
  obtain ⟨l1, l2, l3, l4⟩ := hC
  have ea : ji S (x + 94) 28 + 2 * ji S (x + 94) 27 = nI (la + 2 * L.length) := by rw [l1, l3, nI_2, nI_add]
  refine T_X11_step ⟨hM.1, _, hM.rr0, hM.kk1, ?_, ?_, ?_⟩
  · rw [ea, hM.ll1]; exact jin_nI (by omega) (by omega)
  · rw [ea, nI_1, hM.ll1]; exact jin_nI (by omega) (by omega)
  · rw [ea, nI_1 (la + 2 * L.length), l1, nI_1 L.length, jcl (by omega), jcl (by omega)]
    refine hq _ ⟨⟨_root_.rfl, _root_.rfl, _root_.rfl, _root_.rfl⟩, fun q a c => by rw [ji_put_ne _ _ _ _ a, ji_put_ne _ _ _ _ c, ji_put_ne _ _ _ _ c], fun j hj => by rw [ji_put, if_neg (by omega), ji_put_ne _ _ _ _ (by omega), ji_put_ne _ _ _ _ (by omega)], fun j hj => by rw [ji_put_ne _ _ _ _ (by omega), ji_put, if_neg (by omega), ji_put, if_neg (by omega)]⟩ (fun j hj => by rw [ji_put, if_neg (by omega), ji_put_ne _ _ _ _ (by omega), ji_put_ne _ _ _ _ (by omega)]) (ji_put_same _ _ _ _) (fun i hi => ?_)
    rw [getD_app, ji_put_ne _ _ _ _ (show x + 95 ≠ x + 94 by omega), ji_put, ji_put, ji_put, ji_put]
    by_cases e : i = L.length
    · rw [if_pos e, e, if_neg (by omega), if_pos ⟨_root_.rfl, _root_.rfl⟩, if_pos ⟨_root_.rfl, _root_.rfl⟩, ey, ez]
      exact ⟨_root_.rfl, _root_.rfl⟩
    · rw [if_neg e, if_neg (by omega), if_neg (by omega), if_neg (by omega), if_neg (by omega)]
      exact l4 i (by omega)
theorem c_X11_isWordAt {Q : Int32 → jM → Prop} {c0 c1 c2 c3 : Nat} (hT : RB S x n b) (hK : TKM S x b k) (ok : TKok b n k) (nb : k.2.2.2 = 0) (h0 : c0 < 256) (h1 : c1 < 256) (h2 : c2 < 256) (h3 : c3 < 256) (hz : c3 ≠ 0) (hy : (k.2.2.1 = 1 ∧ k.2.1 - k.1 = 4 ∧ b k.1 = c0 ∧ b (k.1 + 1) = c1 ∧ b (k.1 + 2) = c2 ∧ b (k.1 + 3) = c3) → Q 1 S) (hn : ¬ (k.2.2.1 = 1 ∧ k.2.1 - k.1 = 4 ∧ b k.1 = c0 ∧ b (k.1 + 1) = c1 ∧ b (k.1 + 2) = c2 ∧ b (k.1 + 3) = c3) → Q 0 S) : jFi E mX11_isWordAt d 0 0 [.ref (x + 94), .int (nI c0), .int (nI c1), .int (nI c2), .int (nI c3)] S Q := by
  have h96 := hT.2.1
  have s3 := ok.so
  have kl := ok.1
  have ke := ok.2.1
  have p4 := ptn_le k
  have e1 : ptn k = 1 ↔ k.2.2.1 = 1 := by
    unfold ptn
    rw [nb]
    rcases (show k.2.2.1 = 0 ∨ k.2.2.1 = 1 ∨ k.2.2.1 = 2 ∨ k.2.2.1 = 3 by omega) with e | e | e | e
    · rw [e, if_pos _root_.rfl]
    · rw [e, if_neg (by decide), if_pos _root_.rfl, if_neg (by decide)]
    · rw [e, if_neg (by decide), if_neg (by decide), if_pos _root_.rfl]
      split <;> decide
    · rw [e, if_neg (by decide), if_neg (by decide), if_neg (by decide)]
  refine T_X11_isWordAt ⟨fun c => absurd (nI_inj (b := 0) (by omega) (by omega) c) hz, fun _ => ⟨hT.1.1, ?_⟩⟩
  rw [hK.2.2.1, hK.2.1, hK.1, nI_sub kl]
  refine ⟨fun q1 => ⟨fun q4 => ?_, fun q4 => hn (fun z => q4 (by rw [z.2.1]; rfl))⟩, fun q1 => hn (fun z => q1 (by rw [e1.mpr z.1]; rfl))⟩
  have es : k.2.2.1 = 1 := e1.mp (nI_inj (b := 1) (by omega) (by omega) q1)
  have e4 : k.2.1 - k.1 = 4 := nI_inj (b := 4) (by omega) (by omega) q4
  have a1 : nI k.1 + 1 = nI (k.1 + 1) := nI_1 _
  have a2 : nI k.1 + 2 = nI (k.1 + 2) := nI_add k.1 2
  have a3 : nI k.1 + 3 = nI (k.1 + 3) := nI_add k.1 3
  have eq : ∀ j c, j < 4 → c < 256 → (nI (b (k.1 + j)) = nI c ↔ b (k.1 + j) = c) := fun j c hj hc => by
    have := (hT.2.2.2 (k.1 + j) (by omega)).1
    exact ⟨fun h => nI_inj (by omega) (by omega) h, fun h => by rw [h]⟩
  have b0 : ji S (x + 109) (Int32.toNatClampNeg (nI k.1)) = nI (b (k.1 + 0)) := hT.by (by omega)
  refine ⟨_, hT.1.r18.1, hT.1.r18.2.1, hT.inn (by omega), ?_⟩
  rw [b0, a1, a2, a3, hT.by (p := k.1 + 1) (by omega), hT.by (p := k.1 + 2) (by omega), hT.by (p := k.1 + 3) (by omega)]
  exact ⟨fun r0 => ⟨hT.inn (by omega), fun r1 => ⟨hT.inn (by omega), fun r2 => ⟨hT.inn (by omega), fun r3 => hy ⟨es, e4, (eq 0 c0 (by omega) h0).mp r0, (eq 1 c1 (by omega) h1).mp r1, (eq 2 c2 (by omega) h2).mp r2, (eq 3 c3 (by omega) h3).mp r3⟩, fun r3 => hn (fun z => r3 ((eq 3 c3 (by omega) h3).mpr z.2.2.2.2.2))⟩, fun r2 => hn (fun z => r2 ((eq 2 c2 (by omega) h2).mpr z.2.2.2.2.1))⟩, fun r1 => hn (fun z => r1 ((eq 1 c1 (by omega) h1).mpr z.2.2.2.1))⟩, fun r0 => hn (fun z => r0 ((eq 0 c0 (by omega) h0).mpr z.2.2.1))⟩
theorem c_X11_key {Q : Int32 → jM → Prop} (hT : RB S x n b) (hK : TKM S x b k) (ok : TKok b n k) (nb : k.2.2.2 = 0) (h : Q (if pkey b k = 9 then -1 else nI (pkey b k)) S) : jFi E mX11_key (d + 1) 0 0 [.ref (x + 94)] S Q := by
  unfold pkey at h
  refine T_X11_key ⟨hT.1.1, c_X11_isWordAt (c0 := 116) (c1 := 101) (c2 := 114) (c3 := 109) hT hK ok nb (by omega) (by omega) (by omega) (by omega) (by omega) (fun y0 => ⟨fun z => absurd z (by decide), fun _ => ?_⟩) (fun n0 => ⟨fun _ => ⟨hT.1.1, c_X11_isWordAt (c0 := 102) (c1 := 97) (c2 := 109) (c3 := 101) hT hK ok nb (by omega) (by omega) (by omega) (by omega) (by omega) (fun y1 => ⟨fun z => absurd z (by decide), fun _ => ?_⟩) (fun n1 => ⟨fun _ => ⟨hT.1.1, c_X11_isWordAt (c0 := 102) (c1 := 105) (c2 := 110) (c3 := 101) hT hK ok nb (by omega) (by omega) (by omega) (by omega) (by omega) (fun y2 => ⟨fun z => absurd z (by decide), fun _ => ?_⟩) (fun n2 => ⟨fun _ => ?_, fun z => absurd _root_.rfl z⟩)⟩, fun z => absurd _root_.rfl z⟩)⟩, fun z => absurd _root_.rfl z⟩)⟩
  · rw [if_pos y0] at h; exact h
  · rw [if_neg n0, if_pos y1] at h; exact h
  · rw [if_neg n0, if_neg n1, if_pos y2] at h; exact h
  · rw [if_neg n0, if_neg n1, if_neg n2] at h; exact h
end jRef3
end
section
/-! TEXT: the reference reads chains as the plain reading does -/
def PO11 (S : jM) (x la key par bang : Nat) (b : Nat → Nat) (r : jrs) : Prop := (r.1 = true → TKM S x b r.2.1 ∧ CDM S x la key r.2.2 ∧ ji S (x + 94) 25 = nI par ∧ ji S (x + 94) 26 = nI bang) ∧ (r.1 = false → ji S (x + 94) 20 = nI r.2.1.1)
def RdM (E : jEnv) (x n la key : Nat) (b : Nat → Nat) (F lev D : Nat) (M : jMd) : Prop := ∀ (par bang : Nat) (k : jtk) (L : List Nat) (S : jM) (Q : Int32 → jM → Prop), pmu lev par bang ≤ F → par ≤ 8 → bang ≤ 8 → RB S x n b → TKM S x b k → TKok b n k → CDM S x la key L → ji S (x + 94) 25 = nI par → ji S (x + 94) 26 = nI bang → L.length + 1 ≤ k.1 → (∀ S', rtp S S' x la → PO11 S' x la key par bang b (pread b n key F lev par bang k L) → Q (rB (pread b n key F lev par bang k L)) S') → jFi E M D 0 0 [.ref (x + 94), .int (nI key)] S Q
section jRef4
variable {E : jEnv} {S S' : jM} {x n la key : Nat} {b : Nat → Nat} {F lev : Nat}
theorem CDM.add {L : List Nat} {w : Nat} (hw : ¬ w < 20000) (hC : CDM S x la key L) (f : ∀ j, j ≠ 27 → ji S' (x + 94) j = ji S (x + 94) j) (e27 : ji S' (x + 94) 27 = nI (L.length + 1)) (r : ∀ i, i < L.length + 1 → ji S' (x + 95) (la + 2 * i) = nI (whatw ((L ++ [w]).getD i 0)) ∧ ji S' (x + 95) (la + 2 * i + 1) = nI (valw key ((L ++ [w]).getD i 0))) : CDM S' x la key (L ++ [w]) := by
  refine ⟨by rw [e27, List.length_append]; rfl, ?_, (f 28 (by omega)).trans hC.2.2.1, fun i hi => r i (by rw [List.length_append] at hi; exact hi)⟩
  rw [f 29 (by omega), pops_app]
  show _ = nI (pops L + ((if w < 20000 then 1 else 0) + 0))
  rw [if_neg hw]; exact hC.2.1
theorem TKM.of {k : jtk} (h : TKM S x b k) (f : ∀ j, j ≠ 27 → ji S' (x + 94) j = ji S (x + 94) j) : TKM S' x b k := by
  obtain ⟨a1, a2, a3, a4, a5, a6⟩ := h
  exact ⟨(f 20 (by omega)).trans a1, (f 21 (by omega)).trans a2, (f 22 (by omega)).trans a3, fun z => (f 24 (by omega)).trans (a4 z), fun z => (f 24 (by omega)).trans (a5 z), fun z y => (f 23 (by omega)).trans (a6 z y)⟩
/-- a sign is in hand: the next part, and the step -/
theorem rjoin {par bang : Nat} {k : jtk} {L : List Nat} {M : jMd} {Q : Int32 → jM → Prop} {cont : jM → Prop} {c2 : Int32} (hla : la + 196 ≤ 3135) (hR : RdM E x n la key b F (lev + 1) (F + 4) M) (hm : pmu (lev + 1) par bang ≤ F) (hp8 : par ≤ 8) (hb8 : bang ≤ 8) (hT : RB S x n b) (hK : TKM S x b k) (ok : TKok b n k) (hC : CDM S x la key L) (e25 : ji S (x + 94) 25 = nI par) (e26 : ji S (x + 94) 26 = nI bang) (hlen : L.length + 1 ≤ k.1) (hl5 : lev < 5) (hl : plev b k = lev) (hc2 : c2 = nI (b k.1))
    (h1 : ∀ S', rtp S S' x la → (pread b n key F (lev + 1) par bang (pnext b n k) L).1 = true → TKM S' x b (pread b n key F (lev + 1) par bang (pnext b n k) L).2.1 → CDM S' x la key ((pread b n key F (lev + 1) par bang (pnext b n k) L).2.2 ++ [20000 + b k.1]) → ji S' (x + 94) 25 = nI par → ji S' (x + 94) 26 = nI bang → cont S')
    (h0 : ∀ S', rtp S S' x la → (pread b n key F (lev + 1) par bang (pnext b n k) L).1 = false → ji S' (x + 94) 20 = nI (pread b n key F (lev + 1) par bang (pnext b n k) L).2.1.1 → Q 0 S') : jFv E mX11_nextToken (F + 4) 0 0 [.ref (x + 94)] S (fun S10 => jk S10 (x + 94) = 11 ∧ jFi E M (F + 4) 0 0 [.ref (x + 94), .int (nI key)] S10 (fun r13 S12 => (r13 = 0 → Q 0 S12) ∧ (¬ r13 = 0 → jk S12 (x + 94) = 11 ∧ jFv E mX11_step (F + 4) 0 0 [.ref (x + 94), .int 2, .int c2] S12 (fun S16 => cont S16)))) := by
  have h96 := hT.2.1
  have hs := plev_ok (b := b) (t := k) (by omega)
  have en : k.1 < k.2.1 := ok.2.2.2.1 (by rw [hs.1]; decide)
  have hn := pnext_ok ok
  have p3 : ptn k = 3 := (ptn_3 ok.so).mpr hs.1
  refine c_X11_next hT hK ok (by omega) (fun S1 g1 K1 => ⟨(hT.ts g1).1.1, ?_⟩)
  have pg := pread_ok (b := b) (n := n) (key := key) F (lev + 1) par bang (pnext b n k) L hn.1
  refine hR par bang (pnext b n k) L S1 _ hm hp8 hb8 (hT.ts g1) K1 hn.1 (hC.ts g1) ((g1.2.2 25 (by omega)).trans e25) ((g1.2.2 26 (by omega)).trans e26) (by omega) (fun S2 g2 p2 => ?_)
  generalize pread b n key F (lev + 1) par bang (pnext b n k) L = r at h1 h0 pg p2 ⊢
  have g12 : rtp S S2 x la := g1.tp.trans g2
  by_cases c1 : r.1 = true
  · have eB : rB r = 1 := by unfold rB; rw [if_pos c1]
    rw [eB]
    obtain ⟨K2, C2, q25, q26⟩ := p2.1 c1
    obtain ⟨k1, k2, -⟩ := pg.2.2 c1
    have k3 := pg.1.1
    have k4 := pg.1.2.1
    have T2 := hT.tp g12
    have hcs := hs.2
    have hd : ∀ c ∈ sgn, whatw (20000 + c) = 2 := fun c _ => by unfold whatw; rw [if_neg (by omega), if_neg (by omega)]
    have hv : valw key (20000 + b k.1) = b k.1 := by unfold valw; rw [if_neg (by omega), if_neg (by omega)]; omega
    refine ⟨fun z => absurd z (by decide), fun _ => ⟨T2.1.1, ?_⟩⟩
    rw [hc2]
    refine c_X11_stepW (w := 20000 + b k.1) (y := 2) (z := b k.1) T2.1 C2 (by omega) hla (hd _ hcs).symm hv.symm (fun S3 g3 f3 e27 r3 => ?_)
    exact h1 S3 (g12.trans g3) c1 (K2.of f3) (C2.add (by omega) f3 e27 r3) ((f3 25 (by omega)).trans q25) ((f3 26 (by omega)).trans q26)
  · have eB : rB r = 0 := by unfold rB; rw [if_neg c1]
    rw [eB]
    have cf : r.1 = false := by simpa using c1
    exact ⟨fun _ => h0 S2 g12 cf (p2.2 cf), fun z => absurd rfl z⟩
/-- a level's loop -/
theorem rloop {M : jMd} {Q : Int32 → jM → Prop} {Lp : jM → Prop} {par bang : Nat} {S0 : jM} (hla : la + 196 ≤ 3135) (hR : RdM E x n la key b F (lev + 1) (F + 4) M) (hm : pmu (lev + 1) par bang ≤ F) (hp8 : par ≤ 8) (hb8 : bang ≤ 8) (hl5 : lev < 5)
    (unf : ∀ (k : jtk) (S : jM), RB S x n b → TKM S x b k → TKok b n k → (plev b k = lev → jFv E mX11_nextToken (F + 4) 0 0 [.ref (x + 94)] S (fun S10 => jk S10 (x + 94) = 11 ∧ jFi E M (F + 4) 0 0 [.ref (x + 94), .int (nI key)] S10 (fun r13 S12 => (r13 = 0 → Q 0 S12) ∧ (¬ r13 = 0 → jk S12 (x + 94) = 11 ∧ jFv E mX11_step (F + 4) 0 0 [.ref (x + 94), .int 2, .int (nI (b k.1))] S12 (fun S16 => Lp S16))))) → (¬ plev b k = lev → Q 1 S) → Lp S) :
    ∀ (c : Nat) (k : jtk) (L : List Nat) (S : jM), n - k.1 ≤ c → rtp S0 S x la → RB S x n b → TKM S x b k → TKok b n k → CDM S x la key L → ji S (x + 94) 25 = nI par → ji S (x + 94) 26 = nI bang → L.length + 1 ≤ k.1 → (∀ S', rtp S0 S' x la → PO11 S' x la key par bang b (ploop b n lev (pread b n key F (lev + 1) par bang) c k L) → Q (rB (ploop b n lev (pread b n key F (lev + 1) par bang) c k L)) S') → Lp S := by
  intro c
  induction c with
  | zero =>
    intro k L S hc g hT hK ok hC e25 e26 hlen hq
    refine unf k S hT hK ok (fun z => ?_) (fun _ => hq S g ⟨fun _ => ⟨hK, hC, e25, e26⟩, fun z => Bool.noConfusion z⟩)
    have hs := plev_ok (b := b) (t := k) (by omega)
    have := ok.lt (by rw [hs.1]; decide)
    omega
  | succ c ih =>
    intro k L S hc g hT hK ok hC e25 e26 hlen hq
    have ep : ploop b n lev (pread b n key F (lev + 1) par bang) (c + 1) k L = if plev b k = lev then (if (pread b n key F (lev + 1) par bang (pnext b n k) L).1 = true then ploop b n lev (pread b n key F (lev + 1) par bang) c (pread b n key F (lev + 1) par bang (pnext b n k) L).2.1 ((pread b n key F (lev + 1) par bang (pnext b n k) L).2.2 ++ [20000 + b k.1]) else (false, (pread b n key F (lev + 1) par bang (pnext b n k) L).2.1, [])) else (true, k, L) := rfl
    rw [ep] at hq
    refine unf k S hT hK ok (fun el => ?_) (fun el => ?_)
    · rw [if_pos el] at hq
      have hs := plev_ok (b := b) (t := k) (by omega)
      have en : k.1 < k.2.1 := ok.2.2.2.1 (by rw [hs.1]; decide)
      have hn := pnext_ok ok
      have pg := pread_ok (b := b) (n := n) (key := key) F (lev + 1) par bang (pnext b n k) L hn.1
      refine rjoin hla hR hm hp8 hb8 hT hK ok hC e25 e26 hlen hl5 el rfl (fun S1 g1 c1 K1 C1 q25 q26 => ?_) (fun S1 g1 c1 q20 => ?_)
      · rw [if_pos c1] at hq
        obtain ⟨k1, k2, -⟩ := pg.2.2 c1
        refine ih _ _ S1 (by omega) (g.trans g1) (hT.tp g1) K1 pg.1 C1 q25 q26 ?_ hq
        rw [List.length_append]
        show _ + 1 + 1 ≤ _
        omega
      · rw [if_neg (by rw [c1]; decide)] at hq
        exact hq S1 (g.trans g1) ⟨fun z => Bool.noConfusion z, fun _ => q20⟩
    · rw [if_neg el] at hq
      exact hq S g ⟨fun _ => ⟨hK, hC, e25, e26⟩, fun z => Bool.noConfusion z⟩
/-- a level by its first part and its loop -/
theorem rchain {M : jMd} {Q : Int32 → jM → Prop} {Lp : jM → Prop} {par bang : Nat} {k : jtk} {L : List Nat} (hla : la + 196 ≤ 3135) (hR : RdM E x n la key b F (lev + 1) (F + 4) M) (hm : pmu lev par bang ≤ F + 1) (hp8 : par ≤ 8) (hb8 : bang ≤ 8) (hl5 : lev < 5) (hl2 : lev ≠ 2)
    (unf : ∀ (k : jtk) (S : jM), RB S x n b → TKM S x b k → TKok b n k → (plev b k = lev → jFv E mX11_nextToken (F + 4) 0 0 [.ref (x + 94)] S (fun S10 => jk S10 (x + 94) = 11 ∧ jFi E M (F + 4) 0 0 [.ref (x + 94), .int (nI key)] S10 (fun r13 S12 => (r13 = 0 → Q 0 S12) ∧ (¬ r13 = 0 → jk S12 (x + 94) = 11 ∧ jFv E mX11_step (F + 4) 0 0 [.ref (x + 94), .int 2, .int (nI (b k.1))] S12 (fun S16 => Lp S16))))) → (¬ plev b k = lev → Q 1 S) → Lp S)
    (hT : RB S x n b) (hK : TKM S x b k) (ok : TKok b n k) (hC : CDM S x la key L) (e25 : ji S (x + 94) 25 = nI par) (e26 : ji S (x + 94) 26 = nI bang) (hlen : L.length + 1 ≤ k.1) (hq : ∀ S', rtp S S' x la → PO11 S' x la key par bang b (pread b n key (F + 1) lev par bang k L) → Q (rB (pread b n key (F + 1) lev par bang k L)) S') : jk S (x + 94) = 11 ∧ jFi E M (F + 4) 0 0 [.ref (x + 94), .int (nI key)] S (fun r3 S2 => (r3 = 0 → Q 0 S2) ∧ (¬ r3 = 0 → Lp S2)) := by
  have h96 := hT.2.1
  have er : pread b n key (F + 1) lev par bang k L = if (pread b n key F (lev + 1) par bang k L).1 = true then ploop b n lev (pread b n key F (lev + 1) par bang) (if lev = 2 then 1 else 96) (pread b n key F (lev + 1) par bang k L).2.1 (pread b n key F (lev + 1) par bang k L).2.2 else (false, (pread b n key F (lev + 1) par bang k L).2.1, []) := by rw [pread]; rw [if_pos hl5]
  rw [er, if_neg hl2] at hq
  have hm' : pmu (lev + 1) par bang ≤ F := by unfold pmu at hm ⊢; omega
  have pg := pread_ok (b := b) (n := n) (key := key) F (lev + 1) par bang k L ok
  refine ⟨hT.1.1, hR par bang k L S _ hm' hp8 hb8 hT hK ok hC e25 e26 hlen (fun S1 g1 p1 => ?_)⟩
  by_cases c1 : (pread b n key F (lev + 1) par bang k L).1 = true
  · have eB : rB (pread b n key F (lev + 1) par bang k L) = 1 := by unfold rB; rw [if_pos c1]
    rw [eB]
    rw [if_pos c1] at hq
    obtain ⟨K1, C1, q25, q26⟩ := p1.1 c1
    obtain ⟨k1, k2, -⟩ := pg.2.2 c1
    exact ⟨fun z => absurd z (by decide), fun _ => rloop hla hR hm' hp8 hb8 hl5 unf 96 _ _ S1 (by omega) g1 (hT.tp g1) K1 pg.1 C1 q25 q26 (by omega) hq⟩
  · have eB : rB (pread b n key F (lev + 1) par bang k L) = 0 := by unfold rB; rw [if_neg c1]
    rw [eB]
    rw [if_neg c1] at hq
    have cf : (pread b n key F (lev + 1) par bang k L).1 = false := by simpa using c1
    exact ⟨fun _ => hq S1 g1 ⟨fun z => Bool.noConfusion z, fun _ => p1.2 cf⟩, fun z => absurd rfl z⟩
theorem plev_is {k : jtk} {c l : Nat} (h3 : k.2.2.1 = 3) (hb : b k.1 = c) (h : (if c = 124 then 0 else if c = 38 then 1 else if c = 60 then 2 else if c = 61 then 2 else if c = 62 then 2 else if c = 43 then 3 else if c = 45 then 3 else if c = 42 then 4 else if c = 47 then 4 else 9) = l) : plev b k = l := by
  unfold plev
  rw [if_pos h3, hb]; exact h
theorem R_either (hla : la + 196 ≤ 3135) (hR : RdM E x n la key b F 1 (F + 4) mX11_both) : RdM E x n la key b (F + 1) 0 (F + 1 + 4) mX11_either := by
  intro par bang k L S Q hm hp8 hb8 hT hK ok hC e25 e26 hlen hq
  refine T_X11_either (rchain (lev := 0) (Lp := fun S => L_X11_either_10 E (F + 4) Q (x + 94) (nI key) S) hla hR hm hp8 hb8 (by omega) (by omega) (fun k S hT hK ok h1 h0 => ?_) hT hK ok hC e25 e26 hlen hq)
  refine T_X11_either_10 ⟨hT.1.1, c_X11_isSign (c := 124) hT hK ok (by omega) (fun c3 c124 => ⟨fun z => absurd z (by decide), fun _ => ⟨hT.1.1, ?_⟩⟩) (fun nn => ⟨fun _ => h0 (fun z => ?_), fun z => absurd rfl z⟩)⟩
  · have := h1 (plev_is c3 c124 rfl)
    rw [c124] at this; exact this
  · have hs := plev_ok (b := b) (t := k) (by omega)
    refine nn ⟨hs.1, ?_⟩
    have hd : ∀ c ∈ sgn, (if c = 124 then 0 else if c = 38 then 1 else if c = 60 then 2 else if c = 61 then 2 else if c = 62 then 2 else if c = 43 then 3 else if c = 45 then 3 else if c = 42 then 4 else if c = 47 then 4 else 9) = 0 → c = 124 := by decide
    unfold plev at z
    rw [if_pos hs.1] at z
    exact hd _ hs.2 z
theorem R_both (hla : la + 196 ≤ 3135) (hR : RdM E x n la key b F 2 (F + 4) mX11_test) : RdM E x n la key b (F + 1) 1 (F + 1 + 4) mX11_both := by
  intro par bang k L S Q hm hp8 hb8 hT hK ok hC e25 e26 hlen hq
  refine T_X11_both (rchain (lev := 1) (Lp := fun S => L_X11_both_10 E (F + 4) Q (x + 94) (nI key) S) hla hR hm hp8 hb8 (by omega) (by omega) (fun k S hT hK ok h1 h0 => ?_) hT hK ok hC e25 e26 hlen hq)
  refine T_X11_both_10 ⟨hT.1.1, c_X11_isSign (c := 38) hT hK ok (by omega) (fun c3 cc => ⟨fun z => absurd z (by decide), fun _ => ⟨hT.1.1, ?_⟩⟩) (fun nn => ⟨fun _ => h0 (fun z => ?_), fun z => absurd rfl z⟩)⟩
  · have := h1 (plev_is c3 cc rfl)
    rw [cc] at this; exact this
  · have hs := plev_ok (b := b) (t := k) (by omega)
    refine nn ⟨hs.1, ?_⟩
    have hd : ∀ c ∈ sgn, (if c = 124 then 0 else if c = 38 then 1 else if c = 60 then 2 else if c = 61 then 2 else if c = 62 then 2 else if c = 43 then 3 else if c = 45 then 3 else if c = 42 then 4 else if c = 47 then 4 else 9) = 1 → c = 38 := by decide
    unfold plev at z
    rw [if_pos hs.1] at z
    exact hd _ hs.2 z
theorem R_sum (hla : la + 196 ≤ 3135) (hR : RdM E x n la key b F 4 (F + 4) mX11_term) : RdM E x n la key b (F + 1) 3 (F + 1 + 4) mX11_sum := by
  intro par bang k L S Q hm hp8 hb8 hT hK ok hC e25 e26 hlen hq
  refine T_X11_sum (rchain (lev := 3) (Lp := fun S => L_X11_sum_10 E (F + 4) Q (x + 94) (nI key) S) hla hR hm hp8 hb8 (by omega) (by omega) (fun k S hT hK ok h1 h0 => ?_) hT hK ok hC e25 e26 hlen hq)
  refine T_X11_sum_10 ⟨hT.1.1, c_X11_isSign (c := 43) hT hK ok (by omega) (fun c3 cc => ⟨fun z => absurd z (by decide), fun _ => ⟨hT.1.1, ?_⟩⟩) (fun nn => ⟨fun _ => ⟨hT.1.1, c_X11_isSign (c := 45) hT hK ok (by omega) (fun c3 cc => ⟨fun z => absurd z (by decide), fun _ => ⟨hT.1.1, ?_⟩⟩) (fun nn2 => ⟨fun _ => h0 (fun z => ?_), fun z => absurd rfl z⟩)⟩, fun z => absurd rfl z⟩)⟩
  · rw [hK.2.2.2.1 c3]; exact h1 (plev_is c3 cc rfl)
  · rw [hK.2.2.2.1 c3]; exact h1 (plev_is c3 cc rfl)
  · have hs := plev_ok (b := b) (t := k) (by omega)
    have hd : ∀ c ∈ sgn, (if c = 124 then 0 else if c = 38 then 1 else if c = 60 then 2 else if c = 61 then 2 else if c = 62 then 2 else if c = 43 then 3 else if c = 45 then 3 else if c = 42 then 4 else if c = 47 then 4 else 9) = 3 → c = 43 ∨ c = 45 := by decide
    unfold plev at z
    rw [if_pos hs.1] at z
    rcases hd _ hs.2 z with q | q
    · exact nn ⟨hs.1, q⟩
    · exact nn2 ⟨hs.1, q⟩
theorem R_term (hla : la + 196 ≤ 3135) (hR : RdM E x n la key b F 5 (F + 4) mX11_part0) : RdM E x n la key b (F + 1) 4 (F + 1 + 4) mX11_term := by
  intro par bang k L S Q hm hp8 hb8 hT hK ok hC e25 e26 hlen hq
  refine T_X11_term (rchain (lev := 4) (Lp := fun S => L_X11_term_10 E (F + 4) Q (x + 94) (nI key) S) hla hR hm hp8 hb8 (by omega) (by omega) (fun k S hT hK ok h1 h0 => ?_) hT hK ok hC e25 e26 hlen hq)
  refine T_X11_term_10 ⟨hT.1.1, c_X11_isSign (c := 42) hT hK ok (by omega) (fun c3 cc => ⟨fun z => absurd z (by decide), fun _ => ⟨hT.1.1, ?_⟩⟩) (fun nn => ⟨fun _ => ⟨hT.1.1, c_X11_isSign (c := 47) hT hK ok (by omega) (fun c3 cc => ⟨fun z => absurd z (by decide), fun _ => ⟨hT.1.1, ?_⟩⟩) (fun nn2 => ⟨fun _ => h0 (fun z => ?_), fun z => absurd rfl z⟩)⟩, fun z => absurd rfl z⟩)⟩
  · rw [hK.2.2.2.1 c3]; exact h1 (plev_is c3 cc rfl)
  · rw [hK.2.2.2.1 c3]; exact h1 (plev_is c3 cc rfl)
  · have hs := plev_ok (b := b) (t := k) (by omega)
    have hd : ∀ c ∈ sgn, (if c = 124 then 0 else if c = 38 then 1 else if c = 60 then 2 else if c = 61 then 2 else if c = 62 then 2 else if c = 43 then 3 else if c = 45 then 3 else if c = 42 then 4 else if c = 47 then 4 else 9) = 4 → c = 42 ∨ c = 47 := by decide
    unfold plev at z
    rw [if_pos hs.1] at z
    rcases hd _ hs.2 z with q | q
    · exact nn ⟨hs.1, q⟩
    · exact nn2 ⟨hs.1, q⟩
end jRef4
end
section
/-! TEXT: the reference's tests and parts -/
theorem isname_eq : ∀ key : Fin 3, ∀ c : Fin 256, jisname (nI key.val) (nI c.val) = if pnam key.val c.val = 9 then 0 else 1 := by decide +kernel
theorem letw_eq : ∀ key : Fin 3, ∀ c : Fin 256, ¬ pnam key.val c.val = 9 → letw key.val (pnam key.val c.val) = c.val := by decide +kernel
section jRef5
variable {E : jEnv} {S S' : jM} {x n la key : Nat} {b : Nat → Nat} {F : Nat}
theorem R_test (hla : la + 196 ≤ 3135) (hR : RdM E x n la key b F 3 (F + 4) mX11_sum) : RdM E x n la key b (F + 1) 2 (F + 1 + 4) mX11_test := by
  intro par bang k L S Q hm hp8 hb8 hT hK ok hC e25 e26 hlen hq
  have er : pread b n key (F + 1) 2 par bang k L = if (pread b n key F 3 par bang k L).1 = true then ploop b n 2 (pread b n key F 3 par bang) 1 (pread b n key F 3 par bang k L).2.1 (pread b n key F 3 par bang k L).2.2 else (false, (pread b n key F 3 par bang k L).2.1, []) := by rw [pread]; rw [if_pos (by omega), if_pos rfl]
  rw [er] at hq
  have hm' : pmu 3 par bang ≤ F := by unfold pmu at hm ⊢; omega
  have pg := pread_ok (b := b) (n := n) (key := key) F 3 par bang k L ok
  refine T_X11_test ⟨hT.1.1, hR par bang k L S _ hm' hp8 hb8 hT hK ok hC e25 e26 hlen (fun S1 g1 p1 => ?_)⟩
  generalize pread b n key F 3 par bang k L = r at hq pg p1 ⊢
  by_cases c1 : r.1 = true
  · have eB : rB r = 1 := by unfold rB; rw [if_pos c1]
    rw [eB]
    rw [if_pos c1] at hq
    obtain ⟨K1, C1, q25, q26⟩ := p1.1 c1
    obtain ⟨k1, k2, -⟩ := pg.2.2 c1
    have T1 := hT.tp g1
    have ep : ploop b n 2 (pread b n key F 3 par bang) 1 r.2.1 r.2.2 = if plev b r.2.1 = 2 then (if (pread b n key F 3 par bang (pnext b n r.2.1) r.2.2).1 = true then (true, (pread b n key F 3 par bang (pnext b n r.2.1) r.2.2).2.1, (pread b n key F 3 par bang (pnext b n r.2.1) r.2.2).2.2 ++ [20000 + b r.2.1.1]) else (false, (pread b n key F 3 par bang (pnext b n r.2.1) r.2.2).2.1, [])) else (true, r.2.1, r.2.2) := rfl
    rw [ep] at hq
    have join : ∀ c2 : Int32, c2 = nI (b r.2.1.1) → plev b r.2.1 = 2 → jFv E mX11_nextToken (F + 4) 0 0 [.ref (x + 94)] S1 (fun S10 => jk S10 (x + 94) = 11 ∧ jFi E mX11_sum (F + 4) 0 0 [.ref (x + 94), .int (nI key)] S10 (fun r13 S12 => (r13 = 0 → Q 0 S12) ∧ (¬ r13 = 0 → jk S12 (x + 94) = 11 ∧ jFv E mX11_step (F + 4) 0 0 [.ref (x + 94), .int 2, .int c2] S12 (fun S16 => Q 1 S16)))) := by
      intro c2 hc2 el
      rw [if_pos el] at hq
      refine rjoin (lev := 2) (cont := fun S16 => Q 1 S16) hla hR hm' hp8 hb8 T1 K1 pg.1 C1 q25 q26 (by omega) (by omega) el hc2 (fun S2 g2 d1 K2 C2 p25 p26 => ?_) (fun S2 g2 d1 p20 => ?_)
      · rw [if_pos d1] at hq
        exact hq S2 (g1.trans g2) ⟨fun _ => ⟨K2, C2, p25, p26⟩, fun z => Bool.noConfusion z⟩
      · rw [if_neg (by rw [d1]; decide)] at hq
        exact hq S2 (g1.trans g2) ⟨fun z => Bool.noConfusion z, fun _ => p20⟩
    refine ⟨fun z => absurd z (by decide), fun _ => ⟨T1.1.1, c_X11_isSign (c := 60) T1 K1 pg.1 (by omega) (fun c3 cc => ⟨fun z => absurd z (by decide), fun _ => ⟨T1.1.1, join _ (K1.2.2.2.1 c3) (plev_is c3 cc rfl)⟩⟩) (fun n1 => ⟨fun _ => ⟨T1.1.1, c_X11_isSign (c := 61) T1 K1 pg.1 (by omega) (fun c3 cc => ⟨fun z => absurd z (by decide), fun _ => ⟨T1.1.1, join _ (K1.2.2.2.1 c3) (plev_is c3 cc rfl)⟩⟩) (fun n2 => ⟨fun _ => ⟨T1.1.1, c_X11_isSign (c := 62) T1 K1 pg.1 (by omega) (fun c3 cc => ⟨fun z => absurd z (by decide), fun _ => ⟨T1.1.1, join _ (K1.2.2.2.1 c3) (plev_is c3 cc rfl)⟩⟩) (fun n3 => ⟨fun _ => ?_, fun z => absurd rfl z⟩)⟩, fun z => absurd rfl z⟩)⟩, fun z => absurd rfl z⟩)⟩⟩
    have nl : ¬ plev b r.2.1 = 2 := fun z => by
      have hs := plev_ok (b := b) (t := r.2.1) (by omega)
      have hd : ∀ c ∈ sgn, (if c = 124 then 0 else if c = 38 then 1 else if c = 60 then 2 else if c = 61 then 2 else if c = 62 then 2 else if c = 43 then 3 else if c = 45 then 3 else if c = 42 then 4 else if c = 47 then 4 else 9) = 2 → c = 60 ∨ c = 61 ∨ c = 62 := by decide
      unfold plev at z
      rw [if_pos hs.1] at z
      rcases hd _ hs.2 z with q | q | q
      · exact n1 ⟨hs.1, q⟩
      · exact n2 ⟨hs.1, q⟩
      · exact n3 ⟨hs.1, q⟩
    rw [if_neg nl] at hq
    exact hq S1 g1 ⟨fun _ => ⟨K1, C1, q25, q26⟩, fun z => Bool.noConfusion z⟩
  · have eB : rB r = 0 := by unfold rB; rw [if_neg c1]
    rw [eB]
    rw [if_neg c1] at hq
    have cf : r.1 = false := by simpa using c1
    exact ⟨fun _ => hq S1 g1 ⟨fun z => Bool.noConfusion z, fun _ => p1.2 cf⟩, fun z => absurd rfl z⟩
theorem rtp.put {j : Nat} {w : Int32} (h1 : 20 ≤ j) (h2 : j < 30) (h3 : j ≠ 28) : rtp S (jput S (x + 94) j w) x la := ⟨⟨_root_.rfl, _root_.rfl, _root_.rfl, _root_.rfl⟩, fun y a _ => ji_put_ne _ _ _ _ a, fun i hi => by rw [ji_put, if_neg (by omega)], fun i _ => by rw [ji_put_ne _ _ _ _ (by omega)]⟩
theorem TKM.put {k : jtk} {j : Nat} {w : Int32} (h : TKM S x b k) (hj : 25 ≤ j) : TKM (jput S (x + 94) j w) x b k := by
  obtain ⟨a1, a2, a3, a4, a5, a6⟩ := h
  have f : ∀ i, i < 25 → ji (jput S (x + 94) j w) (x + 94) i = ji S (x + 94) i := fun i hi => by rw [ji_put, if_neg (by omega)]
  exact ⟨(f 20 (by omega)).trans a1, (f 21 (by omega)).trans a2, (f 22 (by omega)).trans a3, fun z => (f 24 (by omega)).trans (a4 z), fun z => (f 24 (by omega)).trans (a5 z), fun z y => (f 23 (by omega)).trans (a6 z y)⟩
theorem CDM.put {L : List Nat} {j : Nat} {w : Int32} (h : CDM S x la key L) (hj : j < 27) : CDM (jput S (x + 94) j w) x la key L := by
  obtain ⟨a1, a2, a3, a4⟩ := h
  exact ⟨by rw [ji_put, if_neg (by omega)]; exact a1, by rw [ji_put, if_neg (by omega)]; exact a2, by rw [ji_put, if_neg (by omega)]; exact a3, fun i hi => by rw [ji_put_ne _ _ _ _ (by omega)]; exact a4 i hi⟩
end jRef5
end
section
/-! TEXT: the reference's parts; all its levels -/
section jRef6
variable {E : jEnv} {S S' : jM} {x n la key : Nat} {b : Nat → Nat} {F : Nat}
theorem R_part0 (hk : key < 3) (hla : la + 196 ≤ 3135) (hP : RdM E x n la key b F 5 (F + 4) mX11_part0) (hEi : RdM E x n la key b F 0 (F + 4) mX11_either) : RdM E x n la key b (F + 1) 5 (F + 1 + 4) mX11_part0 := by
  intro par bang k L S Q hm hp8 hb8 hT hK ok hC e25 e26 hlen hq
  have h96 := hT.2.1
  have s3 := ok.so
  have hn := pnext_ok ok
  have er : pread b n key (F + 1) 5 par bang k L = if k.2.2.1 = 1 ∨ k.2.2.1 = 2 then (if popd b key k = 30000 then (false, k, []) else (true, pnext b n k, L ++ [popd b key k]))
    else if k.2.2.1 = 3 ∧ b k.1 = 33 ∧ bang < 8 then
      (if (pread b n key F 5 par (bang + 1) (pnext b n k) L).1 = true then (true, (pread b n key F 5 par (bang + 1) (pnext b n k) L).2.1, (pread b n key F 5 par (bang + 1) (pnext b n k) L).2.2 ++ [20033]) else (false, (pread b n key F 5 par (bang + 1) (pnext b n k) L).2.1, []))
    else if k.2.2.1 = 3 ∧ b k.1 = 40 ∧ par < 8 then
      (if (pread b n key F 0 (par + 1) bang (pnext b n k) L).1 = true ∧ (pread b n key F 0 (par + 1) bang (pnext b n k) L).2.1.2.2.1 = 3 ∧ b (pread b n key F 0 (par + 1) bang (pnext b n k) L).2.1.1 = 41 then (true, pnext b n (pread b n key F 0 (par + 1) bang (pnext b n k) L).2.1, (pread b n key F 0 (par + 1) bang (pnext b n k) L).2.2)
        else (false, (pread b n key F 0 (par + 1) bang (pnext b n k) L).2.1, []))
    else (false, k, []) := by rw [pread]; rw [if_neg (by omega)]
  rw [er] at hq
  unfold pmu at hm
  -- an operand is taken
  have opd : ∀ (y z : Nat), ¬ popd b key k = 30000 → (k.2.2.1 = 1 ∨ k.2.2.1 = 2) → ¬ ptn k = 4 → y = whatw (popd b key k) → z = valw key (popd b key k) → jFv E mX11_step (F + 4) 0 0 [.ref (x + 94), .int (nI y), .int (nI z)] S (fun S144 => jk S144 (x + 94) = 11 ∧ jFv E mX11_nextToken (F + 4) 0 0 [.ref (x + 94)] (jput S144 (x + 94) 29 ((ji S144 (x + 94) 29) + 1)) (fun S146 => Q 1 S146)) := by
    intro y z hne hs h4 ey ez
    rw [if_pos hs, if_neg hne] at hq
    have w2 := (popd_ok ok hne).2.1
    have hl := ok.lt (by omega)
    refine c_X11_stepW (w := popd b key k) hT.1 hC (by omega) hla ey ez (fun S1 g1 f1 e27 r1 => ⟨(hT.tp g1).1.1, ?_⟩)
    rw [f1 29 (by omega), hC.2.1, nI_1]
    have g2 : rtp S1 (jput S1 (x + 94) 29 (nI (pops L + 1))) x la := rtp.put (by omega) (by omega) (by omega)
    have T2 := (hT.tp g1).tp g2
    have K2 : TKM (jput S1 (x + 94) 29 (nI (pops L + 1))) x b k := (hK.of f1).put (by omega)
    have C2 : CDM (jput S1 (x + 94) 29 (nI (pops L + 1))) x la key (L ++ [popd b key k]) := by
      refine ⟨by rw [ji_put, if_neg (by omega), e27, List.length_append]; rfl, ?_, by rw [ji_put, if_neg (by omega), f1 28 (by omega)]; exact hC.2.2.1, fun i hi => by rw [ji_put_ne _ _ _ _ (by omega)]; exact r1 i (by rw [List.length_append] at hi; exact hi)⟩
      rw [ji_put_same, pops_app]
      show _ = nI (pops L + ((if popd b key k < 20000 then 1 else 0) + 0))
      rw [if_pos w2]
    refine c_X11_next T2 K2 ok h4 (fun S3 g3 K3 => hq S3 ((g1.trans g2).trans g3.tp) ⟨fun _ => ⟨K3, C2.ts g3, ?_, ?_⟩, fun z => Bool.noConfusion z⟩)
    · rw [g3.2.2 25 (by omega), ji_put, if_neg (by omega), f1 25 (by omega)]; exact e25
    · rw [g3.2.2 26 (by omega), ji_put, if_neg (by omega), f1 26 (by omega)]; exact e26
  -- signs
  have paren : (k.2.2.1 = 1 ∨ k.2.2.1 = 2 → popd b key k = 30000) → ¬ (k.2.2.1 = 3 ∧ b k.1 = 33 ∧ bang < 8) → jFi E mX11_isSign (F + 4) 0 0 [.ref (x + 94), .int 40] S (fun r9 S8 => (r9 = 0 → Q 0 S8) ∧ (¬ r9 = 0 → jk S8 (x + 94) = 11 ∧ ((ji S8 (x + 94) 25) = 8 → Q 0 S8) ∧ (¬ (ji S8 (x + 94) 25) = 8 → jFv E mX11_nextToken (F + 4) 0 0 [.ref (x + 94)] (jput S8 (x + 94) 25 ((ji S8 (x + 94) 25) + 1)) (fun S13 => jk S13 (x + 94) = 11 ∧ jFi E mX11_either (F + 4) 0 0 [.ref (x + 94), .int (nI key)] S13 (fun r16 S15 => (r16 = 0 → Q 0 S15) ∧ (¬ r16 = 0 → jk S15 (x + 94) = 11 ∧ jFi E mX11_isSign (F + 4) 0 0 [.ref (x + 94), .int 41] S15 (fun r20 S19 => (r20 = 0 → Q 0 S19) ∧ (¬ r20 = 0 → jk S19 (x + 94) = 11 ∧ jFv E mX11_nextToken (F + 4) 0 0 [.ref (x + 94)] (jput S19 (x + 94) 25 ((ji S19 (x + 94) 25) - 1)) (fun S23 => Q 1 S23))))))))) := by
    intro n1 n2
    by_cases hs : k.2.2.1 = 1 ∨ k.2.2.1 = 2
    · rw [if_pos hs, if_pos (n1 hs)] at hq
      exact c_X11_isSign (c := 40) hT hK ok (by omega) (fun c3 _ => absurd c3 (by omega)) (fun _ => ⟨fun _ => hq S rtp.rfl ⟨fun z => Bool.noConfusion z, fun _ => hK.1⟩, fun z => absurd rfl z⟩)
    rw [if_neg hs, if_neg n2] at hq
    refine c_X11_isSign (c := 40) hT hK ok (by omega) (fun c3 c40 => ⟨fun z => absurd z (by decide), fun _ => ⟨hT.1.1, ?_⟩⟩) (fun nn => ⟨fun _ => ?_, fun z => absurd rfl z⟩)
    · rw [e25]
      refine ⟨fun z => ?_, fun z => ?_⟩
      · have hp : par = 8 := nI_inj (b := 8) (by omega) (by omega) z
        rw [if_neg (by omega)] at hq
        exact hq S rtp.rfl ⟨fun z => Bool.noConfusion z, fun _ => hK.1⟩
      · have hp : par < 8 := by
          have : par ≠ 8 := fun q => z (by rw [q]; rfl)
          omega
        rw [if_pos ⟨c3, c40, hp⟩] at hq
        have en : k.1 < k.2.1 := ok.2.2.2.1 (by omega)
        have p3 : ptn k = 3 := (ptn_3 s3).mpr c3
        rw [nI_1]
        have g0 : rtp S (jput S (x + 94) 25 (nI (par + 1))) x la := rtp.put (by omega) (by omega) (by omega)
        refine c_X11_next (hT.tp g0) (hK.put (by omega)) ok (by omega) (fun S1 g1 K1 => ⟨((hT.tp g0).ts g1).1.1, ?_⟩)
        have pg := pread_ok (b := b) (n := n) (key := key) F 0 (par + 1) bang (pnext b n k) L hn.1
        refine hEi (par + 1) bang (pnext b n k) L S1 _ (by unfold pmu; omega) (by omega) hb8 ((hT.tp g0).ts g1) K1 hn.1 ((hC.put (by omega)).ts g1) (by rw [g1.2.2 25 (by omega), ji_put_same]) (by rw [g1.2.2 26 (by omega), ji_put, if_neg (by omega)]; exact e26) (by omega) (fun S2 g2 p2 => ?_)
        generalize pread b n key F 0 (par + 1) bang (pnext b n k) L = r at hq pg p2 ⊢
        have g12 : rtp S S2 x la := (g0.trans g1.tp).trans g2
        have T2 := hT.tp g12
        by_cases c1 : r.1 = true
        · have eB : rB r = 1 := by unfold rB; rw [if_pos c1]
          rw [eB]
          obtain ⟨K2, C2, q25, q26⟩ := p2.1 c1
          refine ⟨fun z => absurd z (by decide), fun _ => ⟨T2.1.1, c_X11_isSign (c := 41) T2 K2 pg.1 (by omega) (fun d3 d41 => ⟨fun z => absurd z (by decide), fun _ => ⟨T2.1.1, ?_⟩⟩) (fun nn => ⟨fun _ => ?_, fun z => absurd rfl z⟩)⟩⟩
          · rw [if_pos ⟨c1, d3, d41⟩] at hq
            rw [q25, nI_pred]
            have g3 : rtp S2 (jput S2 (x + 94) 25 (nI par)) x la := rtp.put (by omega) (by omega) (by omega)
            have p3' : ptn r.2.1 = 3 := (ptn_3 pg.1.so).mpr d3
            refine c_X11_next (T2.tp g3) (K2.put (by omega)) pg.1 (by omega) (fun S4 g4 K4 => hq S4 ((g12.trans g3).trans g4.tp) ⟨fun _ => ⟨K4, (C2.put (by omega)).ts g4, ?_, ?_⟩, fun z => Bool.noConfusion z⟩)
            · rw [g4.2.2 25 (by omega), ji_put_same]
            · rw [g4.2.2 26 (by omega), ji_put, if_neg (by omega)]; exact q26
          · rw [if_neg (fun z => nn z.2)] at hq
            exact hq S2 g12 ⟨fun z => Bool.noConfusion z, fun _ => K2.1⟩
        · have eB : rB r = 0 := by unfold rB; rw [if_neg c1]
          rw [eB]
          have cf : r.1 = false := by simpa using c1
          rw [if_neg (fun z => c1 z.1)] at hq
          exact ⟨fun _ => hq S2 g12 ⟨fun z => Bool.noConfusion z, fun _ => p2.2 cf⟩, fun z => absurd rfl z⟩
    · rw [if_neg (fun q => nn ⟨q.1, q.2.1⟩)] at hq
      exact hq S rtp.rfl ⟨fun z => Bool.noConfusion z, fun _ => hK.1⟩
  have sg : (k.2.2.1 = 1 ∨ k.2.2.1 = 2 → popd b key k = 30000) → jFi E mX11_isSign (F + 4) 0 0 [.ref (x + 94), .int 33] S (fun r5 S4 => (r5 = 0 → jk S4 (x + 94) = 11 ∧ jFi E mX11_isSign (F + 4) 0 0 [.ref (x + 94), .int 40] S4 (fun r9 S8 => (r9 = 0 → Q 0 S8) ∧ (¬ r9 = 0 → jk S8 (x + 94) = 11 ∧ ((ji S8 (x + 94) 25) = 8 → Q 0 S8) ∧ (¬ (ji S8 (x + 94) 25) = 8 → jFv E mX11_nextToken (F + 4) 0 0 [.ref (x + 94)] (jput S8 (x + 94) 25 ((ji S8 (x + 94) 25) + 1)) (fun S13 => jk S13 (x + 94) = 11 ∧ jFi E mX11_either (F + 4) 0 0 [.ref (x + 94), .int (nI key)] S13 (fun r16 S15 => (r16 = 0 → Q 0 S15) ∧ (¬ r16 = 0 → jk S15 (x + 94) = 11 ∧ jFi E mX11_isSign (F + 4) 0 0 [.ref (x + 94), .int 41] S15 (fun r20 S19 => (r20 = 0 → Q 0 S19) ∧ (¬ r20 = 0 → jk S19 (x + 94) = 11 ∧ jFv E mX11_nextToken (F + 4) 0 0 [.ref (x + 94)] (jput S19 (x + 94) 25 ((ji S19 (x + 94) 25) - 1)) (fun S23 => Q 1 S23)))))))))) ∧ (¬ r5 = 0 → jk S4 (x + 94) = 11 ∧ (8 ≤ (ji S4 (x + 94) 26) → jFi E mX11_isSign (F + 4) 0 0 [.ref (x + 94), .int 40] S4 (fun r9 S8 => (r9 = 0 → Q 0 S8) ∧ (¬ r9 = 0 → jk S8 (x + 94) = 11 ∧ ((ji S8 (x + 94) 25) = 8 → Q 0 S8) ∧ (¬ (ji S8 (x + 94) 25) = 8 → jFv E mX11_nextToken (F + 4) 0 0 [.ref (x + 94)] (jput S8 (x + 94) 25 ((ji S8 (x + 94) 25) + 1)) (fun S13 => jk S13 (x + 94) = 11 ∧ jFi E mX11_either (F + 4) 0 0 [.ref (x + 94), .int (nI key)] S13 (fun r16 S15 => (r16 = 0 → Q 0 S15) ∧ (¬ r16 = 0 → jk S15 (x + 94) = 11 ∧ jFi E mX11_isSign (F + 4) 0 0 [.ref (x + 94), .int 41] S15 (fun r20 S19 => (r20 = 0 → Q 0 S19) ∧ (¬ r20 = 0 → jk S19 (x + 94) = 11 ∧ jFv E mX11_nextToken (F + 4) 0 0 [.ref (x + 94)] (jput S19 (x + 94) 25 ((ji S19 (x + 94) 25) - 1)) (fun S23 => Q 1 S23)))))))))) ∧ (¬ 8 ≤ (ji S4 (x + 94) 26) → jFv E mX11_nextToken (F + 4) 0 0 [.ref (x + 94)] (jput S4 (x + 94) 26 ((ji S4 (x + 94) 26) + 1)) (fun S42 => jk S42 (x + 94) = 11 ∧ jFi E mX11_part0 (F + 4) 0 0 [.ref (x + 94), .int (nI key)] S42 (fun r45 S44 => (r45 = 0 → Q 0 S44) ∧ (¬ r45 = 0 → jk S44 (x + 94) = 11 ∧ jFv E mX11_step (F + 4) 0 0 [.ref (x + 94), .int 2, .int 33] (jput S44 (x + 94) 26 ((ji S44 (x + 94) 26) - 1)) (fun S48 => Q 1 S48))))))) := by
    intro n1
    refine c_X11_isSign (c := 33) hT hK ok (by omega) (fun c3 c33 => ⟨fun z => absurd z (by decide), fun _ => ⟨hT.1.1, ?_⟩⟩) (fun nn => ⟨fun _ => ⟨hT.1.1, paren n1 (fun q => nn ⟨q.1, q.2.1⟩)⟩, fun z => absurd rfl z⟩)
    rw [e26]
    refine ⟨fun z => ?_, fun z => ?_⟩
    · have := (nI_leI (a := 8) (by omega) (by omega)).mp z
      exact paren n1 (fun q => by omega)
    · have hb : bang < 8 := by
        rcases Nat.lt_or_ge bang 8 with q | q
        · exact q
        · exact absurd (nI_le (a := 8) q (by omega)) z
      rw [if_neg (by omega), if_pos ⟨c3, c33, hb⟩] at hq
      have en : k.1 < k.2.1 := ok.2.2.2.1 (by omega)
      have p3 : ptn k = 3 := (ptn_3 s3).mpr c3
      rw [nI_1]
      have g0 : rtp S (jput S (x + 94) 26 (nI (bang + 1))) x la := rtp.put (by omega) (by omega) (by omega)
      refine c_X11_next (hT.tp g0) (hK.put (by omega)) ok (by omega) (fun S1 g1 K1 => ⟨((hT.tp g0).ts g1).1.1, ?_⟩)
      have pg := pread_ok (b := b) (n := n) (key := key) F 5 par (bang + 1) (pnext b n k) L hn.1
      refine hP par (bang + 1) (pnext b n k) L S1 _ (by unfold pmu; omega) hp8 (by omega) ((hT.tp g0).ts g1) K1 hn.1 ((hC.put (by omega)).ts g1) (by rw [g1.2.2 25 (by omega), ji_put, if_neg (by omega)]; exact e25) (by rw [g1.2.2 26 (by omega), ji_put_same]) (by omega) (fun S2 g2 p2 => ?_)
      generalize pread b n key F 5 par (bang + 1) (pnext b n k) L = r at hq pg p2 ⊢
      have g12 : rtp S S2 x la := (g0.trans g1.tp).trans g2
      have T2 := hT.tp g12
      by_cases c1 : r.1 = true
      · have eB : rB r = 1 := by unfold rB; rw [if_pos c1]
        rw [eB]
        obtain ⟨K2, C2, q25, q26⟩ := p2.1 c1
        obtain ⟨k1, k2, -⟩ := pg.2.2 c1
        have k3 := pg.1.1
        have k4 := pg.1.2.1
        refine ⟨fun z => absurd z (by decide), fun _ => ⟨T2.1.1, ?_⟩⟩
        rw [if_pos c1] at hq
        rw [q26, nI_pred]
        have g3 : rtp S2 (jput S2 (x + 94) 26 (nI bang)) x la := rtp.put (by omega) (by omega) (by omega)
        refine c_X11_stepW (w := 20033) (y := 2) (z := 33) (T2.tp g3).1 (C2.put (by omega)) (by omega) hla rfl rfl (fun S4 g4 f4 e27 r4 => hq S4 ((g12.trans g3).trans g4) ⟨fun _ => ⟨(K2.put (by omega)).of f4, (C2.put (by omega)).add (by omega) f4 e27 r4, ?_, ?_⟩, fun z => Bool.noConfusion z⟩)
        · rw [f4 25 (by omega), ji_put, if_neg (by omega)]; exact q25
        · rw [f4 26 (by omega), ji_put_same]
      · have eB : rB r = 0 := by unfold rB; rw [if_neg c1]
        rw [eB]
        have cf : r.1 = false := by simpa using c1
        rw [if_neg c1] at hq
        exact ⟨fun _ => hq S2 g12 ⟨fun z => Bool.noConfusion z, fun _ => p2.2 cf⟩, fun z => absurd rfl z⟩
  -- which token
  have p4 := ptn_le k
  refine T_X11_part0 ⟨hT.1.1, ?_⟩
  rw [hK.2.2.1]
  have nb := ok.2.2.2.2.1
  refine ⟨fun c2 => ?_, fun c2 => ⟨fun c1 => ?_, fun c1 => sg (fun hs => ?_)⟩⟩
  · have e2 : ptn k = 2 := nI_inj (b := 2) (by omega) (by omega) c2
    have hs : k.2.2.1 = 2 ∧ ¬ (k.2.2.2 = 1 ∨ 4 < k.2.1 - k.1) := by
      unfold ptn at e2
      by_cases a0 : k.2.2.1 = 0
      · rw [if_pos a0] at e2; exact absurd e2 (by decide)
      · rw [if_neg a0] at e2
        by_cases a1 : k.2.2.1 = 1
        · rw [if_pos a1] at e2
          split at e2 <;> exact absurd e2 (by decide)
        · rw [if_neg a1] at e2
          by_cases a2 : k.2.2.1 = 2
          · rw [if_pos a2] at e2
            refine ⟨a2, fun z => ?_⟩
            rw [if_pos z] at e2; exact absurd e2 (by decide)
          · rw [if_neg a2] at e2; exact absurd e2 (by decide)
    have ep : popd b key k = pnum b (k.2.1 - k.1) k.1 0 := by unfold popd; rw [if_neg (fun z => hs.2 (Or.inl z)), if_pos hs.1, if_neg (fun z => hs.2 (Or.inr z))]
    have hlt : pnum b (k.2.1 - k.1) k.1 0 < 10000 := by
      have hb := pnum_lt b (k.2.1 - k.1) k.1 0 0 (fun q q1 q2 => psrt_2 ((ok.2.2.2.2.2.2 q q1 (by omega)).trans hs.1)) (by decide)
      have hp : 10 ^ (0 + (k.2.1 - k.1)) ≤ 10 ^ 4 := Nat.pow_le_pow_right (by omega) (by omega)
      have e4 : (10 : Nat) ^ 4 = 10000 := by decide
      omega
    rw [hK.2.2.2.2.2 hs.1 (by omega)]
    refine opd 0 _ (by omega) (Or.inr hs.1) (by omega) ?_ ?_
    · rw [ep]; unfold whatw; rw [if_pos hlt]
    · rw [ep]; unfold valw; rw [if_pos hlt]
  · have e1 : ptn k = 1 := nI_inj (b := 1) (by omega) (by omega) c1
    have hs : k.2.2.1 = 1 ∧ ¬ k.2.2.2 = 1 := by
      unfold ptn at e1
      by_cases a0 : k.2.2.1 = 0
      · rw [if_pos a0] at e1; exact absurd e1 (by decide)
      · rw [if_neg a0] at e1
        by_cases a1 : k.2.2.1 = 1
        · rw [if_pos a1] at e1
          refine ⟨a1, fun z => ?_⟩
          rw [if_pos z] at e1; exact absurd e1 (by decide)
        · rw [if_neg a1] at e1
          by_cases a2 : k.2.2.1 = 2
          · rw [if_pos a2] at e1
            split at e1 <;> exact absurd e1 (by decide)
          · rw [if_neg a2] at e1; exact absurd e1 (by decide)
    have hl := ok.lt (by omega)
    have hb := (hT.2.2.2 k.1 hl).1
    have hlet := (psrt_1.mp (ok.2.2.1.symm.trans hs.1)).2
    have ep : popd b key k = if k.2.1 - k.1 = 1 then (if pnam key (b k.1) = 9 then 30000 else 10000 + pnam key (b k.1)) else 30000 := by unfold popd; rw [if_neg hs.2, if_neg (by omega), if_pos hs.1]
    rw [hK.2.2.2.2.1 hs.1]
    by_cases q1 : k.2.1 - k.1 = 1
    · rw [if_pos q1] at ep ⊢
      refine ⟨fun z => ?_, fun _ => ?_⟩
      · have := nI_inj (b := 0) (by omega) (by omega) z
        omega
      · rw [isname_eq ⟨key, hk⟩ ⟨b k.1, hb⟩]
        by_cases q9 : pnam key (b k.1) = 9
        · rw [if_pos q9] at ep ⊢
          exact ⟨fun _ => sg (fun _ => ep), fun z => absurd rfl z⟩
        · rw [if_neg q9] at ep ⊢
          have p9 := pnam_le key (b k.1)
          refine ⟨fun z => absurd z (by decide), fun _ => opd 1 (b k.1) (by omega) (Or.inl hs.1) (by omega) ?_ ?_⟩
          · rw [ep]; unfold whatw; rw [if_neg (by omega), if_pos (by omega)]
          · rw [ep]; unfold valw; rw [if_neg (by omega), if_pos (by omega), show 10000 + pnam key (b k.1) - 10000 = pnam key (b k.1) by omega]
            exact (letw_eq ⟨key, hk⟩ ⟨b k.1, hb⟩ q9).symm
    · rw [if_neg q1] at ep ⊢
      exact ⟨fun _ => sg (fun _ => ep), fun z => absurd rfl z⟩
  · have e2 : ¬ ptn k = 2 := fun z => c2 (by rw [z]; rfl)
    have e1 : ¬ ptn k = 1 := fun z => c1 (by rw [z]; rfl)
    unfold ptn at e1 e2
    unfold popd
    rcases hs with a1 | a2
    · rw [if_neg (by omega), if_pos a1] at e1
      have z : k.2.2.2 = 1 := by
        refine Classical.byContradiction (fun q => ?_)
        rw [if_neg q] at e1; exact e1 rfl
      rw [if_pos z]
    · rw [if_neg (by omega), if_neg (by omega), if_pos a2] at e2
      have z : k.2.2.2 = 1 ∨ 4 < k.2.1 - k.1 := by
        refine Classical.byContradiction (fun q => ?_)
        rw [if_neg q] at e2; exact e2 rfl
      by_cases z1 : k.2.2.2 = 1
      · rw [if_pos z1]
      · rw [if_neg z1, if_pos a2, if_pos (by omega)]
/-- all levels, by fuel -/
theorem R_all (hk : key < 3) (hla : la + 196 ≤ 3135) : ∀ F : Nat, RdM E x n la key b F 0 (F + 4) mX11_either ∧ RdM E x n la key b F 1 (F + 4) mX11_both ∧ RdM E x n la key b F 2 (F + 4) mX11_test ∧ RdM E x n la key b F 3 (F + 4) mX11_sum ∧ RdM E x n la key b F 4 (F + 4) mX11_term ∧ RdM E x n la key b F 5 (F + 4) mX11_part0
  | 0 => by
    refine ⟨?_, ?_, ?_, ?_, ?_, ?_⟩
    all_goals
      intro par bang k L S Q hm
      unfold pmu at hm
      omega
  | F + 1 => by
    obtain ⟨h0, h1, h2, h3, h4, h5⟩ := R_all hk hla F
    exact ⟨R_either hla h1, R_both hla h2, R_test hla h3, R_sum hla h4, R_term hla h5, R_part0 hk hla h5 h0⟩
end jRef6
end
section
/-! TEXT: the reference's whole tape -/
/-- what its parsing changes -/
def rtq (S S' : jM) (x la : Nat) : Prop := jsame S S' ∧ (∀ y, y ≠ x + 94 → y ≠ x + 95 → ji S' y = ji S y) ∧ (∀ j, (j < 19 ∨ 30 ≤ j) → ji S' (x + 94) j = ji S (x + 94) j) ∧ ji S' (x + 94) 19 = 0 ∧ ∀ j, (j < la ∨ la + 196 ≤ j) → ji S' (x + 95) j = ji S (x + 95) j
def pla (cnt : Nat) : Nat := if cnt < 14 then 139 + 200 * cnt else 2935
section jRef7
variable {E : jEnv} {d : Nat} {S S' : jM} {x n : Nat} {b : Nat → Nat}
theorem c_X11_parse {Q : Int32 → jM → Prop} {cnt : Nat} {v : Nat → Int32} (hM : MR S (x + 94) v) (hT : RB S x n b) (e1 : v 1 = nI cnt) (hc : cnt ≤ 14)
    (h1 : (ptx b n).1 = true → ∀ S', rtq S S' x (pla cnt) → CDM S' x (pla cnt) (ptx b n).2.2.1 (ptx b n).2.2.2 → Q (nI (ptx b n).2.2.1) S')
    (h0 : (ptx b n).1 = false → ∀ S', rtq S S' x (pla cnt) → ji S' (x + 94) 20 = nI (ptx b n).2.1 → Q (-1) S') : jFi E mX11_parse 75 0 0 [.ref (x + 94)] S Q := by
  have h96 := hT.2.1
  have hla : pla cnt + 196 ≤ 3135 := by unfold pla; split <;> omega
  have ok0 := (ptok_ok (b := b) (n := n) (w := 0) (e := 0) (Nat.zero_le _)).1
  have hn := pnext_ok ok0
  have nb0 : (ptok b n 0 0).2.2.2 = 0 := by
    show (if 0 = 1 ∧ pskp b (n - 0) 0 = 0 then 1 else 0) = 0
    rw [if_neg (fun z => absurd z.1 (by decide))]
  have i1 := hM.at (i := 1) 1 rfl (by omega)
  -- behind the start
  have go : ∀ S0 : jM, rtp S S0 x (pla cnt) ∨ True → jsame S S0 → (∀ y, y ≠ x + 94 → ji S0 y = ji S y) → (∀ j, (j < 21 ∨ 30 ≤ j) → ji S0 (x + 94) j = ji S (x + 94) j) → ji S0 (x + 94) 21 = nI 0 → ji S0 (x + 94) 22 = nI 3 → ji S0 (x + 94) 25 = nI 0 → ji S0 (x + 94) 26 = nI 0 → ji S0 (x + 94) 27 = nI 0 → ji S0 (x + 94) 29 = nI 0 → ji S0 (x + 94) 28 = nI (pla cnt) → jFv E mX11_nextToken 74 0 0 [.ref (x + 94)] S0 (fun S6 => jk S6 (x + 94) = 11 ∧ jFi E mX11_key 74 0 0 [.ref (x + 94)] S6 (fun r9 S8 => (r9 < 0 → jk S8 (x + 94) = 11 ∧ Q (-1) (jput S8 (x + 94) 19 0)) ∧ (¬ r9 < 0 → jk S8 (x + 94) = 11 ∧ jFv E mX11_nextToken 74 0 0 [.ref (x + 94)] S8 (fun S13 => jk S13 (x + 94) = 11 ∧ jFi E mX11_either 74 0 0 [.ref (x + 94), .int r9] S13 (fun r16 S15 => (r16 = 0 → jk S15 (x + 94) = 11 ∧ Q (-1) (jput S15 (x + 94) 19 0)) ∧ (¬ r16 = 0 → jk S15 (x + 94) = 11 ∧ ((ji S15 (x + 94) 22) = 0 → Q r9 (jput S15 (x + 94) 19 0)) ∧ (¬ (ji S15 (x + 94) 22) = 0 → Q (-1) (jput S15 (x + 94) 19 0)))))))) := by
    intro S0 _ s0 o0 f0 f21 f22 f25 f26 f27 f29 f28
    have T0 : RB S0 x n b := ⟨hT.1.same s0, hT.2.1, (f0 19 (by omega)).trans hT.2.2.1, fun j hj => ⟨(hT.2.2.2 j hj).1, by rw [o0 _ (by omega)]; exact (hT.2.2.2 j hj).2⟩⟩
    have fin : ∀ S2 : jM, rtp S0 S2 x (pla cnt) → rtq S (jput S2 (x + 94) 19 0) x (pla cnt) := fun S2 g => ⟨s0.trans (g.1.trans ⟨rfl, rfl, rfl, rfl⟩), fun y a c => by rw [ji_put_ne _ _ _ _ a, g.2.1 y a c]; exact o0 y a, fun j hj => by rw [ji_put, if_neg (by omega), g.2.2.1 j (by omega)]; exact f0 j (by omega), ji_put_same _ _ _ _, fun j hj => by rw [ji_put_ne _ _ _ _ (by omega), g.2.2.2 j hj, o0 _ (by omega)]⟩
    have p20 : ∀ S2 : jM, ji (jput S2 (x + 94) 19 0) (x + 94) 20 = ji S2 (x + 94) 20 := fun S2 => by rw [ji_put, if_neg (by omega)]
    refine c_X11_token T0 f21 f22 (Nat.zero_le _) (by omega) (fun S1 g1 K1 => ?_)
    rw [if_neg (by omega)] at K1
    have T1 := T0.ts g1
    refine ⟨T1.1.1, c_X11_key T1 K1 ok0 nb0 ?_⟩
    by_cases c9 : pkey b (ptok b n 0 0) = 9
    · rw [if_pos c9]
      have e9 : ptx b n = (false, (ptok b n 0 0).1, 0, []) := by unfold ptx; rw [if_pos c9]
      rw [e9] at h0
      exact ⟨fun _ => ⟨T1.1.1, h0 rfl _ (fin S1 g1.tp) ((p20 S1).trans K1.1)⟩, fun z => absurd (by decide) z⟩
    · rw [if_neg c9]
      have hk := pkey_lt c9
      have e9 : ptx b n = if (pread b n (pkey b (ptok b n 0 0)) 70 0 0 0 (pnext b n (ptok b n 0 0)) []).1 = true ∧ (pread b n (pkey b (ptok b n 0 0)) 70 0 0 0 (pnext b n (ptok b n 0 0)) []).2.1.2.2.1 = 0 then (true, 0, pkey b (ptok b n 0 0), (pread b n (pkey b (ptok b n 0 0)) 70 0 0 0 (pnext b n (ptok b n 0 0)) []).2.2) else (false, (pread b n (pkey b (ptok b n 0 0)) 70 0 0 0 (pnext b n (ptok b n 0 0)) []).2.1.1, 0, []) := by
        unfold ptx
        rw [if_neg c9]
      rw [e9] at h1 h0
      have kw : (ptok b n 0 0).2.2.1 = 1 ∧ (ptok b n 0 0).2.1 - (ptok b n 0 0).1 = 4 := by
        unfold pkey at c9
        by_cases a0 : (ptok b n 0 0).2.2.1 = 1 ∧ (ptok b n 0 0).2.1 - (ptok b n 0 0).1 = 4
        · exact a0
        · exfalso
          rw [if_neg (fun z => a0 ⟨z.1, z.2.1⟩), if_neg (fun z => a0 ⟨z.1, z.2.1⟩), if_neg (fun z => a0 ⟨z.1, z.2.1⟩)] at c9
          exact c9 rfl
      have p1 : ¬ ptn (ptok b n 0 0) = 4 := by
        unfold ptn
        rw [if_neg (by omega), if_pos kw.1, if_neg (by omega)]; decide
      generalize pkey b (ptok b n 0 0) = key at h1 h0 hk ⊢
      refine ⟨fun z => absurd z (nI_pos (by omega)), fun _ => ⟨T1.1.1, c_X11_next T1 K1 ok0 p1 (fun S2 g2 K2 => ⟨(T1.ts g2).1.1, ?_⟩)⟩⟩
      have g12 : rts S0 S2 x := g1.trans g2
      have pg := pread_ok (b := b) (n := n) (key := key) 70 0 0 0 (pnext b n (ptok b n 0 0)) [] hn.1
      have C2 : CDM S2 x (pla cnt) key [] := ⟨(g12.2.2 27 (by omega)).trans f27, (g12.2.2 29 (by omega)).trans f29, (g12.2.2 28 (by omega)).trans f28, fun i hi => absurd hi (Nat.not_lt_zero _)⟩
      have l4 : 0 + 1 ≤ (pnext b n (ptok b n 0 0)).1 := by
        have := hn.2
        have := kw.2
        omega
      refine (R_all (la := pla cnt) hk hla 70).1 0 0 (pnext b n (ptok b n 0 0)) [] S2 _ (by decide) (by omega) (by omega) (T1.ts g2) K2 hn.1 C2 ((g12.2.2 25 (by omega)).trans f25) ((g12.2.2 26 (by omega)).trans f26) l4 (fun S3 g3 p3 => ?_)
      generalize pread b n key 70 0 0 0 (pnext b n (ptok b n 0 0)) [] = r at h1 h0 pg p3 ⊢
      have g13 : rtp S0 S3 x (pla cnt) := g12.tp.trans g3
      have T3 := T0.tp g13
      by_cases c1 : r.1 = true
      · have eB : rB r = 1 := by unfold rB; rw [if_pos c1]
        rw [eB]
        obtain ⟨K3, C3, -, -⟩ := p3.1 c1
        have p4 := ptn_le r.2.1
        refine ⟨fun z => absurd z (by decide), fun _ => ⟨T3.1.1, ?_⟩⟩
        rw [K3.2.2.1]
        refine ⟨fun z => ?_, fun z => ?_⟩
        · have e0 : r.2.1.2.2.1 = 0 := (ptn_0 pg.1.so).mp (nI_inj (b := 0) (by omega) (by omega) z)
          rw [if_pos ⟨c1, e0⟩] at h1
          exact h1 rfl _ (fin S3 g13) (C3.put (by omega))
        · rw [if_neg (fun q => z (by rw [(ptn_0 pg.1.so).mpr q.2]; rfl))] at h0
          exact h0 rfl _ (fin S3 g13) ((p20 S3).trans K3.1)
      · have eB : rB r = 0 := by unfold rB; rw [if_neg c1]
        rw [eB]
        have cf : r.1 = false := by simpa using c1
        rw [if_neg (fun q => c1 q.1)] at h0
        exact ⟨fun _ => ⟨T3.1.1, h0 rfl _ (fin S3 g13) ((p20 S3).trans (p3.2 cf))⟩, fun z => absurd rfl z⟩
  refine T_X11_parse ⟨hM.k, _, hM.r, hM.k1, i1.1, ?_⟩
  rw [i1.2, e1]
  have st : ∀ w : Int32, w = nI (pla cnt) → jFv E mX11_nextToken 74 0 0 [.ref (x + 94)] (jput (jput (jput (jput (jput (jput (jput S (x + 94) 21 0) (x + 94) 22 3) (x + 94) 25 0) (x + 94) 26 0) (x + 94) 27 0) (x + 94) 29 0) (x + 94) 28 w) (fun S6 => jk S6 (x + 94) = 11 ∧ jFi E mX11_key 74 0 0 [.ref (x + 94)] S6 (fun r9 S8 => (r9 < 0 → jk S8 (x + 94) = 11 ∧ Q (-1) (jput S8 (x + 94) 19 0)) ∧ (¬ r9 < 0 → jk S8 (x + 94) = 11 ∧ jFv E mX11_nextToken 74 0 0 [.ref (x + 94)] S8 (fun S13 => jk S13 (x + 94) = 11 ∧ jFi E mX11_either 74 0 0 [.ref (x + 94), .int r9] S13 (fun r16 S15 => (r16 = 0 → jk S15 (x + 94) = 11 ∧ Q (-1) (jput S15 (x + 94) 19 0)) ∧ (¬ r16 = 0 → jk S15 (x + 94) = 11 ∧ ((ji S15 (x + 94) 22) = 0 → Q r9 (jput S15 (x + 94) 19 0)) ∧ (¬ (ji S15 (x + 94) 22) = 0 → Q (-1) (jput S15 (x + 94) 19 0)))))))) := by
    intro w hw
    have q : ∀ j, ji (jput (jput (jput (jput (jput (jput (jput S (x + 94) 21 0) (x + 94) 22 3) (x + 94) 25 0) (x + 94) 26 0) (x + 94) 27 0) (x + 94) 29 0) (x + 94) 28 w) (x + 94) j = if j = 28 then w else if j = 29 then 0 else if j = 27 then 0 else if j = 26 then 0 else if j = 25 then 0 else if j = 22 then 3 else if j = 21 then 0 else ji S (x + 94) j := fun j => by
      simp only [ji_put, true_and]
    refine go _ (Or.inr trivial) ⟨rfl, rfl, rfl, rfl⟩ (fun y hy => by rw [ji_put_ne _ _ _ _ hy, ji_put_ne _ _ _ _ hy, ji_put_ne _ _ _ _ hy, ji_put_ne _ _ _ _ hy, ji_put_ne _ _ _ _ hy, ji_put_ne _ _ _ _ hy, ji_put_ne _ _ _ _ hy]) (fun j hj => ?_) ?_ ?_ ?_ ?_ ?_ ?_ ?_
    · rw [q, if_neg (by omega), if_neg (by omega), if_neg (by omega), if_neg (by omega), if_neg (by omega), if_neg (by omega), if_neg (by omega)]
    · rw [q]; rfl
    · rw [q]; rfl
    · rw [q]; rfl
    · rw [q]; rfl
    · rw [q]; rfl
    · rw [q]; rfl
    · rw [q, if_pos rfl]; exact hw
  refine ⟨fun c => st _ ?_, fun c => st _ ?_⟩
  · have := (nI_leI (a := 14) (by omega) (by omega)).mp c
    unfold pla; rw [if_neg (by omega)]; rfl
  · have hlt : cnt < 14 := by
      rcases Nat.lt_or_ge cnt 14 with z | z
      · exact z
      · exact absurd (nI_le (a := 14) z (by omega)) c
    unfold pla jtextat
    rw [if_pos hlt, show (135 : Int32) = nI 135 from rfl, show (200 : Int32) = nI 200 from rfl, show (4 : Int32) = nI 4 from rfl]
    rw [nI_mul, nI_add, nI_add]
    congr 1
    omega
end jRef7
end
section
/-! TEXT on both sides: what is left behind -/
theorem TxM.cong2 {v v' : Nat → Int32} {t key n ops : Nat} {cw : Nat → Nat} (h : TxM v t key n ops cw) (hn : n ≤ 96) (he : ∀ j, 135 + 200 * t ≤ j → j < 335 + 200 * t → v' j = v j) : TxM v' t key n ops cw := by
  obtain ⟨a1, a2, a3, a4⟩ := h
  unfold TxM
  rw [he _ (by omega) (by omega), he _ (by omega) (by omega), he _ (by omega) (by omega)]
  refine ⟨a1, a2, a3, fun i hi => ?_⟩
  rw [he _ (by omega) (by omega), he _ (by omega) (by omega)]
  exact a4 i hi
section jText
variable {E : jEnv} {d : Nat} {S S' : jM} {x sz M : Nat} {v v' : Nat → Int32}
theorem TXS.row2 {r cnt : Nat} (h : TXS S x r M v) (hs : jsame S S') (hi : ∀ y, x + 115 ≤ y → (y - x) % 3 ≠ 0 → ji S' y = ji S y) (ec : v 1 = nI cnt) (hc : cnt ≤ 14) (e1 : v' 1 = v 1) (he : ∀ j, 135 ≤ j → j < 135 + 200 * cnt → v' j = v j) : TXS S' x r M v' := by
  obtain ⟨c, c14, ev, hT, hz⟩ := h
  obtain rfl : c = cnt := nI_inj (by omega) (by omega) (ev.symm.trans ec)
  obtain ⟨k, l, rr, -⟩ := hs
  refine ⟨c, c14, e1.trans ev, fun t ht => ?_, fun t ht b hb => ?_⟩
  · obtain ⟨m, key, n, ops, cw, hm, a1, a2, a3, a4, a5⟩ := hT t ht
    exact ⟨m, key, n, ops, cw, hm, by rw [rr]; exact a1, a2, a3.move (fun y p q => by rw [k]) (fun y p q => by rw [l]) (by rw [rr]) (fun y p q => hi y (by omega) (by omega)), a4.cong2 a5.2.2.2.2.2.2 (fun j p q => he j (by omega) (by omega)), a5⟩
  · rw [rr] at hb; rw [k]; exact hz t ht b hb
/-- the tape is gone, nothing else -/
theorem IV.fault {cnt : Nat} (h : IV S x sz M v) (ec : v 1 = nI cnt) (hc : cnt ≤ 14) (hs : jsame S S') (o : ∀ y, y ≠ x + 60 → y ≠ x + 62 → y ≠ x + 94 → y ≠ x + 95 → ji S' y = ji S y) (t1 : ji S' (x + 60) 1 = 0) (m : ∀ j, (j < 19 ∨ 30 ≤ j) → ji S' (x + 94) j = ji S (x + 94) j) (m19 : ji S' (x + 94) 19 = 0) (row : ∀ j, (j < pla cnt ∨ pla cnt + 196 ≤ j) → ji S' (x + 95) j = ji S (x + 95) j) : INV S' x M := by
  obtain ⟨⟨hX, hM, hg⟩, hC, hGL, hjn, hT, hI, hS, hSl, hW, hTp⟩ := id h
  have pl : 139 + 200 * cnt ≤ pla cnt ∨ (cnt = 14 ∧ pla cnt = 2935) := by
    unfold pla
    split <;> omega
  have ev : ∀ j, (j < pla cnt ∨ pla cnt + 196 ≤ j) → ji S' (x + 95) j = v j := fun j hj => (row j hj).trans (hM.2 j)
  refine ⟨sz, fun j => ji S' (x + 95) j, ⟨hX.of hs ((hX.2.2.grow (fun y p q => ⟨by rw [hs.1], by rw [hs.2.1], o y (by omega) (by omega) (by omega) (by omega), by rw [hs.2.2.1]⟩)).cong (fun j hj => ev j (by omega))), ⟨hM.1.same hs, fun j => rfl⟩, hg.cong (fun j hj => ev j (by omega))⟩, hC.same hs, hGL.same hs, by rw [hs.2.2.2]; exact hjn, ?_, hI.keep hs (by rw [o x (by omega) (by omega) (by omega) (by omega)]) (m 3 (by omega)) (fun y hy => o y (by omega) (by omega) (by omega) (by omega)), hS.keep (fun y hy => o y (by omega) (by omega) (by omega) (by omega)), hSl.keep (fun y hy => o y (by omega) (by omega) (by omega) (by omega)), hW.keep (by rw [o x (by omega) (by omega) (by omega) (by omega)]) (m 34 (by omega)) (o _ (by omega) (by omega) (by omega) (by omega)) (o _ (by omega) (by omega) (by omega) (by omega)), ⟨0, by omega, t1, m19, fun j hj => absurd hj (Nat.not_lt_zero _)⟩⟩
  exact hT.row2 hs (fun y p _ => o y (by omega) (by omega) (by omega) (by omega)) ec hc (ev 1 (by omega)) (fun j p q => ev j (by omega))
end jText
end
section
/-! TEXT on both sides: one text more -/
section jMore
variable {S S' : jM} {x sz M : Nat} {v : Nat → Int32}
theorem CL.pt (h : CL S x) (hk : ∀ y, y < x + 115 → jk S' y = jk S y) (hl : ∀ y, y < x + 115 → jl S' y = jl S y) (hr : ∀ y, y < x + 115 → y ≠ x + 20 → jr S' y = jr S y) : CL S' x := by
  obtain ⟨a1, ⟨a2, a3, a4, a5, a6, a7, a8, a9⟩, ⟨b1, b2, b3, b4, b5⟩, ⟨c1, c2, c3, c4, c5, c6, c7⟩, ⟨e1, e2, e3⟩, ⟨f1, f2, f3⟩, ⟨g1, g2⟩, hsh, hsl⟩ := h
  have q0 := hr x (by omega) (by omega)
  have q52 := hr (x + 52) (by omega) (by omega)
  have q60 := hr (x + 60) (by omega) (by omega)
  have q63 := hr (x + 63) (by omega) (by omega)
  have q64 := hr (x + 64) (by omega) (by omega)
  refine ⟨by rw [hk _ (by omega)]; exact a1, by rw [q0]; exact ⟨a2, a3, a4, a5, a6, a7, a8, a9⟩, ⟨by rw [hk _ (by omega)]; exact b1, fun k hk' => ?_, fun k hk' => by rw [hl _ (by omega)]; exact b3 k hk', by rw [hl _ (by omega)]; exact b4, by rw [hl _ (by omega)]; exact b5⟩, ⟨by rw [hk _ (by omega)]; exact c1, by rw [q60]; exact c2, by rw [q60]; exact c3, by rw [hk _ (by omega)]; exact c4, by rw [hl _ (by omega)]; exact c5, by rw [hk _ (by omega)]; exact c6, by rw [hl _ (by omega)]; exact c7⟩, ⟨by rw [hk _ (by omega)]; exact e1, by rw [hl _ (by omega)]; exact e2, by rw [q63]; exact e3⟩, ⟨by rw [hk _ (by omega)]; exact f1, by rw [hl _ (by omega)]; exact f2, by rw [q64]; exact f3⟩, ⟨by rw [hk _ (by omega)]; exact g1, by rw [hl _ (by omega)]; exact g2⟩, fun i hi => ?_, fun i hi => ?_⟩
  · rw [q52, hk _ (by omega)]; exact b2 k hk'
  · obtain ⟨s1, s2, s3, s4⟩ := hsh i hi
    exact ⟨by rw [hk _ (by omega)]; exact s1, by rw [hr _ (by omega) (by omega)]; exact s2, by rw [hk _ (by omega)]; exact s3, by rw [hl _ (by omega)]; exact s4⟩
  · obtain ⟨s1, s2, s3, s4, s5, s6, s7, s8⟩ := hsl i hi
    exact ⟨by rw [hk _ (by omega)]; exact s1, by rw [hr _ (by omega) (by omega)]; exact s2, by rw [hr _ (by omega) (by omega)]; exact s3, by rw [hk _ (by omega)]; exact s4, by rw [hk _ (by omega)]; exact s5, by rw [hr _ (by omega) (by omega)]; exact s6, by rw [hk _ (by omega)]; exact s7, by rw [hl _ (by omega)]; exact s8⟩
theorem ML.pt (h : ML S (x + 94)) (hk : ∀ y, y < x + 115 → jk S' y = jk S y) (hl : ∀ y, y < x + 115 → jl S' y = jl S y) (hr : jr S' (x + 94) = jr S (x + 94)) : ML S' (x + 94) := by
  refine ⟨by rw [hk _ (by omega)]; exact h.1, fun k p hp => ?_⟩
  have hlt : k < 20 := by
    obtain ⟨hl', -⟩ := List.getElem?_eq_some_iff.mp hp
    exact hl'
  rw [hr, hk _ (by omega), hl _ (by omega)]
  exact h.2 k p hp
theorem GL.pt (h : GL S (x + 41)) (hk : ∀ y, y < x + 115 → jk S' y = jk S y) (hl : ∀ y, y < x + 115 → jl S' y = jl S y) (hr : ∀ y, y < x + 115 → y ≠ x + 20 → jr S' y = jr S y) : GL S' (x + 41) := by
  obtain ⟨a1, a2, a3, a4, a5⟩ := h
  refine ⟨by rw [hk _ (by omega)]; exact a1, by rw [hr _ (by omega) (by omega)]; exact a2, by rw [hk _ (by omega)]; exact a3, by rw [hl _ (by omega)]; exact a4, fun i hi => ?_⟩
  rw [hr _ (by omega) (by omega), hk _ (by omega)]; exact a5 i hi
theorem IV.more {c2 : Nat} {w : Nat → Int32} (h : IV S x sz M v) (hc2 : c2 ≤ 14) (hn : jn S' = jn S + 3) (hk : ∀ y, y < jn S → jk S' y = jk S y) (hl : ∀ y, y < jn S → jl S' y = jl S y) (hr : ∀ y, y < jn S → y ≠ x + 20 → jr S' y = jr S y) (o : ∀ y, y < jn S → y ≠ x + 1 → y ≠ x + 60 → y ≠ x + 62 → y ≠ x + 94 → y ≠ x + 95 → ji S' y = ji S y) (o6 : ∀ j, j ≠ 6 → ji S' (x + 1) j = ji S (x + 1) j) (e6 : ji S' (x + 1) 6 = nI c2) (t1 : ji S' (x + 60) 1 = 0) (m : ∀ j, (j < 19 ∨ 30 ≤ j) → ji S' (x + 94) j = ji S (x + 94) j) (m19 : ji S' (x + 94) 19 = 0)
    (hw : ∀ j, ji S' (x + 95) j = w j) (w1 : w 1 = nI c2) (wo : ∀ j, j ≠ 1 → j < 135 → w j = v j) (hT' : TXS S' x (x + 20) (M + 1) w) : INV S' x (M + 1) := by
  obtain ⟨⟨hX, hM, hg⟩, hC, hGL, hjn, hT, ⟨szi, vi, i1, i2, i3⟩, hS, hSl, hW, hTp⟩ := id h
  have k1 : ∀ y, y < x + 115 → jk S' y = jk S y := fun y hy => hk y (by omega)
  have l1 : ∀ y, y < x + 115 → jl S' y = jl S y := fun y hy => hl y (by omega)
  have r1 : ∀ y, y < x + 115 → y ≠ x + 20 → jr S' y = jr S y := fun y hy hne => hr y (by omega) hne
  have cs : ∀ y, y < x + 115 → y ≠ x + 1 → y ≠ x + 20 → y ≠ x + 60 → y ≠ x + 62 → y ≠ x + 94 → y ≠ x + 95 → jcs S S' y := fun y a b c e f g i => ⟨k1 y a, l1 y a, o y (by omega) b e f g i, r1 y a c⟩
  have hR : RmR S' (x + 1) sz w := by
    obtain ⟨⟨q1, q2, q3, q4, q5, q6, q7, q8, q9, q10⟩, a1, a2, a3, a4, a5, a6, a7, a8⟩ := hX.2.2
    have e0 := r1 (x + 1) (by omega) (by omega)
    refine ⟨⟨by rw [k1 _ (by omega)]; exact q1, by rw [e0]; exact q2, by rw [e0]; exact q3, by rw [e0]; exact q4, by rw [e0]; exact q5, by rw [e0]; exact q6, by rw [k1 _ (by omega)]; exact q7, by rw [l1 _ (by omega)]; exact q8, by rw [k1 _ (by omega)]; exact q9, by rw [l1 _ (by omega)]; exact q10⟩, a1, by rw [wo 0 (by omega) (by omega)]; exact a2, ?_, (a4.grow (fun y p q => cs y (by omega) (by omega) (by omega) (by omega) (by omega) (by omega) (by omega))).cong (fun i hi => wo _ (by omega) (by omega)), ?_, by rw [o6 4 (by omega), wo 7 (by omega) (by omega)]; exact a6, fun i hi => by rw [o _ (by omega) (by omega) (by omega) (by omega) (by omega) (by omega), wo _ (by omega) (by omega)]; exact a7 i hi, by rw [e6, w1]⟩
    · rw [wo 8 (by omega) (by omega)]
      exact (a3.grow (fun y p q => cs y (by omega) (by omega) (by omega) (by omega) (by omega) (by omega) (by omega))).cong (fun i hi f hf => (wo _ (by omega) (by omega)).symm)
    · rw [wo 3 (by omega) (by omega), wo 4 (by omega) (by omega), wo 5 (by omega) (by omega), wo 6 (by omega) (by omega), wo 2 (by omega) (by omega)]
      exact (a5.grow (fun y p q => cs y (by omega) (by omega) (by omega) (by omega) (by omega) (by omega) (by omega))).cong (fun i hi => (wo _ (by omega) (by omega)).symm) (fun i hi => (wo _ (by omega) (by omega)).symm)
  have hg' : Rg sz w := fun j hj hb => by
    by_cases e : j = 1
    · subst e
      exact ⟨c2, by show c2 < 15; omega, w1⟩
    · rw [wo j e hj]; exact hg j hj hb
  refine ⟨sz, w, ⟨⟨by rw [k1 _ (by omega)]; exact hX.1, by rw [r1 _ (by omega) (by omega)]; exact hX.2.1, hR⟩, ⟨hM.1.pt k1 l1 (r1 _ (by omega) (by omega)), hw⟩, hg'⟩, hC.pt k1 l1 r1, hGL.pt k1 l1 r1, by omega, hT', ⟨szi, vi, i1.grow (fun y p q => cs y (by omega) (by omega) (by omega) (by omega) (by omega) (by omega) (by omega)), fun t ht b hb => ?_, ?_⟩, hS.keep (fun y hy => o y (by omega) (by omega) (by omega) (by omega) (by omega) (by omega)), hSl.keep (fun y hy => o y (by omega) (by omega) (by omega) (by omega) (by omega) (by omega)), hW.keep (by rw [o x (by omega) (by omega) (by omega) (by omega) (by omega) (by omega)]) (m 34 (by omega)) (o _ (by omega) (by omega) (by omega) (by omega) (by omega) (by omega)) (o _ (by omega) (by omega) (by omega) (by omega) (by omega) (by omega)), ⟨0, by omega, t1, m19, fun j hj => absurd hj (Nat.not_lt_zero _)⟩⟩
  · rw [r1 _ (by omega) (by omega)] at hb
    obtain ⟨p1, p2⟩ := i2 t ht b hb
    rw [hk b (by omega)]; exact ⟨p1, by omega⟩
  · rw [o x (by omega) (by omega) (by omega) (by omega) (by omega) (by omega), m 3 (by omega)]
    rcases i3 with i3 | ⟨a1, a2, a3, a4, a5⟩
    · exact Or.inl i3
    · refine Or.inr ⟨a1, a2, a3, fun j hj => by rw [o _ (by omega) (by omega) (by omega) (by omega) (by omega) (by omega)]; exact a4 j hj, ?_⟩
      exact a5.move (by omega) (fun y hy => hk y (by omega)) (fun y hy => hl y (by omega)) (fun t _ => by rw [r1 _ (by omega) (by omega)]) (fun y p q => hr y (by omega) (by omega)) (fun y p q _ => o y (by omega) (by omega) (by omega) (by omega) (by omega) (by omega)) (fun _ _ _ => rfl)
end jMore
end
section
/-! TEXT on both sides -/
section jQText
variable {E : jEnv} {d : Nat} {S : jM} {x sz M : Nat} {v : Nat → Int32}
theorem Q_text (h : IV S x sz M v) : jFi E mX10_text (d + 148) 3 196 [.ref x] S (fun r S1 => jFm E mX11_text 76 (x + 94) [] S1 (fun r' S2 => r = r' ∧ ∃ M', M' ≤ M + 1 ∧ INV S2 x M')) := by
  obtain ⟨⟨hX, hM, hg⟩, hC, hGL, hjn, hT, hI, hS, hSl, hW, hTp⟩ := id h
  obtain ⟨n, n96, a1, a2, a3⟩ := hTp
  obtain ⟨b, hb⟩ := Classical.axiomOfChoice (r := fun (j : Nat) (c : Nat) => j < n → c < 256 ∧ ji S (x + 61) j = nI c ∧ ji S (x + 109) j = nI c) (fun j => (Classical.em (j < n)).elim (fun hj => (a3 j hj).elim (fun c hc => ⟨c, fun _ => hc⟩)) (fun hj => ⟨0, fun q => absurd q hj⟩))
  obtain ⟨cnt, c14, ec, hTx, hz⟩ := id hT
  have hTL := hC.2.2.2.1
  have r5 := hC.2.1.2.2.2.2.1
  have TBc : TB S (x + 60) n b := ⟨hTL, n96, a1, fun j hj => ⟨(hb j hj).1, (hb j hj).2.1⟩⟩
  have n6 : ji S (x + 1) 6 = nI cnt := hX.2.2.n6.trans ec
  refine T_X10_text ⟨hX.1, _, r5, hTL.1, c_X8_isText TBc (fun good S4 g4 e6 C4 => ?_) (fun bad S4 g4 f2 => ?_)⟩
  · -- a text
    obtain ⟨hkey, hEX, hlen⟩ := ptx_ok good
    have hp96 : pops (ptx b n).2.2.2 ≤ 96 := (WFt_of hEX (by omega)).2.2.2.2.2.1
    have hWF := WFt_of hEX (show (ptx b n).2.2.2.length ≤ 96 by omega)
    have T4 := TBc.tq g4
    have hX4 : jr S4 x 0 = some (x + 1) := by rw [g4.1.2.2.1]; exact hX.2.1
    refine ⟨by rw [g4.1.1]; exact hX.1, _, by rw [g4.1.2.2.1]; exact r5, T4.1.1, fun z => absurd z (by decide), fun _ => ⟨_, hX4, by rw [g4.1.1]; exact hX.k3, ?_⟩⟩
    have o5 : ∀ y, y ≠ x + 60 → y ≠ x + 62 → ji (jput S4 (x + 60) 1 0) y = ji S y := fun y p q => by rw [ji_put_ne _ _ _ _ p]; exact g4.2.1 y p q
    have s5 : jsame S (jput S4 (x + 60) 1 0) := g4.1.trans ⟨rfl, rfl, rfl, rfl⟩
    have t5 : ji (jput S4 (x + 60) 1 0) (x + 60) 1 = 0 := ji_put_same _ _ _ _
    have C5 : CDC (jput S4 (x + 60) 1 0) (x + 60) (ptx b n).2.2.2 := ⟨by rw [ji_put, if_neg (by omega)]; exact C4.1, by rw [ji_put, if_neg (by omega)]; exact C4.2.1, fun i hi => by rw [ji_put_ne _ _ _ _ (by omega)]; exact C4.2.2 i hi⟩
    have f6 : ji (jput S4 (x + 60) 1 0) (x + 60) 6 = nI (ptx b n).2.2.1 := by rw [ji_put, if_neg (by omega)]; exact e6
    have e61 : ji S4 (x + 1) 6 = nI cnt := by rw [g4.2.1 _ (by omega) (by omega)]; exact n6
    rw [e61]
    generalize jput S4 (x + 60) 1 0 = S5 at o5 s5 t5 C5 f6 ⊢
    have n5 : jn S5 = x + 115 + 3 * M := s5.2.2.2.trans hjn
    refine c_X8_textRead (hTL.same s5) (by omega) C5 f6 (by omega) hp96 (fun S7 n7 c7 X7 => ⟨fun z => absurd z (by simp), fun b14 e14 => ?_⟩)
    obtain rfl : jn S5 + 1 = b14 := Option.some.inj e14
    rw [n5] at n7 c7 X7 ⊢
    have o7 : ∀ y, y < x + 115 + 3 * M → y ≠ x + 60 → y ≠ x + 62 → ji S7 y = ji S y := fun y hy p q => (c7 y hy).2.2.1.trans (o5 y p q)
    have k7 : ∀ y, y < x + 115 + 3 * M → jk S7 y = jk S y := fun y hy => (c7 y hy).1.trans (by rw [s5.1])
    have l7 : ∀ y, y < x + 115 + 3 * M → jl S7 y = jl S y := fun y hy => (c7 y hy).2.1.trans (by rw [s5.2.1])
    have r7 : ∀ y, y < x + 115 + 3 * M → jr S7 y = jr S y := fun y hy => (c7 y hy).2.2.2.trans (by rw [s5.2.2.1])
    have t7 : ji S7 (x + 60) 1 = 0 := by rw [(c7 (x + 60) (by omega)).2.2.1]; exact t5
    have e67 : ji S7 (x + 1) 6 = nI cnt := by rw [o7 _ (by omega) (by omega) (by omega)]; exact n6
    -- the reference, behind any such memory
    have ref : ∀ (S8 : jM) (Q : Int32 → jM → Prop), (∀ y, y < x + 115 → jk S8 y = jk S y) → (∀ y, y < x + 115 → jl S8 y = jl S y) → jr S8 (x + 94) = jr S (x + 94) → (∀ y, y = x + 94 ∨ y = x + 95 ∨ y = x + 109 → ji S8 y = ji S y) → (∀ S9, rtq S8 S9 x (pla cnt) → CDM S9 x (pla cnt) (ptx b n).2.2.1 (ptx b n).2.2.2 → jk S9 (x + 94) = 11 ∧ ∃ b6, jr S9 (x + 94) 0 = some b6 ∧ (jk S9 b6 = 12 ∧ vp_in 1 (jl S9 b6) ∧ (((ji S9 b6 (Int32.toNatClampNeg 1)) = 14 → Q (-1000000003) S9) ∧ (¬ (ji S9 b6 (Int32.toNatClampNeg 1)) = 14 → (vp_in ((jtextat (ji S9 b6 (Int32.toNatClampNeg 1))) + 0) (jl S9 b6) ∧ (vp_in ((jtextat (ji S9 b6 (Int32.toNatClampNeg 1))) + 1) (jl S9 b6) ∧ (vp_in ((jtextat (ji S9 b6 (Int32.toNatClampNeg 1))) + 2) (jl S9 b6) ∧ ((((Q (((ji (jput (jput (jput S9 b6 (Int32.toNatClampNeg ((jtextat (ji S9 b6 (Int32.toNatClampNeg 1))) + 0)) (nI (ptx b n).2.2.1)) b6 (Int32.toNatClampNeg ((jtextat (ji S9 b6 (Int32.toNatClampNeg 1))) + 1)) (ji S9 (x + 94) 29)) b6 (Int32.toNatClampNeg ((jtextat (ji S9 b6 (Int32.toNatClampNeg 1))) + 2)) (ji S9 (x + 94) 27)) b6 (Int32.toNatClampNeg 1)) + 1) - 1) (jput (jput (jput (jput S9 b6 (Int32.toNatClampNeg ((jtextat (ji S9 b6 (Int32.toNatClampNeg 1))) + 0)) (nI (ptx b n).2.2.1)) b6 (Int32.toNatClampNeg ((jtextat (ji S9 b6 (Int32.toNatClampNeg 1))) + 1)) (ji S9 (x + 94) 29)) b6 (Int32.toNatClampNeg ((jtextat (ji S9 b6 (Int32.toNatClampNeg 1))) + 2)) (ji S9 (x + 94) 27)) b6 (Int32.toNatClampNeg 1) ((ji (jput (jput (jput S9 b6 (Int32.toNatClampNeg ((jtextat (ji S9 b6 (Int32.toNatClampNeg 1))) + 0)) (nI (ptx b n).2.2.1)) b6 (Int32.toNatClampNeg ((jtextat (ji S9 b6 (Int32.toNatClampNeg 1))) + 1)) (ji S9 (x + 94) 29)) b6 (Int32.toNatClampNeg ((jtextat (ji S9 b6 (Int32.toNatClampNeg 1))) + 2)) (ji S9 (x + 94) 27)) b6 (Int32.toNatClampNeg 1)) + 1))))))))))))) → jFm E mX11_text 76 (x + 94) [] S8 Q := by
      intro S8 Q hk8 hl8 hr8 o8 hq
      have M8 : ML S8 (x + 94) := hM.1.pt hk8 hl8 hr8
      have hM8 : MR S8 (x + 94) v := ⟨M8, fun j => by rw [o8 (x + 94 + 1) (by omega)]; exact hM.2 j⟩
      have hT8 : RB S8 x n b := ⟨M8, n96, by rw [o8 _ (by omega)]; exact a2, fun j hj => ⟨(hb j hj).1, by rw [o8 _ (by omega)]; exact (hb j hj).2.2⟩⟩
      exact U_X11_text hM8.k ⟨hM8.k, c_X11_parse hM8 hT8 ec c14 (fun _ S9 g9 C9 => ⟨fun _ => hq S9 g9 C9, fun z => absurd (Int32.not_lt.mp (nI_pos (by omega))) z⟩) (fun q => absurd (good.symm.trans q) (by decide))⟩
    refine ⟨by rw [k7 _ (by omega)]; exact hX.k3, T_X3_addText ⟨by rw [k7 _ (by omega)]; exact hX.k3, ?_⟩⟩
    rw [e67]
    rcases Nat.lt_or_ge cnt 14 with hlt | hge
    · have jw : ¬ jwi (nI cnt) 14 = 0 := by rw [show (14 : Int32) = nI 14 from rfl, jwi_at hlt (by omega)]; decide
      refine ⟨fun z => absurd z jw, fun _ => ⟨x + 20, by rw [r7 _ (by omega)]; exact hX.2.2.1.2.2.2.2.2.1, by rw [k7 _ (by omega)]; exact hX.2.2.1.2.2.2.2.2.2.2.2.1, X7.1, by rw [l7 _ (by omega), show jl S (x + 20) = 14 from hX.2.2.1.2.2.2.2.2.2.2.2.2]; exact jin_nI hlt (by omega), fun z => absurd z (by decide), fun _ => ?_⟩⟩
      rw [jcl (by omega), nI_1]
      have r8 : ∀ y, y ≠ x + 20 → jr (jput (jputr S7 (x + 20) cnt (some (x + 115 + 3 * M + 1))) (x + 1) 6 (nI (cnt + 1))) y = jr S7 y := fun y hy => by rw [jr_put, jr_putr_ne _ _ _ _ hy]
      have r20 : ∀ t, jr (jput (jputr S7 (x + 20) cnt (some (x + 115 + 3 * M + 1))) (x + 1) 6 (nI (cnt + 1))) (x + 20) t = if t = cnt then some (x + 115 + 3 * M + 1) else jr S7 (x + 20) t := fun t => by
        rw [jr_put, jr_putr]
        by_cases e : t = cnt
        · rw [if_pos ⟨rfl, e⟩, if_pos e]
        · rw [if_neg (fun z => e z.2), if_neg e]
      have o8 : ∀ y, y ≠ x + 1 → ji (jput (jputr S7 (x + 20) cnt (some (x + 115 + 3 * M + 1))) (x + 1) 6 (nI (cnt + 1))) y = ji S7 y := fun y hy => by rw [ji_put_ne _ _ _ _ hy, ji_putr]
      have o86 : ∀ j, ji (jput (jputr S7 (x + 20) cnt (some (x + 115 + 3 * M + 1))) (x + 1) 6 (nI (cnt + 1))) (x + 1) j = if j = 6 then nI (cnt + 1) else ji S7 (x + 1) j := fun j => by
        rw [ji_put, ji_putr]
        by_cases e : j = 6
        · rw [if_pos ⟨rfl, e⟩, if_pos e]
        · rw [if_neg (fun z => e z.2), if_neg e]
      have k8 : jk (jput (jputr S7 (x + 20) cnt (some (x + 115 + 3 * M + 1))) (x + 1) 6 (nI (cnt + 1))) = jk S7 := rfl
      have l8 : jl (jput (jputr S7 (x + 20) cnt (some (x + 115 + 3 * M + 1))) (x + 1) 6 (nI (cnt + 1))) = jl S7 := rfl
      have n8 : jn (jput (jputr S7 (x + 20) cnt (some (x + 115 + 3 * M + 1))) (x + 1) 6 (nI (cnt + 1))) = jn S7 := rfl
      generalize jput (jputr S7 (x + 20) cnt (some (x + 115 + 3 * M + 1))) (x + 1) 6 (nI (cnt + 1)) = S8 at r8 r20 o8 o86 k8 l8 n8 ⊢
      have la : pla cnt = 139 + 200 * cnt := by unfold pla; rw [if_pos hlt]
      refine ref S8 _ (fun y hy => by rw [k8]; exact k7 y (by omega)) (fun y hy => by rw [l8]; exact l7 y (by omega)) (by rw [r8 _ (by omega)]; exact r7 _ (by omega)) (fun y hy => by rw [o8 y (by omega)]; exact o7 y (by omega) (by omega) (by omega)) (fun S9 g9 C9 => ?_)
      rw [la] at g9 C9
      have M9 : ML S9 (x + 94) := (hM.1.pt (S' := S8) (fun y hy => by rw [k8]; exact k7 y (by omega)) (fun y hy => by rw [l8]; exact l7 y (by omega)) (by rw [r8 _ (by omega)]; exact r7 _ (by omega))).same g9.1
      have w9 : ∀ j, (j < 139 + 200 * cnt ∨ 335 + 200 * cnt ≤ j) → ji S9 (x + 95) j = v j := fun j hj => by
        rw [g9.2.2.2.2 j (by omega), o8 _ (by omega), o7 _ (by omega) (by omega) (by omega)]; exact hM.2 j
      have e19 : ji S9 (x + 95) (Int32.toNatClampNeg 1) = nI cnt := (w9 1 (by omega)).trans ec
      have n14 : ¬ nI cnt = 14 := fun z => by have := nI_inj (b := 14) (by omega) (by omega) z; omega
      have ta : ∀ q : Nat, jtextat (nI cnt) + nI q = nI (135 + 200 * cnt + q) := fun q => by
        unfold jtextat
        rw [show (135 : Int32) = nI 135 from rfl, show (200 : Int32) = nI 200 from rfl, nI_mul, nI_add, nI_add]
      have ta0 : jtextat (nI cnt) + 0 = nI (135 + 200 * cnt) := ta 0
      have ta1 : jtextat (nI cnt) + 1 = nI (135 + 200 * cnt + 1) := ta 1
      have ta2 : jtextat (nI cnt) + 2 = nI (135 + 200 * cnt + 2) := ta 2
      refine ⟨M9.1, _, M9.rr0, M9.kk1, by rw [M9.ll1]; exact jin_nI (n := 1) (by omega) (by omega), ?_⟩
      rw [e19, ta0, ta1, ta2]
      refine ⟨fun z => absurd z n14, fun _ => ⟨by rw [M9.ll1]; exact jin_nI (by omega) (by omega), by rw [M9.ll1]; exact jin_nI (by omega) (by omega), by rw [M9.ll1]; exact jin_nI (by omega) (by omega), ?_⟩⟩
      rw [jcl (n := 135 + 200 * cnt) (by omega), jcl (n := 135 + 200 * cnt + 1) (by omega), jcl (n := 135 + 200 * cnt + 2) (by omega), show Int32.toNatClampNeg 1 = 1 from rfl, C9.1, C9.2.1]
      have e1' : ji (jput (jput (jput S9 (x + 95) (135 + 200 * cnt) (nI (ptx b n).2.2.1)) (x + 95) (135 + 200 * cnt + 1) (nI (pops (ptx b n).2.2.2))) (x + 95) (135 + 200 * cnt + 2) (nI (ptx b n).2.2.2.length)) (x + 95) 1 = nI cnt := by
        rw [ji_put, if_neg (by omega), ji_put, if_neg (by omega), ji_put, if_neg (by omega)]; exact e19
      rw [e1', nI_1, nI_pred]
      have oo : ∀ y, y ≠ x + 95 → ji (jput (jput (jput (jput S9 (x + 95) (135 + 200 * cnt) (nI (ptx b n).2.2.1)) (x + 95) (135 + 200 * cnt + 1) (nI (pops (ptx b n).2.2.2))) (x + 95) (135 + 200 * cnt + 2) (nI (ptx b n).2.2.2.length)) (x + 95) 1 (nI (cnt + 1))) y = ji S9 y := fun y hy => by rw [ji_put_ne _ _ _ _ hy, ji_put_ne _ _ _ _ hy, ji_put_ne _ _ _ _ hy, ji_put_ne _ _ _ _ hy]
      have ww : ∀ j, ji (jput (jput (jput (jput S9 (x + 95) (135 + 200 * cnt) (nI (ptx b n).2.2.1)) (x + 95) (135 + 200 * cnt + 1) (nI (pops (ptx b n).2.2.2))) (x + 95) (135 + 200 * cnt + 2) (nI (ptx b n).2.2.2.length)) (x + 95) 1 (nI (cnt + 1))) (x + 95) j = if j = 1 then nI (cnt + 1) else if j = 135 + 200 * cnt + 2 then nI (ptx b n).2.2.2.length else if j = 135 + 200 * cnt + 1 then nI (pops (ptx b n).2.2.2) else if j = 135 + 200 * cnt then nI (ptx b n).2.2.1 else ji S9 (x + 95) j := fun j => by
        simp only [ji_put, true_and]
      have sX : jsame S9 (jput (jput (jput (jput S9 (x + 95) (135 + 200 * cnt) (nI (ptx b n).2.2.1)) (x + 95) (135 + 200 * cnt + 1) (nI (pops (ptx b n).2.2.2))) (x + 95) (135 + 200 * cnt + 2) (nI (ptx b n).2.2.2.length)) (x + 95) 1 (nI (cnt + 1))) := ⟨rfl, rfl, rfl, rfl⟩
      generalize jput (jput (jput (jput S9 (x + 95) (135 + 200 * cnt) (nI (ptx b n).2.2.1)) (x + 95) (135 + 200 * cnt + 1) (nI (pops (ptx b n).2.2.2))) (x + 95) (135 + 200 * cnt + 2) (nI (ptx b n).2.2.2.length)) (x + 95) 1 (nI (cnt + 1)) = SX at oo ww sX ⊢
      have kX : ∀ y, jk SX y = jk S7 y := fun y => by rw [sX.1, g9.1.1, k8]
      have lX : ∀ y, jl SX y = jl S7 y := fun y => by rw [sX.2.1, g9.1.2.1, l8]
      have rX : ∀ y, jr SX y = jr S8 y := fun y => by rw [sX.2.2.1, g9.1.2.2.1]
      have iX : ∀ y, y ≠ x + 1 → y ≠ x + 94 → y ≠ x + 95 → ji SX y = ji S7 y := fun y p q r => by rw [oo y r, g9.2.1 y q r, o8 y p]
      have wv : ∀ j, j ≠ 1 → j < 135 + 200 * cnt → ji SX (x + 95) j = v j := fun j hj hlt' => by
        rw [ww, if_neg hj, if_neg (by omega), if_neg (by omega), if_neg (by omega)]; exact w9 j (by omega)
      refine ⟨rfl, M + 1, by omega, h.more (c2 := cnt + 1) (w := fun j => ji SX (x + 95) j) (by omega) ?_ (fun y hy => ?_) (fun y hy => ?_) (fun y hy hne => ?_) (fun y hy p q r s t => ?_) (fun j hj => ?_) ?_ ?_ (fun j hj => ?_) ?_ (fun j => rfl) ?_ (fun j p q => wv j p (by omega)) ⟨cnt + 1, by omega, ?_, fun t ht => ?_, fun t ht q hq => ?_⟩⟩
      · rw [sX.2.2.2, g9.1.2.2.2, n8, n7, hjn]
      · rw [kX]; exact k7 y (by omega)
      · rw [lX]; exact l7 y (by omega)
      · rw [rX, r8 y hne]; exact r7 y (by omega)
      · rw [iX y p s t]; exact o7 y (by omega) q r
      · rw [oo _ (by omega), g9.2.1 _ (by omega) (by omega), o86, if_neg hj, o7 _ (by omega) (by omega) (by omega)]
      · rw [oo _ (by omega), g9.2.1 _ (by omega) (by omega), o86, if_pos rfl]
      · rw [iX _ (by omega) (by omega) (by omega)]; exact t7
      · rw [oo _ (by omega), g9.2.2.1 j hj, o8 _ (by omega), o7 _ (by omega) (by omega) (by omega)]
      · rw [oo _ (by omega)]; exact g9.2.2.2.1
      · show ji SX (x + 95) 1 = _
        rw [ww, if_pos rfl]
      · show ji SX (x + 95) 1 = _
        rw [ww, if_pos rfl]
      · by_cases et : t = cnt
        · subst et
          refine ⟨M, (ptx b n).2.2.1, (ptx b n).2.2.2.length, pops (ptx b n).2.2.2, fun i => (ptx b n).2.2.2.getD i 0, by omega, by rw [rX, r20, if_pos rfl], hkey, X7.move (fun y p q => kX y) (fun y p q => lX y) (by rw [rX, r8 _ (by omega)]) (fun y p q => iX y (by omega) (by omega) (by omega)), ⟨?_, ?_, ?_, fun i hi => ?_⟩, hWF⟩
          · show ji SX (x + 95) _ = _
            rw [ww, if_neg (by omega), if_neg (by omega), if_neg (by omega), if_pos rfl]
          · show ji SX (x + 95) (136 + 200 * t) = _
            rw [ww, if_neg (by omega), if_neg (by omega), if_pos (by omega)]
          · show ji SX (x + 95) (137 + 200 * t) = _
            rw [ww, if_neg (by omega), if_pos (by omega)]
          · have hc := C9.2.2.2 i hi
            refine ⟨?_, ?_⟩
            · show ji SX (x + 95) (139 + 200 * t + 2 * i) = _
              rw [ww, if_neg (by omega), if_neg (by omega), if_neg (by omega), if_neg (by omega)]; exact hc.1
            · show ji SX (x + 95) (140 + 200 * t + 2 * i) = _
              rw [ww, if_neg (by omega), if_neg (by omega), if_neg (by omega), if_neg (by omega), show 140 + 200 * t + 2 * i = 139 + 200 * t + 2 * i + 1 by omega]; exact hc.2
        · obtain ⟨m, key, nn, ops, cw, hm, b1, b2, b3, b4, b5⟩ := hTx t (by omega)
          refine ⟨m, key, nn, ops, cw, by omega, by rw [rX, r20, if_neg et, r7 _ (by omega)]; exact b1, b2, b3.move (fun y p q => by rw [kX]; exact k7 y (by omega)) (fun y p q => by rw [lX]; exact l7 y (by omega)) (by rw [rX, r8 _ (by omega), r7 _ (by omega)]) (fun y p q => by rw [iX y (by omega) (by omega) (by omega)]; exact o7 y (by omega) (by omega) (by omega)), b4.cong2 b5.2.2.2.2.2.2 (fun j p q => wv j (by omega) (by omega)), b5⟩
      · rw [rX, r20] at hq
        by_cases et : t = cnt
        · rw [if_pos et] at hq
          obtain rfl : x + 115 + 3 * M + 1 = q := Option.some.inj hq
          exact ⟨by rw [kX]; exact X7.1, by omega⟩
        · rw [if_neg et, r7 _ (by omega)] at hq
          obtain ⟨z1, z2⟩ := hz t ht q hq
          exact ⟨by rw [kX, k7 q (by omega)]; exact z1, by omega⟩
    · obtain rfl : cnt = 14 := by omega
      refine ⟨fun _ => ⟨fun _ => ?_, fun z => absurd rfl z⟩, fun z => absurd (by decide) z⟩
      refine ref S7 _ (fun y hy => k7 y (by omega)) (fun y hy => l7 y (by omega)) (r7 _ (by omega)) (fun y hy => o7 y (by omega) (by omega) (by omega)) (fun S9 g9 C9 => ?_)
      have M9 : ML S9 (x + 94) := (hM.1.pt (S' := S7) (fun y hy => k7 y (by omega)) (fun y hy => l7 y (by omega)) (r7 _ (by omega))).same g9.1
      have w9 : ∀ j, j < 2935 → ji S9 (x + 95) j = v j := fun j hj => by
        rw [g9.2.2.2.2 j (by left; exact hj), o7 _ (by omega) (by omega) (by omega)]; exact hM.2 j
      have e19 : ji S9 (x + 95) (Int32.toNatClampNeg 1) = nI 14 := (w9 1 (by omega)).trans ec
      refine ⟨M9.1, _, M9.rr0, M9.kk1, by rw [M9.ll1]; exact jin_nI (n := 1) (by omega) (by omega), ?_⟩
      rw [e19]
      refine ⟨fun _ => ⟨rfl, M + 1, by omega, ?_⟩, fun z => absurd rfl z⟩
      have oo : ∀ y, y < x + 115 + 3 * M → y ≠ x + 60 → y ≠ x + 62 → y ≠ x + 94 → y ≠ x + 95 → ji S9 y = ji S y := fun y hy p q r s => (g9.2.1 y r s).trans (o7 y hy p q)
      refine h.more (c2 := 14) (w := fun j => ji S9 (x + 95) j) (by omega) ?_ (fun y hy => ?_) (fun y hy => ?_) (fun y hy _ => ?_) (fun y hy _ p q r s => oo y (by omega) p q r s) (fun j _ => ?_) ?_ ?_ (fun j hj => ?_) g9.2.2.2.1 (fun j => rfl) ((w9 1 (by omega)).trans ec) (fun j _ hj => w9 j (by omega)) ?_
      · rw [g9.1.2.2.2, n7, hjn]
      · rw [g9.1.1]; exact k7 y (by omega)
      · rw [g9.1.2.1]; exact l7 y (by omega)
      · rw [g9.1.2.2.1]; exact r7 y (by omega)
      · rw [oo _ (by omega) (by omega) (by omega) (by omega) (by omega)]
      · rw [g9.2.1 _ (by omega) (by omega)]; exact e67
      · rw [g9.2.1 _ (by omega) (by omega)]; exact t7
      · rw [g9.2.2.1 j hj, o7 _ (by omega) (by omega) (by omega)]
      · exact hT.move (by omega) (fun y hy => by rw [g9.1.1]; exact k7 y hy) (fun y hy => by rw [g9.1.2.1]; exact l7 y hy) (fun t _ => by rw [g9.1.2.2.1, r7 _ (by omega)]) (fun y p q => by rw [g9.1.2.2.1]; exact r7 y q) (fun y p q _ => oo y q (by omega) (by omega) (by omega) (by omega)) (fun j _ hj => w9 j hj)
  · -- a fault
    have T4 := TBc.tq g4
    refine ⟨by rw [g4.1.1]; exact hX.1, _, by rw [g4.1.2.2.1]; exact r5, T4.1.1, fun _ => ?_, fun z => absurd rfl z⟩
    rw [f2]
    have o5 : ∀ y, y ≠ x + 60 → y ≠ x + 62 → ji (jput S4 (x + 60) 1 0) y = ji S y := fun y p q => by rw [ji_put_ne _ _ _ _ p]; exact g4.2.1 y p q
    have s5 : jsame S (jput S4 (x + 60) 1 0) := g4.1.trans ⟨rfl, rfl, rfl, rfl⟩
    have t5 : ji (jput S4 (x + 60) 1 0) (x + 60) 1 = 0 := ji_put_same _ _ _ _
    generalize jput S4 (x + 60) 1 0 = S5 at o5 s5 t5 ⊢
    have hM5 : MR S5 (x + 94) v := ⟨hM.1.same s5, fun j => by rw [o5 (x + 94 + 1) (by omega) (by omega)]; exact hM.2 j⟩
    have hT5 : RB S5 x n b := ⟨hM5.1, n96, by rw [o5 _ (by omega) (by omega)]; exact a2, fun j hj => ⟨(hb j hj).1, by rw [o5 _ (by omega) (by omega)]; exact (hb j hj).2.2⟩⟩
    refine U_X11_text hM5.k ⟨hM5.k, c_X11_parse hM5 hT5 ec c14 (fun q => absurd (bad.symm.trans q) (by decide)) (fun _ S6 g6 f20 => ⟨fun z => absurd z (by decide), fun _ => ⟨by rw [g6.1.1]; exact hM5.k, ?_⟩⟩)⟩
    rw [f20]
    refine ⟨rfl, M, by omega, h.fault ec c14 (s5.trans g6.1) (fun y p q r s => (g6.2.1 y r s).trans (o5 y p q)) ?_ (fun j hj => ?_) g6.2.2.2.1 (fun j hj => ?_)⟩
    · rw [g6.2.1 _ (by omega) (by omega)]; exact t5
    · rw [g6.2.2.1 j hj, o5 _ (by omega) (by omega)]
    · rw [g6.2.2.2.2 j hj, o5 _ (by omega) (by omega)]
end jQText
end
section
/-! EVERY PAIR OF CALLS keeps the invariant, in the law's form -/
def jPq (E : jEnv) (M M' : jMd) (mc ms x : Nat) (As : List Value) (S : jM) (J : jM → Prop) : Prop := ∃ d, jRok room_1 d ∧ jFi E M d mc ms (.ref x :: As) S (fun _ S1 => jk S1 (x + 94) = 11 ∧ ∃ d', jRok room_1 d' ∧ jFi E M' d' 0 0 (.ref (x + 94) :: As) S1 (fun _ S2 => J S2))
theorem jPr.q {E : jEnv} {M M' : jMd} {mc ms x : Nat} {As : List Value} {S : jM} {J : jM → Prop} (h : jPr E M M' mc ms x As S J) : jPq E M M' mc ms x As S J := by
  obtain ⟨d, h1, h2⟩ := h
  refine ⟨d, h1, jFi_mono h2 (fun r S1 h3 => ⟨h3.1, ?_⟩)⟩
  obtain ⟨d2, h4, h5⟩ := h3.2
  exact ⟨d2, h4, jFi_mono h5 (fun r' S2 h6 => h6.2)⟩
section jVops
variable {E : jEnv} {S : jM} {x sz M : Nat} {v : Nat → Int32}
theorem v_master {a b c e : Int32} (h : IV S x sz M v) : jPr E mX10_master mX11_master 0 0 x [.int a, .int b, .int c, .int e] S (fun S2 => INV S2 x M) := ⟨_, jok _ rfl, jFi_mono (P_master h.1 (d := 0)) (fun r S1 h1 => ⟨h1.1, _, jok _ rfl, jFi_mono h1.2 (fun r' S2 h2 => h.po h2)⟩)⟩
theorem v_told {a b : Int32} (h : IV S x sz M v) : jPr E mX10_told mX11_told 0 0 x [.int a, .int b] S (fun S2 => INV S2 x M) := ⟨_, jok _ rfl, jFi_mono (Q_told h (d := 0)) (fun r S1 h1 => ⟨h1.1, _, jok _ rfl, h1.2⟩)⟩
theorem v_as {a b : Int32} (h : IV S x sz M v) : jPr E mX10_as mX11_as 0 0 x [.int a, .int b] S (fun S2 => INV S2 x M) := ⟨_, jok _ rfl, jFi_mono (P_as h.1 (d := 0)) (fun r S1 h1 => ⟨h1.1, _, jok _ rfl, jFi_mono h1.2 (fun r' S2 h2 => h.po h2)⟩)⟩
theorem v_turns {a b : Int32} (h : IV S x sz M v) : jPr E mX10_turns mX11_turns 0 0 x [.int a, .int b] S (fun S2 => INV S2 x M) := ⟨_, jok _ rfl, jFi_mono (P_turns h.1 (d := 0)) (fun r S1 h1 => ⟨h1.1, _, jok _ rfl, jFi_mono h1.2 (fun r' S2 h2 => h.po h2)⟩)⟩
theorem v_set {a b c : Int32} (h : IV S x sz M v) : jPr E mX10_set mX11_set 0 0 x [.int a, .int b, .int c] S (fun S2 => INV S2 x M) := ⟨_, jok _ rfl, jFi_mono (P_set h.1 (d := 0)) (fun r S1 h1 => ⟨h1.1, _, jok _ rfl, jFi_mono h1.2 (fun r' S2 h2 => h.po h2)⟩)⟩
theorem v_bars {a b c : Int32} (h : IV S x sz M v) : jPr E mX10_bars mX11_bars 0 0 x [.int a, .int b, .int c] S (fun S2 => INV S2 x M) := ⟨_, jok _ rfl, jFi_mono (P_bars h.1 (d := 0)) (fun r S1 h1 => ⟨h1.1, _, jok _ rfl, jFi_mono h1.2 (fun r' S2 h2 => h.po h2)⟩)⟩
theorem v_road {a b c : Int32} (h : IV S x sz M v) : jPr E mX10_road mX11_road 0 0 x [.int a, .int b, .int c] S (fun S2 => INV S2 x M) := ⟨_, jok _ rfl, jFi_mono (P_road h.1 (d := 0)) (fun r S1 h1 => ⟨h1.1, _, jok _ rfl, jFi_mono h1.2 (fun r' S2 h2 => h.po h2)⟩)⟩
theorem v_far {a b : Int32} (h : IV S x sz M v) : jPr E mX10_far mX11_far 0 0 x [.int a, .int b] S (fun S2 => INV S2 x M) := ⟨_, jok _ rfl, jFi_mono (P_far h.1 (d := 0)) (fun r S1 h1 => ⟨h1.1, _, jok _ rfl, jFi_mono h1.2 (fun r' S2 h2 => h.po h2)⟩)⟩
theorem v_deal {a : Int32} (h : IV S x sz M v) : jPr E mX10_deal mX11_deal 0 0 x [.int a] S (fun S2 => INV S2 x M) := ⟨_, jok _ rfl, jFi_mono (P_deal h.1 (d := 0)) (fun r S1 h1 => ⟨h1.1, _, jok _ rfl, jFi_mono h1.2 (fun r' S2 h2 => h.po h2)⟩)⟩
theorem v_seed {a : Int32} (h : IV S x sz M v) : jPr E mX10_seed mX11_seed 0 0 x [.int a] S (fun S2 => INV S2 x M) := ⟨_, jok _ rfl, jFi_mono (P_seed h.1 (d := 0)) (fun r S1 h1 => ⟨h1.1, _, jok _ rfl, jFi_mono h1.2 (fun r' S2 h2 => h.po h2)⟩)⟩
theorem v_apprentice {a : Int32} (h : IV S x sz M v) : jPr E mX10_apprentice mX11_apprentice 0 0 x [.int a] S (fun S2 => INV S2 x M) := ⟨_, jok _ rfl, jFi_mono (P_apprentice h.1 (d := 0)) (fun r S1 h1 => ⟨h1.1, _, jok _ rfl, jFi_mono h1.2 (fun r' S2 h2 => h.po h2)⟩)⟩
theorem v_has {a b : Int32} (h : IV S x sz M v) : jPr E mX10_has mX11_has 0 0 x [.int a, .int b] S (fun S2 => INV S2 x M) := ⟨_, jok _ rfl, jFi_mono (P_has h.1 (d := 0)) (fun r S1 h1 => ⟨h1.1, _, jok _ rfl, jFi_mono h1.2 (fun r' S2 h2 => h.po h2)⟩)⟩
theorem v_knows {a b : Int32} (h : IV S x sz M v) : jPr E mX10_knows mX11_knows 0 0 x [.int a, .int b] S (fun S2 => INV S2 x M) := ⟨_, jok _ rfl, jFi_mono (P_knows h.1 (d := 0)) (fun r S1 h1 => ⟨h1.1, _, jok _ rfl, jFi_mono h1.2 (fun r' S2 h2 => h.po h2)⟩)⟩
theorem v_go {a : Int32} (h : IV S x sz M v) : jPr E mX10_go mX11_go 0 0 x [.int a] S (fun S2 => INV S2 x M) := ⟨_, jok _ rfl, jFi_mono (P_go h.1 (d := 0)) (fun r S1 h1 => ⟨h1.1, _, jok _ rfl, jFi_mono h1.2 (fun r' S2 h2 => h.po h2)⟩)⟩
theorem v_learn {a : Int32} (h : IV S x sz M v) : jPr E mX10_learn mX11_learn 0 0 x [.int a] S (fun S2 => INV S2 x M) := ⟨_, jok _ rfl, jFi_mono (Q_learn h (d := 0)) (fun r S1 h1 => ⟨h1.1, _, jok _ rfl, h1.2⟩)⟩
theorem v_use {a : Int32} (h : IV S x sz M v) : jPr E mX10_use mX11_use 0 0 x [.int a] S (fun S2 => INV S2 x M) := ⟨_, jok _ rfl, jFi_mono (P_use h.1 (d := 0)) (fun r S1 h1 => ⟨h1.1, _, jok _ rfl, jFi_mono h1.2 (fun r' S2 h2 => h.po h2)⟩)⟩
theorem v_rests {a : Int32} (h : IV S x sz M v) : jPr E mX10_rests mX11_rests 0 0 x [.int a] S (fun S2 => INV S2 x M) := ⟨_, jok _ rfl, jFi_mono (P_rests h.1 (d := 0)) (fun r S1 h1 => ⟨h1.1, _, jok _ rfl, jFi_mono h1.2 (fun r' S2 h2 => h.po h2)⟩)⟩
theorem v_wants {a : Int32} (h : IV S x sz M v) : jPr E mX10_wants mX11_wants 0 0 x [.int a] S (fun S2 => INV S2 x M) := ⟨_, jok _ rfl, jFi_mono (P_wants h.1 (d := 0)) (fun r S1 h1 => ⟨h1.1, _, jok _ rfl, jFi_mono h1.2 (fun r' S2 h2 => h.po h2)⟩)⟩
theorem v_clear (h : IV S x sz M v) : jPr E mX10_clear mX11_clear 0 0 x [] S (fun S2 => INV S2 x M) := ⟨_, jok _ rfl, jFi_mono (P_clear h.1 (d := 0)) (fun r S1 h1 => ⟨h1.1, _, jok _ rfl, jFi_mono h1.2 (fun r' S2 h2 => h.po h2)⟩)⟩
theorem v_made (h : IV S x sz M v) : jPr E mX10_made mX11_made 0 0 x [] S (fun S2 => INV S2 x M) := ⟨_, jok _ rfl, jFi_mono (Q_made h (d := 0)) (fun r S1 h1 => ⟨h1.1, _, jok _ rfl, h1.2⟩)⟩
theorem v_soonest {a : Int32} (h : IV S x sz M v) : jPq E mX10_soonest mX11_soonest 0 0 x [.int a] S (fun S2 => INV S2 x M) := ⟨_, jok _ rfl, jFi_mono (Q_soonest h (d := 0)) (fun r S1 h1 => ⟨h1.1, _, jok _ rfl, h1.2⟩)⟩
theorem v_together {a : Int32} (h : IV S x sz M v) : jPr E mX10_together mX11_together 0 0 x [.int a] S (fun S2 => INV S2 x M) := ⟨_, jok _ rfl, jFi_mono (Q_together h (d := 0)) (fun r S1 h1 => ⟨h1.1, _, jok _ rfl, h1.2⟩)⟩
theorem v_never (h : IV S x sz M v) : jPr E mX10_never mX11_never 0 0 x [] S (fun S2 => INV S2 x M) := ⟨_, jok _ rfl, jFi_mono (Q_never h (d := 0)) (fun r S1 h1 => ⟨h1.1, _, jok _ rfl, h1.2⟩)⟩
theorem v_last {a : Int32} (h : IV S x sz M v) : jPr E mX10_last mX11_last 0 0 x [.int a] S (fun S2 => INV S2 x M) := ⟨_, jok _ rfl, jFi_mono (P_last h.1 (d := 0)) (fun r S1 h1 => ⟨h1.1, _, jok _ rfl, jFi_mono h1.2 (fun r' S2 h2 => h.po h2)⟩)⟩
theorem v_years {a : Int32} (h : IV S x sz M v) : jPr E mX10_years mX11_years 0 0 x [.int a] S (fun S2 => INV S2 x M) := ⟨_, jok _ rfl, jFi_mono (P_years h.1 (d := 0)) (fun r S1 h1 => ⟨h1.1, _, jok _ rfl, jFi_mono h1.2 (fun r' S2 h2 => h.po h2)⟩)⟩
theorem v_gone {a : Int32} (h : IV S x sz M v) : jPr E mX10_gone mX11_gone 0 0 x [.int a] S (fun S2 => INV S2 x M) := ⟨_, jok _ rfl, jFi_mono (P_gone h.1 h.2.2.1 h.2.1.2.1.2.2.1 (d := 0)) (fun r S1 h1 => ⟨h1.1, _, jok _ rfl, jFi_mono h1.2 (fun r' S2 h2 => h.po h2)⟩)⟩
theorem v_fresh (h : IV S x sz M v) : jPr E mX10_fresh mX11_fresh 0 0 x [] S (fun S2 => INV S2 x M) := ⟨_, jok _ rfl, jFi_mono (P_fresh h.1 (d := 0)) (fun r S1 h1 => ⟨h1.1, _, jok _ rfl, jFi_mono h1.2 (fun r' S2 h2 => h.po h2)⟩)⟩
theorem v_cut {a b : Int32} (h : IV S x sz M v) : jPr E mX10_cut mX11_cut 0 0 x [.int a, .int b] S (fun S2 => INV S2 x M) := ⟨_, jok _ rfl, jFi_mono (Q_cut h (d := 0)) (fun r S1 h1 => ⟨h1.1, _, jok _ rfl, h1.2⟩)⟩
theorem v_fame {a : Int32} (h : IV S x sz M v) : jPr E mX10_fame mX11_fame 0 0 x [.int a] S (fun S2 => INV S2 x M) := ⟨_, jok _ rfl, jFi_mono (Q_fame h (d := 0)) (fun r S1 h1 => ⟨h1.1, _, jok _ rfl, h1.2⟩)⟩
theorem v_fine (h : IV S x sz M v) : jPr E mX10_fine mX11_fine 0 0 x [] S (fun S2 => INV S2 x M) := ⟨_, jok _ rfl, jFi_mono (Q_fine h (d := 0)) (fun r S1 h1 => ⟨h1.1, _, jok _ rfl, h1.2⟩)⟩
theorem v_feed {a b c : Int32} (h : IV S x sz M v) : jPr E mX10_feed mX11_feed 0 0 x [.int a, .int b, .int c] S (fun S2 => INV S2 x M) := ⟨_, jok _ rfl, jFi_mono (Q_feed h (d := 0)) (fun r S1 h1 => ⟨h1.1, _, jok _ rfl, h1.2⟩)⟩
theorem v_trim {a : Int32} (h : IV S x sz M v) : jPr E mX10_trim mX11_trim 0 0 x [.int a] S (fun S2 => INV S2 x M) := ⟨_, jok _ rfl, jFi_mono (Q_trim h (d := 0)) (fun r S1 h1 => ⟨h1.1, _, jok _ rfl, h1.2⟩)⟩
theorem v_text (h : IV S x sz M v) : jPr E mX10_text mX11_text 3 196 x [] S (fun S2 => ∃ M', M' ≤ M + 1 ∧ INV S2 x M') := ⟨_, jok _ rfl, jFi_mono (Q_text h (d := 0)) (fun r S1 h1 => ⟨h1.1, _, jok _ rfl, h1.2⟩)⟩
theorem v_textTold {a b : Int32} (h : IV S x sz M v) : jPr E mX10_textTold mX11_textTold 0 0 x [.int a, .int b] S (fun S2 => INV S2 x M) := ⟨_, jok _ rfl, jFi_mono (Q_textTold h (d := 0)) (fun r S1 h1 => ⟨h1.1, _, jok _ rfl, h1.2⟩)⟩
theorem v_why {a : Int32} (h : IV S x sz M v) : jPr E mX10_why mX11_why 0 0 x [.int a] S (fun S2 => INV S2 x M) := ⟨_, jok _ rfl, jFi_mono (Q_why h (d := 0)) (fun r S1 h1 => ⟨h1.1, _, jok _ rfl, h1.2⟩)⟩
theorem v_sheet {a b c : Int32} (h : IV S x sz M v) : jPr E mX10_sheet mX11_sheet 0 0 x [.int a, .int b, .int c] S (fun S2 => INV S2 x M) := ⟨_, jok _ rfl, jFi_mono (Q_sheet h (d := 0)) (fun r S1 h1 => ⟨h1.1, _, jok _ rfl, h1.2⟩)⟩
theorem v_mark {a b c : Int32} (h : IV S x sz M v) : jPr E mX10_mark mX11_mark 0 0 x [.int a, .int b, .int c] S (fun S2 => INV S2 x M) := ⟨_, jok _ rfl, jFi_mono (Q_mark h (d := 0)) (fun r S1 h1 => ⟨h1.1, _, jok _ rfl, h1.2⟩)⟩
theorem v_pour {a : Int32} (h : IV S x sz M v) : jPr E mX10_pour mX11_pour 0 0 x [.int a] S (fun S2 => INV S2 x M) := ⟨_, jok _ rfl, jFi_mono (Q_pour h (d := 0)) (fun r S1 h1 => ⟨h1.1, _, jok _ rfl, h1.2⟩)⟩
theorem v_reads {a : Int32} (h : IV S x sz M v) : jPr E mX10_reads mX11_reads 0 0 x [.int a] S (fun S2 => INV S2 x M) := ⟨_, jok _ rfl, jFi_mono (Q_reads h (d := 0)) (fun r S1 h1 => ⟨h1.1, _, jok _ rfl, h1.2⟩)⟩
theorem v_copy {a b c e f : Int32} (h : IV S x sz M v) : jPr E mX10_copy mX11_copy 0 0 x [.int a, .int b, .int c, .int e, .int f] S (fun S2 => INV S2 x M) := ⟨_, jok _ rfl, jFi_mono (Q_copy h (d := 0)) (fun r S1 h1 => ⟨h1.1, _, jok _ rfl, h1.2⟩)⟩
theorem v_lay {a b c : Int32} (h : IV S x sz M v) : jPr E mX10_lay mX11_lay 0 0 x [.int a, .int b, .int c] S (fun S2 => INV S2 x M) := ⟨_, jok _ rfl, jFi_mono (Q_lay h (d := 0)) (fun r S1 h1 => ⟨h1.1, _, jok _ rfl, h1.2⟩)⟩
theorem v_ask {a b : Int32} (h : IV S x sz M v) : jPr E mX10_ask mX11_ask 0 0 x [.int a, .int b] S (fun S2 => INV S2 x M) := ⟨_, jok _ rfl, jFi_mono (Q_ask h (d := 0)) (fun r S1 h1 => ⟨h1.1, _, jok _ rfl, h1.2⟩)⟩
theorem v_item {a b : Int32} (h : IV S x sz M v) : jPr E mX10_item mX11_item 0 0 x [.int a, .int b] S (fun S2 => INV S2 x M) := ⟨_, jok _ rfl, jFi_mono (Q_item h (d := 0)) (fun r S1 h1 => ⟨h1.1, _, jok _ rfl, h1.2⟩)⟩
theorem v_rest {a b : Int32} (h : IV S x sz M v) : jPr E mX10_rest mX11_rest 0 0 x [.int a, .int b] S (fun S2 => INV S2 x M) := ⟨_, jok _ rfl, jFi_mono (Q_rest h (d := 0)) (fun r S1 h1 => ⟨h1.1, _, jok _ rfl, h1.2⟩)⟩
theorem v_tell {a : Int32} (h : IV S x sz M v) : jPr E mX10_tell mX11_tell 0 0 x [.int a] S (fun S2 => INV S2 x M) := ⟨_, jok _ rfl, jFi_mono (Q_tell h (d := 0)) (fun r S1 h1 => ⟨h1.1, _, jok _ rfl, h1.2⟩)⟩
theorem v_check {a : Int32} (h : IV S x sz M v) : jPr E mX10_check mX11_check 0 0 x [.int a] S (fun S2 => INV S2 x M) := ⟨_, jok _ rfl, jFi_mono (Q_check h (d := 0)) (fun r S1 h1 => ⟨h1.1, _, jok _ rfl, h1.2⟩)⟩
theorem v_keep (h : IV S x sz M v) : jPr E mX10_keep mX11_keep 0 0 x [] S (fun S2 => INV S2 x M) := ⟨_, jok _ rfl, jFi_mono (Q_keep h (d := 0)) (fun r S1 h1 => ⟨h1.1, _, jok _ rfl, h1.2⟩)⟩
theorem v_back (h : IV S x sz M v) : jPr E mX10_back mX11_back 0 0 x [] S (fun S2 => INV S2 x M) := ⟨_, jok _ rfl, jFi_mono (Q_back h (d := 0)) (fun r S1 h1 => ⟨h1.1, _, jok _ rfl, h1.2⟩)⟩
theorem v_count {a : Int32} (h : IV S x sz M v) : jPr E mX10_count mX11_count 0 0 x [.int a] S (fun S2 => INV S2 x M) := ⟨_, jok _ rfl, jFi_mono (P_count h.1 h.2.1.2.1.2.2.2.2.1 h.2.1.2.2.2.1.1 (by obtain ⟨w, -, a, b, -⟩ := h.2.2.2.2.2.2.2.2.1; exact a.trans b.symm) (by obtain ⟨w, -, a, b, -⟩ := h.2.2.2.2.2.2.2.2.2; exact a.trans b.symm) (d := 0)) (fun r S1 h1 => ⟨h1.1, _, jok _ rfl, jFi_mono h1.2 (fun r' S2 h2 => h.po h2)⟩)⟩
end jVops
end
section
/-! THE LAW'S LOOP over all calls -/
section jLoop
variable {E : jEnv} {nm : String} {xs : Nat → Int32} {b x L : Nat}
theorem law_pr {M M' : jMd} {mc ms : Nat} {As : List Value} {S : jM} {J P : jM → Prop} {R : Prop} (h : jPr E M M' mc ms x As S J) (hR : R) (hP : ∀ S2, J S2 → P S2) : ∃ d, jRok room_1 d ∧ jFi E M d mc ms (.ref x :: As) S (fun r S1 => jk S1 (x + 94) = 11 ∧ R ∧ ∃ d, jRok room_1 d ∧ jFi E M' d 0 0 (.ref (x + 94) :: As) S1 (fun r' S2 => (r = r' → P S2) ∧ (¬ r = r' → False))) := by
  obtain ⟨d, hd, h⟩ := h
  refine ⟨d, hd, jFi_mono h (fun r S1 h1 => ?_)⟩
  obtain ⟨k1, d', hd', h2⟩ := h1
  exact ⟨k1, hR, d', hd', jFi_mono h2 (fun r' S2 h3 => ⟨fun _ => hP S2 h3.2, fun c => c h3.1⟩)⟩
theorem law_pq {M M' : jMd} {mc ms : Nat} {As : List Value} {S : jM} {J P : jM → Prop} {R : Prop} (h : jPq E M M' mc ms x As S J) (hR : R) (hP : ∀ S2, J S2 → P S2) : ∃ d, jRok room_1 d ∧ jFi E M d mc ms (.ref x :: As) S (fun _ S1 => jk S1 (x + 94) = 11 ∧ R ∧ ∃ d, jRok room_1 d ∧ jFi E M' d 0 0 (.ref (x + 94) :: As) S1 (fun _ S2 => P S2)) := by
  obtain ⟨d, hd, h⟩ := h
  refine ⟨d, hd, jFi_mono h (fun r S1 h1 => ?_)⟩
  obtain ⟨k1, d', hd', h2⟩ := h1
  exact ⟨k1, hR, d', hd', jFi_mono h2 (fun r' S2 h3 => hP S2 h3)⟩
theorem law_past {i : Nat} (hi : i < 1000) (h : L < i + 6) : nI L - 6 < nI i := by
  by_cases q : 6 ≤ L
  · rw [show (6 : Int32) = nI 6 from rfl, nI_sub q]; exact nI_lt (by omega) (by omega)
  · refine Int32.lt_of_lt_of_le ?_ (nI_pos' (n := i) (by omega))
    rcases (show L = 0 ∨ L = 1 ∨ L = 2 ∨ L = 3 ∨ L = 4 ∨ L = 5 by omega) with rfl | rfl | rfl | rfl | rfl | rfl <;> decide
theorem law_in {i t : Nat} (hL : L ≤ 384) (h : i + t < L) : vp_in (nI i + nI t) L := by
  rw [nI_add]; exact jin_nI h (by omega)
set_option maxHeartbeats 4000000 in
set_option maxRecDepth 100000 in
theorem law_loop (hL : L ≤ 384) : ∀ (n j : Nat) (S : jM) (M c k : Nat), L < 6 * j + 6 * n + 6 → 6 * j ≤ 384 → INV S x M → c ≤ 115 + 3 * j → k ≤ 11534 + 196 * j → L_L_law_18 E nm L xs b x (x + 94) (nI (6 * j)) S c k
  | 0, j, S, M, c, k, hn, hj, hI, hc, hk => T_L_law_18 ⟨fun _ => ⟨by omega, by omega⟩, fun e => absurd (law_past (by omega) (by omega)) e⟩
  | n + 1, j, S, M, c, k, hn, hj, hI, hc, hk => by
    by_cases q : L < 6 * j + 6
    · exact T_L_law_18 ⟨fun _ => ⟨by omega, by omega⟩, fun e => absurd (law_past (by omega) q) e⟩
    have q : 6 * j + 6 ≤ L := Nat.le_of_not_lt q
    have nx : ∀ (S2 : jM) (M2 c2 k2 : Nat), INV S2 x M2 → c2 ≤ 115 + 3 * (j + 1) → k2 ≤ 11534 + 196 * (j + 1) → L_L_law_18 E nm L xs b x (x + 94) (nI (6 * j) + 6) S2 c2 k2 := by
      intro S2 M2 c2 k2 h2 hc2 hk2
      rw [show (6 : Int32) = nI 6 from rfl, nI_add, show 6 * j + 6 = 6 * (j + 1) by omega]
      exact law_loop hL n (j + 1) S2 M2 c2 k2 (by omega) (by omega) h2 hc2 hk2
    obtain ⟨sz, v, h⟩ := hI
    have w0 : vp_in (nI (6 * j)) L := jin_nI (by omega) (by omega)
    have w1 : vp_in (nI (6 * j) + 1) L := law_in (t := 1) hL (by omega)
    have w2 : vp_in (nI (6 * j) + 2) L := law_in (t := 2) hL (by omega)
    have w3 : vp_in (nI (6 * j) + 3) L := law_in (t := 3) hL (by omega)
    have w4 : vp_in (nI (6 * j) + 4) L := law_in (t := 4) hL (by omega)
    have w5 : vp_in (nI (6 * j) + 5) L := law_in (t := 5) hL (by omega)
    have rm : c + 0 ≤ 600000 ∧ k + 0 ≤ 7302250 := ⟨by omega, by omega⟩
    have rt : c + 3 ≤ 600000 ∧ k + 196 ≤ 7302250 := ⟨by omega, by omega⟩
    exact T_L_law_18 ⟨fun _ => ⟨by omega, by omega⟩, fun _ => ⟨w0, fun _ => ⟨w1, w2, w3, w4, h.2.1.1, rm, law_pq (v_master h).q rm (fun S2 h2 => nx S2 M _ _ h2 (by omega) (by omega))⟩, fun _ => ⟨w1, w2, h.2.1.1, rm, law_pq (v_told h).q rm (fun S2 h2 => nx S2 M _ _ h2 (by omega) (by omega))⟩, fun _ => ⟨w1, w2, h.2.1.1, rm, law_pq (v_as h).q rm (fun S2 h2 => nx S2 M _ _ h2 (by omega) (by omega))⟩, fun _ => ⟨w1, w2, h.2.1.1, rm, law_pq (v_turns h).q rm (fun S2 h2 => nx S2 M _ _ h2 (by omega) (by omega))⟩, fun _ => ⟨w1, w2, w3, h.2.1.1, rm, law_pq (v_set h).q rm (fun S2 h2 => nx S2 M _ _ h2 (by omega) (by omega))⟩, fun _ => ⟨w1, w2, w3, h.2.1.1, rm, law_pq (v_bars h).q rm (fun S2 h2 => nx S2 M _ _ h2 (by omega) (by omega))⟩, fun _ => ⟨w1, w2, w3, h.2.1.1, rm, law_pq (v_road h).q rm (fun S2 h2 => nx S2 M _ _ h2 (by omega) (by omega))⟩, fun _ => ⟨w1, w2, h.2.1.1, rm, law_pq (v_far h).q rm (fun S2 h2 => nx S2 M _ _ h2 (by omega) (by omega))⟩, fun _ => ⟨w1, h.2.1.1, rm, law_pq (v_deal h).q rm (fun S2 h2 => nx S2 M _ _ h2 (by omega) (by omega))⟩, fun _ => ⟨w1, h.2.1.1, rm, law_pq (v_seed h).q rm (fun S2 h2 => nx S2 M _ _ h2 (by omega) (by omega))⟩, fun _ => ⟨w1, h.2.1.1, rm, law_pq (v_apprentice h).q rm (fun S2 h2 => nx S2 M _ _ h2 (by omega) (by omega))⟩, fun _ => ⟨w1, w2, h.2.1.1, rm, law_pq (v_has h).q rm (fun S2 h2 => nx S2 M _ _ h2 (by omega) (by omega))⟩, fun _ => ⟨w1, w2, h.2.1.1, rm, law_pq (v_knows h).q rm (fun S2 h2 => nx S2 M _ _ h2 (by omega) (by omega))⟩, fun _ => ⟨w1, h.2.1.1, rm, law_pq (v_go h).q rm (fun S2 h2 => nx S2 M _ _ h2 (by omega) (by omega))⟩, fun _ => ⟨w1, h.2.1.1, rm, law_pq (v_learn h).q rm (fun S2 h2 => nx S2 M _ _ h2 (by omega) (by omega))⟩, fun _ => ⟨w1, h.2.1.1, rm, law_pq (v_use h).q rm (fun S2 h2 => nx S2 M _ _ h2 (by omega) (by omega))⟩, fun _ => ⟨w1, h.2.1.1, rm, law_pq (v_rests h).q rm (fun S2 h2 => nx S2 M _ _ h2 (by omega) (by omega))⟩, fun _ => ⟨w1, h.2.1.1, rm, law_pq (v_wants h).q rm (fun S2 h2 => nx S2 M _ _ h2 (by omega) (by omega))⟩, fun _ => ⟨h.2.1.1, rm, law_pq (v_clear h).q rm (fun S2 h2 => nx S2 M _ _ h2 (by omega) (by omega))⟩, fun _ => ⟨h.2.1.1, rm, law_pq (v_made h).q rm (fun S2 h2 => nx S2 M _ _ h2 (by omega) (by omega))⟩, fun _ => ⟨w1, h.2.1.1, rm, law_pq (v_soonest h) rm (fun S2 h2 => nx S2 M _ _ h2 (by omega) (by omega))⟩, fun _ => ⟨w1, h.2.1.1, rm, law_pq (v_together h).q rm (fun S2 h2 => nx S2 M _ _ h2 (by omega) (by omega))⟩, fun _ => ⟨h.2.1.1, rm, law_pq (v_never h).q rm (fun S2 h2 => nx S2 M _ _ h2 (by omega) (by omega))⟩, fun _ => ⟨w1, h.2.1.1, rm, law_pq (v_last h).q rm (fun S2 h2 => nx S2 M _ _ h2 (by omega) (by omega))⟩, fun _ => ⟨w1, h.2.1.1, rm, law_pq (v_years h).q rm (fun S2 h2 => nx S2 M _ _ h2 (by omega) (by omega))⟩, fun _ => ⟨w1, h.2.1.1, rm, law_pq (v_gone h).q rm (fun S2 h2 => nx S2 M _ _ h2 (by omega) (by omega))⟩, fun _ => ⟨h.2.1.1, rm, law_pq (v_fresh h).q rm (fun S2 h2 => nx S2 M _ _ h2 (by omega) (by omega))⟩, fun _ => ⟨w1, w2, h.2.1.1, rm, law_pq (v_cut h).q rm (fun S2 h2 => nx S2 M _ _ h2 (by omega) (by omega))⟩, fun _ => ⟨w1, h.2.1.1, rm, law_pq (v_fame h).q rm (fun S2 h2 => nx S2 M _ _ h2 (by omega) (by omega))⟩, fun _ => ⟨h.2.1.1, rm, law_pq (v_fine h).q rm (fun S2 h2 => nx S2 M _ _ h2 (by omega) (by omega))⟩, fun _ => ⟨w1, w2, w3, h.2.1.1, rm, law_pq (v_feed h).q rm (fun S2 h2 => nx S2 M _ _ h2 (by omega) (by omega))⟩, fun _ => ⟨w1, h.2.1.1, rm, law_pq (v_trim h).q rm (fun S2 h2 => nx S2 M _ _ h2 (by omega) (by omega))⟩, fun _ => ⟨h.2.1.1, rt, law_pq (v_text h).q rt (fun S2 ⟨M2, _, h2⟩ => nx S2 M2 _ _ h2 (by omega) (by omega))⟩, fun _ => ⟨w1, w2, h.2.1.1, rm, law_pq (v_textTold h).q rm (fun S2 h2 => nx S2 M _ _ h2 (by omega) (by omega))⟩, fun _ => ⟨w1, h.2.1.1, rm, law_pq (v_why h).q rm (fun S2 h2 => nx S2 M _ _ h2 (by omega) (by omega))⟩, fun _ => ⟨w1, w2, w3, h.2.1.1, rm, law_pq (v_sheet h).q rm (fun S2 h2 => nx S2 M _ _ h2 (by omega) (by omega))⟩, fun _ => ⟨w1, w2, w3, h.2.1.1, rm, law_pq (v_mark h).q rm (fun S2 h2 => nx S2 M _ _ h2 (by omega) (by omega))⟩, fun _ => ⟨w1, h.2.1.1, rm, law_pq (v_pour h).q rm (fun S2 h2 => nx S2 M _ _ h2 (by omega) (by omega))⟩, fun _ => ⟨w1, h.2.1.1, rm, law_pq (v_reads h).q rm (fun S2 h2 => nx S2 M _ _ h2 (by omega) (by omega))⟩, fun _ => ⟨w1, w2, w3, w4, w5, h.2.1.1, rm, law_pq (v_copy h).q rm (fun S2 h2 => nx S2 M _ _ h2 (by omega) (by omega))⟩, fun _ => ⟨w1, w2, w3, h.2.1.1, rm, law_pq (v_lay h).q rm (fun S2 h2 => nx S2 M _ _ h2 (by omega) (by omega))⟩, fun _ => ⟨w1, w2, h.2.1.1, rm, law_pq (v_ask h).q rm (fun S2 h2 => nx S2 M _ _ h2 (by omega) (by omega))⟩, fun _ => ⟨w1, w2, h.2.1.1, rm, law_pq (v_item h).q rm (fun S2 h2 => nx S2 M _ _ h2 (by omega) (by omega))⟩, fun _ => ⟨w1, w2, h.2.1.1, rm, law_pq (v_rest h).q rm (fun S2 h2 => nx S2 M _ _ h2 (by omega) (by omega))⟩, fun _ => ⟨w1, h.2.1.1, rm, law_pq (v_tell h).q rm (fun S2 h2 => nx S2 M _ _ h2 (by omega) (by omega))⟩, fun _ => ⟨w1, h.2.1.1, rm, law_pq (v_check h).q rm (fun S2 h2 => nx S2 M _ _ h2 (by omega) (by omega))⟩, fun _ => ⟨h.2.1.1, rm, law_pq (v_keep h).q rm (fun S2 h2 => nx S2 M _ _ h2 (by omega) (by omega))⟩, fun _ => ⟨h.2.1.1, rm, law_pq (v_back h).q rm (fun S2 h2 => nx S2 M _ _ h2 (by omega) (by omega))⟩, fun _ => ⟨w1, h.2.1.1, rm, law_pr (v_count h) rm (fun S2 h2 => nx S2 M _ _ h2 (by omega) (by omega))⟩, fun _ _ _ _ _ _ _ _ _ _ _ _ _ _ _ _ _ _ _ _ _ _ _ _ _ _ _ _ _ _ _ _ _ _ _ _ _ _ _ _ _ _ _ _ _ _ _ _ _ => nx S M _ _ ⟨sz, v, h⟩ (by omega) (by omega)⟩⟩
theorem law_new {S : jM} (hq : jn S = x) (h : ∀ S', FR S' x → jn S' = x + 115 → L_L_law_18 E nm L xs b x (x + 94) 0 S' 115 11534) : jX E (mLw nm) room_1 (jZL E b L xs) 0 [(0, .ref b)] [] S 0 0 := by
  refine T_L_law (fun q1 e1 => ?_)
  obtain rfl : q1 = x := e1.trans hq
  refine ⟨1000, jok _ rfl, c_X10_init (d := 996) (S := jnew S 10 0) (by rw [jk_newE, if_pos hq.symm]) (by show jn S + 1 = _; rw [hq]) (by rw [ji_newE, if_pos hq.symm]) (fun S2 n2 s2 cl cn q3 e3 => ?_)⟩
  obtain rfl : q3 = q1 + 94 := e3.trans n2
  refine ⟨1000, jok _ rfl, c_X11_init (d := 999) (S := jnew S2 11 0) (by rw [jk_newE, if_pos n2.symm]) (by show jn S2 + 1 = _; rw [n2]) (by rw [ji_newE, if_pos n2.symm]) (fun S4 n4 s4 ml mn => ?_)⟩
  have g : ∀ y, q1 ≤ y → y < q1 + 94 → jcs S2 S4 y := fun y p q => (jcs.new (by rw [n2]; omega)).trans (s4 y q)
  exact h S4 ⟨cl.grow g, cn.grow g, ml, mn⟩ n4
theorem law_start {S : jM} (hL : L ≤ 384) (h : FR S x) (hn : jn S = x + 115) : L_L_law_18 E nm L xs b x (x + 94) 0 S 115 11534 := by
  have h1 := law_loop (E := E) (nm := nm) (xs := xs) (b := b) hL 64 0 S 0 115 11534 (by omega) (by omega) ⟨0, _, IV_start h hn⟩ (by omega) (by omega)
  rw [show nI (6 * 0) = 0 from rfl] at h1
  exact h1
end jLoop
end
