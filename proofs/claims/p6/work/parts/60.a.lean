section
/-! TEXTS on both sides: their words as numbers (a number for itself, names from 10000, signs from 20000), and what they give -/
/-- how deep the pile is ahead of word i -/
def dpt (cw : Nat → Nat) : Nat → Nat
  | 0 => 0
  | i + 1 => if cw i < 20000 then dpt cw i + 1 else if cw i = 20033 then dpt cw i else dpt cw i - 1
/-- the pile ahead of word i -/
def fvt (vals : Nat → Int32) (cw : Nat → Nat) : Nat → Nat → Int32
  | 0 => fun _ => 0
  | i + 1 => if cw i < 20000 then upd (fvt vals cw i) (dpt cw i) (if cw i < 10000 then nI (cw i) else vals (cw i - 10000))
    else if cw i = 20033 then upd (fvt vals cw i) (dpt cw i - 1) (if fvt vals cw i (dpt cw i - 1) = 0 then 1 else 0)
    else upd (fvt vals cw i) (dpt cw i - 2) (jjoinM (nI (cw i - 20000)) (fvt vals cw i (dpt cw i - 2)) (fvt vals cw i (dpt cw i - 1)))
def sgn : List Nat := [124, 38, 60, 61, 62, 43, 45, 42, 47]
def nmc (key : Nat) : Nat := if key = 0 then 3 else 2
def WFw (key w : Nat) : Prop := w < 10000 ∨ (∃ i, i < nmc key ∧ w = 10000 + i) ∨ w = 20033 ∨ ∃ c, c ∈ sgn ∧ w = 20000 + c
def WFt (key n ops : Nat) (cw : Nat → Nat) : Prop := (∀ i, i < n → WFw key (cw i)) ∧ (∀ i, i < n → cw i = 20033 → 1 ≤ dpt cw i) ∧ (∀ i, i < n → 20000 ≤ cw i → cw i ≠ 20033 → 2 ≤ dpt cw i) ∧ dpt cw n = 1 ∧ (∀ i, i ≤ n → dpt cw i ≤ ops) ∧ ops ≤ 96 ∧ n ≤ 96
def whatw (w : Nat) : Nat := if w < 10000 then 0 else if w < 20000 then 1 else 2
def letw (key i : Nat) : Nat := if key = 0 then (if i = 0 then 107 else if i = 1 then 103 else 97) else if key = 1 then (if i = 0 then 102 else 97) else (if i = 0 then 99 else 100)
def valw (key w : Nat) : Nat := if w < 10000 then w else if w < 20000 then letw key (w - 10000) else w - 20000
/-- the class's TEXT: its words at q, itself at q + 1, its pile at q + 2 -/
def TxC (S : jM) (q key n ops : Nat) (cw : Nat → Nat) : Prop := jk S (q + 1) = 9 ∧ jr S (q + 1) 2 = some q ∧ jr S (q + 1) 3 = some (q + 2) ∧ jk S q = 12 ∧ jl S q = n ∧ jk S (q + 2) = 12 ∧ jl S (q + 2) = (if ops = 0 then 1 else ops) ∧ ji S (q + 1) 0 = nI key ∧ ji S (q + 1) 1 = nI ops ∧ ∀ i, i < n → ji S q i = nI (cw i)
/-- the reference's TEXT t -/
def TxM (v : Nat → Int32) (t key n ops : Nat) (cw : Nat → Nat) : Prop := v (135 + 200 * t) = nI key ∧ v (136 + 200 * t) = nI ops ∧ v (137 + 200 * t) = nI n ∧ ∀ i, i < n → v (139 + 200 * t + 2 * i) = nI (whatw (cw i)) ∧ v (140 + 200 * t + 2 * i) = nI (valw key (cw i))
theorem WFw.lt {key w : Nat} (h : WFw key w) : w < 20125 := by
  rcases h with h | ⟨i, hi, rfl⟩ | rfl | ⟨c, hc, rfl⟩
  · omega
  · unfold nmc at hi; split at hi <;> omega
  · omega
  · have : c ≤ 124 := by
      have hd : ∀ c ∈ sgn, c ≤ 124 := by decide
      exact hd c hc
    omega
theorem jdivm1 (x : Int32) : x / (-1) = -x := by
  apply Int32.toInt_inj.mp
  have e : (-1 : Int32).toInt = -1 := by decide
  rw [Int32.toInt_div, e, Int.tdiv_neg, Int.tdiv_one, ← Int32.toInt_neg]
/-- both sides join alike -/
theorem jjoin_eq {c : Nat} (hc : c ∈ sgn) (a b : Int32) : jjoinC (nI c) a b = jjoinM (nI c) a b := by
  have hd : c = 124 ∨ c = 38 ∨ c = 60 ∨ c = 61 ∨ c = 62 ∨ c = 43 ∨ c = 45 ∨ c = 42 ∨ c = 47 := by
    simpa [sgn] using hc
  rcases hd with rfl | rfl | rfl | rfl | rfl | rfl | rfl | rfl | rfl
  all_goals try rfl
  show (if b = 0 then 0 else a / b) = (if b = 0 then 0 else if b = (-1) then -a else a / b)
  by_cases h0 : b = 0
  · rw [if_pos h0, if_pos h0]
  · rw [if_neg h0, if_neg h0]
    by_cases h1 : b = -1
    · rw [if_pos h1, h1, jdivm1]
    · rw [if_neg h1]
def jv3 (a b c : Int32) : Nat → Int32 := fun i => if i = 0 then a else if i = 1 then b else c
theorem jvalof_eq {key w : Nat} {a b c : Int32} (h : WFw key w) (hw : w < 20000) : jvalof (nI w) a b c = if w < 10000 then nI w else jv3 a b c (w - 10000) := by
  have n0 : w ≠ 10000 → ¬ nI w = 10000 := fun h => nI_ne (b := 10000) (by omega) (by omega) h
  have n1 : w ≠ 10001 → ¬ nI w = 10001 := fun h => nI_ne (b := 10001) (by omega) (by omega) h
  have n2 : w ≠ 10002 → ¬ nI w = 10002 := fun h => nI_ne (b := 10002) (by omega) (by omega) h
  unfold jvalof
  by_cases h1 : w < 10000
  · rw [if_pos h1, if_neg (n0 (by omega)), if_neg (n1 (by omega)), if_neg (n2 (by omega))]
  · rw [if_neg h1]
    rcases h with h | ⟨i, hi, e⟩ | h | ⟨c, hc, h⟩
    · omega
    · have hi3 : i < 3 := by unfold nmc at hi; split at hi <;> omega
      rw [show w - 10000 = i by omega]
      unfold jv3
      rcases (show i = 0 ∨ i = 1 ∨ i = 2 by omega) with rfl | rfl | rfl
      · rw [if_pos (by rw [e]; rfl), if_pos rfl]
      · rw [if_neg (n0 (by omega)), if_pos (by rw [e]; rfl), if_neg (by omega), if_pos rfl]
      · rw [if_neg (n0 (by omega)), if_neg (n1 (by omega)), if_pos (by rw [e]; rfl), if_neg (by omega), if_neg (by omega)]
    · omega
    · omega
section jTxt1
variable {E : jEnv} {d : Nat} {S : jM} {q key n ops m t : Nat} {cw : Nat → Nat} {v : Nat → Int32}
theorem TxC.keep {S' : jM} {lo hi : Nat} (h : TxC S q key n ops cw) (hc : jch S S' lo hi) (hd : q + 2 ≤ lo ∨ hi ≤ q) : TxC S' q key n ops cw := by
  obtain ⟨a1, a2, a3, a4, a5, a6, a7, a8, a9, a10⟩ := h
  obtain ⟨k, l, r, -⟩ := hc.1
  unfold TxC
  rw [k, l, r, hc.2 (q + 1) (by omega), hc.2 q (by omega)]
  exact ⟨a1, a2, a3, a4, a5, a6, a7, a8, a9, a10⟩
theorem c_X9_workOut {Q : Int32 → jM → Prop} {a b c : Int32} (hC : TxC S q key n ops cw) (hW : WFt key n ops cw) (h : ∀ S', jch S S' (q + 2) (q + 3) → Q (fvt (jv3 a b c) cw n 0) S') : jFi E mX9_workOut (d + 1) 0 0 [.ref (q + 1), .int a, .int b, .int c] S Q := by
  have key : ∀ (r i : Nat) (S1 : jM), i + r = n → jch S S1 (q + 2) (q + 3) → (∀ j, j < dpt cw i → ji S1 (q + 2) j = fvt (jv3 a b c) cw i j) → L_X9_workOut_6 E d Q (q + 1) a b c (nI (dpt cw i)) (nI i) S1 := by
    intro r
    induction r with
    | zero =>
      intro i S1 hi c1 hs
      obtain rfl : i = n := by omega
      obtain ⟨a1, a2, a3, a4, a5, a6, a7, a8, a9, a10⟩ := hC.keep c1 (by omega)
      have hd1 := hW.2.2.2.1
      refine T_X9_workOut_6 ⟨a1, q, a2, a4, fun _ => ⟨fun _ => ⟨q + 2, a3, a6, ?_, ?_⟩, fun cc => absurd (by rw [hd1]; rfl) cc⟩, fun cc => absurd (by rw [a5]; exact Int32.le_rfl) cc⟩
      · rw [a7]
        split
        · exact jin_nI (n := 0) (by omega) (by omega)
        · exact jin_nI (n := 0) (by omega) (by have := hW.2.2.2.2.2.1; omega)
      · rw [jtn0, hs 0 (by omega)]; exact h S1 c1
    | succ r ih =>
      intro i S1 hi c1 hs
      obtain ⟨a1, a2, a3, a4, a5, a6, a7, a8, a9, a10⟩ := hC.keep c1 (by omega)
      have hn96 := hW.2.2.2.2.2.2
      have ho96 := hW.2.2.2.2.2.1
      have w1 := hW.1 i (by omega)
      have wlt := w1.lt
      have dle := hW.2.2.2.2.1 i (by omega)
      have dle1 := hW.2.2.2.2.1 (i + 1) (by omega)
      have e10 : ji S1 q (Int32.toNatClampNeg (nI i)) = nI (cw i) := by rw [jcl (by omega)]; exact a10 i (by omega)
      have l2 : ∀ y, y < ops → vp_in (nI y) (jl S1 (q + 2)) := fun y hy => by
        rw [a7, if_neg (by omega)]; exact jin_nI hy (by omega)
      have nxt : ∀ (y : Nat) (w : Int32), fvt (jv3 a b c) cw (i + 1) = upd (fvt (jv3 a b c) cw i) y w → (∀ j, j < dpt cw (i + 1) → j ≠ y → j < dpt cw i) → L_X9_workOut_6 E d Q (q + 1) a b c (nI (dpt cw (i + 1))) (nI (i + 1)) (jput S1 (q + 2) y w) := by
        intro y w hf hlt
        refine ih (i + 1) _ (by omega) (c1.trans (jch.put (by omega) (by omega))) (fun j hj => ?_)
        rw [hf, ji_put]
        unfold upd
        by_cases hjy : j = y
        · rw [if_pos ⟨rfl, hjy⟩, if_pos hjy]
        · rw [if_neg (fun cc => hjy cc.2), if_neg hjy]; exact hs j (hlt j hj hjy)
      refine T_X9_workOut_6 ⟨a1, q, a2, a4, fun cc => absurd cc (by rw [a5]; exact nI_ge (by omega) (by omega)), fun _ => ⟨by rw [a5]; exact jin_nI (by omega) (by omega), fun c20 => ⟨fun c33 => ?_, fun c33 => ?_⟩, fun c20 => ?_⟩⟩
      · rw [e10] at c20 c33
        have w20 : 20000 ≤ cw i := (nI_leI (a := 20000) (by omega) (by omega)).mp c20
        have w33 : cw i = 20033 := nI_inj (b := 20033) (by omega) (by omega) c33
        have d1 := hW.2.1 i (by omega) w33
        have ed : dpt cw (i + 1) = dpt cw i := by show (if cw i < 20000 then _ else if cw i = 20033 then _ else _) = _; rw [if_neg (by omega), if_pos w33]
        have ef : fvt (jv3 a b c) cw (i + 1) = upd (fvt (jv3 a b c) cw i) (dpt cw i - 1) (if fvt (jv3 a b c) cw i (dpt cw i - 1) = 0 then 1 else 0) := by
          show (if cw i < 20000 then _ else if cw i = 20033 then _ else _) = _
          rw [if_neg (by omega), if_pos w33]
        have em : nI (dpt cw i) - 1 = nI (dpt cw i - 1) := by
          obtain ⟨y, hy⟩ : ∃ y, dpt cw i = y + 1 := ⟨dpt cw i - 1, by omega⟩
          rw [hy]; exact nI_pred y
        rw [em, nI_1]
        refine ⟨q + 2, a3, a6, fun cc => absurd cc ?_, fun _ => ⟨l2 _ (by omega), ?_⟩⟩
        · rw [a7, if_neg (by omega), jwi_at (by omega) (by omega)]; decide
        · rw [jcl (by omega), hs _ (by omega), ← ed]
          have nx := nxt (dpt cw i - 1) _ ef (fun j hj _ => by omega)
          rw [ed] at nx ⊢
          refine ⟨fun c0 => ?_, fun c0 => ?_⟩
          · rw [if_pos c0] at nx; exact nx
          · rw [if_neg c0] at nx; exact nx
      · rw [e10] at c20 c33
        have w20 : 20000 ≤ cw i := (nI_leI (a := 20000) (by omega) (by omega)).mp c20
        have w33 : cw i ≠ 20033 := fun e => c33 (by rw [e]; rfl)
        have d2 := hW.2.2.1 i (by omega) w20 w33
        have ed : dpt cw (i + 1) = dpt cw i - 1 := by show (if cw i < 20000 then _ else if cw i = 20033 then _ else _) = _; rw [if_neg (by omega), if_neg w33]
        have ef : fvt (jv3 a b c) cw (i + 1) = upd (fvt (jv3 a b c) cw i) (dpt cw i - 2) (jjoinM (nI (cw i - 20000)) (fvt (jv3 a b c) cw i (dpt cw i - 2)) (fvt (jv3 a b c) cw i (dpt cw i - 1))) := by
          show (if cw i < 20000 then _ else if cw i = 20033 then _ else _) = _
          rw [if_neg (by omega), if_neg w33]
        obtain ⟨y, hy⟩ : ∃ y, dpt cw i = y + 2 := ⟨dpt cw i - 2, by omega⟩
        have em : nI (dpt cw i) + (-1) = nI (dpt cw i - 1) := by
          rw [hy, ← Int32.sub_eq_add_neg]; exact nI_pred (y + 1)
        have em2 : nI (dpt cw i - 1) - 1 = nI (dpt cw i - 2) := by rw [hy]; exact nI_pred y
        rw [em, em2, nI_1]
        refine ⟨fun cc => absurd cc ?_, fun _ => ⟨q + 2, a3, a6, fun cc => absurd cc ?_, fun _ => ⟨l2 _ (by omega), l2 _ (by omega), ?_⟩⟩⟩
        · rw [show (1 : Int32) = nI 1 from rfl]; exact nI_ge (by omega) (by omega)
        · rw [a7, if_neg (by omega)]; exact nI_nlt (by omega) (by omega)
        · have hsg : ∃ cc, cc ∈ sgn ∧ cw i = 20000 + cc := by
            rcases w1 with w1 | ⟨k, hk, w1⟩ | w1 | w1
            · omega
            · have : k < 3 := by unfold nmc at hk; split at hk <;> omega
              omega
            · exact absurd w1 w33
            · exact w1
          obtain ⟨ch, hch, ech⟩ := hsg
          have ej : nI (cw i) - 20000 = nI (cw i - 20000) := by
            rw [ech, show 20000 + ch - 20000 = ch by omega, ← nI_add, show (20000 : Int32) = nI 20000 from rfl, Int32.add_comm, Int32.add_sub_cancel]
          have nx := nxt (dpt cw i - 2) _ ef (fun j hj _ => by omega)
          rw [ed] at nx
          rw [jcl (n := dpt cw i - 2) (by omega), jcl (n := dpt cw i - 1) (by omega), e10, hs _ (by omega), hs _ (by omega), ej, show cw i - 20000 = ch by omega, jjoin_eq hch]
          rw [show cw i - 20000 = ch by omega] at nx
          exact nx
      · rw [e10] at c20
        have w20 : cw i < 20000 := by
          rcases Nat.lt_or_ge (cw i) 20000 with h9 | h9
          · exact h9
          · exact absurd ((nI_leI (a := 20000) (b := cw i) (by omega) (by omega)).mpr h9) c20
        have ed : dpt cw (i + 1) = dpt cw i + 1 := by show (if cw i < 20000 then _ else _) = _; rw [if_pos w20]
        have ef : fvt (jv3 a b c) cw (i + 1) = upd (fvt (jv3 a b c) cw i) (dpt cw i) (if cw i < 10000 then nI (cw i) else jv3 a b c (cw i - 10000)) := by
          show (if cw i < 20000 then _ else _) = _
          rw [if_pos w20]
        rw [nI_1, nI_1]
        refine ⟨q + 2, a3, a6, fun cc => absurd cc ?_, fun _ => ⟨l2 _ (by omega), ?_⟩⟩
        · rw [a7, if_neg (by omega), jwi_at (by omega) (by omega)]; decide
        · have nx := nxt (dpt cw i) _ ef (fun j hj hne => by omega)
          rw [ed] at nx
          rw [jcl (by omega), e10, jvalof_eq w1 w20]
          exact nx
  exact T_X9_workOut (key n 0 S (by omega) jch.rfl (fun j hj => absurd hj (Nat.not_lt_zero _)))
/-! the reference works a text out -/
theorem nI_txt (t k : Nat) : jtextat (nI t) + nI k = nI (135 + 200 * t + k) := by
  unfold jtextat
  rw [show (135 : Int32) = nI 135 from rfl, show (200 : Int32) = nI 200 from rfl, nI_mul, nI_add, nI_add]
theorem c_X11_worked {Q : Int32 → jM → Prop} {vals : Nat → Int32} (hM : MR S m v) (ht : t < 14) (hk : key < 3) (hT : TxM v t key n ops cw) (hW : WFt key n ops cw) (hn : ∀ i, i < nmc key → ji S (m + 16) (letw key i) = vals i) (h : ∀ S', jch S S' (m + 17) (m + 18) → Q (fvt vals cw n 0) S') : jFi E mX11_worked (d + 1) 0 0 [.ref m, .int (nI t)] S Q := by
  have r31 := hM.1.row 16 100 (f := 31) rfl
  have r30 := hM.1.row 15 128 (f := 30) rfl
  have ho96 := hW.2.2.2.2.2.1
  have hn96 := hW.2.2.2.2.2.2
  have keyl : ∀ (r i : Nat) (S1 : jM), i + r = n → jch S S1 (m + 17) (m + 18) → (∀ j, j < dpt cw i → ji S1 (m + 17) j = fvt vals cw i j) → L_X11_worked_4 E d Q m (nI t) (nI (dpt cw i)) (nI i) S1 := by
    intro r
    induction r with
    | zero =>
      intro i S1 hi c1 hs
      obtain rfl : i = n := by omega
      have hM1 := hM.keep c1 (by omega)
      have i2 := hM1.at (i := jtextat (nI t) + 2) (137 + 200 * t) (by rw [show (2 : Int32) = nI 2 from rfl, nI_txt]; congr 1; omega) (by omega)
      have q31 := hM1.1.row 16 100 (f := 31) rfl
      have hd1 := hW.2.2.2.1
      refine T_X11_worked_4 ⟨hM1.k, _, hM1.r, hM1.k1, i2.1, fun _ => ⟨_, q31.1, q31.2.1, by rw [q31.2.2]; exact jin_nI (n := 0) (by omega) (by omega), ?_⟩, fun cc => absurd (by rw [i2.2, hT.2.2.1]; exact Int32.le_rfl) cc⟩
      rw [jtn0, show m + 1 + 16 = m + 17 by omega, hs 0 (by omega)]; exact h S1 c1
    | succ r ih =>
      intro i S1 hi c1 hs
      have hM1 := hM.keep c1 (by omega)
      have i2 := hM1.at (i := jtextat (nI t) + 2) (137 + 200 * t) (by rw [show (2 : Int32) = nI 2 from rfl, nI_txt]; congr 1; omega) (by omega)
      have q31 := hM1.1.row 16 100 (f := 31) rfl
      have q30 := hM1.1.row 15 128 (f := 30) rfl
      have e17 : m + 1 + 16 = m + 17 := by omega
      have e16 : m + 1 + 15 = m + 16 := by omega
      rw [e17] at q31
      rw [e16] at q30
      have p4 : (jtextat (nI t) + 4) + (2 * nI i) = nI (139 + 200 * t + 2 * i) := by
        rw [show (4 : Int32) = nI 4 from rfl, nI_txt, show (2 : Int32) = nI 2 from rfl, nI_mul, nI_add]; congr 1; omega
      have p5 : ((jtextat (nI t) + 4) + (2 * nI i)) + 1 = nI (140 + 200 * t + 2 * i) := by
        rw [p4, nI_1]; congr 1; omega
      have i4 := hM1.at (i := (jtextat (nI t) + 4) + (2 * nI i)) (139 + 200 * t + 2 * i) p4 (by omega)
      have i5 := hM1.at (i := ((jtextat (nI t) + 4) + (2 * nI i)) + 1) (140 + 200 * t + 2 * i) p5 (by omega)
      have w1 := hW.1 i (by omega)
      have wlt := w1.lt
      have dle := hW.2.2.2.2.1 i (by omega)
      have dle1 := hW.2.2.2.2.1 (i + 1) (by omega)
      obtain ⟨h4, h5⟩ := hT.2.2.2 i (by omega)
      have e4 := i4.2.trans h4
      have e5 := i5.2.trans h5
      have l2 : ∀ y, y < 100 → vp_in (nI y) (jl S1 (m + 17)) := fun y hy => by
        rw [q31.2.2]; exact jin_nI hy (by omega)
      have nxt : ∀ (y : Nat) (w : Int32), fvt vals cw (i + 1) = upd (fvt vals cw i) y w → (∀ j, j < dpt cw (i + 1) → j ≠ y → j < dpt cw i) → L_X11_worked_4 E d Q m (nI t) (nI (dpt cw (i + 1))) (nI (i + 1)) (jput S1 (m + 17) y w) := by
        intro y w hf hlt
        refine ih (i + 1) _ (by omega) (c1.trans (jch.put (by omega) (by omega))) (fun j hj => ?_)
        rw [hf, ji_put]
        unfold upd
        by_cases hjy : j = y
        · rw [if_pos ⟨rfl, hjy⟩, if_pos hjy]
        · rw [if_neg (fun cc => hjy cc.2), if_neg hjy]; exact hs j (hlt j hj hjy)
      refine T_X11_worked_4 ⟨hM1.k, _, hM1.r, hM1.k1, i2.1, fun cc => absurd cc (by rw [i2.2, hT.2.2.1]; exact nI_ge (by omega) (by omega)), fun _ => ⟨i4.1, i5.1, fun c20 => ⟨fun c33 => ?_, fun c33 => ?_⟩, fun c20 => ?_⟩⟩
      · rw [e4] at c20
        rw [e5] at c33
        have w20 : 20000 ≤ cw i := by
          rcases Nat.lt_or_ge (cw i) 20000 with h9 | h9
          · refine absurd c20 (nI_ne (b := 2) ?_ (by omega) ?_)
            · unfold whatw; split <;> first | omega | (split <;> omega)
            · unfold whatw; split <;> first | omega | (split <;> omega)
          · exact h9
        have ev : valw key (cw i) = cw i - 20000 := by unfold valw; rw [if_neg (by omega), if_neg (by omega)]
        rw [ev] at c33
        have w33 : cw i = 20033 := by have := nI_inj (b := 33) (by omega) (by omega) c33; omega
        have d1 := hW.2.1 i (by omega) w33
        have ed : dpt cw (i + 1) = dpt cw i := by show (if cw i < 20000 then _ else if cw i = 20033 then _ else _) = _; rw [if_neg (by omega), if_pos w33]
        have ef : fvt vals cw (i + 1) = upd (fvt vals cw i) (dpt cw i - 1) (if fvt vals cw i (dpt cw i - 1) = 0 then 1 else 0) := by
          show (if cw i < 20000 then _ else if cw i = 20033 then _ else _) = _
          rw [if_neg (by omega), if_pos w33]
        have em : nI (dpt cw i) - 1 = nI (dpt cw i - 1) := by
          obtain ⟨y, hy⟩ : ∃ y, dpt cw i = y + 1 := ⟨dpt cw i - 1, by omega⟩
          rw [hy]; exact nI_pred y
        rw [em, nI_1]
        refine ⟨m + 17, q31.1, q31.2.1, l2 _ (by omega), ?_⟩
        rw [jcl (by omega), hs _ (by omega)]
        have nx := nxt (dpt cw i - 1) _ ef (fun j hj _ => by omega)
        rw [ed] at nx
        refine ⟨fun c0 => ?_, fun c0 => ?_⟩
        · rw [if_pos c0] at nx; exact nx
        · rw [if_neg c0] at nx; exact nx
      · rw [e4] at c20
        rw [e5] at c33
        have w20 : 20000 ≤ cw i := by
          rcases Nat.lt_or_ge (cw i) 20000 with h9 | h9
          · refine absurd c20 (nI_ne (b := 2) ?_ (by omega) ?_)
            · unfold whatw; split <;> first | omega | (split <;> omega)
            · unfold whatw; split <;> first | omega | (split <;> omega)
          · exact h9
        have ev : valw key (cw i) = cw i - 20000 := by unfold valw; rw [if_neg (by omega), if_neg (by omega)]
        rw [ev] at c33
        have w33 : cw i ≠ 20033 := fun e => c33 (by rw [e]; rfl)
        have d2 := hW.2.2.1 i (by omega) w20 w33
        have ed : dpt cw (i + 1) = dpt cw i - 1 := by show (if cw i < 20000 then _ else if cw i = 20033 then _ else _) = _; rw [if_neg (by omega), if_neg w33]
        have ef : fvt vals cw (i + 1) = upd (fvt vals cw i) (dpt cw i - 2) (jjoinM (nI (cw i - 20000)) (fvt vals cw i (dpt cw i - 2)) (fvt vals cw i (dpt cw i - 1))) := by
          show (if cw i < 20000 then _ else if cw i = 20033 then _ else _) = _
          rw [if_neg (by omega), if_neg w33]
        obtain ⟨y, hy⟩ : ∃ y, dpt cw i = y + 2 := ⟨dpt cw i - 2, by omega⟩
        have em : nI (dpt cw i) + (-1) = nI (dpt cw i - 1) := by
          rw [hy, ← Int32.sub_eq_add_neg]; exact nI_pred (y + 1)
        have em2 : nI (dpt cw i - 1) - 1 = nI (dpt cw i - 2) := by rw [hy]; exact nI_pred y
        rw [em, em2, nI_1]
        refine ⟨m + 17, q31.1, q31.2.1, l2 _ (by omega), l2 _ (by omega), ?_⟩
        have nx := nxt (dpt cw i - 2) _ ef (fun j hj _ => by omega)
        rw [ed] at nx
        rw [jcl (n := dpt cw i - 2) (by omega), jcl (n := dpt cw i - 1) (by omega), e5, ev, hs _ (by omega), hs _ (by omega)]
        exact nx
      · rw [e4] at c20
        have w20 : cw i < 20000 := by
          rcases Nat.lt_or_ge (cw i) 20000 with h9 | h9
          · exact h9
          · refine absurd ?_ c20
            unfold whatw; rw [if_neg (by omega), if_neg (by omega)]; rfl
        have ed : dpt cw (i + 1) = dpt cw i + 1 := by show (if cw i < 20000 then _ else _) = _; rw [if_pos w20]
        have ef : fvt vals cw (i + 1) = upd (fvt vals cw i) (dpt cw i) (if cw i < 10000 then nI (cw i) else vals (cw i - 10000)) := by
          show (if cw i < 20000 then _ else _) = _
          rw [if_pos w20]
        have nx := nxt (dpt cw i) _ ef (fun j hj hne => by omega)
        rw [ed] at nx
        rw [nI_1, nI_1]
        refine ⟨m + 17, q31.1, fun c0 => ⟨q31.2.1, l2 _ (by omega), ?_⟩, fun c0 => ?_⟩
        · rw [e4] at c0
          have w10 : cw i < 10000 := by
            rcases Nat.lt_or_ge (cw i) 10000 with h9 | h9
            · exact h9
            · refine absurd c0 (nI_ne (b := 0) ?_ (by omega) ?_)
              · unfold whatw; split <;> first | omega | (split <;> omega)
              · unfold whatw; rw [if_neg (by omega), if_pos w20]; omega
          have ev : valw key (cw i) = cw i := by unfold valw; rw [if_pos w10]
          rw [if_pos w10] at nx
          rw [jcl (by omega), e5, ev]
          exact nx
        · rw [e4] at c0
          have w10 : ¬ cw i < 10000 := fun h9 => c0 (by unfold whatw; rw [if_pos h9]; rfl)
          obtain ⟨k, hk3, ek⟩ : ∃ k, k < nmc key ∧ cw i = 10000 + k := by
            rcases w1 with w1 | w1 | w1 | ⟨c9, hc9, w1⟩
            · exact absurd w1 w10
            · exact w1
            · omega
            · omega
          have ev : valw key (cw i) = letw key k := by unfold valw; rw [if_neg w10, if_pos w20, show cw i - 10000 = k by omega]
          have hl : letw key k < 128 := by unfold letw; repeat' split
                                           all_goals omega
          rw [if_neg w10, show cw i - 10000 = k by omega] at nx
          rw [jcl (n := dpt cw i) (by omega), e5, ev, jcl (n := letw key k) (by omega)]
          refine ⟨m + 16, q30.1, q30.2.1, by rw [q30.2.2]; exact jin_nI hl (by omega), q31.2.1, l2 _ (by omega), ?_⟩
          rw [c1.2 (m + 16) (by omega), hn k hk3]
          exact nx
  exact T_X11_worked (keyl n 0 S (by omega) jch.rfl (fun j hj => absurd hj (Nat.not_lt_zero _)))
end jTxt1
end
section
/-! THE INVARIANT of both sides, between any two calls -/
/-- TEXTS of a realm whose row of them is r, by the row v of the reference -/
def TXS (S : jM) (x r M : Nat) (v : Nat → Int32) : Prop := ∃ cnt, cnt ≤ 14 ∧ v 1 = nI cnt ∧ (∀ t, t < cnt → ∃ m key n ops cw, m < M ∧ jr S r t = some (x + 115 + 3 * m + 1) ∧ key < 3 ∧ TxC S (x + 115 + 3 * m) key n ops cw ∧ TxM v t key n ops cw ∧ WFt key n ops cw) ∧ ∀ t, t < 14 → ∀ b, jr S r t = some b → jk S b = 9 ∧ b < x + 115 + 3 * M
/-- SHEETS -/
def jpl (y : Int32) : Prop := y = kNONE ∨ (-99999 ≤ y ∧ y ≤ 99999)
def SHR (S : jM) (x : Nat) : Prop := ∀ i, i < 4 → ∃ so n, n ≤ 24 ∧ (so = -1 ∨ so = 0 ∨ so = 1) ∧ ji S (x + 66 + 2 * i) 0 = so ∧ ji S (x + 98) i = so ∧ ji S (x + 66 + 2 * i) 1 = nI n ∧ ji S (x + 99) i = nI n ∧ ∀ j, j < 24 → ji S (x + 67 + 2 * i) j = ji S (x + 100) (24 * i + j) ∧ jpl (ji S (x + 67 + 2 * i) j)
/-- SLOTS -/
def SLR (S : jM) (x : Nat) : Prop := ∀ i, i < 5 → ∃ th, th < 4 ∧ ji S (x + 74 + 4 * i) 0 = nI th ∧ ji S (x + 101) i = nI th ∧ (th = 1 → (∃ k, k < 6 ∧ ji S (x + 75 + 4 * i) 0 = nI k ∧ ji S (x + 102) i = nI k) ∧ ji S (x + 103) i = jworth (ji S (x + 75 + 4 * i) 0) (ji S (x + 75 + 4 * i) 4)) ∧ (th = 2 → (∃ n, n ≤ 24 ∧ ji S (x + 76 + 4 * i) 1 = nI n ∧ ji S (x + 104) i = nI n) ∧ ∀ j, j < 24 → ji S (x + 77 + 4 * i) j = ji S (x + 105) (24 * i + j)) ∧ (th = 3 → ji S (x + 74 + 4 * i) 3 = ji S (x + 102) i)
/-- numbers that wait -/
def WTR (S : jM) (x : Nat) : Prop := ∃ w, w ≤ 60 ∧ ji S x 9 = nI w ∧ ji S (x + 94) 34 = nI w ∧ ∀ j, j < w → ji S (x + 65) j = ji S (x + 113) j
/-- THE TAPE -/
def TPR (S : jM) (x : Nat) : Prop := ∃ tn, tn ≤ 96 ∧ ji S (x + 60) 1 = nI tn ∧ ji S (x + 94) 19 = nI tn ∧ ∀ j, j < tn → ∃ c, c < 256 ∧ ji S (x + 61) j = nI c ∧ ji S (x + 109) j = nI c
/-- THE IMAGE -/
def IMG (S : jM) (x M : Nat) : Prop := ∃ sz v, RmR S (x + 21) sz v ∧ (∀ t, t < 14 → ∀ b, jr S (x + 40) t = some b → jk S b = 9 ∧ b < x + 115 + 3 * M) ∧ ((ji S x 2 = 0 ∧ ji S (x + 94) 3 = 0) ∨ (ji S x 2 = 1 ∧ ji S (x + 94) 3 = 1 ∧ Rg sz v ∧ (∀ j, j < 2935 → ji S (x + 96) j = v j) ∧ TXS S x (x + 40) M v))
def RST (S : jM) (x M : Nat) : Prop := IMG S x M ∧ SHR S x ∧ SLR S x ∧ WTR S x ∧ TPR S x
def IV (S : jM) (x sz M : Nat) (v : Nat → Int32) : Prop := PI S x sz v ∧ CL S x ∧ GL S (x + 41) ∧ jn S = x + 115 + 3 * M ∧ TXS S x (x + 20) M v ∧ RST S x M
def INV (S : jM) (x M : Nat) : Prop := ∃ sz v, IV S x sz M v
/-- what a pair of calls may change: as jfr, and the piles of the class's texts -/
def jfq (S S' : jM) (x : Nat) : Prop := jsame S S' ∧ ∀ y, (y < x + 1 ∨ x + 21 ≤ y) → (y < x + 41 ∨ x + 60 ≤ y) → y ≠ x + 95 → y ≠ x + 97 → (y < x + 106 ∨ x + 109 ≤ y) → (y < x + 110 ∨ x + 113 ≤ y) → y ≠ x + 114 → (y < x + 115 ∨ (y - x) % 3 ≠ 0) → ji S' y = ji S y
section jInv
variable {S S' : jM} {x sz M : Nat} {v : Nat → Int32}
theorem jfq.of (h : jfr S S' x) : jfq S S' x := ⟨h.1, fun y a b c d e f _ _ => h.2 y a b c d e (by omega)⟩
theorem jfq.rfl : jfq S S x := ⟨jsame.rfl, fun _ _ _ _ _ _ _ _ _ => _root_.rfl⟩
theorem jfq.trans {S1 S2 : jM} (h1 : jfq S S1 x) (h2 : jfq S1 S2 x) : jfq S S2 x := ⟨h1.1.trans h2.1, fun y a b c d e f g i => (h2.2 y a b c d e f g i).trans (h1.2 y a b c d e f g i)⟩
theorem jfq.pile {m : Nat} (h : jch S S' (x + 115 + 3 * m + 2) (x + 115 + 3 * m + 3)) : jfq S S' x := ⟨h.1, fun y _ _ _ _ _ _ _ g => h.2 y (by omega)⟩
theorem jfq.scr {lo hi : Nat} (h : jch S S' lo hi) (a : x + 110 ≤ lo) (b : hi ≤ x + 113) : jfq S S' x := ⟨h.1, fun y _ _ _ _ _ c _ _ => h.2 y (by omega)⟩
theorem TxC.move {q key n ops : Nat} {cw : Nat → Nat} (h : TxC S q key n ops cw) (hk : ∀ y, q ≤ y → y < q + 3 → jk S' y = jk S y) (hl : ∀ y, q ≤ y → y < q + 3 → jl S' y = jl S y) (hr : jr S' (q + 1) = jr S (q + 1)) (hi : ∀ y, q ≤ y → y < q + 2 → ji S' y = ji S y) : TxC S' q key n ops cw := by
  obtain ⟨a1, a2, a3, a4, a5, a6, a7, a8, a9, a10⟩ := h
  unfold TxC
  rw [hk (q + 1) (by omega) (by omega), hk q (by omega) (by omega), hk (q + 2) (by omega) (by omega), hl q (by omega) (by omega), hl (q + 2) (by omega) (by omega), hr, hi (q + 1) (by omega) (by omega), hi q (by omega) (by omega)]
  exact ⟨a1, a2, a3, a4, a5, a6, a7, a8, a9, a10⟩
theorem TxM.cong {t key n ops : Nat} {cw : Nat → Nat} {v' : Nat → Int32} (h : TxM v t key n ops cw) (ht : t < 14) (hn : n ≤ 96) (he : ∀ j, 135 ≤ j → j < 2935 → v' j = v j) : TxM v' t key n ops cw := by
  obtain ⟨a1, a2, a3, a4⟩ := h
  unfold TxM
  rw [he _ (by omega) (by omega), he _ (by omega) (by omega), he _ (by omega) (by omega)]
  refine ⟨a1, a2, a3, fun i hi => ?_⟩
  rw [he _ (by omega) (by omega), he _ (by omega) (by omega)]
  exact a4 i hi
theorem TXS.move {r r' M' : Nat} {v' : Nat → Int32} (h : TXS S x r M v) (hM : M ≤ M') (hk : ∀ y, y < x + 115 + 3 * M → jk S' y = jk S y) (hl : ∀ y, y < x + 115 + 3 * M → jl S' y = jl S y) (hrr : ∀ t, t < 14 → jr S' r' t = jr S r t) (hr : ∀ y, x + 115 ≤ y → y < x + 115 + 3 * M → jr S' y = jr S y) (hi : ∀ y, x + 115 ≤ y → y < x + 115 + 3 * M → (y - x) % 3 ≠ 0 → ji S' y = ji S y) (he : ∀ j, (j = 1 ∨ 135 ≤ j) → j < 2935 → v' j = v j) : TXS S' x r' M' v' := by
  obtain ⟨cnt, c14, e1, hT, hz⟩ := h
  refine ⟨cnt, c14, (he 1 (Or.inl rfl) (by omega)).trans e1, fun t ht => ?_, fun t ht b hb => ?_⟩
  · obtain ⟨m, key, n, ops, cw, hm, a1, a2, a3, a4, a5⟩ := hT t ht
    exact ⟨m, key, n, ops, cw, by omega, (hrr t (by omega)).trans a1, a2, a3.move (fun y p q => hk y (by omega)) (fun y p q => hl y (by omega)) (hr _ (by omega) (by omega)) (fun y p q => hi y (by omega) (by omega) (by omega)), a4.cong (by omega) a5.2.2.2.2.2.2 (fun j p q => he j (Or.inr p) q), a5⟩
  · rw [hrr t ht] at hb
    obtain ⟨q1, q2⟩ := hz t ht b hb
    rw [hk b q2]; exact ⟨q1, by omega⟩
/-- under what leaves kinds and references -/
theorem TXS.same {r : Nat} {v' : Nat → Int32} (h : TXS S x r M v) (hs : jsame S S') (hi : ∀ y, x + 115 ≤ y → (y - x) % 3 ≠ 0 → ji S' y = ji S y) (he : ∀ j, (j = 1 ∨ 135 ≤ j) → j < 2935 → v' j = v j) : TXS S' x r M v' := by
  obtain ⟨cnt, c14, e1, hT, hz⟩ := h
  obtain ⟨k, l, rr, -⟩ := hs
  refine ⟨cnt, c14, (he 1 (Or.inl rfl) (by omega)).trans e1, fun t ht => ?_, fun t ht b hb => ?_⟩
  · obtain ⟨m, key, n, ops, cw, hm, a1, a2, a3, a4, a5⟩ := hT t ht
    exact ⟨m, key, n, ops, cw, hm, by rw [rr]; exact a1, a2, a3.move (fun y p q => by rw [k]) (fun y p q => by rw [l]) (by rw [rr]) (fun y p q => hi y (by omega) (by omega)), a4.cong (by omega) a5.2.2.2.2.2.2 (fun j p q => he j (Or.inr p) q), a5⟩
  · rw [rr] at hb; rw [k]; exact hz t ht b hb
theorem RST.keep (h : RST S x M) (hq : jfq S S' x) : RST S' x M := by
  obtain ⟨⟨sz, v, i1, i2, i3⟩, h1, h2, h3, h4⟩ := h
  have g : ∀ y, (y = x ∨ (x + 21 ≤ y ∧ y < x + 41) ∨ (x + 60 ≤ y ∧ y ≤ x + 94) ∨ y = x + 96 ∨ (x + 98 ≤ y ∧ y < x + 106) ∨ y = x + 109 ∨ y = x + 113) → ji S' y = ji S y := fun y hy => hq.2 y (by omega) (by omega) (by omega) (by omega) (by omega) (by omega) (by omega) (by omega)
  obtain ⟨k, l, rr, -⟩ := id hq.1
  refine ⟨⟨sz, v, i1.grow (fun y p q => ⟨by rw [k], by rw [l], g y (by omega), by rw [rr]⟩), fun t ht b hb => by rw [rr] at hb; rw [k]; exact i2 t ht b hb, ?_⟩, fun i hi => ?_, fun i hi => ?_, ?_, ?_⟩
  · rw [g x (by omega), g (x + 94) (by omega)]
    rcases i3 with i3 | ⟨a1, a2, a3, a4, a5⟩
    · exact Or.inl i3
    · exact Or.inr ⟨a1, a2, a3, fun j hj => by rw [g (x + 96) (by omega)]; exact a4 j hj, a5.same hq.1 (fun y p q => hq.2 y (by omega) (by omega) (by omega) (by omega) (by omega) (by omega) (by omega) (by omega)) (fun _ _ _ => _root_.rfl)⟩
  · rw [g (x + 66 + 2 * i) (by omega), g (x + 98) (by omega), g (x + 99) (by omega), g (x + 67 + 2 * i) (by omega), g (x + 100) (by omega)]
    exact h1 i hi
  · rw [g (x + 74 + 4 * i) (by omega), g (x + 75 + 4 * i) (by omega), g (x + 76 + 4 * i) (by omega), g (x + 77 + 4 * i) (by omega), g (x + 101) (by omega), g (x + 102) (by omega), g (x + 103) (by omega), g (x + 104) (by omega), g (x + 105) (by omega)]
    exact h2 i hi
  · unfold WTR
    rw [g x (by omega), g (x + 94) (by omega), g (x + 65) (by omega), g (x + 113) (by omega)]
    exact h3
  · unfold TPR
    rw [g (x + 60) (by omega), g (x + 94) (by omega), g (x + 61) (by omega), g (x + 109) (by omega)]
    exact h4
/-- the two sides alike again, the rest as it was -/
theorem IV.next {sz' : Nat} {v' : Nat → Int32} (h : IV S x sz M v) (hq : jfq S S' x) (hP : PI S' x sz' v') (he : ∀ j, (j = 1 ∨ 135 ≤ j) → j < 2935 → v' j = v j) : IV S' x sz' M v' := by
  obtain ⟨-, h2, h3, h4, h5, h6⟩ := h
  exact ⟨hP, h2.same hq.1, h3.same hq.1, by rw [hq.1.2.2.2]; exact h4, h5.same hq.1 (fun y p q => hq.2 y (by omega) (by omega) (by omega) (by omega) (by omega) (by omega) (by omega) (by omega)) he, h6.keep hq⟩
theorem IV.po {r r' : Int32} (h : IV S x sz M v) (hp : PO S x r r' S') : r = r' ∧ INV S' x M := by
  obtain ⟨h1, h2, h3, sz', v', h4⟩ := hp
  refine ⟨h1, sz', v', h.next (jfq.of h2) h4 (fun j hj _ => ?_)⟩
  have a := h4.2.1.2 j
  have b := h.1.2.1.2 j
  exact a.symm.trans ((h3 j hj).trans b)
theorem IV.inv (h : IV S x sz M v) : INV S x M := ⟨sz, v, h⟩
/-- the start -/
theorem IV_start (h : FR S x) (hn : jn S = x + 115) : IV S x 0 0 v0 := by
  obtain ⟨cl, cn, ml, mn⟩ := id h
  obtain ⟨n1, n2, n3, n4, n5, n6, n7, n8, n9, n10⟩ := id cn
  have z : ∀ k, 1 ≤ k → k < 20 → k ≠ 3 → ∀ j, ji S (x + 95 + k) j = 0 := fun k a b c j => h.zero k a b c j
  refine ⟨h.pi, cl, n5.1, hn, ⟨0, by omega, rfl, fun t ht => absurd ht (Nat.not_lt_zero _), fun t ht b hb => ?_⟩, ⟨0, v0, n2, fun t ht b hb => ?_, Or.inl ⟨h.x0 2, h.m0 3⟩⟩, fun i hi => ?_, fun i hi => ?_, ⟨0, by omega, h.x0 9, h.m0 34, fun j hj => absurd hj (Nat.not_lt_zero _)⟩, ⟨0, by omega, n6 1, h.m0 19, fun j hj => absurd hj (Nat.not_lt_zero _)⟩⟩
  · rw [n3 t ht] at hb; exact absurd hb (by simp)
  · rw [n4 t ht] at hb; exact absurd hb (by simp)
  · obtain ⟨s1, s2, s3⟩ := n8 i hi
    refine ⟨-1, 0, by omega, Or.inl rfl, s1, mn.2.2.1 i hi, s2, z 4 (by omega) (by omega) (by omega) i, fun j hj => ⟨?_, ?_⟩⟩
    · rw [s3 j hj]; exact (z 5 (by omega) (by omega) (by omega) _).symm
    · rw [s3 j hj]; exact Or.inr (by decide)
  · refine ⟨0, by omega, n9 i hi, z 6 (by omega) (by omega) (by omega) i, fun c => absurd c (by omega), fun c => absurd c (by omega), fun c => absurd c (by omega)⟩
end jInv
end
section
/-! TAKES, TEACHES, WORTH on both sides -/
/-- only piles of the class's texts change -/
def jpi (S S' : jM) (x : Nat) : Prop := jsame S S' ∧ ∀ y, (y < x + 115 ∨ (y - x) % 3 ≠ 0) → ji S' y = ji S y
def jlst (v : Nat → Int32) (key : Int32) (n i : Nat) (a : Int32) : Int32 := jfold (fun t a => if v (135 + 200 * t) = key then nI t else a) n i a
abbrev lwt : Type := Option (Nat × Nat × Nat × Nat × (Nat → Nat))
/-- the TEXT that counts for a key: t, its place m in the class, how many words, how many operands, the words -/
def LWD (S : jM) (x r : Nat) (v : Nat → Int32) (key : Nat) : lwt → Prop
  | none => ∃ cnt, cnt ≤ 14 ∧ v 1 = nI cnt ∧ jlst v (nI key) cnt 0 (-1) = -1
  | some (t, m, n, ops, cw) => ∃ cnt, cnt ≤ 14 ∧ v 1 = nI cnt ∧ jlst v (nI key) cnt 0 (-1) = nI t ∧ t < cnt ∧ jr S r t = some (x + 115 + 3 * m + 1) ∧ TxC S (x + 115 + 3 * m) key n ops cw ∧ TxM v t key n ops cw ∧ WFt key n ops cw
def lwv (o : lwt) (z a b c : Int32) : Int32 := match o with
  | none => z
  | some (_, _, n, _, cw) => fvt (jv3 a b c) cw n 0
def jcl99 (z : Int32) : Nat := (jclamp z 1 99).toBitVec.toNat
theorem jcl99_is (z : Int32) : 1 ≤ jcl99 z ∧ jcl99 z ≤ 99 ∧ jclamp z 1 99 = nI (jcl99 z) ∧ jmax 1 (jmin 99 z) = nI (jcl99 z) := by
  have hv : ∃ j, 1 ≤ j ∧ j ≤ 99 ∧ jclamp z 1 99 = nI j ∧ jmax 1 (jmin 99 z) = nI j := by
    rw [show jclamp z 1 99 = (if 1 ≤ z then (if z ≤ 99 then z else 99) else 1) from rfl]
    by_cases h1 : (1 : Int32) ≤ z
    · rw [if_pos h1]
      by_cases h2 : z ≤ 99
      · rw [if_pos h2]
        have hlt : z < nI 100 := Int32.lt_of_le_of_lt h2 (by decide)
        obtain ⟨j, hj, e⟩ := jofI (x := z) (n := 100) (by omega) (Int32.le_trans (by decide) h1) hlt
        refine ⟨j, ?_, by omega, e, ?_⟩
        · rw [e, show (1 : Int32) = nI 1 from rfl, nI_leI (by omega) (by omega)] at h1; exact h1
        · have hd : ∀ j : Fin 100, 1 ≤ j.val → jmax 1 (jmin 99 (nI j.val)) = nI j.val := by decide +kernel
          rw [e]
          refine hd ⟨j, hj⟩ ?_
          rw [e, show (1 : Int32) = nI 1 from rfl, nI_leI (by omega) (by omega)] at h1; exact h1
      · rw [if_neg h2]
        refine ⟨99, by omega, by omega, rfl, ?_⟩
        have h3 : ¬ z < 99 := fun h => h2 (Int32.le_of_lt h)
        unfold jmin
        rw [if_neg h3]
        decide
    · rw [if_neg h1]
      refine ⟨1, by omega, by omega, rfl, ?_⟩
      have h2 : z < 1 := Int32.not_le.mp h1
      have h3 : z < 99 := Int32.lt_of_lt_of_le h2 (by decide)
      unfold jmin jmax
      rw [if_pos h3, if_neg (fun h => h1 (Int32.le_of_lt h))]
      rfl
  obtain ⟨j, h1, h2, h3, h4⟩ := hv
  have e : jcl99 z = j := by
    unfold jcl99
    rw [h3]
    show (BitVec.ofNat 32 j).toNat = j
    rw [BitVec.toNat_ofNat]
    exact Nat.mod_eq_of_lt (by omega)
  rw [e]
  exact ⟨h1, h2, h3, h4⟩
theorem jcl99_k : ∀ k : Fin 25, jcl99 (3 + nI k.val) = 3 + k.val := by decide +kernel
/-- days, as numbers -/
def tdays (kd ag j : Nat) : Nat := if kd = 1 then 2 * j else if kd = 2 then (if j ≤ 1 then 1 else j - 1) else if kd = 3 then 2 * j + ag / 10 else if kd = 4 then (if j ≤ 3 then 1 else (j - 1) / 2) else if kd = 5 then 1 else j
theorem tdays_le {kd ag j : Nat} (ha : ag < 100) (hj : j ≤ 99) : tdays kd ag j ≤ 207 := by
  unfold tdays
  repeat' split
  all_goals omega
theorem jdiv10 : ∀ a : Fin 100, nI a.val / 10 = nI (a.val / 10) := by decide +kernel
theorem jdays_eq {kd ag j : Nat} (hk : kd < 6) (ha : ag < 100) (h1 : 1 ≤ j) (h2 : j ≤ 99) : jdays (nI kd) (nI ag) (nI j) = nI (tdays kd ag j) := by
  have hd : ∀ kd : Fin 6, ∀ j : Fin 100, kd.val ≠ 3 → 1 ≤ j.val → jdays (nI kd.val) 0 (nI j.val) = nI (tdays kd.val 0 j.val) := by decide +kernel
  by_cases h3 : kd = 3
  · subst h3
    show 2 * nI j + nI ag / 10 = nI (2 * j + ag / 10)
    rw [jdiv10 ⟨ag, ha⟩, show (2 : Int32) = nI 2 from rfl, nI_mul, nI_add]
  · have e1 : jdays (nI kd) (nI ag) (nI j) = jdays (nI kd) 0 (nI j) := by
      have hne : ¬ nI kd = 3 := nI_ne (b := 3) (by omega) (by omega) h3
      unfold jdays
      rw [if_neg hne, if_neg hne]
    have e2 : tdays kd ag j = tdays kd 0 j := by unfold tdays; rw [if_neg h3, if_neg h3]
    rw [e1, e2]; exact hd ⟨kd, hk⟩ ⟨j, by omega⟩ h3 h1
/-- the days, by the text that counts -/
def tkd (o : lwt) (k kd tg ag : Nat) : Nat := tdays kd ag (jcl99 (lwv o (3 + nI k) (nI k) (nI tg) (nI ag)))
section jTakes
variable {E : jEnv} {d : Nat} {S S' : jM} {x r m sz M : Nat} {v : Nat → Int32}
theorem jpi.rfl : jpi S S x := ⟨jsame.rfl, fun _ _ => _root_.rfl⟩
theorem jpi.trans {S1 S2 : jM} (h1 : jpi S S1 x) (h2 : jpi S1 S2 x) : jpi S S2 x := ⟨h1.1.trans h2.1, fun y a => (h2.2 y a).trans (h1.2 y a)⟩
theorem jpi.pile {m : Nat} (h : jch S S' (x + 115 + 3 * m + 2) (x + 115 + 3 * m + 3)) : jpi S S' x := ⟨h.1, fun y g => h.2 y (by omega)⟩
theorem jpi.fq (h : jpi S S' x) : jfq S S' x := ⟨h.1, fun y _ _ _ _ _ _ _ g => h.2 y g⟩
theorem jpi.pi (h : jpi S S' x) (hP : PI S x sz v) : PI S' x sz v := by
  have cs : ∀ y, y < x + 115 → jcs S S' y := fun y hy => ⟨by rw [h.1.1], by rw [h.1.2.1], h.2 y (Or.inl hy), by rw [h.1.2.2.1]⟩
  exact ⟨hP.1.of h.1 (hP.1.2.2.grow (fun y p q => cs y (by omega))), ⟨hP.2.1.1.same h.1, fun j => by rw [h.2 _ (Or.inl (by omega))]; exact hP.2.1.2 j⟩, hP.2.2⟩
theorem jlst_cases (v : Nat → Int32) (key : Int32) (cnt : Nat) : ∀ (n i : Nat) (a : Int32), i + n = cnt → (a = -1 ∨ ∃ t, t < cnt ∧ a = nI t ∧ v (135 + 200 * t) = key) → (jlst v key n i a = -1 ∨ ∃ t, t < cnt ∧ jlst v key n i a = nI t ∧ v (135 + 200 * t) = key)
  | 0, _, _, _, h => h
  | n + 1, i, a, hi, h => by
    refine jlst_cases v key cnt n (i + 1) _ (by omega) ?_
    dsimp only
    by_cases c : v (135 + 200 * i) = key
    · rw [if_pos c]; exact Or.inr ⟨i, by omega, rfl, c⟩
    · rw [if_neg c]; exact h
theorem LWD_ex {key : Nat} (hk : key < 3) (hT : TXS S x r M v) : ∃ o, LWD S x r v key o := by
  obtain ⟨cnt, c14, e1, hT, -⟩ := hT
  rcases jlst_cases v (nI key) cnt cnt 0 (-1) (by omega) (Or.inl rfl) with h | ⟨t, ht, h, hk2⟩
  · exact ⟨none, cnt, c14, e1, h⟩
  · obtain ⟨m, key', n, ops, cw, hm, a1, a2, a3, a4, a5⟩ := hT t ht
    have : key' = key := nI_inj (by omega) (by omega) (a4.1.symm.trans hk2)
    subst this
    exact ⟨some (t, m, n, ops, cw), cnt, c14, e1, h, ht, a1, a3, a4, a5⟩
theorem LWD.keep {key : Nat} {o : lwt} (h : LWD S x r v key o) (hp : jfq S S' x) : LWD S' x r v key o := by
  cases o with
  | none => exact h
  | some q =>
    obtain ⟨t, m, n, ops, cw⟩ := q
    obtain ⟨cnt, c14, e1, h1, h2, h3, h4, h5, h6⟩ := h
    obtain ⟨k, l, rr, -⟩ := id hp.1
    exact ⟨cnt, c14, e1, h1, h2, by rw [rr]; exact h3, h4.move (fun y _ _ => by rw [k]) (fun y _ _ => by rw [l]) (by rw [rr]) (fun y p q => hp.2 y (by omega) (by omega) (by omega) (by omega) (by omega) (by omega) (by omega) (by omega)), h5, h6⟩
theorem LWD.row {key : Nat} {o : lwt} {v' : Nat → Int32} (h : LWD S x r v key o) (he : ∀ j, (j = 1 ∨ 135 ≤ j) → j < 2935 → v' j = v j) : LWD S x r v' key o := by
  have hj : ∀ (cnt : Nat), cnt ≤ 14 → ∀ (n i : Nat) (a : Int32), i + n = cnt → jlst v' (nI key) n i a = jlst v (nI key) n i a := by
    intro cnt c14 n
    induction n with
    | zero => intro i a _; rfl
    | succ n ih =>
      intro i a hi
      show jlst v' (nI key) n (i + 1) (if v' (135 + 200 * i) = nI key then nI i else a) = jlst v (nI key) n (i + 1) (if v (135 + 200 * i) = nI key then nI i else a)
      rw [he _ (by omega) (by omega)]
      exact ih (i + 1) _ (by omega)
  cases o with
  | none =>
    obtain ⟨cnt, c14, e1, h1⟩ := h
    exact ⟨cnt, c14, (he 1 (Or.inl rfl) (by omega)).trans e1, (hj cnt c14 cnt 0 (-1) (by omega)).trans h1⟩
  | some q =>
    obtain ⟨t, m, n, ops, cw⟩ := q
    obtain ⟨cnt, c14, e1, h1, h2, h3, h4, h5, h6⟩ := h
    exact ⟨cnt, c14, (he 1 (Or.inl rfl) (by omega)).trans e1, (hj cnt c14 cnt 0 (-1) (by omega)).trans h1, h2, h3, h4, h5.cong (by omega) h6.2.2.2.2.2.2 (fun j p q => he j (Or.inr p) q), h6⟩
/-! which text counts -/
theorem c_X3_numberOfLaw {Q : Int32 → jM → Prop} {cnt : Nat} {w : Int32} (hR : RmR S r sz v) (hT : TXS S x (r + 19) M v) (hc : cnt ≤ 14) (e1 : v 1 = nI cnt) (h : Q (jlst v w cnt 0 (-1)) S) : jFi E mX3_numberOfLaw d 0 0 [.ref r, .int w] S Q := by
  obtain ⟨cnt', c14, e1', hT, -⟩ := hT
  obtain rfl : cnt' = cnt := nI_inj (by omega) (by omega) (e1'.symm.trans e1)
  have n6 := hR.n6
  obtain ⟨⟨k1, -, -, -, -, k6, -, -, k9, k10⟩, -⟩ := hR
  have key : ∀ (n i : Nat) (a : Int32), i + n = cnt' → Q (jlst v w n i a) S → L_X3_numberOfLaw_4 E d Q r w a (nI i) S := by
    intro n
    induction n with
    | zero =>
      intro i a hi hq
      obtain rfl : i = cnt' := by omega
      exact T_X3_numberOfLaw_4 ⟨k1, fun _ => hq, fun c => absurd (by rw [n6, e1]; exact Int32.le_rfl) c⟩
    | succ n ih =>
      intro i a hi hq
      obtain ⟨m, key, n', ops, cw, hm, a1, a2, a3, a4, a5⟩ := hT i (by omega)
      have hq2 : Q (jlst v w n (i + 1) (if v (135 + 200 * i) = w then nI i else a)) S := hq
      refine T_X3_numberOfLaw_4 ⟨k1, fun c => absurd c (by rw [n6, e1]; exact nI_ge (by omega) (by omega)), fun _ => ⟨fun c => absurd c (nI_ge (b := 14) (by omega) (by omega)), fun _ => ⟨r + 19, k6, k9, by rw [k10]; exact jin_nI (by omega) (by omega), fun c => ?_, fun b c => ?_⟩⟩⟩
      · rw [jcl (by omega), a1] at c; exact absurd c (by simp)
      · rw [jcl (by omega), a1] at c
        obtain rfl : x + 115 + 3 * m + 1 = b := Option.some.inj c
        refine ⟨a3.1, ?_⟩
        rw [a3.2.2.2.2.2.2.2.1, nI_1, ← a4.1]
        refine ⟨fun c => ?_, fun c => ?_⟩
        · rw [if_pos c] at hq2; exact ih (i + 1) _ (by omega) hq2
        · rw [if_neg c] at hq2; exact ih (i + 1) _ (by omega) hq2
  exact T_X3_numberOfLaw (key cnt' 0 (-1) (by omega) h)
theorem c_X11_counts {Q : Int32 → jM → Prop} {cnt : Nat} {w : Int32} (hM : MR S m v) (hc : cnt ≤ 14) (e1 : v 1 = nI cnt) (h : Q (jlst v w cnt 0 (-1)) S) : jFi E mX11_counts (d + 1) 0 0 [.ref m, .int w] S Q := by
  have i1 := hM.at (i := 1) 1 rfl (by omega)
  have key : ∀ (n i : Nat) (a : Int32), i + n = cnt → Q (jlst v w n i a) S → L_X11_counts_4 E d Q m w a (nI i) S := by
    intro n
    induction n with
    | zero =>
      intro i a hi hq
      obtain rfl : i = cnt := by omega
      exact T_X11_counts_4 ⟨hM.k, _, hM.r, hM.k1, i1.1, fun _ => hq, fun c => absurd (by rw [i1.2, e1]; exact Int32.le_rfl) c⟩
    | succ n ih =>
      intro i a hi hq
      have hq2 : Q (jlst v w n (i + 1) (if v (135 + 200 * i) = w then nI i else a)) S := hq
      have ia := hM.at (i := jtextat (nI i)) (135 + 200 * i) (by have := nI_txt i 0; rw [nI_0, Int32.add_zero] at this; exact this) (by omega)
      refine T_X11_counts_4 ⟨hM.k, _, hM.r, hM.k1, i1.1, fun c => absurd c (by rw [i1.2, e1]; exact nI_ge (by omega) (by omega)), fun _ => ⟨ia.1, ?_⟩⟩
      rw [ia.2, nI_1]
      refine ⟨fun c => ?_, fun c => ?_⟩
      · rw [if_pos c] at hq2; exact ih (i + 1) _ (by omega) hq2
      · rw [if_neg c] at hq2; exact ih (i + 1) _ (by omega) hq2
  exact T_X11_counts (key cnt 0 (-1) (by omega) h)
theorem jwi_m1 (n : Int32) : jwi (-1) n = 0 := by unfold jwi; rw [if_pos (by decide)]
/-- the class's law of a key: its number, then its text -/
theorem c_X3_law {Q : Option Nat → jM → Prop} {key : Nat} {o : lwt} {P : Int32 → jM → Prop} (hR : RmR S r sz v) (hT : TXS S x (r + 19) M v) (hL : LWD S x (r + 19) v key o) (h0 : o = none → Q none S) (h1 : ∀ t m n ops cw, o = some (t, m, n, ops, cw) → Q (some (x + 115 + 3 * m + 1)) S)
    (hP : ∀ w, jFr E mX3_findText (d + 1) 0 0 [.ref r, .int w] S Q → P w S) : jFi E mX3_numberOfLaw (d + 1) 0 0 [.ref r, .int (nI key)] S P := by
  have n6 := hR.n6
  have hR0 := id hR
  obtain ⟨⟨k1, -, -, -, -, k6, -, -, k9, k10⟩, -⟩ := hR0
  cases o with
  | none =>
    obtain ⟨cnt, c14, e1, e⟩ := hL
    refine c_X3_numberOfLaw hR hT c14 e1 (hP _ ?_)
    rw [e]
    exact T_X3_findText ⟨k1, fun _ => h0 rfl, fun c => absurd (jwi_m1 _) c⟩
  | some q =>
    obtain ⟨t, m, n, ops, cw⟩ := q
    obtain ⟨cnt, c14, e1, e, ht, a1, -⟩ := hL
    refine c_X3_numberOfLaw hR hT c14 e1 (hP _ ?_)
    rw [e]
    refine T_X3_findText ⟨k1, fun c => absurd c (by rw [n6, e1, jwi_at ht (by omega)]; decide), fun _ => ⟨fun c => absurd c (nI_ge (b := 14) (by omega) (by omega)), fun _ => ⟨r + 19, k6, k9, by rw [k10]; exact jin_nI (by omega) (by omega), fun c => ?_, fun b c => ?_⟩⟩⟩
    · rw [jcl (by omega), a1] at c; exact absurd c (by simp)
    · rw [jcl (by omega), a1] at c
      obtain rfl : x + 115 + 3 * m + 1 = b := Option.some.inj c
      exact h1 t m n ops cw rfl
theorem c_X3_daysTaken {Q : Int32 → jM → Prop} {o : lwt} {a k kd tg ag : Nat} (hR : RmR S r sz v) (hT : TXS S x (r + 19) M v) (hL : LWD S x (r + 19) v 0 o) (ha : jk S a = 2) (hax : a < x + 115) (e0 : ji S a 0 = nI kd) (e2 : ji S a 2 = nI tg) (e5 : ji S a 5 = nI ag) (hkd : kd < 6) (hag : ag < 100)
    (h : ∀ S', jpi S S' x → Q (nI (tkd o k kd tg ag)) S') : jFi E mX3_daysTaken (d + 3) 0 0 [.ref r, .ref a, .int (nI k)] S Q := by
  refine T_X3_daysTaken ⟨hR.1.1, c_X3_law (key := 0) hR hT hL (fun e => ?_) (fun t m n ops cw e => ?_) (fun w hw => ⟨hR.1.1, hw⟩)⟩
  · subst e
    refine ⟨fun _ => ⟨ha, c_X2_daysFrom ha ?_⟩, fun b c => absurd c (by simp)⟩
    obtain ⟨z1, z2, z3, z4⟩ := jcl99_is (3 + nI k)
    rw [e0, e5, z4, jdays_eq hkd hag z1 z2]
    exact h S jpi.rfl
  · subst e
    refine ⟨fun c => absurd c (by simp), fun b c => ?_⟩
    obtain rfl : x + 115 + 3 * m + 1 = b := Option.some.inj c
    obtain ⟨cnt, c14, e1, e, ht, a1, a3, a4, a5⟩ := hL
    refine ⟨ha, a3.1, ?_⟩
    rw [e2, e5]
    refine c_X9_workOut a3 a5 (fun S1 c1 => ?_)
    have k1 : jk S1 a = 2 := by rw [c1.1.1]; exact ha
    refine ⟨k1, c_X2_daysFrom k1 ?_⟩
    obtain ⟨z1, z2, z3, z4⟩ := jcl99_is (fvt (jv3 (nI k) (nI tg) (nI ag)) cw n 0)
    rw [c1.2 a (by omega), e0, e5, z4, jdays_eq hkd hag z1 z2]
    exact h S1 (jpi.pile c1)
/-- the reference's days -/
theorem c_X11_takes {Q : Int32 → jM → Prop} {o : lwt} {i k kd tg ag : Nat} (hM : MR S m v) (hL : LWD S x r v 0 o) (hi : i < 9) (e0 : mfv v i 0 = nI kd) (e2 : mfv v i 2 = nI tg) (e5 : mfv v i 5 = nI ag) (hkd : kd < 6) (hag : ag < 100) (hk : k < 25)
    (h : ∀ S', jch S S' (m + 16) (m + 18) → MR S' m v → Q (nI (tkd o k kd tg ag)) S') : jFi E mX11_takes (d + 2) 0 0 [.ref m, .int (nI i), .int (nI k)] S Q := by
  have fin : ∀ (S1 : jM) (j : Nat), 1 ≤ j → j ≤ 99 → jch S S1 (m + 16) (m + 18) → MR S1 m v → tkd o k kd tg ag = tdays kd ag j → ((nI j ≤ 1 → jk S1 m = 11 ∧ jFi E mX11_of (d + 1) 0 0 [.ref m, .int (nI i), .int 0] S1 (fun r8 S7 => (r8 = 1 → Q (2 * nI j) S7) ∧ (r8 = 2 → Q 1 S7) ∧ (r8 = 3 → jk S7 m = 11 ∧ jFi E mX11_of (d + 1) 0 0 [.ref m, .int (nI i), .int 5] S7 (fun r14 S13 => Q ((2 * nI j) + (r14 / 10)) S13)) ∧ (r8 = 4 → Q 1 S7) ∧ (r8 = 5 → Q 1 S7) ∧ (¬ r8 = 1 → ¬ r8 = 2 → ¬ r8 = 3 → ¬ r8 = 4 → ¬ r8 = 5 → Q (nI j) S7))) ∧ (¬ nI j ≤ 1 → jk S1 m = 11 ∧ jFi E mX11_of (d + 1) 0 0 [.ref m, .int (nI i), .int 0] S1 (fun r19 S18 => (r19 = 1 → Q (2 * nI j) S18) ∧ (r19 = 2 → Q (nI j - 1) S18) ∧ (r19 = 3 → jk S18 m = 11 ∧ jFi E mX11_of (d + 1) 0 0 [.ref m, .int (nI i), .int 5] S18 (fun r25 S24 => Q ((2 * nI j) + (r25 / 10)) S24)) ∧ (r19 = 4 → ((nI j - 1) ≤ 1 → Q 1 S18) ∧ (¬ (nI j - 1) ≤ 1 → Q ((nI j - 1) / 2) S18)) ∧ (r19 = 5 → Q 1 S18) ∧ (¬ r19 = 1 → ¬ r19 = 2 → ¬ r19 = 3 → ¬ r19 = 4 → ¬ r19 = 5 → Q (nI j) S18)))) := by
    intro S1 j j1 j2 c1 h1 et
    have hq := h S1 c1 h1
    rw [et] at hq
    have hne : ∀ w : Nat, w < 6 → nI kd = nI w → kd = w := fun w hw e => nI_inj (by omega) (by omega) e
    have q1 : nI kd = 1 → Q (2 * nI j) S1 := fun e => by
      have := hne 1 (by omega) e
      subst this
      rw [show (2 : Int32) = nI 2 from rfl, nI_mul]; exact hq
    have q3 : nI kd = 3 → jk S1 m = 11 ∧ jFi E mX11_of (d + 1) 0 0 [.ref m, .int (nI i), .int 5] S1 (fun r14 S13 => Q ((2 * nI j) + (r14 / 10)) S13) := fun e => by
      have := hne 3 (by omega) e
      subst this
      refine ⟨h1.k, c_X11_of (f := 5) h1 hi (by omega) ?_⟩
      rw [e5, jdiv10 ⟨ag, hag⟩, show (2 : Int32) = nI 2 from rfl, nI_mul, nI_add]; exact hq
    have q5 : nI kd = 5 → Q 1 S1 := fun e => by
      have := hne 5 (by omega) e
      subst this
      exact hq
    have q0 : ¬ nI kd = 1 → ¬ nI kd = 2 → ¬ nI kd = 3 → ¬ nI kd = 4 → ¬ nI kd = 5 → Q (nI j) S1 := fun n1 n2 n3 n4 n5 => by
      have : kd = 0 := by
        rcases (show kd = 0 ∨ kd = 1 ∨ kd = 2 ∨ kd = 3 ∨ kd = 4 ∨ kd = 5 by omega) with e | e | e | e | e | e
        · exact e
        · exact absurd (by rw [e]; rfl) n1
        · exact absurd (by rw [e]; rfl) n2
        · exact absurd (by rw [e]; rfl) n3
        · exact absurd (by rw [e]; rfl) n4
        · exact absurd (by rw [e]; rfl) n5
      subst this
      exact hq
    refine ⟨fun c => ⟨h1.k, c_X11_of (f := 0) h1 hi (by omega) ?_⟩, fun c => ⟨h1.k, c_X11_of (f := 0) h1 hi (by omega) ?_⟩⟩
    · have jj : j = 1 := by
        rw [show (1 : Int32) = nI 1 from rfl, nI_leI (by omega) (by omega)] at c; omega
      rw [e0]
      refine ⟨q1, fun e => ?_, q3, fun e => ?_, q5, q0⟩
      · have := hne 2 (by omega) e
        subst this; subst jj
        exact hq
      · have := hne 4 (by omega) e
        subst this; subst jj
        exact hq
    · have jj : 2 ≤ j := by
        rcases Nat.lt_or_ge j 2 with h9 | h9
        · exact absurd (by rw [show (1 : Int32) = nI 1 from rfl, nI_leI (by omega) (by omega)]; omega) c
        · exact h9
      obtain ⟨y, rfl⟩ : ∃ y, j = y + 1 := ⟨j - 1, by omega⟩
      rw [e0, nI_pred]
      refine ⟨q1, fun e => ?_, q3, fun e => ⟨fun c2 => ?_, fun c2 => ?_⟩, q5, q0⟩
      · have := hne 2 (by omega) e
        subst this
        have e9 : tdays 2 ag (y + 1) = y := by show (if y + 1 ≤ 1 then 1 else y + 1 - 1) = y; rw [if_neg (by omega)]; omega
        rw [e9] at hq; exact hq
      · have := hne 4 (by omega) e
        subst this
        have y1 : y ≤ 1 := by rw [show (1 : Int32) = nI 1 from rfl, nI_leI (by omega) (by omega)] at c2; exact c2
        have e9 : tdays 4 ag (y + 1) = 1 := by show (if y + 1 ≤ 3 then 1 else (y + 1 - 1) / 2) = 1; rw [if_pos (by omega)]
        rw [e9] at hq; exact hq
      · have := hne 4 (by omega) e
        subst this
        have y1 : 2 ≤ y := by
          rcases Nat.lt_or_ge y 2 with h9 | h9
          · exact absurd (by rw [show (1 : Int32) = nI 1 from rfl, nI_leI (by omega) (by omega)]; omega) c2
          · exact h9
        have hd2 : ∀ y : Fin 99, nI y.val / 2 = nI (y.val / 2) := by decide +kernel
        have e9 : tdays 4 ag (y + 1) = y / 2 := by
          show (if y + 1 ≤ 3 then 1 else (y + 1 - 1) / 2) = y / 2
          by_cases h3 : y + 1 ≤ 3
          · rw [if_pos h3, show y = 2 by omega]
          · rw [if_neg h3, show y + 1 - 1 = y by omega]
        rw [e9] at hq
        rw [hd2 ⟨y, by omega⟩]; exact hq
  have r30 := hM.1.row 15 128 (f := 30) rfl
  rw [show m + 1 + 15 = m + 16 by omega] at r30
  cases o with
  | none =>
    obtain ⟨cnt, c14, e1, e⟩ := hL
    refine T_X11_takes ⟨hM.k, c_X11_counts (w := 0) hM c14 e1 ?_⟩
    have e' : jlst v 0 cnt 0 (-1) = -1 := e
    rw [e']
    refine ⟨fun _ => ?_, fun c => absurd (by decide) c⟩
    have ek : (3 : Int32) + nI k = nI (3 + k) := nI_add 3 k
    rw [ek]
    refine fin S (3 + k) (by omega) (by omega) jch.rfl hM ?_
    show tdays kd ag (jcl99 (3 + nI k)) = _
    rw [jcl99_k ⟨k, hk⟩]
  | some q =>
    obtain ⟨t, m', n, ops, cw⟩ := q
    obtain ⟨cnt, c14, e1, e, ht, a1, a3, a4, a5⟩ := hL
    refine T_X11_takes ⟨hM.k, c_X11_counts (w := 0) hM c14 e1 ?_⟩
    have e' : jlst v 0 cnt 0 (-1) = nI t := e
    rw [e']
    refine ⟨fun c => absurd c (nI_pos (by omega)), fun _ => ⟨hM.k, _, r30.1, r30.2.1, by rw [r30.2.2]; exact jin_nI (n := 107) (by omega) (by omega), ?_⟩⟩
    have n107 : Int32.toNatClampNeg 107 = 107 := rfl
    have n103 : Int32.toNatClampNeg 103 = 103 := rfl
    have n97 : Int32.toNatClampNeg 97 = 97 := rfl
    rw [n107]
    have c1 : jch S (jput S (m + 16) 107 (nI k)) (m + 16) (m + 18) := jch.put (by omega) (by omega)
    have h1 := hM.keep c1 (by omega)
    refine c_X11_of (f := 2) h1 hi (by omega) ⟨r30.2.1, by show vp_in 103 (jl S (m + 16)); rw [r30.2.2]; exact jin_nI (n := 103) (by omega) (by omega), h1.k, _, r30.1, ?_⟩
    rw [n103, e2]
    have c2 := c1.trans (jch.put (S := jput S (m + 16) 107 (nI k)) (a := m + 16) (j := 103) (v := nI tg) (by omega) (by omega))
    have h2 := hM.keep c2 (by omega)
    refine c_X11_of (f := 5) h2 hi (by omega) ⟨r30.2.1, by show vp_in 97 (jl S (m + 16)); rw [r30.2.2]; exact jin_nI (n := 97) (by omega) (by omega), h2.k, ?_⟩
    rw [n97, e5]
    have c3 := c2.trans (jch.put (S := jput (jput S (m + 16) 107 (nI k)) (m + 16) 103 (nI tg)) (a := m + 16) (j := 97) (v := nI ag) (by omega) (by omega))
    have h3 := hM.keep c3 (by omega)
    refine c_X11_worked (vals := jv3 (nI k) (nI tg) (nI ag)) h3 (by omega) (by omega) a4 a5 (fun i hi9 => ?_) (fun S4 c4 => ?_)
    · have hi9 : i < 3 := hi9
      rcases (show i = 0 ∨ i = 1 ∨ i = 2 by omega) with rfl | rfl | rfl
      · show ji _ (m + 16) 107 = nI k
        rw [ji_put, if_neg (by omega), ji_put, if_neg (by omega), ji_put_same]
      · show ji _ (m + 16) 103 = nI tg
        rw [ji_put, if_neg (by omega), ji_put_same]
      · show ji _ (m + 16) 97 = nI ag
        rw [ji_put_same]
    · have c5 : jch S S4 (m + 16) (m + 18) := c3.trans (c4.wide (by omega) (by omega))
      obtain ⟨z1, z2, z3, z4⟩ := jcl99_is (fvt (jv3 (nI k) (nI tg) (nI ag)) cw n 0)
      rw [z3]
      exact fin S4 _ z1 z2 c5 (hM.keep c5 (by omega)) rfl
end jTakes
end
section
/-! TOLD, FAME, FINE, WHY, TEXTTOLD, MADE, LEARN on both sides -/
theorem jbm {k : Nat} (h : k < 1024) : jbc (nI k) = jmany (nI k) := jbc_many ⟨k, h⟩
theorem jbm_and {k : Nat} (h : k < 1024) (y : Int32) : jbc (nI k &&& y) = jmany (nI k &&& y) := by
  obtain ⟨k', hk, e⟩ := nI_andle h y
  rw [e]; exact jbm hk
theorem j_and_comm (a b : Int32) : a &&& b = b &&& a := Int32.and_comm a b
theorem jmany_le : ∀ n : Fin 1024, ∃ k : Fin 11, jmany (nI n.val) = nI k.val := by
  intro n
  have hd : ∀ n : Fin 1024, (jmany (nI n.val)).toBitVec.toNat < 11 := by decide +kernel
  exact ⟨⟨_, hd n⟩, nI_bv _⟩
section jTold
variable {E : jEnv} {d : Nat} {S S' : jM} {x r m sz M : Nat} {v : Nat → Int32}
/-- a master of the class, by the row -/
theorem XR.ms (h : XR S x sz v) {i f : Nat} (hi : i < 9) (hf : f < 7) : ji S (x + 2 + 2 + i) f = mfv v i f := h.g.at hi hf
theorem XR.mk (h : XR S x sz v) {i : Nat} (hi : i < 9) : jk S (x + 2 + 2 + i) = 2 := h.g.mk2 hi
theorem Rg.kd (h : Rg sz v) {i : Nat} (hi : i < 9) : ∃ k, k < 6 ∧ mfv v i 0 = nI k := h.msf i 0 hi (by omega)
theorem Rg.tw (h : Rg sz v) {i : Nat} (hi : i < 9) : ∃ k, k < 6 ∧ mfv v i 1 = nI k := h.msf i 1 hi (by omega)
theorem Rg.ge (h : Rg sz v) {i : Nat} (hi : i < 9) : ∃ k, k < 10 ∧ mfv v i 2 = nI k := h.msf i 2 hi (by omega)
theorem Rg.ba (h : Rg sz v) {i : Nat} (hi : i < 9) : ∃ k, k < 1024 ∧ mfv v i 3 = nI k := h.msf i 3 hi (by omega)
theorem Rg.fe (h : Rg sz v) {i : Nat} (hi : i < 9) : ∃ k, k < 100 ∧ mfv v i 4 = nI k := h.msf i 4 hi (by omega)
theorem Rg.ag (h : Rg sz v) {i : Nat} (hi : i < 9) : ∃ k, k < 100 ∧ mfv v i 5 = nI k := h.msf i 5 hi (by omega)
theorem Rg.de (h : Rg sz v) {i : Nat} (hi : i < 9) : mfv v i 6 = 0 ∨ mfv v i 6 = 1 := by
  obtain ⟨k, hk, e⟩ := h.msf i 6 hi (by omega)
  have hk : k < 2 := hk
  rcases (show k = 0 ∨ k = 1 by omega) with rfl | rfl
  · exact Or.inl e
  · exact Or.inr e
theorem c_X11_teaches {Q : Int32 → jM → Prop} {i k : Nat} (hM : MR S m v) (hg : Rg sz v) (hi : i < 9) (hk : k < 1024) (h : Q (jteach (mfv v i 0) (mfv v i 3) (nI k)) S) : jFi E mX11_teaches (d + 1) 0 0 [.ref m, .int (nI i), .int (nI k)] S Q := by
  obtain ⟨b, hb, eb⟩ := hg.ba hi
  have e1 : jmany (nI k &&& mfv v i 3) = jbc (mfv v i 3 &&& nI k) := by rw [j_and_comm (mfv v i 3), jbm_and hk]
  have e2 : jmany (nI k) = jbc (nI k) := (jbm hk).symm
  have e3 : (2 ≤ jbc (mfv v i 3 &&& nI k)) ↔ 1 < jbc (mfv v i 3 &&& nI k) := by
    rw [Int32.le_iff_toInt_le, Int32.lt_iff_toInt_lt]
    have a2 : (2 : Int32).toInt = 2 := by decide
    have a1 : (1 : Int32).toInt = 1 := by decide
    omega
  refine T_X11_teaches ⟨hM.k, c_X11_of (f := 3) hM hi (by omega) ⟨hM.k, c_X11_of (f := 0) hM hi (by omega) ?_⟩⟩
  rw [e1, e2, e3]
  unfold jteach at h
  generalize mfv v i 0 = kd at h ⊢
  generalize jbc (mfv v i 3 &&& nI k) = b1 at h ⊢
  generalize jbc (nI k) = b2 at h ⊢
  refine ⟨fun c => ?_, fun c => ⟨fun c1 => ⟨fun c2 => ?_, fun c2 => ?_⟩, fun c1 => ?_⟩, fun c => ?_, fun c => ⟨fun c1 => ?_, fun c1 => ?_⟩, fun n2 n3 n4 n5 => ⟨fun c1 => ?_, fun c1 => ?_⟩⟩
  all_goals simp_all
theorem c_X11_worth {Q : Int32 → jM → Prop} {i : Nat} (hM : MR S m v) (hi : i < 9) (h : Q (jworth (mfv v i 0) (mfv v i 4)) S) : jFi E mX11_worth (d + 1) 0 0 [.ref m, .int (nI i)] S Q := by
  refine T_X11_worth ⟨hM.k, c_X11_of (f := 4) hM hi (by omega) ⟨hM.k, c_X11_of (f := 0) hM hi (by omega) ?_⟩⟩
  have e95 : ∀ f : Int32, 99 - f - 4 = 95 - f := fun f => by
    rw [Int32.sub_eq_add_neg, Int32.sub_eq_add_neg, Int32.sub_eq_add_neg, Int32.add_assoc, Int32.add_comm (-f), ← Int32.add_assoc]
    rfl
  unfold jworth at h
  rw [e95] at h
  generalize mfv v i 0 = kd at h ⊢
  generalize mfv v i 4 = f at h ⊢
  refine ⟨fun c => ?_, fun c => ?_, fun c => ?_, fun c => ?_, fun c => ?_, fun n1 n2 n3 n4 n5 => ?_⟩
  all_goals simp_all
theorem PI.kn (h : PI S x sz v) : ∃ k, k < 1024 ∧ v 4 = nI k := h.2.2.kn
theorem jch.fq97 (h : jch S S' (x + 94 + 16) (x + 94 + 18)) : jfq S S' x := ⟨h.1, fun y _ _ _ _ _ c _ _ => h.2 y (by omega)⟩
theorem jch.pi97 (h : jch S S' (x + 94 + 16) (x + 94 + 18)) (hP : PI S x sz v) : PI S' x sz v :=
  ⟨hP.1.of h.1 (hP.1.2.2.keep h (by omega)), hP.2.1.keep h (by omega), hP.2.2⟩
/-- both calls left the two sides as they were -/
theorem IV.still {S1 S2 : jM} (h : IV S x sz M v) (h1 : jpi S S1 x) (h2 : jch S1 S2 (x + 94 + 16) (x + 94 + 18)) : INV S2 x M :=
  ⟨sz, v, h.next (h1.fq.trans h2.fq97) (h2.pi97 (h1.pi h.1)) (fun _ _ _ => rfl)⟩
theorem Q_told {w u : Int32} (h : IV S x sz M v) : jFi E mX10_told (d + 4) 0 0 [.ref x, .int w, .int u] S (fun r S1 => jFm E mX11_told (d + 3) (x + 94) [.int w, .int u] S1 (fun r' S2 => r = r' ∧ INV S2 x M)) := by
  obtain ⟨hX, hM, hg⟩ := id h.1
  have hz := hX.sz9
  have eu : jisin (Int32.toInt64 u) 0 9 = jwi u 10 := jisin_wi u 10 9 rfl (jle_lt (by decide))
  refine T_X10_told ⟨hX.1, x + 1, hX.2.1, hX.k3, x + 2, hX.r0, hX.g.1.1, c_X0_find hX.g.1 hX.g.2.1 hz (fun n hn e => ⟨fun c => absurd c (by simp), fun b eb => ?_⟩) (fun hno => ⟨fun _ => ?_, fun b e => absurd e (by simp)⟩)⟩
  · obtain rfl : x + 2 + 2 + n = b := Option.some.inj eb
    subst e
    have n9 : n < 9 := by omega
    have ism : ∀ {Q : Int32 → jM → Prop} {S1 : jM}, MR S1 (x + 94) v → Q 1 S1 → jFi E mX11_isMaster (d + 2) 0 0 [.ref (x + 94), .int (nI n)] S1 Q := fun hM1 hq => c_X11_isMaster hM1 hX.v0 hz (fun _ _ _ => hq) (fun hh => absurd rfl (hh n hn))
    have k2 := hX.mk n9
    have small : ∀ f : Nat, f < 7 → ∀ r, r = mfv v n f → jFm E mX11_told (d + 3) (x + 94) [.int (nI n), .int (nI f)] S (fun r' S2 => r = r' ∧ INV S2 x M) := by
      intro f hf r hr
      refine U_X11_told hM.k ⟨hM.k, ism hM ⟨fun c => absurd c (by decide), fun _ => ⟨fun c => absurd c ?_, fun _ => ⟨fun c => absurd c ?_, fun _ => ⟨hM.k, c_X11_of hM n9 hf ⟨hr, h.inv⟩⟩⟩⟩⟩⟩
      · have e9 : jisin (Int32.toInt64 (nI f)) 0 9 = jwi (nI f) 10 := jisin_wi (nI f) 10 9 rfl (jle_lt (by decide))
        rw [e9, show (10 : Int32) = nI 10 from rfl, jwi_at (by omega) (by omega)]; decide
      · rw [show (7 : Int32) = nI 7 from rfl]; exact nI_ge (by omega) (by omega)
    have kn := hg.kn
    obtain ⟨kk, hkk, ekk⟩ := kn
    have i4 := hM.at (i := 4) 4 rfl (by omega)
    refine ⟨hX.1, x + 1, hX.2.1, hX.k3, x + 16, hX.r2, fun c => ⟨k2, ?_⟩, fun c => ⟨k2, ?_⟩, fun c => ⟨k2, ?_⟩, fun c => ⟨k2, ?_⟩, fun c => ⟨k2, ?_⟩, fun c => ⟨k2, ?_⟩, fun c => ⟨k2, fun c6 => ?_, fun c6 => ?_⟩, fun c => ⟨hX.l.1.1, ?_⟩, fun c => ⟨hX.l.1.1, k2, c_X2_teaches k2 ?_⟩, fun c => ⟨k2, c_X2_worth k2 ?_⟩, fun c0 c1 c2 c3 c4 c5 c6 c7 c8 c9 => ?_⟩
    · subst c; exact small 0 (by omega) _ (hX.ms n9 (by omega))
    · subst c; exact small 1 (by omega) _ (hX.ms n9 (by omega))
    · subst c; exact small 2 (by omega) _ (hX.ms n9 (by omega))
    · subst c; exact small 3 (by omega) _ (hX.ms n9 (by omega))
    · subst c; exact small 4 (by omega) _ (hX.ms n9 (by omega))
    · subst c; exact small 5 (by omega) _ (hX.ms n9 (by omega))
    · subst c
      rw [hX.ms n9 (by omega)] at c6
      exact small 6 (by omega) _ c6.symm
    · subst c
      rw [hX.ms n9 (by omega)] at c6
      rcases hg.de n9 with e | e
      · exact absurd e c6
      · exact small 6 (by omega) _ e.symm
    · subst c
      obtain ⟨kd, hkd, ekd⟩ := hg.kd n9
      obtain ⟨tg, htg, etg⟩ := hg.ge n9
      obtain ⟨ag, hag, eag⟩ := hg.ag n9
      obtain ⟨o, hL⟩ := LWD_ex (key := 0) (by omega) h.2.2.2.2.1
      obtain ⟨⟨c9, hc9⟩, ec9⟩ := jmany_le ⟨kk, hkk⟩
      have ec : jbc (ji S (x + 16) 1) = nI c9 := by rw [hX.l.2.2.1, ekk, jbm hkk]; exact ec9
      rw [ec]
      refine c_X3_daysTaken (M := M) hX.2.2 h.2.2.2.2.1 hL k2 (by omega) ((hX.ms n9 (by omega)).trans ekd) ((hX.ms n9 (by omega)).trans etg) ((hX.ms n9 (by omega)).trans eag) hkd hag (fun S1 p1 => ?_)
      have hP1 := p1.pi h.1
      have hM1 := hP1.2.1
      have j4 := hM1.at (i := 4) 4 rfl (by omega)
      refine U_X11_told hM1.k ⟨hM1.k, ism hM1 ⟨fun c => absurd c (by decide), fun _ => ⟨fun c => absurd c (by decide), fun _ => ⟨fun _ => ⟨fun _ => ⟨hM1.k, _, hM1.r, hM1.k1, j4.1, ?_⟩, fun c => absurd rfl c⟩, fun c => absurd (by decide) c⟩⟩⟩⟩
      rw [j4.2, ekk, show jmany (nI kk) = nI c9 from ec9]
      exact c_X11_takes (o := o) hM1 (hL.keep p1.fq) n9 ekd etg eag hkd hag (by omega) (fun S2 c2 _ => ⟨rfl, h.still p1 c2⟩)
    · subst c
      rw [hX.l.2.2.1, hX.ms n9 (by omega), hX.ms n9 (by omega)]
      refine ⟨fun c => ?_, fun c => ?_⟩
      · refine U_X11_told hM.k ⟨hM.k, ism hM ⟨fun c => absurd c (by decide), fun _ => ⟨fun c => absurd c (by decide), fun _ => ⟨fun _ => ⟨fun c => absurd c (by decide), fun _ => ⟨fun c => absurd c (by decide), fun _ => ⟨hM.k, _, hM.r, hM.k1, i4.1, ?_⟩⟩⟩, fun c => absurd (by decide) c⟩⟩⟩⟩
        rw [i4.2, ekk]
        rw [ekk] at c
        exact c_X11_teaches hM hg n9 hkk ⟨fun _ => ⟨rfl, h.inv⟩, fun c2 => absurd c c2⟩
      · refine U_X11_told hM.k ⟨hM.k, ism hM ⟨fun c => absurd c (by decide), fun _ => ⟨fun c => absurd c (by decide), fun _ => ⟨fun _ => ⟨fun c => absurd c (by decide), fun _ => ⟨fun c => absurd c (by decide), fun _ => ⟨hM.k, _, hM.r, hM.k1, i4.1, ?_⟩⟩⟩, fun c => absurd (by decide) c⟩⟩⟩⟩
        rw [i4.2, ekk]
        rw [ekk] at c
        exact c_X11_teaches hM hg n9 hkk ⟨fun c2 => absurd c2 c, fun _ => ⟨rfl, h.inv⟩⟩
    · subst c
      rw [hX.ms n9 (by omega), hX.ms n9 (by omega)]
      exact U_X11_told hM.k ⟨hM.k, ism hM ⟨fun c => absurd c (by decide), fun _ => ⟨fun c => absurd c (by decide), fun _ => ⟨fun _ => ⟨fun c => absurd c (by decide), fun _ => ⟨fun _ => ⟨hM.k, c_X11_worth hM n9 ⟨rfl, h.inv⟩⟩, fun c => absurd rfl c⟩⟩, fun c => absurd (by decide) c⟩⟩⟩⟩
    · have hu : jwi u 10 = 0 := by
        rcases jwi_cases u (b := 10) 10 rfl (by omega) with ⟨j, hj, e, -⟩ | ⟨-, e⟩
        · rcases (show j = 0 ∨ j = 1 ∨ j = 2 ∨ j = 3 ∨ j = 4 ∨ j = 5 ∨ j = 6 ∨ j = 7 ∨ j = 8 ∨ j = 9 by omega) with rfl | rfl | rfl | rfl | rfl | rfl | rfl | rfl | rfl | rfl
          · exact absurd e c0
          · exact absurd e c1
          · exact absurd e c2
          · exact absurd e c3
          · exact absurd e c4
          · exact absurd e c5
          · exact absurd e c6
          · exact absurd e c7
          · exact absurd e c8
          · exact absurd e c9
        · exact e
      exact U_X11_told hM.k ⟨hM.k, ism hM ⟨fun c => absurd c (by decide), fun _ => ⟨fun _ => ⟨rfl, h.inv⟩, fun c => absurd (eu.trans hu) c⟩⟩⟩
  · exact U_X11_told hM.k ⟨hM.k, c_X11_isMaster hM hX.v0 hz (fun j hj e => absurd e (hno j hj)) (fun _ => ⟨fun _ => ⟨rfl, h.inv⟩, fun c => absurd rfl c⟩)⟩
end jTold
end
section
/-! FAME, FINE, WHY, TEXTTOLD, MADE, LEARN on both sides -/
section jLearn
variable {E : jEnv} {d : Nat} {S S' : jM} {x r m sz M : Nat} {v : Nat → Int32}
theorem c_X3_fameOf {Q : Int32 → jM → Prop} {o : lwt} {a : Nat} {fe ag : Int32} (hR : RmR S r sz v) (hT : TXS S x (r + 19) M v) (hL : LWD S x (r + 19) v 1 o) (ha : jk S a = 2) (e4 : ji S a 4 = fe) (e5 : ji S a 5 = ag) (h : ∀ S', jpi S S' x → Q (lwv o fe fe ag 0) S') : jFi E mX3_fameOf (d + 2) 0 0 [.ref r, .ref a] S Q := by
  refine T_X3_fameOf ⟨hR.1.1, c_X3_law (key := 1) hR hT hL (fun e => ?_) (fun t m n ops cw e => ?_) (fun w hw => ⟨hR.1.1, hw⟩)⟩
  · subst e
    refine ⟨fun _ => ⟨ha, ?_⟩, fun b c => absurd c (by simp)⟩
    rw [e4]; exact h S jpi.rfl
  · subst e
    refine ⟨fun c => absurd c (by simp), fun b c => ?_⟩
    obtain rfl : x + 115 + 3 * m + 1 = b := Option.some.inj c
    obtain ⟨cnt, c14, e1, e, ht, a1, a3, a4, a5⟩ := hL
    refine ⟨ha, a3.1, ?_⟩
    rw [e4, e5]
    exact c_X9_workOut a3 a5 (fun S1 c1 => h S1 (jpi.pile c1))
theorem c_X3_fineNow {Q : Int32 → jM → Prop} {o : lwt} (hR : RmR S r sz v) (hT : TXS S x (r + 19) M v) (hL : LWD S x (r + 19) v 2 o) (h : ∀ S', jpi S S' x → Q (lwv o (v 5) (v 5) (v 2) 0) S') : jFi E mX3_fineNow (d + 2) 0 0 [.ref r] S Q := by
  obtain ⟨l1, l2, l3, l4, l5, l6, -⟩ := id hR.2.2.2.2.2.1
  have r2 := hR.1.2.2.2.1
  refine T_X3_fineNow ⟨hR.1.1, c_X3_law (key := 2) hR hT hL (fun e => ?_) (fun t m n ops cw e => ?_) (fun w hw => ⟨hR.1.1, hw⟩)⟩
  · subst e
    refine ⟨fun _ => ⟨hR.1.1, _, r2, l1.1, ?_⟩, fun b c => absurd c (by simp)⟩
    rw [l4]; exact h S jpi.rfl
  · subst e
    refine ⟨fun c => absurd c (by simp), fun b c => ?_⟩
    obtain rfl : x + 115 + 3 * m + 1 = b := Option.some.inj c
    obtain ⟨cnt, c14, e1, e, ht, a1, a3, a4, a5⟩ := hL
    refine ⟨hR.1.1, _, r2, l1.1, a3.1, ?_⟩
    rw [l4, l6]
    exact c_X9_workOut a3 a5 (fun S1 c1 => h S1 (jpi.pile c1))
theorem Q_fame {w : Int32} (h : IV S x sz M v) : jFi E mX10_fame (d + 3) 0 0 [.ref x, .int w] S (fun r S1 => jFm E mX11_fame (d + 3) (x + 94) [.int w] S1 (fun r' S2 => r = r' ∧ INV S2 x M)) := by
  obtain ⟨hX, hM, hg⟩ := id h.1
  have hz := hX.sz9
  refine T_X10_fame ⟨hX.1, x + 1, hX.2.1, hX.k3, x + 2, hX.r0, hX.g.1.1, c_X0_find hX.g.1 hX.g.2.1 hz (fun i hn e => ⟨fun c => absurd c (by simp), fun b eb => ?_⟩) (fun hno => ⟨fun _ => ?_, fun b e => absurd e (by simp)⟩)⟩
  · obtain rfl : x + 2 + 2 + i = b := Option.some.inj eb
    subst e
    have n9 : i < 9 := by omega
    obtain ⟨o, hL⟩ := LWD_ex (key := 1) (by omega) h.2.2.2.2.1
    refine ⟨hX.1, x + 1, hX.2.1, hX.k3, c_X3_fameOf (M := M) (o := o) hX.2.2 h.2.2.2.2.1 hL (hX.mk n9) (hX.ms n9 (by omega)) (hX.ms n9 (by omega)) (fun S1 p1 => ?_)⟩
    have hP1 := p1.pi h.1
    have hM1 := hP1.2.1
    have hL1 := hL.keep p1.fq
    have r30 := hM1.1.row 15 128 (f := 30) rfl
    rw [show x + 94 + 1 + 15 = x + 94 + 16 by omega] at r30
    refine U_X11_fame hM1.k ⟨hM1.k, c_X11_isMaster hM1 hX.v0 hz (fun _ _ _ => ⟨fun c => absurd c (by decide), fun _ => ⟨hM1.k, ?_⟩⟩) (fun hh => absurd rfl (hh i hn))⟩
    cases o with
    | none =>
      obtain ⟨cnt, c14, e1, e⟩ := hL1
      refine c_X11_counts (w := 1) hM1 c14 e1 ?_
      have e' : jlst v 1 cnt 0 (-1) = -1 := e
      rw [e']
      exact ⟨fun c => absurd c j0m1, fun _ => ⟨hM1.k, c_X11_of (f := 4) hM1 n9 (by omega) ⟨rfl, sz, v, h.next p1.fq hP1 (fun _ _ _ => rfl)⟩⟩⟩
    | some q =>
      obtain ⟨t, m', n, ops, cw⟩ := q
      obtain ⟨cnt, c14, e1, e, ht, a1, a3, a4, a5⟩ := hL1
      refine c_X11_counts (w := 1) hM1 c14 e1 ?_
      have e' : jlst v 1 cnt 0 (-1) = nI t := e
      rw [e']
      refine ⟨fun _ => ⟨hM1.k, _, r30.1, c_X11_of (f := 4) hM1 n9 (by omega) ⟨r30.2.1, by rw [r30.2.2]; exact jin_nI (n := 102) (by omega) (by omega), hM1.k, _, r30.1, ?_⟩⟩, fun c => absurd (nI_pos' (by omega)) c⟩
      have n102 : Int32.toNatClampNeg 102 = 102 := rfl
      have n97 : Int32.toNatClampNeg 97 = 97 := rfl
      rw [n102]
      have c2 : jch S1 (jput S1 (x + 94 + 16) 102 (mfv v i 4)) (x + 94 + 16) (x + 94 + 18) := jch.put (by omega) (by omega)
      have h2 := hM1.keep c2 (by omega)
      refine c_X11_of (f := 5) h2 n9 (by omega) ⟨r30.2.1, by show vp_in 97 (jl S1 (x + 94 + 16)); rw [r30.2.2]; exact jin_nI (n := 97) (by omega) (by omega), h2.k, ?_⟩
      rw [n97]
      have c3 := c2.trans (jch.put (S := jput S1 (x + 94 + 16) 102 (mfv v i 4)) (a := x + 94 + 16) (j := 97) (v := mfv v i 5) (by omega) (by omega))
      refine c_X11_worked (vals := jv3 (mfv v i 4) (mfv v i 5) 0) (hM1.keep c3 (by omega)) (by omega) (by omega) a4 a5 (fun k hk9 => ?_) (fun S4 c4 => ⟨rfl, h.still p1 (c3.trans (c4.wide (by omega) (by omega)))⟩)
      have hk9 : k < 2 := hk9
      rcases (show k = 0 ∨ k = 1 by omega) with rfl | rfl
      · show ji _ (x + 94 + 16) 102 = mfv v i 4
        rw [ji_put, if_neg (by omega), ji_put_same]
      · show ji _ (x + 94 + 16) 97 = mfv v i 5
        rw [ji_put_same]
  · exact U_X11_fame hM.k ⟨hM.k, c_X11_isMaster hM hX.v0 hz (fun j hj e => absurd e (hno j hj)) (fun _ => ⟨fun _ => ⟨rfl, h.inv⟩, fun c => absurd rfl c⟩)⟩
theorem Q_fine (h : IV S x sz M v) : jFi E mX10_fine (d + 3) 0 0 [.ref x] S (fun r S1 => jFm E mX11_fine (d + 3) (x + 94) [] S1 (fun r' S2 => r = r' ∧ INV S2 x M)) := by
  obtain ⟨hX, hM, hg⟩ := id h.1
  obtain ⟨o, hL⟩ := LWD_ex (key := 2) (by omega) h.2.2.2.2.1
  refine T_X10_fine ⟨hX.1, x + 1, hX.2.1, hX.k3, c_X3_fineNow (M := M) (o := o) hX.2.2 h.2.2.2.2.1 hL (fun S1 p1 => ?_)⟩
  have hP1 := p1.pi h.1
  have hM1 := hP1.2.1
  have hL1 := hL.keep p1.fq
  have r30 := hM1.1.row 15 128 (f := 30) rfl
  rw [show x + 94 + 1 + 15 = x + 94 + 16 by omega] at r30
  have i5 := hM1.at (i := 5) 5 rfl (by omega)
  have i2 := hM1.at (i := 2) 2 rfl (by omega)
  cases o with
  | none =>
    obtain ⟨cnt, c14, e1, e⟩ := hL1
    refine U_X11_fine hM1.k ⟨hM1.k, c_X11_counts (w := 2) hM1 c14 e1 ?_⟩
    have e' : jlst v 2 cnt 0 (-1) = -1 := e
    rw [e']
    refine ⟨fun c => absurd c j0m1, fun _ => ⟨hM1.k, _, hM1.r, hM1.k1, i5.1, ?_⟩⟩
    rw [i5.2]
    exact ⟨rfl, sz, v, h.next p1.fq hP1 (fun _ _ _ => rfl)⟩
  | some q =>
    obtain ⟨t, m', n, ops, cw⟩ := q
    obtain ⟨cnt, c14, e1, e, ht, a1, a3, a4, a5⟩ := hL1
    refine U_X11_fine hM1.k ⟨hM1.k, c_X11_counts (w := 2) hM1 c14 e1 ?_⟩
    have e' : jlst v 2 cnt 0 (-1) = nI t := e
    rw [e']
    have n99 : Int32.toNatClampNeg 99 = 99 := rfl
    have n100 : Int32.toNatClampNeg 100 = 100 := rfl
    refine ⟨fun _ => ⟨hM1.k, _, r30.1, _, hM1.r, hM1.k1, i5.1, r30.2.1, by rw [r30.2.2]; exact jin_nI (n := 99) (by omega) (by omega), i2.1, by rw [r30.2.2]; exact jin_nI (n := 100) (by omega) (by omega), ?_⟩, fun c => absurd (nI_pos' (by omega)) c⟩
    rw [n99, n100, ji_put_ne _ _ _ _ (by omega), i5.2, i2.2]
    have c2 : jch S1 (jput S1 (x + 94 + 16) 99 (v 5)) (x + 94 + 16) (x + 94 + 18) := jch.put (by omega) (by omega)
    have c3 := c2.trans (jch.put (S := jput S1 (x + 94 + 16) 99 (v 5)) (a := x + 94 + 16) (j := 100) (v := v 2) (by omega) (by omega))
    refine c_X11_worked (vals := jv3 (v 5) (v 2) 0) (hM1.keep c3 (by omega)) (by omega) (by omega) a4 a5 (fun k hk9 => ?_) (fun S4 c4 => ⟨rfl, h.still p1 (c3.trans (c4.wide (by omega) (by omega)))⟩)
    have hk9 : k < 2 := hk9
    rcases (show k = 0 ∨ k = 1 by omega) with rfl | rfl
    · show ji _ (x + 94 + 16) 99 = v 5
      rw [ji_put, if_neg (by omega), ji_put_same]
    · show ji _ (x + 94 + 16) 100 = v 2
      rw [ji_put_same]
theorem Q_why {w : Int32} (h : IV S x sz M v) : jFi E mX10_why (d + 2) 0 0 [.ref x, .int w] S (fun r S1 => jFm E mX11_why (d + 2) (x + 94) [.int w] S1 (fun r' S2 => r = r' ∧ INV S2 x M)) := by
  obtain ⟨hX, hM, hg⟩ := id h.1
  have ew : jisin (Int32.toInt64 w) 0 2 = jwi w 3 := jisin_wi w 3 2 rfl (jle_lt (by decide))
  obtain ⟨cnt, c14, e1, -⟩ := id h.2.2.2.2.1
  refine T_X10_why ⟨fun c => U_X11_why hM.k ⟨fun _ => ⟨rfl, h.inv⟩, fun c1 => absurd (ew.trans c) c1⟩, fun c => ⟨hX.1, x + 1, hX.2.1, hX.k3, c_X3_numberOfLaw (M := M) hX.2.2 h.2.2.2.2.1 c14 e1 ?_⟩⟩
  have ref : ∀ r, r = jornone (jlst v w cnt 0 (-1)) → jFm E mX11_why (d + 2) (x + 94) [.int w] S (fun r' S2 => r = r' ∧ INV S2 x M) := fun r hr =>
    U_X11_why hM.k ⟨fun c1 => absurd (ew.symm.trans c1) c, fun _ => ⟨hM.k, c_X11_counts hM c14 e1 ⟨hr, h.inv⟩⟩⟩
  refine ⟨fun c0 => ref _ ?_, fun c0 => ref _ ?_⟩
  · unfold jornone; rw [if_pos c0]
  · unfold jornone; rw [if_neg c0]
theorem Q_textTold {w u : Int32} (h : IV S x sz M v) : jFi E mX10_textTold (d + 2) 0 0 [.ref x, .int w, .int u] S (fun r S1 => jFm E mX11_textTold (d + 2) (x + 94) [.int w, .int u] S1 (fun r' S2 => r = r' ∧ INV S2 x M)) := by
  obtain ⟨hX, hM, hg⟩ := id h.1
  have eu : jisin (Int32.toInt64 u) 0 1 = jwi u 2 := jisin_wi u 2 1 rfl (jle_lt (by decide))
  obtain ⟨cnt, c14, e1, hT, -⟩ := id h.2.2.2.2.1
  obtain ⟨⟨k1, -, -, -, -, k6, -, -, k9, k10⟩, -⟩ := id hX.2.2
  have n6 := hX.2.2.n6
  have i1 := hM.at (i := 1) 1 rfl (by omega)
  have isx : ∀ {Q : Int32 → jM → Prop}, Q (jwi w (nI cnt)) S → jFi E mX11_isText (d + 1) 0 0 [.ref (x + 94), .int w] S Q := by
    intro Q hq
    refine T_X11_isText ⟨hM.k, _, hM.r, hM.k1, i1.1, jisin01 _ _ _, ?_⟩
    rw [i1.2, e1]
    have e9 : jisin (Int32.toInt64 w) 0 (Int32.toInt64 (nI cnt - 1)) = jwi w (nI cnt) := by
      refine jisin_wi w (nI cnt) (nI cnt - 1) rfl (jle_lt ?_)
      cases cnt with
      | zero => decide
      | succ y => rw [nI_pred, nI_toInt (by omega), nI_toInt (by omega)]; omega
    rw [e9]; exact hq
  refine T_X10_textTold ⟨hX.1, x + 1, hX.2.1, hX.k3, T_X3_findText ⟨k1, fun c => ?_, fun c => ?_⟩⟩
  · rw [n6, e1] at c
    refine ⟨fun _ => U_X11_textTold hM.k ⟨hM.k, isx ?_⟩, fun b e => absurd e (by simp)⟩
    rw [c]; exact ⟨fun _ => ⟨rfl, h.inv⟩, fun c => absurd rfl c⟩
  · rw [n6, e1] at c
    rcases jwi_cases w (b := nI cnt) cnt rfl (by omega) with ⟨t, ht, e, e9⟩ | ⟨-, e⟩
    · subst e
      obtain ⟨m', key, n, ops, cw, hm, a1, a2, a3, a4, a5⟩ := hT t ht
      refine ⟨fun c => absurd c (nI_ge (b := 14) (by omega) (by omega)), fun _ => ⟨x + 20, k6, k9, by rw [k10]; exact jin_nI (by omega) (by omega), fun c2 => ?_, fun b c2 => ?_⟩⟩
      · rw [jcl (by omega), a1] at c2; exact absurd c2 (by simp)
      · rw [jcl (by omega), a1] at c2
        obtain rfl : x + 115 + 3 * m' + 1 = b := Option.some.inj c2
        refine ⟨fun c => absurd c (by simp), fun b eb => ?_⟩
        obtain rfl : x + 115 + 3 * m' + 1 = b := Option.some.inj eb
        refine ⟨fun cu => U_X11_textTold hM.k ⟨hM.k, isx ?_⟩, fun cu => ?_⟩
        · rw [e9]; exact ⟨fun c => absurd c (by decide), fun _ => ⟨fun _ => ⟨rfl, h.inv⟩, fun c => absurd (eu.trans cu) c⟩⟩
        · have ref : ∀ (f : Nat) (r : Int32), f < 2 → u = nI f → r = v (135 + 200 * t + f) → jFm E mX11_textTold (d + 2) (x + 94) [.int (nI t), .int u] S (fun r' S2 => r = r' ∧ INV S2 x M) := by
            intro f r hf ef hr
            have ia := hM.at (i := jtextat (nI t) + u) (135 + 200 * t + f) (by rw [ef]; exact nI_txt t f) (by omega)
            refine U_X11_textTold hM.k ⟨hM.k, isx ?_⟩
            rw [e9]
            refine ⟨fun c => absurd c (by decide), fun _ => ⟨fun c => absurd (eu.symm.trans c) cu, fun _ => ⟨hM.k, _, hM.r, hM.k1, ia.1, ?_⟩⟩⟩
            rw [ia.2]; exact ⟨hr, h.inv⟩
          refine ⟨fun c0 => ⟨a3.1, ref 0 _ (by omega) c0 ?_⟩, fun c0 => ⟨a3.1, ref 1 _ (by omega) ?_ ?_⟩⟩
          · rw [a3.2.2.2.2.2.2.2.1]; exact a4.1.symm
          · rcases jwi_cases u (b := 2) 2 rfl (by omega) with ⟨j, hj, e, -⟩ | ⟨-, e⟩
            · rcases (show j = 0 ∨ j = 1 by omega) with rfl | rfl
              · exact absurd e c0
              · exact e
            · exact absurd e cu
          · rw [a3.2.2.2.2.2.2.2.2.1, show 135 + 200 * t + 1 = 136 + 200 * t by omega]; exact a4.2.1.symm
    · exact absurd e c
/-! made -/
def vus (g : Int32) (v : Nat → Int32) : Nat → Int32 := if jable (v 4) g = 0 then v else vday 1 (upd v (26 + g.toNatClampNeg) 0)
theorem vus_o {g : Int32} {j : Nat} (h : j ≠ 2) (h4 : j ≠ 4) (hj : j < 26 ∨ 36 ≤ j) (hg : ∃ k, k < 10 ∧ g = nI k) : vus g v j = v j := by
  obtain ⟨k, hk, rfl⟩ := hg
  unfold vus
  split
  · rfl
  · rw [(vday_at _ _).2.2.2 j h h4 hj, jcl (by omega), upd_ne _ (by omega)]
theorem C_prac {Q : Int32 → jM → Prop} {g : Nat} (hX : XR S x sz v) (hg : Rg sz v) (hg10 : g < 10) (h : ∀ r S', jch S S' (x + 16) (x + 19) → XR S' x sz (vus (nI g) v) → Rg sz (vus (nI g) v) → Q r S') : jFi E mX1_practise (d + 3) 0 0 [.ref (x + 16), .int (nI g)] S Q := by
  refine c_X1_practise hX.l (fun h0 => ?_) (fun g' hg' e h0 S1 c1 l1 => ?_)
  · have e : vus (nI g) v = v := by unfold vus; rw [if_pos h0]
    exact h 0 S jch.rfl (by rw [e]; exact hX) (by rw [e]; exact hg)
  · obtain rfl : g' = g := nI_inj (by omega) (by omega) e.symm
    obtain ⟨h1, g1⟩ := PI.day (u := upd v (26 + g') 0) (n := 1) (b := 1) hX hg (fun j hj => upd_ne 0 (by omega)) rfl (by omega) c1 (by
      have e : (fun i => upd v (26 + g') 0 (26 + i)) = upd (fun i => v (26 + i)) g' 0 := by
        funext i
        unfold upd
        by_cases hi : i = g'
        · rw [if_pos hi, if_pos (by omega)]
        · rw [if_neg hi, if_neg (by omega)]
      rw [e]; exact l1)
    have e : vus (nI g') v = vday 1 (upd v (26 + g') 0) := by unfold vus; rw [if_neg h0, jcl (by omega)]
    exact h 1 S1 c1 (by rw [e]; exact h1) (by rw [e]; exact g1)
theorem c_X11_uses {Q : jM → Prop} {g : Nat} (hM : MR S m v) (hg : Rg sz v) (hg10 : g < 10) (h : ∀ S', jch S S' (m + 1) (m + 2) → MR S' m (vday 1 (upd v (26 + g) 0)) → Q S') : jFv E mX11_uses (d + 3) 0 0 [.ref m, .int (nI g)] S Q := by
  have ei : (26 : Int32) + nI g = nI (26 + g) := nI_add 26 g
  refine T_X11_uses ⟨hM.k, m + 1, hM.r, hM.k1, (hM.at _ ei (by omega)).1, ?_⟩
  exact c_X11_goesBy (sz := sz) (hM.puts _ ei (by omega)) (hg.put (fun c => absurd (by rw [show 26 + g = 16 + (10 + g) by omega]; exact rgb_from _ (by omega)) c)) (fun S2 c2 h2 => h S2 ((jch.put (by omega) (by omega)).trans c2) h2)
def vmk : Nat → Nat → (Nat → Int32) → Nat → Int32
  | 0, _, v => v
  | n + 1, i, v => vmk n (i + 1) (vus (v (9 + i)) v)
theorem Q_made (h : IV S x sz M v) : jFi E mX10_made (d + 6) 0 0 [.ref x] S (fun r S1 => jFm E mX11_made (d + 5) (x + 94) [] S1 (fun r' S2 => r = r' ∧ INV S2 x M)) := by
  obtain ⟨hX, hM, hg⟩ := id h.1
  obtain ⟨w, hw, e7⟩ := hg.wi
  have kC : ∀ (Q : jM → Prop) (n i : Nat) (S1 : jM) (u : Nat → Int32), i + n = w → u 7 = nI w → jch S S1 (x + 16) (x + 19) → XR S1 x sz u → Rg sz u → (∀ S', jch S S' (x + 16) (x + 19) → XR S' x sz (vmk n i u) → Rg sz (vmk n i u) → Q S') → L_X3_makeChair_2 E (d + 4) Q (x + 1) (nI i) S1 := by
    intro Q n
    induction n with
    | zero =>
      intro i S1 u hi u7 c1 h1 g1 hq
      obtain rfl : i = w := by omega
      exact T_X3_makeChair_2 ⟨h1.k3, fun _ => hq S1 c1 h1 g1, fun c => absurd (by rw [h1.2.2.n4, u7]; exact Int32.le_rfl) c⟩
    | succ n ih =>
      intro i S1 u hi u7 c1 h1 g1 hq
      obtain ⟨g, hg10, eg⟩ := g1.wd i (by omega)
      obtain ⟨⟨q1, q2, q3, q4, q5, q6, q7, q8, q9, q10⟩, b1, b2, b3, b4, b5, b6, b7, b8⟩ := id h1.2.2
      refine T_X3_makeChair_2 ⟨h1.k3, fun c => absurd c (by rw [h1.2.2.n4, u7]; exact nI_ge (by omega) (by omega)), fun _ => ⟨fun c => absurd c (nI_ge (b := 6) (by omega) (by omega)), fun _ => ⟨x + 16, q4, x + 19, q5, q7, by rw [q8]; exact jin_nI (by omega) (by omega), b5.1.1, ?_⟩⟩⟩
      rw [jcl (by omega), b7 i (by omega), eg, nI_1]
      refine C_prac h1 g1 hg10 (fun r S2 c2 h2 g2 => ih (i + 1) S2 _ (by omega) ?_ (c1.trans c2) h2 g2 (fun S' c' h' g' => hq S' c' ?_ ?_))
      · rw [vus_o (by omega) (by omega) (by omega) ⟨g, hg10, rfl⟩]; exact u7
      · show XR S' x sz (vmk n (i + 1) (vus (u (9 + i)) u)); rw [eg]; exact h'
      · show Rg sz (vmk n (i + 1) (vus (u (9 + i)) u)); rw [eg]; exact g'
  have kM : ∀ (Q : Int32 → jM → Prop) (S0 : jM) (n i : Nat) (S1 : jM) (u : Nat → Int32), i + n = w → u 7 = nI w → jch S0 S1 (x + 95) (x + 96) → MR S1 (x + 94) u → Rg sz u → (∀ S', jch S0 S' (x + 95) (x + 96) → MR S' (x + 94) (vmk n i u) → Q (vmk n i u 2) S') → L_X11_made_12 E (d + 4) Q (x + 94) (nI i) S1 := by
    intro Q S0 n
    induction n with
    | zero =>
      intro i S1 u hi u7 c1 h1 g1 hq
      obtain rfl : i = w := by omega
      have i7 := h1.at (i := 7) 7 rfl (by omega)
      have i2 := h1.at (i := 2) 2 rfl (by omega)
      refine T_X11_made_12 ⟨h1.k, _, h1.r, h1.k1, i7.1, fun _ => ⟨i2.1, ?_⟩, fun c => absurd (by rw [i7.2, u7]; exact Int32.le_rfl) c⟩
      rw [i2.2]; exact hq S1 c1 h1
    | succ n ih =>
      intro i S1 u hi u7 c1 h1 g1 hq
      obtain ⟨g, hg10, eg⟩ := g1.wd i (by omega)
      have i7 := h1.at (i := 7) 7 rfl (by omega)
      have i9 := h1.at (i := 9 + nI i) (9 + i) (nI_add 9 i) (by omega)
      have rg : Rg sz (vus (nI g) u) := by
        unfold vus
        by_cases ha : jable (u 4) (nI g) = 0
        · rw [if_pos ha]; exact g1
        · rw [if_neg ha, jcl (by omega)]
          have g2 : Rg sz (upd u (26 + g) 0) := g1.put (fun c => absurd (by rw [show 26 + g = 16 + (10 + g) by omega]; exact rgb_from _ (by omega)) c)
          intro j hj hr
          obtain ⟨a1, a2, a3, a4⟩ := vday_at 1 (upd u (26 + g) 0)
          by_cases j2 : j = 2
          · subst j2
            obtain ⟨a, ha9, e2⟩ := g2 2 (by omega) (by decide)
            rw [a1, e2]; exact (jday (a := a) (b := 1) ha9 (by omega)).2
          · by_cases j4 : j = 4
            · subst j4; rw [a2]; exact pfold_kn 10 0 _ g2.kn
            · by_cases jr : j < 26 ∨ 36 ≤ j
              · rw [a4 j j2 j4 jr]; exact g2 j hj hr
              · exfalso
                have := rgb_from (j - 16) (by omega)
                rw [show 16 + (j - 16) = j by omega] at this
                exact hr this
      have e7' : vus (nI g) u 7 = nI w := by rw [vus_o (by omega) (by omega) (by omega) ⟨g, hg10, rfl⟩]; exact u7
      have hq' : ∀ S', jch S0 S' (x + 95) (x + 96) → MR S' (x + 94) (vmk n (i + 1) (vus (nI g) u)) → Q (vmk n (i + 1) (vus (nI g) u) 2) S' := fun S' c' h' => by
        have := hq S' c'
        rw [show vmk (n + 1) i u = vmk n (i + 1) (vus (u (9 + i)) u) from rfl, eg] at this
        exact this h'
      refine T_X11_made_12 ⟨h1.k, _, h1.r, h1.k1, i7.1, fun c => absurd c (by rw [i7.2, u7]; exact nI_ge (by omega) (by omega)), fun _ => ⟨i9.1, ?_⟩⟩
      rw [i9.2, eg, nI_1]
      refine c_X11_doesKnow h1 g1.kn hg10 ⟨fun ha => ?_, fun ha => ⟨h1.k, _, h1.r, h1.k1, i9.1, ?_⟩⟩
      · have e : vus (nI g) u = u := by unfold vus; rw [if_pos ha]
        rw [e] at hq' rg e7'
        exact ih (i + 1) S1 u (by omega) u7 c1 h1 g1 hq'
      · rw [i9.2, eg]
        have e : vus (nI g) u = vday 1 (upd u (26 + g) 0) := by unfold vus; rw [if_neg ha, jcl (by omega)]
        rw [e] at hq' rg e7'
        exact c_X11_uses h1 g1 hg10 (fun S2 c2 h2 => ih (i + 1) S2 _ (by omega) e7' (c1.trans c2) h2 rg hq')
  have vo : ∀ (n i : Nat) (u : Nat → Int32), i + n ≤ 6 → Rg sz u → ∀ j, j ≠ 2 → j ≠ 4 → (j < 26 ∨ 36 ≤ j) → (∀ k, k < 6 → ∃ g, g < 10 ∧ u (9 + k) = nI g) → vmk n i u j = u j := by
    intro n
    induction n with
    | zero => intro i u _ _ j _ _ _ _; rfl
    | succ n ih =>
      intro i u hi hu j j2 j4 jr hk
      obtain ⟨g, hg10, eg⟩ := hk i (by omega)
      have e1 : ∀ j, j ≠ 2 → j ≠ 4 → (j < 26 ∨ 36 ≤ j) → vus (u (9 + i)) u j = u j := fun j a b c => vus_o a b c ⟨g, hg10, eg⟩
      show vmk n (i + 1) (vus (u (9 + i)) u) j = u j
      have ih2 : ∀ (n i : Nat) (u : Nat → Int32), i + n ≤ 6 → (∀ k, k < 6 → ∃ g, g < 10 ∧ u (9 + k) = nI g) → ∀ j, j ≠ 2 → j ≠ 4 → (j < 26 ∨ 36 ≤ j) → vmk n i u j = u j := by
        intro n
        induction n with
        | zero => intro i u _ _ j _ _ _; rfl
        | succ n ih =>
          intro i u hi hk j j2 j4 jr
          obtain ⟨g, hg10, eg⟩ := hk i (by omega)
          show vmk n (i + 1) (vus (u (9 + i)) u) j = u j
          rw [ih (i + 1) _ (by omega) (fun k hk6 => by rw [vus_o (by omega) (by omega) (by omega) ⟨g, hg10, eg⟩]; exact hk k hk6) j j2 j4 jr]
          exact vus_o j2 j4 jr ⟨g, hg10, eg⟩
      rw [ih2 n (i + 1) _ (by omega) (fun k hk6 => by rw [e1 _ (by omega) (by omega) (by omega)]; exact hk k hk6) j j2 j4 jr]
      exact e1 j j2 j4 jr
  refine T_X10_made ⟨hX.1, x + 1, hX.2.1, hX.k3, c_X3_can hX.2.2 hg hw e7 ⟨fun c => ?_, fun c => ⟨hX.1, x + 1, hX.2.1, hX.k3, T_X3_makeChair (kC _ w 0 S v (by omega) e7 jch.rfl hX hg (fun S1 c1 h1 g1 => ?_))⟩⟩⟩
  · exact U_X11_made hM.k ⟨hM.k, c_X11_can hM hg hw e7 ⟨fun _ => ⟨rfl, h.inv⟩, fun c2 => absurd c c2⟩⟩
  · refine ⟨h1.1, x + 1, h1.2.1, h1.k3, x + 16, h1.r2, h1.l.1.1, ?_⟩
    rw [h1.l.2.2.2.2.2.1]
    have hM1 := hM.keep c1 (by omega)
    refine U_X11_made hM1.k ⟨hM1.k, c_X11_can hM1 hg hw e7 ⟨fun c2 => absurd c2 c, fun _ => kM _ S1 w 0 S1 v (by omega) e7 jch.rfl hM1 hg (fun S2 c2 h2 => ⟨rfl, sz, _, h.next ((jfq.of (jfr.realm c1 (by omega) (by omega))).trans (jfq.of (jfr.row c2))) ⟨h1.of c2.1 (h1.2.2.keep c2 (by omega)), h2, g1⟩ (fun j hj _ => vo w 0 v (by omega) hg j (by omega) (by omega) (by omega) (fun k hk => hg.wd k hk))⟩)⟩⟩
end jLearn
end
section
/-! LEARN on both sides -/
section jLearn2
variable {E : jEnv} {d : Nat} {S S' : jM} {x r m sz M : Nat} {v : Nat → Int32}
theorem Rg.day {n : Int32} {b : Nat} (hg : Rg sz v) (hn : n = nI b) (hb : b < 1000000) : Rg sz (vday n v) := by
  intro j hj hr
  obtain ⟨a1, a2, a3, a4⟩ := vday_at n v
  by_cases j2 : j = 2
  · subst j2
    obtain ⟨a, ha9, e2⟩ := hg 2 (by omega) (by decide)
    rw [a1, e2, hn]; exact (jday (a := a) (b := b) ha9 hb).2
  · by_cases j4 : j = 4
    · subst j4; rw [a2]; exact pfold_kn 10 0 _ hg.kn
    · by_cases jr : j < 26 ∨ 36 ≤ j
      · rw [a4 j j2 j4 jr]; exact hg j hj hr
      · exfalso
        have := rgb_from (j - 16) (by omega)
        rw [show 16 + (j - 16) = j by omega] at this
        exact hr this
theorem c_X11_canLearn {Q : Int32 → jM → Prop} {i : Nat} (hM : MR S m v) (hg : Rg sz v) (hi : i < 9) (h : Q (jcan (v 3) (v 4) (v 5) (mfv v i 0) (mfv v i 1) (mfv v i 2) (mfv v i 3) (mfv v i 4) (mfv v i 6)) S) : jFi E mX11_canLearn (d + 2) 0 0 [.ref m, .int (nI i)] S Q := by
  obtain ⟨kn, hkn, ekn⟩ := hg.kn
  obtain ⟨g, hg10, eg⟩ := hg.ge hi
  have i3 := hM.at (i := 3) 3 rfl (by omega)
  have i4 := hM.at (i := 4) 4 rfl (by omega)
  have i5 := hM.at (i := 5) 5 rfl (by omega)
  unfold jcan at h
  refine T_X11_canLearn ⟨hM.k, c_X11_of (f := 6) hM hi (by omega) ⟨fun c6 => ⟨hM.k, c_X11_of (f := 1) hM hi (by omega) ⟨hM.k, _, hM.r, hM.k1, i3.1, ?_, ?_⟩⟩, fun c6 => ?_⟩⟩
  · rw [i3.2]
    intro c1
    rw [if_pos c1, if_pos c6] at h
    refine ⟨i4.1, ?_⟩
    rw [i4.2, ekn]
    rw [ekn] at h
    refine c_X11_teaches hM hg hi hkn ⟨fun ct => ?_, fun ct => ⟨hM.k, c_X11_of (f := 2) hM hi (by omega) ⟨hM.k, ?_⟩⟩⟩
    · rw [if_pos ct] at h; exact h
    · rw [if_neg ct] at h
      rw [eg] at h ⊢
      refine c_X11_doesKnow hM hg.kn hg10 ⟨fun ca => ⟨hM.k, c_X11_of (f := 4) hM hi (by omega) ⟨hM.k, _, hM.r, hM.k1, i5.1, ?_⟩⟩, fun ca => ?_⟩
      · rw [ekn] at ca
        rw [if_pos ca] at h
        rw [i5.2]
        refine ⟨fun cf => ?_, fun cf => ?_⟩
        · rw [if_pos cf] at h; exact h
        · rw [if_neg cf] at h; exact h
      · rw [ekn] at ca
        rw [if_neg ca] at h; exact h
  · rw [i3.2]
    intro c1
    rw [if_neg c1] at h; exact h
  · by_cases c1 : mfv v i 1 = v 3
    · rw [if_pos c1, if_neg c6] at h; exact h
    · rw [if_neg c1] at h; exact h
/-- what one knows behind a lesson -/
def jbl (kd ba g kn : Int32) : Int32 := (kn &&& (junl kd ba ^^^ (-1))) ||| jshl 1 g
theorem c_X11_behindLesson {Q : Int32 → jM → Prop} {i : Nat} {kn : Int32} (hM : MR S m v) (hi : i < 9) (h : Q (jbl (mfv v i 0) (mfv v i 3) (mfv v i 2) kn) S) : jFi E mX11_behindLesson (d + 1) 0 0 [.ref m, .int (nI i), .int kn] S Q := by
  unfold jbl junl at h
  refine T_X11_behindLesson ⟨hM.k, c_X11_of (f := 0) hM hi (by omega) ⟨fun c => ⟨hM.k, c_X11_of (f := 3) hM hi (by omega) ⟨hM.k, c_X11_of (f := 2) hM hi (by omega) ?_⟩⟩, fun c => ⟨hM.k, c_X11_of (f := 2) hM hi (by omega) ?_⟩⟩⟩
  · rw [if_pos c] at h; exact h
  · rw [if_neg c, show (0 : Int32) ^^^ (-1) = -1 by decide, j_and_m1] at h; exact h
/-- the row behind a lesson of n days -/
def vle (v : Nat → Int32) (i g : Nat) (n : Int32) : Nat → Int32 := upd (upd (upd (vday n (upd v 5 (v 5 - mfv v i 4))) 4 (jbl (mfv v i 0) (mfv v i 3) (nI g) (vday n (upd v 5 (v 5 - mfv v i 4)) 4))) (16 + g) (nI i)) (26 + g) 0
theorem mfv_o {u : Nat → Int32} {i f : Nat} (h : ∀ j, 72 ≤ j → u j = v j) : mfv u i f = mfv v i f := h _ (by omega)
theorem vday_m (n : Int32) (u : Nat → Int32) (j : Nat) (h : 36 ≤ j) : vday n u j = u j := (vday_at n u).2.2.2 j (by omega) (by omega) (by omega)
/-- the reference learns -/
theorem c_X11_learns {Q : Int32 → jM → Prop} {o : lwt} {i g c9 kd ag : Nat} (hM : MR S m v) (hg : Rg sz v) (hL : LWD S x r v 0 o) (hi : i < 9) (e0 : mfv v i 0 = nI kd) (e2 : mfv v i 2 = nI g) (e5 : mfv v i 5 = nI ag) (hkd : kd < 6) (hag : ag < 100) (hg10 : g < 10) (h9 : c9 < 25) (ec9 : jmany (v 4) = nI c9) (hx : x + 94 = m) (hfe : ∃ k, k < 10000 ∧ v 5 - mfv v i 4 = nI k)
    (h : ∀ S', jfq S S' x → (∀ y, y ≠ m + 1 → y ≠ m + 16 → y ≠ m + 17 → ji S' y = ji S y) → MR S' m (vle v i g (nI (tkd o c9 kd g ag))) → Q (nI (tkd o c9 kd g ag)) S') : jFi E mX11_learns (d + 3) 0 0 [.ref m, .int (nI i)] S Q := by
  subst hx
  have i5 := hM.at (i := 5) 5 rfl (by omega)
  have n5 : Int32.toNatClampNeg 5 = 5 := rfl
  have n4 : Int32.toNatClampNeg 4 = 4 := rfl
  refine T_X11_learns ⟨hM.k, _, hM.r, hM.k1, i5.1, c_X11_of (f := 4) hM hi (by omega) ⟨hM.k1, i5.1, hM.k, _, hM.r, hM.k1, (hM.at (i := 4) 4 rfl (by omega)).1, ?_⟩⟩
  rw [i5.2]
  have h1 := hM.puts (i := 5) (w := v 5 - mfv v i 4) 5 rfl (by omega)
  rw [(h1.at (i := 4) 4 rfl (by omega)).2, upd_ne _ (by omega), ec9, n5]
  rw [n5] at h1
  have c1 : jch S (jput S (x + 94 + 1) 5 (v 5 - mfv v i 4)) (x + 95) (x + 96) := jch.put (by omega) (by omega)
  generalize jput S (x + 94 + 1) 5 (v 5 - mfv v i 4) = S1 at h1 c1 ⊢
  have hu : ∀ j, 72 ≤ j → upd v 5 (v 5 - mfv v i 4) j = v j := fun j hj => upd_ne _ (by omega)
  have hL1 : LWD S1 x r (upd v 5 (v 5 - mfv v i 4)) 0 o := (hL.keep (jfq.of (jfr.row c1))).row (fun j hj _ => upd_ne _ (by omega))
  refine c_X11_takes (o := o) h1 hL1 hi ((mfv_o hu).trans e0) ((mfv_o hu).trans e2) ((mfv_o hu).trans e5) hkd hag h9 (fun S2 c2 h2 => ⟨h2.k, ?_⟩)
  have hg1 : Rg sz (upd v 5 (v 5 - mfv v i 4)) := hg.put (fun _ => hfe)
  refine c_X11_goesBy h2 hg1 (fun S3 c3 h3 => ⟨h3.k, ?_⟩)
  have hu3 : ∀ j, 72 ≤ j → vday (nI (tkd o c9 kd g ag)) (upd v 5 (v 5 - mfv v i 4)) j = v j := fun j hj => (vday_m _ _ j (by omega)).trans (hu j hj)
  have i4 := h3.at (i := 4) 4 rfl (by omega)
  refine c_X11_of (f := 2) h3 hi (by omega) ⟨h3.k, _, h3.r, h3.k1, i4.1, ?_⟩
  rw [i4.2, mfv_o hu3, e2]
  refine c_X11_behindLesson h3 hi ⟨h3.k1, i4.1, h3.k, _, h3.r, h3.k1, ?_⟩
  rw [mfv_o hu3, mfv_o hu3, mfv_o hu3, e2]
  have e16 : (16 : Int32) + nI g = nI (16 + g) := nI_add 16 g
  have e26 : (26 : Int32) + nI g = nI (26 + g) := nI_add 26 g
  refine ⟨(h3.at _ e16 (by omega)).1, (h3.at _ e26 (by omega)).1, ?_⟩
  have h4 := ((h3.puts (i := 4) (w := jbl (mfv v i 0) (mfv v i 3) (nI g) (vday (nI (tkd o c9 kd g ag)) (upd v 5 (v 5 - mfv v i 4)) 4)) 4 rfl (by omega)).puts (w := nI i) (16 + g) e16 (by omega)).puts (w := 0) (26 + g) e26 (by omega)
  have cp : ∀ {S9 : jM} {j : Nat} {w : Int32}, jch S9 (jput S9 (x + 94 + 1) j w) (x + 95) (x + 96) := jch.put (by omega) (by omega)
  refine h _ (((((jfq.of (jfr.row c1)).trans c2.fq97).trans (jfq.of (jfr.row c3))).trans (jfq.of (jfr.row cp))).trans ((jfq.of (jfr.row cp)).trans (jfq.of (jfr.row cp)))) (fun y y1 y16 y17 => ?_) h4
  rw [ji_put_ne _ _ _ _ (by omega), ji_put_ne _ _ _ _ (by omega), ji_put_ne _ _ _ _ (by omega), c3.2 y (by omega), c2.2 y (by omega), c1.2 y (by omega)]
theorem jclub {g : Nat} {kd ba kn : Int32} (hg : g < 10) (hk : ∃ k, k < 1024 ∧ kn = nI k) : ∃ k, k < 1024 ∧ jbl kd ba (nI g) kn = nI k := by
  obtain ⟨k, hk, rfl⟩ := hk
  obtain ⟨k2, hk2, e2⟩ := nI_andle hk (junl kd ba ^^^ (-1))
  obtain ⟨⟨k3, hk3⟩, e3⟩ := jorF ⟨k2, hk2⟩ ⟨g, hg⟩
  refine ⟨k3, hk3, ?_⟩
  unfold jbl
  rw [e2]; exact e3
theorem vle_o {i g : Nat} {n : Int32} {j : Nat} (hg : g < 10) (h : j < 2 ∨ 36 ≤ j ∨ (7 ≤ j ∧ j < 16)) : vle v i g n j = v j := by
  unfold vle
  rw [upd_ne _ (by omega), upd_ne _ (by omega), upd_ne _ (by omega), (vday_at _ _).2.2.2 j (by omega) (by omega) (by omega), upd_ne _ (by omega)]
theorem Rg.le {i g : Nat} {n : Int32} {b : Nat} (hg : Rg sz v) (hi : i < 9) (hg10 : g < 10) (hn : n = nI b) (hb : b < 1000000) (hfe : ∃ k, k < 10000 ∧ v 5 - mfv v i 4 = nI k) : Rg sz (vle v i g n) := by
  have g1 : Rg sz (vday n (upd v 5 (v 5 - mfv v i 4))) := (hg.put (n := 5) (fun _ => hfe)).day hn hb
  unfold vle
  exact (((g1.put (n := 4) (fun _ => jclub hg10 g1.kn)).put (n := 16 + g) (fun c => absurd (rgb_from g (by omega)) c)).put (n := 26 + g) (fun c => absurd (by rw [show 26 + g = 16 + (10 + g) by omega]; exact rgb_from _ (by omega)) c))
/-- the class's learner behind a lesson -/
theorem XR.le {i g : Nat} {n : Int32} {b : Nat} (hX : XR S x sz v) (hg : Rg sz v) (hi : i < 9) (hg10 : g < 10) (hn : n = nI b) (hb : b < 1000000) (hc : jch S S' (x + 16) (x + 19))
    (hl : LdR S' (x + 16) (v 3) (((pdays n (v 6) (v 4, fun i => v (26 + i))).1 &&& (junl (mfv v i 0) (mfv v i 3) ^^^ (-1))) ||| jshl 1 (nI g)) (v 5 - mfv v i 4) (v 6) (jmin 9999 (v 2 + n)) (upd (fun i => v (16 + i)) g (nI i)) (upd (pdays n (v 6) (v 4, fun i => v (26 + i))).2 g 0)) : XR S' x sz (vle v i g n) := by
  obtain ⟨a1, a2, a3, a4⟩ := vday_at n (upd v 5 (v 5 - mfv v i 4))
  have eu : (fun i_1 => upd v 5 (v 5 - mfv v i 4) (26 + i_1)) = fun i => v (26 + i) := by funext j; exact upd_ne _ (by omega)
  rw [eu, upd_ne _ (by omega), upd_ne _ (by omega)] at a2 a3
  rw [upd_ne _ (by omega)] at a1
  obtain ⟨da, hda, e2⟩ := hg 2 (by omega) (by decide)
  have hd := (jday (a := da) (b := b) hda hb).1
  rw [← e2, ← hn] at hd
  refine hX.lear hc ?_ (fun j p1 p2 => vle_o hg10 (by omega))
  have v3 : vle v i g n 3 = v 3 := by
    unfold vle; rw [upd_ne _ (by omega), upd_ne _ (by omega), upd_ne _ (by omega), a4 3 (by omega) (by omega) (by omega), upd_ne _ (by omega)]
  have v4 : vle v i g n 4 = ((pdays n (v 6) (v 4, fun i => v (26 + i))).1 &&& (junl (mfv v i 0) (mfv v i 3) ^^^ (-1))) ||| jshl 1 (nI g) := by
    unfold vle; rw [upd_ne _ (by omega), upd_ne _ (by omega), upd_at, a2]; rfl
  have v5 : vle v i g n 5 = v 5 - mfv v i 4 := by
    unfold vle; rw [upd_ne _ (by omega), upd_ne _ (by omega), upd_ne _ (by omega), a4 5 (by omega) (by omega) (by omega), upd_at]
  have v6 : vle v i g n 6 = v 6 := by
    unfold vle; rw [upd_ne _ (by omega), upd_ne _ (by omega), upd_ne _ (by omega), a4 6 (by omega) (by omega) (by omega), upd_ne _ (by omega)]
  have v2 : vle v i g n 2 = jmin 9999 (v 2 + n) := by
    unfold vle; rw [upd_ne _ (by omega), upd_ne _ (by omega), upd_ne _ (by omega), a1, hd]
  rw [v3, v4, v5, v6, v2]
  refine hl.cong (fun j hj => ?_) (fun j hj => ?_)
  · by_cases hjg : j = g
    · subst hjg
      have e : vle v i j n (16 + j) = nI i := by unfold vle; rw [upd_ne _ (by omega), upd_at]
      rw [e]; unfold upd; rw [if_pos rfl]
    · have e : vle v i g n (16 + j) = v (16 + j) := by unfold vle; rw [upd_ne _ (by omega), upd_ne _ (by omega), upd_ne _ (by omega), a4 _ (by omega) (by omega) (by omega), upd_ne _ (by omega)]
      rw [e]; unfold upd; rw [if_neg hjg]
  · by_cases hjg : j = g
    · subst hjg
      have e : vle v i j n (26 + j) = 0 := by unfold vle; rw [upd_at]
      rw [e]; unfold upd; rw [if_pos rfl]
    · have e : vle v i g n (26 + j) = (pdays n (v 6) (v 4, fun i => v (26 + i))).2 j := by unfold vle; rw [upd_ne _ (by omega), upd_ne _ (by omega), upd_ne _ (by omega), a3 j hj]
      rw [e]; unfold upd; rw [if_neg hjg]
theorem jcan_fee {at_ kn co tk tt tg tb tf td : Int32} (h : ¬ jcan at_ kn co tk tt tg tb tf td = 0) : ¬ co < tf := by
  intro hc
  apply h
  unfold jcan
  repeat' split
  all_goals first | rfl | contradiction
theorem jfee {c f : Nat} (hc : c < 10000) (h : ¬ nI c < nI f) (hf : f < 100) : ∃ k, k < 10000 ∧ nI c - nI f = nI k := by
  have hle : f ≤ c := by
    rcases Nat.lt_or_ge c f with h9 | h9
    · exact absurd (nI_lt h9 (by omega)) h
    · exact h9
  refine ⟨c - f, by omega, ?_⟩
  have e : nI c = nI f + nI (c - f) := by rw [nI_add]; congr 1; omega
  rw [e, Int32.add_comm, Int32.add_sub_cancel]
theorem Q_learn {w : Int32} (h : IV S x sz M v) : jFi E mX10_learn (d + 5) 0 0 [.ref x, .int w] S (fun r S1 => jFm E mX11_learn (d + 4) (x + 94) [.int w] S1 (fun r' S2 => r = r' ∧ INV S2 x M)) := by
  obtain ⟨hX, hM, hg⟩ := id h.1
  have hz := hX.sz9
  refine T_X10_learn ⟨hX.1, x + 1, hX.2.1, hX.k3, x + 2, hX.r0, hX.g.1.1, c_X0_find hX.g.1 hX.g.2.1 hz (fun i hn e => ⟨fun c => absurd c (by simp), fun b eb => ?_⟩) (fun hno => ⟨fun _ => ?_, fun b e => absurd e (by simp)⟩)⟩
  · obtain rfl : x + 2 + 2 + i = b := Option.some.inj eb
    subst e
    have n9 : i < 9 := by omega
    have k2 := hX.mk n9
    have ism : ∀ {Q : Int32 → jM → Prop} {S1 : jM}, MR S1 (x + 94) v → Q 1 S1 → jFi E mX11_isMaster (d + 3) 0 0 [.ref (x + 94), .int (nI i)] S1 Q := fun hM1 hq => c_X11_isMaster hM1 hX.v0 hz (fun _ _ _ => hq) (fun hh => absurd rfl (hh i hn))
    refine ⟨hX.1, x + 1, hX.2.1, hX.k3, x + 16, hX.r2, hX.l.1.1, c_X1_canLearnOf hX.l k2 ?_⟩
    rw [hX.ms n9 (by omega), hX.ms n9 (by omega), hX.ms n9 (by omega), hX.ms n9 (by omega), hX.ms n9 (by omega), hX.ms n9 (by omega)]
    refine ⟨fun c => ?_, fun c => ?_⟩
    · exact U_X11_learn hM.k ⟨hM.k, ism hM ⟨fun c => absurd c (by decide), fun _ => ⟨hM.k, c_X11_canLearn hM hg n9 ⟨fun _ => ⟨rfl, h.inv⟩, fun c2 => absurd c c2⟩⟩⟩⟩
    · obtain ⟨kd, hkd, ekd⟩ := hg.kd n9
      obtain ⟨g, hg10, eg⟩ := hg.ge n9
      obtain ⟨ag, hag, eag⟩ := hg.ag n9
      obtain ⟨fe, hfe, efe⟩ := hg.fe n9
      obtain ⟨kk, hkk, ekk⟩ := hg.kn
      obtain ⟨co, hco, eco⟩ := hg 5 (by omega) (by decide)
      have hfee : ∃ k, k < 10000 ∧ v 5 - mfv v i 4 = nI k := by
        have hf := jcan_fee c
        rw [eco, efe] at hf ⊢
        exact jfee hco hf hfe
      obtain ⟨o, hL⟩ := LWD_ex (key := 0) (by omega) h.2.2.2.2.1
      obtain ⟨⟨c9, hc9⟩, ec9⟩ := jmany_le ⟨kk, hkk⟩
      have em : jmany (v 4) = nI c9 := by rw [ekk]; exact ec9
      have ec : jbc (ji S (x + 16) 1) = nI c9 := by rw [hX.l.2.2.1, ekk, jbm hkk]; exact ec9
      refine ⟨hX.1, x + 1, hX.2.1, hX.l.1.1, hX.k3, ?_⟩
      rw [ec]
      refine c_X3_daysTaken (M := M) hX.2.2 h.2.2.2.2.1 hL k2 (by omega) ((hX.ms n9 (by omega)).trans ekd) ((hX.ms n9 (by omega)).trans eg) ((hX.ms n9 (by omega)).trans eag) hkd hag (fun S1 p1 => ?_)
      have hP1 := p1.pi h.1
      have hX1 := hP1.1
      refine ⟨hX1.l.1.1, c_X1_learnOf hX1.l (hX1.mk n9) (by omega) hg10 ((hX1.ms n9 (by omega)).trans eg) (fun S2 c2 l2 => ?_)⟩
      rw [hX1.ms n9 (by omega), hX1.ms n9 (by omega), hX1.ms n9 (by omega)] at l2
      have tb := tdays_le (kd := kd) (ag := ag) (j := jcl99 (lwv o (3 + nI c9) (nI c9) (nI g) (nI ag))) hag (jcl99_is _).2.1
      have h2 : XR S2 x sz (vle v i g (nI (tkd o c9 kd g ag))) := hX1.le hg n9 hg10 (b := tkd o c9 kd g ag) rfl (Nat.lt_of_le_of_lt tb (by omega)) c2 l2
      have g2 : Rg sz (vle v i g (nI (tkd o c9 kd g ag))) := hg.le n9 hg10 (b := tkd o c9 kd g ag) rfl (Nat.lt_of_le_of_lt tb (by omega)) hfee
      refine ⟨h2.l.1.1, ?_⟩
      rw [h2.l.2.2.1]
      have hM2 := hP1.2.1.keep c2 (by omega)
      have f2 : jfq S S2 x := p1.fq.trans (jfq.of (jfr.realm c2 (by omega) (by omega)))
      refine U_X11_learn hM2.k ⟨hM2.k, ism hM2 ⟨fun c => absurd c (by decide), fun _ => ⟨hM2.k, c_X11_canLearn hM2 hg n9 ⟨fun c2 => absurd c2 c, fun _ => ⟨hM2.k, ?_⟩⟩⟩⟩⟩
      refine c_X11_learns (o := o) hM2 hg (hL.keep f2) n9 ekd eg eag hkd hag hg10 (by omega) em rfl hfee (fun S3 f3 o3 h3 => ?_)
      have i4 := h3.at (i := 4) 4 rfl (by omega)
      refine ⟨h3.k, _, h3.r, h3.k1, i4.1, ?_⟩
      rw [i4.2]
      refine ⟨rfl, sz, _, h.next (f2.trans f3) ⟨h2.of f3.1 (h2.2.2.grow (fun y p q => ⟨by rw [f3.1.1], by rw [f3.1.2.1], o3 y (by omega) (by omega) (by omega), by rw [f3.1.2.2.1]⟩)), h3, g2⟩ (fun j hj _ => vle_o hg10 (by omega))⟩
  · exact U_X11_learn hM.k ⟨hM.k, c_X11_isMaster hM hX.v0 hz (fun j hj e => absurd e (hno j hj)) (fun _ => ⟨fun _ => ⟨rfl, h.inv⟩, fun c => absurd rfl c⟩)⟩
end jLearn2
end
