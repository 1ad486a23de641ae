/-! TAKES, TEACHES, WORTH on both sides -/
/-- only piles of the class's texts change -/
def jpi (S S' : jM) (x : Nat) : Prop := jsame S S' ∧ ∀ y, (y < x + 115 ∨ (y - x) % 3 ≠ 0) → ji S' y = ji S y
def jlst (v : Nat → Int32) (key : Int32) (n i : Nat) (a : Int32) : Int32 := jfold (fun t a => if v (135 + 200 * t) = key then nI t else a) n i a
abbrev lwt : Type := Option (Nat × Nat × Nat × Nat × (Nat → Nat))
/-- the TEXT that counts for a key: t, its place m in the class, how many words, how many operands, the words -/
def LWD (S : jM) (x r : Nat) (v : Nat → Int32) (key : Nat) : lwt → Prop
  | none => ∃ cnt, cnt ≤ 14 ∧ v 1 = nI cnt ∧ jlst v (nI key) cnt 0 (-1) = -1
  | some (t, m, n, ops, cw) => ∃ cnt, cnt ≤ 14 ∧ v 1 = nI cnt ∧ jlst v (nI key) cnt 0 (-1) = nI t ∧ t < cnt ∧ jr S r t = some (x + 115 + 3 * m + 1) ∧ TxC S (x + 115 + 3 * m) key n ops cw ∧ TxM v t key n ops cw ∧ WFt key n ops cw
def lwv (o : lwt) (z a b c : Int32) : Int32 := match o with
  | none => z
  | some (_, _, n, _, cw) => fvt (jv3 a b c) cw n 0
def jcl99 (z : Int32) : Nat := (jclamp z 1 99).toBitVec.toNat
theorem jcl99_is (z : Int32) : 1 ≤ jcl99 z ∧ jcl99 z ≤ 99 ∧ jclamp z 1 99 = nI (jcl99 z) ∧ jmax 1 (jmin 99 z) = nI (jcl99 z) := by
  have hv : ∃ j, 1 ≤ j ∧ j ≤ 99 ∧ jclamp z 1 99 = nI j ∧ jmax 1 (jmin 99 z) = nI j := by
    rw [show jclamp z 1 99 = (if 1 ≤ z then (if z ≤ 99 then z else 99) else 1) from rfl]
    by_cases h1 : (1 : Int32) ≤ z
    · rw [if_pos h1]
      by_cases h2 : z ≤ 99
      · rw [if_pos h2]
        have hlt : z < nI 100 := Int32.lt_of_le_of_lt h2 (by decide)
        obtain ⟨j, hj, e⟩ := jofI (x := z) (n := 100) (by omega) (Int32.le_trans (by decide) h1) hlt
        refine ⟨j, ?_, by omega, e, ?_⟩
        · rw [e, show (1 : Int32) = nI 1 from rfl, nI_leI (by omega) (by omega)] at h1; exact h1
        · have hd : ∀ j : Fin 100, 1 ≤ j.val → jmax 1 (jmin 99 (nI j.val)) = nI j.val := by decide +kernel
          rw [e]
          refine hd ⟨j, hj⟩ ?_
          rw [e, show (1 : Int32) = nI 1 from rfl, nI_leI (by omega) (by omega)] at h1; exact h1
      · rw [if_neg h2]
        refine ⟨99, by omega, by omega, rfl, ?_⟩
        have h3 : ¬ z < 99 := fun h => h2 (Int32.le_of_lt h)
        unfold jmin
        rw [if_neg h3]
        decide
    · rw [if_neg h1]
      refine ⟨1, by omega, by omega, rfl, ?_⟩
      have h2 : z < 1 := Int32.not_le.mp h1
      have h3 : z < 99 := Int32.lt_of_lt_of_le h2 (by decide)
      unfold jmin jmax
      rw [if_pos h3, if_neg (fun h => h1 (Int32.le_of_lt h))]
      rfl
  obtain ⟨j, h1, h2, h3, h4⟩ := hv
  have e : jcl99 z = j := by
    unfold jcl99
    rw [h3]
    show (BitVec.ofNat 32 j).toNat = j
    rw [BitVec.toNat_ofNat]
    exact Nat.mod_eq_of_lt (by omega)
  rw [e]
  exact ⟨h1, h2, h3, h4⟩
theorem jcl99_k : ∀ k : Fin 25, jcl99 (3 + nI k.val) = 3 + k.val := by decide +kernel
/-- days, as numbers -/
def tdays (kd ag j : Nat) : Nat := if kd = 1 then 2 * j else if kd = 2 then (if j ≤ 1 then 1 else j - 1) else if kd = 3 then 2 * j + ag / 10 else if kd = 4 then (if j ≤ 3 then 1 else (j - 1) / 2) else if kd = 5 then 1 else j
theorem tdays_le {kd ag j : Nat} (ha : ag < 100) (hj : j ≤ 99) : tdays kd ag j ≤ 207 := by
  unfold tdays
  repeat' split
  all_goals omega
theorem jdiv10 : ∀ a : Fin 100, nI a.val / 10 = nI (a.val / 10) := by decide +kernel
theorem jdays_eq {kd ag j : Nat} (hk : kd < 6) (ha : ag < 100) (h1 : 1 ≤ j) (h2 : j ≤ 99) : jdays (nI kd) (nI ag) (nI j) = nI (tdays kd ag j) := by
  have hd : ∀ kd : Fin 6, ∀ j : Fin 100, kd.val ≠ 3 → 1 ≤ j.val → jdays (nI kd.val) 0 (nI j.val) = nI (tdays kd.val 0 j.val) := by decide +kernel
  by_cases h3 : kd = 3
  · subst h3
    show 2 * nI j + nI ag / 10 = nI (2 * j + ag / 10)
    rw [jdiv10 ⟨ag, ha⟩, show (2 : Int32) = nI 2 from rfl, nI_mul, nI_add]
  · have e1 : jdays (nI kd) (nI ag) (nI j) = jdays (nI kd) 0 (nI j) := by
      have hne : ¬ nI kd = 3 := nI_ne (b := 3) (by omega) (by omega) h3
      unfold jdays
      rw [if_neg hne, if_neg hne]
    have e2 : tdays kd ag j = tdays kd 0 j := by unfold tdays; rw [if_neg h3, if_neg h3]
    rw [e1, e2]; exact hd ⟨kd, hk⟩ ⟨j, by omega⟩ h3 h1
/-- the days, by the text that counts -/
def tkd (o : lwt) (k kd tg ag : Nat) : Nat := tdays kd ag (jcl99 (lwv o (3 + nI k) (nI k) (nI tg) (nI ag)))
section jTakes
variable {E : jEnv} {d : Nat} {S S' : jM} {x r m sz M : Nat} {v : Nat → Int32}
theorem jpi.rfl : jpi S S x := ⟨jsame.rfl, fun _ _ => _root_.rfl⟩
theorem jpi.trans {S1 S2 : jM} (h1 : jpi S S1 x) (h2 : jpi S1 S2 x) : jpi S S2 x := ⟨h1.1.trans h2.1, fun y a => (h2.2 y a).trans (h1.2 y a)⟩
theorem jpi.pile {m : Nat} (h : jch S S' (x + 115 + 3 * m + 2) (x + 115 + 3 * m + 3)) : jpi S S' x := ⟨h.1, fun y g => h.2 y (by omega)⟩
theorem jpi.fq (h : jpi S S' x) : jfq S S' x := ⟨h.1, fun y _ _ _ _ _ _ _ g => h.2 y g⟩
theorem jpi.pi (h : jpi S S' x) (hP : PI S x sz v) : PI S' x sz v := by
  have cs : ∀ y, y < x + 115 → jcs S S' y := fun y hy => ⟨by rw [h.1.1], by rw [h.1.2.1], h.2 y (Or.inl hy), by rw [h.1.2.2.1]⟩
  exact ⟨hP.1.of h.1 (hP.1.2.2.grow (fun y p q => cs y (by omega))), ⟨hP.2.1.1.same h.1, fun j => by rw [h.2 _ (Or.inl (by omega))]; exact hP.2.1.2 j⟩, hP.2.2⟩
theorem jlst_cases (v : Nat → Int32) (key : Int32) (cnt : Nat) : ∀ (n i : Nat) (a : Int32), i + n = cnt → (a = -1 ∨ ∃ t, t < cnt ∧ a = nI t ∧ v (135 + 200 * t) = key) → (jlst v key n i a = -1 ∨ ∃ t, t < cnt ∧ jlst v key n i a = nI t ∧ v (135 + 200 * t) = key)
  | 0, _, _, _, h => h
  | n + 1, i, a, hi, h => by
    refine jlst_cases v key cnt n (i + 1) _ (by omega) ?_
    dsimp only
    by_cases c : v (135 + 200 * i) = key
    · rw [if_pos c]; exact Or.inr ⟨i, by omega, rfl, c⟩
    · rw [if_neg c]; exact h
theorem LWD_ex {key : Nat} (hk : key < 3) (hT : TXS S x r M v) : ∃ o, LWD S x r v key o := by
  obtain ⟨cnt, c14, e1, hT, -⟩ := hT
  rcases jlst_cases v (nI key) cnt cnt 0 (-1) (by omega) (Or.inl rfl) with h | ⟨t, ht, h, hk2⟩
  · exact ⟨none, cnt, c14, e1, h⟩
  · obtain ⟨m, key', n, ops, cw, hm, a1, a2, a3, a4, a5⟩ := hT t ht
    have : key' = key := nI_inj (by omega) (by omega) (a4.1.symm.trans hk2)
    subst this
    exact ⟨some (t, m, n, ops, cw), cnt, c14, e1, h, ht, a1, a3, a4, a5⟩
theorem LWD.keep {key : Nat} {o : lwt} (h : LWD S x r v key o) (hp : jfq S S' x) : LWD S' x r v key o := by
  cases o with
  | none => exact h
  | some q =>
    obtain ⟨t, m, n, ops, cw⟩ := q
    obtain ⟨cnt, c14, e1, h1, h2, h3, h4, h5, h6⟩ := h
    obtain ⟨k, l, rr, -⟩ := id hp.1
    exact ⟨cnt, c14, e1, h1, h2, by rw [rr]; exact h3, h4.move (fun y _ _ => by rw [k]) (fun y _ _ => by rw [l]) (by rw [rr]) (fun y p q => hp.2 y (by omega) (by omega) (by omega) (by omega) (by omega) (by omega) (by omega) (by omega)), h5, h6⟩
theorem LWD.row {key : Nat} {o : lwt} {v' : Nat → Int32} (h : LWD S x r v key o) (he : ∀ j, (j = 1 ∨ 135 ≤ j) → j < 2935 → v' j = v j) : LWD S x r v' key o := by
  have hj : ∀ (cnt : Nat), cnt ≤ 14 → ∀ (n i : Nat) (a : Int32), i + n = cnt → jlst v' (nI key) n i a = jlst v (nI key) n i a := by
    intro cnt c14 n
    induction n with
    | zero => intro i a _; rfl
    | succ n ih =>
      intro i a hi
      show jlst v' (nI key) n (i + 1) (if v' (135 + 200 * i) = nI key then nI i else a) = jlst v (nI key) n (i + 1) (if v (135 + 200 * i) = nI key then nI i else a)
      rw [he _ (by omega) (by omega)]
      exact ih (i + 1) _ (by omega)
  cases o with
  | none =>
    obtain ⟨cnt, c14, e1, h1⟩ := h
    exact ⟨cnt, c14, (he 1 (Or.inl rfl) (by omega)).trans e1, (hj cnt c14 cnt 0 (-1) (by omega)).trans h1⟩
  | some q =>
    obtain ⟨t, m, n, ops, cw⟩ := q
    obtain ⟨cnt, c14, e1, h1, h2, h3, h4, h5, h6⟩ := h
    exact ⟨cnt, c14, (he 1 (Or.inl rfl) (by omega)).trans e1, (hj cnt c14 cnt 0 (-1) (by omega)).trans h1, h2, h3, h4, h5.cong (by omega) h6.2.2.2.2.2.2 (fun j p q => he j (Or.inr p) q), h6⟩
/-! which text counts -/
theorem c_X3_numberOfLaw {Q : Int32 → jM → Prop} {cnt : Nat} {w : Int32} (hR : RmR S r sz v) (hT : TXS S x (r + 19) M v) (hc : cnt ≤ 14) (e1 : v 1 = nI cnt) (h : Q (jlst v w cnt 0 (-1)) S) : jFi E mX3_numberOfLaw d 0 0 [.ref r, .int w] S Q := by
  obtain ⟨cnt', c14, e1', hT, -⟩ := hT
  obtain rfl : cnt' = cnt := nI_inj (by omega) (by omega) (e1'.symm.trans e1)
  have n6 := hR.n6
  obtain ⟨⟨k1, -, -, -, -, k6, -, -, k9, k10⟩, -⟩ := hR
  have key : ∀ (n i : Nat) (a : Int32), i + n = cnt' → Q (jlst v w n i a) S → L_X3_numberOfLaw_4 E d Q r w a (nI i) S := by
    intro n
    induction n with
    | zero =>
      intro i a hi hq
      obtain rfl : i = cnt' := by omega
      exact T_X3_numberOfLaw_4 ⟨k1, fun _ => hq, fun c => absurd (by rw [n6, e1]; exact Int32.le_rfl) c⟩
    | succ n ih =>
      intro i a hi hq
      obtain ⟨m, key, n', ops, cw, hm, a1, a2, a3, a4, a5⟩ := hT i (by omega)
      have hq2 : Q (jlst v w n (i + 1) (if v (135 + 200 * i) = w then nI i else a)) S := hq
      refine T_X3_numberOfLaw_4 ⟨k1, fun c => absurd c (by rw [n6, e1]; exact nI_ge (by omega) (by omega)), fun _ => ⟨fun c => absurd c (nI_ge (b := 14) (by omega) (by omega)), fun _ => ⟨r + 19, k6, k9, by rw [k10]; exact jin_nI (by omega) (by omega), fun c => ?_, fun b c => ?_⟩⟩⟩
      · rw [jcl (by omega), a1] at c; exact absurd c (by simp)
      · rw [jcl (by omega), a1] at c
        obtain rfl : x + 115 + 3 * m + 1 = b := Option.some.inj c
        refine ⟨a3.1, ?_⟩
        rw [a3.2.2.2.2.2.2.2.1, nI_1, ← a4.1]
        refine ⟨fun c => ?_, fun c => ?_⟩
        · rw [if_pos c] at hq2; exact ih (i + 1) _ (by omega) hq2
        · rw [if_neg c] at hq2; exact ih (i + 1) _ (by omega) hq2
  exact T_X3_numberOfLaw (key cnt' 0 (-1) (by omega) h)
theorem c_X11_counts {Q : Int32 → jM → Prop} {cnt : Nat} {w : Int32} (hM : MR S m v) (hc : cnt ≤ 14) (e1 : v 1 = nI cnt) (h : Q (jlst v w cnt 0 (-1)) S) : jFi E mX11_counts (d + 1) 0 0 [.ref m, .int w] S Q := by
  have i1 := hM.at (i := 1) 1 rfl (by omega)
  have key : ∀ (n i : Nat) (a : Int32), i + n = cnt → Q (jlst v w n i a) S → L_X11_counts_4 E d Q m w a (nI i) S := by
    intro n
    induction n with
    | zero =>
      intro i a hi hq
      obtain rfl : i = cnt := by omega
      exact T_X11_counts_4 ⟨hM.k, _, hM.r, hM.k1, i1.1, fun _ => hq, fun c => absurd (by rw [i1.2, e1]; exact Int32.le_rfl) c⟩
    | succ n ih =>
      intro i a hi hq
      have hq2 : Q (jlst v w n (i + 1) (if v (135 + 200 * i) = w then nI i else a)) S := hq
      have ia := hM.at (i := jtextat (nI i)) (135 + 200 * i) (by have := nI_txt i 0; rw [nI_0, Int32.add_zero] at this; exact this) (by omega)
      refine T_X11_counts_4 ⟨hM.k, _, hM.r, hM.k1, i1.1, fun c => absurd c (by rw [i1.2, e1]; exact nI_ge (by omega) (by omega)), fun _ => ⟨ia.1, ?_⟩⟩
      rw [ia.2, nI_1]
      refine ⟨fun c => ?_, fun c => ?_⟩
      · rw [if_pos c] at hq2; exact ih (i + 1) _ (by omega) hq2
      · rw [if_neg c] at hq2; exact ih (i + 1) _ (by omega) hq2
  exact T_X11_counts (key cnt 0 (-1) (by omega) h)
theorem jwi_m1 (n : Int32) : jwi (-1) n = 0 := by unfold jwi; rw [if_pos (by decide)]
/-- the class's law of a key: its number, then its text -/
theorem c_X3_law {Q : Option Nat → jM → Prop} {key : Nat} {o : lwt} {P : Int32 → jM → Prop} (hR : RmR S r sz v) (hT : TXS S x (r + 19) M v) (hL : LWD S x (r + 19) v key o) (h0 : o = none → Q none S) (h1 : ∀ t m n ops cw, o = some (t, m, n, ops, cw) → Q (some (x + 115 + 3 * m + 1)) S)
    (hP : ∀ w, jFr E mX3_findText (d + 1) 0 0 [.ref r, .int w] S Q → P w S) : jFi E mX3_numberOfLaw (d + 1) 0 0 [.ref r, .int (nI key)] S P := by
  have n6 := hR.n6
  have hR0 := id hR
  obtain ⟨⟨k1, -, -, -, -, k6, -, -, k9, k10⟩, -⟩ := hR0
  cases o with
  | none =>
    obtain ⟨cnt, c14, e1, e⟩ := hL
    refine c_X3_numberOfLaw hR hT c14 e1 (hP _ ?_)
    rw [e]
    exact T_X3_findText ⟨k1, fun _ => h0 rfl, fun c => absurd (jwi_m1 _) c⟩
  | some q =>
    obtain ⟨t, m, n, ops, cw⟩ := q
    obtain ⟨cnt, c14, e1, e, ht, a1, -⟩ := hL
    refine c_X3_numberOfLaw hR hT c14 e1 (hP _ ?_)
    rw [e]
    refine T_X3_findText ⟨k1, fun c => absurd c (by rw [n6, e1, jwi_at ht (by omega)]; decide), fun _ => ⟨fun c => absurd c (nI_ge (b := 14) (by omega) (by omega)), fun _ => ⟨r + 19, k6, k9, by rw [k10]; exact jin_nI (by omega) (by omega), fun c => ?_, fun b c => ?_⟩⟩⟩
    · rw [jcl (by omega), a1] at c; exact absurd c (by simp)
    · rw [jcl (by omega), a1] at c
      obtain rfl : x + 115 + 3 * m + 1 = b := Option.some.inj c
      exact h1 t m n ops cw rfl
theorem c_X3_daysTaken {Q : Int32 → jM → Prop} {o : lwt} {a k kd tg ag : Nat} (hR : RmR S r sz v) (hT : TXS S x (r + 19) M v) (hL : LWD S x (r + 19) v 0 o) (ha : jk S a = 2) (hax : a < x + 115) (e0 : ji S a 0 = nI kd) (e2 : ji S a 2 = nI tg) (e5 : ji S a 5 = nI ag) (hkd : kd < 6) (hag : ag < 100)
    (h : ∀ S', jpi S S' x → Q (nI (tkd o k kd tg ag)) S') : jFi E mX3_daysTaken (d + 3) 0 0 [.ref r, .ref a, .int (nI k)] S Q := by
  refine T_X3_daysTaken ⟨hR.1.1, c_X3_law (key := 0) hR hT hL (fun e => ?_) (fun t m n ops cw e => ?_) (fun w hw => ⟨hR.1.1, hw⟩)⟩
  · subst e
    refine ⟨fun _ => ⟨ha, c_X2_daysFrom ha ?_⟩, fun b c => absurd c (by simp)⟩
    obtain ⟨z1, z2, z3, z4⟩ := jcl99_is (3 + nI k)
    rw [e0, e5, z4, jdays_eq hkd hag z1 z2]
    exact h S jpi.rfl
  · subst e
    refine ⟨fun c => absurd c (by simp), fun b c => ?_⟩
    obtain rfl : x + 115 + 3 * m + 1 = b := Option.some.inj c
    obtain ⟨cnt, c14, e1, e, ht, a1, a3, a4, a5⟩ := hL
    refine ⟨ha, a3.1, ?_⟩
    rw [e2, e5]
    refine c_X9_workOut a3 a5 (fun S1 c1 => ?_)
    have k1 : jk S1 a = 2 := by rw [c1.1.1]; exact ha
    refine ⟨k1, c_X2_daysFrom k1 ?_⟩
    obtain ⟨z1, z2, z3, z4⟩ := jcl99_is (fvt (jv3 (nI k) (nI tg) (nI ag)) cw n 0)
    rw [c1.2 a (by omega), e0, e5, z4, jdays_eq hkd hag z1 z2]
    exact h S1 (jpi.pile c1)
/-- the reference's days -/
theorem c_X11_takes {Q : Int32 → jM → Prop} {o : lwt} {i k kd tg ag : Nat} (hM : MR S m v) (hL : LWD S x r v 0 o) (hi : i < 9) (e0 : mfv v i 0 = nI kd) (e2 : mfv v i 2 = nI tg) (e5 : mfv v i 5 = nI ag) (hkd : kd < 6) (hag : ag < 100) (hk : k < 25)
    (h : ∀ S', jch S S' (m + 16) (m + 18) → MR S' m v → Q (nI (tkd o k kd tg ag)) S') : jFi E mX11_takes (d + 2) 0 0 [.ref m, .int (nI i), .int (nI k)] S Q := by
  have fin : ∀ (S1 : jM) (j : Nat), 1 ≤ j → j ≤ 99 → jch S S1 (m + 16) (m + 18) → MR S1 m v → tkd o k kd tg ag = tdays kd ag j → ((nI j ≤ 1 → jk S1 m = 11 ∧ jFi E mX11_of (d + 1) 0 0 [.ref m, .int (nI i), .int 0] S1 (fun r8 S7 => (r8 = 1 → Q (2 * nI j) S7) ∧ (r8 = 2 → Q 1 S7) ∧ (r8 = 3 → jk S7 m = 11 ∧ jFi E mX11_of (d + 1) 0 0 [.ref m, .int (nI i), .int 5] S7 (fun r14 S13 => Q ((2 * nI j) + (r14 / 10)) S13)) ∧ (r8 = 4 → Q 1 S7) ∧ (r8 = 5 → Q 1 S7) ∧ (¬ r8 = 1 → ¬ r8 = 2 → ¬ r8 = 3 → ¬ r8 = 4 → ¬ r8 = 5 → Q (nI j) S7))) ∧ (¬ nI j ≤ 1 → jk S1 m = 11 ∧ jFi E mX11_of (d + 1) 0 0 [.ref m, .int (nI i), .int 0] S1 (fun r19 S18 => (r19 = 1 → Q (2 * nI j) S18) ∧ (r19 = 2 → Q (nI j - 1) S18) ∧ (r19 = 3 → jk S18 m = 11 ∧ jFi E mX11_of (d + 1) 0 0 [.ref m, .int (nI i), .int 5] S18 (fun r25 S24 => Q ((2 * nI j) + (r25 / 10)) S24)) ∧ (r19 = 4 → ((nI j - 1) ≤ 1 → Q 1 S18) ∧ (¬ (nI j - 1) ≤ 1 → Q ((nI j - 1) / 2) S18)) ∧ (r19 = 5 → Q 1 S18) ∧ (¬ r19 = 1 → ¬ r19 = 2 → ¬ r19 = 3 → ¬ r19 = 4 → ¬ r19 = 5 → Q (nI j) S18)))) := by
    intro S1 j j1 j2 c1 h1 et
    have hq := h S1 c1 h1
    rw [et] at hq
    have hne : ∀ w : Nat, w < 6 → nI kd = nI w → kd = w := fun w hw e => nI_inj (by omega) (by omega) e
    have q1 : nI kd = 1 → Q (2 * nI j) S1 := fun e => by
      have := hne 1 (by omega) e
      subst this
      rw [show (2 : Int32) = nI 2 from rfl, nI_mul]; exact hq
    have q3 : nI kd = 3 → jk S1 m = 11 ∧ jFi E mX11_of (d + 1) 0 0 [.ref m, .int (nI i), .int 5] S1 (fun r14 S13 => Q ((2 * nI j) + (r14 / 10)) S13) := fun e => by
      have := hne 3 (by omega) e
      subst this
      refine ⟨h1.k, c_X11_of (f := 5) h1 hi (by omega) ?_⟩
      rw [e5, jdiv10 ⟨ag, hag⟩, show (2 : Int32) = nI 2 from rfl, nI_mul, nI_add]; exact hq
    have q5 : nI kd = 5 → Q 1 S1 := fun e => by
      have := hne 5 (by omega) e
      subst this
      exact hq
    have q0 : ¬ nI kd = 1 → ¬ nI kd = 2 → ¬ nI kd = 3 → ¬ nI kd = 4 → ¬ nI kd = 5 → Q (nI j) S1 := fun n1 n2 n3 n4 n5 => by
      have : kd = 0 := by
        rcases (show kd = 0 ∨ kd = 1 ∨ kd = 2 ∨ kd = 3 ∨ kd = 4 ∨ kd = 5 by omega) with e | e | e | e | e | e
        · exact e
        · exact absurd (by rw [e]; rfl) n1
        · exact absurd (by rw [e]; rfl) n2
        · exact absurd (by rw [e]; rfl) n3
        · exact absurd (by rw [e]; rfl) n4
        · exact absurd (by rw [e]; rfl) n5
      subst this
      exact hq
    refine ⟨fun c => ⟨h1.k, c_X11_of (f := 0) h1 hi (by omega) ?_⟩, fun c => ⟨h1.k, c_X11_of (f := 0) h1 hi (by omega) ?_⟩⟩
    · have jj : j = 1 := by
        rw [show (1 : Int32) = nI 1 from rfl, nI_leI (by omega) (by omega)] at c; omega
      rw [e0]
      refine ⟨q1, fun e => ?_, q3, fun e => ?_, q5, q0⟩
      · have := hne 2 (by omega) e
        subst this; subst jj
        exact hq
      · have := hne 4 (by omega) e
        subst this; subst jj
        exact hq
    · have jj : 2 ≤ j := by
        rcases Nat.lt_or_ge j 2 with h9 | h9
        · exact absurd (by rw [show (1 : Int32) = nI 1 from rfl, nI_leI (by omega) (by omega)]; omega) c
        · exact h9
      obtain ⟨y, rfl⟩ : ∃ y, j = y + 1 := ⟨j - 1, by omega⟩
      rw [e0, nI_pred]
      refine ⟨q1, fun e => ?_, q3, fun e => ⟨fun c2 => ?_, fun c2 => ?_⟩, q5, q0⟩
      · have := hne 2 (by omega) e
        subst this
        have e9 : tdays 2 ag (y + 1) = y := by show (if y + 1 ≤ 1 then 1 else y + 1 - 1) = y; rw [if_neg (by omega)]; omega
        rw [e9] at hq; exact hq
      · have := hne 4 (by omega) e
        subst this
        have y1 : y ≤ 1 := by rw [show (1 : Int32) = nI 1 from rfl, nI_leI (by omega) (by omega)] at c2; exact c2
        have e9 : tdays 4 ag (y + 1) = 1 := by show (if y + 1 ≤ 3 then 1 else (y + 1 - 1) / 2) = 1; rw [if_pos (by omega)]
        rw [e9] at hq; exact hq
      · have := hne 4 (by omega) e
        subst this
        have y1 : 2 ≤ y := by
          rcases Nat.lt_or_ge y 2 with h9 | h9
          · exact absurd (by rw [show (1 : Int32) = nI 1 from rfl, nI_leI (by omega) (by omega)]; omega) c2
          · exact h9
        have hd2 : ∀ y : Fin 99, nI y.val / 2 = nI (y.val / 2) := by decide +kernel
        have e9 : tdays 4 ag (y + 1) = y / 2 := by
          show (if y + 1 ≤ 3 then 1 else (y + 1 - 1) / 2) = y / 2
          by_cases h3 : y + 1 ≤ 3
          · rw [if_pos h3, show y = 2 by omega]
          · rw [if_neg h3, show y + 1 - 1 = y by omega]
        rw [e9] at hq
        rw [hd2 ⟨y, by omega⟩]; exact hq
  have r30 := hM.1.row 15 128 (f := 30) rfl
  rw [show m + 1 + 15 = m + 16 by omega] at r30
  cases o with
  | none =>
    obtain ⟨cnt, c14, e1, e⟩ := hL
    refine T_X11_takes ⟨hM.k, c_X11_counts (w := 0) hM c14 e1 ?_⟩
    have e' : jlst v 0 cnt 0 (-1) = -1 := e
    rw [e']
    refine ⟨fun _ => ?_, fun c => absurd (by decide) c⟩
    have ek : (3 : Int32) + nI k = nI (3 + k) := nI_add 3 k
    rw [ek]
    refine fin S (3 + k) (by omega) (by omega) jch.rfl hM ?_
    show tdays kd ag (jcl99 (3 + nI k)) = _
    rw [jcl99_k ⟨k, hk⟩]
  | some q =>
    obtain ⟨t, m', n, ops, cw⟩ := q
    obtain ⟨cnt, c14, e1, e, ht, a1, a3, a4, a5⟩ := hL
    refine T_X11_takes ⟨hM.k, c_X11_counts (w := 0) hM c14 e1 ?_⟩
    have e' : jlst v 0 cnt 0 (-1) = nI t := e
    rw [e']
    refine ⟨fun c => absurd c (nI_pos (by omega)), fun _ => ⟨hM.k, _, r30.1, r30.2.1, by rw [r30.2.2]; exact jin_nI (n := 107) (by omega) (by omega), ?_⟩⟩
    have n107 : Int32.toNatClampNeg 107 = 107 := rfl
    have n103 : Int32.toNatClampNeg 103 = 103 := rfl
    have n97 : Int32.toNatClampNeg 97 = 97 := rfl
    rw [n107]
    have c1 : jch S (jput S (m + 16) 107 (nI k)) (m + 16) (m + 18) := jch.put (by omega) (by omega)
    have h1 := hM.keep c1 (by omega)
    refine c_X11_of (f := 2) h1 hi (by omega) ⟨r30.2.1, by show vp_in 103 (jl S (m + 16)); rw [r30.2.2]; exact jin_nI (n := 103) (by omega) (by omega), h1.k, _, r30.1, ?_⟩
    rw [n103, e2]
    have c2 := c1.trans (jch.put (S := jput S (m + 16) 107 (nI k)) (a := m + 16) (j := 103) (v := nI tg) (by omega) (by omega))
    have h2 := hM.keep c2 (by omega)
    refine c_X11_of (f := 5) h2 hi (by omega) ⟨r30.2.1, by show vp_in 97 (jl S (m + 16)); rw [r30.2.2]; exact jin_nI (n := 97) (by omega) (by omega), h2.k, ?_⟩
    rw [n97, e5]
    have c3 := c2.trans (jch.put (S := jput (jput S (m + 16) 107 (nI k)) (m + 16) 103 (nI tg)) (a := m + 16) (j := 97) (v := nI ag) (by omega) (by omega))
    have h3 := hM.keep c3 (by omega)
    refine c_X11_worked (vals := jv3 (nI k) (nI tg) (nI ag)) h3 (by omega) (by omega) a4 a5 (fun i hi9 => ?_) (fun S4 c4 => ?_)
    · have hi9 : i < 3 := hi9
      rcases (show i = 0 ∨ i = 1 ∨ i = 2 by omega) with rfl | rfl | rfl
      · show ji _ (m + 16) 107 = nI k
        rw [ji_put, if_neg (by omega), ji_put, if_neg (by omega), ji_put_same]
      · show ji _ (m + 16) 103 = nI tg
        rw [ji_put, if_neg (by omega), ji_put_same]
      · show ji _ (m + 16) 97 = nI ag
        rw [ji_put_same]
    · have c5 : jch S S4 (m + 16) (m + 18) := c3.trans (c4.wide (by omega) (by omega))
      obtain ⟨z1, z2, z3, z4⟩ := jcl99_is (fvt (jv3 (nI k) (nI tg) (nI ag)) cw n 0)
      rw [z3]
      exact fin S4 _ z1 z2 c5 (hM.keep c5 (by omega)) rfl
end jTakes
