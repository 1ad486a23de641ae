section
/-! NUMBERS: ranges, indices -/
theorem jwi_cases (x : Int32) {b : Int32} (n : Nat) (hb : b = nI n) (hn : n < 2 ^ 31) : (∃ j, j < n ∧ x = nI j ∧ jwi x b = 1) ∨ ((∀ j, j < n → x ≠ nI j) ∧ jwi x b = 0) := by
  subst hb
  rcases pk_ix x hn with h | h | ⟨j, hj, rfl⟩
  · refine Or.inr ⟨fun j hj e => ?_, ?_⟩
    · rw [e] at h; exact nI_pos (by omega) h
    · simp [jwi, h]
  · refine Or.inr ⟨fun j hj e => ?_, ?_⟩
    · rw [e] at h; exact nI_ge hj hn h
    · by_cases h0 : x < 0 <;> simp [jwi, h, h0]
  · refine Or.inl ⟨j, hj, rfl, ?_⟩
    have h1 : ¬ nI j < 0 := nI_pos (by omega)
    have h2 : ¬ nI n ≤ nI j := nI_ge hj hn
    simp [jwi, h1, h2]
theorem jwi_at {j n : Nat} (h : j < n) (hn : n < 2 ^ 31) : jwi (nI j) (nI n) = 1 := by
  have h1 : ¬ nI j < 0 := nI_pos (by omega)
  have h2 : ¬ nI n ≤ nI j := nI_ge h hn
  simp [jwi, h1, h2]
theorem jcl {n : Nat} (h : n < 2 ^ 31) : (nI n).toNatClampNeg = n := nI_clamp h
theorem jin_nI {n N : Nat} (h : n < N) (hN : N < 2 ^ 31) : vp_in (nI n) N := vp_in_nI h hN
theorem nI_inj {a b : Nat} (ha : a < 2 ^ 31) (hb : b < 2 ^ 31) (h : nI a = nI b) : a = b := (nI_eq ha hb).mp h
theorem nI_ne {a b : Nat} (ha : a < 2 ^ 31) (hb : b < 2 ^ 31) (h : a ≠ b) : nI a ≠ nI b := fun e => h (nI_inj ha hb e)
/-- an Int32 between 0 and n, as a number -/
theorem jofI {x : Int32} {n : Nat} (hn : n < 2 ^ 31) (h0 : 0 ≤ x) (h1 : x < nI n) : ∃ j, j < n ∧ x = nI j := by
  rcases pk_ix x hn with h | h | h
  · exact absurd h (Int32.not_lt.mpr h0)
  · exact absurd h1 (Int32.not_lt.mpr h)
  · exact h
end
section
/-! MASTERS AND THE GUILD (class): a guild at g has its row at g + 1, its masters at g + 2 .. g + 10 -/
def GL (S : jM) (g : Nat) : Prop := jk S g = 0 ∧ jr S g 0 = some (g + 1) ∧ jk S (g + 1) = 13 ∧ jl S (g + 1) = 9 ∧ ∀ i, i < 9 → jr S (g + 1) i = some (g + 2 + i) ∧ jk S (g + 2 + i) = 2
section jGuild
variable {E : jEnv} {d : Nat} {S : jM} {g : Nat} {sz : Nat}
theorem c_X0_find {Q : Option Nat → jM → Prop} {x : Int32} (hG : GL S g) (hs : ji S g 1 = nI sz) (hz : sz ≤ 9) (h1 : ∀ n, n < sz → x = nI n → Q (some (g + 2 + n)) S) (h2 : (∀ n, n < sz → x ≠ nI n) → Q none S) : jFr E mX0_find (d + 1) 0 0 [.ref g, .int x] S Q := by
  obtain ⟨k1, k2, k3, k4, k5⟩ := hG
  refine T_X0_find ⟨k1, ?_⟩
  rw [hs]
  rcases jwi_cases x sz rfl (by omega) with ⟨n, hn, rfl, e⟩ | ⟨hn, e⟩
  · rw [e]
    refine ⟨fun c => absurd c (by decide), fun _ => ⟨fun c => ?_, fun _ => ?_⟩⟩
    · exact absurd c (nI_ge (b := 9) (by omega) (by omega))
    · refine ⟨g + 1, k2, k3, ?_, g + 2 + n, ?_, h1 n hn rfl⟩
      · rw [k4]; exact jin_nI (by omega) (by omega)
      · rw [jcl (by omega)]; exact (k5 n (by omega)).1
  · rw [e]
    exact ⟨fun _ => h2 hn, fun c => absurd rfl c⟩
theorem c_X0_findAt {Q : Option Nat → jM → Prop} {n : Nat} (hG : GL S g) (hs : ji S g 1 = nI sz) (hz : sz ≤ 9) (hn : n < sz) (h : Q (some (g + 2 + n)) S) : jFr E mX0_find (d + 1) 0 0 [.ref g, .int (nI n)] S Q :=
  c_X0_find hG hs hz (fun k hk e => by rw [nI_inj (a := n) (b := k) (by omega) (by omega) e] at h; exact h) (fun hh => absurd rfl (hh n hn))
/-- what a master is made of, as a row -/
def mrow (f : Nat → Int32) (kind town gesture bars fee age dead : Int32) : Nat → Int32 := upd (upd (upd (upd (upd (upd (upd f 0 kind) 1 town) 2 gesture) 3 bars) 4 fee) 5 age) 6 dead
theorem c_X2_begin {Q : jM → Prop} {a : Nat} {x1 x2 x3 x4 : Int32} (hk : jk S a = 2) (h : Q (jrow S a (mrow (ji S a) x1 x2 x3 0 x4 40 0))) : jFv E mX2_begin d 0 0 [.ref a, .int x1, .int x2, .int x3, .int x4] S Q := by
  refine T_X2_begin ⟨hk, ?_⟩
  have e : jput (jput (jput (jput (jput (jput (jput S a 0 x1) a 1 x2) a 2 x3) a 4 x4) a 3 0) a 5 40) a 6 0 = jrow S a (mrow (ji S a) x1 x2 x3 0 x4 40 0) := by
    simp only [jput_eq, jrow_row, ji_row_same]
    congr 1
    funext i
    simp only [mrow, upd]
    repeat' split
    all_goals first | rfl | omega
  rw [e]; exact h
theorem c_X2_become {Q : jM → Prop} {a a1 : Nat} (hk : jk S a = 2) (hk1 : jk S a1 = 2) (hd : ji S a1 6 = 0 ∨ ji S a1 6 = 1) (h : Q (jrow S a (mrow (ji S a) (ji S a1 0) (ji S a1 1) (ji S a1 2) (ji S a1 3) (ji S a1 4) (ji S a1 5) (ji S a1 6)))) : jFv E mX2_become d 0 0 [.ref a, .ref a1] S Q := by
  refine T_X2_become ⟨hk1, hk, hd, ?_⟩
  simp only [jput_eq, jrow_row, ji_row_same]
  exact h
/-- what a master answers -/
def jteach (kind bars known : Int32) : Int32 := if kind = 2 then 1 else if kind = 3 then (if jbc (bars &&& known) = 0 then (if jbc known < 3 then 0 else 1) else 0) else if kind = 4 then 1 else if kind = 5 then (if 1 < jbc (bars &&& known) then 0 else 1) else (if jbc (bars &&& known) = 0 then 1 else 0)
def junl (kind bars : Int32) : Int32 := if kind = 2 then bars else 0
def jworth (kind fee : Int32) : Int32 := if kind = 1 then fee + 11 else if kind = 2 then 99 - fee else if kind = 3 then 2 * (fee + 11) else if kind = 4 then 99 - fee - 4 else if kind = 5 then 8 else fee
def jdays (kind age p : Int32) : Int32 := if kind = 1 then 2 * p else if kind = 2 then jmax 1 (p - 1) else if kind = 3 then 2 * p + age / 10 else if kind = 4 then jmax 1 (jmax 1 (p - 1) / 2) else if kind = 5 then 1 else p
theorem c_X2_teaches {Q : Int32 → jM → Prop} {a : Nat} {x1 : Int32} (hk : jk S a = 2) (h : Q (jteach (ji S a 0) (ji S a 3) x1) S) : jFi E mX2_teaches (d + 1) 0 0 [.ref a, .int x1] S Q :=
  T_X2_teaches ⟨hk, by unfold jteach at h; (repeat' first | apply And.intro | intro _) <;> simp_all⟩
theorem c_X2_unlearnt {Q : Int32 → jM → Prop} {a : Nat} (hk : jk S a = 2) (h : Q (junl (ji S a 0) (ji S a 3)) S) : jFi E mX2_unlearnt d 0 0 [.ref a] S Q :=
  T_X2_unlearnt ⟨hk, by unfold junl at h; (repeat' first | apply And.intro | intro _) <;> simp_all⟩
theorem c_X2_worth {Q : Int32 → jM → Prop} {a : Nat} (hk : jk S a = 2) (h : Q (jworth (ji S a 0) (ji S a 4)) S) : jFi E mX2_worth d 0 0 [.ref a] S Q :=
  T_X2_worth ⟨hk, by unfold jworth at h; (repeat' first | apply And.intro | intro _) <;> simp_all⟩
theorem c_X2_daysFrom {Q : Int32 → jM → Prop} {a : Nat} {x1 : Int32} (hk : jk S a = 2) (h : Q (jdays (ji S a 0) (ji S a 5) x1) S) : jFi E mX2_daysFrom (d + 1) 0 0 [.ref a, .int x1] S Q :=
  T_X2_daysFrom ⟨hk, by unfold jdays at h; (repeat' first | apply And.intro | intro _) <;> simp_all⟩
/-- a draw -/
def jlot (z : Int32) : Int32 := z * 1103515245 + 12345
theorem c_X0_draw {Q : Int32 → jM → Prop} (hk : jk S g = 0) (h : Q (jushr (jlot (ji S g 2)) 8) (jput S g 2 (jlot (ji S g 2)))) : jFi E mX0_draw d 0 0 [.ref g] S Q :=
  T_X0_draw ⟨hk, h⟩
end jGuild
end
section
/-! WHAT A CALL CHANGES: nothing but ints of the cells lo .. hi - 1 -/
def jsame (S S' : jM) : Prop := jk S' = jk S ∧ jl S' = jl S ∧ jr S' = jr S ∧ jn S' = jn S
def jch (S S' : jM) (lo hi : Nat) : Prop := jsame S S' ∧ ∀ y, (y < lo ∨ hi ≤ y) → ji S' y = ji S y
theorem jsame.rfl {S : jM} : jsame S S := ⟨_root_.rfl, _root_.rfl, _root_.rfl, _root_.rfl⟩
theorem jsame.trans {S S1 S2 : jM} (h1 : jsame S S1) (h2 : jsame S1 S2) : jsame S S2 := ⟨h2.1.trans h1.1, h2.2.1.trans h1.2.1, h2.2.2.1.trans h1.2.2.1, h2.2.2.2.trans h1.2.2.2⟩
theorem jch.rfl {S : jM} {lo hi : Nat} : jch S S lo hi := ⟨jsame.rfl, fun _ _ => _root_.rfl⟩
theorem jch.trans {S S1 S2 : jM} {lo hi : Nat} (h1 : jch S S1 lo hi) (h2 : jch S1 S2 lo hi) : jch S S2 lo hi := ⟨h1.1.trans h2.1, fun y hy => (h2.2 y hy).trans (h1.2 y hy)⟩
theorem jch.wide {S S1 : jM} {lo hi lo' hi' : Nat} (h1 : jch S S1 lo hi) (a : lo' ≤ lo) (b : hi ≤ hi') : jch S S1 lo' hi' := ⟨h1.1, fun y hy => h1.2 y (by omega)⟩
theorem jch.put {S : jM} {a j lo hi : Nat} {v : Int32} (h1 : lo ≤ a) (h2 : a < hi) : jch S (jput S a j v) lo hi := ⟨⟨_root_.rfl, _root_.rfl, _root_.rfl, _root_.rfl⟩, fun y hy => ji_put_ne _ _ _ _ (by omega)⟩
theorem jch.row {S : jM} {a lo hi : Nat} {f : Nat → Int32} (h1 : lo ≤ a) (h2 : a < hi) : jch S (jrow S a f) lo hi := ⟨⟨_root_.rfl, _root_.rfl, _root_.rfl, _root_.rfl⟩, fun y hy => ji_row_ne _ _ _ (by omega)⟩
/-! THE GUILD at g: size, z, the masters' fields -/
def GR (S : jM) (g sz : Nat) (z : Int32) (mf : Nat → Nat → Int32) : Prop := GL S g ∧ ji S g 1 = nI sz ∧ ji S g 2 = z ∧ ∀ i, i < 9 → ∀ f, f < 7 → ji S (g + 2 + i) f = mf i f
theorem GL.same {S S' : jM} {g : Nat} (h : GL S g) (hs : jsame S S') : GL S' g := by
  obtain ⟨e1, e2, e3, -⟩ := hs
  unfold GL
  rw [e1, e2, e3]
  exact h
theorem GR.keep {S S' : jM} {g sz lo hi : Nat} {z : Int32} {mf : Nat → Nat → Int32} (h : GR S g sz z mf) (hc : jch S S' lo hi) (hd : g + 11 ≤ lo ∨ hi ≤ g) : GR S' g sz z mf := by
  obtain ⟨h1, h2, h3, h4⟩ := h
  refine ⟨h1.same hc.1, ?_, ?_, fun i hi' f hf => ?_⟩
  · rw [hc.2 g (by omega)]; exact h2
  · rw [hc.2 g (by omega)]; exact h3
  · rw [hc.2 (g + 2 + i) (by omega)]; exact h4 i hi' f hf
/-- one field of one master is otherwise -/
def mset (mf : Nat → Nat → Int32) (i f : Nat) (v : Int32) : Nat → Nat → Int32 := fun a b => if a = i ∧ b = f then v else mf a b
theorem GR.putz {S : jM} {g sz : Nat} {z v : Int32} {mf : Nat → Nat → Int32} (h : GR S g sz z mf) : GR (jput S g 2 v) g sz v mf := by
  obtain ⟨h1, h2, h3, h4⟩ := h
  refine ⟨h1, ?_, ji_put_same _ _ _ _, fun i hi f hf => ?_⟩
  · rw [ji_put]; simpa using h2
  · rw [ji_put_ne _ _ _ _ (by omega)]; exact h4 i hi f hf
theorem GR.puts {S : jM} {g sz n : Nat} {z : Int32} {mf : Nat → Nat → Int32} (h : GR S g sz z mf) : GR (jput S g 1 (nI n)) g n z mf := by
  obtain ⟨h1, h2, h3, h4⟩ := h
  refine ⟨h1, ji_put_same _ _ _ _, ?_, fun i hi f hf => ?_⟩
  · rw [ji_put]; simpa using h3
  · rw [ji_put_ne _ _ _ _ (by omega)]; exact h4 i hi f hf
theorem GR.putm {S : jM} {g sz i f : Nat} {z v : Int32} {mf : Nat → Nat → Int32} (h : GR S g sz z mf) (hi : i < 9) : GR (jput S (g + 2 + i) f v) g sz z (mset mf i f v) := by
  obtain ⟨h1, h2, h3, h4⟩ := h
  refine ⟨h1, ?_, ?_, fun a ha b hb => ?_⟩
  · rw [ji_put_ne _ _ _ _ (by omega)]; exact h2
  · rw [ji_put_ne _ _ _ _ (by omega)]; exact h3
  · rw [ji_put]
    unfold mset
    by_cases hc : a = i ∧ b = f
    · rw [if_pos hc, if_pos ⟨by omega, hc.2⟩]
    · rw [if_neg hc, if_neg (fun q => hc ⟨by omega, q.2⟩)]
      exact h4 a ha b hb
/-- a whole master is otherwise -/
def mall (mf : Nat → Nat → Int32) (i : Nat) (w : Nat → Int32) : Nat → Nat → Int32 := fun a b => if a = i then w b else mf a b
theorem GR.rowm {S : jM} {g sz i : Nat} {z : Int32} {mf : Nat → Nat → Int32} {r w : Nat → Int32} (h : GR S g sz z mf) (hi : i < 9) (hr : ∀ f, f < 7 → r f = w f) : GR (jrow S (g + 2 + i) r) g sz z (mall mf i w) := by
  obtain ⟨h1, h2, h3, h4⟩ := h
  refine ⟨h1, ?_, ?_, fun a ha b hb => ?_⟩
  · rw [ji_row_ne _ _ _ (by omega)]; exact h2
  · rw [ji_row_ne _ _ _ (by omega)]; exact h3
  · unfold mall
    by_cases hc : a = i
    · subst hc; rw [if_pos rfl, ji_row_same]; exact hr b hb
    · rw [if_neg hc, ji_row_ne _ _ _ (by omega)]
      exact h4 a ha b hb
theorem GR.cong {S : jM} {g sz : Nat} {z : Int32} {mf mf' : Nat → Nat → Int32} (h : GR S g sz z mf) (he : ∀ i, i < 9 → ∀ f, f < 7 → mf i f = mf' i f) : GR S g sz z mf' :=
  ⟨h.1, h.2.1, h.2.2.1, fun i hi f hf => (h.2.2.2 i hi f hf).trans (he i hi f hf)⟩
/-- a master as it comes -/
def mnew (kind town gesture fee : Int32) : Nat → Int32 := fun f => ([kind, town, gesture, 0, fee, 40, 0] : List Int32).getD f 0
theorem mrow_new (f : Nat → Int32) (k t g fe : Int32) : ∀ i, i < 7 → mrow f k t g 0 fe 40 0 i = mnew k t g fe i := by
  intro i hi
  rcases (show i = 0 ∨ i = 1 ∨ i = 2 ∨ i = 3 ∨ i = 4 ∨ i = 5 ∨ i = 6 by omega) with rfl | rfl | rfl | rfl | rfl | rfl | rfl <;> simp [mrow, upd, mnew]
section jGuild2
variable {E : jEnv} {d : Nat} {S : jM} {g : Nat} {sz : Nat} {z : Int32} {mf : Nat → Nat → Int32}
theorem c_X0_join {Q : Int32 → jM → Prop} {x1 x2 x3 x4 : Int32} (hG : GR S g sz z mf) (hz : sz ≤ 9) (h1 : sz = 9 → Q 0 S) (h2 : sz < 9 → ∀ S', jch S S' g (g + 11) → GR S' g (sz + 1) z (mall mf sz (mnew x1 x2 x3 x4)) → Q 1 S') : jFi E mX0_join (d + 1) 0 0 [.ref g, .int x1, .int x2, .int x3, .int x4] S Q := by
  obtain ⟨k1, k2, k3, k4, k5⟩ := hG.1
  refine T_X0_join ⟨k1, ?_⟩
  rw [hG.2.1]
  rcases jwi_cases (nI sz) (b := 9) 9 rfl (by omega) with ⟨n, hn, e, e1⟩ | ⟨hn, e1⟩
  · have hsn : sz = n := nI_inj (by omega) (by omega) e
    subst hsn
    rw [e1]
    refine ⟨fun c => absurd c (by decide), fun _ => ⟨g + 1, k2, k3, by rw [k4]; exact jin_nI hn (by omega), g + 2 + sz, by rw [jcl (by omega)]; exact (k5 sz hn).1, (k5 sz hn).2, ?_⟩⟩
    refine c_X2_begin (k5 sz hn).2 ⟨k1, ?_⟩
    have hg := hG.rowm (i := sz) (w := mnew x1 x2 x3 x4) hn (mrow_new (ji S (g + 2 + sz)) x1 x2 x3 x4)
    rw [hg.2.1, nI_1]
    exact h2 hn _ ((jch.row (by omega) (by omega)).trans (jch.put (by omega) (by omega))) hg.puts
  · rw [e1]
    have : sz = 9 := by
      rcases Nat.lt_or_ge sz 9 with q | q
      · exact absurd rfl (hn sz q)
      · omega
    exact ⟨fun _ => h1 this, fun c => absurd rfl c⟩
/-- the fourth part of a guild that is drawn: z behind four draws -/
def jz4 (z : Int32) : Int32 := jlot (jlot (jlot (jlot z)))
def mdraw (z : Int32) : Nat → Int32 := mnew (jrem (jushr (jlot z) 8) 6) (jrem (jushr (jlot (jlot z)) 8) 6) (jrem (jushr (jlot (jlot (jlot z))) 8) 10) (jrem (jushr (jz4 z) 8) 40)
theorem c_X0_joinByLot {Q : jM → Prop} (hG : GR S g sz z mf) (hz : sz < 9) (h : ∀ S', jch S S' g (g + 11) → GR S' g (sz + 1) (jz4 z) (mall mf sz (mdraw z)) → Q S') : jFv E mX0_joinByLot (d + 2) 0 0 [.ref g] S Q := by
  have k1 := hG.1.1
  have e := hG.2.2.1
  have g1 := hG.putz (v := jlot z)
  have g2 := g1.putz (v := jlot (jlot z))
  have g3 := g2.putz (v := jlot (jlot (jlot z)))
  have g4 := g3.putz (v := jz4 z)
  refine T_X0_joinByLot ⟨k1, c_X0_draw k1 ⟨k1, ?_⟩⟩
  rw [e]
  refine c_X0_draw k1 ⟨k1, ?_⟩
  rw [g1.2.2.1]
  refine c_X0_draw k1 ⟨k1, ?_⟩
  rw [g2.2.2.1]
  refine c_X0_draw k1 ⟨k1, ?_⟩
  rw [g3.2.2.1]
  refine c_X0_join g4 (by omega) (fun q => absurd q (by omega)) (fun _ S' hc hg => h S' ?_ hg)
  exact (((jch.put (by omega) (by omega)).trans (jch.put (by omega) (by omega))).trans ((jch.put (by omega) (by omega)).trans (jch.put (by omega) (by omega)))).trans hc
/-- a guild becomes another one -/
theorem c_X0_become {Q : jM → Prop} {g1 sz1 : Nat} {z1 : Int32} {mf1 : Nat → Nat → Int32} (hG : GR S g sz z mf) (hG1 : GR S g1 sz1 z1 mf1) (hne : g + 11 ≤ g1 ∨ g1 + 11 ≤ g) (hd : ∀ i, i < 9 → mf1 i 6 = 0 ∨ mf1 i 6 = 1) (h : ∀ S', jch S S' g (g + 11) → GR S' g sz1 z1 mf1 → Q S') : jFv E mX0_become (d + 1) 0 0 [.ref g, .ref g1] S Q := by
  have key : ∀ (n i : Nat) (S1 : jM) (mfx : Nat → Nat → Int32), i + n = 9 → jch S S1 g (g + 11) → GR S1 g sz1 z1 mfx → (∀ a, a < i → ∀ f, f < 7 → mfx a f = mf1 a f) → L_X0_become_18 E d Q g g1 (nI i) S1 := by
    intro n
    induction n with
    | zero =>
      intro i S1 mfx hi hc hg hm
      obtain rfl : i = 9 := by omega
      exact T_X0_become_18 ⟨fun _ => h S1 hc (hg.cong (fun a ha f hf => hm a ha f hf)), fun c => absurd (by decide) c⟩
    | succ n ih =>
      intro i S1 mfx hi hc hg hm
      have hg1 := hG1.keep hc (by omega)
      obtain ⟨k1, k2, k3, k4, k5⟩ := hg.1
      obtain ⟨l1, l2, l3, l4, l5⟩ := hg1.1
      refine T_X0_become_18 ⟨fun c => absurd c (nI_ge (b := 9) (by omega) (by omega)), fun _ => ⟨k1, g + 1, k2, k3, by rw [k4]; exact jin_nI (by omega) (by omega), g + 2 + i, by rw [jcl (by omega)]; exact (k5 i (by omega)).1, l1, g1 + 1, l2, l3, by rw [l4]; exact jin_nI (by omega) (by omega), g1 + 2 + i, by rw [jcl (by omega)]; exact (l5 i (by omega)).1, (k5 i (by omega)).2, ?_⟩⟩
      have hv : ∀ f, f < 7 → ji S1 (g1 + 2 + i) f = mf1 i f := fun f hf => hg1.2.2.2 i (by omega) f hf
      refine c_X2_become (k5 i (by omega)).2 (l5 i (by omega)).2 (by rw [hv 6 (by omega)]; exact hd i (by omega)) ?_
      rw [nI_1]
      refine ih (i + 1) _ (mall mfx i (mf1 i)) (by omega) (hc.trans (jch.row (by omega) (by omega))) (hg.rowm (by omega) (fun f hf => ?_)) (fun a ha f hf => ?_)
      · rw [hv 0 (by omega), hv 1 (by omega), hv 2 (by omega), hv 3 (by omega), hv 4 (by omega), hv 5 (by omega), hv 6 (by omega)]
        rcases (show f = 0 ∨ f = 1 ∨ f = 2 ∨ f = 3 ∨ f = 4 ∨ f = 5 ∨ f = 6 by omega) with rfl | rfl | rfl | rfl | rfl | rfl | rfl <;> simp [mrow, upd]
      · unfold mall
        by_cases hai : a = i
        · subst hai; rw [if_pos rfl]
        · rw [if_neg hai]; exact hm a (by omega) f hf
  refine T_X0_become ⟨hG1.1.1, hG.1.1, ?_⟩
  rw [hG1.2.1, hG1.2.2.1]
  refine key 9 0 _ mf (by omega) ((jch.put (by omega) (by omega)).trans (jch.put (by omega) (by omega))) ?_ (fun a ha => absurd ha (by omega))
  exact (hG.puts (n := sz1)).putz
end jGuild2
end
section
/-! THE GUILD (class): years, counts -/
/-- step by step from i on, n times -/
def jfold {α : Type} (step : Nat → α → α) : Nat → Nat → α → α
  | 0, _, a => a
  | n + 1, i, a => jfold step n (i + 1) (step i a)
abbrev gst : Type := Int32 × (Nat → Nat → Int32)
/-- a year of one master -/
def yone (i : Nat) (p : gst) : gst :=
  if p.2 i 6 = 0 then (if p.2 i 5 - 50 ≤ jrem (jushr (jlot p.1) 8) 100 then (jlot p.1, mset p.2 i 5 (jmin 99 (p.2 i 5 + 1))) else (jlot p.1, mset p.2 i 6 1)) else p
def yyear (sz : Nat) (p : gst) : gst := jfold yone sz 0 p
def yyears (sz : Nat) : Nat → gst → gst
  | 0, p => p
  | n + 1, p => yyears sz n (yyear sz p)
def mdead (mf : Nat → Nat → Int32) (sz : Nat) : Int32 := jfold (fun i a => if mf i 6 = 0 then a + 0 else a + 1) sz 0 (0 : Int32)
def mages (mf : Nat → Nat → Int32) (sz : Nat) : Int32 := jfold (fun i a => a + mf i 5) sz 0 (0 : Int32)
def mtaught (mf : Nat → Nat → Int32) (sz : Nat) : Int32 := jfold (fun i a => if mf i 6 = 0 then a ||| jshl 1 (mf i 2) else a ||| 0) sz 0 (0 : Int32)
def monly (mf : Nat → Nat → Int32) (ge : Int32) : Nat → Nat → Int32 → Int32
  | 0, _, o => o
  | n + 1, i, o => if mf i 6 = 0 then (if mf i 2 = ge then (if o = (-1000000005) then monly mf ge n (i + 1) (nI i) else (-1000000005)) else monly mf ge n (i + 1) o) else monly mf ge n (i + 1) o
section jGuild3
variable {E : jEnv} {d : Nat} {S : jM} {g : Nat} {sz : Nat} {z : Int32} {mf : Nat → Nat → Int32}
theorem GR.at {i f : Nat} (h : GR S g sz z mf) (hi : i < 9) (hf : f < 7) : ji S (g + 2 + i) f = mf i f := h.2.2.2 i hi f hf
theorem GR.mk2 {i : Nat} (h : GR S g sz z mf) (hi : i < 9) : jk S (g + 2 + i) = 2 := (h.1.2.2.2.2 i hi).2
theorem c_X0_liveYear {Q : jM → Prop} (hG : GR S g sz z mf) (hz : sz ≤ 9) (h : ∀ S', jch S S' g (g + 11) → GR S' g sz (yyear sz (z, mf)).1 (yyear sz (z, mf)).2 → Q S') : jFv E mX0_liveYear (d + 2) 0 0 [.ref g] S Q := by
  have key : ∀ (n i : Nat) (S1 : jM) (p : gst), i + n = sz → jch S S1 g (g + 11) → GR S1 g sz p.1 p.2 → jfold yone n i p = yyear sz (z, mf) → L_X0_liveYear_2 E (d + 1) Q g (nI i) S1 := by
    intro n
    induction n with
    | zero =>
      intro i S1 p hi hc hg he
      obtain rfl : i = sz := by omega
      refine T_X0_liveYear_2 ⟨hg.1.1, ?_⟩
      rw [hg.2.1]
      refine ⟨fun _ => h S1 hc ?_, fun c => absurd (nI_le (Nat.le_refl _) (by omega)) c⟩
      rw [← he]; exact hg
    | succ n ih =>
      intro i S1 p hi hc hg he
      refine T_X0_liveYear_2 ⟨hg.1.1, ?_⟩
      rw [hg.2.1]
      refine ⟨fun c => absurd c (nI_ge (by omega) (by omega)), fun _ => ?_⟩
      refine c_X0_findAt hg.1 hg.2.1 hz (by omega) ⟨fun c => (by cases c), fun b hb => ?_⟩
      obtain rfl : g + 2 + i = b := Option.some.inj hb
      refine ⟨hg.mk2 (by omega), ?_⟩
      rw [hg.at (by omega) (by omega), nI_1]
      have he2 : jfold yone n (i + 1) (yone i p) = yyear sz (z, mf) := he
      refine ⟨fun c => ⟨hg.1.1, c_X0_draw hg.1.1 ⟨hg.mk2 (by omega), ?_⟩⟩, fun c => ?_⟩
      · rw [hg.2.2.1]
        have g1 := hg.putz (v := jlot p.1)
        have c1 : jch S (jput S1 g 2 (jlot p.1)) g (g + 11) := hc.trans (jch.put (by omega) (by omega))
        rw [g1.at (by omega) (by omega)]
        refine ⟨fun c2 => ?_, fun c2 => ?_⟩
        · refine ih (i + 1) _ (jlot p.1, mset p.2 i 5 (jmin 99 (p.2 i 5 + 1))) (by omega) (c1.trans (jch.put (by omega) (by omega))) (g1.putm (by omega)) ?_
          rw [← he2]; unfold yone; rw [if_pos c, if_pos c2]
        · refine ih (i + 1) _ (jlot p.1, mset p.2 i 6 1) (by omega) (c1.trans (jch.put (by omega) (by omega))) (g1.putm (by omega)) ?_
          rw [← he2]; unfold yone; rw [if_pos c, if_neg c2]
      · refine ih (i + 1) S1 p (by omega) hc hg ?_
        rw [← he2]; unfold yone; rw [if_neg c]
  exact T_X0_liveYear (key sz 0 S (z, mf) (by omega) jch.rfl hG rfl)
theorem c_X0_liveYears {Q : jM → Prop} {n : Nat} (hG : GR S g sz z mf) (hz : sz ≤ 9) (hn : n < 1000) (h : ∀ S', jch S S' g (g + 11) → GR S' g sz (yyears sz n (z, mf)).1 (yyears sz n (z, mf)).2 → Q S') : jFv E mX0_liveYears (d + 3) 0 0 [.ref g, .int (nI n)] S Q := by
  have key : ∀ (k i : Nat) (S1 : jM) (p : gst), i + k = n → jch S S1 g (g + 11) → GR S1 g sz p.1 p.2 → yyears sz k p = yyears sz n (z, mf) → L_X0_liveYears_2 E (d + 2) Q g (nI n) (nI i) S1 := by
    intro k
    induction k with
    | zero =>
      intro i S1 p hi hc hg he
      obtain rfl : i = n := by omega
      refine T_X0_liveYears_2 ⟨fun _ => h S1 hc ?_, fun c => absurd (nI_le (Nat.le_refl _) (by omega)) c⟩
      rw [← he]; exact hg
    | succ k ih =>
      intro i S1 p hi hc hg he
      refine T_X0_liveYears_2 ⟨fun c => absurd c (nI_ge (by omega) (by omega)), fun _ => ⟨hg.1.1, ?_⟩⟩
      refine c_X0_liveYear hg hz (fun S2 hc2 hg2 => ?_)
      rw [nI_1]
      exact ih (i + 1) S2 _ (by omega) (hc.trans hc2) hg2 he
  exact T_X0_liveYears (key n 0 S (z, mf) (by omega) jch.rfl hG rfl)
theorem c_X0_countDead {Q : Int32 → jM → Prop} (hG : GR S g sz z mf) (hz : sz ≤ 9) (h : Q (mdead mf sz) S) : jFi E mX0_countDead (d + 2) 0 0 [.ref g] S Q := by
  have key : ∀ (n i : Nat) (a : Int32), i + n = sz → Q (jfold (fun i a => if mf i 6 = 0 then a + 0 else a + 1) n i a) S → L_X0_countDead_4 E (d + 1) Q g a (nI i) S := by
    intro n
    induction n with
    | zero =>
      intro i a hi hq
      obtain rfl : i = sz := by omega
      refine T_X0_countDead_4 ⟨hG.1.1, ?_⟩
      rw [hG.2.1]
      exact ⟨fun _ => hq, fun c => absurd (nI_le (Nat.le_refl _) (by omega)) c⟩
    | succ n ih =>
      intro i a hi hq
      refine T_X0_countDead_4 ⟨hG.1.1, ?_⟩
      rw [hG.2.1]
      refine ⟨fun c => absurd c (nI_ge (by omega) (by omega)), fun _ => c_X0_findAt hG.1 hG.2.1 hz (by omega) ⟨fun c => (by cases c), fun b hb => ?_⟩⟩
      obtain rfl : g + 2 + i = b := Option.some.inj hb
      refine ⟨hG.mk2 (by omega), ?_⟩
      rw [hG.at (by omega) (by omega), nI_1]
      refine ⟨fun c => ih (i + 1) _ (by omega) ?_, fun c => ih (i + 1) _ (by omega) ?_⟩
      · simpa [jfold, c] using hq
      · simpa [jfold, c] using hq
  exact T_X0_countDead (key sz 0 0 (by omega) h)
theorem c_X0_agesTogether {Q : Int32 → jM → Prop} (hG : GR S g sz z mf) (hz : sz ≤ 9) (h : Q (mages mf sz) S) : jFi E mX0_agesTogether (d + 2) 0 0 [.ref g] S Q := by
  have key : ∀ (n i : Nat) (a : Int32), i + n = sz → Q (jfold (fun i a => a + mf i 5) n i a) S → L_X0_agesTogether_4 E (d + 1) Q g a (nI i) S := by
    intro n
    induction n with
    | zero =>
      intro i a hi hq
      obtain rfl : i = sz := by omega
      refine T_X0_agesTogether_4 ⟨hG.1.1, ?_⟩
      rw [hG.2.1]
      exact ⟨fun _ => hq, fun c => absurd (nI_le (Nat.le_refl _) (by omega)) c⟩
    | succ n ih =>
      intro i a hi hq
      refine T_X0_agesTogether_4 ⟨hG.1.1, ?_⟩
      rw [hG.2.1]
      refine ⟨fun c => absurd c (nI_ge (by omega) (by omega)), fun _ => c_X0_findAt hG.1 hG.2.1 hz (by omega) ⟨fun c => (by cases c), fun b hb => ?_⟩⟩
      obtain rfl : g + 2 + i = b := Option.some.inj hb
      refine ⟨hG.mk2 (by omega), ?_⟩
      rw [hG.at (by omega) (by omega), nI_1]
      exact ih (i + 1) _ (by omega) hq
  exact T_X0_agesTogether (key sz 0 0 (by omega) h)
theorem c_X0_taught {Q : Int32 → jM → Prop} (hG : GR S g sz z mf) (hz : sz ≤ 9) (h : Q (mtaught mf sz) S) : jFi E mX0_taught (d + 2) 0 0 [.ref g] S Q := by
  have key : ∀ (n i : Nat) (a : Int32), i + n = sz → Q (jfold (fun i a => if mf i 6 = 0 then a ||| jshl 1 (mf i 2) else a ||| 0) n i a) S → L_X0_taught_4 E (d + 1) Q g a (nI i) S := by
    intro n
    induction n with
    | zero =>
      intro i a hi hq
      obtain rfl : i = sz := by omega
      refine T_X0_taught_4 ⟨hG.1.1, ?_⟩
      rw [hG.2.1]
      exact ⟨fun _ => hq, fun c => absurd (nI_le (Nat.le_refl _) (by omega)) c⟩
    | succ n ih =>
      intro i a hi hq
      refine T_X0_taught_4 ⟨hG.1.1, ?_⟩
      rw [hG.2.1]
      refine ⟨fun c => absurd c (nI_ge (by omega) (by omega)), fun _ => c_X0_findAt hG.1 hG.2.1 hz (by omega) ⟨fun c => (by cases c), fun b hb => ?_⟩⟩
      obtain rfl : g + 2 + i = b := Option.some.inj hb
      refine ⟨hG.mk2 (by omega), ?_⟩
      rw [hG.at (f := 6) (by omega) (by omega), hG.at (f := 2) (by omega) (by omega), nI_1]
      refine ⟨fun c => ih (i + 1) _ (by omega) ?_, fun c => ih (i + 1) _ (by omega) ?_⟩
      · simpa [jfold, c] using hq
      · simpa [jfold, c] using hq
  exact T_X0_taught (key sz 0 0 (by omega) h)
theorem c_X0_onlyTeacher {Q : Int32 → jM → Prop} {x1 : Int32} (hG : GR S g sz z mf) (hz : sz ≤ 9) (h : Q (monly mf x1 sz 0 (-1000000005)) S) : jFi E mX0_onlyTeacher (d + 2) 0 0 [.ref g, .int x1] S Q := by
  have key : ∀ (n i : Nat) (a : Int32), i + n = sz → Q (monly mf x1 n i a) S → L_X0_onlyTeacher_5 E (d + 1) Q g x1 a (nI i) S := by
    intro n
    induction n with
    | zero =>
      intro i a hi hq
      obtain rfl : i = sz := by omega
      refine T_X0_onlyTeacher_5 ⟨hG.1.1, ?_⟩
      rw [hG.2.1]
      exact ⟨fun _ => hq, fun c => absurd (nI_le (Nat.le_refl _) (by omega)) c⟩
    | succ n ih =>
      intro i a hi hq
      refine T_X0_onlyTeacher_5 ⟨hG.1.1, ?_⟩
      rw [hG.2.1]
      refine ⟨fun c => absurd c (nI_ge (by omega) (by omega)), fun _ => c_X0_findAt hG.1 hG.2.1 hz (by omega) ⟨fun c => (by cases c), fun b hb => ?_⟩⟩
      obtain rfl : g + 2 + i = b := Option.some.inj hb
      refine ⟨hG.mk2 (by omega), ?_⟩
      rw [hG.at (f := 6) (by omega) (by omega), hG.at (f := 2) (by omega) (by omega), nI_1]
      unfold monly at hq
      refine ⟨fun c => ⟨fun c2 => ⟨fun c3 => ih (i + 1) _ (by omega) ?_, fun c3 => ?_⟩, fun c2 => ih (i + 1) _ (by omega) ?_⟩, fun c => ih (i + 1) _ (by omega) ?_⟩ <;> simpa [*] using hq
  exact T_X0_onlyTeacher (key sz 0 _ (by omega) h)
end jGuild3
end
section
/-! ROADS (class) at q: days at q + 1, ways at q + 2; FAR by the same steps as the reference takes them -/
def w0step (dy : Nat → Int32) (i : Nat) (w : Nat → Int32) : Nat → Int32 := upd w i (if i / 6 = i % 6 then 0 else if dy i = 0 then 9999 else dy i)
def w1step (o i : Nat) (w : Nat → Int32) : Nat → Int32 := upd w i (jmin (w i) (w (i / 6 * 6 + o) + w (o * 6 + i % 6)))
def w1 (o : Nat) (w : Nat → Int32) : Nat → Int32 := jfold (w1step o) 36 0 w
def wfar (dy w : Nat → Int32) : Nat → Int32 := jfold w1 6 0 (jfold (w0step dy) 36 0 w)
theorem nI_ix6 (a c : Nat) : nI a * 6 + nI c = nI (a * 6 + c) := by
  rw [show (6 : Int32) = nI 6 from rfl, pk_mul, nI_add]
theorem jfold_snoc {α : Type} (st : Nat → α → α) : ∀ (n i : Nat) (a : α), jfold st (n + 1) i a = st (i + n) (jfold st n i a)
  | 0, i, a => rfl
  | n + 1, i, a => by
    show jfold st (n + 1) (i + 1) (st i a) = st (i + (n + 1)) (jfold st n (i + 1) (st i a))
    rw [jfold_snoc st n (i + 1) (st i a)]
    congr 1
    omega
def RdL (S : jM) (q : Nat) : Prop := jk S q = 4 ∧ jr S q 0 = some (q + 1) ∧ jr S q 1 = some (q + 2) ∧ jk S (q + 1) = 12 ∧ jl S (q + 1) = 36 ∧ jk S (q + 2) = 12 ∧ jl S (q + 2) = 36
def RdR (S : jM) (q : Nat) (dy wy : Nat → Int32) : Prop := RdL S q ∧ (∀ i, i < 36 → ji S (q + 1) i = dy i) ∧ ∀ i, i < 36 → ji S (q + 2) i = wy i
theorem RdL.same {S S' : jM} {q : Nat} (h : RdL S q) (hs : jsame S S') : RdL S' q := by
  obtain ⟨e1, e2, e3, -⟩ := hs
  unfold RdL
  rw [e1, e2, e3]
  exact h
theorem RdR.keep {S S' : jM} {q lo hi : Nat} {dy wy : Nat → Int32} (h : RdR S q dy wy) (hc : jch S S' lo hi) (hd : q + 3 ≤ lo ∨ hi ≤ q) : RdR S' q dy wy :=
  ⟨h.1.same hc.1, fun i hi' => by rw [hc.2 (q + 1) (by omega)]; exact h.2.1 i hi', fun i hi' => by rw [hc.2 (q + 2) (by omega)]; exact h.2.2 i hi'⟩
section jRoads
variable {E : jEnv} {d : Nat} {S : jM} {q : Nat}
theorem l_X4_meas2 {Q : jM → Prop} (hL : RdL S q) (h : ∀ S', jch S S' q (q + 3) → ji S' (q + 2) = jfold w1 6 0 (ji S (q + 2)) → ji S' (q + 1) = ji S (q + 1) → Q S') : L_X4_measure_73 E d Q q 0 S := by
  have hr2 := hL.2.2.1
  have hk2 := hL.2.2.2.2.2.1
  have hl2 := hL.2.2.2.2.2.2
  have stepI : ∀ (o : Nat), o < 6 → ∀ (wz : Nat → Int32), L_X4_measure_73 E d Q q (nI (o + 1)) (jrow S (q + 2) wz) → ∀ (n i : Nat) (w : Nat → Int32), i + n = 36 → jfold (w1step o) n i w = wz → (0 < n → L_X4_measure_89 E d Q q (nI o) (nI (i / 6)) (nI (i % 6)) (jrow S (q + 2) w)) ∧ (n = 0 → L_X4_measure_81 E d Q q (nI o) (nI 6) (jrow S (q + 2) w)) := by
    intro o ho wz hend n
    induction n with
    | zero =>
      intro i w hi hw
      refine ⟨fun c => absurd c (by omega), fun _ => ?_⟩
      have hw' : w = wz := hw
      subst hw'
      exact T_X4_measure_81 ⟨fun _ => by rw [nI_1]; exact hend, fun c => absurd (by decide) c⟩
    | succ n ih =>
      intro i w hi hw
      refine ⟨fun _ => ?_, fun c => absurd c (by omega)⟩
      have hi6 : i / 6 < 6 := by omega
      have hm6 : i % 6 < 6 := by omega
      have hrow : ji (jrow S (q + 2) w) (q + 2) = w := ji_row_same _ _ _
      have ii : i / 6 * 6 + i % 6 = i := by omega
      refine T_X4_measure_89 ⟨fun c => absurd c (nI_ge (b := 6) (by omega) (by omega)), fun _ => ⟨hL.1, q + 2, hr2, hk2, ?_, ?_, ?_⟩⟩
      · rw [nI_ix6]; show vp_in _ (jl S (q + 2)); rw [hl2]; exact jin_nI (by omega) (by omega)
      · rw [nI_ix6]; show vp_in _ (jl S (q + 2)); rw [hl2]; exact jin_nI (by omega) (by omega)
      · intro y hy
        refine ⟨?_, ?_⟩
        · rw [nI_ix6]; show vp_in _ (jl S (q + 2)); rw [hl2]; exact jin_nI (by omega) (by omega)
        · rw [nI_ix6, nI_ix6, jcl (by omega), jcl (by omega), hrow] at hy
          rw [nI_ix6, jcl (by omega), hrow, nI_1, jput_eq, jrow_row, hrow, ii]
          have hs : upd w i (jmin (w i) y) = w1step o i w := by rw [hy]; rfl
          rw [hs]
          have hnext := ih (i + 1) (w1step o i w) (by omega) hw
          rcases Nat.lt_or_ge (i % 6) 5 with hc | hc
          · have e1 : (i + 1) / 6 = i / 6 := by omega
            have e2 : (i + 1) % 6 = i % 6 + 1 := by omega
            rw [e1, e2] at hnext
            exact hnext.1 (by omega)
          · have e2 : i % 6 + 1 = 6 := by omega
            rw [e2]
            refine T_X4_measure_89 ⟨fun _ => ?_, fun c => absurd (by decide) c⟩
            rw [nI_1]
            by_cases hn : n = 0
            · have e3 : i / 6 + 1 = 6 := by omega
              rw [e3]
              exact hnext.2 hn
            · have e3 : (i + 1) / 6 = i / 6 + 1 := by omega
              have e4 : (i + 1) % 6 = 0 := by omega
              have h9 := hnext.1 (by omega)
              rw [e3, e4] at h9
              exact T_X4_measure_81 ⟨fun c => absurd c (nI_ge (b := 6) (by omega) (by omega)), fun _ => h9⟩
  have stepO : ∀ (n o : Nat) (w : Nat → Int32), o + n = 6 → jfold w1 n o w = jfold w1 6 0 (ji S (q + 2)) → L_X4_measure_73 E d Q q (nI o) (jrow S (q + 2) w) := by
    intro n
    induction n with
    | zero =>
      intro o w ho hw
      obtain rfl : o = 6 := by omega
      refine T_X4_measure_73 ⟨fun _ => h _ (jch.row (by omega) (by omega)) ?_ ?_, fun c => absurd (by decide) c⟩
      · rw [ji_row_same]; exact hw
      · rw [ji_row_ne _ _ _ (by omega)]
    | succ n ih =>
      intro o w ho hw
      refine T_X4_measure_73 ⟨fun c => absurd c (nI_ge (b := 6) (by omega) (by omega)), fun _ => ?_⟩
      refine T_X4_measure_81 ⟨fun c => absurd c (by decide), fun _ => ?_⟩
      exact (stepI o (by omega) (w1 o w) (ih (o + 1) (w1 o w) (by omega) hw) 36 0 w (by omega) rfl).1 (by omega)
  have h0 := stepO 6 0 (ji S (q + 2)) (by omega) rfl
  rw [jrow_self] at h0
  exact h0
theorem c_X4_measure {Q : jM → Prop} (hL : RdL S q) (h : ∀ S', jch S S' q (q + 3) → ji S' (q + 2) = wfar (ji S (q + 1)) (ji S (q + 2)) → ji S' (q + 1) = ji S (q + 1) → Q S') : jFv E mX4_measure (d + 1) 0 0 [.ref q] S Q := by
  have hr1 := hL.2.1
  have hr2 := hL.2.2.1
  have hk1 := hL.2.2.2.1
  have hl1 := hL.2.2.2.2.1
  have hk2 := hL.2.2.2.2.2.1
  have hl2 := hL.2.2.2.2.2.2
  have hend : L_X4_measure_73 E d Q q 0 (jrow S (q + 2) (jfold (w0step (ji S (q + 1))) 36 0 (ji S (q + 2)))) := by
    refine l_X4_meas2 (S := jrow S (q + 2) (jfold (w0step (ji S (q + 1))) 36 0 (ji S (q + 2)))) hL (fun S' hc e1 e2 => h S' ((jch.row (by omega) (by omega)).trans hc) ?_ ?_)
    · rw [e1, ji_row_same]; rfl
    · rw [e2, ji_row_ne _ _ _ (by omega)]
  have stepI : ∀ (n i : Nat) (w : Nat → Int32), i + n = 36 → jfold (w0step (ji S (q + 1))) n i w = jfold (w0step (ji S (q + 1))) 36 0 (ji S (q + 2)) → (0 < n → L_X4_measure_10 E d Q q (nI (i / 6)) (nI (i % 6)) (jrow S (q + 2) w)) ∧ (n = 0 → L_X4_measure_2 E d Q q (nI 6) (jrow S (q + 2) w)) := by
    intro n
    induction n with
    | zero =>
      intro i w hi hw
      refine ⟨fun c => absurd c (by omega), fun _ => ?_⟩
      have hw' : w = jfold (w0step (ji S (q + 1))) 36 0 (ji S (q + 2)) := hw
      rw [hw']
      exact T_X4_measure_2 ⟨fun _ => hend, fun c => absurd (by decide) c⟩
    | succ n ih =>
      intro i w hi hw
      refine ⟨fun _ => ?_, fun c => absurd c (by omega)⟩
      have hi6 : i / 6 < 6 := by omega
      have hm6 : i % 6 < 6 := by omega
      have ii : i / 6 * 6 + i % 6 = i := by omega
      have hrow : ji (jrow S (q + 2) w) (q + 2) = w := ji_row_same _ _ _
      have hrow1 : ji (jrow S (q + 2) w) (q + 1) = ji S (q + 1) := ji_row_ne _ _ _ (by omega)
      have hnext := ih (i + 1) (w0step (ji S (q + 1)) i w) (by omega) hw
      have hgo : L_X4_measure_10 E d Q q (nI (i / 6)) (nI (i % 6 + 1)) (jrow S (q + 2) (w0step (ji S (q + 1)) i w)) := by
        rcases Nat.lt_or_ge (i % 6) 5 with hc | hc
        · have e1 : (i + 1) / 6 = i / 6 := by omega
          have e2 : (i + 1) % 6 = i % 6 + 1 := by omega
          rw [e1, e2] at hnext
          exact hnext.1 (by omega)
        · have e2 : i % 6 + 1 = 6 := by omega
          rw [e2]
          refine T_X4_measure_10 ⟨fun _ => ?_, fun c => absurd (by decide) c⟩
          rw [nI_1]
          by_cases hn : n = 0
          · have e3 : i / 6 + 1 = 6 := by omega
            rw [e3]
            exact hnext.2 hn
          · have e3 : (i + 1) / 6 = i / 6 + 1 := by omega
            have e4 : (i + 1) % 6 = 0 := by omega
            have h9 := hnext.1 (by omega)
            rw [e3, e4] at h9
            exact T_X4_measure_2 ⟨fun c => absurd c (nI_ge (b := 6) (by omega) (by omega)), fun _ => h9⟩
      have hin1 : vp_in (nI (i / 6) * 6 + nI (i % 6)) (jl (jrow S (q + 2) w) (q + 1)) := by rw [nI_ix6]; show vp_in _ (jl S (q + 1)); rw [hl1]; exact jin_nI (by omega) (by omega)
      have hin2 : vp_in (nI (i / 6) * 6 + nI (i % 6)) (jl (jrow S (q + 2) w) (q + 2)) := by rw [nI_ix6]; show vp_in _ (jl S (q + 2)); rw [hl2]; exact jin_nI (by omega) (by omega)
      refine T_X4_measure_10 ⟨fun c => absurd c (nI_ge (b := 6) (by omega) (by omega)), fun _ => ⟨hL.1, q + 1, hr1, hk1, hin1, q + 2, hr2, fun c => ⟨hk2, hin2, ?_⟩, fun c => ⟨fun c2 => ⟨hk2, hin2, ?_⟩, fun c2 => ⟨hk2, hin2, ?_⟩⟩⟩⟩
      · have hc : i / 6 = i % 6 := nI_inj (by omega) (by omega) c
        rw [nI_ix6, jcl (by omega), nI_1, jput_eq, jrow_row, hrow, ii]
        have hs : upd w i 0 = w0step (ji S (q + 1)) i w := by unfold w0step; rw [if_pos hc]
        rw [hs]; exact hgo
      · have hc : ¬ i / 6 = i % 6 := fun e => c (by rw [e])
        rw [nI_ix6, jcl (by omega), hrow1, ii] at c2
        rw [nI_ix6, jcl (by omega), nI_1, jput_eq, jrow_row, hrow, ii]
        have hs : upd w i 9999 = w0step (ji S (q + 1)) i w := by unfold w0step; rw [if_neg hc, if_pos c2]
        rw [hs]; exact hgo
      · have hc : ¬ i / 6 = i % 6 := fun e => c (by rw [e])
        rw [nI_ix6, jcl (by omega), hrow1, ii] at c2
        rw [nI_ix6, jcl (by omega), hrow1, nI_1, jput_eq, jrow_row, hrow, ii]
        have hs : upd w i (ji S (q + 1) i) = w0step (ji S (q + 1)) i w := by unfold w0step; rw [if_neg hc, if_neg c2]
        rw [hs]; exact hgo
  have h0 := (stepI 36 0 (ji S (q + 2)) (by omega) rfl).1 (by omega)
  rw [jrow_self] at h0
  exact T_X4_measure (T_X4_measure_2 ⟨fun c => absurd c (by decide), fun _ => h0⟩)
end jRoads
end
section
/-! ROADS (class): asked, built, copied; FAR depends on the days alone -/
def agr (n : Nat) (f g : Nat → Int32) : Prop := ∀ i, i < n → f i = g i
theorem agr_upd {n : Nat} {f g : Nat → Int32} (h : agr n f g) (i : Nat) {v w : Int32} (e : v = w) : agr n (upd f i v) (upd g i w) := by
  intro j hj
  unfold upd
  by_cases hji : j = i
  · rw [if_pos hji, if_pos hji]; exact e
  · rw [if_neg hji, if_neg hji]; exact h j hj
theorem agr_fold {n : Nat} {st st' : Nat → (Nat → Int32) → (Nat → Int32)} : ∀ (k i : Nat) (f g : Nat → Int32), (∀ j, i ≤ j → j < i + k → ∀ f g, agr n f g → agr n (st j f) (st' j g)) → agr n f g → agr n (jfold st k i f) (jfold st' k i g)
  | 0, _, _, _, _, h => h
  | k + 1, i, f, g, hs, h => agr_fold k (i + 1) (st i f) (st' i g) (fun j h1 h2 => hs j (by omega) (by omega)) (hs i (by omega) (by omega) f g h)
theorem w0_at (dy : Nat → Int32) : ∀ (k i : Nat) (w : Nat → Int32) (j : Nat), jfold (w0step dy) k i w j = if i ≤ j ∧ j < i + k then (if j / 6 = j % 6 then 0 else if dy j = 0 then 9999 else dy j) else w j
  | 0, i, w, j => by rw [if_neg (by omega)]; rfl
  | k + 1, i, w, j => by
    show jfold (w0step dy) k (i + 1) (w0step dy i w) j = _
    rw [w0_at dy k (i + 1) (w0step dy i w) j]
    by_cases h1 : i + 1 ≤ j ∧ j < i + 1 + k
    · rw [if_pos h1, if_pos (c := i ≤ j ∧ j < i + (k + 1)) (by omega)]
    · rw [if_neg h1]
      by_cases h2 : j = i
      · subst h2; rw [if_pos (by omega)]; simp [w0step, upd]
      · rw [if_neg (by omega)]; simp [w0step, upd, h2]
theorem wfar_agr {dy dy' w w' : Nat → Int32} (h : agr 36 dy dy') : agr 36 (wfar dy w) (wfar dy' w') := by
  unfold wfar
  refine agr_fold 6 0 _ _ (fun o _ ho f g hfg => ?_) (fun i hi => ?_)
  · refine agr_fold 36 0 _ _ (fun i _ hi f g hfg => ?_) hfg
    exact agr_upd hfg i (by rw [hfg i (by omega), hfg (i / 6 * 6 + o) (by omega), hfg (o * 6 + i % 6) (by omega)])
  · rw [w0_at, w0_at, if_pos (c := 0 ≤ i ∧ i < 0 + 36) (by omega), if_pos (c := 0 ≤ i ∧ i < 0 + 36) (by omega), h i hi]
theorem RdR.same {S S' : jM} {q : Nat} {dy wy : Nat → Int32} (h : RdR S q dy wy) (hs : jsame S S') (h1 : ji S' (q + 1) = ji S (q + 1)) (h2 : ji S' (q + 2) = ji S (q + 2)) : RdR S' q dy wy :=
  ⟨h.1.same hs, fun i hi => by rw [h1]; exact h.2.1 i hi, fun i hi => by rw [h2]; exact h.2.2 i hi⟩
/-- a road is built: both ways -/
def dbuild (dy : Nat → Int32) (a b : Nat) (v : Int32) : Nat → Int32 := upd (upd dy (a * 6 + b) v) (b * 6 + a) v
section jRoads2
variable {E : jEnv} {d : Nat} {S : jM} {q : Nat} {dy wy : Nat → Int32}
theorem c_X4_direct {Q : Int32 → jM → Prop} {a b : Nat} (hR : RdR S q dy wy) (ha : a < 6) (hb : b < 6) (h : Q (dy (a * 6 + b)) S) : jFi E mX4_direct (d + 1) 0 0 [.ref q, .int (nI a), .int (nI b)] S Q := by
  refine T_X4_direct ?_
  rw [show (6 : Int32) = nI 6 from rfl, jwi_at ha (by omega), jwi_at hb (by omega)]
  refine ⟨fun c => absurd c (by decide), fun _ => ⟨fun c => absurd c (by decide), fun _ => ⟨hR.1.1, q + 1, hR.1.2.1, hR.1.2.2.2.1, ?_, ?_⟩⟩⟩
  · rw [pk_mul, nI_add, hR.1.2.2.2.2.1]; exact jin_nI (by omega) (by omega)
  · rw [pk_mul, nI_add, jcl (by omega), hR.2.1 _ (by omega)]; exact h
theorem c_X4_fewest {Q : Int32 → jM → Prop} {a b : Nat} (hR : RdR S q dy wy) (ha : a < 6) (hb : b < 6) (h : Q (wy (a * 6 + b)) S) : jFi E mX4_fewest (d + 1) 0 0 [.ref q, .int (nI a), .int (nI b)] S Q := by
  refine T_X4_fewest ?_
  rw [show (6 : Int32) = nI 6 from rfl, jwi_at ha (by omega), jwi_at hb (by omega)]
  refine ⟨fun c => absurd c (by decide), fun _ => ⟨fun c => absurd c (by decide), fun _ => ⟨hR.1.1, q + 2, hR.1.2.2.1, hR.1.2.2.2.2.2.1, ?_, ?_⟩⟩⟩
  · rw [pk_mul, nI_add, hR.1.2.2.2.2.2.2]; exact jin_nI (by omega) (by omega)
  · rw [pk_mul, nI_add, jcl (by omega), hR.2.2 _ (by omega)]; exact h
theorem c_X4_build {Q : jM → Prop} {a b : Nat} {v : Int32} (hR : RdR S q dy wy) (ha : a < 6) (hb : b < 6) (h : ∀ S', jch S S' q (q + 3) → RdR S' q (dbuild dy a b v) (wfar (dbuild dy a b v) (fun _ => 0)) → Q S') : jFv E mX4_build (d + 2) 0 0 [.ref q, .int (nI a), .int (nI b), .int v] S Q := by
  refine T_X4_build ?_
  rw [show (6 : Int32) = nI 6 from rfl, jwi_at ha (by omega), jwi_at hb (by omega)]
  refine ⟨fun c => absurd c (by decide), fun _ => ⟨fun c => absurd c (by decide), fun _ => ⟨hR.1.1, q + 1, hR.1.2.1, hR.1.2.2.2.1, ?_, ?_, ?_⟩⟩⟩
  · rw [pk_mul, nI_add, hR.1.2.2.2.2.1]; exact jin_nI (by omega) (by omega)
  · rw [pk_mul, nI_add, hR.1.2.2.2.2.1]; exact jin_nI (by omega) (by omega)
  · rw [pk_mul, nI_add, pk_mul, nI_add, jcl (by omega), jcl (by omega)]
    refine c_X4_measure (S := jput (jput S (q + 1) (a * 6 + b) v) (q + 1) (b * 6 + a) v) hR.1 (fun S' hc e1 e2 => ?_)
    have hdy : agr 36 (ji (jput (jput S (q + 1) (a * 6 + b) v) (q + 1) (b * 6 + a) v) (q + 1)) (dbuild dy a b v) := by
      rw [jput_eq, ji_row_same, jput_eq, ji_row_same]
      exact agr_upd (agr_upd (fun i hi => hR.2.1 i hi) _ rfl) _ rfl
    refine h S' (((jch.put (by omega) (by omega)).trans (jch.put (by omega) (by omega))).trans hc) ⟨RdL.same (S := S) hR.1 hc.1, fun i hi => ?_, fun i hi => ?_⟩
    · rw [e2]; exact hdy i hi
    · rw [e1]; exact wfar_agr hdy i hi
theorem va_cpy0 {f g : Nat → Int32} {n j : Nat} (h : j < n) : va_cpy f g 0 0 n j = f j := by
  rw [pk_cpy_in (Nat.zero_le _) (by omega)]
  congr 1
  omega
theorem c_X4_become {Q : jM → Prop} {q1 : Nat} {dy1 wy1 : Nat → Int32} (hR : RdR S q dy wy) (hR1 : RdR S q1 dy1 wy1) (hne : q + 3 ≤ q1 ∨ q1 + 3 ≤ q) (h : ∀ S', jch S S' q (q + 3) → RdR S' q dy1 wy1 → Q S') : jFv E mX4_become (d + 1) 0 0 [.ref q, .ref q1] S Q := by
  obtain ⟨⟨a1, a2, a3, a4, a5, a6, a7⟩, b1, b2⟩ := hR
  obtain ⟨⟨c1, c2, c3, c4, c5, c6, c7⟩, e1, e2⟩ := hR1
  have n36 : Int32.toNatClampNeg 36 = 36 := rfl
  have n0 : Int32.toNatClampNeg 0 = 0 := rfl
  refine T_X4_become ⟨c1, q1 + 1, c2, a1, q + 1, a2, c4, a4, ⟨by decide, by decide, by decide, by rw [c5]; decide, by rw [a5]; decide⟩, q1 + 2, c3, q + 2, a3, c6, a6, ⟨by decide, by decide, by decide, by rw [c7]; decide, by rw [a7]; decide⟩, ?_⟩
  rw [n36, n0]
  refine h _ ((jch.row (by omega) (by omega)).trans (jch.row (by omega) (by omega))) ⟨⟨a1, a2, a3, a4, a5, a6, a7⟩, fun i hi => ?_, fun i hi => ?_⟩
  · rw [ji_row_ne _ _ _ (by omega), ji_row_same, va_cpy0 hi]; exact e1 i hi
  · rw [ji_row_same, va_cpy0 hi, ji_row_ne _ _ _ (by omega)]; exact e2 i hi
end jRoads2
end
section
/-! THE LEARNER (class) at l: from at l + 1, rested at l + 2 -/
def LdL (S : jM) (l : Nat) : Prop := jk S l = 1 ∧ jr S l 5 = some (l + 1) ∧ jr S l 6 = some (l + 2) ∧ jk S (l + 1) = 12 ∧ jl S (l + 1) = 10 ∧ jk S (l + 2) = 12 ∧ jl S (l + 2) = 10
def LdR (S : jM) (l : Nat) (at_ kn co fo da : Int32) (fr re : Nat → Int32) : Prop :=
  LdL S l ∧ ji S l 0 = at_ ∧ ji S l 1 = kn ∧ ji S l 2 = co ∧ ji S l 3 = fo ∧ ji S l 4 = da ∧ (∀ i, i < 10 → ji S (l + 1) i = fr i) ∧ ∀ i, i < 10 → ji S (l + 2) i = re i
theorem LdL.same {S S' : jM} {l : Nat} (h : LdL S l) (hs : jsame S S') : LdL S' l := by
  obtain ⟨e1, e2, e3, -⟩ := hs
  unfold LdL
  rw [e1, e2, e3]
  exact h
theorem LdR.keep {S S' : jM} {l lo hi : Nat} {at_ kn co fo da : Int32} {fr re : Nat → Int32} (h : LdR S l at_ kn co fo da fr re) (hc : jch S S' lo hi) (hd : l + 3 ≤ lo ∨ hi ≤ l) : LdR S' l at_ kn co fo da fr re := by
  obtain ⟨h0, h1, h2, h3, h4, h5, h6, h7⟩ := h
  have e := hc.2 l (by omega)
  refine ⟨h0.same hc.1, by rw [e]; exact h1, by rw [e]; exact h2, by rw [e]; exact h3, by rw [e]; exact h4, by rw [e]; exact h5, fun i hi' => ?_, fun i hi' => ?_⟩
  · rw [hc.2 (l + 1) (by omega)]; exact h6 i hi'
  · rw [hc.2 (l + 2) (by omega)]; exact h7 i hi'
/-- days go by: one gesture; all of them -/
abbrev lst : Type := Int32 × (Nat → Int32)
def pone (n fo : Int32) (g : Nat) (p : lst) : lst :=
  if p.1 &&& jshl 1 (nI g) = 0 then p else (if fo = 0 then p.1 else if p.2 g + n ≤ fo then p.1 else p.1 &&& (jshl 1 (nI g) ^^^ (-1)), upd p.2 g (p.2 g + n))
def pdays (n fo : Int32) (p : lst) : lst := jfold (pone n fo) 10 0 p
def jable (kn x : Int32) : Int32 := if jwi x 10 = 0 then 0 else if kn &&& jshl 1 x = 0 then 0 else 1
section jLearner
variable {E : jEnv} {d : Nat} {S : jM} {l : Nat} {at_ kn co fo da : Int32} {fr re : Nat → Int32}
theorem LdR.cong {fr' re' : Nat → Int32} (h : LdR S l at_ kn co fo da fr re) (h1 : ∀ i, i < 10 → fr i = fr' i) (h2 : ∀ i, i < 10 → re i = re' i) : LdR S l at_ kn co fo da fr' re' := by
  obtain ⟨a0, a1, a2, a3, a4, a5, a6, a7⟩ := h
  exact ⟨a0, a1, a2, a3, a4, a5, fun i hi => (a6 i hi).trans (h1 i hi), fun i hi => (a7 i hi).trans (h2 i hi)⟩
theorem LdR.put0 {v : Int32} (h : LdR S l at_ kn co fo da fr re) : LdR (jput S l 0 v) l v kn co fo da fr re := by
  obtain ⟨a0, a1, a2, a3, a4, a5, a6, a7⟩ := h
  refine ⟨a0, ji_put_same _ _ _ _, ?_, ?_, ?_, ?_, fun i hi => ?_, fun i hi => ?_⟩ <;> first | (rw [ji_put]; simpa using ‹_›) | (rw [ji_put_ne _ _ _ _ (by omega)]; first | exact a6 i hi | exact a7 i hi)
theorem LdR.put1 {v : Int32} (h : LdR S l at_ kn co fo da fr re) : LdR (jput S l 1 v) l at_ v co fo da fr re := by
  obtain ⟨a0, a1, a2, a3, a4, a5, a6, a7⟩ := h
  refine ⟨a0, ?_, ji_put_same _ _ _ _, ?_, ?_, ?_, fun i hi => ?_, fun i hi => ?_⟩ <;> first | (rw [ji_put]; simpa using ‹_›) | (rw [ji_put_ne _ _ _ _ (by omega)]; first | exact a6 i hi | exact a7 i hi)
theorem LdR.put2 {v : Int32} (h : LdR S l at_ kn co fo da fr re) : LdR (jput S l 2 v) l at_ kn v fo da fr re := by
  obtain ⟨a0, a1, a2, a3, a4, a5, a6, a7⟩ := h
  refine ⟨a0, ?_, ?_, ji_put_same _ _ _ _, ?_, ?_, fun i hi => ?_, fun i hi => ?_⟩ <;> first | (rw [ji_put]; simpa using ‹_›) | (rw [ji_put_ne _ _ _ _ (by omega)]; first | exact a6 i hi | exact a7 i hi)
theorem LdR.put3 {v : Int32} (h : LdR S l at_ kn co fo da fr re) : LdR (jput S l 3 v) l at_ kn co v da fr re := by
  obtain ⟨a0, a1, a2, a3, a4, a5, a6, a7⟩ := h
  refine ⟨a0, ?_, ?_, ?_, ji_put_same _ _ _ _, ?_, fun i hi => ?_, fun i hi => ?_⟩ <;> first | (rw [ji_put]; simpa using ‹_›) | (rw [ji_put_ne _ _ _ _ (by omega)]; first | exact a6 i hi | exact a7 i hi)
theorem LdR.put4 {v : Int32} (h : LdR S l at_ kn co fo da fr re) : LdR (jput S l 4 v) l at_ kn co fo v fr re := by
  obtain ⟨a0, a1, a2, a3, a4, a5, a6, a7⟩ := h
  refine ⟨a0, ?_, ?_, ?_, ?_, ji_put_same _ _ _ _, fun i hi => ?_, fun i hi => ?_⟩ <;> first | (rw [ji_put]; simpa using ‹_›) | (rw [ji_put_ne _ _ _ _ (by omega)]; first | exact a6 i hi | exact a7 i hi)
theorem LdR.putf {v : Int32} {j : Nat} (h : LdR S l at_ kn co fo da fr re) : LdR (jput S (l + 1) j v) l at_ kn co fo da (upd fr j v) re := by
  obtain ⟨a0, a1, a2, a3, a4, a5, a6, a7⟩ := h
  have e := ji_put_ne S (l + 1) j v (b := l) (by omega)
  refine ⟨a0, by rw [e]; exact a1, by rw [e]; exact a2, by rw [e]; exact a3, by rw [e]; exact a4, by rw [e]; exact a5, fun i hi => ?_, fun i hi => ?_⟩
  · rw [jput_eq, ji_row_same]; exact agr_upd (n := 10) a6 j rfl i hi
  · rw [ji_put_ne _ _ _ _ (by omega)]; exact a7 i hi
theorem LdR.putr {v : Int32} {j : Nat} (h : LdR S l at_ kn co fo da fr re) : LdR (jput S (l + 2) j v) l at_ kn co fo da fr (upd re j v) := by
  obtain ⟨a0, a1, a2, a3, a4, a5, a6, a7⟩ := h
  have e := ji_put_ne S (l + 2) j v (b := l) (by omega)
  refine ⟨a0, by rw [e]; exact a1, by rw [e]; exact a2, by rw [e]; exact a3, by rw [e]; exact a4, by rw [e]; exact a5, fun i hi => ?_, fun i hi => ?_⟩
  · rw [ji_put_ne _ _ _ _ (by omega)]; exact a6 i hi
  · rw [jput_eq, ji_row_same]; exact agr_upd (n := 10) a7 j rfl i hi
theorem c_X1_isAble {Q : Int32 → jM → Prop} {x : Int32} (hk : jk S l = 1) (h : Q (jable (ji S l 1) x) S) : jFi E mX1_isAble (d + 1) 0 0 [.ref l, .int x] S Q := by
  refine T_X1_isAble ?_
  unfold jable at h
  refine ⟨fun c => ?_, fun c => ⟨hk, fun c2 => ?_, fun c2 => ?_⟩⟩ <;> simpa [*] using h
theorem jable_at {g : Nat} (hg : g < 10) (kn : Int32) : jable kn (nI g) = if kn &&& jshl 1 (nI g) = 0 then 0 else 1 := by
  unfold jable
  rw [show (10 : Int32) = nI 10 from rfl, jwi_at hg (by omega), if_neg (by decide)]
theorem c_X1_passDays {Q : jM → Prop} {n : Int32} (hL : LdR S l at_ kn co fo da fr re) (h : ∀ S', jch S S' l (l + 3) → LdR S' l at_ (pdays n fo (kn, re)).1 co fo (jmin 9999 (da + n)) fr (pdays n fo (kn, re)).2 → Q S') : jFv E mX1_passDays (d + 2) 0 0 [.ref l, .int n] S Q := by
  have key : ∀ (k g : Nat) (S1 : jM) (p : lst), g + k = 10 → jch S S1 l (l + 3) → LdR S1 l at_ p.1 co fo (jmin 9999 (da + n)) fr p.2 → jfold (pone n fo) k g p = pdays n fo (kn, re) → L_X1_passDays_18 E (d + 1) Q l n (nI g) S1 := by
    intro k
    induction k with
    | zero =>
      intro g S1 p hg hc hL1 he
      obtain rfl : g = 10 := by omega
      refine T_X1_passDays_18 ⟨fun _ => h S1 hc ?_, fun c => absurd (by decide) c⟩
      rw [← he]; exact hL1
    | succ k ih =>
      intro g S1 p hg hc hL1 he
      obtain ⟨⟨a1, a2, a3, a4, a5, a6, a7⟩, b0, b1, b2, b3, b4, b5, b6⟩ := id hL1
      have he2 : jfold (pone n fo) k (g + 1) (pone n fo g p) = pdays n fo (kn, re) := he
      refine T_X1_passDays_18 ⟨fun c => absurd c (nI_ge (b := 10) (by omega) (by omega)), fun _ => ⟨a1, c_X1_isAble a1 ?_⟩⟩
      rw [b1, jable_at (by omega), nI_1]
      by_cases ck : p.1 &&& jshl 1 (nI g) = 0
      · rw [if_pos ck]
        refine ⟨fun _ => ih (g + 1) S1 p (by omega) hc hL1 ?_, fun c => absurd rfl c⟩
        rw [← he2]; unfold pone; rw [if_pos ck]
      · rw [if_neg ck]
        refine ⟨fun c => absurd c (by decide), fun _ => ⟨a1, l + 2, a3, a6, by rw [a7]; exact jin_nI (by omega) (by omega), ?_⟩⟩
        rw [jcl (by omega), b6 g (by omega), b3]
        have c1 : jch S (jput S1 (l + 2) g (p.2 g + n)) l (l + 3) := hc.trans (jch.put (by omega) (by omega))
        have hL2 := hL1.putr (j := g) (v := p.2 g + n)
        refine ⟨fun c2 => ih (g + 1) _ (p.1, upd p.2 g (p.2 g + n)) (by omega) c1 hL2 ?_, fun c2 => ⟨fun c3 => ih (g + 1) _ (p.1, upd p.2 g (p.2 g + n)) (by omega) c1 hL2 ?_, fun c3 => ih (g + 1) _ (p.1 &&& (jshl 1 (nI g) ^^^ (-1)), upd p.2 g (p.2 g + n)) (by omega) (c1.trans (jch.put (by omega) (by omega))) hL2.put1 ?_⟩⟩
        · rw [← he2]; unfold pone; rw [if_neg ck, if_pos c2]
        · rw [← he2]; unfold pone; rw [if_neg ck, if_neg c2, if_pos c3]
        · rw [← he2]; unfold pone; rw [if_neg ck, if_neg c2, if_neg c3]
  refine T_X1_passDays ⟨hL.1.1, ?_⟩
  rw [hL.2.2.2.2.2.1]
  exact key 10 0 _ (kn, re) (by omega) (jch.put (by omega) (by omega)) hL.put4 rfl
theorem c_X1_practise {Q : Int32 → jM → Prop} {x : Int32} (hL : LdR S l at_ kn co fo da fr re) (h0 : jable kn x = 0 → Q 0 S) (h1 : ∀ g, g < 10 → x = nI g → jable kn x ≠ 0 → ∀ S', jch S S' l (l + 3) → LdR S' l at_ (pdays 1 fo (kn, upd re g 0)).1 co fo (jmin 9999 (da + 1)) fr (pdays 1 fo (kn, upd re g 0)).2 → Q 1 S') : jFi E mX1_practise (d + 3) 0 0 [.ref l, .int x] S Q := by
  obtain ⟨⟨a1, a2, a3, a4, a5, a6, a7⟩, b0, b1, b2, b3, b4, b5, b6⟩ := id hL
  refine T_X1_practise ?_
  rcases jwi_cases x (b := 10) 10 rfl (by omega) with ⟨g, hg, rfl, e⟩ | ⟨hn, e⟩
  · rw [e]
    refine ⟨fun c => absurd c (by decide), fun _ => ⟨a1, c_X1_isAble a1 ?_⟩⟩
    rw [b1]
    refine ⟨fun c => h0 c, fun c => ⟨a1, l + 2, a3, a6, by rw [a7]; exact jin_nI hg (by omega), ?_⟩⟩
    rw [jcl (by omega)]
    exact c_X1_passDays hL.putr (fun S' hc hL' => h1 g hg rfl c S' ((jch.put (by omega) (by omega)).trans hc) hL')
  · rw [e]
    refine ⟨fun _ => h0 (by unfold jable; rw [e, if_pos rfl]), fun c => absurd rfl c⟩
/-- whether it can learn of a master so made -/
def jcan (at_ kn co tk tt tg tb tf td : Int32) : Int32 := if tt = at_ then (if td = 0 then (if jteach tk tb kn = 0 then 0 else if jable kn tg = 0 then (if co < tf then 0 else 1) else 0) else 0) else 0
theorem c_X1_canLearnOf {Q : Int32 → jM → Prop} {t : Nat} (hL : LdR S l at_ kn co fo da fr re) (ht : jk S t = 2) (h : Q (jcan at_ kn co (ji S t 0) (ji S t 1) (ji S t 2) (ji S t 3) (ji S t 4) (ji S t 6)) S) : jFi E mX1_canLearnOf (d + 2) 0 0 [.ref l, .ref t] S Q := by
  obtain ⟨⟨a1, a2, a3, a4, a5, a6, a7⟩, b0, b1, b2, b3, b4, b5, b6⟩ := id hL
  unfold jcan at h
  refine T_X1_canLearnOf ⟨ht, a1, ?_⟩
  rw [b0, b1]
  refine ⟨fun c => ⟨fun c2 => c_X2_teaches ht ⟨fun c3 => ?_, fun c3 => ⟨ht, a1, c_X1_isAble a1 ?_⟩⟩, fun c2 => ?_⟩, fun c => ?_⟩
  · simpa [*] using h
  · rw [b1]
    refine ⟨fun c4 => ⟨ht, a1, ?_⟩, fun c4 => ?_⟩
    · rw [b2]
      refine ⟨fun c5 => ?_, fun c5 => ?_⟩ <;> simpa [*] using h
    · simpa [*] using h
  · simpa [*] using h
  · simpa [*] using h
/-- what it knows, from whom, since when, behind a lesson of so many days -/
theorem c_X1_learnOf {Q : jM → Prop} {t g : Nat} {x n : Int32} (hL : LdR S l at_ kn co fo da fr re) (ht : jk S t = 2) (htl : t + 1 ≤ l ∨ l + 3 ≤ t) (hg : g < 10) (htg : ji S t 2 = nI g)
    (h : ∀ S', jch S S' l (l + 3) → LdR S' l at_ (((pdays n fo (kn, re)).1 &&& (junl (ji S t 0) (ji S t 3) ^^^ (-1))) ||| jshl 1 (nI g)) (co - ji S t 4) fo (jmin 9999 (da + n)) (upd fr g x) (upd (pdays n fo (kn, re)).2 g 0) → Q S') : jFv E mX1_learnOf (d + 3) 0 0 [.ref l, .int x, .ref t, .int n] S Q := by
  obtain ⟨⟨a1, a2, a3, a4, a5, a6, a7⟩, b0, b1, b2, b3, b4, b5, b6⟩ := id hL
  refine T_X1_learnOf ⟨a1, ht, ?_⟩
  rw [b2]
  refine c_X1_passDays hL.put2 (fun S3 hc hL3 => ?_)
  have hc0 : jch S S3 l (l + 3) := (jch.put (by omega) (by omega)).trans hc
  obtain ⟨⟨f1, f2, f3, f4, f5, f6, f7⟩, g0, g1, g2, g3, g4, g5, g6⟩ := id hL3
  have hsk : jk S3 = jk S := hc0.1.1
  have hst : ji S3 t = ji S t := hc0.2 t (by omega)
  have ht3 : jk S3 t = 2 := by rw [hsk]; exact ht
  refine ⟨f1, ht3, c_X2_unlearnt ht3 ⟨f1, ht3, ?_⟩⟩
  rw [hst, htg, show (10 : Int32) = nI 10 from rfl, jwi_at hg (by omega), g1]
  refine ⟨fun c => absurd c (by decide), fun _ => ⟨l + 1, f2, f4, by rw [f5]; exact jin_nI hg (by omega), l + 2, f3, f6, by rw [f7]; exact jin_nI hg (by omega), ?_⟩⟩
  rw [jcl (by omega)]
  exact h _ ((((hc0.trans (jch.put (by omega) (by omega))).trans (jch.put (by omega) (by omega))).trans (jch.put (by omega) (by omega))).trans (jch.put (by omega) (by omega))) (hL3.put1.put1.putf.putr)
theorem c_X1_become {Q : jM → Prop} {l1 : Nat} {at1 kn1 co1 fo1 da1 : Int32} {fr1 re1 : Nat → Int32} (hL : LdR S l at_ kn co fo da fr re) (hL1 : LdR S l1 at1 kn1 co1 fo1 da1 fr1 re1) (hne : l + 3 ≤ l1 ∨ l1 + 3 ≤ l) (h : ∀ S', jch S S' l (l + 3) → LdR S' l at1 kn1 co1 fo1 da1 fr1 re1 → Q S') : jFv E mX1_become (d + 1) 0 0 [.ref l, .ref l1] S Q := by
  obtain ⟨⟨a1, a2, a3, a4, a5, a6, a7⟩, b0, b1, b2, b3, b4, b5, b6⟩ := id hL
  obtain ⟨⟨c1, c2, c3, c4, c5, c6, c7⟩, e0, e1, e2, e3, e4, e5, e6⟩ := id hL1
  have n10 : Int32.toNatClampNeg 10 = 10 := rfl
  have n0 : Int32.toNatClampNeg 0 = 0 := rfl
  have hA := hL.put0 (v := at1)
  have hA := hA.put1 (v := kn1)
  have hA := hA.put2 (v := co1)
  have hA := hA.put3 (v := fo1)
  have hA := hA.put4 (v := da1)
  refine T_X1_become ⟨c1, a1, l1 + 1, c2, l + 1, a2, c4, a4, ⟨by decide, by decide, by decide, by rw [c5]; decide, by rw [a5]; decide⟩, l1 + 2, c3, l + 2, a3, c6, a6, ⟨by decide, by decide, by decide, by rw [c7]; decide, by rw [a7]; decide⟩, ?_⟩
  rw [n10, n0, e0, e1, e2, e3, e4]
  obtain ⟨p0, p1, p2, p3, p4, p5, p6, p7⟩ := hA
  refine h _ ?_ ⟨p0, ?_, ?_, ?_, ?_, ?_, fun i hi => ?_, fun i hi => ?_⟩
  · exact ((((((jch.put (by omega) (by omega)).trans (jch.put (by omega) (by omega))).trans (jch.put (by omega) (by omega))).trans (jch.put (by omega) (by omega))).trans (jch.put (by omega) (by omega))).trans (jch.row (by omega) (by omega))).trans (jch.row (by omega) (by omega))
  · rw [ji_row_ne _ _ _ (by omega), ji_row_ne _ _ _ (by omega)]; exact p1
  · rw [ji_row_ne _ _ _ (by omega), ji_row_ne _ _ _ (by omega)]; exact p2
  · rw [ji_row_ne _ _ _ (by omega), ji_row_ne _ _ _ (by omega)]; exact p3
  · rw [ji_row_ne _ _ _ (by omega), ji_row_ne _ _ _ (by omega)]; exact p4
  · rw [ji_row_ne _ _ _ (by omega), ji_row_ne _ _ _ (by omega)]; exact p5
  · rw [ji_row_ne _ _ _ (by omega), ji_row_same, va_cpy0 hi, ji_put_ne _ _ _ _ (by omega), ji_put_ne _ _ _ _ (by omega), ji_put_ne _ _ _ _ (by omega), ji_put_ne _ _ _ _ (by omega), ji_put_ne _ _ _ _ (by omega)]; exact e5 i hi
  · rw [ji_row_same, va_cpy0 hi, ji_row_ne _ _ _ (by omega), ji_put_ne _ _ _ _ (by omega), ji_put_ne _ _ _ _ (by omega), ji_put_ne _ _ _ _ (by omega), ji_put_ne _ _ _ _ (by omega), ji_put_ne _ _ _ _ (by omega)]; exact e6 i hi
end jLearner
end
section
/-! THE REALM (class) at r, by a row of numbers v as the reference lays it: 0 size, 1 texts, 2 day, 3 at, 4 knows, 5 coins, 6 forgets, 7 wishes, 8 z, 9.. wished, 16.. from, 26.. rested, 36.. days, 72.. masters -/
def mfv (v : Nat → Int32) (i f : Nat) : Int32 := v (72 + 7 * i + f)
def RmL (S : jM) (r : Nat) : Prop := jk S r = 3 ∧ jr S r 0 = some (r + 1) ∧ jr S r 1 = some (r + 12) ∧ jr S r 2 = some (r + 15) ∧ jr S r 3 = some (r + 18) ∧ jr S r 5 = some (r + 19) ∧ jk S (r + 18) = 12 ∧ jl S (r + 18) = 6 ∧ jk S (r + 19) = 16 ∧ jl S (r + 19) = 14
def vfar (v : Nat → Int32) : Nat → Int32 := wfar (fun i => v (36 + i)) (fun _ => 0)
def RmR (S : jM) (r sz : Nat) (v : Nat → Int32) : Prop :=
  RmL S r ∧ sz ≤ 9 ∧ v 0 = nI sz ∧ GR S (r + 1) sz (v 8) (mfv v) ∧ RdR S (r + 12) (fun i => v (36 + i)) (vfar v) ∧ LdR S (r + 15) (v 3) (v 4) (v 5) (v 6) (v 2) (fun i => v (16 + i)) (fun i => v (26 + i)) ∧ ji S r 4 = v 7 ∧ (∀ i, i < 6 → ji S (r + 18) i = v (9 + i)) ∧ ji S r 6 = v 1
theorem RmL.same {S S' : jM} {r : Nat} (h : RmL S r) (hs : jsame S S') : RmL S' r := by
  obtain ⟨e1, e2, e3, -⟩ := hs
  unfold RmL
  rw [e1, e2, e3]
  exact h
theorem RmR.keep {S S' : jM} {r sz lo hi : Nat} {v : Nat → Int32} (h : RmR S r sz v) (hc : jch S S' lo hi) (hd : r + 19 ≤ lo ∨ hi ≤ r) : RmR S' r sz v := by
  obtain ⟨h0, h1, h2, h3, h4, h5, h6, h7, h8⟩ := h
  refine ⟨h0.same hc.1, h1, h2, h3.keep hc (by omega), h4.keep hc (by omega), h5.keep hc (by omega), ?_, fun i hi' => ?_, ?_⟩
  · rw [hc.2 r (by omega)]; exact h6
  · rw [hc.2 (r + 18) (by omega)]; exact h7 i hi'
  · rw [hc.2 r (by omega)]; exact h8
theorem RdR.cong {S : jM} {q : Nat} {v v' : Nat → Int32} (h : RdR S q (fun i => v (36 + i)) (vfar v)) (he : ∀ i, i < 36 → v' (36 + i) = v (36 + i)) : RdR S q (fun i => v' (36 + i)) (vfar v') :=
  ⟨h.1, fun i hi => (h.2.1 i hi).trans (he i hi).symm, fun i hi => (h.2.2 i hi).trans (wfar_agr (fun j hj => (he j hj).symm) i hi)⟩
/-- the guild alone changes -/
theorem RmR.guild {S S' : jM} {r sz sz' : Nat} {v v' : Nat → Int32} (h : RmR S r sz v) (hc : jch S S' (r + 1) (r + 12)) (hg : GR S' (r + 1) sz' (v' 8) (mfv v')) (hz : sz' ≤ 9) (h0 : v' 0 = nI sz') (he : ∀ j, j ≠ 0 → j ≠ 8 → (j < 72 ∨ 135 ≤ j) → v' j = v j) : RmR S' r sz' v' := by
  obtain ⟨a0, a1, a2, a3, a4, a5, a6, a7, a8⟩ := h
  refine ⟨a0.same hc.1, hz, h0, hg, ?_, ?_, ?_, fun i hi => ?_, ?_⟩
  · exact (a4.keep hc (by omega)).cong (fun i hi => he _ (by omega) (by omega) (by omega))
  · rw [he 3 (by omega) (by omega) (by omega), he 4 (by omega) (by omega) (by omega), he 5 (by omega) (by omega) (by omega), he 6 (by omega) (by omega) (by omega), he 2 (by omega) (by omega) (by omega)]
    exact (a5.keep hc (by omega)).cong (fun i hi => (he _ (by omega) (by omega) (by omega)).symm) (fun i hi => (he _ (by omega) (by omega) (by omega)).symm)
  · rw [hc.2 r (by omega), he 7 (by omega) (by omega) (by omega)]; exact a6
  · rw [hc.2 (r + 18) (by omega), he _ (by omega) (by omega) (by omega)]; exact a7 i hi
  · rw [hc.2 r (by omega), he 1 (by omega) (by omega) (by omega)]; exact a8
/-- the learner alone changes -/
theorem RmR.learner {S S' : jM} {r sz : Nat} {v v' : Nat → Int32} (h : RmR S r sz v) (hc : jch S S' (r + 15) (r + 18)) (hl : LdR S' (r + 15) (v' 3) (v' 4) (v' 5) (v' 6) (v' 2) (fun i => v' (16 + i)) (fun i => v' (26 + i))) (he : ∀ j, (j < 2 ∨ 7 ≤ j) → (j < 16 ∨ 36 ≤ j) → v' j = v j) : RmR S' r sz v' := by
  obtain ⟨a0, a1, a2, a3, a4, a5, a6, a7, a8⟩ := h
  refine ⟨a0.same hc.1, a1, by rw [he 0 (by omega) (by omega)]; exact a2, ?_, ?_, hl, ?_, fun i hi => ?_, ?_⟩
  · rw [he 8 (by omega) (by omega)]
    exact (a3.keep hc (by omega)).cong (fun i hi f hf => (he _ (by omega) (by omega)).symm)
  · exact (a4.keep hc (by omega)).cong (fun i hi => he _ (by omega) (by omega))
  · rw [hc.2 r (by omega), he 7 (by omega) (by omega)]; exact a6
  · rw [hc.2 (r + 18) (by omega), he _ (by omega) (by omega)]; exact a7 i hi
  · rw [hc.2 r (by omega), he 1 (by omega) (by omega)]; exact a8
/-- the roads alone change -/
theorem RmR.roads {S S' : jM} {r sz : Nat} {v v' : Nat → Int32} (h : RmR S r sz v) (hc : jch S S' (r + 12) (r + 15)) (hl : RdR S' (r + 12) (fun i => v' (36 + i)) (vfar v')) (he : ∀ j, (j < 36 ∨ 72 ≤ j) → v' j = v j) : RmR S' r sz v' := by
  obtain ⟨a0, a1, a2, a3, a4, a5, a6, a7, a8⟩ := h
  refine ⟨a0.same hc.1, a1, by rw [he 0 (by omega)]; exact a2, ?_, hl, ?_, ?_, fun i hi => ?_, ?_⟩
  · rw [he 8 (by omega)]
    exact (a3.keep hc (by omega)).cong (fun i hi f hf => (he _ (by omega)).symm)
  · rw [he 3 (by omega), he 4 (by omega), he 5 (by omega), he 6 (by omega), he 2 (by omega)]
    exact (a5.keep hc (by omega)).cong (fun i hi => (he _ (by omega)).symm) (fun i hi => (he _ (by omega)).symm)
  · rw [hc.2 r (by omega), he 7 (by omega)]; exact a6
  · rw [hc.2 (r + 18) (by omega), he _ (by omega)]; exact a7 i hi
  · rw [hc.2 r (by omega), he 1 (by omega)]; exact a8
/-- one place of the row is otherwise -/
theorem mset_upd {v : Nat → Int32} {i f : Nat} {x : Int32} (hi : i < 9) (hf : f < 7) : ∀ a, a < 9 → ∀ b, b < 7 → mset (mfv v) i f x a b = mfv (upd v (72 + 7 * i + f) x) a b := by
  intro a ha b hb
  unfold mset mfv upd
  by_cases hc : a = i ∧ b = f
  · rw [if_pos hc, if_pos (by omega)]
  · rw [if_neg hc, if_neg (by omega)]
/-- a master comes -/
def vjoin (v : Nat → Int32) (sz : Nat) (w : Nat → Int32) : Nat → Int32 := fun j => if j = 0 then nI (sz + 1) else if 72 + 7 * sz ≤ j ∧ j < 72 + 7 * sz + 7 then w (j - (72 + 7 * sz)) else v j
theorem mall_join {v w : Nat → Int32} {sz : Nat} (hs : sz < 9) : ∀ a, a < 9 → ∀ b, b < 7 → mall (mfv v) sz w a b = mfv (vjoin v sz w) a b := by
  intro a ha b hb
  unfold mall mfv vjoin
  by_cases hc : a = sz
  · subst hc
    rw [if_pos rfl, if_neg (c := 72 + 7 * a + b = 0) (by omega), if_pos (c := 72 + 7 * a ≤ 72 + 7 * a + b ∧ 72 + 7 * a + b < 72 + 7 * a + 7) (by omega)]
    congr 1
    omega
  · rw [if_neg hc, if_neg (c := 72 + 7 * a + b = 0) (by omega), if_neg (by omega)]
section jRealm
variable {E : jEnv} {d : Nat} {S : jM} {x sz : Nat} {v : Nat → Int32}
/-- the object and its realm -/
def XR (S : jM) (x sz : Nat) (v : Nat → Int32) : Prop := jk S x = 10 ∧ jr S x 0 = some (x + 1) ∧ RmR S (x + 1) sz v
theorem XR.g (h : XR S x sz v) : GR S (x + 2) sz (v 8) (mfv v) := h.2.2.2.2.2.1
theorem XR.l (h : XR S x sz v) : LdR S (x + 16) (v 3) (v 4) (v 5) (v 6) (v 2) (fun i => v (16 + i)) (fun i => v (26 + i)) := h.2.2.2.2.2.2.2.1
theorem XR.q (h : XR S x sz v) : RdR S (x + 13) (fun i => v (36 + i)) (vfar v) := h.2.2.2.2.2.2.1
theorem XR.k3 (h : XR S x sz v) : jk S (x + 1) = 3 := h.2.2.1.1
theorem XR.r0 (h : XR S x sz v) : jr S (x + 1) 0 = some (x + 2) := h.2.2.1.2.1
theorem XR.r1 (h : XR S x sz v) : jr S (x + 1) 1 = some (x + 13) := h.2.2.1.2.2.1
theorem XR.r2 (h : XR S x sz v) : jr S (x + 1) 2 = some (x + 16) := h.2.2.1.2.2.2.1
theorem XR.sz9 (h : XR S x sz v) : sz ≤ 9 := h.2.2.2.1
theorem XR.v0 (h : XR S x sz v) : v 0 = nI sz := h.2.2.2.2.1
theorem XR.of {S' : jM} {sz' : Nat} {v' : Nat → Int32} (h : XR S x sz v) (hs : jsame S S') (hr : RmR S' (x + 1) sz' v') : XR S' x sz' v' := ⟨by rw [hs.1]; exact h.1, by rw [hs.2.2.1]; exact h.2.1, hr⟩
/-- the constants -/
abbrev kBAD : Int32 := -1000000001
abbrev kNO : Int32 := -1000000002
abbrev kFULL : Int32 := -1000000003
abbrev kNONE : Int32 := -1000000005
abbrev kNOTHING : Int32 := -1000000011
abbrev kKIND : Int32 := -1000000012
theorem C_master {Q : Int32 → jM → Prop} {k t g f : Int32} (hX : XR S x sz v) (h1 : (jwi k 6 = 0 ∨ jwi t 6 = 0 ∨ jwi g 10 = 0 ∨ jwi f 100 = 0) → Q kBAD S) (h2 : jwi k 6 ≠ 0 → jwi t 6 ≠ 0 → jwi g 10 ≠ 0 → jwi f 100 ≠ 0 → sz = 9 → Q kFULL S)
    (h3 : jwi k 6 ≠ 0 → jwi t 6 ≠ 0 → jwi g 10 ≠ 0 → jwi f 100 ≠ 0 → sz < 9 → ∀ S', jch S S' (x + 2) (x + 13) → XR S' x (sz + 1) (vjoin v sz (mnew k t g f)) → Q (nI sz) S') : jFi E mX10_master (d + 2) 0 0 [.ref x, .int k, .int t, .int g, .int f] S Q := by
  refine T_X10_master ⟨fun c => h1 (Or.inl c), fun c1 => ⟨fun c => h1 (Or.inr (Or.inl c)), fun c2 => ⟨fun c => h1 (Or.inr (Or.inr (Or.inl c))), fun c3 => ⟨fun c => h1 (Or.inr (Or.inr (Or.inr c))), fun c4 => ?_⟩⟩⟩⟩
  refine ⟨hX.1, x + 1, hX.2.1, hX.k3, x + 2, hX.r0, hX.g.1.1, c_X0_join hX.g hX.sz9 (fun hz => ?_) (fun hz S' hc hg => ?_)⟩
  · exact ⟨fun _ => h2 c1 c2 c3 c4 hz, fun c => absurd rfl c⟩
  · refine ⟨fun c => absurd c (by decide), fun _ => ?_⟩
    rw [hX.g.2.1]
    have hr : RmR S' (x + 1) (sz + 1) (vjoin v sz (mnew k t g f)) := by
      refine hX.2.2.guild (hc.wide (by omega) (by omega)) ?_ (by omega) (by simp [vjoin]) (fun j h0 h8 hj => ?_)
      · have e8 : vjoin v sz (mnew k t g f) 8 = v 8 := by unfold vjoin; rw [if_neg (by omega), if_neg (by omega)]
        rw [e8]
        exact hg.cong (mall_join hz)
      · unfold vjoin
        rw [if_neg h0, if_neg (by omega)]
    exact h3 c1 c2 c3 c4 hz S' (hc.wide (by omega) (by omega)) (hX.of hc.1 hr)
end jRealm
end
