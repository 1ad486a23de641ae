section
/-! NUMBERS: ranges, indices -/
theorem jwi_cases (x : Int32) {b : Int32} (n : Nat) (hb : b = nI n) (hn : n < 2 ^ 31) : (∃ j, j < n ∧ x = nI j ∧ jwi x b = 1) ∨ ((∀ j, j < n → x ≠ nI j) ∧ jwi x b = 0) := by
  subst hb
  rcases pk_ix x hn with h | h | ⟨j, hj, rfl⟩
  · refine Or.inr ⟨fun j hj e => ?_, ?_⟩
    · rw [e] at h; exact nI_pos (by omega) h
    · simp [jwi, h]
  · refine Or.inr ⟨fun j hj e => ?_, ?_⟩
    · rw [e] at h; exact nI_ge hj hn h
    · by_cases h0 : x < 0 <;> simp [jwi, h, h0]
  · refine Or.inl ⟨j, hj, rfl, ?_⟩
    have h1 : ¬ nI j < 0 := nI_pos (by omega)
    have h2 : ¬ nI n ≤ nI j := nI_ge hj hn
    simp [jwi, h1, h2]
theorem jwi_at {j n : Nat} (h : j < n) (hn : n < 2 ^ 31) : jwi (nI j) (nI n) = 1 := by
  have h1 : ¬ nI j < 0 := nI_pos (by omega)
  have h2 : ¬ nI n ≤ nI j := nI_ge h hn
  simp [jwi, h1, h2]
theorem jcl {n : Nat} (h : n < 2 ^ 31) : (nI n).toNatClampNeg = n := nI_clamp h
theorem jin_nI {n N : Nat} (h : n < N) (hN : N < 2 ^ 31) : vp_in (nI n) N := vp_in_nI h hN
theorem nI_inj {a b : Nat} (ha : a < 2 ^ 31) (hb : b < 2 ^ 31) (h : nI a = nI b) : a = b := (nI_eq ha hb).mp h
theorem nI_ne {a b : Nat} (ha : a < 2 ^ 31) (hb : b < 2 ^ 31) (h : a ≠ b) : nI a ≠ nI b := fun e => h (nI_inj ha hb e)
/-- an Int32 between 0 and n, as a number -/
theorem jofI {x : Int32} {n : Nat} (hn : n < 2 ^ 31) (h0 : 0 ≤ x) (h1 : x < nI n) : ∃ j, j < n ∧ x = nI j := by
  rcases pk_ix x hn with h | h | h
  · exact absurd h (Int32.not_lt.mpr h0)
  · exact absurd h1 (Int32.not_lt.mpr h)
  · exact h
end
section
/-! MASTERS AND THE GUILD (class): a guild at g has its row at g + 1, its masters at g + 2 .. g + 10 -/
def GL (S : jM) (g : Nat) : Prop := jk S g = 0 ∧ jr S g 0 = some (g + 1) ∧ jk S (g + 1) = 13 ∧ jl S (g + 1) = 9 ∧ ∀ i, i < 9 → jr S (g + 1) i = some (g + 2 + i) ∧ jk S (g + 2 + i) = 2
section jGuild
variable {E : jEnv} {d : Nat} {S : jM} {g : Nat} {sz : Nat}
theorem c_X0_find {Q : Option Nat → jM → Prop} {x : Int32} (hG : GL S g) (hs : ji S g 1 = nI sz) (hz : sz ≤ 9) (h1 : ∀ n, n < sz → x = nI n → Q (some (g + 2 + n)) S) (h2 : (∀ n, n < sz → x ≠ nI n) → Q none S) : jFr E mX0_find (d + 1) 0 0 [.ref g, .int x] S Q := by
  obtain ⟨k1, k2, k3, k4, k5⟩ := hG
  refine T_X0_find ⟨k1, ?_⟩
  rw [hs]
  rcases jwi_cases x sz rfl (by omega) with ⟨n, hn, rfl, e⟩ | ⟨hn, e⟩
  · rw [e]
    refine ⟨fun c => absurd c (by decide), fun _ => ⟨fun c => ?_, fun _ => ?_⟩⟩
    · exact absurd c (nI_ge (b := 9) (by omega) (by omega))
    · refine ⟨g + 1, k2, k3, ?_, g + 2 + n, ?_, h1 n hn rfl⟩
      · rw [k4]; exact jin_nI (by omega) (by omega)
      · rw [jcl (by omega)]; exact (k5 n (by omega)).1
  · rw [e]
    exact ⟨fun _ => h2 hn, fun c => absurd rfl c⟩
theorem c_X0_findAt {Q : Option Nat → jM → Prop} {n : Nat} (hG : GL S g) (hs : ji S g 1 = nI sz) (hz : sz ≤ 9) (hn : n < sz) (h : Q (some (g + 2 + n)) S) : jFr E mX0_find (d + 1) 0 0 [.ref g, .int (nI n)] S Q :=
  c_X0_find hG hs hz (fun k hk e => by rw [nI_inj (a := n) (b := k) (by omega) (by omega) e] at h; exact h) (fun hh => absurd rfl (hh n hn))
/-- what a master is made of, as a row -/
def mrow (f : Nat → Int32) (kind town gesture bars fee age dead : Int32) : Nat → Int32 := upd (upd (upd (upd (upd (upd (upd f 0 kind) 1 town) 2 gesture) 3 bars) 4 fee) 5 age) 6 dead
theorem c_X2_begin {Q : jM → Prop} {a : Nat} {x1 x2 x3 x4 : Int32} (hk : jk S a = 2) (h : Q (jrow S a (mrow (ji S a) x1 x2 x3 0 x4 40 0))) : jFv E mX2_begin d 0 0 [.ref a, .int x1, .int x2, .int x3, .int x4] S Q := by
  refine T_X2_begin ⟨hk, ?_⟩
  have e : jput (jput (jput (jput (jput (jput (jput S a 0 x1) a 1 x2) a 2 x3) a 4 x4) a 3 0) a 5 40) a 6 0 = jrow S a (mrow (ji S a) x1 x2 x3 0 x4 40 0) := by
    simp only [jput_eq, jrow_row, ji_row_same]
    congr 1
    funext i
    simp only [mrow, upd]
    repeat' split
    all_goals first | rfl | omega
  rw [e]; exact h
theorem c_X2_become {Q : jM → Prop} {a a1 : Nat} (hk : jk S a = 2) (hk1 : jk S a1 = 2) (hd : ji S a1 6 = 0 ∨ ji S a1 6 = 1) (h : Q (jrow S a (mrow (ji S a) (ji S a1 0) (ji S a1 1) (ji S a1 2) (ji S a1 3) (ji S a1 4) (ji S a1 5) (ji S a1 6)))) : jFv E mX2_become d 0 0 [.ref a, .ref a1] S Q := by
  refine T_X2_become ⟨hk1, hk, hd, ?_⟩
  simp only [jput_eq, jrow_row, ji_row_same]
  exact h
/-- what a master answers -/
def jteach (kind bars known : Int32) : Int32 := if kind = 2 then 1 else if kind = 3 then (if jbc (bars &&& known) = 0 then (if jbc known < 3 then 0 else 1) else 0) else if kind = 4 then 1 else if kind = 5 then (if 1 < jbc (bars &&& known) then 0 else 1) else (if jbc (bars &&& known) = 0 then 1 else 0)
def junl (kind bars : Int32) : Int32 := if kind = 2 then bars else 0
def jworth (kind fee : Int32) : Int32 := if kind = 1 then fee + 11 else if kind = 2 then 99 - fee else if kind = 3 then 2 * (fee + 11) else if kind = 4 then 99 - fee - 4 else if kind = 5 then 8 else fee
def jdays (kind age p : Int32) : Int32 := if kind = 1 then 2 * p else if kind = 2 then jmax 1 (p - 1) else if kind = 3 then 2 * p + age / 10 else if kind = 4 then jmax 1 (jmax 1 (p - 1) / 2) else if kind = 5 then 1 else p
theorem c_X2_teaches {Q : Int32 → jM → Prop} {a : Nat} {x1 : Int32} (hk : jk S a = 2) (h : Q (jteach (ji S a 0) (ji S a 3) x1) S) : jFi E mX2_teaches (d + 1) 0 0 [.ref a, .int x1] S Q :=
  T_X2_teaches ⟨hk, by unfold jteach at h; (repeat' first | apply And.intro | intro _) <;> simp_all⟩
theorem c_X2_unlearnt {Q : Int32 → jM → Prop} {a : Nat} (hk : jk S a = 2) (h : Q (junl (ji S a 0) (ji S a 3)) S) : jFi E mX2_unlearnt d 0 0 [.ref a] S Q :=
  T_X2_unlearnt ⟨hk, by unfold junl at h; (repeat' first | apply And.intro | intro _) <;> simp_all⟩
theorem c_X2_worth {Q : Int32 → jM → Prop} {a : Nat} (hk : jk S a = 2) (h : Q (jworth (ji S a 0) (ji S a 4)) S) : jFi E mX2_worth d 0 0 [.ref a] S Q :=
  T_X2_worth ⟨hk, by unfold jworth at h; (repeat' first | apply And.intro | intro _) <;> simp_all⟩
theorem c_X2_daysFrom {Q : Int32 → jM → Prop} {a : Nat} {x1 : Int32} (hk : jk S a = 2) (h : Q (jdays (ji S a 0) (ji S a 5) x1) S) : jFi E mX2_daysFrom (d + 1) 0 0 [.ref a, .int x1] S Q :=
  T_X2_daysFrom ⟨hk, by unfold jdays at h; (repeat' first | apply And.intro | intro _) <;> simp_all⟩
/-- a draw -/
def jlot (z : Int32) : Int32 := z * 1103515245 + 12345
theorem c_X0_draw {Q : Int32 → jM → Prop} (hk : jk S g = 0) (h : Q (jushr (jlot (ji S g 2)) 8) (jput S g 2 (jlot (ji S g 2)))) : jFi E mX0_draw d 0 0 [.ref g] S Q :=
  T_X0_draw ⟨hk, h⟩
end jGuild
end
section
/-! WHAT A CALL CHANGES: nothing but ints of the cells lo .. hi - 1 -/
def jsame (S S' : jM) : Prop := jk S' = jk S ∧ jl S' = jl S ∧ jr S' = jr S ∧ jn S' = jn S
def jch (S S' : jM) (lo hi : Nat) : Prop := jsame S S' ∧ ∀ y, (y < lo ∨ hi ≤ y) → ji S' y = ji S y
theorem jsame.rfl {S : jM} : jsame S S := ⟨_root_.rfl, _root_.rfl, _root_.rfl, _root_.rfl⟩
theorem jsame.trans {S S1 S2 : jM} (h1 : jsame S S1) (h2 : jsame S1 S2) : jsame S S2 := ⟨h2.1.trans h1.1, h2.2.1.trans h1.2.1, h2.2.2.1.trans h1.2.2.1, h2.2.2.2.trans h1.2.2.2⟩
theorem jch.rfl {S : jM} {lo hi : Nat} : jch S S lo hi := ⟨jsame.rfl, fun _ _ => _root_.rfl⟩
theorem jch.trans {S S1 S2 : jM} {lo hi : Nat} (h1 : jch S S1 lo hi) (h2 : jch S1 S2 lo hi) : jch S S2 lo hi := ⟨h1.1.trans h2.1, fun y hy => (h2.2 y hy).trans (h1.2 y hy)⟩
theorem jch.wide {S S1 : jM} {lo hi lo' hi' : Nat} (h1 : jch S S1 lo hi) (a : lo' ≤ lo) (b : hi ≤ hi') : jch S S1 lo' hi' := ⟨h1.1, fun y hy => h1.2 y (by omega)⟩
theorem jch.put {S : jM} {a j lo hi : Nat} {v : Int32} (h1 : lo ≤ a) (h2 : a < hi) : jch S (jput S a j v) lo hi := ⟨⟨_root_.rfl, _root_.rfl, _root_.rfl, _root_.rfl⟩, fun y hy => ji_put_ne _ _ _ _ (by omega)⟩
theorem jch.row {S : jM} {a lo hi : Nat} {f : Nat → Int32} (h1 : lo ≤ a) (h2 : a < hi) : jch S (jrow S a f) lo hi := ⟨⟨_root_.rfl, _root_.rfl, _root_.rfl, _root_.rfl⟩, fun y hy => ji_row_ne _ _ _ (by omega)⟩
/-! THE GUILD at g: size, z, the masters' fields -/
def GR (S : jM) (g sz : Nat) (z : Int32) (mf : Nat → Nat → Int32) : Prop := GL S g ∧ ji S g 1 = nI sz ∧ ji S g 2 = z ∧ ∀ i, i < 9 → ∀ f, f < 7 → ji S (g + 2 + i) f = mf i f
theorem GL.same {S S' : jM} {g : Nat} (h : GL S g) (hs : jsame S S') : GL S' g := by
  obtain ⟨e1, e2, e3, -⟩ := hs
  unfold GL
  rw [e1, e2, e3]
  exact h
theorem GR.keep {S S' : jM} {g sz lo hi : Nat} {z : Int32} {mf : Nat → Nat → Int32} (h : GR S g sz z mf) (hc : jch S S' lo hi) (hd : g + 11 ≤ lo ∨ hi ≤ g) : GR S' g sz z mf := by
  obtain ⟨h1, h2, h3, h4⟩ := h
  refine ⟨h1.same hc.1, ?_, ?_, fun i hi' f hf => ?_⟩
  · rw [hc.2 g (by omega)]; exact h2
  · rw [hc.2 g (by omega)]; exact h3
  · rw [hc.2 (g + 2 + i) (by omega)]; exact h4 i hi' f hf
/-- one field of one master is otherwise -/
def mset (mf : Nat → Nat → Int32) (i f : Nat) (v : Int32) : Nat → Nat → Int32 := fun a b => if a = i ∧ b = f then v else mf a b
theorem GR.putz {S : jM} {g sz : Nat} {z v : Int32} {mf : Nat → Nat → Int32} (h : GR S g sz z mf) : GR (jput S g 2 v) g sz v mf := by
  obtain ⟨h1, h2, h3, h4⟩ := h
  refine ⟨h1, ?_, ji_put_same _ _ _ _, fun i hi f hf => ?_⟩
  · rw [ji_put]; simpa using h2
  · rw [ji_put_ne _ _ _ _ (by omega)]; exact h4 i hi f hf
theorem GR.puts {S : jM} {g sz n : Nat} {z : Int32} {mf : Nat → Nat → Int32} (h : GR S g sz z mf) : GR (jput S g 1 (nI n)) g n z mf := by
  obtain ⟨h1, h2, h3, h4⟩ := h
  refine ⟨h1, ji_put_same _ _ _ _, ?_, fun i hi f hf => ?_⟩
  · rw [ji_put]; simpa using h3
  · rw [ji_put_ne _ _ _ _ (by omega)]; exact h4 i hi f hf
theorem GR.putm {S : jM} {g sz i f : Nat} {z v : Int32} {mf : Nat → Nat → Int32} (h : GR S g sz z mf) (hi : i < 9) : GR (jput S (g + 2 + i) f v) g sz z (mset mf i f v) := by
  obtain ⟨h1, h2, h3, h4⟩ := h
  refine ⟨h1, ?_, ?_, fun a ha b hb => ?_⟩
  · rw [ji_put_ne _ _ _ _ (by omega)]; exact h2
  · rw [ji_put_ne _ _ _ _ (by omega)]; exact h3
  · rw [ji_put]
    unfold mset
    by_cases hc : a = i ∧ b = f
    · rw [if_pos hc, if_pos ⟨by omega, hc.2⟩]
    · rw [if_neg hc, if_neg (fun q => hc ⟨by omega, q.2⟩)]
      exact h4 a ha b hb
/-- a whole master is otherwise -/
def mall (mf : Nat → Nat → Int32) (i : Nat) (w : Nat → Int32) : Nat → Nat → Int32 := fun a b => if a = i then w b else mf a b
theorem GR.rowm {S : jM} {g sz i : Nat} {z : Int32} {mf : Nat → Nat → Int32} {r w : Nat → Int32} (h : GR S g sz z mf) (hi : i < 9) (hr : ∀ f, f < 7 → r f = w f) : GR (jrow S (g + 2 + i) r) g sz z (mall mf i w) := by
  obtain ⟨h1, h2, h3, h4⟩ := h
  refine ⟨h1, ?_, ?_, fun a ha b hb => ?_⟩
  · rw [ji_row_ne _ _ _ (by omega)]; exact h2
  · rw [ji_row_ne _ _ _ (by omega)]; exact h3
  · unfold mall
    by_cases hc : a = i
    · subst hc; rw [if_pos rfl, ji_row_same]; exact hr b hb
    · rw [if_neg hc, ji_row_ne _ _ _ (by omega)]
      exact h4 a ha b hb
theorem GR.cong {S : jM} {g sz : Nat} {z : Int32} {mf mf' : Nat → Nat → Int32} (h : GR S g sz z mf) (he : ∀ i, i < 9 → ∀ f, f < 7 → mf i f = mf' i f) : GR S g sz z mf' :=
  ⟨h.1, h.2.1, h.2.2.1, fun i hi f hf => (h.2.2.2 i hi f hf).trans (he i hi f hf)⟩
/-- a master as it comes -/
def mnew (kind town gesture fee : Int32) : Nat → Int32 := fun f => ([kind, town, gesture, 0, fee, 40, 0] : List Int32).getD f 0
theorem mrow_new (f : Nat → Int32) (k t g fe : Int32) : ∀ i, i < 7 → mrow f k t g 0 fe 40 0 i = mnew k t g fe i := by
  intro i hi
  rcases (show i = 0 ∨ i = 1 ∨ i = 2 ∨ i = 3 ∨ i = 4 ∨ i = 5 ∨ i = 6 by omega) with rfl | rfl | rfl | rfl | rfl | rfl | rfl <;> simp [mrow, upd, mnew]
section jGuild2
variable {E : jEnv} {d : Nat} {S : jM} {g : Nat} {sz : Nat} {z : Int32} {mf : Nat → Nat → Int32}
theorem c_X0_join {Q : Int32 → jM → Prop} {x1 x2 x3 x4 : Int32} (hG : GR S g sz z mf) (hz : sz ≤ 9) (h1 : sz = 9 → Q 0 S) (h2 : sz < 9 → ∀ S', jch S S' g (g + 11) → GR S' g (sz + 1) z (mall mf sz (mnew x1 x2 x3 x4)) → Q 1 S') : jFi E mX0_join (d + 1) 0 0 [.ref g, .int x1, .int x2, .int x3, .int x4] S Q := by
  obtain ⟨k1, k2, k3, k4, k5⟩ := hG.1
  refine T_X0_join ⟨k1, ?_⟩
  rw [hG.2.1]
  rcases jwi_cases (nI sz) (b := 9) 9 rfl (by omega) with ⟨n, hn, e, e1⟩ | ⟨hn, e1⟩
  · have hsn : sz = n := nI_inj (by omega) (by omega) e
    subst hsn
    rw [e1]
    refine ⟨fun c => absurd c (by decide), fun _ => ⟨g + 1, k2, k3, by rw [k4]; exact jin_nI hn (by omega), g + 2 + sz, by rw [jcl (by omega)]; exact (k5 sz hn).1, (k5 sz hn).2, ?_⟩⟩
    refine c_X2_begin (k5 sz hn).2 ⟨k1, ?_⟩
    have hg := hG.rowm (i := sz) (w := mnew x1 x2 x3 x4) hn (mrow_new (ji S (g + 2 + sz)) x1 x2 x3 x4)
    rw [hg.2.1, nI_1]
    exact h2 hn _ ((jch.row (by omega) (by omega)).trans (jch.put (by omega) (by omega))) hg.puts
  · rw [e1]
    have : sz = 9 := by
      rcases Nat.lt_or_ge sz 9 with q | q
      · exact absurd rfl (hn sz q)
      · omega
    exact ⟨fun _ => h1 this, fun c => absurd rfl c⟩
/-- the fourth part of a guild that is drawn: z behind four draws -/
def jz4 (z : Int32) : Int32 := jlot (jlot (jlot (jlot z)))
def mdraw (z : Int32) : Nat → Int32 := mnew (jrem (jushr (jlot z) 8) 6) (jrem (jushr (jlot (jlot z)) 8) 6) (jrem (jushr (jlot (jlot (jlot z))) 8) 10) (jrem (jushr (jz4 z) 8) 40)
theorem c_X0_joinByLot {Q : jM → Prop} (hG : GR S g sz z mf) (hz : sz < 9) (h : ∀ S', jch S S' g (g + 11) → GR S' g (sz + 1) (jz4 z) (mall mf sz (mdraw z)) → Q S') : jFv E mX0_joinByLot (d + 2) 0 0 [.ref g] S Q := by
  have k1 := hG.1.1
  have e := hG.2.2.1
  have g1 := hG.putz (v := jlot z)
  have g2 := g1.putz (v := jlot (jlot z))
  have g3 := g2.putz (v := jlot (jlot (jlot z)))
  have g4 := g3.putz (v := jz4 z)
  refine T_X0_joinByLot ⟨k1, c_X0_draw k1 ⟨k1, ?_⟩⟩
  rw [e]
  refine c_X0_draw k1 ⟨k1, ?_⟩
  rw [g1.2.2.1]
  refine c_X0_draw k1 ⟨k1, ?_⟩
  rw [g2.2.2.1]
  refine c_X0_draw k1 ⟨k1, ?_⟩
  rw [g3.2.2.1]
  refine c_X0_join g4 (by omega) (fun q => absurd q (by omega)) (fun _ S' hc hg => h S' ?_ hg)
  exact (((jch.put (by omega) (by omega)).trans (jch.put (by omega) (by omega))).trans ((jch.put (by omega) (by omega)).trans (jch.put (by omega) (by omega)))).trans hc
/-- a guild becomes another one -/
theorem c_X0_become {Q : jM → Prop} {g1 sz1 : Nat} {z1 : Int32} {mf1 : Nat → Nat → Int32} (hG : GR S g sz z mf) (hG1 : GR S g1 sz1 z1 mf1) (hne : g + 11 ≤ g1 ∨ g1 + 11 ≤ g) (hd : ∀ i, i < 9 → mf1 i 6 = 0 ∨ mf1 i 6 = 1) (h : ∀ S', jch S S' g (g + 11) → GR S' g sz1 z1 mf1 → Q S') : jFv E mX0_become (d + 1) 0 0 [.ref g, .ref g1] S Q := by
  have key : ∀ (n i : Nat) (S1 : jM) (mfx : Nat → Nat → Int32), i + n = 9 → jch S S1 g (g + 11) → GR S1 g sz1 z1 mfx → (∀ a, a < i → ∀ f, f < 7 → mfx a f = mf1 a f) → L_X0_become_18 E d Q g g1 (nI i) S1 := by
    intro n
    induction n with
    | zero =>
      intro i S1 mfx hi hc hg hm
      obtain rfl : i = 9 := by omega
      exact T_X0_become_18 ⟨fun _ => h S1 hc (hg.cong (fun a ha f hf => hm a ha f hf)), fun c => absurd (by decide) c⟩
    | succ n ih =>
      intro i S1 mfx hi hc hg hm
      have hg1 := hG1.keep hc (by omega)
      obtain ⟨k1, k2, k3, k4, k5⟩ := hg.1
      obtain ⟨l1, l2, l3, l4, l5⟩ := hg1.1
      refine T_X0_become_18 ⟨fun c => absurd c (nI_ge (b := 9) (by omega) (by omega)), fun _ => ⟨k1, g + 1, k2, k3, by rw [k4]; exact jin_nI (by omega) (by omega), g + 2 + i, by rw [jcl (by omega)]; exact (k5 i (by omega)).1, l1, g1 + 1, l2, l3, by rw [l4]; exact jin_nI (by omega) (by omega), g1 + 2 + i, by rw [jcl (by omega)]; exact (l5 i (by omega)).1, (k5 i (by omega)).2, ?_⟩⟩
      have hv : ∀ f, f < 7 → ji S1 (g1 + 2 + i) f = mf1 i f := fun f hf => hg1.2.2.2 i (by omega) f hf
      refine c_X2_become (k5 i (by omega)).2 (l5 i (by omega)).2 (by rw [hv 6 (by omega)]; exact hd i (by omega)) ?_
      rw [nI_1]
      refine ih (i + 1) _ (mall mfx i (mf1 i)) (by omega) (hc.trans (jch.row (by omega) (by omega))) (hg.rowm (by omega) (fun f hf => ?_)) (fun a ha f hf => ?_)
      · rw [hv 0 (by omega), hv 1 (by omega), hv 2 (by omega), hv 3 (by omega), hv 4 (by omega), hv 5 (by omega), hv 6 (by omega)]
        rcases (show f = 0 ∨ f = 1 ∨ f = 2 ∨ f = 3 ∨ f = 4 ∨ f = 5 ∨ f = 6 by omega) with rfl | rfl | rfl | rfl | rfl | rfl | rfl <;> simp [mrow, upd]
      · unfold mall
        by_cases hai : a = i
        · subst hai; rw [if_pos rfl]
        · rw [if_neg hai]; exact hm a (by omega) f hf
  refine T_X0_become ⟨hG1.1.1, hG.1.1, ?_⟩
  rw [hG1.2.1, hG1.2.2.1]
  refine key 9 0 _ mf (by omega) ((jch.put (by omega) (by omega)).trans (jch.put (by omega) (by omega))) ?_ (fun a ha => absurd ha (by omega))
  exact (hG.puts (n := sz1)).putz
end jGuild2
end
section
/-! THE GUILD (class): years, counts -/
/-- step by step from i on, n times -/
def jfold {α : Type} (step : Nat → α → α) : Nat → Nat → α → α
  | 0, _, a => a
  | n + 1, i, a => jfold step n (i + 1) (step i a)
abbrev gst : Type := Int32 × (Nat → Nat → Int32)
/-- a year of one master -/
def yone (i : Nat) (p : gst) : gst :=
  if p.2 i 6 = 0 then (if p.2 i 5 - 50 ≤ jrem (jushr (jlot p.1) 8) 100 then (jlot p.1, mset p.2 i 5 (jmin 99 (p.2 i 5 + 1))) else (jlot p.1, mset p.2 i 6 1)) else p
def yyear (sz : Nat) (p : gst) : gst := jfold yone sz 0 p
def yyears (sz : Nat) : Nat → gst → gst
  | 0, p => p
  | n + 1, p => yyears sz n (yyear sz p)
def mdead (mf : Nat → Nat → Int32) (sz : Nat) : Int32 := jfold (fun i a => if mf i 6 = 0 then a + 0 else a + 1) sz 0 (0 : Int32)
def mages (mf : Nat → Nat → Int32) (sz : Nat) : Int32 := jfold (fun i a => a + mf i 5) sz 0 (0 : Int32)
def mtaught (mf : Nat → Nat → Int32) (sz : Nat) : Int32 := jfold (fun i a => if mf i 6 = 0 then a ||| jshl 1 (mf i 2) else a ||| 0) sz 0 (0 : Int32)
def monly (mf : Nat → Nat → Int32) (ge : Int32) : Nat → Nat → Int32 → Int32
  | 0, _, o => o
  | n + 1, i, o => if mf i 6 = 0 then (if mf i 2 = ge then (if o = (-1000000005) then monly mf ge n (i + 1) (nI i) else (-1000000005)) else monly mf ge n (i + 1) o) else monly mf ge n (i + 1) o
section jGuild3
variable {E : jEnv} {d : Nat} {S : jM} {g : Nat} {sz : Nat} {z : Int32} {mf : Nat → Nat → Int32}
theorem GR.at {i f : Nat} (h : GR S g sz z mf) (hi : i < 9) (hf : f < 7) : ji S (g + 2 + i) f = mf i f := h.2.2.2 i hi f hf
theorem GR.mk2 {i : Nat} (h : GR S g sz z mf) (hi : i < 9) : jk S (g + 2 + i) = 2 := (h.1.2.2.2.2 i hi).2
theorem c_X0_liveYear {Q : jM → Prop} (hG : GR S g sz z mf) (hz : sz ≤ 9) (h : ∀ S', jch S S' g (g + 11) → GR S' g sz (yyear sz (z, mf)).1 (yyear sz (z, mf)).2 → Q S') : jFv E mX0_liveYear (d + 2) 0 0 [.ref g] S Q := by
  have key : ∀ (n i : Nat) (S1 : jM) (p : gst), i + n = sz → jch S S1 g (g + 11) → GR S1 g sz p.1 p.2 → jfold yone n i p = yyear sz (z, mf) → L_X0_liveYear_2 E (d + 1) Q g (nI i) S1 := by
    intro n
    induction n with
    | zero =>
      intro i S1 p hi hc hg he
      obtain rfl : i = sz := by omega
      refine T_X0_liveYear_2 ⟨hg.1.1, ?_⟩
      rw [hg.2.1]
      refine ⟨fun _ => h S1 hc ?_, fun c => absurd (nI_le (Nat.le_refl _) (by omega)) c⟩
      rw [← he]; exact hg
    | succ n ih =>
      intro i S1 p hi hc hg he
      refine T_X0_liveYear_2 ⟨hg.1.1, ?_⟩
      rw [hg.2.1]
      refine ⟨fun c => absurd c (nI_ge (by omega) (by omega)), fun _ => ?_⟩
      refine c_X0_findAt hg.1 hg.2.1 hz (by omega) ⟨fun c => (by cases c), fun b hb => ?_⟩
      obtain rfl : g + 2 + i = b := Option.some.inj hb
      refine ⟨hg.mk2 (by omega), ?_⟩
      rw [hg.at (by omega) (by omega), nI_1]
      have he2 : jfold yone n (i + 1) (yone i p) = yyear sz (z, mf) := he
      refine ⟨fun c => ⟨hg.1.1, c_X0_draw hg.1.1 ⟨hg.mk2 (by omega), ?_⟩⟩, fun c => ?_⟩
      · rw [hg.2.2.1]
        have g1 := hg.putz (v := jlot p.1)
        have c1 : jch S (jput S1 g 2 (jlot p.1)) g (g + 11) := hc.trans (jch.put (by omega) (by omega))
        rw [g1.at (by omega) (by omega)]
        refine ⟨fun c2 => ?_, fun c2 => ?_⟩
        · refine ih (i + 1) _ (jlot p.1, mset p.2 i 5 (jmin 99 (p.2 i 5 + 1))) (by omega) (c1.trans (jch.put (by omega) (by omega))) (g1.putm (by omega)) ?_
          rw [← he2]; unfold yone; rw [if_pos c, if_pos c2]
        · refine ih (i + 1) _ (jlot p.1, mset p.2 i 6 1) (by omega) (c1.trans (jch.put (by omega) (by omega))) (g1.putm (by omega)) ?_
          rw [← he2]; unfold yone; rw [if_pos c, if_neg c2]
      · refine ih (i + 1) S1 p (by omega) hc hg ?_
        rw [← he2]; unfold yone; rw [if_neg c]
  exact T_X0_liveYear (key sz 0 S (z, mf) (by omega) jch.rfl hG rfl)
theorem c_X0_liveYears {Q : jM → Prop} {n : Nat} (hG : GR S g sz z mf) (hz : sz ≤ 9) (hn : n < 1000) (h : ∀ S', jch S S' g (g + 11) → GR S' g sz (yyears sz n (z, mf)).1 (yyears sz n (z, mf)).2 → Q S') : jFv E mX0_liveYears (d + 3) 0 0 [.ref g, .int (nI n)] S Q := by
  have key : ∀ (k i : Nat) (S1 : jM) (p : gst), i + k = n → jch S S1 g (g + 11) → GR S1 g sz p.1 p.2 → yyears sz k p = yyears sz n (z, mf) → L_X0_liveYears_2 E (d + 2) Q g (nI n) (nI i) S1 := by
    intro k
    induction k with
    | zero =>
      intro i S1 p hi hc hg he
      obtain rfl : i = n := by omega
      refine T_X0_liveYears_2 ⟨fun _ => h S1 hc ?_, fun c => absurd (nI_le (Nat.le_refl _) (by omega)) c⟩
      rw [← he]; exact hg
    | succ k ih =>
      intro i S1 p hi hc hg he
      refine T_X0_liveYears_2 ⟨fun c => absurd c (nI_ge (by omega) (by omega)), fun _ => ⟨hg.1.1, ?_⟩⟩
      refine c_X0_liveYear hg hz (fun S2 hc2 hg2 => ?_)
      rw [nI_1]
      exact ih (i + 1) S2 _ (by omega) (hc.trans hc2) hg2 he
  exact T_X0_liveYears (key n 0 S (z, mf) (by omega) jch.rfl hG rfl)
theorem c_X0_countDead {Q : Int32 → jM → Prop} (hG : GR S g sz z mf) (hz : sz ≤ 9) (h : Q (mdead mf sz) S) : jFi E mX0_countDead (d + 2) 0 0 [.ref g] S Q := by
  have key : ∀ (n i : Nat) (a : Int32), i + n = sz → Q (jfold (fun i a => if mf i 6 = 0 then a + 0 else a + 1) n i a) S → L_X0_countDead_4 E (d + 1) Q g a (nI i) S := by
    intro n
    induction n with
    | zero =>
      intro i a hi hq
      obtain rfl : i = sz := by omega
      refine T_X0_countDead_4 ⟨hG.1.1, ?_⟩
      rw [hG.2.1]
      exact ⟨fun _ => hq, fun c => absurd (nI_le (Nat.le_refl _) (by omega)) c⟩
    | succ n ih =>
      intro i a hi hq
      refine T_X0_countDead_4 ⟨hG.1.1, ?_⟩
      rw [hG.2.1]
      refine ⟨fun c => absurd c (nI_ge (by omega) (by omega)), fun _ => c_X0_findAt hG.1 hG.2.1 hz (by omega) ⟨fun c => (by cases c), fun b hb => ?_⟩⟩
      obtain rfl : g + 2 + i = b := Option.some.inj hb
      refine ⟨hG.mk2 (by omega), ?_⟩
      rw [hG.at (by omega) (by omega), nI_1]
      refine ⟨fun c => ih (i + 1) _ (by omega) ?_, fun c => ih (i + 1) _ (by omega) ?_⟩
      · simpa [jfold, c] using hq
      · simpa [jfold, c] using hq
  exact T_X0_countDead (key sz 0 0 (by omega) h)
theorem c_X0_agesTogether {Q : Int32 → jM → Prop} (hG : GR S g sz z mf) (hz : sz ≤ 9) (h : Q (mages mf sz) S) : jFi E mX0_agesTogether (d + 2) 0 0 [.ref g] S Q := by
  have key : ∀ (n i : Nat) (a : Int32), i + n = sz → Q (jfold (fun i a => a + mf i 5) n i a) S → L_X0_agesTogether_4 E (d + 1) Q g a (nI i) S := by
    intro n
    induction n with
    | zero =>
      intro i a hi hq
      obtain rfl : i = sz := by omega
      refine T_X0_agesTogether_4 ⟨hG.1.1, ?_⟩
      rw [hG.2.1]
      exact ⟨fun _ => hq, fun c => absurd (nI_le (Nat.le_refl _) (by omega)) c⟩
    | succ n ih =>
      intro i a hi hq
      refine T_X0_agesTogether_4 ⟨hG.1.1, ?_⟩
      rw [hG.2.1]
      refine ⟨fun c => absurd c (nI_ge (by omega) (by omega)), fun _ => c_X0_findAt hG.1 hG.2.1 hz (by omega) ⟨fun c => (by cases c), fun b hb => ?_⟩⟩
      obtain rfl : g + 2 + i = b := Option.some.inj hb
      refine ⟨hG.mk2 (by omega), ?_⟩
      rw [hG.at (by omega) (by omega), nI_1]
      exact ih (i + 1) _ (by omega) hq
  exact T_X0_agesTogether (key sz 0 0 (by omega) h)
theorem c_X0_taught {Q : Int32 → jM → Prop} (hG : GR S g sz z mf) (hz : sz ≤ 9) (h : Q (mtaught mf sz) S) : jFi E mX0_taught (d + 2) 0 0 [.ref g] S Q := by
  have key : ∀ (n i : Nat) (a : Int32), i + n = sz → Q (jfold (fun i a => if mf i 6 = 0 then a ||| jshl 1 (mf i 2) else a ||| 0) n i a) S → L_X0_taught_4 E (d + 1) Q g a (nI i) S := by
    intro n
    induction n with
    | zero =>
      intro i a hi hq
      obtain rfl : i = sz := by omega
      refine T_X0_taught_4 ⟨hG.1.1, ?_⟩
      rw [hG.2.1]
      exact ⟨fun _ => hq, fun c => absurd (nI_le (Nat.le_refl _) (by omega)) c⟩
    | succ n ih =>
      intro i a hi hq
      refine T_X0_taught_4 ⟨hG.1.1, ?_⟩
      rw [hG.2.1]
      refine ⟨fun c => absurd c (nI_ge (by omega) (by omega)), fun _ => c_X0_findAt hG.1 hG.2.1 hz (by omega) ⟨fun c => (by cases c), fun b hb => ?_⟩⟩
      obtain rfl : g + 2 + i = b := Option.some.inj hb
      refine ⟨hG.mk2 (by omega), ?_⟩
      rw [hG.at (f := 6) (by omega) (by omega), hG.at (f := 2) (by omega) (by omega), nI_1]
      refine ⟨fun c => ih (i + 1) _ (by omega) ?_, fun c => ih (i + 1) _ (by omega) ?_⟩
      · simpa [jfold, c] using hq
      · simpa [jfold, c] using hq
  exact T_X0_taught (key sz 0 0 (by omega) h)
theorem c_X0_onlyTeacher {Q : Int32 → jM → Prop} {x1 : Int32} (hG : GR S g sz z mf) (hz : sz ≤ 9) (h : Q (monly mf x1 sz 0 (-1000000005)) S) : jFi E mX0_onlyTeacher (d + 2) 0 0 [.ref g, .int x1] S Q := by
  have key : ∀ (n i : Nat) (a : Int32), i + n = sz → Q (monly mf x1 n i a) S → L_X0_onlyTeacher_5 E (d + 1) Q g x1 a (nI i) S := by
    intro n
    induction n with
    | zero =>
      intro i a hi hq
      obtain rfl : i = sz := by omega
      refine T_X0_onlyTeacher_5 ⟨hG.1.1, ?_⟩
      rw [hG.2.1]
      exact ⟨fun _ => hq, fun c => absurd (nI_le (Nat.le_refl _) (by omega)) c⟩
    | succ n ih =>
      intro i a hi hq
      refine T_X0_onlyTeacher_5 ⟨hG.1.1, ?_⟩
      rw [hG.2.1]
      refine ⟨fun c => absurd c (nI_ge (by omega) (by omega)), fun _ => c_X0_findAt hG.1 hG.2.1 hz (by omega) ⟨fun c => (by cases c), fun b hb => ?_⟩⟩
      obtain rfl : g + 2 + i = b := Option.some.inj hb
      refine ⟨hG.mk2 (by omega), ?_⟩
      rw [hG.at (f := 6) (by omega) (by omega), hG.at (f := 2) (by omega) (by omega), nI_1]
      unfold monly at hq
      refine ⟨fun c => ⟨fun c2 => ⟨fun c3 => ih (i + 1) _ (by omega) ?_, fun c3 => ?_⟩, fun c2 => ih (i + 1) _ (by omega) ?_⟩, fun c => ih (i + 1) _ (by omega) ?_⟩ <;> simpa [*] using hq
  exact T_X0_onlyTeacher (key sz 0 _ (by omega) h)
end jGuild3
end
section
/-! ROADS (class) at q: days at q + 1, ways at q + 2; FAR by the same steps as the reference takes them -/
def w0step (dy : Nat → Int32) (i : Nat) (w : Nat → Int32) : Nat → Int32 := upd w i (if i / 6 = i % 6 then 0 else if dy i = 0 then 9999 else dy i)
def w1step (o i : Nat) (w : Nat → Int32) : Nat → Int32 := upd w i (jmin (w i) (w (i / 6 * 6 + o) + w (o * 6 + i % 6)))
def w1 (o : Nat) (w : Nat → Int32) : Nat → Int32 := jfold (w1step o) 36 0 w
def wfar (dy w : Nat → Int32) : Nat → Int32 := jfold w1 6 0 (jfold (w0step dy) 36 0 w)
theorem nI_ix6 (a c : Nat) : nI a * 6 + nI c = nI (a * 6 + c) := by
  rw [show (6 : Int32) = nI 6 from rfl, pk_mul, nI_add]
theorem jfold_snoc {α : Type} (st : Nat → α → α) : ∀ (n i : Nat) (a : α), jfold st (n + 1) i a = st (i + n) (jfold st n i a)
  | 0, i, a => rfl
  | n + 1, i, a => by
    show jfold st (n + 1) (i + 1) (st i a) = st (i + (n + 1)) (jfold st n (i + 1) (st i a))
    rw [jfold_snoc st n (i + 1) (st i a)]
    congr 1
    omega
def RdL (S : jM) (q : Nat) : Prop := jk S q = 4 ∧ jr S q 0 = some (q + 1) ∧ jr S q 1 = some (q + 2) ∧ jk S (q + 1) = 12 ∧ jl S (q + 1) = 36 ∧ jk S (q + 2) = 12 ∧ jl S (q + 2) = 36
def RdR (S : jM) (q : Nat) (dy wy : Nat → Int32) : Prop := RdL S q ∧ (∀ i, i < 36 → ji S (q + 1) i = dy i) ∧ ∀ i, i < 36 → ji S (q + 2) i = wy i
theorem RdL.same {S S' : jM} {q : Nat} (h : RdL S q) (hs : jsame S S') : RdL S' q := by
  obtain ⟨e1, e2, e3, -⟩ := hs
  unfold RdL
  rw [e1, e2, e3]
  exact h
theorem RdR.keep {S S' : jM} {q lo hi : Nat} {dy wy : Nat → Int32} (h : RdR S q dy wy) (hc : jch S S' lo hi) (hd : q + 3 ≤ lo ∨ hi ≤ q) : RdR S' q dy wy :=
  ⟨h.1.same hc.1, fun i hi' => by rw [hc.2 (q + 1) (by omega)]; exact h.2.1 i hi', fun i hi' => by rw [hc.2 (q + 2) (by omega)]; exact h.2.2 i hi'⟩
section jRoads
variable {E : jEnv} {d : Nat} {S : jM} {q : Nat}
theorem l_X4_meas2 {Q : jM → Prop} (hL : RdL S q) (h : ∀ S', jch S S' q (q + 3) → ji S' (q + 2) = jfold w1 6 0 (ji S (q + 2)) → ji S' (q + 1) = ji S (q + 1) → Q S') : L_X4_measure_73 E d Q q 0 S := by
  have hr2 := hL.2.2.1
  have hk2 := hL.2.2.2.2.2.1
  have hl2 := hL.2.2.2.2.2.2
  have stepI : ∀ (o : Nat), o < 6 → ∀ (wz : Nat → Int32), L_X4_measure_73 E d Q q (nI (o + 1)) (jrow S (q + 2) wz) → ∀ (n i : Nat) (w : Nat → Int32), i + n = 36 → jfold (w1step o) n i w = wz → (0 < n → L_X4_measure_89 E d Q q (nI o) (nI (i / 6)) (nI (i % 6)) (jrow S (q + 2) w)) ∧ (n = 0 → L_X4_measure_81 E d Q q (nI o) (nI 6) (jrow S (q + 2) w)) := by
    intro o ho wz hend n
    induction n with
    | zero =>
      intro i w hi hw
      refine ⟨fun c => absurd c (by omega), fun _ => ?_⟩
      have hw' : w = wz := hw
      subst hw'
      exact T_X4_measure_81 ⟨fun _ => by rw [nI_1]; exact hend, fun c => absurd (by decide) c⟩
    | succ n ih =>
      intro i w hi hw
      refine ⟨fun _ => ?_, fun c => absurd c (by omega)⟩
      have hi6 : i / 6 < 6 := by omega
      have hm6 : i % 6 < 6 := by omega
      have hrow : ji (jrow S (q + 2) w) (q + 2) = w := ji_row_same _ _ _
      have ii : i / 6 * 6 + i % 6 = i := by omega
      refine T_X4_measure_89 ⟨fun c => absurd c (nI_ge (b := 6) (by omega) (by omega)), fun _ => ⟨hL.1, q + 2, hr2, hk2, ?_, ?_, ?_⟩⟩
      · rw [nI_ix6]; show vp_in _ (jl S (q + 2)); rw [hl2]; exact jin_nI (by omega) (by omega)
      · rw [nI_ix6]; show vp_in _ (jl S (q + 2)); rw [hl2]; exact jin_nI (by omega) (by omega)
      · intro y hy
        refine ⟨?_, ?_⟩
        · rw [nI_ix6]; show vp_in _ (jl S (q + 2)); rw [hl2]; exact jin_nI (by omega) (by omega)
        · rw [nI_ix6, nI_ix6, jcl (by omega), jcl (by omega), hrow] at hy
          rw [nI_ix6, jcl (by omega), hrow, nI_1, jput_eq, jrow_row, hrow, ii]
          have hs : upd w i (jmin (w i) y) = w1step o i w := by rw [hy]; rfl
          rw [hs]
          have hnext := ih (i + 1) (w1step o i w) (by omega) hw
          rcases Nat.lt_or_ge (i % 6) 5 with hc | hc
          · have e1 : (i + 1) / 6 = i / 6 := by omega
            have e2 : (i + 1) % 6 = i % 6 + 1 := by omega
            rw [e1, e2] at hnext
            exact hnext.1 (by omega)
          · have e2 : i % 6 + 1 = 6 := by omega
            rw [e2]
            refine T_X4_measure_89 ⟨fun _ => ?_, fun c => absurd (by decide) c⟩
            rw [nI_1]
            by_cases hn : n = 0
            · have e3 : i / 6 + 1 = 6 := by omega
              rw [e3]
              exact hnext.2 hn
            · have e3 : (i + 1) / 6 = i / 6 + 1 := by omega
              have e4 : (i + 1) % 6 = 0 := by omega
              have h9 := hnext.1 (by omega)
              rw [e3, e4] at h9
              exact T_X4_measure_81 ⟨fun c => absurd c (nI_ge (b := 6) (by omega) (by omega)), fun _ => h9⟩
  have stepO : ∀ (n o : Nat) (w : Nat → Int32), o + n = 6 → jfold w1 n o w = jfold w1 6 0 (ji S (q + 2)) → L_X4_measure_73 E d Q q (nI o) (jrow S (q + 2) w) := by
    intro n
    induction n with
    | zero =>
      intro o w ho hw
      obtain rfl : o = 6 := by omega
      refine T_X4_measure_73 ⟨fun _ => h _ (jch.row (by omega) (by omega)) ?_ ?_, fun c => absurd (by decide) c⟩
      · rw [ji_row_same]; exact hw
      · rw [ji_row_ne _ _ _ (by omega)]
    | succ n ih =>
      intro o w ho hw
      refine T_X4_measure_73 ⟨fun c => absurd c (nI_ge (b := 6) (by omega) (by omega)), fun _ => ?_⟩
      refine T_X4_measure_81 ⟨fun c => absurd c (by decide), fun _ => ?_⟩
      exact (stepI o (by omega) (w1 o w) (ih (o + 1) (w1 o w) (by omega) hw) 36 0 w (by omega) rfl).1 (by omega)
  have h0 := stepO 6 0 (ji S (q + 2)) (by omega) rfl
  rw [jrow_self] at h0
  exact h0
theorem c_X4_measure {Q : jM → Prop} (hL : RdL S q) (h : ∀ S', jch S S' q (q + 3) → ji S' (q + 2) = wfar (ji S (q + 1)) (ji S (q + 2)) → ji S' (q + 1) = ji S (q + 1) → Q S') : jFv E mX4_measure (d + 1) 0 0 [.ref q] S Q := by
  have hr1 := hL.2.1
  have hr2 := hL.2.2.1
  have hk1 := hL.2.2.2.1
  have hl1 := hL.2.2.2.2.1
  have hk2 := hL.2.2.2.2.2.1
  have hl2 := hL.2.2.2.2.2.2
  have hend : L_X4_measure_73 E d Q q 0 (jrow S (q + 2) (jfold (w0step (ji S (q + 1))) 36 0 (ji S (q + 2)))) := by
    refine l_X4_meas2 (S := jrow S (q + 2) (jfold (w0step (ji S (q + 1))) 36 0 (ji S (q + 2)))) hL (fun S' hc e1 e2 => h S' ((jch.row (by omega) (by omega)).trans hc) ?_ ?_)
    · rw [e1, ji_row_same]; rfl
    · rw [e2, ji_row_ne _ _ _ (by omega)]
  have stepI : ∀ (n i : Nat) (w : Nat → Int32), i + n = 36 → jfold (w0step (ji S (q + 1))) n i w = jfold (w0step (ji S (q + 1))) 36 0 (ji S (q + 2)) → (0 < n → L_X4_measure_10 E d Q q (nI (i / 6)) (nI (i % 6)) (jrow S (q + 2) w)) ∧ (n = 0 → L_X4_measure_2 E d Q q (nI 6) (jrow S (q + 2) w)) := by
    intro n
    induction n with
    | zero =>
      intro i w hi hw
      refine ⟨fun c => absurd c (by omega), fun _ => ?_⟩
      have hw' : w = jfold (w0step (ji S (q + 1))) 36 0 (ji S (q + 2)) := hw
      rw [hw']
      exact T_X4_measure_2 ⟨fun _ => hend, fun c => absurd (by decide) c⟩
    | succ n ih =>
      intro i w hi hw
      refine ⟨fun _ => ?_, fun c => absurd c (by omega)⟩
      have hi6 : i / 6 < 6 := by omega
      have hm6 : i % 6 < 6 := by omega
      have ii : i / 6 * 6 + i % 6 = i := by omega
      have hrow : ji (jrow S (q + 2) w) (q + 2) = w := ji_row_same _ _ _
      have hrow1 : ji (jrow S (q + 2) w) (q + 1) = ji S (q + 1) := ji_row_ne _ _ _ (by omega)
      have hnext := ih (i + 1) (w0step (ji S (q + 1)) i w) (by omega) hw
      have hgo : L_X4_measure_10 E d Q q (nI (i / 6)) (nI (i % 6 + 1)) (jrow S (q + 2) (w0step (ji S (q + 1)) i w)) := by
        rcases Nat.lt_or_ge (i % 6) 5 with hc | hc
        · have e1 : (i + 1) / 6 = i / 6 := by omega
          have e2 : (i + 1) % 6 = i % 6 + 1 := by omega
          rw [e1, e2] at hnext
          exact hnext.1 (by omega)
        · have e2 : i % 6 + 1 = 6 := by omega
          rw [e2]
          refine T_X4_measure_10 ⟨fun _ => ?_, fun c => absurd (by decide) c⟩
          rw [nI_1]
          by_cases hn : n = 0
          · have e3 : i / 6 + 1 = 6 := by omega
            rw [e3]
            exact hnext.2 hn
          · have e3 : (i + 1) / 6 = i / 6 + 1 := by omega
            have e4 : (i + 1) % 6 = 0 := by omega
            have h9 := hnext.1 (by omega)
            rw [e3, e4] at h9
            exact T_X4_measure_2 ⟨fun c => absurd c (nI_ge (b := 6) (by omega) (by omega)), fun _ => h9⟩
      have hin1 : vp_in (nI (i / 6) * 6 + nI (i % 6)) (jl (jrow S (q + 2) w) (q + 1)) := by rw [nI_ix6]; show vp_in _ (jl S (q + 1)); rw [hl1]; exact jin_nI (by omega) (by omega)
      have hin2 : vp_in (nI (i / 6) * 6 + nI (i % 6)) (jl (jrow S (q + 2) w) (q + 2)) := by rw [nI_ix6]; show vp_in _ (jl S (q + 2)); rw [hl2]; exact jin_nI (by omega) (by omega)
      refine T_X4_measure_10 ⟨fun c => absurd c (nI_ge (b := 6) (by omega) (by omega)), fun _ => ⟨hL.1, q + 1, hr1, hk1, hin1, q + 2, hr2, fun c => ⟨hk2, hin2, ?_⟩, fun c => ⟨fun c2 => ⟨hk2, hin2, ?_⟩, fun c2 => ⟨hk2, hin2, ?_⟩⟩⟩⟩
      · have hc : i / 6 = i % 6 := nI_inj (by omega) (by omega) c
        rw [nI_ix6, jcl (by omega), nI_1, jput_eq, jrow_row, hrow, ii]
        have hs : upd w i 0 = w0step (ji S (q + 1)) i w := by unfold w0step; rw [if_pos hc]
        rw [hs]; exact hgo
      · have hc : ¬ i / 6 = i % 6 := fun e => c (by rw [e])
        rw [nI_ix6, jcl (by omega), hrow1, ii] at c2
        rw [nI_ix6, jcl (by omega), nI_1, jput_eq, jrow_row, hrow, ii]
        have hs : upd w i 9999 = w0step (ji S (q + 1)) i w := by unfold w0step; rw [if_neg hc, if_pos c2]
        rw [hs]; exact hgo
      · have hc : ¬ i / 6 = i % 6 := fun e => c (by rw [e])
        rw [nI_ix6, jcl (by omega), hrow1, ii] at c2
        rw [nI_ix6, jcl (by omega), hrow1, nI_1, jput_eq, jrow_row, hrow, ii]
        have hs : upd w i (ji S (q + 1) i) = w0step (ji S (q + 1)) i w := by unfold w0step; rw [if_neg hc, if_neg c2]
        rw [hs]; exact hgo
  have h0 := (stepI 36 0 (ji S (q + 2)) (by omega) rfl).1 (by omega)
  rw [jrow_self] at h0
  exact T_X4_measure (T_X4_measure_2 ⟨fun c => absurd c (by decide), fun _ => h0⟩)
end jRoads
end
section
/-! ROADS (class): asked, built, copied; FAR depends on the days alone -/
def agr (n : Nat) (f g : Nat → Int32) : Prop := ∀ i, i < n → f i = g i
theorem agr_upd {n : Nat} {f g : Nat → Int32} (h : agr n f g) (i : Nat) {v w : Int32} (e : v = w) : agr n (upd f i v) (upd g i w) := by
  intro j hj
  unfold upd
  by_cases hji : j = i
  · rw [if_pos hji, if_pos hji]; exact e
  · rw [if_neg hji, if_neg hji]; exact h j hj
theorem agr_fold {n : Nat} {st st' : Nat → (Nat → Int32) → (Nat → Int32)} : ∀ (k i : Nat) (f g : Nat → Int32), (∀ j, i ≤ j → j < i + k → ∀ f g, agr n f g → agr n (st j f) (st' j g)) → agr n f g → agr n (jfold st k i f) (jfold st' k i g)
  | 0, _, _, _, _, h => h
  | k + 1, i, f, g, hs, h => agr_fold k (i + 1) (st i f) (st' i g) (fun j h1 h2 => hs j (by omega) (by omega)) (hs i (by omega) (by omega) f g h)
theorem w0_at (dy : Nat → Int32) : ∀ (k i : Nat) (w : Nat → Int32) (j : Nat), jfold (w0step dy) k i w j = if i ≤ j ∧ j < i + k then (if j / 6 = j % 6 then 0 else if dy j = 0 then 9999 else dy j) else w j
  | 0, i, w, j => by rw [if_neg (by omega)]; rfl
  | k + 1, i, w, j => by
    show jfold (w0step dy) k (i + 1) (w0step dy i w) j = _
    rw [w0_at dy k (i + 1) (w0step dy i w) j]
    by_cases h1 : i + 1 ≤ j ∧ j < i + 1 + k
    · rw [if_pos h1, if_pos (c := i ≤ j ∧ j < i + (k + 1)) (by omega)]
    · rw [if_neg h1]
      by_cases h2 : j = i
      · subst h2; rw [if_pos (by omega)]; simp [w0step, upd]
      · rw [if_neg (by omega)]; simp [w0step, upd, h2]
theorem wfar_agr {dy dy' w w' : Nat → Int32} (h : agr 36 dy dy') : agr 36 (wfar dy w) (wfar dy' w') := by
  unfold wfar
  refine agr_fold 6 0 _ _ (fun o _ ho f g hfg => ?_) (fun i hi => ?_)
  · refine agr_fold 36 0 _ _ (fun i _ hi f g hfg => ?_) hfg
    exact agr_upd hfg i (by rw [hfg i (by omega), hfg (i / 6 * 6 + o) (by omega), hfg (o * 6 + i % 6) (by omega)])
  · rw [w0_at, w0_at, if_pos (c := 0 ≤ i ∧ i < 0 + 36) (by omega), if_pos (c := 0 ≤ i ∧ i < 0 + 36) (by omega), h i hi]
theorem RdR.same {S S' : jM} {q : Nat} {dy wy : Nat → Int32} (h : RdR S q dy wy) (hs : jsame S S') (h1 : ji S' (q + 1) = ji S (q + 1)) (h2 : ji S' (q + 2) = ji S (q + 2)) : RdR S' q dy wy :=
  ⟨h.1.same hs, fun i hi => by rw [h1]; exact h.2.1 i hi, fun i hi => by rw [h2]; exact h.2.2 i hi⟩
/-- a road is built: both ways -/
def dbuild (dy : Nat → Int32) (a b : Nat) (v : Int32) : Nat → Int32 := upd (upd dy (a * 6 + b) v) (b * 6 + a) v
section jRoads2
variable {E : jEnv} {d : Nat} {S : jM} {q : Nat} {dy wy : Nat → Int32}
theorem c_X4_direct {Q : Int32 → jM → Prop} {a b : Nat} (hR : RdR S q dy wy) (ha : a < 6) (hb : b < 6) (h : Q (dy (a * 6 + b)) S) : jFi E mX4_direct (d + 1) 0 0 [.ref q, .int (nI a), .int (nI b)] S Q := by
  refine T_X4_direct ?_
  rw [show (6 : Int32) = nI 6 from rfl, jwi_at ha (by omega), jwi_at hb (by omega)]
  refine ⟨fun c => absurd c (by decide), fun _ => ⟨fun c => absurd c (by decide), fun _ => ⟨hR.1.1, q + 1, hR.1.2.1, hR.1.2.2.2.1, ?_, ?_⟩⟩⟩
  · rw [pk_mul, nI_add, hR.1.2.2.2.2.1]; exact jin_nI (by omega) (by omega)
  · rw [pk_mul, nI_add, jcl (by omega), hR.2.1 _ (by omega)]; exact h
theorem c_X4_fewest {Q : Int32 → jM → Prop} {a b : Nat} (hR : RdR S q dy wy) (ha : a < 6) (hb : b < 6) (h : Q (wy (a * 6 + b)) S) : jFi E mX4_fewest (d + 1) 0 0 [.ref q, .int (nI a), .int (nI b)] S Q := by
  refine T_X4_fewest ?_
  rw [show (6 : Int32) = nI 6 from rfl, jwi_at ha (by omega), jwi_at hb (by omega)]
  refine ⟨fun c => absurd c (by decide), fun _ => ⟨fun c => absurd c (by decide), fun _ => ⟨hR.1.1, q + 2, hR.1.2.2.1, hR.1.2.2.2.2.2.1, ?_, ?_⟩⟩⟩
  · rw [pk_mul, nI_add, hR.1.2.2.2.2.2.2]; exact jin_nI (by omega) (by omega)
  · rw [pk_mul, nI_add, jcl (by omega), hR.2.2 _ (by omega)]; exact h
theorem c_X4_build {Q : jM → Prop} {a b : Nat} {v : Int32} (hR : RdR S q dy wy) (ha : a < 6) (hb : b < 6) (h : ∀ S', jch S S' q (q + 3) → RdR S' q (dbuild dy a b v) (wfar (dbuild dy a b v) (fun _ => 0)) → Q S') : jFv E mX4_build (d + 2) 0 0 [.ref q, .int (nI a), .int (nI b), .int v] S Q := by
  refine T_X4_build ?_
  rw [show (6 : Int32) = nI 6 from rfl, jwi_at ha (by omega), jwi_at hb (by omega)]
  refine ⟨fun c => absurd c (by decide), fun _ => ⟨fun c => absurd c (by decide), fun _ => ⟨hR.1.1, q + 1, hR.1.2.1, hR.1.2.2.2.1, ?_, ?_, ?_⟩⟩⟩
  · rw [pk_mul, nI_add, hR.1.2.2.2.2.1]; exact jin_nI (by omega) (by omega)
  · rw [pk_mul, nI_add, hR.1.2.2.2.2.1]; exact jin_nI (by omega) (by omega)
  · rw [pk_mul, nI_add, pk_mul, nI_add, jcl (by omega), jcl (by omega)]
    refine c_X4_measure (S := jput (jput S (q + 1) (a * 6 + b) v) (q + 1) (b * 6 + a) v) hR.1 (fun S' hc e1 e2 => ?_)
    have hdy : agr 36 (ji (jput (jput S (q + 1) (a * 6 + b) v) (q + 1) (b * 6 + a) v) (q + 1)) (dbuild dy a b v) := by
      rw [jput_eq, ji_row_same, jput_eq, ji_row_same]
      exact agr_upd (agr_upd (fun i hi => hR.2.1 i hi) _ rfl) _ rfl
    refine h S' (((jch.put (by omega) (by omega)).trans (jch.put (by omega) (by omega))).trans hc) ⟨RdL.same (S := S) hR.1 hc.1, fun i hi => ?_, fun i hi => ?_⟩
    · rw [e2]; exact hdy i hi
    · rw [e1]; exact wfar_agr hdy i hi
theorem va_cpy0 {f g : Nat → Int32} {n j : Nat} (h : j < n) : va_cpy f g 0 0 n j = f j := by
  rw [pk_cpy_in (Nat.zero_le _) (by omega)]
  congr 1
  omega
theorem c_X4_become {Q : jM → Prop} {q1 : Nat} {dy1 wy1 : Nat → Int32} (hR : RdR S q dy wy) (hR1 : RdR S q1 dy1 wy1) (hne : q + 3 ≤ q1 ∨ q1 + 3 ≤ q) (h : ∀ S', jch S S' q (q + 3) → RdR S' q dy1 wy1 → Q S') : jFv E mX4_become (d + 1) 0 0 [.ref q, .ref q1] S Q := by
  obtain ⟨⟨a1, a2, a3, a4, a5, a6, a7⟩, b1, b2⟩ := hR
  obtain ⟨⟨c1, c2, c3, c4, c5, c6, c7⟩, e1, e2⟩ := hR1
  have n36 : Int32.toNatClampNeg 36 = 36 := rfl
  have n0 : Int32.toNatClampNeg 0 = 0 := rfl
  refine T_X4_become ⟨c1, q1 + 1, c2, a1, q + 1, a2, c4, a4, ⟨by decide, by decide, by decide, by rw [c5]; decide, by rw [a5]; decide⟩, q1 + 2, c3, q + 2, a3, c6, a6, ⟨by decide, by decide, by decide, by rw [c7]; decide, by rw [a7]; decide⟩, ?_⟩
  rw [n36, n0]
  refine h _ ((jch.row (by omega) (by omega)).trans (jch.row (by omega) (by omega))) ⟨⟨a1, a2, a3, a4, a5, a6, a7⟩, fun i hi => ?_, fun i hi => ?_⟩
  · rw [ji_row_ne _ _ _ (by omega), ji_row_same, va_cpy0 hi]; exact e1 i hi
  · rw [ji_row_same, va_cpy0 hi, ji_row_ne _ _ _ (by omega)]; exact e2 i hi
end jRoads2
end
section
/-! THE LEARNER (class) at l: from at l + 1, rested at l + 2 -/
def LdL (S : jM) (l : Nat) : Prop := jk S l = 1 ∧ jr S l 5 = some (l + 1) ∧ jr S l 6 = some (l + 2) ∧ jk S (l + 1) = 12 ∧ jl S (l + 1) = 10 ∧ jk S (l + 2) = 12 ∧ jl S (l + 2) = 10
def LdR (S : jM) (l : Nat) (at_ kn co fo da : Int32) (fr re : Nat → Int32) : Prop :=
  LdL S l ∧ ji S l 0 = at_ ∧ ji S l 1 = kn ∧ ji S l 2 = co ∧ ji S l 3 = fo ∧ ji S l 4 = da ∧ (∀ i, i < 10 → ji S (l + 1) i = fr i) ∧ ∀ i, i < 10 → ji S (l + 2) i = re i
theorem LdL.same {S S' : jM} {l : Nat} (h : LdL S l) (hs : jsame S S') : LdL S' l := by
  obtain ⟨e1, e2, e3, -⟩ := hs
  unfold LdL
  rw [e1, e2, e3]
  exact h
theorem LdR.keep {S S' : jM} {l lo hi : Nat} {at_ kn co fo da : Int32} {fr re : Nat → Int32} (h : LdR S l at_ kn co fo da fr re) (hc : jch S S' lo hi) (hd : l + 3 ≤ lo ∨ hi ≤ l) : LdR S' l at_ kn co fo da fr re := by
  obtain ⟨h0, h1, h2, h3, h4, h5, h6, h7⟩ := h
  have e := hc.2 l (by omega)
  refine ⟨h0.same hc.1, by rw [e]; exact h1, by rw [e]; exact h2, by rw [e]; exact h3, by rw [e]; exact h4, by rw [e]; exact h5, fun i hi' => ?_, fun i hi' => ?_⟩
  · rw [hc.2 (l + 1) (by omega)]; exact h6 i hi'
  · rw [hc.2 (l + 2) (by omega)]; exact h7 i hi'
/-- days go by: one gesture; all of them -/
abbrev lst : Type := Int32 × (Nat → Int32)
def pone (n fo : Int32) (g : Nat) (p : lst) : lst :=
  if p.1 &&& jshl 1 (nI g) = 0 then p else (if fo = 0 then p.1 else if p.2 g + n ≤ fo then p.1 else p.1 &&& (jshl 1 (nI g) ^^^ (-1)), upd p.2 g (p.2 g + n))
def pdays (n fo : Int32) (p : lst) : lst := jfold (pone n fo) 10 0 p
def jable (kn x : Int32) : Int32 := if jwi x 10 = 0 then 0 else if kn &&& jshl 1 x = 0 then 0 else 1
section jLearner
variable {E : jEnv} {d : Nat} {S : jM} {l : Nat} {at_ kn co fo da : Int32} {fr re : Nat → Int32}
theorem LdR.cong {fr' re' : Nat → Int32} (h : LdR S l at_ kn co fo da fr re) (h1 : ∀ i, i < 10 → fr i = fr' i) (h2 : ∀ i, i < 10 → re i = re' i) : LdR S l at_ kn co fo da fr' re' := by
  obtain ⟨a0, a1, a2, a3, a4, a5, a6, a7⟩ := h
  exact ⟨a0, a1, a2, a3, a4, a5, fun i hi => (a6 i hi).trans (h1 i hi), fun i hi => (a7 i hi).trans (h2 i hi)⟩
theorem LdR.put0 {v : Int32} (h : LdR S l at_ kn co fo da fr re) : LdR (jput S l 0 v) l v kn co fo da fr re := by
  obtain ⟨a0, a1, a2, a3, a4, a5, a6, a7⟩ := h
  refine ⟨a0, ji_put_same _ _ _ _, ?_, ?_, ?_, ?_, fun i hi => ?_, fun i hi => ?_⟩ <;> first | (rw [ji_put]; simpa using ‹_›) | (rw [ji_put_ne _ _ _ _ (by omega)]; first | exact a6 i hi | exact a7 i hi)
theorem LdR.put1 {v : Int32} (h : LdR S l at_ kn co fo da fr re) : LdR (jput S l 1 v) l at_ v co fo da fr re := by
  obtain ⟨a0, a1, a2, a3, a4, a5, a6, a7⟩ := h
  refine ⟨a0, ?_, ji_put_same _ _ _ _, ?_, ?_, ?_, fun i hi => ?_, fun i hi => ?_⟩ <;> first | (rw [ji_put]; simpa using ‹_›) | (rw [ji_put_ne _ _ _ _ (by omega)]; first | exact a6 i hi | exact a7 i hi)
theorem LdR.put2 {v : Int32} (h : LdR S l at_ kn co fo da fr re) : LdR (jput S l 2 v) l at_ kn v fo da fr re := by
  obtain ⟨a0, a1, a2, a3, a4, a5, a6, a7⟩ := h
  refine ⟨a0, ?_, ?_, ji_put_same _ _ _ _, ?_, ?_, fun i hi => ?_, fun i hi => ?_⟩ <;> first | (rw [ji_put]; simpa using ‹_›) | (rw [ji_put_ne _ _ _ _ (by omega)]; first | exact a6 i hi | exact a7 i hi)
theorem LdR.put3 {v : Int32} (h : LdR S l at_ kn co fo da fr re) : LdR (jput S l 3 v) l at_ kn co v da fr re := by
  obtain ⟨a0, a1, a2, a3, a4, a5, a6, a7⟩ := h
  refine ⟨a0, ?_, ?_, ?_, ji_put_same _ _ _ _, ?_, fun i hi => ?_, fun i hi => ?_⟩ <;> first | (rw [ji_put]; simpa using ‹_›) | (rw [ji_put_ne _ _ _ _ (by omega)]; first | exact a6 i hi | exact a7 i hi)
theorem LdR.put4 {v : Int32} (h : LdR S l at_ kn co fo da fr re) : LdR (jput S l 4 v) l at_ kn co fo v fr re := by
  obtain ⟨a0, a1, a2, a3, a4, a5, a6, a7⟩ := h
  refine ⟨a0, ?_, ?_, ?_, ?_, ji_put_same _ _ _ _, fun i hi => ?_, fun i hi => ?_⟩ <;> first | (rw [ji_put]; simpa using ‹_›) | (rw [ji_put_ne _ _ _ _ (by omega)]; first | exact a6 i hi | exact a7 i hi)
theorem LdR.putf {v : Int32} {j : Nat} (h : LdR S l at_ kn co fo da fr re) : LdR (jput S (l + 1) j v) l at_ kn co fo da (upd fr j v) re := by
  obtain ⟨a0, a1, a2, a3, a4, a5, a6, a7⟩ := h
  have e := ji_put_ne S (l + 1) j v (b := l) (by omega)
  refine ⟨a0, by rw [e]; exact a1, by rw [e]; exact a2, by rw [e]; exact a3, by rw [e]; exact a4, by rw [e]; exact a5, fun i hi => ?_, fun i hi => ?_⟩
  · rw [jput_eq, ji_row_same]; exact agr_upd (n := 10) a6 j rfl i hi
  · rw [ji_put_ne _ _ _ _ (by omega)]; exact a7 i hi
theorem LdR.putr {v : Int32} {j : Nat} (h : LdR S l at_ kn co fo da fr re) : LdR (jput S (l + 2) j v) l at_ kn co fo da fr (upd re j v) := by
  obtain ⟨a0, a1, a2, a3, a4, a5, a6, a7⟩ := h
  have e := ji_put_ne S (l + 2) j v (b := l) (by omega)
  refine ⟨a0, by rw [e]; exact a1, by rw [e]; exact a2, by rw [e]; exact a3, by rw [e]; exact a4, by rw [e]; exact a5, fun i hi => ?_, fun i hi => ?_⟩
  · rw [ji_put_ne _ _ _ _ (by omega)]; exact a6 i hi
  · rw [jput_eq, ji_row_same]; exact agr_upd (n := 10) a7 j rfl i hi
theorem c_X1_isAble {Q : Int32 → jM → Prop} {x : Int32} (hk : jk S l = 1) (h : Q (jable (ji S l 1) x) S) : jFi E mX1_isAble (d + 1) 0 0 [.ref l, .int x] S Q := by
  refine T_X1_isAble ?_
  unfold jable at h
  refine ⟨fun c => ?_, fun c => ⟨hk, fun c2 => ?_, fun c2 => ?_⟩⟩ <;> simpa [*] using h
theorem jable_at {g : Nat} (hg : g < 10) (kn : Int32) : jable kn (nI g) = if kn &&& jshl 1 (nI g) = 0 then 0 else 1 := by
  unfold jable
  rw [show (10 : Int32) = nI 10 from rfl, jwi_at hg (by omega), if_neg (by decide)]
theorem c_X1_passDays {Q : jM → Prop} {n : Int32} (hL : LdR S l at_ kn co fo da fr re) (h : ∀ S', jch S S' l (l + 3) → LdR S' l at_ (pdays n fo (kn, re)).1 co fo (jmin 9999 (da + n)) fr (pdays n fo (kn, re)).2 → Q S') : jFv E mX1_passDays (d + 2) 0 0 [.ref l, .int n] S Q := by
  have key : ∀ (k g : Nat) (S1 : jM) (p : lst), g + k = 10 → jch S S1 l (l + 3) → LdR S1 l at_ p.1 co fo (jmin 9999 (da + n)) fr p.2 → jfold (pone n fo) k g p = pdays n fo (kn, re) → L_X1_passDays_18 E (d + 1) Q l n (nI g) S1 := by
    intro k
    induction k with
    | zero =>
      intro g S1 p hg hc hL1 he
      obtain rfl : g = 10 := by omega
      refine T_X1_passDays_18 ⟨fun _ => h S1 hc ?_, fun c => absurd (by decide) c⟩
      rw [← he]; exact hL1
    | succ k ih =>
      intro g S1 p hg hc hL1 he
      obtain ⟨⟨a1, a2, a3, a4, a5, a6, a7⟩, b0, b1, b2, b3, b4, b5, b6⟩ := id hL1
      have he2 : jfold (pone n fo) k (g + 1) (pone n fo g p) = pdays n fo (kn, re) := he
      refine T_X1_passDays_18 ⟨fun c => absurd c (nI_ge (b := 10) (by omega) (by omega)), fun _ => ⟨a1, c_X1_isAble a1 ?_⟩⟩
      rw [b1, jable_at (by omega), nI_1]
      by_cases ck : p.1 &&& jshl 1 (nI g) = 0
      · rw [if_pos ck]
        refine ⟨fun _ => ih (g + 1) S1 p (by omega) hc hL1 ?_, fun c => absurd rfl c⟩
        rw [← he2]; unfold pone; rw [if_pos ck]
      · rw [if_neg ck]
        refine ⟨fun c => absurd c (by decide), fun _ => ⟨a1, l + 2, a3, a6, by rw [a7]; exact jin_nI (by omega) (by omega), ?_⟩⟩
        rw [jcl (by omega), b6 g (by omega), b3]
        have c1 : jch S (jput S1 (l + 2) g (p.2 g + n)) l (l + 3) := hc.trans (jch.put (by omega) (by omega))
        have hL2 := hL1.putr (j := g) (v := p.2 g + n)
        refine ⟨fun c2 => ih (g + 1) _ (p.1, upd p.2 g (p.2 g + n)) (by omega) c1 hL2 ?_, fun c2 => ⟨fun c3 => ih (g + 1) _ (p.1, upd p.2 g (p.2 g + n)) (by omega) c1 hL2 ?_, fun c3 => ih (g + 1) _ (p.1 &&& (jshl 1 (nI g) ^^^ (-1)), upd p.2 g (p.2 g + n)) (by omega) (c1.trans (jch.put (by omega) (by omega))) hL2.put1 ?_⟩⟩
        · rw [← he2]; unfold pone; rw [if_neg ck, if_pos c2]
        · rw [← he2]; unfold pone; rw [if_neg ck, if_neg c2, if_pos c3]
        · rw [← he2]; unfold pone; rw [if_neg ck, if_neg c2, if_neg c3]
  refine T_X1_passDays ⟨hL.1.1, ?_⟩
  rw [hL.2.2.2.2.2.1]
  exact key 10 0 _ (kn, re) (by omega) (jch.put (by omega) (by omega)) hL.put4 rfl
theorem c_X1_practise {Q : Int32 → jM → Prop} {x : Int32} (hL : LdR S l at_ kn co fo da fr re) (h0 : jable kn x = 0 → Q 0 S) (h1 : ∀ g, g < 10 → x = nI g → jable kn x ≠ 0 → ∀ S', jch S S' l (l + 3) → LdR S' l at_ (pdays 1 fo (kn, upd re g 0)).1 co fo (jmin 9999 (da + 1)) fr (pdays 1 fo (kn, upd re g 0)).2 → Q 1 S') : jFi E mX1_practise (d + 3) 0 0 [.ref l, .int x] S Q := by
  obtain ⟨⟨a1, a2, a3, a4, a5, a6, a7⟩, b0, b1, b2, b3, b4, b5, b6⟩ := id hL
  refine T_X1_practise ?_
  rcases jwi_cases x (b := 10) 10 rfl (by omega) with ⟨g, hg, rfl, e⟩ | ⟨hn, e⟩
  · rw [e]
    refine ⟨fun c => absurd c (by decide), fun _ => ⟨a1, c_X1_isAble a1 ?_⟩⟩
    rw [b1]
    refine ⟨fun c => h0 c, fun c => ⟨a1, l + 2, a3, a6, by rw [a7]; exact jin_nI hg (by omega), ?_⟩⟩
    rw [jcl (by omega)]
    exact c_X1_passDays hL.putr (fun S' hc hL' => h1 g hg rfl c S' ((jch.put (by omega) (by omega)).trans hc) hL')
  · rw [e]
    refine ⟨fun _ => h0 (by unfold jable; rw [e, if_pos rfl]), fun c => absurd rfl c⟩
/-- whether it can learn of a master so made -/
def jcan (at_ kn co tk tt tg tb tf td : Int32) : Int32 := if tt = at_ then (if td = 0 then (if jteach tk tb kn = 0 then 0 else if jable kn tg = 0 then (if co < tf then 0 else 1) else 0) else 0) else 0
theorem c_X1_canLearnOf {Q : Int32 → jM → Prop} {t : Nat} (hL : LdR S l at_ kn co fo da fr re) (ht : jk S t = 2) (h : Q (jcan at_ kn co (ji S t 0) (ji S t 1) (ji S t 2) (ji S t 3) (ji S t 4) (ji S t 6)) S) : jFi E mX1_canLearnOf (d + 2) 0 0 [.ref l, .ref t] S Q := by
  obtain ⟨⟨a1, a2, a3, a4, a5, a6, a7⟩, b0, b1, b2, b3, b4, b5, b6⟩ := id hL
  unfold jcan at h
  refine T_X1_canLearnOf ⟨ht, a1, ?_⟩
  rw [b0, b1]
  refine ⟨fun c => ⟨fun c2 => c_X2_teaches ht ⟨fun c3 => ?_, fun c3 => ⟨ht, a1, c_X1_isAble a1 ?_⟩⟩, fun c2 => ?_⟩, fun c => ?_⟩
  · simpa [*] using h
  · rw [b1]
    refine ⟨fun c4 => ⟨ht, a1, ?_⟩, fun c4 => ?_⟩
    · rw [b2]
      refine ⟨fun c5 => ?_, fun c5 => ?_⟩ <;> simpa [*] using h
    · simpa [*] using h
  · simpa [*] using h
  · simpa [*] using h
/-- what it knows, from whom, since when, behind a lesson of so many days -/
theorem c_X1_learnOf {Q : jM → Prop} {t g : Nat} {x n : Int32} (hL : LdR S l at_ kn co fo da fr re) (ht : jk S t = 2) (htl : t + 1 ≤ l ∨ l + 3 ≤ t) (hg : g < 10) (htg : ji S t 2 = nI g)
    (h : ∀ S', jch S S' l (l + 3) → LdR S' l at_ (((pdays n fo (kn, re)).1 &&& (junl (ji S t 0) (ji S t 3) ^^^ (-1))) ||| jshl 1 (nI g)) (co - ji S t 4) fo (jmin 9999 (da + n)) (upd fr g x) (upd (pdays n fo (kn, re)).2 g 0) → Q S') : jFv E mX1_learnOf (d + 3) 0 0 [.ref l, .int x, .ref t, .int n] S Q := by
  obtain ⟨⟨a1, a2, a3, a4, a5, a6, a7⟩, b0, b1, b2, b3, b4, b5, b6⟩ := id hL
  refine T_X1_learnOf ⟨a1, ht, ?_⟩
  rw [b2]
  refine c_X1_passDays hL.put2 (fun S3 hc hL3 => ?_)
  have hc0 : jch S S3 l (l + 3) := (jch.put (by omega) (by omega)).trans hc
  obtain ⟨⟨f1, f2, f3, f4, f5, f6, f7⟩, g0, g1, g2, g3, g4, g5, g6⟩ := id hL3
  have hsk : jk S3 = jk S := hc0.1.1
  have hst : ji S3 t = ji S t := hc0.2 t (by omega)
  have ht3 : jk S3 t = 2 := by rw [hsk]; exact ht
  refine ⟨f1, ht3, c_X2_unlearnt ht3 ⟨f1, ht3, ?_⟩⟩
  rw [hst, htg, show (10 : Int32) = nI 10 from rfl, jwi_at hg (by omega), g1]
  refine ⟨fun c => absurd c (by decide), fun _ => ⟨l + 1, f2, f4, by rw [f5]; exact jin_nI hg (by omega), l + 2, f3, f6, by rw [f7]; exact jin_nI hg (by omega), ?_⟩⟩
  rw [jcl (by omega)]
  exact h _ ((((hc0.trans (jch.put (by omega) (by omega))).trans (jch.put (by omega) (by omega))).trans (jch.put (by omega) (by omega))).trans (jch.put (by omega) (by omega))) (hL3.put1.put1.putf.putr)
theorem c_X1_become {Q : jM → Prop} {l1 : Nat} {at1 kn1 co1 fo1 da1 : Int32} {fr1 re1 : Nat → Int32} (hL : LdR S l at_ kn co fo da fr re) (hL1 : LdR S l1 at1 kn1 co1 fo1 da1 fr1 re1) (hne : l + 3 ≤ l1 ∨ l1 + 3 ≤ l) (h : ∀ S', jch S S' l (l + 3) → LdR S' l at1 kn1 co1 fo1 da1 fr1 re1 → Q S') : jFv E mX1_become (d + 1) 0 0 [.ref l, .ref l1] S Q := by
  obtain ⟨⟨a1, a2, a3, a4, a5, a6, a7⟩, b0, b1, b2, b3, b4, b5, b6⟩ := id hL
  obtain ⟨⟨c1, c2, c3, c4, c5, c6, c7⟩, e0, e1, e2, e3, e4, e5, e6⟩ := id hL1
  have n10 : Int32.toNatClampNeg 10 = 10 := rfl
  have n0 : Int32.toNatClampNeg 0 = 0 := rfl
  have hA := hL.put0 (v := at1)
  have hA := hA.put1 (v := kn1)
  have hA := hA.put2 (v := co1)
  have hA := hA.put3 (v := fo1)
  have hA := hA.put4 (v := da1)
  refine T_X1_become ⟨c1, a1, l1 + 1, c2, l + 1, a2, c4, a4, ⟨by decide, by decide, by decide, by rw [c5]; decide, by rw [a5]; decide⟩, l1 + 2, c3, l + 2, a3, c6, a6, ⟨by decide, by decide, by decide, by rw [c7]; decide, by rw [a7]; decide⟩, ?_⟩
  rw [n10, n0, e0, e1, e2, e3, e4]
  obtain ⟨p0, p1, p2, p3, p4, p5, p6, p7⟩ := hA
  refine h _ ?_ ⟨p0, ?_, ?_, ?_, ?_, ?_, fun i hi => ?_, fun i hi => ?_⟩
  · exact ((((((jch.put (by omega) (by omega)).trans (jch.put (by omega) (by omega))).trans (jch.put (by omega) (by omega))).trans (jch.put (by omega) (by omega))).trans (jch.put (by omega) (by omega))).trans (jch.row (by omega) (by omega))).trans (jch.row (by omega) (by omega))
  · rw [ji_row_ne _ _ _ (by omega), ji_row_ne _ _ _ (by omega)]; exact p1
  · rw [ji_row_ne _ _ _ (by omega), ji_row_ne _ _ _ (by omega)]; exact p2
  · rw [ji_row_ne _ _ _ (by omega), ji_row_ne _ _ _ (by omega)]; exact p3
  · rw [ji_row_ne _ _ _ (by omega), ji_row_ne _ _ _ (by omega)]; exact p4
  · rw [ji_row_ne _ _ _ (by omega), ji_row_ne _ _ _ (by omega)]; exact p5
  · rw [ji_row_ne _ _ _ (by omega), ji_row_same, va_cpy0 hi, ji_put_ne _ _ _ _ (by omega), ji_put_ne _ _ _ _ (by omega), ji_put_ne _ _ _ _ (by omega), ji_put_ne _ _ _ _ (by omega), ji_put_ne _ _ _ _ (by omega)]; exact e5 i hi
  · rw [ji_row_same, va_cpy0 hi, ji_row_ne _ _ _ (by omega), ji_put_ne _ _ _ _ (by omega), ji_put_ne _ _ _ _ (by omega), ji_put_ne _ _ _ _ (by omega), ji_put_ne _ _ _ _ (by omega), ji_put_ne _ _ _ _ (by omega)]; exact e6 i hi
end jLearner
end
section
/-! THE REALM (class) at r, by a row of numbers v as the reference lays it: 0 size, 1 texts, 2 day, 3 at, 4 knows, 5 coins, 6 forgets, 7 wishes, 8 z, 9.. wished, 16.. from, 26.. rested, 36.. days, 72.. masters -/
def mfv (v : Nat → Int32) (i f : Nat) : Int32 := v (72 + 7 * i + f)
def RmL (S : jM) (r : Nat) : Prop := jk S r = 3 ∧ jr S r 0 = some (r + 1) ∧ jr S r 1 = some (r + 12) ∧ jr S r 2 = some (r + 15) ∧ jr S r 3 = some (r + 18) ∧ jr S r 5 = some (r + 19) ∧ jk S (r + 18) = 12 ∧ jl S (r + 18) = 6 ∧ jk S (r + 19) = 16 ∧ jl S (r + 19) = 14
def vfar (v : Nat → Int32) : Nat → Int32 := wfar (fun i => v (36 + i)) (fun _ => 0)
def RmR (S : jM) (r sz : Nat) (v : Nat → Int32) : Prop :=
  RmL S r ∧ sz ≤ 9 ∧ v 0 = nI sz ∧ GR S (r + 1) sz (v 8) (mfv v) ∧ RdR S (r + 12) (fun i => v (36 + i)) (vfar v) ∧ LdR S (r + 15) (v 3) (v 4) (v 5) (v 6) (v 2) (fun i => v (16 + i)) (fun i => v (26 + i)) ∧ ji S r 4 = v 7 ∧ (∀ i, i < 6 → ji S (r + 18) i = v (9 + i)) ∧ ji S r 6 = v 1
theorem RmL.same {S S' : jM} {r : Nat} (h : RmL S r) (hs : jsame S S') : RmL S' r := by
  obtain ⟨e1, e2, e3, -⟩ := hs
  unfold RmL
  rw [e1, e2, e3]
  exact h
theorem RmR.keep {S S' : jM} {r sz lo hi : Nat} {v : Nat → Int32} (h : RmR S r sz v) (hc : jch S S' lo hi) (hd : r + 19 ≤ lo ∨ hi ≤ r) : RmR S' r sz v := by
  obtain ⟨h0, h1, h2, h3, h4, h5, h6, h7, h8⟩ := h
  refine ⟨h0.same hc.1, h1, h2, h3.keep hc (by omega), h4.keep hc (by omega), h5.keep hc (by omega), ?_, fun i hi' => ?_, ?_⟩
  · rw [hc.2 r (by omega)]; exact h6
  · rw [hc.2 (r + 18) (by omega)]; exact h7 i hi'
  · rw [hc.2 r (by omega)]; exact h8
theorem RdR.cong {S : jM} {q : Nat} {v v' : Nat → Int32} (h : RdR S q (fun i => v (36 + i)) (vfar v)) (he : ∀ i, i < 36 → v' (36 + i) = v (36 + i)) : RdR S q (fun i => v' (36 + i)) (vfar v') :=
  ⟨h.1, fun i hi => (h.2.1 i hi).trans (he i hi).symm, fun i hi => (h.2.2 i hi).trans (wfar_agr (fun j hj => (he j hj).symm) i hi)⟩
/-- the guild alone changes -/
theorem RmR.guild {S S' : jM} {r sz sz' : Nat} {v v' : Nat → Int32} (h : RmR S r sz v) (hc : jch S S' (r + 1) (r + 12)) (hg : GR S' (r + 1) sz' (v' 8) (mfv v')) (hz : sz' ≤ 9) (h0 : v' 0 = nI sz') (he : ∀ j, j ≠ 0 → j ≠ 8 → (j < 72 ∨ 135 ≤ j) → v' j = v j) : RmR S' r sz' v' := by
  obtain ⟨a0, a1, a2, a3, a4, a5, a6, a7, a8⟩ := h
  refine ⟨a0.same hc.1, hz, h0, hg, ?_, ?_, ?_, fun i hi => ?_, ?_⟩
  · exact (a4.keep hc (by omega)).cong (fun i hi => he _ (by omega) (by omega) (by omega))
  · rw [he 3 (by omega) (by omega) (by omega), he 4 (by omega) (by omega) (by omega), he 5 (by omega) (by omega) (by omega), he 6 (by omega) (by omega) (by omega), he 2 (by omega) (by omega) (by omega)]
    exact (a5.keep hc (by omega)).cong (fun i hi => (he _ (by omega) (by omega) (by omega)).symm) (fun i hi => (he _ (by omega) (by omega) (by omega)).symm)
  · rw [hc.2 r (by omega), he 7 (by omega) (by omega) (by omega)]; exact a6
  · rw [hc.2 (r + 18) (by omega), he _ (by omega) (by omega) (by omega)]; exact a7 i hi
  · rw [hc.2 r (by omega), he 1 (by omega) (by omega) (by omega)]; exact a8
/-- the learner alone changes -/
theorem RmR.learner {S S' : jM} {r sz : Nat} {v v' : Nat → Int32} (h : RmR S r sz v) (hc : jch S S' (r + 15) (r + 18)) (hl : LdR S' (r + 15) (v' 3) (v' 4) (v' 5) (v' 6) (v' 2) (fun i => v' (16 + i)) (fun i => v' (26 + i))) (he : ∀ j, (j < 2 ∨ 7 ≤ j) → (j < 16 ∨ 36 ≤ j) → v' j = v j) : RmR S' r sz v' := by
  obtain ⟨a0, a1, a2, a3, a4, a5, a6, a7, a8⟩ := h
  refine ⟨a0.same hc.1, a1, by rw [he 0 (by omega) (by omega)]; exact a2, ?_, ?_, hl, ?_, fun i hi => ?_, ?_⟩
  · rw [he 8 (by omega) (by omega)]
    exact (a3.keep hc (by omega)).cong (fun i hi f hf => (he _ (by omega) (by omega)).symm)
  · exact (a4.keep hc (by omega)).cong (fun i hi => he _ (by omega) (by omega))
  · rw [hc.2 r (by omega), he 7 (by omega) (by omega)]; exact a6
  · rw [hc.2 (r + 18) (by omega), he _ (by omega) (by omega)]; exact a7 i hi
  · rw [hc.2 r (by omega), he 1 (by omega) (by omega)]; exact a8
/-- the roads alone change -/
theorem RmR.roads {S S' : jM} {r sz : Nat} {v v' : Nat → Int32} (h : RmR S r sz v) (hc : jch S S' (r + 12) (r + 15)) (hl : RdR S' (r + 12) (fun i => v' (36 + i)) (vfar v')) (he : ∀ j, (j < 36 ∨ 72 ≤ j) → v' j = v j) : RmR S' r sz v' := by
  obtain ⟨a0, a1, a2, a3, a4, a5, a6, a7, a8⟩ := h
  refine ⟨a0.same hc.1, a1, by rw [he 0 (by omega)]; exact a2, ?_, hl, ?_, ?_, fun i hi => ?_, ?_⟩
  · rw [he 8 (by omega)]
    exact (a3.keep hc (by omega)).cong (fun i hi f hf => (he _ (by omega)).symm)
  · rw [he 3 (by omega), he 4 (by omega), he 5 (by omega), he 6 (by omega), he 2 (by omega)]
    exact (a5.keep hc (by omega)).cong (fun i hi => (he _ (by omega)).symm) (fun i hi => (he _ (by omega)).symm)
  · rw [hc.2 r (by omega), he 7 (by omega)]; exact a6
  · rw [hc.2 (r + 18) (by omega), he _ (by omega)]; exact a7 i hi
  · rw [hc.2 r (by omega), he 1 (by omega)]; exact a8
/-- one place of the row is otherwise -/
theorem mset_upd {v : Nat → Int32} {i f : Nat} {x : Int32} (hi : i < 9) (hf : f < 7) : ∀ a, a < 9 → ∀ b, b < 7 → mset (mfv v) i f x a b = mfv (upd v (72 + 7 * i + f) x) a b := by
  intro a ha b hb
  unfold mset mfv upd
  by_cases hc : a = i ∧ b = f
  · rw [if_pos hc, if_pos (by omega)]
  · rw [if_neg hc, if_neg (by omega)]
/-- a master comes -/
def vjoin (v : Nat → Int32) (sz : Nat) (w : Nat → Int32) : Nat → Int32 := fun j => if j = 0 then nI (sz + 1) else if 72 + 7 * sz ≤ j ∧ j < 72 + 7 * sz + 7 then w (j - (72 + 7 * sz)) else v j
theorem mall_join {v w : Nat → Int32} {sz : Nat} (hs : sz < 9) : ∀ a, a < 9 → ∀ b, b < 7 → mall (mfv v) sz w a b = mfv (vjoin v sz w) a b := by
  intro a ha b hb
  unfold mall mfv vjoin
  by_cases hc : a = sz
  · subst hc
    rw [if_pos rfl, if_neg (c := 72 + 7 * a + b = 0) (by omega), if_pos (c := 72 + 7 * a ≤ 72 + 7 * a + b ∧ 72 + 7 * a + b < 72 + 7 * a + 7) (by omega)]
    congr 1
    omega
  · rw [if_neg hc, if_neg (c := 72 + 7 * a + b = 0) (by omega), if_neg (by omega)]
section jRealm
variable {E : jEnv} {d : Nat} {S : jM} {x sz : Nat} {v : Nat → Int32}
/-- the object and its realm -/
def XR (S : jM) (x sz : Nat) (v : Nat → Int32) : Prop := jk S x = 10 ∧ jr S x 0 = some (x + 1) ∧ RmR S (x + 1) sz v
theorem XR.g (h : XR S x sz v) : GR S (x + 2) sz (v 8) (mfv v) := h.2.2.2.2.2.1
theorem XR.l (h : XR S x sz v) : LdR S (x + 16) (v 3) (v 4) (v 5) (v 6) (v 2) (fun i => v (16 + i)) (fun i => v (26 + i)) := h.2.2.2.2.2.2.2.1
theorem XR.q (h : XR S x sz v) : RdR S (x + 13) (fun i => v (36 + i)) (vfar v) := h.2.2.2.2.2.2.1
theorem XR.k3 (h : XR S x sz v) : jk S (x + 1) = 3 := h.2.2.1.1
theorem XR.r0 (h : XR S x sz v) : jr S (x + 1) 0 = some (x + 2) := h.2.2.1.2.1
theorem XR.r1 (h : XR S x sz v) : jr S (x + 1) 1 = some (x + 13) := h.2.2.1.2.2.1
theorem XR.r2 (h : XR S x sz v) : jr S (x + 1) 2 = some (x + 16) := h.2.2.1.2.2.2.1
theorem XR.sz9 (h : XR S x sz v) : sz ≤ 9 := h.2.2.2.1
theorem XR.v0 (h : XR S x sz v) : v 0 = nI sz := h.2.2.2.2.1
theorem XR.of {S' : jM} {sz' : Nat} {v' : Nat → Int32} (h : XR S x sz v) (hs : jsame S S') (hr : RmR S' (x + 1) sz' v') : XR S' x sz' v' := ⟨by rw [hs.1]; exact h.1, by rw [hs.2.2.1]; exact h.2.1, hr⟩
/-- the constants -/
abbrev kBAD : Int32 := -1000000001
abbrev kNO : Int32 := -1000000002
abbrev kFULL : Int32 := -1000000003
abbrev kNONE : Int32 := -1000000005
abbrev kNOTHING : Int32 := -1000000011
abbrev kKIND : Int32 := -1000000012
theorem C_master {Q : Int32 → jM → Prop} {k t g f : Int32} (hX : XR S x sz v) (h1 : (jwi k 6 = 0 ∨ jwi t 6 = 0 ∨ jwi g 10 = 0 ∨ jwi f 100 = 0) → Q kBAD S) (h2 : jwi k 6 ≠ 0 → jwi t 6 ≠ 0 → jwi g 10 ≠ 0 → jwi f 100 ≠ 0 → sz = 9 → Q kFULL S)
    (h3 : jwi k 6 ≠ 0 → jwi t 6 ≠ 0 → jwi g 10 ≠ 0 → jwi f 100 ≠ 0 → sz < 9 → ∀ S', jch S S' (x + 2) (x + 13) → XR S' x (sz + 1) (vjoin v sz (mnew k t g f)) → Q (nI sz) S') : jFi E mX10_master (d + 2) 0 0 [.ref x, .int k, .int t, .int g, .int f] S Q := by
  refine T_X10_master ⟨fun c => h1 (Or.inl c), fun c1 => ⟨fun c => h1 (Or.inr (Or.inl c)), fun c2 => ⟨fun c => h1 (Or.inr (Or.inr (Or.inl c))), fun c3 => ⟨fun c => h1 (Or.inr (Or.inr (Or.inr c))), fun c4 => ?_⟩⟩⟩⟩
  refine ⟨hX.1, x + 1, hX.2.1, hX.k3, x + 2, hX.r0, hX.g.1.1, c_X0_join hX.g hX.sz9 (fun hz => ?_) (fun hz S' hc hg => ?_)⟩
  · exact ⟨fun _ => h2 c1 c2 c3 c4 hz, fun c => absurd rfl c⟩
  · refine ⟨fun c => absurd c (by decide), fun _ => ?_⟩
    rw [hX.g.2.1]
    have hr : RmR S' (x + 1) (sz + 1) (vjoin v sz (mnew k t g f)) := by
      refine hX.2.2.guild (hc.wide (by omega) (by omega)) ?_ (by omega) (by simp [vjoin]) (fun j h0 h8 hj => ?_)
      · have e8 : vjoin v sz (mnew k t g f) 8 = v 8 := by unfold vjoin; rw [if_neg (by omega), if_neg (by omega)]
        rw [e8]
        exact hg.cong (mall_join hz)
      · unfold vjoin
        rw [if_neg h0, if_neg (by omega)]
    exact h3 c1 c2 c3 c4 hz S' (hc.wide (by omega) (by omega)) (hX.of hc.1 hr)
end jRealm
end
section
/-! CONSTRUCTORS: cells that come, cells that stay -/
def jcs (S S' : jM) (y : Nat) : Prop := jk S' y = jk S y ∧ jl S' y = jl S y ∧ ji S' y = ji S y ∧ jr S' y = jr S y
theorem jcs.rfl {S : jM} {y : Nat} : jcs S S y := ⟨_root_.rfl, _root_.rfl, _root_.rfl, _root_.rfl⟩
theorem jcs.trans {S S1 S2 : jM} {y : Nat} (h1 : jcs S S1 y) (h2 : jcs S1 S2 y) : jcs S S2 y := ⟨h2.1.trans h1.1, h2.2.1.trans h1.2.1, h2.2.2.1.trans h1.2.2.1, h2.2.2.2.trans h1.2.2.2⟩
theorem jcs.new {S : jM} {k n y : Nat} (h : y ≠ jn S) : jcs S (jnew S k n) y := ⟨by rw [jk_newE, if_neg h], by rw [jl_newE, if_neg h], by rw [ji_newE, if_neg h], by rw [jr_newE, if_neg h]⟩
theorem jcs.putr {S : jM} {a j y : Nat} {v : Option Nat} (h : y ≠ a) : jcs S (jputr S a j v) y := ⟨_root_.rfl, _root_.rfl, _root_.rfl, by funext i; rw [jr_putr, if_neg (fun c => h c.1)]⟩
theorem jcs.put {S : jM} {a j y : Nat} {v : Int32} (h : y ≠ a) : jcs S (jput S a j v) y := ⟨_root_.rfl, _root_.rfl, ji_put_ne _ _ _ _ h, _root_.rfl⟩
theorem jcs.ch {S S' : jM} {lo hi y : Nat} (h : jch S S' lo hi) (hy : y < lo ∨ hi ≤ y) : jcs S S' y := ⟨by rw [h.1.1], by rw [h.1.2.1], h.2 y hy, by rw [h.1.2.2.1]⟩
theorem GR.grow {S S' : jM} {g sz : Nat} {z : Int32} {mf : Nat → Nat → Int32} (h : GR S g sz z mf) (hc : ∀ y, g ≤ y → y < g + 11 → jcs S S' y) : GR S' g sz z mf := by
  obtain ⟨⟨k1, k2, k3, k4, k5⟩, h2, h3, h4⟩ := h
  have c0 := hc g (by omega) (by omega)
  have c1 := hc (g + 1) (by omega) (by omega)
  refine ⟨⟨by rw [c0.1]; exact k1, by rw [c0.2.2.2]; exact k2, by rw [c1.1]; exact k3, by rw [c1.2.1]; exact k4, fun i hi => ?_⟩, by rw [c0.2.2.1]; exact h2, by rw [c0.2.2.1]; exact h3, fun i hi f hf => ?_⟩
  · have c2 := hc (g + 2 + i) (by omega) (by omega)
    exact ⟨by rw [c1.2.2.2]; exact (k5 i hi).1, by rw [c2.1]; exact (k5 i hi).2⟩
  · rw [(hc (g + 2 + i) (by omega) (by omega)).2.2.1]; exact h4 i hi f hf
theorem RdR.grow {S S' : jM} {q : Nat} {dy wy : Nat → Int32} (h : RdR S q dy wy) (hc : ∀ y, q ≤ y → y < q + 3 → jcs S S' y) : RdR S' q dy wy := by
  obtain ⟨⟨a1, a2, a3, a4, a5, a6, a7⟩, b1, b2⟩ := h
  have c0 := hc q (by omega) (by omega)
  have c1 := hc (q + 1) (by omega) (by omega)
  have c2 := hc (q + 2) (by omega) (by omega)
  exact ⟨⟨by rw [c0.1]; exact a1, by rw [c0.2.2.2]; exact a2, by rw [c0.2.2.2]; exact a3, by rw [c1.1]; exact a4, by rw [c1.2.1]; exact a5, by rw [c2.1]; exact a6, by rw [c2.2.1]; exact a7⟩, fun i hi => by rw [c1.2.2.1]; exact b1 i hi, fun i hi => by rw [c2.2.2.1]; exact b2 i hi⟩
theorem LdR.grow {S S' : jM} {l : Nat} {at_ kn co fo da : Int32} {fr re : Nat → Int32} (h : LdR S l at_ kn co fo da fr re) (hc : ∀ y, l ≤ y → y < l + 3 → jcs S S' y) : LdR S' l at_ kn co fo da fr re := by
  obtain ⟨⟨a1, a2, a3, a4, a5, a6, a7⟩, b0, b1, b2, b3, b4, b5, b6⟩ := h
  have c0 := hc l (by omega) (by omega)
  have c1 := hc (l + 1) (by omega) (by omega)
  have c2 := hc (l + 2) (by omega) (by omega)
  exact ⟨⟨by rw [c0.1]; exact a1, by rw [c0.2.2.2]; exact a2, by rw [c0.2.2.2]; exact a3, by rw [c1.1]; exact a4, by rw [c1.2.1]; exact a5, by rw [c2.1]; exact a6, by rw [c2.2.1]; exact a7⟩, by rw [c0.2.2.1]; exact b0, by rw [c0.2.2.1]; exact b1, by rw [c0.2.2.1]; exact b2, by rw [c0.2.2.1]; exact b3, by rw [c0.2.2.1]; exact b4, fun i hi => by rw [c1.2.2.1]; exact b5 i hi, fun i hi => by rw [c2.2.2.1]; exact b6 i hi⟩
theorem RmR.grow {S S' : jM} {r sz : Nat} {v : Nat → Int32} (h : RmR S r sz v) (hc : ∀ y, r ≤ y → y < r + 20 → jcs S S' y) : RmR S' r sz v := by
  obtain ⟨⟨k1, k2, k3, k4, k5, k6, k7, k8, k9, k10⟩, a1, a2, a3, a4, a5, a6, a7, a8⟩ := h
  have c0 := hc r (by omega) (by omega)
  have c1 := hc (r + 18) (by omega) (by omega)
  have c2 := hc (r + 19) (by omega) (by omega)
  refine ⟨⟨by rw [c0.1]; exact k1, by rw [c0.2.2.2]; exact k2, by rw [c0.2.2.2]; exact k3, by rw [c0.2.2.2]; exact k4, by rw [c0.2.2.2]; exact k5, by rw [c0.2.2.2]; exact k6, by rw [c1.1]; exact k7, by rw [c1.2.1]; exact k8, by rw [c2.1]; exact k9, by rw [c2.2.1]; exact k10⟩, a1, a2, a3.grow (fun y h1 h2 => hc y (by omega) (by omega)), a4.grow (fun y h1 h2 => hc y (by omega) (by omega)), a5.grow (fun y h1 h2 => hc y (by omega) (by omega)), by rw [c0.2.2.1]; exact a6, fun i hi => by rw [c1.2.2.1]; exact a7 i hi, by rw [c0.2.2.1]; exact a8⟩
/-- rows of ints that a constructor makes one behind the other, for its fields -/
def JA (a : Nat) (S : jM) (p : Nat × Nat) : jM := jputr (jnew S 12 p.2) a p.1 (some (jn S))
def JAs (a : Nat) (S : jM) (l : List (Nat × Nat)) : jM := l.foldl (JA a) S
def VA (a kd : Nat) (K : jM → Prop) : List (Nat × Nat) → jM → Prop
  | [], S => K S
  | p :: l, S => ∀ q, q = jn S → jk (jnew S 12 p.2) a = kd ∧ VA a kd K l (jputr (jnew S 12 p.2) a p.1 (some q))
theorem VA_of {a kd : Nat} {K : jM → Prop} : ∀ (l : List (Nat × Nat)) (S : jM), jk S a = kd → a < jn S → K (JAs a S l) → VA a kd K l S
  | [], S, _, _, h => h
  | p :: l, S, hk, ha, h => by
    intro q hq
    subst hq
    have hk2 : jk (jnew S 12 p.2) a = kd := by rw [jk_newE, if_neg (by omega)]; exact hk
    exact ⟨hk2, VA_of l _ hk2 (by show a < jn S + 1; omega) h⟩
theorem JAs_cons (a : Nat) (S : jM) (p : Nat × Nat) (l : List (Nat × Nat)) : JAs a S (p :: l) = JAs a (JA a S p) l := rfl
theorem JAs_n (a : Nat) : ∀ (l : List (Nat × Nat)) (S : jM), jn (JAs a S l) = jn S + l.length
  | [], S => rfl
  | p :: l, S => by rw [JAs_cons, JAs_n a l]; show jn S + 1 + l.length = _; simp; omega
theorem JAs_keep (a : Nat) : ∀ (l : List (Nat × Nat)) (S : jM) (y : Nat), y < jn S → y ≠ a → jcs S (JAs a S l) y
  | [], S, y, _, _ => jcs.rfl
  | p :: l, S, y, h1, h2 => by
    rw [JAs_cons]
    exact ((jcs.new (by omega)).trans (jcs.putr h2)).trans (JAs_keep a l (JA a S p) y (by show y < jn S + 1; omega) h2)
theorem JAs_a (a : Nat) : ∀ (l : List (Nat × Nat)) (S : jM), a < jn S → jk (JAs a S l) a = jk S a ∧ jl (JAs a S l) a = jl S a ∧ ji (JAs a S l) a = ji S a ∧ ∀ j, (∀ p ∈ l, p.1 ≠ j) → jr (JAs a S l) a j = jr S a j
  | [], S, _ => ⟨rfl, rfl, rfl, fun _ _ => rfl⟩
  | p :: l, S, ha => by
    rw [JAs_cons]
    obtain ⟨h1, h2, h3, h4⟩ := JAs_a a l (JA a S p) (by show a < jn S + 1; omega)
    have hn : a ≠ jn S := by omega
    refine ⟨h1.trans ?_, h2.trans ?_, h3.trans ?_, fun j hj => (h4 j (fun q hq => hj q (List.mem_cons_of_mem _ hq))).trans ?_⟩
    · show jk (jnew S 12 p.2) a = _; rw [jk_newE, if_neg hn]
    · show jl (jnew S 12 p.2) a = _; rw [jl_newE, if_neg hn]
    · show ji (jnew S 12 p.2) a = _; rw [ji_newE, if_neg hn]
    · have hp : p.1 ≠ j := hj p List.mem_cons_self
      show jr (jputr (jnew S 12 p.2) a p.1 (some (jn S))) a j = _
      rw [jr_putr, if_neg (fun c => hp c.2.symm), jr_newE, if_neg hn]
theorem JAs_at (a : Nat) : ∀ (l : List (Nat × Nat)) (S : jM) (k : Nat) (p : Nat × Nat), a < jn S → l[k]? = some p → jk (JAs a S l) (jn S + k) = 12 ∧ jl (JAs a S l) (jn S + k) = p.2 ∧ ji (JAs a S l) (jn S + k) = (fun _ => 0)
  | [], S, k, p, _, h => by simp at h
  | q :: l, S, k, p, ha, h => by
    rw [JAs_cons]
    cases k with
    | zero =>
      obtain rfl : q = p := by simpa using h
      have hc := JAs_keep a l (JA a S q) (jn S) (by show jn S < jn S + 1; omega) (by omega)
      refine ⟨hc.1.trans ?_, hc.2.1.trans ?_, hc.2.2.1.trans ?_⟩
      · show jk (jnew S 12 q.2) (jn S) = 12; rw [jk_newE, if_pos rfl]
      · show jl (jnew S 12 q.2) (jn S) = q.2; rw [jl_newE, if_pos rfl]
      · show ji (jnew S 12 q.2) (jn S) = _; rw [ji_newE, if_pos rfl]
    | succ k =>
      have h2 := JAs_at a l (JA a S q) k p (by show a < jn S + 1; omega) (by simpa using h)
      have e : jn (JA a S q) + k = jn S + (k + 1) := by show jn S + 1 + k = _; omega
      rw [e] at h2
      exact h2
theorem JAs_ref (a : Nat) : ∀ (l : List (Nat × Nat)) (S : jM) (k : Nat) (p : Nat × Nat), a < jn S → (l.map Prod.fst).Nodup → l[k]? = some p → jr (JAs a S l) a p.1 = some (jn S + k)
  | [], S, k, p, _, _, h => by simp at h
  | q :: l, S, k, p, ha, hd, h => by
    rw [JAs_cons]
    have hd2 := List.nodup_cons.mp hd
    cases k with
    | zero =>
      obtain rfl : q = p := by simpa using h
      rw [(JAs_a a l (JA a S q) (by show a < jn S + 1; omega)).2.2.2 q.1 (fun r hr e => hd2.1 (by rw [← e]; exact List.mem_map_of_mem hr))]
      show jr (jputr (jnew S 12 q.2) a q.1 (some (jn S))) a q.1 = _
      rw [jr_putr, if_pos ⟨rfl, rfl⟩]
      rfl
    | succ k =>
      have h2 := JAs_ref a l (JA a S q) k p (by show a < jn S + 1; omega) hd2.2 (by simpa using h)
      have e : jn (JA a S q) + k = jn S + (k + 1) := by show jn S + 1 + k = _; omega
      rw [e] at h2
      exact h2
end
section
/-! CONSTRUCTORS of the class's parts; each object's cells stand right behind it -/
def ShL (S : jM) (a p : Nat) : Prop := jk S a = 6 ∧ jr S a 2 = some p ∧ jk S p = 12 ∧ jl S p = 24
/-- a sheet at a with its row at p: sort, size, places -/
def ShR (S : jM) (a p : Nat) (so si : Int32) (pl : Nat → Int32) : Prop := ShL S a p ∧ ji S a 0 = so ∧ ji S a 1 = si ∧ ∀ i, i < 24 → ji S p i = pl i
theorem ShR.grow {S S' : jM} {a p : Nat} {so si : Int32} {pl : Nat → Int32} (h : ShR S a p so si pl) (c0 : jcs S S' a) (c1 : jcs S S' p) : ShR S' a p so si pl := by
  obtain ⟨⟨a1, a2, a3, a4⟩, b1, b2, b3⟩ := h
  exact ⟨⟨by rw [c0.1]; exact a1, by rw [c0.2.2.2]; exact a2, by rw [c1.1]; exact a3, by rw [c1.2.1]; exact a4⟩, by rw [c0.2.2.1]; exact b1, by rw [c0.2.2.1]; exact b2, fun i hi => by rw [c1.2.2.1]; exact b3 i hi⟩
section jCons
variable {E : jEnv} {d : Nat} {S : jM}
theorem c_X2_init {Q : jM → Prop} {a : Nat} (h : Q S) : jFv E mX2_init (d + 1) 0 0 [.ref a] S Q := T_X2_init h
theorem c_X6_init {Q : jM → Prop} {a : Nat} (hk : jk S a = 6) (ha : a < jn S) (h1 : ji S a 1 = 0) (h : ∀ S', jn S' = jn S + 1 → (∀ y, y < jn S → y ≠ a → jcs S S' y) → ShR S' a (jn S) (-1) 0 (fun _ => 0) → Q S') : jFv E mX6_init (d + 1) 1 24 [.ref a] S Q := by
  refine T_X6_init ⟨hk, ?_⟩
  refine VA_of (a := a) (kd := 6) (K := Q) [(2, 24)] (jput S a 0 (-1)) hk ha ?_
  obtain ⟨a1, a2, a3, a4⟩ := JAs_a a [(2, 24)] (jput S a 0 (-1)) ha
  obtain ⟨b1, b2, b3⟩ := JAs_at a [(2, 24)] (jput S a 0 (-1)) 0 (2, 24) ha rfl
  refine h _ (JAs_n a _ _) (fun y hy hya => (jcs.put hya).trans (JAs_keep a _ _ y hy hya)) ⟨⟨a1.trans hk, JAs_ref a _ _ 0 (2, 24) ha (by decide) rfl, b1, b2⟩, ?_, ?_, fun i _ => ?_⟩
  · rw [a3]; exact ji_put_same _ _ _ _
  · rw [a3, ji_put]; simpa using h1
  · exact congrFun b3 i
theorem c_X4_init {Q : jM → Prop} {q : Nat} (hk : jk S q = 4) (hq : jn S = q + 1) (h : ∀ S', jn S' = q + 3 → (∀ y, y < q → jcs S S' y) → RdR S' q (fun _ => 0) (wfar (fun _ => 0) (fun _ => 0)) → Q S') : jFv E mX4_init (d + 2) 2 72 [.ref q] S Q := by
  refine T_X4_init ?_
  refine VA_of (a := q) (kd := 4) (K := fun S9 => jFv E mX4_measure (d + 1) 0 0 [.ref q] S9 (fun S7 => Q S7)) [(0, 36), (1, 36)] S hk (by omega) ?_
  have ha : q < jn S := by omega
  obtain ⟨a1, a2, a3, a4⟩ := JAs_a q [(0, 36), (1, 36)] S ha
  obtain ⟨b1, b2, b3⟩ := JAs_at q [(0, 36), (1, 36)] S 0 (0, 36) ha rfl
  obtain ⟨c1, c2, c3⟩ := JAs_at q [(0, 36), (1, 36)] S 1 (1, 36) ha rfl
  have r0 := JAs_ref q [(0, 36), (1, 36)] S 0 (0, 36) ha (by decide) rfl
  have r1 := JAs_ref q [(0, 36), (1, 36)] S 1 (1, 36) ha (by decide) rfl
  have hn := JAs_n q [(0, 36), (1, 36)] S
  have hkeep := JAs_keep q [(0, 36), (1, 36)] S
  generalize JAs q S [(0, 36), (1, 36)] = S1 at *
  rw [hq] at b1 b2 b3 c1 c2 c3 r0 r1 hn
  refine c_X4_measure (S := S1) ⟨a1.trans hk, r0, r1, b1, b2, c1, c2⟩ (fun S' hc e1 e2 => h S' ?_ (fun y hy => (hkeep y (by omega) (by omega)).trans (jcs.ch hc (by omega))) ⟨RdL.same (S := S1) ⟨a1.trans hk, r0, r1, b1, b2, c1, c2⟩ hc.1, fun i hi => ?_, fun i hi => ?_⟩)
  · rw [hc.1.2.2.2, hn]; rfl
  · rw [e2]; exact congrFun b3 i
  · rw [e1]
    exact wfar_agr (fun j hj => congrFun b3 j) i hi
theorem c_X1_init {Q : jM → Prop} {l : Nat} (hk : jk S l = 1) (hq : jn S = l + 1) (h0 : ji S l = fun _ => 0) (h : ∀ S', jn S' = l + 3 → (∀ y, y < l → jcs S S' y) → LdR S' l 0 0 100 0 0 (fun _ => 0) (fun _ => 0) → Q S') : jFv E mX1_init (d + 1) 2 20 [.ref l] S Q := by
  refine T_X1_init ⟨hk, ?_⟩
  have ha : l < jn (jput S l 2 100) := by show l < jn S; omega
  refine VA_of (a := l) (kd := 1) (K := Q) [(5, 10), (6, 10)] (jput S l 2 100) hk ha ?_
  obtain ⟨a1, a2, a3, a4⟩ := JAs_a l [(5, 10), (6, 10)] (jput S l 2 100) ha
  obtain ⟨b1, b2, b3⟩ := JAs_at l [(5, 10), (6, 10)] (jput S l 2 100) 0 (5, 10) ha rfl
  obtain ⟨c1, c2, c3⟩ := JAs_at l [(5, 10), (6, 10)] (jput S l 2 100) 1 (6, 10) ha rfl
  have r0 := JAs_ref l [(5, 10), (6, 10)] (jput S l 2 100) 0 (5, 10) ha (by decide) rfl
  have r1 := JAs_ref l [(5, 10), (6, 10)] (jput S l 2 100) 1 (6, 10) ha (by decide) rfl
  have hn := JAs_n l [(5, 10), (6, 10)] (jput S l 2 100)
  have hkeep := JAs_keep l [(5, 10), (6, 10)] (jput S l 2 100)
  generalize JAs l (jput S l 2 100) [(5, 10), (6, 10)] = S1 at *
  have hq2 : jn (jput S l 2 100) = l + 1 := hq
  rw [hq2] at b1 b2 b3 c1 c2 c3 r0 r1 hn
  have e : ∀ j, ji S1 l j = if j = 2 then 100 else 0 := by
    intro j
    rw [a3, ji_put, h0]
    by_cases hj : j = 2 <;> simp [hj]
  refine h S1 hn (fun y hy => (jcs.put (by omega)).trans (hkeep y (by rw [hq2]; omega) (by omega))) ⟨⟨a1.trans hk, r0, r1, b1, b2, c1, c2⟩, e 0, e 1, e 2, e 3, e 4, fun i hi => congrFun b3 i, fun i hi => congrFun c3 i⟩
theorem c_X0_init {Q : jM → Prop} {g : Nat} (hk : jk S g = 0) (hq : jn S = g + 1) (h0 : ji S g = fun _ => 0) (h : ∀ S', jn S' = g + 11 → (∀ y, y < g → jcs S S' y) → GR S' g 0 1 (fun _ _ => 0) → Q S') : jFv E mX0_init (d + 2) 10 72 [.ref g] S Q := by
  have key : ∀ (n i : Nat) (S1 : jM), i + n = 9 → jn S1 = g + 2 + i → (∀ y, y < g → jcs S S1 y) → jk S1 g = 0 → jr S1 g 0 = some (g + 1) → jk S1 (g + 1) = 13 → jl S1 (g + 1) = 9 → (∀ j, ji S1 g j = if j = 2 then 1 else 0) → (∀ k, k < i → jr S1 (g + 1) k = some (g + 2 + k) ∧ jk S1 (g + 2 + k) = 2 ∧ ji S1 (g + 2 + k) = fun _ => 0) → L_X0_init_20 E (d + 1) Q g (nI i) S1 (1 + i) (9 + 7 * i) := by
    intro n
    induction n with
    | zero =>
      intro i S1 hi hn hkeep k1 k2 k3 k4 k5 k6
      obtain rfl : i = 9 := by omega
      refine T_X0_init_20 ⟨fun _ => ⟨by decide, h S1 hn hkeep ⟨⟨k1, k2, k3, k4, fun k hk => ⟨(k6 k hk).1, (k6 k hk).2.1⟩⟩, k5 1, k5 2, fun k hk f hf => by rw [(k6 k hk).2.2]⟩⟩, fun c => absurd (by decide) c⟩
    | succ n ih =>
      intro i S1 hi hn hkeep k1 k2 k3 k4 k5 k6
      refine T_X0_init_20 ⟨fun c => absurd c (nI_ge (b := 9) (by omega) (by omega)), fun _ => ⟨k1, g + 1, k2, ⟨by omega, by omega⟩, fun q hqq => ⟨⟨by omega, by omega⟩, c_X2_init ?_⟩⟩⟩
      rw [hn] at hqq
      subst hqq
      have e1 : ∀ y, y ≠ g + 2 + i → jcs S1 (jnew S1 2 0) y := fun y hy => jcs.new (by rw [hn]; exact hy)
      have e2 : jk (jnew S1 2 0) (g + 2 + i) = 2 := by rw [jk_newE, if_pos hn.symm]
      have e3 : ji (jnew S1 2 0) (g + 2 + i) = fun _ => 0 := by rw [ji_newE, if_pos hn.symm]
      refine ⟨(e1 (g + 1) (by omega)).1.trans k3, e2, ?_, ?_⟩
      · rw [(e1 (g + 1) (by omega)).2.1, k4]; exact jin_nI (by omega) (by omega)
      · rw [jcl (by omega), nI_1]
        have hs : ∀ y, y ≠ g + 2 + i → y ≠ g + 1 → jcs S1 (jputr (jnew S1 2 0) (g + 1) i (some (g + 2 + i))) y := fun y h1 h2 => (e1 y h1).trans (jcs.putr h2)
        have c0 := hs g (by omega) (by omega)
        have hih := ih (i + 1) (jputr (jnew S1 2 0) (g + 1) i (some (g + 2 + i))) (by omega) (by show jn S1 + 1 = _; rw [hn]; omega) (fun y hy => (hkeep y hy).trans (hs y (by omega) (by omega))) (c0.1.trans k1) (by rw [c0.2.2.2]; exact k2) ((e1 (g + 1) (by omega)).1.trans k3) ((e1 (g + 1) (by omega)).2.1.trans k4) (fun j => by rw [c0.2.2.1]; exact k5 j) (fun k hkk => ?_)
        · have a1 : 1 + i + 1 + 0 = 1 + (i + 1) := by omega
          have a2 : 9 + 7 * i + 7 + 0 = 9 + 7 * (i + 1) := by omega
          rw [a1, a2]
          exact hih
        · by_cases hki : k = i
          · subst hki
            exact ⟨by rw [jr_putr, if_pos ⟨rfl, rfl⟩], e2, e3⟩
          · have c1 := hs (g + 2 + k) (by omega) (by omega)
            obtain ⟨m1, m2, m3⟩ := k6 k (by omega)
            refine ⟨?_, c1.1.trans m2, by rw [c1.2.2.1]; exact m3⟩
            rw [jr_putr, if_neg (fun c => hki c.2), (e1 (g + 1) (by omega)).2.2.2]
            exact m1
  refine T_X0_init (fun q hqq => ?_)
  rw [hq] at hqq
  subst hqq
  have hs : ∀ y, y ≠ g + 1 → jcs S (jnew S 13 9) y := fun y hy => jcs.new (by rw [hq]; exact hy)
  have hkg : jk (jnew S 13 9) g = 0 := (hs g (by omega)).1.trans hk
  refine ⟨hkg, key 9 0 _ (by omega) (by show jn S + 1 = _; rw [hq]) (fun y hy => ((hs y (by omega)).trans (jcs.putr (by omega))).trans (jcs.put (by omega))) hkg ?_ ?_ ?_ (fun j => ?_) (fun k hk => absurd hk (by omega))⟩
  · show jr (jputr (jnew S 13 9) g 0 (some (g + 1))) g 0 = _
    rw [jr_putr, if_pos ⟨rfl, rfl⟩]
  · show jk (jnew S 13 9) (g + 1) = 13; rw [jk_newE, if_pos hq.symm]
  · show jl (jnew S 13 9) (g + 1) = 9; rw [jl_newE, if_pos hq.symm]
  · rw [ji_put, ji_putr, (hs g (by omega)).2.2.1, h0]
    by_cases hj : j = 2 <;> simp [hj]
end jCons
end
section
/-! CONSTRUCTORS: Realm, Search, Tape, Slot -/
/-- the row of a fresh realm -/
def v0 : Nat → Int32 := fun j => if j = 5 then 100 else if j = 8 then 1 else 0
def SrL (S : jM) (a : Nat) : Prop := jk S a = 5 ∧ (∀ k, k < 7 → jr S a k = some (a + 1 + k) ∧ jk S (a + 1 + k) = 12) ∧ (∀ k, k < 5 → jl S (a + 1 + k) = 5) ∧ jl S (a + 6) = 10 ∧ jl S (a + 7) = 99
def TpL (S : jM) (a : Nat) : Prop := jk S a = 8 ∧ jr S a 0 = some (a + 1) ∧ jr S a 8 = some (a + 2) ∧ jk S (a + 1) = 12 ∧ jl S (a + 1) = 96 ∧ jk S (a + 2) = 12 ∧ jl S (a + 2) = 96
def SlL (S : jM) (a : Nat) : Prop := jk S a = 7 ∧ jr S a 1 = some (a + 1) ∧ jr S a 2 = some (a + 2) ∧ jk S (a + 1) = 2 ∧ ShL S (a + 2) (a + 3)
theorem SrL.grow {S S' : jM} {a : Nat} (h : SrL S a) (hc : ∀ y, a ≤ y → y < a + 8 → jcs S S' y) : SrL S' a := by
  obtain ⟨h1, h2, h3, h4, h5⟩ := h
  have c0 := hc a (by omega) (by omega)
  refine ⟨by rw [c0.1]; exact h1, fun k hk => ⟨by rw [c0.2.2.2]; exact (h2 k hk).1, by rw [(hc (a + 1 + k) (by omega) (by omega)).1]; exact (h2 k hk).2⟩, fun k hk => by rw [(hc (a + 1 + k) (by omega) (by omega)).2.1]; exact h3 k hk, by rw [(hc (a + 6) (by omega) (by omega)).2.1]; exact h4, by rw [(hc (a + 7) (by omega) (by omega)).2.1]; exact h5⟩
theorem TpL.grow {S S' : jM} {a : Nat} (h : TpL S a) (hc : ∀ y, a ≤ y → y < a + 3 → jcs S S' y) : TpL S' a := by
  obtain ⟨h1, h2, h3, h4, h5, h6, h7⟩ := h
  have c0 := hc a (by omega) (by omega)
  have c1 := hc (a + 1) (by omega) (by omega)
  have c2 := hc (a + 2) (by omega) (by omega)
  exact ⟨by rw [c0.1]; exact h1, by rw [c0.2.2.2]; exact h2, by rw [c0.2.2.2]; exact h3, by rw [c1.1]; exact h4, by rw [c1.2.1]; exact h5, by rw [c2.1]; exact h6, by rw [c2.2.1]; exact h7⟩
theorem SlL.grow {S S' : jM} {a : Nat} (h : SlL S a) (hc : ∀ y, a ≤ y → y < a + 4 → jcs S S' y) : SlL S' a := by
  obtain ⟨h1, h2, h3, h4, h5, h6, h7, h8⟩ := h
  have c0 := hc a (by omega) (by omega)
  have c1 := hc (a + 1) (by omega) (by omega)
  have c2 := hc (a + 2) (by omega) (by omega)
  have c3 := hc (a + 3) (by omega) (by omega)
  exact ⟨by rw [c0.1]; exact h1, by rw [c0.2.2.2]; exact h2, by rw [c0.2.2.2]; exact h3, by rw [c1.1]; exact h4, by rw [c2.1]; exact h5, by rw [c2.2.2.2]; exact h6, by rw [c3.1]; exact h7, by rw [c3.2.1]; exact h8⟩
section jCons3
variable {E : jEnv} {d : Nat} {S : jM}
theorem c_X8_init {Q : jM → Prop} {a : Nat} (hk : jk S a = 8) (hq : jn S = a + 1) (h0 : ji S a = fun _ => 0) (h : ∀ S', jn S' = a + 3 → (∀ y, y < a → jcs S S' y) → TpL S' a → (∀ j, ji S' a j = 0) → (∀ j, ji S' (a + 1) j = 0) → Q S') : jFv E mX8_init (d + 1) 2 192 [.ref a] S Q := by
  refine T_X8_init ?_
  have ha : a < jn S := by omega
  refine VA_of (a := a) (kd := 8) (K := Q) [(0, 96), (8, 96)] S hk ha ?_
  obtain ⟨a1, a2, a3, a4⟩ := JAs_a a [(0, 96), (8, 96)] S ha
  obtain ⟨b1, b2, b3⟩ := JAs_at a [(0, 96), (8, 96)] S 0 (0, 96) ha rfl
  obtain ⟨c1, c2, c3⟩ := JAs_at a [(0, 96), (8, 96)] S 1 (8, 96) ha rfl
  have r0 := JAs_ref a [(0, 96), (8, 96)] S 0 (0, 96) ha (by decide) rfl
  have r1 := JAs_ref a [(0, 96), (8, 96)] S 1 (8, 96) ha (by decide) rfl
  have hn := JAs_n a [(0, 96), (8, 96)] S
  have hkeep := JAs_keep a [(0, 96), (8, 96)] S
  generalize JAs a S [(0, 96), (8, 96)] = S1 at *
  rw [hq] at b1 b2 b3 c1 c2 c3 r0 r1 hn
  exact h S1 hn (fun y hy => hkeep y (by omega) (by omega)) ⟨a1.trans hk, r0, r1, b1, b2, c1, c2⟩ (fun j => by rw [a3, h0]) (fun j => congrFun b3 j)
theorem c_X5_init {Q : jM → Prop} {a : Nat} (hk : jk S a = 5) (hq : jn S = a + 1) (h : ∀ S', jn S' = a + 8 → (∀ y, y < a → jcs S S' y) → SrL S' a → Q S') : jFv E mX5_init (d + 1) 7 134 [.ref a] S Q := by
  refine T_X5_init ?_
  have ha : a < jn S := by omega
  refine VA_of (a := a) (kd := 5) (K := Q) [(0, 5), (1, 5), (2, 5), (3, 5), (4, 5), (5, 10), (6, 99)] S hk ha ?_
  obtain ⟨a1, a2, a3, a4⟩ := JAs_a a [(0, 5), (1, 5), (2, 5), (3, 5), (4, 5), (5, 10), (6, 99)] S ha
  have hat := fun k p => JAs_at a [(0, 5), (1, 5), (2, 5), (3, 5), (4, 5), (5, 10), (6, 99)] S k p ha
  have hrf := fun k p => JAs_ref a [(0, 5), (1, 5), (2, 5), (3, 5), (4, 5), (5, 10), (6, 99)] S k p ha (by decide)
  have hn := JAs_n a [(0, 5), (1, 5), (2, 5), (3, 5), (4, 5), (5, 10), (6, 99)] S
  have hkeep := JAs_keep a [(0, 5), (1, 5), (2, 5), (3, 5), (4, 5), (5, 10), (6, 99)] S
  generalize JAs a S [(0, 5), (1, 5), (2, 5), (3, 5), (4, 5), (5, 10), (6, 99)] = S1 at *
  rw [hq] at hat hrf hn
  refine h S1 hn (fun y hy => hkeep y (by omega) (by omega)) ⟨a1.trans hk, fun k hk => ?_, fun k hk => ?_, (hat 5 (5, 10) rfl).2.1, (hat 6 (6, 99) rfl).2.1⟩
  · rcases (show k = 0 ∨ k = 1 ∨ k = 2 ∨ k = 3 ∨ k = 4 ∨ k = 5 ∨ k = 6 by omega) with rfl | rfl | rfl | rfl | rfl | rfl | rfl
    · exact ⟨hrf 0 (0, 5) rfl, (hat 0 (0, 5) rfl).1⟩
    · exact ⟨hrf 1 (1, 5) rfl, (hat 1 (1, 5) rfl).1⟩
    · exact ⟨hrf 2 (2, 5) rfl, (hat 2 (2, 5) rfl).1⟩
    · exact ⟨hrf 3 (3, 5) rfl, (hat 3 (3, 5) rfl).1⟩
    · exact ⟨hrf 4 (4, 5) rfl, (hat 4 (4, 5) rfl).1⟩
    · exact ⟨hrf 5 (5, 10) rfl, (hat 5 (5, 10) rfl).1⟩
    · exact ⟨hrf 6 (6, 99) rfl, (hat 6 (6, 99) rfl).1⟩
  · rcases (show k = 0 ∨ k = 1 ∨ k = 2 ∨ k = 3 ∨ k = 4 by omega) with rfl | rfl | rfl | rfl | rfl
    · exact (hat 0 (0, 5) rfl).2.1
    · exact (hat 1 (1, 5) rfl).2.1
    · exact (hat 2 (2, 5) rfl).2.1
    · exact (hat 3 (3, 5) rfl).2.1
    · exact (hat 4 (4, 5) rfl).2.1
theorem c_X7_init {Q : jM → Prop} {a : Nat} (hk : jk S a = 7) (hq : jn S = a + 1) (h0 : ji S a = fun _ => 0) (h : ∀ S', jn S' = a + 4 → (∀ y, y < a → jcs S S' y) → SlL S' a → ji S' a 0 = 0 → Q S') : jFv E mX7_init (d + 2) 3 34 [.ref a] S Q := by
  refine T_X7_init ⟨hk, fun q hqq => c_X2_init ?_⟩
  have hqq : q = a + 1 := hqq.trans hq
  subst hqq
  have e1 : ∀ y, y ≠ a + 1 → jcs (jput S a 0 0) (jnew (jput S a 0 0) 2 0) y := fun y hy => jcs.new (by show y ≠ jn S; rw [hq]; exact hy)
  have k1 : jk (jnew (jput S a 0 0) 2 0) a = 7 := (e1 a (by omega)).1.trans hk
  have k2 : jk (jnew (jput S a 0 0) 2 0) (a + 1) = 2 := by rw [jk_newE]; exact if_pos hq.symm
  have i1 : ji (jnew (jput S a 0 0) 2 0) a 0 = 0 := by rw [(e1 a (by omega)).2.2.1]; exact ji_put_same _ _ _ _
  have n1 : jn (jnew (jput S a 0 0) 2 0) = a + 2 := by show jn S + 1 = _; rw [hq]
  have s1 : ∀ y, y < a → jcs S (jnew (jput S a 0 0) 2 0) y := fun y hy => (jcs.put (by omega)).trans (e1 y (by omega))
  generalize jnew (jput S a 0 0) 2 0 = S1 at *
  refine ⟨k1, fun q hq2 => ?_⟩
  have hq2 : q = a + 2 := hq2.trans n1
  subst hq2
  have e2 : ∀ y, y ≠ a + 2 → y ≠ a → jcs S1 (jnew (jputr S1 a 1 (some (a + 1))) 6 0) y := fun y hy hya => (jcs.putr hya).trans (jcs.new (by show y ≠ jn S1; rw [n1]; exact hy))
  have n2 : jn (jputr S1 a 1 (some (a + 1))) = a + 2 := n1
  refine c_X6_init (S := jnew (jputr S1 a 1 (some (a + 1))) 6 0) ?_ ?_ ?_ (fun S3 n3 s3 hsh => ?_)
  · rw [jk_newE]; exact if_pos n2.symm
  · show a + 2 < jn S1 + 1; omega
  · rw [ji_newE, if_pos n2.symm]
  · have n3' : jn S3 = a + 4 := by rw [n3]; show jn S1 + 1 + 1 = _; omega
    have nn : jn (jnew (jputr S1 a 1 (some (a + 1))) 6 0) = a + 3 := by show jn S1 + 1 = _; omega
    rw [nn] at hsh
    have ca := s3 a (by rw [nn]; omega) (by omega)
    have cb := s3 (a + 1) (by rw [nn]; omega) (by omega)
    have kaS : jk S3 a = 7 := by rw [ca.1, jk_newE, if_neg (by rw [n2]; omega)]; exact k1
    refine ⟨kaS, h _ n3' (fun y hy => ((s1 y hy).trans (e2 y (by omega) (by omega))).trans ((s3 y (by rw [nn]; omega) (by omega)).trans (jcs.putr (by omega)))) ⟨kaS, ?_, ?_, ?_, ?_⟩ ?_⟩
    · rw [jr_putr, if_neg (by omega), ca.2.2.2, jr_newE, if_neg (by rw [n2]; omega), jr_putr, if_pos ⟨rfl, rfl⟩]
    · rw [jr_putr, if_pos ⟨rfl, rfl⟩]
    · show jk S3 (a + 1) = 2
      rw [cb.1, (e2 (a + 1) (by omega) (by omega)).1]; exact k2
    · obtain ⟨⟨p1, p2, p3, p4⟩, -⟩ := hsh
      exact ⟨p1, by rw [jr_putr, if_neg (by omega)]; exact p2, p3, p4⟩
    · show ji S3 a 0 = 0
      rw [ca.2.2.1, ji_newE, if_neg (by rw [n2]; omega)]; exact i1
theorem c_X3_init {Q : jM → Prop} {r : Nat} (hk : jk S r = 3) (hq : jn S = r + 1) (h0 : ji S r = fun _ => 0) (h : ∀ S', jn S' = r + 20 → (∀ y, y < r → jcs S S' y) → RmR S' r 0 v0 → (∀ i, i < 14 → jr S' (r + 19) i = none) → Q S') : jFv E mX3_init (d + 3) 19 196 [.ref r] S Q := by
  refine T_X3_init (fun q hqq => ?_)
  have hqq : q = r + 1 := hqq.trans hq
  subst hqq
  have s0 : ∀ y, y ≠ r + 1 → jcs S (jnew S 0 0) y := fun y hy => jcs.new (by rw [hq]; exact hy)
  refine c_X0_init (S := jnew S 0 0) (by rw [jk_newE]; exact if_pos hq.symm) (by show jn S + 1 = _; omega) (by rw [ji_newE]; exact if_pos hq.symm) (fun S2 n2 s2 hg => ?_)
  have c2 := (s0 r (by omega)).trans (s2 r (by omega))
  refine ⟨c2.1.trans hk, fun q hq5 => ?_⟩
  have n2' : jn (jputr S2 r 0 (some (r + 1))) = r + 12 := n2
  have hq5 : q = r + 12 := hq5.trans n2'
  subst hq5
  have s3 : ∀ y, y ≠ r + 12 → y ≠ r → jcs S2 (jnew (jputr S2 r 0 (some (r + 1))) 4 0) y := fun y hy hyr => (jcs.putr hyr).trans (jcs.new (by rw [n2']; exact hy))
  refine c_X4_init (S := jnew (jputr S2 r 0 (some (r + 1))) 4 0) (by rw [jk_newE]; exact if_pos n2'.symm) (by show jn S2 + 1 = _; omega) (fun S6 n6 s6 hd => ?_)
  have c6 : jk S6 r = 3 ∧ ji S6 r = (fun _ => 0) ∧ jr S6 r 0 = some (r + 1) := by
    have z := s6 r (by omega)
    refine ⟨?_, ?_, ?_⟩
    · rw [z.1, jk_newE, if_neg (by rw [n2']; omega)]; exact c2.1.trans hk
    · rw [z.2.2.1, ji_newE, if_neg (by rw [n2']; omega)]; exact c2.2.2.1.trans h0
    · rw [z.2.2.2, jr_newE, if_neg (by rw [n2']; omega), jr_putr, if_pos ⟨rfl, rfl⟩]
  refine ⟨c6.1, fun q hq9 => ?_⟩
  have n6' : jn (jputr S6 r 1 (some (r + 12))) = r + 15 := n6
  have hq9 : q = r + 15 := hq9.trans n6'
  subst hq9
  have s7 : ∀ y, y ≠ r + 15 → y ≠ r → jcs S6 (jnew (jputr S6 r 1 (some (r + 12))) 1 0) y := fun y hy hyr => (jcs.putr hyr).trans (jcs.new (by rw [n6']; exact hy))
  refine c_X1_init (S := jnew (jputr S6 r 1 (some (r + 12))) 1 0) (by rw [jk_newE]; exact if_pos n6'.symm) (by show jn S6 + 1 = _; omega) (by rw [ji_newE]; exact if_pos n6'.symm) (fun S10 n10 s10 hl => ?_)
  have c10 : jk S10 r = 3 ∧ ji S10 r = (fun _ => 0) ∧ jr S10 r 0 = some (r + 1) ∧ jr S10 r 1 = some (r + 12) := by
    have z := s10 r (by omega)
    refine ⟨?_, ?_, ?_, ?_⟩
    · rw [z.1, jk_newE, if_neg (by rw [n6']; omega)]; exact c6.1
    · rw [z.2.2.1, ji_newE, if_neg (by rw [n6']; omega)]; exact c6.2.1
    · rw [z.2.2.2, jr_newE, if_neg (by rw [n6']; omega), jr_putr, if_neg (by omega)]; exact c6.2.2
    · rw [z.2.2.2, jr_newE, if_neg (by rw [n6']; omega), jr_putr, if_pos ⟨rfl, rfl⟩]
  refine ⟨c10.1, fun q hq13 => ?_⟩
  have na : jn (jputr S10 r 2 (some (r + 15))) = r + 18 := n10
  have hq13 : q = r + 18 := hq13.trans na
  subst hq13
  have sa : ∀ y, y ≠ r + 18 → y ≠ r → jcs S10 (jnew (jputr S10 r 2 (some (r + 15))) 12 6) y := fun y hy hyr => (jcs.putr hyr).trans (jcs.new (by rw [na]; exact hy))
  have ka : jk (jnew (jputr S10 r 2 (some (r + 15))) 12 6) r = 3 := by rw [jk_newE, if_neg (by rw [na]; omega)]; exact c10.1
  refine ⟨ka, fun q hq16 => ?_⟩
  have nb : jn (jputr (jnew (jputr S10 r 2 (some (r + 15))) 12 6) r 3 (some (r + 18))) = r + 19 := by show jn S10 + 1 = _; omega
  have hq16 : q = r + 19 := hq16.trans nb
  subst hq16
  have kb : jk (jnew (jputr (jnew (jputr S10 r 2 (some (r + 15))) 12 6) r 3 (some (r + 18))) 16 14) r = 3 := by rw [jk_newE, if_neg (by rw [nb]; omega)]; exact ka
  refine ⟨kb, ?_⟩
  -- the last memory
  have sb : ∀ y, y ≠ r + 18 → y ≠ r + 19 → y ≠ r → jcs S10 (jputr (jnew (jputr (jnew (jputr S10 r 2 (some (r + 15))) 12 6) r 3 (some (r + 18))) 16 14) r 5 (some (r + 19))) y := fun y h1 h2 h3 => (sa y h1 h3).trans ((jcs.putr h3).trans ((jcs.new (by rw [nb]; exact h2)).trans (jcs.putr h3)))
  have sAll : ∀ y, y < r → jcs S S10 y := fun y hy => ((s0 y (by omega)).trans (s2 y (by omega))).trans (((s3 y (by omega) (by omega)).trans (s6 y (by omega))).trans ((s7 y (by omega) (by omega)).trans (s10 y (by omega))))
  have sG : ∀ y, r + 1 ≤ y → y < r + 12 → jcs S2 S10 y := fun y h1 h2 => ((s3 y (by omega) (by omega)).trans (s6 y (by omega))).trans ((s7 y (by omega) (by omega)).trans (s10 y (by omega)))
  have sD : ∀ y, r + 12 ≤ y → y < r + 15 → jcs S6 S10 y := fun y h1 h2 => (s7 y (by omega) (by omega)).trans (s10 y (by omega))
  have hrow : ∀ j, ji (jputr (jnew (jputr (jnew (jputr S10 r 2 (some (r + 15))) 12 6) r 3 (some (r + 18))) 16 14) r 5 (some (r + 19))) r j = 0 := by
    intro j
    rw [ji_putr, ji_newE, if_neg (by rw [nb]; omega), ji_putr, ji_newE, if_neg (by rw [na]; omega), ji_putr, c10.2.1]
  have hro : ∀ j, jr (jputr (jnew (jputr (jnew (jputr S10 r 2 (some (r + 15))) 12 6) r 3 (some (r + 18))) 16 14) r 5 (some (r + 19))) r j = if j = 5 then some (r + 19) else if j = 3 then some (r + 18) else if j = 2 then some (r + 15) else jr S10 r j := by
    intro j
    rw [jr_putr]
    by_cases h5 : j = 5
    · simp [h5]
    · rw [if_neg (by omega), if_neg h5, jr_newE, if_neg (by rw [nb]; omega), jr_putr]
      by_cases h3 : j = 3
      · simp [h3]
      · rw [if_neg (by omega), if_neg h3, jr_newE, if_neg (by rw [na]; omega), jr_putr]
        by_cases h2 : j = 2 <;> simp [h2]
  have c18 : jk (jputr (jnew (jputr (jnew (jputr S10 r 2 (some (r + 15))) 12 6) r 3 (some (r + 18))) 16 14) r 5 (some (r + 19))) (r + 18) = 12 ∧ jl (jputr (jnew (jputr (jnew (jputr S10 r 2 (some (r + 15))) 12 6) r 3 (some (r + 18))) 16 14) r 5 (some (r + 19))) (r + 18) = 6 ∧ ji (jputr (jnew (jputr (jnew (jputr S10 r 2 (some (r + 15))) 12 6) r 3 (some (r + 18))) 16 14) r 5 (some (r + 19))) (r + 18) = (fun _ => 0) := by
    refine ⟨?_, ?_, ?_⟩
    · rw [jk_putr, jk_newE, if_neg (by rw [nb]; omega), jk_putr, jk_newE, if_pos na.symm]
    · rw [jl_putr, jl_newE, if_neg (by rw [nb]; omega), jl_putr, jl_newE, if_pos na.symm]
    · rw [ji_putr, ji_newE, if_neg (by rw [nb]; omega), ji_putr, ji_newE, if_pos na.symm]
  have c19 : jk (jputr (jnew (jputr (jnew (jputr S10 r 2 (some (r + 15))) 12 6) r 3 (some (r + 18))) 16 14) r 5 (some (r + 19))) (r + 19) = 16 ∧ jl (jputr (jnew (jputr (jnew (jputr S10 r 2 (some (r + 15))) 12 6) r 3 (some (r + 18))) 16 14) r 5 (some (r + 19))) (r + 19) = 14 ∧ ∀ i, jr (jputr (jnew (jputr (jnew (jputr S10 r 2 (some (r + 15))) 12 6) r 3 (some (r + 18))) 16 14) r 5 (some (r + 19))) (r + 19) i = none := by
    refine ⟨?_, ?_, fun i => ?_⟩
    · rw [jk_putr, jk_newE, if_pos nb.symm]
    · rw [jl_putr, jl_newE, if_pos nb.symm]
    · rw [jr_putr, if_neg (by omega), jr_newE, if_pos nb.symm]
  have nE : jn (jputr (jnew (jputr (jnew (jputr S10 r 2 (some (r + 15))) 12 6) r 3 (some (r + 18))) 16 14) r 5 (some (r + 19))) = r + 20 := by show jn S10 + 1 + 1 = _; omega
  have kE : jk (jputr (jnew (jputr (jnew (jputr S10 r 2 (some (r + 15))) 12 6) r 3 (some (r + 18))) 16 14) r 5 (some (r + 19))) r = 3 := kb
  generalize jputr (jnew (jputr (jnew (jputr S10 r 2 (some (r + 15))) 12 6) r 3 (some (r + 18))) 16 14) r 5 (some (r + 19)) = SE at *
  refine h SE nE (fun y hy => (sAll y hy).trans (sb y (by omega) (by omega) (by omega))) ⟨⟨kE, ?_, ?_, ?_, ?_, ?_, c18.1, c18.2.1, c19.1, c19.2.1⟩, by omega, rfl, ?_, ?_, ?_, ?_, fun i hi => ?_, ?_⟩ (fun i _ => c19.2.2 i)
  · rw [hro]; simpa using c10.2.2.1
  · rw [hro]; simpa using c10.2.2.2
  · rw [hro]; simp
  · rw [hro]; simp
  · rw [hro]; simp
  · refine (hg.grow (fun y h1 h2 => (sG y (by omega) (by omega)).trans (sb y (by omega) (by omega) (by omega)))).cong (fun i hi f hf => ?_)
    show (0 : Int32) = v0 (72 + 7 * i + f)
    unfold v0
    rw [if_neg (by omega), if_neg (by omega)]
  · have e1 := hd.grow (S' := SE) (fun y h1 h2 => (sD y (by omega) (by omega)).trans (sb y (by omega) (by omega) (by omega)))
    refine ⟨e1.1, fun i hi => (e1.2.1 i hi).trans ?_, fun i hi => (e1.2.2 i hi).trans (wfar_agr (fun j hj => ?_) i hi)⟩
    · show (0 : Int32) = v0 (36 + i); unfold v0; rw [if_neg (by omega), if_neg (by omega)]
    · show (0 : Int32) = v0 (36 + j); unfold v0; rw [if_neg (by omega), if_neg (by omega)]
  · have e1 := hl.grow (S' := SE) (fun y h1 h2 => sb y (by omega) (by omega) (by omega))
    refine e1.cong (fun i hi => ?_) (fun i hi => ?_)
    · show (0 : Int32) = v0 (16 + i); unfold v0; rw [if_neg (by omega), if_neg (by omega)]
    · show (0 : Int32) = v0 (26 + i); unfold v0; rw [if_neg (by omega), if_neg (by omega)]
  · rw [hrow]; rfl
  · rw [c18.2.2]; show (0 : Int32) = v0 (9 + i); unfold v0; rw [if_neg (by omega), if_neg (by omega)]
  · rw [hrow]; rfl
end jCons3
end
section
/-! THE CONSTRUCTOR of the class -/
def XC (S : jM) (x : Nat) (l : List (Nat × Nat)) : Prop := jk S x = 10 ∧ ji S x = (fun _ => 0) ∧ ∀ p ∈ l, jr S x p.1 = some p.2
theorem XC.cs {S S' : jM} {x : Nat} {l : List (Nat × Nat)} (h : XC S x l) (hc : jcs S S' x) : XC S' x l := ⟨hc.1.trans h.1, hc.2.2.1.trans h.2.1, fun p hp => by rw [hc.2.2.2]; exact h.2.2 p hp⟩
theorem XC.putr {S : jM} {x j b : Nat} {l : List (Nat × Nat)} (h : XC S x l) (hj : ∀ p ∈ l, p.1 ≠ j) : XC (jputr S x j (some b)) x ((j, b) :: l) := by
  refine ⟨h.1, h.2.1, fun p hp => ?_⟩
  rw [jr_putr]
  rcases List.mem_cons.mp hp with rfl | hp
  · rw [if_pos ⟨rfl, rfl⟩]
  · rw [if_neg (fun c => hj p hp c.2)]; exact h.2.2 p hp
/-- a field gets its object, a new cell comes -/
theorem XC.step {S : jM} {x N j b kd n : Nat} {l : List (Nat × Nat)} (h : XC S x l) (hj : ∀ p ∈ l, p.1 ≠ j) (hn : jn S = N) (hx : x < N) :
    XC (jnew (jputr S x j (some b)) kd n) x ((j, b) :: l) ∧ jn (jnew (jputr S x j (some b)) kd n) = N + 1 ∧ jk (jnew (jputr S x j (some b)) kd n) N = kd ∧ jl (jnew (jputr S x j (some b)) kd n) N = n ∧ ji (jnew (jputr S x j (some b)) kd n) N = (fun _ => 0) ∧ jr (jnew (jputr S x j (some b)) kd n) N = (fun _ => none) ∧ ∀ y, y < N → y ≠ x → jcs S (jnew (jputr S x j (some b)) kd n) y := by
  have nn : jn (jputr S x j (some b)) = N := hn
  refine ⟨(h.putr hj).cs (jcs.new (by rw [nn]; omega)), by show jn S + 1 = _; rw [hn], ?_, ?_, ?_, ?_, fun y hy hyx => (jcs.putr hyx).trans (jcs.new (by rw [nn]; omega))⟩
  · rw [jk_newE, if_pos nn.symm]
  · rw [jl_newE, if_pos nn.symm]
  · rw [ji_newE, if_pos nn.symm]
  · rw [jr_newE, if_pos nn.symm]
/-- what the class's object is made of, for good -/
def CL (S : jM) (x : Nat) : Prop :=
  jk S x = 10 ∧ (jr S x 0 = some (x + 1) ∧ jr S x 1 = some (x + 21) ∧ jr S x 3 = some (x + 41) ∧ jr S x 4 = some (x + 52) ∧ jr S x 5 = some (x + 60) ∧ jr S x 6 = some (x + 63) ∧ jr S x 7 = some (x + 64) ∧ jr S x 8 = some (x + 65)) ∧
  SrL S (x + 52) ∧ TpL S (x + 60) ∧ (jk S (x + 63) = 14 ∧ jl S (x + 63) = 4 ∧ ∀ i, i < 4 → jr S (x + 63) i = some (x + 66 + 2 * i)) ∧ (jk S (x + 64) = 15 ∧ jl S (x + 64) = 5 ∧ ∀ i, i < 5 → jr S (x + 64) i = some (x + 74 + 4 * i)) ∧
  (jk S (x + 65) = 12 ∧ jl S (x + 65) = 60) ∧ (∀ i, i < 4 → ShL S (x + 66 + 2 * i) (x + 67 + 2 * i)) ∧ ∀ i, i < 5 → SlL S (x + 74 + 4 * i)
/-- the fresh object's numbers -/
def CN (S : jM) (x : Nat) : Prop :=
  RmR S (x + 1) 0 v0 ∧ RmR S (x + 21) 0 v0 ∧ (∀ i, i < 14 → jr S (x + 20) i = none) ∧ (∀ i, i < 14 → jr S (x + 40) i = none) ∧ GR S (x + 41) 0 1 (fun _ _ => 0) ∧ (∀ j, ji S (x + 60) j = 0) ∧ (∀ j, ji S (x + 61) j = 0) ∧
  (∀ i, i < 4 → ji S (x + 66 + 2 * i) 0 = -1 ∧ ji S (x + 66 + 2 * i) 1 = 0 ∧ ∀ j, j < 24 → ji S (x + 67 + 2 * i) j = 0) ∧ (∀ i, i < 5 → ji S (x + 74 + 4 * i) 0 = 0) ∧ ji S x = (fun _ => 0)
section jCons4
variable {E : jEnv} {d : Nat} {S : jM}
theorem l_X10_slots {Q : jM → Prop} {x : Nat} {l : List (Nat × Nat)} (hl : (7, x + 64) ∈ l) (h : ∀ S', jn S' = x + 94 → XC S' x l → (∀ y, y < x + 74 → y ≠ x → y ≠ x + 64 → jcs S S' y) → jk S' (x + 64) = 15 → jl S' (x + 64) = 5 → (∀ i, i < 5 → jr S' (x + 64) i = some (x + 74 + 4 * i) ∧ SlL S' (x + 74 + 4 * i) ∧ ji S' (x + 74 + 4 * i) 0 = 0) → Q S') :
    ∀ (n i : Nat) (S1 : jM), i + n = 5 → jn S1 = x + 74 + 4 * i → XC S1 x l → (∀ y, y < x + 74 → y ≠ x → y ≠ x + 64 → jcs S S1 y) → jk S1 (x + 64) = 15 → jl S1 (x + 64) = 5 → (∀ k, k < i → jr S1 (x + 64) k = some (x + 74 + 4 * k) ∧ SlL S1 (x + 74 + 4 * k) ∧ ji S1 (x + 74 + 4 * k) 0 = 0) → L_X10_init_111 E (d + 2) Q x (nI i) S1 (73 + 4 * i) (1006 + 38 * i) := by
  intro n
  induction n with
  | zero =>
    intro i S1 hi hn hx hs k1 k2 k3
    obtain rfl : i = 5 := by omega
    exact T_X10_init_111 ⟨fun _ => ⟨by decide, h S1 hn hx hs k1 k2 k3⟩, fun c => absurd (by decide) c⟩
  | succ n ih =>
    intro i S1 hi hn hx hs k1 k2 k3
    refine T_X10_init_111 ⟨fun c => absurd c (nI_ge (b := 5) (by omega) (by omega)), fun _ => ⟨hx.1, x + 64, hx.2.2 _ hl, ⟨by omega, by omega⟩, fun q hq => ⟨⟨by omega, by omega⟩, ?_⟩⟩⟩
    have hq : q = x + 74 + 4 * i := hq.trans hn
    subst hq
    refine c_X7_init (S := jnew S1 7 0) (by rw [jk_newE, if_pos hn.symm]) (by show jn S1 + 1 = _; rw [hn]) (by rw [ji_newE, if_pos hn.symm]) (fun S2 n2 s2 hsl h0 => ?_)
    have st : ∀ y, y < x + 74 + 4 * i → jcs S1 S2 y := fun y hy => (jcs.new (by rw [hn]; omega)).trans (s2 y hy)
    have c64 := st (x + 64) (by omega)
    refine ⟨c64.1.trans k1, hsl.1, by rw [c64.2.1, k2]; exact jin_nI (by omega) (by omega), ?_⟩
    rw [jcl (by omega), nI_1]
    have e1 : 73 + 4 * i + 1 + 3 = 73 + 4 * (i + 1) := by omega
    have e2 : 1006 + 38 * i + 4 + 34 = 1006 + 38 * (i + 1) := by omega
    rw [e1, e2]
    have sp : ∀ y, y ≠ x + 64 → jcs S2 (jputr S2 (x + 64) i (some (x + 74 + 4 * i))) y := fun y hy => jcs.putr hy
    refine ih (i + 1) _ (by omega) (by show jn S2 = _; omega) (hx.cs ((st x (by omega)).trans (sp x (by omega)))) (fun y h1 h2 h3 => (hs y h1 h2 h3).trans ((st y (by omega)).trans (sp y h3))) (c64.1.trans k1) (c64.2.1.trans k2) (fun k hk => ?_)
    by_cases hki : k = i
    · subst hki
      exact ⟨by rw [jr_putr, if_pos ⟨rfl, rfl⟩], hsl.grow (fun y h1 h2 => sp y (by omega)), h0⟩
    · obtain ⟨m1, m2, m3⟩ := k3 k (by omega)
      refine ⟨by rw [jr_putr, if_neg (fun c => hki c.2), c64.2.2.2]; exact m1, m2.grow (fun y h1 h2 => (st y (by omega)).trans (sp y (by omega))), ?_⟩
      show ji S2 (x + 74 + 4 * k) 0 = 0
      rw [(st (x + 74 + 4 * k) (by omega)).2.2.1]; exact m3
theorem l_X10_sheets {Q : jM → Prop} {x : Nat} {l : List (Nat × Nat)} (hl : (6, x + 63) ∈ l) (h : ∀ S', jn S' = x + 74 → XC S' x l → (∀ y, y < x + 66 → y ≠ x → y ≠ x + 63 → jcs S S' y) → jk S' (x + 63) = 14 → jl S' (x + 63) = 4 → (∀ i, i < 4 → jr S' (x + 63) i = some (x + 66 + 2 * i) ∧ ShR S' (x + 66 + 2 * i) (x + 67 + 2 * i) (-1) 0 (fun _ => 0)) → L_X10_init_111 E (d + 2) Q x 0 S' 73 1006) :
    ∀ (n i : Nat) (S1 : jM), i + n = 4 → jn S1 = x + 66 + 2 * i → XC S1 x l → (∀ y, y < x + 66 → y ≠ x → y ≠ x + 63 → jcs S S1 y) → jk S1 (x + 63) = 14 → jl S1 (x + 63) = 4 → (∀ k, k < i → jr S1 (x + 63) k = some (x + 66 + 2 * k) ∧ ShR S1 (x + 66 + 2 * k) (x + 67 + 2 * k) (-1) 0 (fun _ => 0)) → L_X10_init_85 E (d + 2) Q x (nI i) S1 (65 + 2 * i) (898 + 27 * i) := by
  intro n
  induction n with
  | zero =>
    intro i S1 hi hn hx hs k1 k2 k3
    obtain rfl : i = 4 := by omega
    exact T_X10_init_85 ⟨fun _ => h S1 hn hx hs k1 k2 k3, fun c => absurd (by decide) c⟩
  | succ n ih =>
    intro i S1 hi hn hx hs k1 k2 k3
    refine T_X10_init_85 ⟨fun c => absurd c (nI_ge (b := 4) (by omega) (by omega)), fun _ => ⟨hx.1, x + 63, hx.2.2 _ hl, ⟨by omega, by omega⟩, fun q hq => ⟨⟨by omega, by omega⟩, ?_⟩⟩⟩
    have hq : q = x + 66 + 2 * i := hq.trans hn
    subst hq
    refine c_X6_init (S := jnew S1 6 0) (by rw [jk_newE, if_pos hn.symm]) (by show _ < jn S1 + 1; omega) (by rw [ji_newE, if_pos hn.symm]) (fun S2 n2 s2 hsh => ?_)
    have nn : jn (jnew S1 6 0) = x + 67 + 2 * i := by show jn S1 + 1 = _; omega
    rw [nn] at n2 s2 hsh
    have st : ∀ y, y < x + 66 + 2 * i → jcs S1 S2 y := fun y hy => (jcs.new (by rw [hn]; omega)).trans (s2 y (by omega) (by omega))
    have c63 := st (x + 63) (by omega)
    refine ⟨c63.1.trans k1, hsh.1.1, by rw [c63.2.1, k2]; exact jin_nI (by omega) (by omega), ?_⟩
    rw [jcl (by omega), nI_1]
    have e1 : 65 + 2 * i + 1 + 1 = 65 + 2 * (i + 1) := by omega
    have e2 : 898 + 27 * i + 3 + 24 = 898 + 27 * (i + 1) := by omega
    rw [e1, e2]
    have sp : ∀ y, y ≠ x + 63 → jcs S2 (jputr S2 (x + 63) i (some (x + 66 + 2 * i))) y := fun y hy => jcs.putr hy
    refine ih (i + 1) _ (by omega) (by show jn S2 = _; omega) (hx.cs ((st x (by omega)).trans (sp x (by omega)))) (fun y h1 h2 h3 => (hs y h1 h2 h3).trans ((st y (by omega)).trans (sp y h3))) (c63.1.trans k1) (c63.2.1.trans k2) (fun k hk => ?_)
    by_cases hki : k = i
    · subst hki
      exact ⟨by rw [jr_putr, if_pos ⟨rfl, rfl⟩], hsh.grow (sp _ (by omega)) (sp _ (by omega))⟩
    · obtain ⟨m1, m2⟩ := k3 k (by omega)
      exact ⟨by rw [jr_putr, if_neg (fun c => hki c.2), c63.2.2.2]; exact m1, m2.grow ((st _ (by omega)).trans (sp _ (by omega))) ((st _ (by omega)).trans (sp _ (by omega)))⟩
/-- the parts stand still while the later ones are made -/
theorem x10_end {x : Nat} {S2 S3 S6 S7 S10 S11 S14 S15 S18 S22 S23 S24 : jM} (s3 : ∀ y, y < x + 21 → y ≠ x → jcs S2 S3 y) (s6 : ∀ y, y < x + 21 → jcs S3 S6 y) (s7 : ∀ y, y < x + 41 → y ≠ x → jcs S6 S7 y) (s10 : ∀ y, y < x + 41 → jcs S7 S10 y) (s11 : ∀ y, y < x + 52 → y ≠ x → jcs S10 S11 y) (s14 : ∀ y, y < x + 52 → jcs S11 S14 y) (s15 : ∀ y, y < x + 60 → y ≠ x → jcs S14 S15 y) (s18 : ∀ y, y < x + 60 → jcs S15 S18 y) (s22 : ∀ y, y < x + 63 → y ≠ x → jcs S18 S22 y) (s23 : ∀ y, y < x + 66 → y ≠ x → y ≠ x + 63 → jcs S22 S23 y) (s24 : ∀ y, y < x + 74 → y ≠ x → y ≠ x + 64 → jcs S23 S24 y)
    (hr2 : RmR S2 (x + 1) 0 v0) (ht2 : ∀ i, i < 14 → jr S2 (x + 20) i = none) (hr6 : RmR S6 (x + 21) 0 v0) (ht6 : ∀ i, i < 14 → jr S6 (x + 40) i = none) (hg10 : GR S10 (x + 41) 0 1 (fun _ _ => 0)) (hs14 : SrL S14 (x + 52)) (ht18 : TpL S18 (x + 60)) (z60 : ∀ j, ji S18 (x + 60) j = 0) (z61 : ∀ j, ji S18 (x + 61) j = 0)
    (x24 : XC S24 x [(8, x + 65), (7, x + 64), (6, x + 63), (5, x + 60), (4, x + 52), (3, x + 41), (1, x + 21), (0, x + 1)])
    (k63 : jk S23 (x + 63) = 14 ∧ jl S23 (x + 63) = 4) (hsh : ∀ i, i < 4 → jr S23 (x + 63) i = some (x + 66 + 2 * i) ∧ ShR S23 (x + 66 + 2 * i) (x + 67 + 2 * i) (-1) 0 (fun _ => 0)) (k64 : jk S24 (x + 64) = 15 ∧ jl S24 (x + 64) = 5) (hsl : ∀ i, i < 5 → jr S24 (x + 64) i = some (x + 74 + 4 * i) ∧ SlL S24 (x + 74 + 4 * i) ∧ ji S24 (x + 74 + 4 * i) 0 = 0) (k65 : jk S22 (x + 65) = 12 ∧ jl S22 (x + 65) = 60) :
    CL S24 x ∧ CN S24 x ∧ ∀ y, y < x → jcs S2 S24 y := by
  have t22 : ∀ y, y < x + 63 → y ≠ x → jcs S22 S24 y := fun y h1 h2 => (s23 y (by omega) h2 (by omega)).trans (s24 y (by omega) h2 (by omega))
  have t18 : ∀ y, y < x + 63 → y ≠ x → jcs S18 S24 y := fun y h1 h2 => (s22 y h1 h2).trans (t22 y h1 h2)
  have t14 : ∀ y, y < x + 60 → y ≠ x → jcs S14 S24 y := fun y h1 h2 => ((s15 y (by omega) h2).trans (s18 y (by omega))).trans (t18 y (by omega) h2)
  have t10 : ∀ y, y < x + 52 → y ≠ x → jcs S10 S24 y := fun y h1 h2 => ((s11 y (by omega) h2).trans (s14 y (by omega))).trans (t14 y (by omega) h2)
  have t6 : ∀ y, y < x + 41 → y ≠ x → jcs S6 S24 y := fun y h1 h2 => ((s7 y (by omega) h2).trans (s10 y (by omega))).trans (t10 y (by omega) h2)
  have t2 : ∀ y, y < x + 21 → y ≠ x → jcs S2 S24 y := fun y h1 h2 => ((s3 y (by omega) h2).trans (s6 y (by omega))).trans (t6 y (by omega) h2)
  have a63 := s24 (x + 63) (by omega) (by omega) (by omega)
  have a65 := (s23 (x + 65) (by omega) (by omega) (by omega)).trans (s24 (x + 65) (by omega) (by omega) (by omega))
  have hh : ∀ i, i < 4 → ShR S24 (x + 66 + 2 * i) (x + 67 + 2 * i) (-1) 0 (fun _ => 0) := fun i hi => (hsh i hi).2.grow (s24 _ (by omega) (by omega) (by omega)) (s24 _ (by omega) (by omega) (by omega))
  have hrf := x24.2.2
  have c0 := hrf (0, x + 1) (by simp)
  have c1 := hrf (1, x + 21) (by simp)
  have c3 := hrf (3, x + 41) (by simp)
  have c4 := hrf (4, x + 52) (by simp)
  have c5 := hrf (5, x + 60) (by simp)
  have c6 := hrf (6, x + 63) (by simp)
  have c7 := hrf (7, x + 64) (by simp)
  have c8 := hrf (8, x + 65) (by simp)
  have d1 : SrL S24 (x + 52) := hs14.grow (fun y h1 h2 => t14 y (by omega) (by omega))
  have d2 : TpL S24 (x + 60) := ht18.grow (fun y h1 h2 => t18 y (by omega) (by omega))
  have d3 : RmR S24 (x + 1) 0 v0 := hr2.grow (fun y h1 h2 => t2 y (by omega) (by omega))
  have d4 : RmR S24 (x + 21) 0 v0 := hr6.grow (fun y h1 h2 => t6 y (by omega) (by omega))
  have d5 : GR S24 (x + 41) 0 1 (fun _ _ => 0) := hg10.grow (fun y h1 h2 => t10 y (by omega) (by omega))
  have e20 := (t2 (x + 20) (by omega) (by omega)).2.2.2
  have e40 := (t6 (x + 40) (by omega) (by omega)).2.2.2
  have e60 := (t18 (x + 60) (by omega) (by omega)).2.2.1
  have e61 := (t18 (x + 61) (by omega) (by omega)).2.2.1
  refine ⟨⟨x24.1, ⟨c0, c1, c3, c4, c5, c6, c7, c8⟩, d1, d2, ⟨a63.1.trans k63.1, a63.2.1.trans k63.2, fun i hi => by rw [a63.2.2.2]; exact (hsh i hi).1⟩, ⟨k64.1, k64.2, fun i hi => (hsl i hi).1⟩, ⟨a65.1.trans k65.1, a65.2.1.trans k65.2⟩, fun i hi => (hh i hi).1, fun i hi => (hsl i hi).2.1⟩, ⟨d3, d4, fun i hi => by rw [e20]; exact ht2 i hi, fun i hi => by rw [e40]; exact ht6 i hi, d5, fun j => by rw [e60]; exact z60 j, fun j => by rw [e61]; exact z61 j, fun i hi => (hh i hi).2, fun i hi => (hsl i hi).2.2, x24.2.1⟩, fun y hy => t2 y (by omega) (by omega)⟩
set_option maxHeartbeats 800000 in
theorem c_X10_init {Q : jM → Prop} {x : Nat} (hk : jk S x = 10) (hq : jn S = x + 1) (h0 : ji S x = fun _ => 0) (h : ∀ S', jn S' = x + 94 → (∀ y, y < x → jcs S S' y) → CL S' x → CN S' x → Q S') : jFv E mX10_init (d + 4) 93 1196 [.ref x] S Q := by
  refine T_X10_init (fun q hqq => ?_)
  have hqq : q = x + 1 := hqq.trans hq
  subst hqq
  have s0 : ∀ y, y ≠ x + 1 → jcs S (jnew S 3 0) y := fun y hy => jcs.new (by rw [hq]; exact hy)
  refine c_X3_init (S := jnew S 3 0) (by rw [jk_newE]; exact if_pos hq.symm) (by show jn S + 1 = _; omega) (by rw [ji_newE]; exact if_pos hq.symm) (fun S2 n2 s2 hr2 ht2 => ?_)
  have x2 : XC S2 x [] := by
    have c := (s0 x (by omega)).trans (s2 x (by omega))
    exact ⟨c.1.trans hk, c.2.2.1.trans h0, fun p hp => absurd hp List.not_mem_nil⟩
  refine ⟨x2.1, fun q hq2 => ?_⟩
  have hq2 : q = x + 21 := hq2.trans n2
  subst hq2
  obtain ⟨x3, n3, k3, -, i3, -, s3⟩ := x2.step (j := 0) (b := x + 1) (kd := 3) (n := 0) (fun p hp => absurd hp List.not_mem_nil) n2 (by omega)
  generalize jnew (jputr S2 x 0 (some (x + 1))) 3 0 = S3 at *
  refine c_X3_init (S := S3) k3 (by omega) i3 (fun S6 n6 s6 hr6 ht6 => ?_)
  have x6 := x3.cs (s6 x (by omega))
  refine ⟨x6.1, fun q hq6 => ?_⟩
  have hq6 : q = x + 41 := hq6.trans n6
  subst hq6
  obtain ⟨x7, n7, k7, -, i7, -, s7⟩ := x6.step (j := 1) (b := x + 21) (kd := 0) (n := 0) (by simp) n6 (by omega)
  generalize jnew (jputr S6 x 1 (some (x + 21))) 0 0 = S7 at *
  refine c_X0_init (S := S7) k7 (by omega) i7 (fun S10 n10 s10 hg10 => ?_)
  have x10 := x7.cs (s10 x (by omega))
  refine ⟨x10.1, fun q hq10 => ?_⟩
  have hq10 : q = x + 52 := hq10.trans n10
  subst hq10
  obtain ⟨x11, n11, k11, -, i11, -, s11⟩ := x10.step (j := 3) (b := x + 41) (kd := 5) (n := 0) (by simp) n10 (by omega)
  generalize jnew (jputr S10 x 3 (some (x + 41))) 5 0 = S11 at *
  refine c_X5_init (S := S11) k11 (by omega) (fun S14 n14 s14 hs14 => ?_)
  have x14 := x11.cs (s14 x (by omega))
  refine ⟨x14.1, fun q hq14 => ?_⟩
  have hq14 : q = x + 60 := hq14.trans n14
  subst hq14
  obtain ⟨x15, n15, k15, -, i15, -, s15⟩ := x14.step (j := 4) (b := x + 52) (kd := 8) (n := 0) (by simp) n14 (by omega)
  generalize jnew (jputr S14 x 4 (some (x + 52))) 8 0 = S15 at *
  refine c_X8_init (S := S15) k15 (by omega) i15 (fun S18 n18 s18 ht18 z60 z61 => ?_)
  have x18 := x15.cs (s18 x (by omega))
  refine ⟨x18.1, fun q hq18 => ?_⟩
  have hq18 : q = x + 63 := hq18.trans n18
  subst hq18
  obtain ⟨x19, n19, k19, l19, -, r19, s19⟩ := x18.step (j := 5) (b := x + 60) (kd := 14) (n := 4) (by simp) n18 (by omega)
  generalize jnew (jputr S18 x 5 (some (x + 60))) 14 4 = S19 at *
  refine ⟨x19.1, fun q hq19 => ?_⟩
  have hq19 : q = x + 64 := hq19.trans n19
  subst hq19
  obtain ⟨x20, n20, k20, l20, -, r20, s20⟩ := x19.step (j := 6) (b := x + 63) (kd := 15) (n := 5) (by simp) n19 (by omega)
  generalize jnew (jputr S19 x 6 (some (x + 63))) 15 5 = S20 at *
  refine ⟨x20.1, fun q hq20 => ?_⟩
  have hq20 : q = x + 65 := hq20.trans n20
  subst hq20
  obtain ⟨x21, n21, k21, l21, -, -, s21⟩ := x20.step (j := 7) (b := x + 64) (kd := 12) (n := 60) (by simp) n20 (by omega)
  generalize jnew (jputr S20 x 7 (some (x + 64))) 12 60 = S21 at *
  refine ⟨x21.1, ?_⟩
  have x22 := x21.putr (j := 8) (b := x + 65) (by simp)
  have s22 : ∀ y, y ≠ x → jcs S21 (jputr S21 x 8 (some (x + 65))) y := fun y hy => jcs.putr hy
  have n22 : jn (jputr S21 x 8 (some (x + 65))) = x + 66 := n21
  generalize jputr S21 x 8 (some (x + 65)) = S22 at *
  have a63 : jcs S19 S22 (x + 63) := ((s20 _ (by omega) (by omega)).trans (s21 _ (by omega) (by omega))).trans (s22 _ (by omega))
  have a64 : jcs S20 S22 (x + 64) := (s21 _ (by omega) (by omega)).trans (s22 _ (by omega))
  have a65 : jcs S21 S22 (x + 65) := s22 _ (by omega)
  refine l_X10_sheets (S := S22) (l := _) (by simp) (fun S23 n23 x23 s23 k63 l63 hsh => ?_) 4 0 S22 (by omega) n22 x22 (fun _ _ _ _ => jcs.rfl) (a63.1.trans k19) (a63.2.1.trans l19) (fun k hk => absurd hk (by omega))
  have b64 := s23 (x + 64) (by omega) (by omega) (by omega)
  refine l_X10_slots (S := S23) (l := _) (by simp) (fun S24 n24 x24 s24 k64 l64 hsl => ?_) 5 0 S23 (by omega) n23 x23 (fun _ _ _ _ => jcs.rfl) (b64.1.trans (a64.1.trans k20)) (b64.2.1.trans (a64.2.1.trans l20)) (fun k hk => absurd hk (by omega))
  have q22 : ∀ y, y < x + 63 → y ≠ x → jcs S18 S22 y := fun y h1 h2 => (s19 y h1 h2).trans ((s20 y (Nat.lt_succ_of_lt h1) h2).trans ((s21 y (Nat.lt_succ_of_lt (Nat.lt_succ_of_lt h1)) h2).trans (s22 y h2)))
  obtain ⟨cl, cn, co⟩ := x10_end s3 s6 s7 s10 s11 s14 s15 s18 q22 s23 s24 hr2 ht2 hr6 ht6 hg10 hs14 ht18 z60 z61 x24 ⟨k63, l63⟩ hsh ⟨k64, l64⟩ hsl ⟨a65.1.trans k21, a65.2.1.trans l21⟩
  exact h S24 n24 (fun y hy => ((s0 y (Nat.ne_of_lt (Nat.lt_succ_of_lt hy))).trans (s2 y (Nat.lt_succ_of_lt hy))).trans (co y hy)) cl cn
end jCons4
end
section
/-! THE CONSTRUCTOR of the reference -/
def MT : List (Nat × Nat) := [(0, 3135), (1, 3135), (2, 3135), (4, 4), (5, 4), (6, 96), (7, 5), (8, 5), (9, 5), (10, 5), (11, 120), (12, 36), (13, 135), (14, 4), (18, 96), (30, 128), (31, 100), (32, 24), (33, 60), (35, 60)]
def ML (S : jM) (a : Nat) : Prop := jk S a = 11 ∧ ∀ k p, MT[k]? = some p → jr S a p.1 = some (a + 1 + k) ∧ jk S (a + 1 + k) = 12 ∧ jl S (a + 1 + k) = p.2
def MN (S : jM) (a : Nat) : Prop := (∀ j, ji S a j = 0) ∧ (∀ j, ji S (a + 1) j = v0 j) ∧ (∀ j, j < 4 → ji S (a + 4) j = -1) ∧ ∀ k, 1 ≤ k → k < 20 → k ≠ 3 → ∀ j, ji S (a + 1 + k) j = 0
section jCons5
variable {E : jEnv} {d : Nat} {S : jM}
theorem l_X11_init {Q : jM → Prop} {a b : Nat} (h : ∀ S', jn S' = jn S → (∀ y, y ≠ b → jcs S S' y) → jk S' b = jk S b → jl S' b = jl S b → (∀ j, j < 4 → ji S' b j = -1) → Q S') (hk : jk S a = 11) (hr : jr S a 4 = some b) (hb : jk S b = 12) (hl : jl S b = 4) :
    ∀ (n i : Nat) (S1 : jM), i + n = 4 → jn S1 = jn S → (∀ y, y ≠ b → jcs S S1 y) → jk S1 b = jk S b → jl S1 b = jl S b → jk S1 a = 11 → jr S1 a 4 = some b → (∀ j, j < i → ji S1 b j = -1) → L_X11_init_180 E d Q a (nI i) S1 20 10292 := by
  intro n
  induction n with
  | zero =>
    intro i S1 hi hn hs k1 k2 k3 k4 k5
    obtain rfl : i = 4 := by omega
    exact T_X11_init_180 ⟨fun _ => ⟨by decide, h S1 hn hs k1 k2 k5⟩, fun c => absurd (by decide) c⟩
  | succ n ih =>
    intro i S1 hi hn hs k1 k2 k3 k4 k5
    refine T_X11_init_180 ⟨fun c => absurd c (nI_ge (b := 4) (by omega) (by omega)), fun _ => ⟨k3, b, k4, k1.trans hb, by rw [k2, hl]; exact jin_nI (by omega) (by omega), ?_⟩⟩
    rw [jcl (by omega), nI_1]
    refine ih (i + 1) _ (by omega) hn (fun y hy => (hs y hy).trans (jcs.put hy)) k1 k2 k3 k4 (fun j hj => ?_)
    rw [ji_put]
    by_cases hji : j = i
    · rw [if_pos ⟨rfl, hji⟩]
    · rw [if_neg (fun c => hji c.2)]; exact k5 j (by omega)
set_option maxHeartbeats 2000000 in
theorem c_X11_init {Q : jM → Prop} {a : Nat} (hk : jk S a = 11) (hq : jn S = a + 1) (h0 : ji S a = fun _ => 0) (h : ∀ S', jn S' = a + 21 → (∀ y, y < a → jcs S S' y) → ML S' a → MN S' a → Q S') : jFv E mX11_init (d + 1) 20 10292 [.ref a] S Q := by
  refine T_X11_init ?_
  have ha : a < jn S := by omega
  refine VA_of (a := a) (kd := 11) (K := fun S' => ∃ b61, jr S' a 0 = some b61 ∧ jk S' b61 = 12 ∧ vp_in 8 (jl S' b61) ∧ (vp_in 5 (jl S' b61) ∧ L_X11_init_180 E d Q a 0 (jput (jput S' b61 (Int32.toNatClampNeg 8) 1) b61 (Int32.toNatClampNeg 5) 100) 20 10292)) MT S hk ha ?_
  obtain ⟨a1, a2, a3, a4⟩ := JAs_a a MT S ha
  have hat := fun k p => JAs_at a MT S k p ha
  have hrf := fun k p => JAs_ref a MT S k p ha (by decide)
  have hn : jn (JAs a S MT) = jn S + 20 := JAs_n a MT S
  have hkeep := JAs_keep a MT S
  generalize JAs a S MT = S1 at *
  rw [hq] at hat hrf hn
  have r0 := hrf 0 (0, 3135) rfl
  have t0 := hat 0 (0, 3135) rfl
  have r3 := hrf 3 (4, 4) rfl
  have t3 := hat 3 (4, 4) rfl
  refine ⟨a + 1, r0, t0.1, by rw [t0.2.1]; exact jin_nI (n := 8) (N := 3135) (by decide) (by decide), by rw [t0.2.1]; exact jin_nI (n := 5) (N := 3135) (by decide) (by decide), ?_⟩
  have e8 : Int32.toNatClampNeg 8 = 8 := by decide
  have e5 : Int32.toNatClampNeg 5 = 5 := by decide
  rw [e8, e5]
  have s2 : ∀ y, y ≠ a + 1 → jcs S1 (jput (jput S1 (a + 1) 8 1) (a + 1) 5 100) y := fun y hy => (jcs.put hy).trans (jcs.put hy)
  have i2 : ∀ j, ji (jput (jput S1 (a + 1) 8 1) (a + 1) 5 100) (a + 1) j = v0 j := by
    intro j
    rw [ji_put, ji_put]
    unfold v0
    by_cases h5 : j = 5
    · simp [h5]
    · by_cases h8 : j = 8
      · simp [h8]
      · simp only [h5, h8, and_false, if_false]; exact congrFun t0.2.2 j
  have n2 : jn (jput (jput S1 (a + 1) 8 1) (a + 1) 5 100) = a + 21 := hn
  have kk : jk (jput (jput S1 (a + 1) 8 1) (a + 1) 5 100) = jk S1 := rfl
  have ll : jl (jput (jput S1 (a + 1) 8 1) (a + 1) 5 100) = jl S1 := rfl
  have rr : jr (jput (jput S1 (a + 1) 8 1) (a + 1) 5 100) = jr S1 := rfl
  generalize jput (jput S1 (a + 1) 8 1) (a + 1) 5 100 = S2 at *
  refine l_X11_init (S := S2) (a := a) (b := a + 1 + 3) (fun S3 n3 s3 k3 l3 i3 => ?_) (by rw [kk]; exact a1.trans hk) (by rw [rr]; exact r3) (by rw [kk]; exact t3.1) (by rw [ll]; exact t3.2.1) 4 0 S2 rfl rfl (fun _ _ => jcs.rfl) rfl rfl (by rw [kk]; exact a1.trans hk) (by rw [rr]; exact r3) (fun j hj => absurd hj (Nat.not_lt_zero _))
  have ca := (s2 a (by omega)).trans (s3 a (by omega))
  have k23 : jk S3 = jk S2 := by
    funext y
    by_cases hy : y = a + 1 + 3
    · subst hy; exact k3
    · exact (s3 y hy).1
  have l23 : jl S3 = jl S2 := by
    funext y
    by_cases hy : y = a + 1 + 3
    · subst hy; exact l3
    · exact (s3 y hy).2.1
  refine h S3 (n3.trans n2) (fun y hy => (hkeep y (by omega) (by omega)).trans ((s2 y (by omega)).trans (s3 y (by omega)))) ⟨?_, fun k p hp => ⟨?_, ?_, ?_⟩⟩ ⟨fun j => ?_, fun j => ?_, i3, fun k h1 h2 h3 j => ?_⟩
  · rw [k23, kk]; exact a1.trans hk
  · rw [ca.2.2.2]; exact hrf k p hp
  · rw [k23, kk]; exact (hat k p hp).1
  · rw [l23, ll]; exact (hat k p hp).2.1
  · rw [ca.2.2.1, a3, h0]
  · rw [(s3 (a + 1) (by omega)).2.2.1]; exact i2 j
  · rw [(s3 (a + 1 + k) (by omega)).2.2.1, (s2 (a + 1 + k) (by omega)).2.2.1]
    have hl : k < MT.length := h2
    exact congrFun (hat k _ (List.getElem?_eq_getElem hl)).2.2 j
end jCons5
end
section
/-! the reference's calls, with the reference there -/
abbrev jFm (E : jEnv) (M : jMd) (d m : Nat) (As : List Value) (S : jM) (Q : Int32 → jM → Prop) : Prop := jk S m = 11 ∧ jFi E M d 0 0 (.ref m :: As) S Q
theorem U_X11_master {E : jEnv} {d : Nat} {Q : Int32 → jM → Prop} {a0 : Nat} {x1 : Int32} {x2 : Int32} {x3 : Int32} {x4 : Int32} {S : jM} (hk : jk S a0 = 11) (h : ((jisin (Int32.toInt64 x1) 0 5) = 0 → Q (-1000000001) S) ∧ (¬ (jisin (Int32.toInt64 x1) 0 5) = 0 → ((jist x2) = 0 → Q (-1000000001) S) ∧ (¬ (jist x2) = 0 → ((jisg x3) = 0 → Q (-1000000001) S) ∧ (¬ (jisg x3) = 0 → ((jisin (Int32.toInt64 x4) 0 99) = 0 → Q (-1000000001) S) ∧ (¬ (jisin (Int32.toInt64 x4) 0 99) = 0 → jk S a0 = 11 ∧ ∃ b18, jr S a0 0 = some b18 ∧ (jk S b18 = 12 ∧ vp_in 0 (jl S b18) ∧ (((ji S b18 (Int32.toNatClampNeg 0)) = 9 → Q (-1000000003) S) ∧ (¬ (ji S b18 (Int32.toNatClampNeg 0)) = 9 → jFv E mX11_comes d 0 0 [.ref a0, .int x1, .int x2, .int x3, .int x4] S (fun S22 => jk S22 a0 = 11 ∧ ∃ b24, jr S22 a0 0 = some b24 ∧ (jk S22 b24 = 12 ∧ vp_in 0 (jl S22 b24) ∧ (Q ((ji S22 b24 (Int32.toNatClampNeg 0)) - 1) S22))))))))))) : jFm E mX11_master (d + 1) a0 [.int x1, .int x2, .int x3, .int x4] S Q := ⟨hk, T_X11_master h⟩
theorem U_X11_told {E : jEnv} {d : Nat} {Q : Int32 → jM → Prop} {a0 : Nat} {x1 : Int32} {x2 : Int32} {S : jM} (hk : jk S a0 = 11) (h : jk S a0 = 11 ∧ jFi E mX11_isMaster d 0 0 [.ref a0, .int x1] S (fun r3 S2 => (r3 = 0 → Q (-1000000001) S2) ∧ (¬ r3 = 0 → ((jisin (Int32.toInt64 x2) 0 9) = 0 → Q (-1000000001) S2) ∧ (¬ (jisin (Int32.toInt64 x2) 0 9) = 0 → (7 ≤ x2 → (x2 = 7 → jk S2 a0 = 11 ∧ ∃ b23, jr S2 a0 0 = some b23 ∧ (jk S2 b23 = 12 ∧ vp_in 4 (jl S2 b23) ∧ (jFi E mX11_takes d 0 0 [.ref a0, .int x1, .int (jmany (ji S2 b23 (Int32.toNatClampNeg 4)))] S2 (fun r30 S29 => Q r30 S29)))) ∧ (¬ x2 = 7 → (x2 = 9 → jk S2 a0 = 11 ∧ jFi E mX11_worth d 0 0 [.ref a0, .int x1] S2 (fun r21 S20 => Q r21 S20)) ∧ (¬ x2 = 9 → jk S2 a0 = 11 ∧ ∃ b13, jr S2 a0 0 = some b13 ∧ (jk S2 b13 = 12 ∧ vp_in 4 (jl S2 b13) ∧ (jFi E mX11_teaches d 0 0 [.ref a0, .int x1, .int (ji S2 b13 (Int32.toNatClampNeg 4))] S2 (fun r17 S16 => (r17 = 0 → Q 0 S16) ∧ (¬ r17 = 0 → Q 1 S16))))))) ∧ (¬ 7 ≤ x2 → jk S2 a0 = 11 ∧ jFi E mX11_of d 0 0 [.ref a0, .int x1, .int x2] S2 (fun r33 S32 => Q r33 S32)))))) : jFm E mX11_told (d + 1) a0 [.int x1, .int x2] S Q := ⟨hk, T_X11_told h⟩
theorem U_X11_as {E : jEnv} {d : Nat} {Q : Int32 → jM → Prop} {a0 : Nat} {x1 : Int32} {x2 : Int32} {S : jM} (hk : jk S a0 = 11) (h : jk S a0 = 11 ∧ jFi E mX11_isMaster d 0 0 [.ref a0, .int x1] S (fun r3 S2 => (r3 = 0 → Q (-1000000001) S2) ∧ (¬ r3 = 0 → ((jisin (Int32.toInt64 x2) 0 5) = 0 → Q (-1000000001) S2) ∧ (¬ (jisin (Int32.toInt64 x2) 0 5) = 0 → jk S2 a0 = 11 ∧ jFi E mX11_of d 0 0 [.ref a0, .int x1, .int 0] S2 (fun r11 S10 => ((jisof r11 x2) = 0 → Q (-1000000012) S10) ∧ (¬ (jisof r11 x2) = 0 → jk S10 a0 = 11 ∧ jFi E mX11_of d 0 0 [.ref a0, .int x1, .int 4] S10 (fun r18 S17 => Q r18 S17))))))) : jFm E mX11_as (d + 1) a0 [.int x1, .int x2] S Q := ⟨hk, T_X11_as h⟩
theorem U_X11_turns {E : jEnv} {d : Nat} {Q : Int32 → jM → Prop} {a0 : Nat} {x1 : Int32} {x2 : Int32} {S : jM} (hk : jk S a0 = 11) (h : jk S a0 = 11 ∧ jFi E mX11_isMaster d 0 0 [.ref a0, .int x1] S (fun r3 S2 => (r3 = 0 → Q (-1000000001) S2) ∧ (¬ r3 = 0 → ((jisin (Int32.toInt64 x2) 0 5) = 0 → Q (-1000000001) S2) ∧ (¬ (jisin (Int32.toInt64 x2) 0 5) = 0 → jk S2 a0 = 11 ∧ jFi E mX11_becomes d 0 0 [.ref a0, .int (72 + (7 * x1)), .int x2] S2 (fun r11 S10 => Q r11 S10))))) : jFm E mX11_turns (d + 1) a0 [.int x1, .int x2] S Q := ⟨hk, T_X11_turns h⟩
theorem U_X11_set {E : jEnv} {d : Nat} {Q : Int32 → jM → Prop} {a0 : Nat} {x1 : Int32} {x2 : Int32} {x3 : Int32} {S : jM} (hk : jk S a0 = 11) (h : jk S a0 = 11 ∧ jFi E mX11_isMaster d 0 0 [.ref a0, .int x1] S (fun r3 S2 => (r3 = 0 → Q (-1000000001) S2) ∧ (¬ r3 = 0 → ((jisin (Int32.toInt64 x2) 4 6) = 0 → Q (-1000000001) S2) ∧ (¬ (jisin (Int32.toInt64 x2) 4 6) = 0 → (x2 = 6 → ((jisin (Int32.toInt64 x3) 0 1) = 0 → Q (-1000000001) S2) ∧ (¬ (jisin (Int32.toInt64 x3) 0 1) = 0 → jk S2 a0 = 11 ∧ jFi E mX11_becomes d 0 0 [.ref a0, .int ((72 + (7 * x1)) + x2), .int x3] S2 (fun r23 S22 => Q r23 S22))) ∧ (¬ x2 = 6 → ((jisin (Int32.toInt64 x3) 0 99) = 0 → Q (-1000000001) S2) ∧ (¬ (jisin (Int32.toInt64 x3) 0 99) = 0 → jk S2 a0 = 11 ∧ jFi E mX11_becomes d 0 0 [.ref a0, .int ((72 + (7 * x1)) + x2), .int x3] S2 (fun r16 S15 => Q r16 S15))))))) : jFm E mX11_set (d + 1) a0 [.int x1, .int x2, .int x3] S Q := ⟨hk, T_X11_set h⟩
theorem U_X11_bars {E : jEnv} {d : Nat} {Q : Int32 → jM → Prop} {a0 : Nat} {x1 : Int32} {x2 : Int32} {x3 : Int32} {S : jM} (hk : jk S a0 = 11) (h : jk S a0 = 11 ∧ jFi E mX11_isMaster d 0 0 [.ref a0, .int x1] S (fun r3 S2 => (r3 = 0 → Q (-1000000001) S2) ∧ (¬ r3 = 0 → ((jisg x2) = 0 → Q (-1000000001) S2) ∧ (¬ (jisg x2) = 0 → ((jisg x3) = 0 → Q (-1000000001) S2) ∧ (¬ (jisg x3) = 0 → jk S2 a0 = 11 ∧ jFi E mX11_of d 0 0 [.ref a0, .int x1, .int 2] S2 (fun r15 S14 => (x2 = r15 → Q (-1000000001) S14) ∧ (¬ x2 = r15 → jk S14 a0 = 11 ∧ jFi E mX11_of d 0 0 [.ref a0, .int x1, .int 2] S14 (fun r19 S18 => (x3 = r19 → Q (-1000000001) S18) ∧ (¬ x3 = r19 → jk S18 a0 = 11 ∧ jFi E mX11_becomes d 0 0 [.ref a0, .int ((72 + (7 * x1)) + 3), .int ((jshl 1 x2) ||| (jshl 1 x3))] S18 (fun r23 S22 => Q r23 S22)))))))))) : jFm E mX11_bars (d + 1) a0 [.int x1, .int x2, .int x3] S Q := ⟨hk, T_X11_bars h⟩
theorem U_X11_road {E : jEnv} {d : Nat} {Q : Int32 → jM → Prop} {a0 : Nat} {x1 : Int32} {x2 : Int32} {x3 : Int32} {S : jM} (hk : jk S a0 = 11) (h : ((jist x1) = 0 → Q (-1000000001) S) ∧ (¬ (jist x1) = 0 → ((jist x2) = 0 → Q (-1000000001) S) ∧ (¬ (jist x2) = 0 → (x1 = x2 → Q (-1000000001) S) ∧ (¬ x1 = x2 → ((jisin (Int32.toInt64 x3) 0 9) = 0 → Q (-1000000001) S) ∧ (¬ (jisin (Int32.toInt64 x3) 0 9) = 0 → jk S a0 = 11 ∧ ∃ b15, jr S a0 0 = some b15 ∧ (jk S b15 = 12 ∧ vp_in ((36 + (6 * x2)) + x1) (jl S b15) ∧ (jFi E mX11_becomes d 0 0 [.ref a0, .int ((36 + (6 * x1)) + x2), .int x3] (jput S b15 (Int32.toNatClampNeg ((36 + (6 * x2)) + x1)) x3) (fun r19 S18 => Q r19 S18)))))))) : jFm E mX11_road (d + 1) a0 [.int x1, .int x2, .int x3] S Q := ⟨hk, T_X11_road h⟩
theorem U_X11_far {E : jEnv} {d : Nat} {Q : Int32 → jM → Prop} {a0 : Nat} {x1 : Int32} {x2 : Int32} {S : jM} (hk : jk S a0 = 11) (h : ((jist x1) = 0 → Q (-1000000001) S) ∧ (¬ (jist x1) = 0 → ((jist x2) = 0 → Q (-1000000001) S) ∧ (¬ (jist x2) = 0 → jk S a0 = 11 ∧ jFv E mX11_findFar d 0 0 [.ref a0] S (fun S10 => jk S10 a0 = 11 ∧ ∃ b12, jr S10 a0 12 = some b12 ∧ (jk S10 b12 = 12 ∧ vp_in ((6 * x1) + x2) (jl S10 b12) ∧ (((ji S10 b12 (Int32.toNatClampNeg ((6 * x1) + x2))) = 9999 → Q (-1000000005) S10) ∧ (¬ (ji S10 b12 (Int32.toNatClampNeg ((6 * x1) + x2))) = 9999 → Q (ji S10 b12 (Int32.toNatClampNeg ((6 * x1) + x2))) S10))))))) : jFm E mX11_far (d + 1) a0 [.int x1, .int x2] S Q := ⟨hk, T_X11_far h⟩
theorem U_X11_deal {E : jEnv} {d : Nat} {Q : Int32 → jM → Prop} {a0 : Nat} {x1 : Int32} {S : jM} (hk : jk S a0 = 11) (h : ((jisin (Int32.toInt64 x1) 1 9) = 0 → Q (-1000000001) S) ∧ (¬ (jisin (Int32.toInt64 x1) 1 9) = 0 → L_X11_deal_17 E d Q a0 x1 0 S)) : jFm E mX11_deal (d + 1) a0 [.int x1] S Q := ⟨hk, T_X11_deal h⟩
theorem U_X11_seed {E : jEnv} {d : Nat} {Q : Int32 → jM → Prop} {a0 : Nat} {x1 : Int32} {S : jM} (hk : jk S a0 = 11) (h : jk S a0 = 11 ∧ jFi E mX11_becomes d 0 0 [.ref a0, .int 8, .int x1] S (fun r3 S2 => Q r3 S2)) : jFm E mX11_seed (d + 1) a0 [.int x1] S Q := ⟨hk, T_X11_seed h⟩
theorem U_X11_apprentice {E : jEnv} {d : Nat} {Q : Int32 → jM → Prop} {a0 : Nat} {x1 : Int32} {S : jM} (hk : jk S a0 = 11) (h : ((jisin (Int32.toInt64 x1) 0 3) = 0 → Q (-1000000001) S) ∧ (¬ (jisin (Int32.toInt64 x1) 0 3) = 0 → jk S a0 = 11 ∧ ∃ b6, jr S a0 0 = some b6 ∧ (jk S b6 = 12 ∧ vp_in (3 + x1) (jl S b6) ∧ (Q (ji S b6 (Int32.toNatClampNeg (3 + x1))) S)))) : jFm E mX11_apprentice (d + 1) a0 [.int x1] S Q := ⟨hk, T_X11_apprentice h⟩
theorem U_X11_has {E : jEnv} {d : Nat} {Q : Int32 → jM → Prop} {a0 : Nat} {x1 : Int32} {x2 : Int32} {S : jM} (hk : jk S a0 = 11) (h : ((jisin (Int32.toInt64 x1) 2 3) = 0 → Q (-1000000001) S) ∧ (¬ (jisin (Int32.toInt64 x1) 2 3) = 0 → (x1 = 2 → ((jisin (Int32.toInt64 x2) 0 9999) = 0 → Q (-1000000001) S) ∧ (¬ (jisin (Int32.toInt64 x2) 0 9999) = 0 → jk S a0 = 11 ∧ jFi E mX11_becomes d 0 0 [.ref a0, .int (3 + x1), .int x2] S (fun r19 S18 => Q r19 S18))) ∧ (¬ x1 = 2 → ((jisin (Int32.toInt64 x2) 0 99) = 0 → Q (-1000000001) S) ∧ (¬ (jisin (Int32.toInt64 x2) 0 99) = 0 → jk S a0 = 11 ∧ jFi E mX11_becomes d 0 0 [.ref a0, .int (3 + x1), .int x2] S (fun r12 S11 => Q r12 S11))))) : jFm E mX11_has (d + 1) a0 [.int x1, .int x2] S Q := ⟨hk, T_X11_has h⟩
theorem U_X11_knows {E : jEnv} {d : Nat} {Q : Int32 → jM → Prop} {a0 : Nat} {x1 : Int32} {x2 : Int32} {S : jM} (hk : jk S a0 = 11) (h : ((jisg x1) = 0 → Q (-1000000001) S) ∧ (¬ (jisg x1) = 0 → ((jisin (Int32.toInt64 x2) 0 1) = 0 → Q (-1000000001) S) ∧ (¬ (jisin (Int32.toInt64 x2) 0 1) = 0 → jk S a0 = 11 ∧ jFi E mX11_doesKnow d 0 0 [.ref a0, .int x1] S (fun r11 S10 => (r11 = 0 → Q (-1000000002) S10) ∧ (¬ r11 = 0 → jk S10 a0 = 11 ∧ ∃ b14, jr S10 a0 0 = some b14 ∧ ((x2 = 0 → jk S10 b14 = 12 ∧ vp_in (16 + x1) (jl S10 b14) ∧ (Q (ji S10 b14 (Int32.toNatClampNeg (16 + x1))) S10)) ∧ (¬ x2 = 0 → jk S10 b14 = 12 ∧ vp_in (26 + x1) (jl S10 b14) ∧ (Q (ji S10 b14 (Int32.toNatClampNeg (26 + x1))) S10)))))))) : jFm E mX11_knows (d + 1) a0 [.int x1, .int x2] S Q := ⟨hk, T_X11_knows h⟩
theorem U_X11_go {E : jEnv} {d : Nat} {Q : Int32 → jM → Prop} {a0 : Nat} {x1 : Int32} {S : jM} (hk : jk S a0 = 11) (h : ((jist x1) = 0 → Q (-1000000001) S) ∧ (¬ (jist x1) = 0 → jk S a0 = 11 ∧ ∃ b6, jr S a0 0 = some b6 ∧ (jk S b6 = 12 ∧ vp_in 3 (jl S b6) ∧ ((x1 = (ji S b6 (Int32.toNatClampNeg 3)) → Q (-1000000001) S) ∧ (¬ x1 = (ji S b6 (Int32.toNatClampNeg 3)) → (vp_in ((36 + (6 * (ji S b6 (Int32.toNatClampNeg 3)))) + x1) (jl S b6) ∧ (((ji S b6 (Int32.toNatClampNeg ((36 + (6 * (ji S b6 (Int32.toNatClampNeg 3)))) + x1))) = 0 → Q (-1000000002) S) ∧ (¬ (ji S b6 (Int32.toNatClampNeg ((36 + (6 * (ji S b6 (Int32.toNatClampNeg 3)))) + x1))) = 0 → jFv E mX11_goesBy d 0 0 [.ref a0, .int (ji S b6 (Int32.toNatClampNeg ((36 + (6 * (ji S b6 (Int32.toNatClampNeg 3)))) + x1)))] S (fun S12 => jk S12 a0 = 11 ∧ ∃ b14, jr S12 a0 0 = some b14 ∧ (jk S12 b14 = 12 ∧ vp_in 3 (jl S12 b14) ∧ (vp_in 2 (jl S12 b14) ∧ (Q (ji (jput S12 b14 (Int32.toNatClampNeg 3) x1) b14 (Int32.toNatClampNeg 2)) (jput S12 b14 (Int32.toNatClampNeg 3) x1))))))))))))) : jFm E mX11_go (d + 1) a0 [.int x1] S Q := ⟨hk, T_X11_go h⟩
theorem U_X11_learn {E : jEnv} {d : Nat} {Q : Int32 → jM → Prop} {a0 : Nat} {x1 : Int32} {S : jM} (hk : jk S a0 = 11) (h : jk S a0 = 11 ∧ jFi E mX11_isMaster d 0 0 [.ref a0, .int x1] S (fun r3 S2 => (r3 = 0 → Q (-1000000001) S2) ∧ (¬ r3 = 0 → jk S2 a0 = 11 ∧ jFi E mX11_canLearn d 0 0 [.ref a0, .int x1] S2 (fun r7 S6 => (r7 = 0 → Q (-1000000002) S6) ∧ (¬ r7 = 0 → jk S6 a0 = 11 ∧ jFi E mX11_learns d 0 0 [.ref a0, .int x1] S6 (fun r11 S10 => jk S10 a0 = 11 ∧ ∃ b13, jr S10 a0 0 = some b13 ∧ (jk S10 b13 = 12 ∧ vp_in 4 (jl S10 b13) ∧ (Q (ji S10 b13 (Int32.toNatClampNeg 4)) S10)))))))) : jFm E mX11_learn (d + 1) a0 [.int x1] S Q := ⟨hk, T_X11_learn h⟩
theorem U_X11_use {E : jEnv} {d : Nat} {Q : Int32 → jM → Prop} {a0 : Nat} {x1 : Int32} {S : jM} (hk : jk S a0 = 11) (h : ((jisg x1) = 0 → Q (-1000000001) S) ∧ (¬ (jisg x1) = 0 → jk S a0 = 11 ∧ jFi E mX11_doesKnow d 0 0 [.ref a0, .int x1] S (fun r7 S6 => (r7 = 0 → Q (-1000000002) S6) ∧ (¬ r7 = 0 → jk S6 a0 = 11 ∧ jFv E mX11_uses d 0 0 [.ref a0, .int x1] S6 (fun S10 => jk S10 a0 = 11 ∧ ∃ b12, jr S10 a0 0 = some b12 ∧ (jk S10 b12 = 12 ∧ vp_in 4 (jl S10 b12) ∧ (Q (ji S10 b12 (Int32.toNatClampNeg 4)) S10))))))) : jFm E mX11_use (d + 1) a0 [.int x1] S Q := ⟨hk, T_X11_use h⟩
theorem U_X11_rests {E : jEnv} {d : Nat} {Q : Int32 → jM → Prop} {a0 : Nat} {x1 : Int32} {S : jM} (hk : jk S a0 = 11) (h : ((jisin (Int32.toInt64 x1) 1 100) = 0 → Q (-1000000001) S) ∧ (¬ (jisin (Int32.toInt64 x1) 1 100) = 0 → jk S a0 = 11 ∧ jFv E mX11_goesBy d 0 0 [.ref a0, .int x1] S (fun S6 => jk S6 a0 = 11 ∧ ∃ b8, jr S6 a0 0 = some b8 ∧ (jk S6 b8 = 12 ∧ vp_in 4 (jl S6 b8) ∧ (Q (ji S6 b8 (Int32.toNatClampNeg 4)) S6))))) : jFm E mX11_rests (d + 1) a0 [.int x1] S Q := ⟨hk, T_X11_rests h⟩
theorem U_X11_wants {E : jEnv} {d : Nat} {Q : Int32 → jM → Prop} {a0 : Nat} {x1 : Int32} {S : jM} (hk : jk S a0 = 11) (h : ((jisg x1) = 0 → Q (-1000000001) S) ∧ (¬ (jisg x1) = 0 → jk S a0 = 11 ∧ ∃ b6, jr S a0 0 = some b6 ∧ (jk S b6 = 12 ∧ vp_in 7 (jl S b6) ∧ (((ji S b6 (Int32.toNatClampNeg 7)) = 6 → Q (-1000000003) S) ∧ (¬ (ji S b6 (Int32.toNatClampNeg 7)) = 6 → (vp_in (9 + (ji S b6 (Int32.toNatClampNeg 7))) (jl S b6) ∧ ((((Q ((ji (jput S b6 (Int32.toNatClampNeg (9 + (ji S b6 (Int32.toNatClampNeg 7)))) x1) b6 (Int32.toNatClampNeg 7)) + 1) (jput (jput S b6 (Int32.toNatClampNeg (9 + (ji S b6 (Int32.toNatClampNeg 7)))) x1) b6 (Int32.toNatClampNeg 7) ((ji (jput S b6 (Int32.toNatClampNeg (9 + (ji S b6 (Int32.toNatClampNeg 7)))) x1) b6 (Int32.toNatClampNeg 7)) + 1)))))))))))) : jFm E mX11_wants (d + 1) a0 [.int x1] S Q := ⟨hk, T_X11_wants h⟩
theorem U_X11_clear {E : jEnv} {d : Nat} {Q : Int32 → jM → Prop} {a0 : Nat} {S : jM} (hk : jk S a0 = 11) (h : jk S a0 = 11 ∧ jFi E mX11_becomes d 0 0 [.ref a0, .int 7, .int 0] S (fun r3 S2 => Q r3 S2)) : jFm E mX11_clear (d + 1) a0 [] S Q := ⟨hk, T_X11_clear h⟩
theorem U_X11_made {E : jEnv} {d : Nat} {Q : Int32 → jM → Prop} {a0 : Nat} {S : jM} (hk : jk S a0 = 11) (h : jk S a0 = 11 ∧ jFi E mX11_can d 0 0 [.ref a0] S (fun r3 S2 => (r3 = 0 → Q (-1000000002) S2) ∧ (¬ r3 = 0 → L_X11_made_12 E d Q a0 0 S2))) : jFm E mX11_made (d + 1) a0 [] S Q := ⟨hk, T_X11_made h⟩
theorem U_X11_soonest {E : jEnv} {d : Nat} {Q : Int32 → jM → Prop} {a0 : Nat} {x1 : Int32} {S : jM} (hk : jk S a0 = 11) (h : ((jisin (Int32.toInt64 x1) 0 2) = 0 → Q (-1000000001) S) ∧ (¬ (jisin (Int32.toInt64 x1) 0 2) = 0 → jk S a0 = 11 ∧ jFi E mX11_can d 0 0 [.ref a0] S (fun r7 S6 => (r7 = 0 → jk S6 a0 = 11 ∧ jFv E mX11_findSoonest d 0 0 [.ref a0] S6 (fun S10 => jk S10 a0 = 11 ∧ (0 ≤ (ji S10 a0 15) → (x1 = 0 → Q (ji S10 a0 15) S10) ∧ (¬ x1 = 0 → (x1 = 1 → Q (ji S10 a0 16) S10) ∧ (¬ x1 = 1 → Q (ji S10 a0 17) S10))) ∧ (¬ 0 ≤ (ji S10 a0 15) → Q (-1000000005) S10))) ∧ (¬ r7 = 0 → (x1 = 2 → Q (-1000000005) S6) ∧ (¬ x1 = 2 → Q 0 S6))))) : jFm E mX11_soonest (d + 1) a0 [.int x1] S Q := ⟨hk, T_X11_soonest h⟩
theorem U_X11_together {E : jEnv} {d : Nat} {Q : Int32 → jM → Prop} {a0 : Nat} {x1 : Int32} {S : jM} (hk : jk S a0 = 11) (h : ((jisin (Int32.toInt64 x1) 0 1023) = 0 → Q (-1000000001) S) ∧ (¬ (jisin (Int32.toInt64 x1) 0 1023) = 0 → ((jmany x1) ≤ 3 → jk S a0 = 11 ∧ jFi E mX11_areTogether d 0 0 [.ref a0, .int x1] S (fun r11 S10 => (r11 = 0 → Q 0 S10) ∧ (¬ r11 = 0 → Q 1 S10))) ∧ (¬ (jmany x1) ≤ 3 → Q (-1000000001) S))) : jFm E mX11_together (d + 1) a0 [.int x1] S Q := ⟨hk, T_X11_together h⟩
theorem U_X11_never {E : jEnv} {d : Nat} {Q : Int32 → jM → Prop} {a0 : Nat} {S : jM} (hk : jk S a0 = 11) (h : jk S a0 = 11 ∧ jFi E mX11_taughtNow d 0 0 [.ref a0] S (fun r3 S2 => L_X11_never_7 E d Q a0 r3 0 S2)) : jFm E mX11_never (d + 1) a0 [] S Q := ⟨hk, T_X11_never h⟩
theorem U_X11_last {E : jEnv} {d : Nat} {Q : Int32 → jM → Prop} {a0 : Nat} {x1 : Int32} {S : jM} (hk : jk S a0 = 11) (h : ((jisg x1) = 0 → Q (-1000000001) S) ∧ (¬ (jisg x1) = 0 → L_X11_last_17 E d Q a0 x1 (-1) 0 0 S)) : jFm E mX11_last (d + 1) a0 [.int x1] S Q := ⟨hk, T_X11_last h⟩
theorem U_X11_years {E : jEnv} {d : Nat} {Q : Int32 → jM → Prop} {a0 : Nat} {x1 : Int32} {S : jM} (hk : jk S a0 = 11) (h : ((jisin (Int32.toInt64 x1) 1 60) = 0 → Q (-1000000001) S) ∧ (¬ (jisin (Int32.toInt64 x1) 1 60) = 0 → L_X11_years_19 E d Q a0 x1 0 0 S)) : jFm E mX11_years (d + 1) a0 [.int x1] S Q := ⟨hk, T_X11_years h⟩
theorem U_X11_gone {E : jEnv} {d : Nat} {Q : Int32 → jM → Prop} {a0 : Nat} {x1 : Int32} {S : jM} (hk : jk S a0 = 11) (h : ((jisin (Int32.toInt64 x1) 0 60) = 0 → Q (-1000000001) S) ∧ (¬ (jisin (Int32.toInt64 x1) 0 60) = 0 → jk S a0 = 11 ∧ jFv E mX11_laysBy d 0 0 [.ref a0] S (fun S6 => jk S6 a0 = 11 ∧ jFi E mX11_taughtNow d 0 0 [.ref a0] S6 (fun r9 S8 => L_X11_gone_29 E d Q a0 x1 r9 0 0 S8)))) : jFm E mX11_gone (d + 1) a0 [.int x1] S Q := ⟨hk, T_X11_gone h⟩
theorem U_X11_fresh {E : jEnv} {d : Nat} {Q : Int32 → jM → Prop} {a0 : Nat} {S : jM} (hk : jk S a0 = 11) (h : jk S a0 = 11 ∧ jFv E mX11_findFar d 0 0 [.ref a0] S (fun S2 => L_X11_fresh_8 E d Q a0 0 1 S2)) : jFm E mX11_fresh (d + 1) a0 [] S Q := ⟨hk, T_X11_fresh h⟩
theorem U_X11_cut {E : jEnv} {d : Nat} {Q : Int32 → jM → Prop} {a0 : Nat} {x1 : Int32} {x2 : Int32} {S : jM} (hk : jk S a0 = 11) (h : ((jissheet x1) = 0 → Q (-1000000001) S) ∧ (¬ (jissheet x1) = 0 → ((jisin (Int32.toInt64 x2) 0 1) = 0 → Q (-1000000001) S) ∧ (¬ (jisin (Int32.toInt64 x2) 0 1) = 0 → jk S a0 = 11 ∧ ∃ b10, jr S a0 4 = some b10 ∧ (jk S b10 = 12 ∧ vp_in x1 (jl S b10) ∧ ((0 ≤ (ji S b10 (Int32.toNatClampNeg x1)) → L_X11_cut_41 E d Q a0 x1 x2 (-1) 0 0 S) ∧ (¬ 0 ≤ (ji S b10 (Int32.toNatClampNeg x1)) → Q (-1000000011) S)))))) : jFm E mX11_cut (d + 2) a0 [.int x1, .int x2] S Q := ⟨hk, T_X11_cut h⟩
theorem U_X11_fame {E : jEnv} {d : Nat} {Q : Int32 → jM → Prop} {a0 : Nat} {x1 : Int32} {S : jM} (hk : jk S a0 = 11) (h : jk S a0 = 11 ∧ jFi E mX11_isMaster d 0 0 [.ref a0, .int x1] S (fun r3 S2 => (r3 = 0 → Q (-1000000001) S2) ∧ (¬ r3 = 0 → jk S2 a0 = 11 ∧ jFi E mX11_counts d 0 0 [.ref a0, .int 1] S2 (fun r7 S6 => (0 ≤ r7 → jk S6 a0 = 11 ∧ ∃ b10, jr S6 a0 30 = some b10 ∧ (jFi E mX11_of d 0 0 [.ref a0, .int x1, .int 4] S6 (fun r12 S11 => jk S11 b10 = 12 ∧ vp_in 102 (jl S11 b10) ∧ (jk S11 a0 = 11 ∧ ∃ b16, jr S11 a0 30 = some b16 ∧ (jFi E mX11_of d 0 0 [.ref a0, .int x1, .int 5] (jput S11 b10 (Int32.toNatClampNeg 102) r12) (fun r18 S17 => jk S17 b16 = 12 ∧ vp_in 97 (jl S17 b16) ∧ (jk S17 a0 = 11 ∧ jFi E mX11_worked d 0 0 [.ref a0, .int r7] (jput S17 b16 (Int32.toNatClampNeg 97) r18) (fun r23 S22 => Q r23 S22)))))))) ∧ (¬ 0 ≤ r7 → jk S6 a0 = 11 ∧ jFi E mX11_of d 0 0 [.ref a0, .int x1, .int 4] S6 (fun r26 S25 => Q r26 S25)))))) : jFm E mX11_fame (d + 1) a0 [.int x1] S Q := ⟨hk, T_X11_fame h⟩
theorem U_X11_fine {E : jEnv} {d : Nat} {Q : Int32 → jM → Prop} {a0 : Nat} {S : jM} (hk : jk S a0 = 11) (h : jk S a0 = 11 ∧ jFi E mX11_counts d 0 0 [.ref a0, .int 2] S (fun r3 S2 => (0 ≤ r3 → jk S2 a0 = 11 ∧ ∃ b6, jr S2 a0 30 = some b6 ∧ (∃ b7, jr S2 a0 0 = some b7 ∧ (jk S2 b7 = 12 ∧ vp_in 5 (jl S2 b7) ∧ (jk S2 b6 = 12 ∧ vp_in 99 (jl S2 b6) ∧ (vp_in 2 (jl S2 b7) ∧ (vp_in 100 (jl S2 b6) ∧ (jFi E mX11_worked d 0 0 [.ref a0, .int r3] (jput (jput S2 b6 (Int32.toNatClampNeg 99) (ji S2 b7 (Int32.toNatClampNeg 5))) b6 (Int32.toNatClampNeg 100) (ji (jput S2 b6 (Int32.toNatClampNeg 99) (ji S2 b7 (Int32.toNatClampNeg 5))) b7 (Int32.toNatClampNeg 2))) (fun r15 S14 => Q r15 S14)))))))) ∧ (¬ 0 ≤ r3 → jk S2 a0 = 11 ∧ ∃ b17, jr S2 a0 0 = some b17 ∧ (jk S2 b17 = 12 ∧ vp_in 5 (jl S2 b17) ∧ (Q (ji S2 b17 (Int32.toNatClampNeg 5)) S2))))) : jFm E mX11_fine (d + 1) a0 [] S Q := ⟨hk, T_X11_fine h⟩
theorem U_X11_feed {E : jEnv} {d : Nat} {Q : Int32 → jM → Prop} {a0 : Nat} {x1 : Int32} {x2 : Int32} {x3 : Int32} {S : jM} (hk : jk S a0 = 11) (h : jk S a0 = 11 ∧ (((ji S a0 19) + 12) ≤ 96 → L_X11_feed_18 E d Q a0 x1 x2 x3 0 S) ∧ (¬ ((ji S a0 19) + 12) ≤ 96 → Q (-1000000003) S)) : jFm E mX11_feed d a0 [.int x1, .int x2, .int x3] S Q := ⟨hk, T_X11_feed h⟩
theorem U_X11_trim {E : jEnv} {d : Nat} {Q : Int32 → jM → Prop} {a0 : Nat} {x1 : Int32} {S : jM} (hk : jk S a0 = 11) (h : jk S a0 = 11 ∧ ((jisin (Int32.toInt64 x1) 0 (Int32.toInt64 (ji S a0 19))) = 0 → Q (-1000000001) S) ∧ (¬ (jisin (Int32.toInt64 x1) 0 (Int32.toInt64 (ji S a0 19))) = 0 → Q x1 (jput S a0 19 x1))) : jFm E mX11_trim (d + 1) a0 [.int x1] S Q := ⟨hk, T_X11_trim h⟩
theorem U_X11_text {E : jEnv} {d : Nat} {Q : Int32 → jM → Prop} {a0 : Nat} {S : jM} (hk : jk S a0 = 11) (h : jk S a0 = 11 ∧ jFi E mX11_parse d 0 0 [.ref a0] S (fun r3 S2 => (0 ≤ r3 → jk S2 a0 = 11 ∧ ∃ b6, jr S2 a0 0 = some b6 ∧ (jk S2 b6 = 12 ∧ vp_in 1 (jl S2 b6) ∧ (((ji S2 b6 (Int32.toNatClampNeg 1)) = 14 → Q (-1000000003) S2) ∧ (¬ (ji S2 b6 (Int32.toNatClampNeg 1)) = 14 → (vp_in ((jtextat (ji S2 b6 (Int32.toNatClampNeg 1))) + 0) (jl S2 b6) ∧ (vp_in ((jtextat (ji S2 b6 (Int32.toNatClampNeg 1))) + 1) (jl S2 b6) ∧ (vp_in ((jtextat (ji S2 b6 (Int32.toNatClampNeg 1))) + 2) (jl S2 b6) ∧ ((((Q (((ji (jput (jput (jput S2 b6 (Int32.toNatClampNeg ((jtextat (ji S2 b6 (Int32.toNatClampNeg 1))) + 0)) r3) b6 (Int32.toNatClampNeg ((jtextat (ji S2 b6 (Int32.toNatClampNeg 1))) + 1)) (ji S2 a0 29)) b6 (Int32.toNatClampNeg ((jtextat (ji S2 b6 (Int32.toNatClampNeg 1))) + 2)) (ji S2 a0 27)) b6 (Int32.toNatClampNeg 1)) + 1) - 1) (jput (jput (jput (jput S2 b6 (Int32.toNatClampNeg ((jtextat (ji S2 b6 (Int32.toNatClampNeg 1))) + 0)) r3) b6 (Int32.toNatClampNeg ((jtextat (ji S2 b6 (Int32.toNatClampNeg 1))) + 1)) (ji S2 a0 29)) b6 (Int32.toNatClampNeg ((jtextat (ji S2 b6 (Int32.toNatClampNeg 1))) + 2)) (ji S2 a0 27)) b6 (Int32.toNatClampNeg 1) ((ji (jput (jput (jput S2 b6 (Int32.toNatClampNeg ((jtextat (ji S2 b6 (Int32.toNatClampNeg 1))) + 0)) r3) b6 (Int32.toNatClampNeg ((jtextat (ji S2 b6 (Int32.toNatClampNeg 1))) + 1)) (ji S2 a0 29)) b6 (Int32.toNatClampNeg ((jtextat (ji S2 b6 (Int32.toNatClampNeg 1))) + 2)) (ji S2 a0 27)) b6 (Int32.toNatClampNeg 1)) + 1))))))))))))) ∧ (¬ 0 ≤ r3 → jk S2 a0 = 11 ∧ Q ((-100) - (ji S2 a0 20)) S2))) : jFm E mX11_text (d + 1) a0 [] S Q := ⟨hk, T_X11_text h⟩
theorem U_X11_textTold {E : jEnv} {d : Nat} {Q : Int32 → jM → Prop} {a0 : Nat} {x1 : Int32} {x2 : Int32} {S : jM} (hk : jk S a0 = 11) (h : jk S a0 = 11 ∧ jFi E mX11_isText d 0 0 [.ref a0, .int x1] S (fun r3 S2 => (r3 = 0 → Q (-1000000001) S2) ∧ (¬ r3 = 0 → ((jisin (Int32.toInt64 x2) 0 1) = 0 → Q (-1000000001) S2) ∧ (¬ (jisin (Int32.toInt64 x2) 0 1) = 0 → jk S2 a0 = 11 ∧ ∃ b10, jr S2 a0 0 = some b10 ∧ (jk S2 b10 = 12 ∧ vp_in ((jtextat x1) + x2) (jl S2 b10) ∧ (Q (ji S2 b10 (Int32.toNatClampNeg ((jtextat x1) + x2))) S2)))))) : jFm E mX11_textTold (d + 1) a0 [.int x1, .int x2] S Q := ⟨hk, T_X11_textTold h⟩
theorem U_X11_why {E : jEnv} {d : Nat} {Q : Int32 → jM → Prop} {a0 : Nat} {x1 : Int32} {S : jM} (hk : jk S a0 = 11) (h : ((jisin (Int32.toInt64 x1) 0 2) = 0 → Q (-1000000001) S) ∧ (¬ (jisin (Int32.toInt64 x1) 0 2) = 0 → jk S a0 = 11 ∧ jFi E mX11_counts d 0 0 [.ref a0, .int x1] S (fun r7 S6 => Q (jornone r7) S6))) : jFm E mX11_why (d + 1) a0 [.int x1] S Q := ⟨hk, T_X11_why h⟩
theorem U_X11_sheet {E : jEnv} {d : Nat} {Q : Int32 → jM → Prop} {a0 : Nat} {x1 : Int32} {x2 : Int32} {x3 : Int32} {S : jM} (hk : jk S a0 = 11) (h : ((jissheet x1) = 0 → Q (-1000000001) S) ∧ (¬ (jissheet x1) = 0 → ((jisin (Int32.toInt64 x2) (-1) 1) = 0 → Q (-1000000001) S) ∧ (¬ (jisin (Int32.toInt64 x2) (-1) 1) = 0 → (x2 < 0 → jk S a0 = 11 ∧ ∃ b11, jr S a0 4 = some b11 ∧ (jk S b11 = 12 ∧ vp_in x1 (jl S b11) ∧ (∃ b14, jr S a0 5 = some b14 ∧ ((0 ≤ x2 → jk S b14 = 12 ∧ vp_in x1 (jl S b14) ∧ (L_X11_sheet_69 E d Q a0 x1 0 (jput (jput S b11 (Int32.toNatClampNeg x1) x2) b14 (Int32.toNatClampNeg x1) x3))) ∧ (¬ 0 ≤ x2 → jk S b14 = 12 ∧ vp_in x1 (jl S b14) ∧ (L_X11_sheet_69 E d Q a0 x1 0 (jput (jput S b11 (Int32.toNatClampNeg x1) x2) b14 (Int32.toNatClampNeg x1) 0))))))) ∧ (¬ x2 < 0 → (x3 ≤ 24 → (0 ≤ x3 → jk S a0 = 11 ∧ ∃ b23, jr S a0 4 = some b23 ∧ (jk S b23 = 12 ∧ vp_in x1 (jl S b23) ∧ (∃ b26, jr S a0 5 = some b26 ∧ ((0 ≤ x2 → jk S b26 = 12 ∧ vp_in x1 (jl S b26) ∧ (L_X11_sheet_69 E d Q a0 x1 0 (jput (jput S b23 (Int32.toNatClampNeg x1) x2) b26 (Int32.toNatClampNeg x1) x3))) ∧ (¬ 0 ≤ x2 → jk S b26 = 12 ∧ vp_in x1 (jl S b26) ∧ (L_X11_sheet_69 E d Q a0 x1 0 (jput (jput S b23 (Int32.toNatClampNeg x1) x2) b26 (Int32.toNatClampNeg x1) 0))))))) ∧ (¬ 0 ≤ x3 → Q (-1000000014) S)) ∧ (¬ x3 ≤ 24 → Q (-1000000001) S))))) : jFm E mX11_sheet (d + 2) a0 [.int x1, .int x2, .int x3] S Q := ⟨hk, T_X11_sheet h⟩
theorem U_X11_mark {E : jEnv} {d : Nat} {Q : Int32 → jM → Prop} {a0 : Nat} {x1 : Int32} {x2 : Int32} {x3 : Int32} {S : jM} (hk : jk S a0 = 11) (h : ((jissheet x1) = 0 → Q (-1000000001) S) ∧ (¬ (jissheet x1) = 0 → jk S a0 = 11 ∧ ∃ b6, jr S a0 4 = some b6 ∧ (jk S b6 = 12 ∧ vp_in x1 (jl S b6) ∧ ((0 ≤ (ji S b6 (Int32.toNatClampNeg x1)) → ∃ b10, jr S a0 5 = some b10 ∧ (jk S b10 = 12 ∧ vp_in x1 (jl S b10) ∧ (((jisin (Int32.toInt64 x2) 0 (Int32.toInt64 ((ji S b10 (Int32.toNatClampNeg x1)) - 1))) = 0 → Q (-1000000013) S) ∧ (¬ (jisin (Int32.toInt64 x2) 0 (Int32.toInt64 ((ji S b10 (Int32.toNatClampNeg x1)) - 1))) = 0 → (((ji S b6 (Int32.toNatClampNeg x1)) = 0 → (x3 = (-1000000005) → Q (-1000000012) S) ∧ (¬ x3 = (-1000000005) → (((ji S b6 (Int32.toNatClampNeg x1)) = 1 → ((jisin (Int32.toInt64 x3) (-99999) 99999) = 0 → Q (-1000000001) S) ∧ (¬ (jisin (Int32.toInt64 x3) (-99999) 99999) = 0 → ∃ b42, jr S a0 6 = some b42 ∧ ((jk S b42 = 12 ∧ vp_in ((24 * x1) + x2) (jl S b42) ∧ (Q 1 (jput S b42 (Int32.toNatClampNeg ((24 * x1) + x2)) (jshr (jshl x3 16) 16))))))) ∧ (¬ (ji S b6 (Int32.toNatClampNeg x1)) = 1 → ∃ b35, jr S a0 6 = some b35 ∧ ((jk S b35 = 12 ∧ vp_in ((24 * x1) + x2) (jl S b35) ∧ (Q 1 (jput S b35 (Int32.toNatClampNeg ((24 * x1) + x2)) (jshr (jshl x3 16) 16))))))))) ∧ (¬ (ji S b6 (Int32.toNatClampNeg x1)) = 0 → (((ji S b6 (Int32.toNatClampNeg x1)) = 1 → (x3 = (-1000000005) → ∃ b23, jr S a0 6 = some b23 ∧ ((jk S b23 = 12 ∧ vp_in ((24 * x1) + x2) (jl S b23) ∧ (Q 1 (jput S b23 (Int32.toNatClampNeg ((24 * x1) + x2)) x3))))) ∧ (¬ x3 = (-1000000005) → ((jisin (Int32.toInt64 x3) (-99999) 99999) = 0 → Q (-1000000001) S) ∧ (¬ (jisin (Int32.toInt64 x3) (-99999) 99999) = 0 → ∃ b30, jr S a0 6 = some b30 ∧ ((jk S b30 = 12 ∧ vp_in ((24 * x1) + x2) (jl S b30) ∧ (Q 1 (jput S b30 (Int32.toNatClampNeg ((24 * x1) + x2)) x3))))))) ∧ (¬ (ji S b6 (Int32.toNatClampNeg x1)) = 1 → ∃ b19, jr S a0 6 = some b19 ∧ ((jk S b19 = 12 ∧ vp_in ((24 * x1) + x2) (jl S b19) ∧ (Q 1 (jput S b19 (Int32.toNatClampNeg ((24 * x1) + x2)) x3)))))))))))) ∧ (¬ 0 ≤ (ji S b6 (Int32.toNatClampNeg x1)) → Q (-1000000011) S))))) : jFm E mX11_mark (d + 2) a0 [.int x1, .int x2, .int x3] S Q := ⟨hk, T_X11_mark h⟩
theorem U_X11_pour {E : jEnv} {d : Nat} {Q : Int32 → jM → Prop} {a0 : Nat} {x1 : Int32} {S : jM} (hk : jk S a0 = 11) (h : ((jissheet x1) = 0 → Q (-1000000001) S) ∧ (¬ (jissheet x1) = 0 → jk S a0 = 11 ∧ ∃ b6, jr S a0 4 = some b6 ∧ (jk S b6 = 12 ∧ vp_in x1 (jl S b6) ∧ ((0 ≤ (ji S b6 (Int32.toNatClampNeg x1)) → L_X11_pour_27 E d Q a0 x1 0 0 S) ∧ (¬ 0 ≤ (ji S b6 (Int32.toNatClampNeg x1)) → Q (-1000000011) S))))) : jFm E mX11_pour (d + 2) a0 [.int x1] S Q := ⟨hk, T_X11_pour h⟩
theorem U_X11_reads {E : jEnv} {d : Nat} {Q : Int32 → jM → Prop} {a0 : Nat} {x1 : Int32} {S : jM} (hk : jk S a0 = 11) (h : ((jissheet x1) = 0 → Q (-1000000001) S) ∧ (¬ (jissheet x1) = 0 → jk S a0 = 11 ∧ ∃ b6, jr S a0 4 = some b6 ∧ (jk S b6 = 12 ∧ vp_in x1 (jl S b6) ∧ ((0 ≤ (ji S b6 (Int32.toNatClampNeg x1)) → L_X11_reads_25 E d Q a0 x1 0 S) ∧ (¬ 0 ≤ (ji S b6 (Int32.toNatClampNeg x1)) → Q (-1000000011) S))))) : jFm E mX11_reads (d + 2) a0 [.int x1] S Q := ⟨hk, T_X11_reads h⟩
theorem U_X11_copy {E : jEnv} {d : Nat} {Q : Int32 → jM → Prop} {a0 : Nat} {x1 : Int32} {x2 : Int32} {x3 : Int32} {x4 : Int32} {x5 : Int32} {S : jM} (hk : jk S a0 = 11) (h : ((jissheet x1) = 0 → Q (-1000000001) S) ∧ (¬ (jissheet x1) = 0 → ((jissheet x3) = 0 → Q (-1000000001) S) ∧ (¬ (jissheet x3) = 0 → jk S a0 = 11 ∧ ∃ b10, jr S a0 4 = some b10 ∧ (jk S b10 = 12 ∧ vp_in x1 (jl S b10) ∧ (((ji S b10 (Int32.toNatClampNeg x1)) < 0 → Q (-1000000011) S) ∧ (¬ (ji S b10 (Int32.toNatClampNeg x1)) < 0 → vp_in x3 (jl S b10) ∧ ((0 ≤ (ji S b10 (Int32.toNatClampNeg x3)) → ((((ji S b10 (Int32.toNatClampNeg x1)) = (ji S b10 (Int32.toNatClampNeg x3)) → (x2 < 0 → Q (-1000000013) S) ∧ (¬ x2 < 0 → (x4 < 0 → Q (-1000000013) S) ∧ (¬ x4 < 0 → (x5 < 0 → Q (-1000000013) S) ∧ (¬ x5 < 0 → ∃ b20, jr S a0 5 = some b20 ∧ (jk S b20 = 12 ∧ vp_in x1 (jl S b20) ∧ ((0 < (lg_cmp ((Int32.toInt64 x2) + (Int32.toInt64 x5)) (Int32.toInt64 (ji S b20 (Int32.toNatClampNeg x1)))) → Q (-1000000013) S) ∧ (¬ 0 < (lg_cmp ((Int32.toInt64 x2) + (Int32.toInt64 x5)) (Int32.toInt64 (ji S b20 (Int32.toNatClampNeg x1)))) → vp_in x3 (jl S b20) ∧ (((lg_cmp ((Int32.toInt64 x4) + (Int32.toInt64 x5)) (Int32.toInt64 (ji S b20 (Int32.toNatClampNeg x3)))) ≤ 0 → L_X11_copy_113 E d Q a0 x1 x2 x3 x4 x5 0 S) ∧ (¬ (lg_cmp ((Int32.toInt64 x4) + (Int32.toInt64 x5)) (Int32.toInt64 (ji S b20 (Int32.toNatClampNeg x3)))) ≤ 0 → Q (-1000000013) S))))))))) ∧ (¬ (ji S b10 (Int32.toNatClampNeg x1)) = (ji S b10 (Int32.toNatClampNeg x3)) → Q (-1000000012) S)))) ∧ (¬ 0 ≤ (ji S b10 (Int32.toNatClampNeg x3)) → Q (-1000000011) S)))))))) : jFm E mX11_copy (d + 2) a0 [.int x1, .int x2, .int x3, .int x4, .int x5] S Q := ⟨hk, T_X11_copy h⟩
theorem U_X11_lay {E : jEnv} {d : Nat} {Q : Int32 → jM → Prop} {a0 : Nat} {x1 : Int32} {x2 : Int32} {x3 : Int32} {S : jM} (hk : jk S a0 = 11) (h : (x2 = 0 → ((jisslot x1) = 0 → Q (-1000000001) S) ∧ (¬ (jisslot x1) = 0 → (x2 = 2 → jk S a0 = 11 ∧ ∃ b29, jr S a0 4 = some b29 ∧ (jk S b29 = 12 ∧ vp_in x3 (jl S b29) ∧ ((0 ≤ (ji S b29 (Int32.toNatClampNeg x3)) → ∃ b33, jr S a0 7 = some b33 ∧ (jk S b33 = 12 ∧ vp_in x1 (jl S b33) ∧ ((∃ b36, jr S a0 8 = some b36 ∧ ((x2 = 1 → jFi E mX11_of (d + 1) 0 0 [.ref a0, .int x3, .int 0] (jput S b33 (Int32.toNatClampNeg x1) x2) (fun r50 S49 => jk S49 b36 = 12 ∧ vp_in x1 (jl S49 b36) ∧ (jk S49 a0 = 11 ∧ ∃ b54, jr S49 a0 9 = some b54 ∧ (jFi E mX11_worth (d + 1) 0 0 [.ref a0, .int x3] (jput S49 b36 (Int32.toNatClampNeg x1) r50) (fun r56 S55 => jk S55 b54 = 12 ∧ vp_in x1 (jl S55 b54) ∧ (jk S55 a0 = 11 ∧ ∃ b60, jr S55 a0 10 = some b60 ∧ (∃ b61, jr S55 a0 5 = some b61 ∧ (jk S55 b61 = 12 ∧ vp_in x3 (jl S55 b61) ∧ (jk S55 b60 = 12 ∧ vp_in x1 (jl S55 b60) ∧ (L_X11_lay_150 E d Q a0 x1 x3 (ji S b33 (Int32.toNatClampNeg x1)) 0 (jput (jput S55 b54 (Int32.toNatClampNeg x1) r56) b60 (Int32.toNatClampNeg x1) (ji (jput S55 b54 (Int32.toNatClampNeg x1) r56) b61 (Int32.toNatClampNeg x3))))))))))))) ∧ (¬ x2 = 1 → jk S b36 = 12 ∧ vp_in x1 (jl S b36) ∧ (∃ b40, jr S a0 9 = some b40 ∧ (jk S b40 = 12 ∧ vp_in x1 (jl S b40) ∧ (∃ b43, jr S a0 10 = some b43 ∧ (∃ b44, jr S a0 5 = some b44 ∧ (jk S b44 = 12 ∧ vp_in x3 (jl S b44) ∧ (jk S b43 = 12 ∧ vp_in x1 (jl S b43) ∧ (L_X11_lay_150 E d Q a0 x1 x3 (ji S b33 (Int32.toNatClampNeg x1)) 0 (jput (jput (jput (jput S b33 (Int32.toNatClampNeg x1) x2) b36 (Int32.toNatClampNeg x1) x3) b40 (Int32.toNatClampNeg x1) 0) b43 (Int32.toNatClampNeg x1) (ji (jput (jput (jput S b33 (Int32.toNatClampNeg x1) x2) b36 (Int32.toNatClampNeg x1) x3) b40 (Int32.toNatClampNeg x1) 0) b44 (Int32.toNatClampNeg x3)))))))))))))))) ∧ (¬ 0 ≤ (ji S b29 (Int32.toNatClampNeg x3)) → Q (-1000000011) S)))) ∧ (¬ x2 = 2 → jk S a0 = 11 ∧ ∃ b8, jr S a0 7 = some b8 ∧ (jk S b8 = 12 ∧ vp_in x1 (jl S b8) ∧ ((∃ b11, jr S a0 8 = some b11 ∧ ((x2 = 1 → jFi E mX11_of (d + 1) 0 0 [.ref a0, .int x3, .int 0] (jput S b8 (Int32.toNatClampNeg x1) x2) (fun r19 S18 => jk S18 b11 = 12 ∧ vp_in x1 (jl S18 b11) ∧ (jk S18 a0 = 11 ∧ ∃ b23, jr S18 a0 9 = some b23 ∧ (jFi E mX11_worth (d + 1) 0 0 [.ref a0, .int x3] (jput S18 b11 (Int32.toNatClampNeg x1) r19) (fun r25 S24 => jk S24 b23 = 12 ∧ vp_in x1 (jl S24 b23) ∧ (Q (ji S b8 (Int32.toNatClampNeg x1)) (jput S24 b23 (Int32.toNatClampNeg x1) r25))))))) ∧ (¬ x2 = 1 → jk S b11 = 12 ∧ vp_in x1 (jl S b11) ∧ (∃ b15, jr S a0 9 = some b15 ∧ (jk S b15 = 12 ∧ vp_in x1 (jl S b15) ∧ (Q (ji S b8 (Int32.toNatClampNeg x1)) (jput (jput (jput S b8 (Int32.toNatClampNeg x1) x2) b11 (Int32.toNatClampNeg x1) x3) b15 (Int32.toNatClampNeg x1) 0)))))))))))) ∧ (¬ x2 = 0 → (x2 = 3 → ((jisslot x1) = 0 → Q (-1000000001) S) ∧ (¬ (jisslot x1) = 0 → (x2 = 2 → jk S a0 = 11 ∧ ∃ b94, jr S a0 4 = some b94 ∧ (jk S b94 = 12 ∧ vp_in x3 (jl S b94) ∧ ((0 ≤ (ji S b94 (Int32.toNatClampNeg x3)) → ∃ b98, jr S a0 7 = some b98 ∧ (jk S b98 = 12 ∧ vp_in x1 (jl S b98) ∧ ((∃ b101, jr S a0 8 = some b101 ∧ ((x2 = 1 → jFi E mX11_of (d + 1) 0 0 [.ref a0, .int x3, .int 0] (jput S b98 (Int32.toNatClampNeg x1) x2) (fun r115 S114 => jk S114 b101 = 12 ∧ vp_in x1 (jl S114 b101) ∧ (jk S114 a0 = 11 ∧ ∃ b119, jr S114 a0 9 = some b119 ∧ (jFi E mX11_worth (d + 1) 0 0 [.ref a0, .int x3] (jput S114 b101 (Int32.toNatClampNeg x1) r115) (fun r121 S120 => jk S120 b119 = 12 ∧ vp_in x1 (jl S120 b119) ∧ (jk S120 a0 = 11 ∧ ∃ b125, jr S120 a0 10 = some b125 ∧ (∃ b126, jr S120 a0 5 = some b126 ∧ (jk S120 b126 = 12 ∧ vp_in x3 (jl S120 b126) ∧ (jk S120 b125 = 12 ∧ vp_in x1 (jl S120 b125) ∧ (L_X11_lay_150 E d Q a0 x1 x3 (ji S b98 (Int32.toNatClampNeg x1)) 0 (jput (jput S120 b119 (Int32.toNatClampNeg x1) r121) b125 (Int32.toNatClampNeg x1) (ji (jput S120 b119 (Int32.toNatClampNeg x1) r121) b126 (Int32.toNatClampNeg x3))))))))))))) ∧ (¬ x2 = 1 → jk S b101 = 12 ∧ vp_in x1 (jl S b101) ∧ (∃ b105, jr S a0 9 = some b105 ∧ (jk S b105 = 12 ∧ vp_in x1 (jl S b105) ∧ (∃ b108, jr S a0 10 = some b108 ∧ (∃ b109, jr S a0 5 = some b109 ∧ (jk S b109 = 12 ∧ vp_in x3 (jl S b109) ∧ (jk S b108 = 12 ∧ vp_in x1 (jl S b108) ∧ (L_X11_lay_150 E d Q a0 x1 x3 (ji S b98 (Int32.toNatClampNeg x1)) 0 (jput (jput (jput (jput S b98 (Int32.toNatClampNeg x1) x2) b101 (Int32.toNatClampNeg x1) x3) b105 (Int32.toNatClampNeg x1) 0) b108 (Int32.toNatClampNeg x1) (ji (jput (jput (jput S b98 (Int32.toNatClampNeg x1) x2) b101 (Int32.toNatClampNeg x1) x3) b105 (Int32.toNatClampNeg x1) 0) b109 (Int32.toNatClampNeg x3)))))))))))))))) ∧ (¬ 0 ≤ (ji S b94 (Int32.toNatClampNeg x3)) → Q (-1000000011) S)))) ∧ (¬ x2 = 2 → jk S a0 = 11 ∧ ∃ b73, jr S a0 7 = some b73 ∧ (jk S b73 = 12 ∧ vp_in x1 (jl S b73) ∧ ((∃ b76, jr S a0 8 = some b76 ∧ ((x2 = 1 → jFi E mX11_of (d + 1) 0 0 [.ref a0, .int x3, .int 0] (jput S b73 (Int32.toNatClampNeg x1) x2) (fun r84 S83 => jk S83 b76 = 12 ∧ vp_in x1 (jl S83 b76) ∧ (jk S83 a0 = 11 ∧ ∃ b88, jr S83 a0 9 = some b88 ∧ (jFi E mX11_worth (d + 1) 0 0 [.ref a0, .int x3] (jput S83 b76 (Int32.toNatClampNeg x1) r84) (fun r90 S89 => jk S89 b88 = 12 ∧ vp_in x1 (jl S89 b88) ∧ (Q (ji S b73 (Int32.toNatClampNeg x1)) (jput S89 b88 (Int32.toNatClampNeg x1) r90))))))) ∧ (¬ x2 = 1 → jk S b76 = 12 ∧ vp_in x1 (jl S b76) ∧ (∃ b80, jr S a0 9 = some b80 ∧ (jk S b80 = 12 ∧ vp_in x1 (jl S b80) ∧ (Q (ji S b73 (Int32.toNatClampNeg x1)) (jput (jput (jput S b73 (Int32.toNatClampNeg x1) x2) b76 (Int32.toNatClampNeg x1) x3) b80 (Int32.toNatClampNeg x1) 0)))))))))))) ∧ (¬ x2 = 3 → (x2 = 1 → jk S a0 = 11 ∧ jFi E mX11_isMaster (d + 1) 0 0 [.ref a0, .int x3] S (fun r171 S170 => (r171 = 0 → (x2 = 2 → ((jissheet x3) = 0 → ((jisslot x1) = 0 → Q (-1000000001) S170) ∧ (¬ (jisslot x1) = 0 → Q (-1000000001) S170)) ∧ (¬ (jissheet x3) = 0 → ((jisslot x1) = 0 → Q (-1000000001) S170) ∧ (¬ (jisslot x1) = 0 → jk S170 a0 = 11 ∧ ∃ b237, jr S170 a0 4 = some b237 ∧ (jk S170 b237 = 12 ∧ vp_in x3 (jl S170 b237) ∧ ((0 ≤ (ji S170 b237 (Int32.toNatClampNeg x3)) → ∃ b241, jr S170 a0 7 = some b241 ∧ (jk S170 b241 = 12 ∧ vp_in x1 (jl S170 b241) ∧ ((∃ b244, jr S170 a0 8 = some b244 ∧ (jFi E mX11_of (d + 1) 0 0 [.ref a0, .int x3, .int 0] (jput S170 b241 (Int32.toNatClampNeg x1) x2) (fun r246 S245 => jk S245 b244 = 12 ∧ vp_in x1 (jl S245 b244) ∧ (jk S245 a0 = 11 ∧ ∃ b250, jr S245 a0 9 = some b250 ∧ (jFi E mX11_worth (d + 1) 0 0 [.ref a0, .int x3] (jput S245 b244 (Int32.toNatClampNeg x1) r246) (fun r252 S251 => jk S251 b250 = 12 ∧ vp_in x1 (jl S251 b250) ∧ (jk S251 a0 = 11 ∧ ∃ b256, jr S251 a0 10 = some b256 ∧ (∃ b257, jr S251 a0 5 = some b257 ∧ (jk S251 b257 = 12 ∧ vp_in x3 (jl S251 b257) ∧ (jk S251 b256 = 12 ∧ vp_in x1 (jl S251 b256) ∧ (L_X11_lay_150 E d Q a0 x1 x3 (ji S170 b241 (Int32.toNatClampNeg x1)) 0 (jput (jput S251 b250 (Int32.toNatClampNeg x1) r252) b256 (Int32.toNatClampNeg x1) (ji (jput S251 b250 (Int32.toNatClampNeg x1) r252) b257 (Int32.toNatClampNeg x3))))))))))))))))) ∧ (¬ 0 ≤ (ji S170 b237 (Int32.toNatClampNeg x3)) → Q (-1000000011) S170)))))) ∧ (¬ x2 = 2 → ((jisslot x1) = 0 → Q (-1000000001) S170) ∧ (¬ (jisslot x1) = 0 → Q (-1000000001) S170))) ∧ (¬ r171 = 0 → ((jisslot x1) = 0 → Q (-1000000001) S170) ∧ (¬ (jisslot x1) = 0 → (x2 = 2 → jk S170 a0 = 11 ∧ ∃ b194, jr S170 a0 4 = some b194 ∧ (jk S170 b194 = 12 ∧ vp_in x3 (jl S170 b194) ∧ ((0 ≤ (ji S170 b194 (Int32.toNatClampNeg x3)) → ∃ b198, jr S170 a0 7 = some b198 ∧ (jk S170 b198 = 12 ∧ vp_in x1 (jl S170 b198) ∧ ((∃ b201, jr S170 a0 8 = some b201 ∧ (jFi E mX11_of (d + 1) 0 0 [.ref a0, .int x3, .int 0] (jput S170 b198 (Int32.toNatClampNeg x1) x2) (fun r203 S202 => jk S202 b201 = 12 ∧ vp_in x1 (jl S202 b201) ∧ (jk S202 a0 = 11 ∧ ∃ b207, jr S202 a0 9 = some b207 ∧ (jFi E mX11_worth (d + 1) 0 0 [.ref a0, .int x3] (jput S202 b201 (Int32.toNatClampNeg x1) r203) (fun r209 S208 => jk S208 b207 = 12 ∧ vp_in x1 (jl S208 b207) ∧ (jk S208 a0 = 11 ∧ ∃ b213, jr S208 a0 10 = some b213 ∧ (∃ b214, jr S208 a0 5 = some b214 ∧ (jk S208 b214 = 12 ∧ vp_in x3 (jl S208 b214) ∧ (jk S208 b213 = 12 ∧ vp_in x1 (jl S208 b213) ∧ (L_X11_lay_150 E d Q a0 x1 x3 (ji S170 b198 (Int32.toNatClampNeg x1)) 0 (jput (jput S208 b207 (Int32.toNatClampNeg x1) r209) b213 (Int32.toNatClampNeg x1) (ji (jput S208 b207 (Int32.toNatClampNeg x1) r209) b214 (Int32.toNatClampNeg x3))))))))))))))))) ∧ (¬ 0 ≤ (ji S170 b194 (Int32.toNatClampNeg x3)) → Q (-1000000011) S170)))) ∧ (¬ x2 = 2 → jk S170 a0 = 11 ∧ ∃ b179, jr S170 a0 7 = some b179 ∧ (jk S170 b179 = 12 ∧ vp_in x1 (jl S170 b179) ∧ ((∃ b182, jr S170 a0 8 = some b182 ∧ (jFi E mX11_of (d + 1) 0 0 [.ref a0, .int x3, .int 0] (jput S170 b179 (Int32.toNatClampNeg x1) x2) (fun r184 S183 => jk S183 b182 = 12 ∧ vp_in x1 (jl S183 b182) ∧ (jk S183 a0 = 11 ∧ ∃ b188, jr S183 a0 9 = some b188 ∧ (jFi E mX11_worth (d + 1) 0 0 [.ref a0, .int x3] (jput S183 b182 (Int32.toNatClampNeg x1) r184) (fun r190 S189 => jk S189 b188 = 12 ∧ vp_in x1 (jl S189 b188) ∧ (Q (ji S170 b179 (Int32.toNatClampNeg x1)) (jput S189 b188 (Int32.toNatClampNeg x1) r190))))))))))))))) ∧ (¬ x2 = 1 → (x2 = 2 → ((jissheet x3) = 0 → ((jisslot x1) = 0 → Q (-1000000001) S) ∧ (¬ (jisslot x1) = 0 → Q (-1000000001) S)) ∧ (¬ (jissheet x3) = 0 → ((jisslot x1) = 0 → Q (-1000000001) S) ∧ (¬ (jisslot x1) = 0 → jk S a0 = 11 ∧ ∃ b150, jr S a0 4 = some b150 ∧ (jk S b150 = 12 ∧ vp_in x3 (jl S b150) ∧ ((0 ≤ (ji S b150 (Int32.toNatClampNeg x3)) → ∃ b154, jr S a0 7 = some b154 ∧ (jk S b154 = 12 ∧ vp_in x1 (jl S b154) ∧ ((∃ b157, jr S a0 8 = some b157 ∧ (jk S b157 = 12 ∧ vp_in x1 (jl S b157) ∧ (∃ b160, jr S a0 9 = some b160 ∧ (jk S b160 = 12 ∧ vp_in x1 (jl S b160) ∧ (∃ b163, jr S a0 10 = some b163 ∧ (∃ b164, jr S a0 5 = some b164 ∧ (jk S b164 = 12 ∧ vp_in x3 (jl S b164) ∧ (jk S b163 = 12 ∧ vp_in x1 (jl S b163) ∧ (L_X11_lay_150 E d Q a0 x1 x3 (ji S b154 (Int32.toNatClampNeg x1)) 0 (jput (jput (jput (jput S b154 (Int32.toNatClampNeg x1) x2) b157 (Int32.toNatClampNeg x1) x3) b160 (Int32.toNatClampNeg x1) 0) b163 (Int32.toNatClampNeg x1) (ji (jput (jput (jput S b154 (Int32.toNatClampNeg x1) x2) b157 (Int32.toNatClampNeg x1) x3) b160 (Int32.toNatClampNeg x1) 0) b164 (Int32.toNatClampNeg x3))))))))))))))) ∧ (¬ 0 ≤ (ji S b150 (Int32.toNatClampNeg x3)) → Q (-1000000011) S)))))) ∧ (¬ x2 = 2 → ((jisslot x1) = 0 → Q (-1000000001) S) ∧ (¬ (jisslot x1) = 0 → Q (-1000000001) S)))))) : jFm E mX11_lay (d + 2) a0 [.int x1, .int x2, .int x3] S Q := ⟨hk, T_X11_lay h⟩
theorem U_X11_ask {E : jEnv} {d : Nat} {Q : Int32 → jM → Prop} {a0 : Nat} {x1 : Int32} {x2 : Int32} {S : jM} (hk : jk S a0 = 11) (h : ((jisslot x1) = 0 → Q (-1000000001) S) ∧ (¬ (jisslot x1) = 0 → ((jisin (Int32.toInt64 x2) 0 5) = 0 → Q (-1000000001) S) ∧ (¬ (jisin (Int32.toInt64 x2) 0 5) = 0 → jk S a0 = 11 ∧ ∃ b10, jr S a0 7 = some b10 ∧ (jk S b10 = 12 ∧ vp_in x1 (jl S b10) ∧ (((ji S b10 (Int32.toNatClampNeg x1)) = 0 → Q (-1000000011) S) ∧ (¬ (ji S b10 (Int32.toNatClampNeg x1)) = 0 → (((ji S b10 (Int32.toNatClampNeg x1)) = 1 → ∃ b15, jr S a0 8 = some b15 ∧ (jk S b15 = 12 ∧ vp_in x1 (jl S b15) ∧ (((jisof (ji S b15 (Int32.toNatClampNeg x1)) x2) = 0 → Q (-1000000012) S) ∧ (¬ (jisof (ji S b15 (Int32.toNatClampNeg x1)) x2) = 0 → ∃ b22, jr S a0 9 = some b22 ∧ (jk S b22 = 12 ∧ vp_in x1 (jl S b22) ∧ (Q (ji S b22 (Int32.toNatClampNeg x1)) S)))))) ∧ (¬ (ji S b10 (Int32.toNatClampNeg x1)) = 1 → Q (-1000000012) S)))))))) : jFm E mX11_ask (d + 2) a0 [.int x1, .int x2] S Q := ⟨hk, T_X11_ask h⟩
theorem U_X11_item {E : jEnv} {d : Nat} {Q : Int32 → jM → Prop} {a0 : Nat} {x1 : Int32} {x2 : Int32} {S : jM} (hk : jk S a0 = 11) (h : ((jisslot x1) = 0 → Q (-1000000001) S) ∧ (¬ (jisslot x1) = 0 → jk S a0 = 11 ∧ ∃ b6, jr S a0 7 = some b6 ∧ (jk S b6 = 12 ∧ vp_in x1 (jl S b6) ∧ (((ji S b6 (Int32.toNatClampNeg x1)) = 2 → ∃ b10, jr S a0 10 = some b10 ∧ (jk S b10 = 12 ∧ vp_in x1 (jl S b10) ∧ (((jisin (Int32.toInt64 x2) 0 (Int32.toInt64 ((ji S b10 (Int32.toNatClampNeg x1)) - 1))) = 0 → Q (-1000000013) S) ∧ (¬ (jisin (Int32.toInt64 x2) 0 (Int32.toInt64 ((ji S b10 (Int32.toNatClampNeg x1)) - 1))) = 0 → ∃ b17, jr S a0 11 = some b17 ∧ (jk S b17 = 12 ∧ vp_in ((24 * x1) + x2) (jl S b17) ∧ (((ji S b17 (Int32.toNatClampNeg ((24 * x1) + x2))) = (-1000000005) → Q (-1000000012) S) ∧ (¬ (ji S b17 (Int32.toNatClampNeg ((24 * x1) + x2))) = (-1000000005) → Q (ji S b17 (Int32.toNatClampNeg ((24 * x1) + x2))) S))))))) ∧ (¬ (ji S b6 (Int32.toNatClampNeg x1)) = 2 → (((ji S b6 (Int32.toNatClampNeg x1)) = 0 → Q (-1000000011) S) ∧ (¬ (ji S b6 (Int32.toNatClampNeg x1)) = 0 → Q (-1000000012) S))))))) : jFm E mX11_item (d + 2) a0 [.int x1, .int x2] S Q := ⟨hk, T_X11_item h⟩
theorem U_X11_rest {E : jEnv} {d : Nat} {Q : Int32 → jM → Prop} {a0 : Nat} {x1 : Int32} {x2 : Int32} {S : jM} (hk : jk S a0 = 11) (h : ((jisslot x1) = 0 → Q (-1000000001) S) ∧ (¬ (jisslot x1) = 0 → jk S a0 = 11 ∧ ∃ b6, jr S a0 7 = some b6 ∧ (jk S b6 = 12 ∧ vp_in x1 (jl S b6) ∧ (((ji S b6 (Int32.toNatClampNeg x1)) = 3 → (x2 = 0 → Q (-1000000002) S) ∧ (¬ x2 = 0 → ∃ b11, jr S a0 8 = some b11 ∧ (jk S b11 = 12 ∧ vp_in x1 (jl S b11) ∧ ((¬ x2 = 0) ∧ (Q (jrem (ji S b11 (Int32.toNatClampNeg x1)) x2) S))))) ∧ (¬ (ji S b6 (Int32.toNatClampNeg x1)) = 3 → (((ji S b6 (Int32.toNatClampNeg x1)) = 0 → Q (-1000000011) S) ∧ (¬ (ji S b6 (Int32.toNatClampNeg x1)) = 0 → Q (-1000000012) S))))))) : jFm E mX11_rest (d + 2) a0 [.int x1, .int x2] S Q := ⟨hk, T_X11_rest h⟩
theorem U_X11_tell {E : jEnv} {d : Nat} {Q : Int32 → jM → Prop} {a0 : Nat} {x1 : Int32} {S : jM} (hk : jk S a0 = 11) (h : jk S a0 = 11 ∧ ((ji S a0 34) = 60 → Q (-1000000003) S) ∧ (¬ (ji S a0 34) = 60 → ∃ b3, jr S a0 33 = some b3 ∧ (jk S b3 = 12 ∧ vp_in (ji S a0 34) (jl S b3) ∧ (Q ((ji S a0 34) + 1) (jput (jput S b3 (Int32.toNatClampNeg (ji S a0 34)) x1) a0 34 ((ji S a0 34) + 1)))))) : jFm E mX11_tell d a0 [.int x1] S Q := ⟨hk, T_X11_tell h⟩
theorem U_X11_check {E : jEnv} {d : Nat} {Q : Int32 → jM → Prop} {a0 : Nat} {x1 : Int32} {S : jM} (hk : jk S a0 = 11) (h : jk S a0 = 11 ∧ ((jisin (Int32.toInt64 x1) 1 30) = 0 → Q (-1000000001) (jput S a0 34 0)) ∧ (¬ (jisin (Int32.toInt64 x1) 1 30) = 0 → ((ji S a0 3) = 0 → Q (-1000000002) (jput S a0 34 0)) ∧ (¬ (ji S a0 3) = 0 → ∃ b7, jr S a0 0 = some b7 ∧ (∃ b8, jr S a0 2 = some b8 ∧ (jFv E mX11_setAside d 0 0 [.ref a0, .ref b7, .ref b8] (jput S a0 34 0) (fun S9 => jk S9 a0 = 11 ∧ ∃ b11, jr S9 a0 1 = some b11 ∧ (∃ b12, jr S9 a0 0 = some b12 ∧ (jFv E mX11_setAside d 0 0 [.ref a0, .ref b11, .ref b12] S9 (fun S13 => L_X11_check_64 E d Q a0 x1 (ji S a0 34) 0 0 S13))))))))) : jFm E mX11_check (d + 1) a0 [.int x1] S Q := ⟨hk, T_X11_check h⟩
theorem U_X11_keep {E : jEnv} {d : Nat} {Q : Int32 → jM → Prop} {a0 : Nat} {S : jM} (hk : jk S a0 = 11) (h : jk S a0 = 11 ∧ ∃ b2, jr S a0 0 = some b2 ∧ (∃ b3, jr S a0 1 = some b3 ∧ (jFv E mX11_setAside d 0 0 [.ref a0, .ref b2, .ref b3] (jput S a0 3 1) (fun S4 => jk S4 a0 = 11 ∧ ∃ b6, jr S4 a0 0 = some b6 ∧ (jk S4 b6 = 12 ∧ vp_in 0 (jl S4 b6) ∧ (Q (ji S4 b6 (Int32.toNatClampNeg 0)) S4)))))) : jFm E mX11_keep (d + 1) a0 [] S Q := ⟨hk, T_X11_keep h⟩
theorem U_X11_back {E : jEnv} {d : Nat} {Q : Int32 → jM → Prop} {a0 : Nat} {S : jM} (hk : jk S a0 = 11) (h : jk S a0 = 11 ∧ ((ji S a0 3) = 0 → Q (-1000000002) S) ∧ (¬ (ji S a0 3) = 0 → ∃ b3, jr S a0 1 = some b3 ∧ (∃ b4, jr S a0 0 = some b4 ∧ (jFv E mX11_setAside d 0 0 [.ref a0, .ref b3, .ref b4] S (fun S5 => jk S5 a0 = 11 ∧ ∃ b7, jr S5 a0 0 = some b7 ∧ (jk S5 b7 = 12 ∧ vp_in 0 (jl S5 b7) ∧ (Q (ji S5 b7 (Int32.toNatClampNeg 0)) S5))))))) : jFm E mX11_back (d + 1) a0 [] S Q := ⟨hk, T_X11_back h⟩
theorem U_X11_count {E : jEnv} {d : Nat} {Q : Int32 → jM → Prop} {a0 : Nat} {x1 : Int32} {S : jM} (hk : jk S a0 = 11) (h : (x1 = 0 → jk S a0 = 11 ∧ ∃ b3, jr S a0 0 = some b3 ∧ (jk S b3 = 12 ∧ vp_in 0 (jl S b3) ∧ (Q (ji S b3 (Int32.toNatClampNeg 0)) S))) ∧ (x1 = 1 → jk S a0 = 11 ∧ jFi E mX11_allOf d 0 0 [.ref a0, .int 6] S (fun r9 S8 => Q r9 S8)) ∧ (x1 = 2 → jk S a0 = 11 ∧ ∃ b12, jr S a0 0 = some b12 ∧ (jk S b12 = 12 ∧ vp_in 2 (jl S b12) ∧ (Q (ji S b12 (Int32.toNatClampNeg 2)) S))) ∧ (x1 = 3 → jk S a0 = 11 ∧ ∃ b17, jr S a0 0 = some b17 ∧ (jk S b17 = 12 ∧ vp_in 4 (jl S b17) ∧ (Q (jmany (ji S b17 (Int32.toNatClampNeg 4))) S))) ∧ (x1 = 4 → jk S a0 = 11 ∧ ∃ b25, jr S a0 0 = some b25 ∧ (jk S b25 = 12 ∧ vp_in 7 (jl S b25) ∧ (Q (ji S b25 (Int32.toNatClampNeg 7)) S))) ∧ (x1 = 5 → jk S a0 = 11 ∧ jFi E mX11_can d 0 0 [.ref a0] S (fun r31 S30 => (r31 = 0 → Q 0 S30) ∧ (¬ r31 = 0 → Q 1 S30))) ∧ (x1 = 6 → jk S a0 = 11 ∧ ∃ b35, jr S a0 0 = some b35 ∧ (jk S b35 = 12 ∧ vp_in 1 (jl S b35) ∧ (Q (ji S b35 (Int32.toNatClampNeg 1)) S))) ∧ (x1 = 7 → jk S a0 = 11 ∧ Q (ji S a0 34) S) ∧ (x1 = 8 → jk S a0 = 11 ∧ Q (ji S a0 19) S) ∧ (x1 = 9 → jk S a0 = 11 ∧ ∃ b44, jr S a0 0 = some b44 ∧ (jk S b44 = 12 ∧ vp_in 8 (jl S b44) ∧ (Q (ji S b44 (Int32.toNatClampNeg 8)) S))) ∧ (¬ x1 = 0 → ¬ x1 = 1 → ¬ x1 = 2 → ¬ x1 = 3 → ¬ x1 = 4 → ¬ x1 = 5 → ¬ x1 = 6 → ¬ x1 = 7 → ¬ x1 = 8 → ¬ x1 = 9 → Q (-1000000001) S)) : jFm E mX11_count (d + 1) a0 [.int x1] S Q := ⟨hk, T_X11_count h⟩
end
section
/-! THE TWO SIDES: the reference's row, the frame of a pair of calls, ranges -/
theorem jcmp_lt (a b : Int64) : lg_cmp a b < 0 ↔ a < b := by
  unfold lg_cmp
  by_cases h1 : a > b
  · have : ¬ a < b := Int64.not_lt.mpr (Int64.le_of_lt h1)
    simp [h1, this]
  · by_cases h2 : a = b
    · subst h2; simp
    · have : a < b := by
        rcases Int64.lt_or_eq_of_le (Int64.not_lt.mp h1) with h | h
        · exact h
        · exact absurd h h2
      simp [h1, h2, this]
theorem jcmp_gt (a b : Int64) : 0 < lg_cmp a b ↔ b < a := by
  unfold lg_cmp
  by_cases h1 : a > b
  · simp [h1]
  · have h1' : ¬ b < a := h1
    by_cases h2 : a = b
    · subst h2; simp
    · simp [h1, h2]
theorem jisin_int (x lo hi : Int32) : jisin x.toInt64 lo.toInt64 hi.toInt64 = if x < lo then 0 else if hi < x then 0 else 1 := by
  have c : ∀ a b : Int32, a.toInt64 < b.toInt64 ↔ a < b := fun a b => by
    rw [Int64.lt_iff_toInt_lt, Int32.lt_iff_toInt_lt, Int32.toInt_toInt64, Int32.toInt_toInt64]
  unfold jisin
  simp only [jcmp_lt, jcmp_gt, c]
theorem jisin_ab (x : Int32) {lo hi : Int64} (a n : Nat) (hl : lo = (nI a).toInt64) (hh : hi = (nI n).toInt64) (hn : n < 2 ^ 31 - 1) (ha : a ≤ n) : (∃ j, a ≤ j ∧ j ≤ n ∧ x = nI j ∧ jisin x.toInt64 lo hi = 1) ∨ ((∀ j, a ≤ j → j ≤ n → x ≠ nI j) ∧ jisin x.toInt64 lo hi = 0) := by
  subst hl; subst hh
  rw [jisin_int]
  by_cases h1 : x < nI a
  · rw [if_pos h1]
    refine Or.inr ⟨fun j p q e => ?_, rfl⟩
    rw [e, Int32.lt_iff_toInt_lt, nI_toInt (by omega), nI_toInt (by omega)] at h1
    omega
  · rw [if_neg h1]
    by_cases h2 : nI n < x
    · rw [if_pos h2]
      refine Or.inr ⟨fun j p q e => ?_, rfl⟩
      rw [e, Int32.lt_iff_toInt_lt, nI_toInt (by omega), nI_toInt (by omega)] at h2
      omega
    · rw [if_neg h2]
      rw [Int32.lt_iff_toInt_lt, nI_toInt (by omega)] at h1 h2
      obtain ⟨j, hj, rfl⟩ := jofI (x := x) (n := n + 1) (by omega) (by rw [Int32.le_iff_toInt_le]; show (0 : Int) ≤ _; omega) (by rw [Int32.lt_iff_toInt_lt, nI_toInt (by omega)]; omega)
      rw [nI_toInt (by omega)] at h1
      exact Or.inl ⟨j, by omega, by omega, rfl, rfl⟩
/-- both sides ask alike whether a number lies below a bound -/
theorem jisin_wi (x b : Int32) (c : Int32) {hi : Int64} (hh : hi = c.toInt64) (hb : ∀ y : Int32, b ≤ y ↔ c < y) : jisin x.toInt64 0 hi = jwi x b := by
  subst hh
  have e : (0 : Int64) = (0 : Int32).toInt64 := rfl
  rw [e, jisin_int]
  unfold jwi
  simp only [hb]
theorem jle_lt {b c : Int32} (h : c.toInt + 1 = b.toInt) (y : Int32) : b ≤ y ↔ c < y := by
  rw [Int32.le_iff_toInt_le, Int32.lt_iff_toInt_lt]; omega
/-- the reference with its row -/
def MR (S : jM) (m : Nat) (v : Nat → Int32) : Prop := ML S m ∧ ∀ j, ji S (m + 1) j = v j
section jPair
variable {E : jEnv} {d : Nat} {S : jM} {x m sz : Nat} {v : Nat → Int32}
theorem MR.k (h : MR S m v) : jk S m = 11 := h.1.1
theorem MR.r (h : MR S m v) : jr S m 0 = some (m + 1) := (h.1.2 0 (0, 3135) rfl).1
theorem MR.k1 (h : MR S m v) : jk S (m + 1) = 12 := (h.1.2 0 (0, 3135) rfl).2.1
theorem MR.l1 (h : MR S m v) : jl S (m + 1) = 3135 := (h.1.2 0 (0, 3135) rfl).2.2
theorem ML.same {S' : jM} (h : ML S m) (hs : jsame S S') : ML S' m := by
  obtain ⟨e1, e2, e3, -⟩ := hs
  unfold ML
  rw [e1, e2, e3]
  exact h
theorem CL.same {S' : jM} (h : CL S x) (hs : jsame S S') : CL S' x := by
  obtain ⟨e1, e2, e3, -⟩ := hs
  unfold CL SrL TpL ShL SlL ShL at *
  rw [e1, e2, e3]
  exact h
theorem MR.at {i : Int32} (n : Nat) (h : MR S m v) (e : i = nI n) (hn : n < 3135) : vp_in i (jl S (m + 1)) ∧ ji S (m + 1) (Int32.toNatClampNeg i) = v n := by
  subst e
  rw [jcl (by omega), h.l1]
  exact ⟨jin_nI hn (by omega), h.2 n⟩
theorem MR.keep {S' : jM} {lo hi : Nat} (h : MR S m v) (hc : jch S S' lo hi) (hd : m + 2 ≤ lo ∨ hi ≤ m + 1) : MR S' m v :=
  ⟨h.1.same hc.1, fun j => by rw [hc.2 (m + 1) (by omega)]; exact h.2 j⟩
theorem MR.put {n : Nat} {w : Int32} (h : MR S m v) : MR (jput S (m + 1) n w) m (upd v n w) := by
  refine ⟨h.1, fun j => ?_⟩
  rw [ji_put]
  unfold upd
  by_cases hj : j = n
  · rw [if_pos ⟨rfl, hj⟩, if_pos hj]
  · rw [if_neg (fun c => hj c.2), if_neg hj]; exact h.2 j
theorem MR.puts {i w : Int32} (n : Nat) (h : MR S m v) (e : i = nI n) (hn : n < 3135) : MR (jput S (m + 1) (Int32.toNatClampNeg i) w) m (upd v n w) := by
  subst e
  rw [jcl (by omega)]
  exact h.put
theorem c_X11_becomes {Q : Int32 → jM → Prop} {i w : Int32} (n : Nat) (hM : MR S m v) (e : i = nI n) (hn : n < 3135) (h : ∀ S', jch S S' (m + 1) (m + 2) → MR S' m (upd v n w) → Q (v n) S') : jFi E mX11_becomes d 0 0 [.ref m, .int i, .int w] S Q := by
  obtain ⟨a1, a2⟩ := hM.at n e hn
  refine T_X11_becomes ⟨hM.k, m + 1, hM.r, hM.k1, a1, ?_⟩
  rw [a2]
  exact h _ (jch.put (by omega) (by omega)) (hM.puts n e hn)
/-- what a pair of calls may change: the realm, what is only thought, the reference's row and its scratch rows -/
def jfr (S S' : jM) (x : Nat) : Prop := jsame S S' ∧ ∀ y, (y < x + 1 ∨ x + 21 ≤ y) → (y < x + 41 ∨ x + 60 ≤ y) → y ≠ x + 95 → y ≠ x + 97 → (y < x + 106 ∨ x + 109 ≤ y) → (y < x + 110 ∨ x + 112 ≤ y) → ji S' y = ji S y
theorem jfr.rfl : jfr S S x := ⟨jsame.rfl, fun _ _ _ _ _ _ _ => _root_.rfl⟩
theorem jfr.trans {S1 S2 : jM} (h1 : jfr S S1 x) (h2 : jfr S1 S2 x) : jfr S S2 x := ⟨h1.1.trans h2.1, fun y a b c d e f => (h2.2 y a b c d e f).trans (h1.2 y a b c d e f)⟩
theorem jfr.realm {S1 : jM} {lo hi : Nat} (h : jch S S1 lo hi) (a : x + 1 ≤ lo) (b : hi ≤ x + 21) : jfr S S1 x := ⟨h.1, fun y c _ _ _ _ _ => h.2 y (by omega)⟩
theorem jfr.row {S1 : jM} (h : jch S S1 (x + 95) (x + 96)) : jfr S S1 x := ⟨h.1, fun y _ _ c _ _ _ => h.2 y (by omega)⟩
/-- what holds of the row at all times: the bound of each place, 0 where there is none -/
def rgb (j : Nat) : Nat :=
  if j < 72 then (if j = 1 then 15 else if j = 2 then 10000 else if j = 3 then 6 else if j = 4 then 1024 else if j = 5 then 10000 else if j = 6 then 100 else if j = 7 then 7 else if j < 9 then 0 else if j < 15 then 10 else if j < 36 then 0 else 10)
  else (if (j - 72) % 7 = 0 then 6 else if (j - 72) % 7 = 1 then 6 else if (j - 72) % 7 = 2 then 10 else if (j - 72) % 7 = 3 then 1024 else if (j - 72) % 7 = 6 then 2 else 100)
def Rg (_sz : Nat) (v : Nat → Int32) : Prop := ∀ j, j < 135 → rgb j ≠ 0 → ∃ k, k < rgb j ∧ v j = nI k
theorem Rg.put {n : Nat} {w : Int32} (h : Rg sz v) (hw : rgb n ≠ 0 → ∃ k, k < rgb n ∧ w = nI k) : Rg sz (upd v n w) := by
  intro j hj hb
  unfold upd
  by_cases hjn : j = n
  · rw [if_pos hjn]; subst hjn; exact hw hb
  · rw [if_neg hjn]; exact h j hj hb
theorem rgb_m (i f : Nat) (hf : f < 7) : rgb (72 + 7 * i + f) = if f = 0 then 6 else if f = 1 then 6 else if f = 2 then 10 else if f = 3 then 1024 else if f = 6 then 2 else 100 := by
  unfold rgb
  rw [if_neg (by omega)]
  have e : (72 + 7 * i + f - 72) % 7 = f := by omega
  rw [e]
theorem rgb_road (i : Nat) (hi : i < 36) : rgb (36 + i) = 10 := by
  unfold rgb
  rw [if_pos (by omega), if_neg (by omega), if_neg (by omega), if_neg (by omega), if_neg (by omega), if_neg (by omega), if_neg (by omega), if_neg (by omega), if_neg (by omega), if_neg (by omega), if_neg (by omega)]
theorem rgb_wish (i : Nat) (hi : i < 6) : rgb (9 + i) = 10 := by
  unfold rgb
  rw [if_pos (by omega), if_neg (by omega), if_neg (by omega), if_neg (by omega), if_neg (by omega), if_neg (by omega), if_neg (by omega), if_neg (by omega), if_neg (by omega), if_pos (by omega)]
theorem rgb_from (i : Nat) (hi : i < 20) : rgb (16 + i) = 0 := by
  unfold rgb
  rw [if_pos (by omega), if_neg (by omega), if_neg (by omega), if_neg (by omega), if_neg (by omega), if_neg (by omega), if_neg (by omega), if_neg (by omega), if_neg (by omega), if_neg (by omega), if_pos (by omega)]
theorem Rg.at_ (h : Rg sz v) : ∃ k, k < 6 ∧ v 3 = nI k := h 3 (by omega) (by decide)
theorem Rg.kn (h : Rg sz v) : ∃ k, k < 1024 ∧ v 4 = nI k := h 4 (by omega) (by decide)
theorem Rg.wi (h : Rg sz v) : ∃ k, k < 7 ∧ v 7 = nI k := h 7 (by omega) (by decide)
theorem Rg.rd (h : Rg sz v) (i : Nat) (hi : i < 36) : ∃ k, k < 10 ∧ v (36 + i) = nI k := by
  have := h (36 + i) (by omega) (by rw [rgb_road i hi]; decide)
  rw [rgb_road i hi] at this; exact this
theorem Rg.wd (h : Rg sz v) (i : Nat) (hi : i < 6) : ∃ k, k < 10 ∧ v (9 + i) = nI k := by
  have := h (9 + i) (by omega) (by rw [rgb_wish i hi]; decide)
  rw [rgb_wish i hi] at this; exact this
/-- the two sides stand alike -/
def PI (S : jM) (x sz : Nat) (v : Nat → Int32) : Prop := XR S x sz v ∧ MR S (x + 94) v ∧ Rg sz v
/-- the texts' rows of the reference stay -/
def TK (S S' : jM) (x : Nat) : Prop := ∀ j, (j = 1 ∨ 135 ≤ j) → ji S' (x + 95) j = ji S (x + 95) j
theorem tkOf {S' : jM} {v' : Nat → Int32} (h : MR S (x + 94) v) (h' : MR S' (x + 94) v') (e : ∀ j, (j = 1 ∨ 135 ≤ j) → v' j = v j) : TK S S' x := fun j hj => (h'.2 j).trans ((e j hj).trans (h.2 j).symm)
def PO (S : jM) (x : Nat) (r r' : Int32) (S' : jM) : Prop := r = r' ∧ jfr S S' x ∧ TK S S' x ∧ ∃ sz v, PI S' x sz v
theorem PI.same {r : Int32} (h : PI S x sz v) : PO S x r r S := ⟨rfl, jfr.rfl, fun _ _ => rfl, sz, v, h⟩
theorem C_seed {Q : Int32 → jM → Prop} {w : Int32} (hX : XR S x sz v) (h : ∀ S', jch S S' (x + 2) (x + 3) → XR S' x sz (upd v 8 w) → Q (v 8) S') : jFi E mX10_seed d 0 0 [.ref x, .int w] S Q := by
  refine T_X10_seed ⟨hX.1, x + 1, hX.2.1, hX.k3, x + 2, hX.r0, hX.g.1.1, ?_⟩
  rw [hX.g.2.2.1]
  have hc : jch S (jput S (x + 2) 2 w) (x + 2) (x + 3) := jch.put (by omega) (by omega)
  refine h _ hc (hX.of hc.1 (hX.2.2.guild (hc.wide (by omega) (by omega)) ?_ hX.sz9 hX.v0 (fun j h0 h8 hj => by unfold upd; rw [if_neg h8])))
  have e8 : upd v 8 w 8 = w := by unfold upd; rw [if_pos rfl]
  rw [e8]
  refine hX.g.putz.cong (fun i hi f hf => ?_)
  unfold mfv upd
  rw [if_neg (by omega)]
theorem P_seed {w : Int32} (hP : PI S x sz v) : jFi E mX10_seed d 0 0 [.ref x, .int w] S (fun r S1 => jFm E mX11_seed (d + 1) (x + 94) [.int w] S1 (fun r' S2 => PO S x r r' S2)) := by
  refine C_seed hP.1 (fun S1 c1 h1 => ?_)
  have hM := hP.2.1.keep c1 (by omega)
  refine U_X11_seed (by first | exact hM.k | exact hM1.k | exact hP.2.1.k | exact h.2.2.1.1 | exact h.1.1 | exact g1.1.1 | exact g3.1.1 | exact gm.1.1 | exact h2.1.1 | exact hM2.k | (rw [c1.1.1]; exact hP.2.1.k)) ⟨hM.k, c_X11_becomes 8 hM rfl (by omega) (fun S2 c2 h2 => ⟨rfl, (jfr.realm c1 (by omega) (by omega)).trans (jfr.row c2), tkOf hP.2.1 h2 (fun j hj => by unfold upd; rw [if_neg (by omega)]), sz, _, ?_, h2, hP.2.2.put (fun c => absurd rfl c)⟩)⟩
  exact h1.of c2.1 (h1.2.2.keep c2 (by omega))
end jPair
end
section
/-! LIGHT CALLS of the apprentice, on both sides -/
section jLight
variable {E : jEnv} {d : Nat} {S : jM} {x m sz : Nat} {v : Nat → Int32}
theorem upd_at (n : Nat) (w : Int32) : upd v n w n = w := by unfold upd; rw [if_pos rfl]
theorem upd_ne {n j : Nat} (w : Int32) (h : j ≠ n) : upd v n w j = v j := by unfold upd; rw [if_neg h]
theorem XR.kl (h : XR S x sz v) : jk S (x + 16) = 1 := h.l.1.1
/-- the learner alone changes -/
theorem XR.lear {S' : jM} {v' : Nat → Int32} (h : XR S x sz v) (hc : jch S S' (x + 16) (x + 19)) (hl : LdR S' (x + 16) (v' 3) (v' 4) (v' 5) (v' 6) (v' 2) (fun i => v' (16 + i)) (fun i => v' (26 + i))) (he : ∀ j, (j < 2 ∨ 7 ≤ j) → (j < 16 ∨ 36 ≤ j) → v' j = v j) : XR S' x sz v' :=
  h.of hc.1 (h.2.2.learner hc hl he)
/-- the wishes alone change -/
theorem RmR.wish {S' : jM} {r : Nat} {v' : Nat → Int32} (h : RmR S r sz v) (hs : jsame S S') (hc : ∀ y, y ≠ r → y ≠ r + 18 → ji S' y = ji S y) (h6 : ji S' r 6 = ji S r 6) (h4 : ji S' r 4 = v' 7) (hw : ∀ i, i < 6 → ji S' (r + 18) i = v' (9 + i)) (he : ∀ j, j ≠ 7 → (j < 9 ∨ 15 ≤ j) → v' j = v j) : RmR S' r sz v' := by
  obtain ⟨a0, a1, a2, a3, a4, a5, a6, a7, a8⟩ := h
  have c1 : jch S (S') r r → True := fun _ => trivial
  have g3 : GR S' (r + 1) sz (v 8) (mfv v) := ⟨a3.1.same hs, by rw [hc _ (by omega) (by omega)]; exact a3.2.1, by rw [hc _ (by omega) (by omega)]; exact a3.2.2.1, fun i hi f hf => by rw [hc _ (by omega) (by omega)]; exact a3.2.2.2 i hi f hf⟩
  have g4 : RdR S' (r + 12) (fun i => v (36 + i)) (vfar v) := ⟨a4.1.same hs, fun i hi => by rw [hc _ (by omega) (by omega)]; exact a4.2.1 i hi, fun i hi => by rw [hc _ (by omega) (by omega)]; exact a4.2.2 i hi⟩
  have g5 : LdR S' (r + 15) (v 3) (v 4) (v 5) (v 6) (v 2) (fun i => v (16 + i)) (fun i => v (26 + i)) := by
    obtain ⟨b0, b1, b2, b3, b4, b5, b6, b7⟩ := a5
    have e := hc (r + 15) (by omega) (by omega)
    exact ⟨b0.same hs, by rw [e]; exact b1, by rw [e]; exact b2, by rw [e]; exact b3, by rw [e]; exact b4, by rw [e]; exact b5, fun i hi => by rw [hc _ (by omega) (by omega)]; exact b6 i hi, fun i hi => by rw [hc _ (by omega) (by omega)]; exact b7 i hi⟩
  refine ⟨a0.same hs, a1, by rw [he 0 (by omega) (by omega)]; exact a2, ?_, ?_, ?_, h4, hw, by rw [h6, he 1 (by omega) (by omega)]; exact a8⟩
  · rw [he 8 (by omega) (by omega)]
    exact g3.cong (fun i hi f hf => (he _ (by omega) (by omega)).symm)
  · exact g4.cong (fun i hi => he _ (by omega) (by omega))
  · rw [he 3 (by omega) (by omega), he 4 (by omega) (by omega), he 5 (by omega) (by omega), he 6 (by omega) (by omega), he 2 (by omega) (by omega)]
    exact g5.cong (fun i hi => (he _ (by omega) (by omega)).symm) (fun i hi => (he _ (by omega) (by omega)).symm)
theorem P_apprentice {w : Int32} (hP : PI S x sz v) : jFi E mX10_apprentice d 0 0 [.ref x, .int w] S (fun r S1 => jFm E mX11_apprentice (d + 1) (x + 94) [.int w] S1 (fun r' S2 => PO S x r r' S2)) := by
  have hX := hP.1
  have hM := hP.2.1
  obtain ⟨b0, b1, b2, b3, b4, b5, b6, b7⟩ := hX.l
  have key : ∀ j, j < 4 → w = nI j → jFm E mX11_apprentice (d + 1) (x + 94) [.int w] S (fun r' S2 => PO S x (v (3 + j)) r' S2) := by
    intro j hj e
    refine U_X11_apprentice (by first | exact hM.k | exact hM1.k | exact hP.2.1.k | exact h.2.2.1.1 | exact h.1.1 | exact g1.1.1 | exact g3.1.1 | exact gm.1.1 | exact h2.1.1 | exact hM2.k | (rw [c1.1.1]; exact hP.2.1.k)) ⟨fun c => ?_, fun _ => ?_⟩
    · rcases jisin_ab w (lo := 0) (hi := 3) 0 3 rfl rfl (by omega) (by omega) with ⟨j, _, _, _, h⟩ | ⟨h, _⟩
      · rw [h] at c; exact absurd c (by decide)
      · exact absurd e (h j (by omega) (by omega))
    · obtain ⟨a1, a2⟩ := hM.at (i := 3 + w) (3 + j) (by rw [e]; exact nI_add 3 j) (by omega)
      refine ⟨hM.k, _, hM.r, hM.k1, a1, ?_⟩
      rw [a2]
      exact hP.same
  refine T_X10_apprentice ⟨fun e => ⟨hX.1, x + 1, hX.2.1, hX.k3, x + 16, hX.r2, b0.1, ?_⟩, fun e => ⟨hX.1, x + 1, hX.2.1, hX.k3, x + 16, hX.r2, b0.1, ?_⟩, fun e => ⟨hX.1, x + 1, hX.2.1, hX.k3, x + 16, hX.r2, b0.1, ?_⟩, fun e => ⟨hX.1, x + 1, hX.2.1, hX.k3, x + 16, hX.r2, b0.1, ?_⟩, fun e0 e1 e2 e3 => ?_⟩
  · rw [b1]; exact key 0 (by omega) e
  · rw [b2]; exact key 1 (by omega) e
  · rw [b3]; exact key 2 (by omega) e
  · rw [b4]; exact key 3 (by omega) e
  · refine U_X11_apprentice (by first | exact hM.k | exact hM1.k | exact hP.2.1.k | exact h.2.2.1.1 | exact h.1.1 | exact g1.1.1 | exact g3.1.1 | exact gm.1.1 | exact h2.1.1 | exact hM2.k | (rw [c1.1.1]; exact hP.2.1.k)) ⟨fun _ => hP.same, fun c => absurd ?_ c⟩
    rcases jisin_ab w (lo := 0) (hi := 3) 0 3 rfl rfl (by omega) (by omega) with ⟨j, _, hj, h, _⟩ | ⟨_, h⟩
    · exfalso
      rcases (show j = 0 ∨ j = 1 ∨ j = 2 ∨ j = 3 by omega) with rfl | rfl | rfl | rfl
      · exact e0 h
      · exact e1 h
      · exact e2 h
      · exact e3 h
    · exact h
theorem P_clear (hP : PI S x sz v) : jFi E mX10_clear d 0 0 [.ref x] S (fun r S1 => jFm E mX11_clear (d + 1) (x + 94) [] S1 (fun r' S2 => PO S x r r' S2)) := by
  have hX := hP.1
  have h7 : ji S (x + 1) 4 = v 7 := hX.2.2.2.2.2.2.2.2.1
  refine T_X10_clear ⟨hX.1, x + 1, hX.2.1, hX.k3, ?_⟩
  rw [h7]
  have c1 : jch S (jput S (x + 1) 4 0) (x + 1) (x + 2) := jch.put (by omega) (by omega)
  have hM := hP.2.1.keep c1 (by omega)
  have hr : RmR (jput S (x + 1) 4 0) (x + 1) sz (upd v 7 0) := by
    refine hX.2.2.wish c1.1 (fun y h1 h2 => c1.2 y (by omega)) ?_ ?_ (fun i hi => ?_) (fun j h1 h2 => upd_ne 0 h1)
    · rw [ji_put, if_neg (by omega)]
    · rw [ji_put, if_pos ⟨rfl, rfl⟩, upd_at]
    · rw [ji_put, if_neg (by omega), upd_ne 0 (by omega)]
      exact hX.2.2.2.2.2.2.2.2.2.1 i hi
  refine U_X11_clear (by first | exact hM.k | exact hM1.k | exact hP.2.1.k | exact h.2.2.1.1 | exact h.1.1 | exact g1.1.1 | exact g3.1.1 | exact gm.1.1 | exact h2.1.1 | exact hM2.k | (rw [c1.1.1]; exact hP.2.1.k)) ⟨hM.k, c_X11_becomes 7 hM rfl (by omega) (fun S2 c2 h2 => ⟨rfl, (jfr.realm c1 (by omega) (by omega)).trans (jfr.row c2), tkOf hP.2.1 h2 (fun j hj => by rw [upd_ne _ (by omega)]), sz, _, ?_, h2, hP.2.2.put (fun _ => ⟨0, by decide, rfl⟩)⟩)⟩
  exact (hX.of c1.1 hr).of c2.1 (hr.keep c2 (by omega))
theorem P_has {w u : Int32} (hP : PI S x sz v) : jFi E mX10_has (d + 1) 0 0 [.ref x, .int w, .int u] S (fun r S1 => jFm E mX11_has (d + 1) (x + 94) [.int w, .int u] S1 (fun r' S2 => PO S x r r' S2)) := by
  have hX := hP.1
  have hl := hX.l
  have e1 : jisin u.toInt64 0 9999 = jwi u 10000 := jisin_wi u 10000 9999 rfl (jle_lt (by decide))
  have e2 : jisin u.toInt64 0 99 = jwi u 100 := jisin_wi u 100 99 rfl (jle_lt (by decide))
  have bad : (w ≠ 2 → w ≠ 3 → jFm E mX11_has (d + 1) (x + 94) [.int w, .int u] S (fun r' S2 => PO S x kBAD r' S2)) := by
    intro n2 n3
    refine U_X11_has (by first | exact hM.k | exact hM1.k | exact hP.2.1.k | exact h.2.2.1.1 | exact h.1.1 | exact g1.1.1 | exact g3.1.1 | exact gm.1.1 | exact h2.1.1 | exact hM2.k | (rw [c1.1.1]; exact hP.2.1.k)) ⟨fun _ => hP.same, fun c => absurd ?_ c⟩
    rcases jisin_ab w (lo := 2) (hi := 3) 2 3 rfl rfl (by omega) (by omega) with ⟨j, h1, h2, h, _⟩ | ⟨_, h⟩
    · rcases (show j = 2 ∨ j = 3 by omega) with rfl | rfl
      · exact absurd h n2
      · exact absurd h n3
    · exact h
  have i2 : jisin (2 : Int32).toInt64 2 3 ≠ 0 := by decide
  have i3 : jisin (3 : Int32).toInt64 2 3 ≠ 0 := by decide
  have put : ∀ (f n : Nat) (q : Int32), (f = 2 ∧ n = 5 ∧ q = 2 ∧ jwi u 10000 ≠ 0) ∨ (f = 3 ∧ n = 6 ∧ q = 3 ∧ jwi u 100 ≠ 0) → jFm E mX11_has (d + 1) (x + 94) [.int q, .int u] (jput S (x + 16) f u) (fun r' S2 => PO S x (v n) r' S2) := by
    intro f n q hf
    have c1 : jch S (jput S (x + 16) f u) (x + 16) (x + 17) := jch.put (by omega) (by omega)
    have hM := hP.2.1.keep c1 (by omega)
    have h1 : XR (jput S (x + 16) f u) x sz (upd v n u) := by
      refine hX.lear (c1.wide (by omega) (by omega)) ?_ (fun j p1 p2 => upd_ne u (by omega))
      rcases hf with ⟨rfl, rfl, -, -⟩ | ⟨rfl, rfl, -, -⟩
      · rw [upd_ne u (j := 3) (by omega), upd_ne u (j := 4) (by omega), upd_at, upd_ne u (j := 6) (by omega), upd_ne u (j := 2) (by omega)]
        exact hl.put2.cong (fun i hi => (upd_ne u (by omega)).symm) (fun i hi => (upd_ne u (by omega)).symm)
      · rw [upd_ne u (j := 3) (by omega), upd_ne u (j := 4) (by omega), upd_ne u (j := 5) (by omega), upd_at, upd_ne u (j := 2) (by omega)]
        exact hl.put3.cong (fun i hi => (upd_ne u (by omega)).symm) (fun i hi => (upd_ne u (by omega)).symm)
    have hg : Rg sz (upd v n u) := by
      refine hP.2.2.put (fun _ => ?_)
      rcases hf with ⟨rfl, rfl, -, hu⟩ | ⟨rfl, rfl, -, hu⟩
      · rcases jwi_cases u (b := 10000) 10000 rfl (by omega) with ⟨j, hj, e, _⟩ | ⟨_, e⟩
        · exact ⟨j, hj, e⟩
        · exact absurd e hu
      · rcases jwi_cases u (b := 100) 100 rfl (by omega) with ⟨j, hj, e, _⟩ | ⟨_, e⟩
        · exact ⟨j, hj, e⟩
        · exact absurd e hu
    have fin : ∀ i : Int32, i = nI n → n < 3135 → jFi E mX11_becomes d 0 0 [.ref (x + 94), .int i, .int u] (jput S (x + 16) f u) (fun r' S2 => PO S x (v n) r' S2) := by
      intro i hi hn
      refine c_X11_becomes n hM hi hn (fun S2 c2 h2 => ⟨rfl, (jfr.realm c1 (by omega) (by omega)).trans (jfr.row c2), tkOf hP.2.1 h2 (fun j hj => by rw [upd_ne _ (by omega)]), sz, _, ?_, h2, hg⟩)
      exact h1.of c2.1 (h1.2.2.keep c2 (by omega))
    rcases hf with ⟨rfl, rfl, rfl, hu⟩ | ⟨rfl, rfl, rfl, hu⟩
    · exact U_X11_has (by first | exact hM.k | exact hM1.k | exact hP.2.1.k | exact h.2.2.1.1 | exact h.1.1 | exact g1.1.1 | exact g3.1.1 | exact gm.1.1 | exact h2.1.1 | exact hM2.k | (rw [c1.1.1]; exact hP.2.1.k)) ⟨fun c => absurd c i2, fun _ => ⟨fun _ => ⟨fun c => absurd (e1.symm.trans c) hu, fun _ => ⟨hM.k, fin _ rfl (by omega)⟩⟩, fun c => absurd rfl c⟩⟩
    · exact U_X11_has (by first | exact hM.k | exact hM1.k | exact hP.2.1.k | exact h.2.2.1.1 | exact h.1.1 | exact g1.1.1 | exact g3.1.1 | exact gm.1.1 | exact h2.1.1 | exact hM2.k | (rw [c1.1.1]; exact hP.2.1.k)) ⟨fun c => absurd c i3, fun _ => ⟨fun c => absurd c (by decide), fun _ => ⟨fun c => absurd (e2.symm.trans c) hu, fun _ => ⟨hM.k, fin _ rfl (by omega)⟩⟩⟩⟩
  refine T_X10_has ⟨hX.1, x + 1, hX.2.1, hX.k3, x + 16, hX.r2, ⟨fun w2 => ⟨fun hu => ⟨fun w3 => absurd (w2.symm.trans w3) (by decide), fun _ => ?_⟩, fun hu => ⟨hX.kl, ?_⟩⟩, fun w2 => ⟨fun w3 => ⟨fun hu => ?_, fun hu => ⟨hX.kl, ?_⟩⟩, fun w3 => bad w2 w3⟩⟩⟩
  · subst w2
    exact U_X11_has (by first | exact hM.k | exact hM1.k | exact hP.2.1.k | exact h.2.2.1.1 | exact h.1.1 | exact g1.1.1 | exact g3.1.1 | exact gm.1.1 | exact h2.1.1 | exact hM2.k | (rw [c1.1.1]; exact hP.2.1.k)) ⟨fun _ => hP.same, fun _ => ⟨fun _ => ⟨fun _ => hP.same, fun c => absurd (e1.trans hu) c⟩, fun c => absurd rfl c⟩⟩
  · subst w2
    rw [hl.2.2.2.1]
    exact put 2 5 2 (Or.inl ⟨rfl, rfl, rfl, hu⟩)
  · subst w3
    exact U_X11_has (by first | exact hM.k | exact hM1.k | exact hP.2.1.k | exact h.2.2.1.1 | exact h.1.1 | exact g1.1.1 | exact g3.1.1 | exact gm.1.1 | exact h2.1.1 | exact hM2.k | (rw [c1.1.1]; exact hP.2.1.k)) ⟨fun _ => hP.same, fun _ => ⟨fun c => absurd c (by decide), fun _ => ⟨fun _ => hP.same, fun c => absurd (e2.trans hu) c⟩⟩⟩
  · subst w3
    rw [hl.2.2.2.2.1]
    exact put 3 6 3 (Or.inr ⟨rfl, rfl, rfl, hu⟩)
end jLight
end
section
/-! KNOWS, WANTS, DAYS that go by, on both sides -/
theorem jknowF : ∀ k : Fin 1024, ∀ g : Fin 10, (nI k.val &&& jshl 1 (nI g.val) = 0) = ¬ ((jshr (nI k.val) (nI g.val) &&& 1) = 1) := by decide +kernel
theorem jknow {k g : Nat} (hk : k < 1024) (hg : g < 10) : (nI k &&& jshl 1 (nI g) = 0) = ¬ ((jshr (nI k) (nI g) &&& 1) = 1) := jknowF ⟨k, hk⟩ ⟨g, hg⟩
theorem nI_bv (x : Int32) : x = nI x.toBitVec.toNat := by
  apply Int32.toBitVec_inj.mp
  apply BitVec.eq_of_toNat_eq
  show _ = (BitVec.ofNat 32 x.toBitVec.toNat).toNat
  rw [BitVec.toNat_ofNat, Nat.mod_eq_of_lt x.toBitVec.isLt]
theorem nI_andle {k b : Nat} (hk : k < b) (y : Int32) : ∃ k', k' < b ∧ nI k &&& y = nI k' := by
  refine ⟨(nI k &&& y).toBitVec.toNat, ?_, nI_bv _⟩
  have e1 : (nI k &&& y).toBitVec = (nI k).toBitVec &&& y.toBitVec := rfl
  rw [e1, BitVec.toNat_and]
  have h1 : (nI k).toBitVec.toNat ≤ k := by
    show (BitVec.ofNat 32 k).toNat ≤ k
    rw [BitVec.toNat_ofNat]
    exact Nat.mod_le _ _
  exact Nat.lt_of_le_of_lt Nat.and_le_left (by omega)
theorem j_and_m1 (y : Int32) : y &&& (-1) = y := by
  apply Int32.toBitVec_inj.mp
  show y.toBitVec &&& (-1 : Int32).toBitVec = y.toBitVec
  have e : (-1 : Int32).toBitVec = BitVec.allOnes 32 := by decide
  rw [e, BitVec.and_allOnes]
/-- days go by, on the row -/
def vrow (v : Nat → Int32) (da : Int32) (p : lst) : Nat → Int32 := fun j => if j = 2 then da else if j = 4 then p.1 else if 26 ≤ j ∧ j < 36 then p.2 (j - 26) else v j
def vday (n : Int32) (v : Nat → Int32) : Nat → Int32 := vrow v (jclamp (v 2 + n) 0 9999) (pdays n (v 6) (v 4, fun i => v (26 + i)))
section jLight2
variable {E : jEnv} {d : Nat} {S : jM} {x m sz : Nat} {v : Nat → Int32}
theorem pone_kn {n fo : Int32} {g : Nat} {p : lst} (h : ∃ k, k < 1024 ∧ p.1 = nI k) : ∃ k, k < 1024 ∧ (pone n fo g p).1 = nI k := by
  unfold pone
  split
  · exact h
  · simp only
    split
    · exact h
    · split
      · exact h
      · obtain ⟨k, hk, e⟩ := h
        rw [e]
        exact nI_andle hk _
theorem pfold_kn {n fo : Int32} : ∀ (c i : Nat) (p : lst), (∃ k, k < 1024 ∧ p.1 = nI k) → ∃ k, k < 1024 ∧ (jfold (pone n fo) c i p).1 = nI k
  | 0, _, _, h => h
  | c + 1, i, p, h => pfold_kn c (i + 1) _ (pone_kn h)
theorem c_X11_doesKnow {Q : Int32 → jM → Prop} {g : Nat} (hM : MR S m v) (hk : ∃ k, k < 1024 ∧ v 4 = nI k) (hg : g < 10) (h : Q (jable (v 4) (nI g)) S) : jFi E mX11_doesKnow d 0 0 [.ref m, .int (nI g)] S Q := by
  obtain ⟨k, hk, e⟩ := hk
  obtain ⟨a1, a2⟩ := hM.at (i := 4) 4 rfl (by omega)
  refine T_X11_doesKnow ⟨hM.k, m + 1, hM.r, hM.k1, a1, ?_⟩
  rw [jable_at hg, e] at h
  rw [a2, e]
  have hq := jknow hk hg
  exact ⟨fun c => by rw [if_neg (by rw [hq]; exact fun f => f c)] at h; exact h, fun c => by rw [if_pos (by rw [hq]; exact c)] at h; exact h⟩
theorem P_knows {w u : Int32} (hP : PI S x sz v) : jFi E mX10_knows (d + 2) 0 0 [.ref x, .int w, .int u] S (fun r S1 => jFm E mX11_knows (d + 1) (x + 94) [.int w, .int u] S1 (fun r' S2 => PO S x r r' S2)) := by
  have hX := hP.1
  have hM := hP.2.1
  have hl := hX.l
  have e2 : jisin u.toInt64 0 1 = jwi u 2 := jisin_wi u 2 1 rfl (jle_lt (by decide))
  refine T_X10_knows ⟨fun c => U_X11_knows (by first | exact hM.k | exact hM1.k | exact hP.2.1.k | exact h.2.2.1.1 | exact h.1.1 | exact g1.1.1 | exact g3.1.1 | exact gm.1.1 | exact h2.1.1 | exact hM2.k | (rw [c1.1.1]; exact hP.2.1.k)) ⟨fun _ => hP.same, fun c' => absurd c c'⟩, fun cw => ⟨fun c => U_X11_knows (by first | exact hM.k | exact hM1.k | exact hP.2.1.k | exact h.2.2.1.1 | exact h.1.1 | exact g1.1.1 | exact g3.1.1 | exact gm.1.1 | exact h2.1.1 | exact hM2.k | (rw [c1.1.1]; exact hP.2.1.k)) ⟨fun c' => absurd c' cw, fun _ => ⟨fun _ => hP.same, fun c' => absurd (e2.trans c) c'⟩⟩, fun cu => ⟨hX.1, x + 1, hX.2.1, hX.k3, x + 16, hX.r2, hX.kl, c_X1_isAble hX.kl ?_⟩⟩⟩
  rw [hl.2.2.1]
  obtain ⟨g, hg, rfl, -⟩ : ∃ j, j < 10 ∧ w = nI j ∧ jwi w 10 = 1 := by
    rcases jwi_cases w (b := 10) 10 rfl (by omega) with h | ⟨_, h⟩
    · exact h
    · exact absurd h cw
  have m0 : ∀ r, (jable (v 4) (nI g) = 0 → r = kNO) → (jable (v 4) (nI g) ≠ 0 → u = 0 → r = v (16 + g)) → (jable (v 4) (nI g) ≠ 0 → u ≠ 0 → r = v (26 + g)) → jFm E mX11_knows (d + 1) (x + 94) [.int (nI g), .int u] S (fun r' S2 => PO S x r r' S2) := by
    intro r h1 h2 h3
    refine U_X11_knows (by first | exact hM.k | exact hM1.k | exact hP.2.1.k | exact h.2.2.1.1 | exact h.1.1 | exact g1.1.1 | exact g3.1.1 | exact gm.1.1 | exact h2.1.1 | exact hM2.k | (rw [c1.1.1]; exact hP.2.1.k)) ⟨fun c => absurd c cw, fun _ => ⟨fun c => absurd (e2.symm.trans c) cu, fun _ => ⟨hM.k, c_X11_doesKnow hM hP.2.2.kn hg ⟨fun c => ?_, fun c => ⟨hM.k, x + 94 + 1, hM.r, fun cu0 => ?_, fun cu0 => ?_⟩⟩⟩⟩⟩
    · rw [h1 c]; exact hP.same
    · obtain ⟨a1, a2⟩ := hM.at (i := 16 + nI g) (16 + g) (nI_add 16 g) (by omega)
      rw [a2, h2 c cu0]
      exact ⟨hM.k1, a1, hP.same⟩
    · obtain ⟨a1, a2⟩ := hM.at (i := 26 + nI g) (26 + g) (nI_add 26 g) (by omega)
      rw [a2, h3 c cu0]
      exact ⟨hM.k1, a1, hP.same⟩
  have hb := hl.1
  refine ⟨fun c => m0 _ (fun _ => rfl) (fun c' => absurd c c') (fun c' => absurd c c'), fun c => ⟨fun cu0 => ⟨hX.kl, x + 17, hb.2.1, hb.2.2.2.1, ?_, ?_⟩, fun cu0 => ⟨hX.kl, x + 18, hb.2.2.1, hb.2.2.2.2.2.1, ?_, ?_⟩⟩⟩
  · rw [hb.2.2.2.2.1]; exact jin_nI hg (by omega)
  · rw [jcl (by omega), hl.2.2.2.2.2.2.1 g hg]
    exact m0 _ (fun c' => absurd c' c) (fun _ _ => rfl) (fun _ c' => absurd cu0 c')
  · rw [hb.2.2.2.2.2.2]; exact jin_nI hg (by omega)
  · rw [jcl (by omega), hl.2.2.2.2.2.2.2 g hg]
    exact m0 _ (fun c' => absurd c' c) (fun _ c' => absurd c' cu0) (fun _ _ => rfl)
/-- days go by: the reference's loop -/
theorem l_X11_goesBy {Q : jM → Prop} {n da : Int32} {f : Nat} (hf : f < 100) (h6 : v 6 = nI f) (hkn : ∃ k, k < 1024 ∧ v 4 = nI k)
    (h : ∀ S', jch S S' (m + 1) (m + 2) → MR S' m (vrow v da (pdays n (v 6) (v 4, fun i => v (26 + i)))) → Q S') :
    ∀ (c g : Nat) (S1 : jM), g + c = 10 → jch S S1 (m + 1) (m + 2) → MR S1 m (vrow v da (jfold (pone n (v 6)) g 0 (v 4, fun i => v (26 + i)))) → L_X11_goesBy_23 E (d + 1) Q m n (nI g) S1 := by
  intro c
  induction c with
  | zero =>
    intro g S1 hg hc hM
    obtain rfl : g = 10 := by omega
    exact T_X11_goesBy_23 ⟨fun _ => h S1 hc hM, fun c => absurd (by decide) c⟩
  | succ c ih =>
    intro g S1 hg hc hM
    have hp := pfold_kn (n := n) (fo := v 6) g 0 (v 4, fun i => v (26 + i)) hkn
    have hsn : jfold (pone n (v 6)) (g + 1) 0 (v 4, fun i => v (26 + i)) = pone n (v 6) g (jfold (pone n (v 6)) g 0 (v 4, fun i => v (26 + i))) := by rw [jfold_snoc, Nat.zero_add]
    have ih1 := ih (g + 1)
    rw [hsn] at ih1
    generalize jfold (pone n (v 6)) g 0 (v 4, fun i => v (26 + i)) = p at *
    have ea : vrow v da p 4 = p.1 := by unfold vrow; rw [if_neg (by omega), if_pos rfl]
    have eb : vrow v da p (26 + g) = p.2 g := by unfold vrow; rw [if_neg (by omega), if_neg (by omega), if_pos (by omega), show 26 + g - 26 = g by omega]
    have ec : vrow v da p 6 = nI f := by unfold vrow; rw [if_neg (by omega), if_neg (by omega), if_neg (by omega)]; exact h6
    obtain ⟨b1, b2⟩ := hM.at (i := 26 + nI g) (26 + g) (nI_add 26 g) (by omega)
    refine T_X11_goesBy_23 ⟨fun c => absurd c (nI_ge (b := 10) (by omega) (by omega)), fun _ => ⟨hM.k, c_X11_doesKnow hM (by rw [ea]; exact hp) (by omega) ?_⟩⟩
    rw [ea, jable_at (by omega), nI_1]
    have e26 : Int32.toNatClampNeg (26 + nI g) = 26 + g := by
      have : (26 : Int32) + nI g = nI (26 + g) := nI_add 26 g
      rw [this, jcl (by omega)]
    have e4 : Int32.toNatClampNeg 4 = 4 := by decide
    have e6 : Int32.toNatClampNeg 6 = 6 := by decide
    refine ⟨fun c => ih1 S1 (by omega) hc ?_, fun c => ⟨hM.k, m + 1, hM.r, hM.k1, b1, (hM.at (i := 4) 4 rfl (by omega)).1, (hM.at (i := 6) 6 rfl (by omega)).1, ?_⟩⟩
    · have e : pone n (v 6) g p = p := by
        unfold pone
        by_cases hz : p.1 &&& jshl 1 (nI g) = 0
        · rw [if_pos hz]
        · rw [if_neg hz] at c; exact absurd c (by decide)
      rw [e]; exact hM
    · have hz : ¬ (p.1 &&& jshl 1 (nI g) = 0) := fun hz => c (by rw [if_pos hz])
      rw [e4, e6, e26, ji_put, if_neg (by omega), ji_put, if_neg (by omega), hM.2 6, hM.2 4, hM.2 (26 + g), ea, eb, ec]
      -- the row after one gesture
      have row : ∀ kn : Int32, pone n (v 6) g p = (kn, upd p.2 g (p.2 g + n)) → MR (jput (jput S1 (m + 1) (26 + g) (p.2 g + n)) (m + 1) 4 kn) m (vrow v da (pone n (v 6) g p)) := by
        intro kn e
        have h2 := (hM.put (n := 26 + g) (w := p.2 g + n)).put (n := 4) (w := kn)
        refine ⟨h2.1, fun j => (h2.2 j).trans ?_⟩
        rw [e]
        unfold upd vrow
        by_cases j4 : j = 4
        · rw [if_pos j4, if_neg (by omega), if_pos j4]
        · rw [if_neg j4]
          by_cases jg : j = 26 + g
          · rw [if_pos jg, if_neg (by omega), if_neg (by omega), if_pos (by omega)]
            show _ = if j - 26 = g then _ else _
            rw [if_pos (by omega)]
          · rw [if_neg jg]
            by_cases j2 : j = 2
            · rw [if_pos j2, if_pos j2]
            · rw [if_neg j2, if_neg j2, if_neg j4, if_neg j4]
              by_cases jr : 26 ≤ j ∧ j < 36
              · rw [if_pos jr, if_pos jr]
                show _ = if j - 26 = g then _ else _
                rw [if_neg (by omega)]
              · rw [if_neg jr, if_neg jr]
      have ch : ∀ kn : Int32, jch S (jput (jput S1 (m + 1) (26 + g) (p.2 g + n)) (m + 1) 4 kn) (m + 1) (m + 2) := fun kn => (hc.trans (jch.put (by omega) (by omega))).trans (jch.put (by omega) (by omega))
      have po : pone n (v 6) g p = (if v 6 = 0 then p.1 else if p.2 g + n ≤ v 6 then p.1 else p.1 &&& (jshl 1 (nI g) ^^^ (-1)), upd p.2 g (p.2 g + n)) := by unfold pone; rw [if_neg hz]
      have f0 : nI f ≤ 0 ↔ v 6 = 0 := by
        rw [h6]
        constructor
        · intro hle
          by_cases hf0 : f = 0
          · subst hf0; rfl
          · exfalso
            rw [Int32.le_iff_toInt_le, nI_toInt (by omega)] at hle
            have : (0 : Int32).toInt = 0 := rfl
            omega
        · intro e; rw [e]; decide
      refine ⟨fun h0 => ?_, fun h0 => ⟨fun h1 => ?_, fun h1 => ?_⟩⟩
      · rw [j_and_m1]
        exact ih1 _ (by omega) (ch _) (row _ (by rw [po, if_pos (f0.mp h0)]))
      · rw [j_and_m1]
        exact ih1 _ (by omega) (ch _) (row _ (by rw [po, if_neg (fun e => h0 (f0.mpr e)), if_pos (by rw [h6]; exact h1)]))
      · exact ih1 _ (by omega) (ch _) (row _ (by rw [po, if_neg (fun e => h0 (f0.mpr e)), if_neg (by rw [h6]; exact h1)]))
theorem c_X11_goesBy {Q : jM → Prop} {n : Int32} (hM : MR S m v) (hg : Rg sz v) (h : ∀ S', jch S S' (m + 1) (m + 2) → MR S' m (vday n v) → Q S') : jFv E mX11_goesBy (d + 2) 0 0 [.ref m, .int n] S Q := by
  obtain ⟨f, hf, h6⟩ := hg 6 (by omega) (by decide)
  obtain ⟨a1, a2⟩ := hM.at (i := 2) 2 rfl (by omega)
  refine T_X11_goesBy ⟨hM.k, m + 1, hM.r, hM.k1, a1, ?_⟩
  rw [a2]
  refine l_X11_goesBy (S := S) (v := v) (da := jclamp (v 2 + n) 0 9999) hf h6 hg.kn (fun S' hc h2 => h S' hc h2) 10 0 _ (by omega) (jch.put (by omega) (by omega)) ?_
  have h2 := hM.puts (i := 2) (w := jclamp (v 2 + n) 0 9999) 2 rfl (by omega)
  refine ⟨h2.1, fun j => (h2.2 j).trans ?_⟩
  unfold upd vrow jfold
  by_cases j2 : j = 2
  · rw [if_pos j2, if_pos j2]
  · rw [if_neg j2, if_neg j2]
    by_cases j4 : j = 4
    · rw [if_pos j4, j4]
    · rw [if_neg j4]
      by_cases jr : 26 ≤ j ∧ j < 36
      · rw [if_pos jr]
        show v j = v (26 + (j - 26))
        congr 1; omega
      · rw [if_neg jr]
end jLight2
end
section
/-! RESTS, USE, GO, WANTS, ROAD on both sides -/
theorem jday {a b : Nat} (ha : a < 10000) (hb : b < 1000000) : jmin 9999 (nI a + nI b) = jclamp (nI a + nI b) 0 9999 ∧ ∃ k, k < 10000 ∧ jclamp (nI a + nI b) 0 9999 = nI k := by
  rw [nI_add]
  have h0 : (0 : Int32) ≤ nI (a + b) := by rw [Int32.le_iff_toInt_le, nI_toInt (by omega)]; show (0 : Int) ≤ _; omega
  have e9 : (9999 : Int32) = nI 9999 := rfl
  unfold jmin jclamp
  rw [if_pos h0, e9]
  by_cases h : a + b < 9999
  · have h1 : nI (a + b) < nI 9999 := by rw [Int32.lt_iff_toInt_lt, nI_toInt (by omega), nI_toInt (by omega)]; omega
    rw [if_pos h1, if_pos (Int32.le_of_lt h1)]
    exact ⟨rfl, a + b, by omega, rfl⟩
  · have h1 : ¬ nI (a + b) < nI 9999 := by rw [Int32.lt_iff_toInt_lt, nI_toInt (by omega), nI_toInt (by omega)]; omega
    rw [if_neg h1]
    by_cases h2 : nI (a + b) ≤ nI 9999
    · rw [if_pos h2]
      have e : a + b = 9999 := by
        rw [Int32.le_iff_toInt_le, nI_toInt (by omega), nI_toInt (by omega)] at h2
        omega
      rw [e]
      exact ⟨rfl, 9999, by omega, rfl⟩
    · rw [if_neg h2]
      exact ⟨rfl, 9999, by omega, rfl⟩
theorem nI_road (a b : Nat) : (36 + 6 * nI a) + nI b = nI (36 + (a * 6 + b)) := by
  rw [show (36 : Int32) = nI 36 from rfl, show (6 : Int32) = nI 6 from rfl, pk_mul, nI_add, nI_add]
  congr 1; omega
theorem jist_of {w : Int32} (h : ¬ jwi w 6 = 0) : ∃ j, j < 6 ∧ w = nI j := by
  rcases jwi_cases w (b := 6) 6 rfl (by omega) with ⟨j, hj, e, _⟩ | ⟨_, e⟩
  · exact ⟨j, hj, e⟩
  · exact absurd e h
theorem jisg_of {w : Int32} (h : ¬ jwi w 10 = 0) : ∃ j, j < 10 ∧ w = nI j := by
  rcases jwi_cases w (b := 10) 10 rfl (by omega) with ⟨j, hj, e, _⟩ | ⟨_, e⟩
  · exact ⟨j, hj, e⟩
  · exact absurd e h
section jLight3
variable {E : jEnv} {d : Nat} {S : jM} {x m sz : Nat} {v : Nat → Int32}
theorem vday_at (n : Int32) (u : Nat → Int32) : vday n u 2 = jclamp (u 2 + n) 0 9999 ∧ vday n u 4 = (pdays n (u 6) (u 4, fun i => u (26 + i))).1 ∧ (∀ i, i < 10 → vday n u (26 + i) = (pdays n (u 6) (u 4, fun i => u (26 + i))).2 i) ∧ ∀ j, j ≠ 2 → j ≠ 4 → (j < 26 ∨ 36 ≤ j) → vday n u j = u j := by
  unfold vday vrow
  refine ⟨by rw [if_pos rfl], by rw [if_neg (by omega), if_pos rfl], fun i hi => ?_, fun j h2 h4 hj => ?_⟩
  · rw [if_neg (by omega), if_neg (by omega), if_pos (by omega), show 26 + i - 26 = i by omega]
  · rw [if_neg h2, if_neg h4, if_neg (by omega)]
/-- days go by, and the two sides stand alike -/
theorem PI.day {S' : jM} {u : Nat → Int32} {n : Int32} {b : Nat} (hX : XR S x sz v) (hg : Rg sz v) (he : ∀ j, j < 26 ∨ 36 ≤ j → u j = v j) (hn : n = nI b) (hb : b < 1000000) (hc : jch S S' (x + 16) (x + 19))
    (hl : LdR S' (x + 16) (v 3) (pdays n (v 6) (v 4, fun i => u (26 + i))).1 (v 5) (v 6) (jmin 9999 (v 2 + n)) (fun i => v (16 + i)) (pdays n (v 6) (v 4, fun i => u (26 + i))).2) : XR S' x sz (vday n u) ∧ Rg sz (vday n u) := by
  obtain ⟨a1, a2, a3, a4⟩ := vday_at n u
  have e2 := he 2 (by omega)
  have e4 := he 4 (by omega)
  have e6 := he 6 (by omega)
  rw [e2] at a1
  rw [e4, e6] at a2 a3
  obtain ⟨a, ha, h2⟩ := hg 2 (by omega) (by decide)
  have hd := jday (a := a) (b := b) ha hb
  rw [← h2, ← hn] at hd
  refine ⟨hX.lear hc ?_ (fun j p1 p2 => ?_), fun j hj hr => ?_⟩
  · rw [a1, a2, a4 3 (by omega) (by omega) (by omega), a4 5 (by omega) (by omega) (by omega), a4 6 (by omega) (by omega) (by omega), he 3 (by omega), he 5 (by omega), he 6 (by omega), ← hd.1]
    exact hl.cong (fun i hi => by rw [a4 _ (by omega) (by omega) (by omega), he _ (by omega)]) (fun i hi => (a3 i hi).symm)
  · rw [a4 j (by omega) (by omega) (by omega)]; exact he j (by omega)
  · by_cases j2 : j = 2
    · subst j2; rw [a1]; exact hd.2
    · by_cases j4 : j = 4
      · subst j4; rw [a2]; exact pfold_kn 10 0 _ hg.kn
      · by_cases jr : j < 26 ∨ 36 ≤ j
        · rw [a4 j j2 j4 jr, he j jr]; exact hg j hj hr
        · exfalso
          have := rgb_from (j - 16) (by omega)
          rw [show 16 + (j - 16) = j by omega] at this
          exact hr this
theorem P_rests {w : Int32} (hP : PI S x sz v) : jFi E mX10_rests (d + 3) 0 0 [.ref x, .int w] S (fun r S1 => jFm E mX11_rests (d + 3) (x + 94) [.int w] S1 (fun r' S2 => PO S x r r' S2)) := by
  have hX := hP.1
  rcases jisin_ab w (lo := 1) (hi := 100) 1 100 rfl rfl (by omega) (by omega) with ⟨j, j1, j2, rfl, hj⟩ | ⟨hw, hj⟩
  · refine T_X10_rests ⟨fun c => absurd c (by rw [show (1 : Int32) = nI 1 from rfl, Int32.lt_iff_toInt_lt, nI_toInt (by omega), nI_toInt (by omega)]; omega), fun _ => ⟨fun _ => ⟨hX.1, x + 1, hX.2.1, hX.k3, x + 16, hX.r2, hX.kl, c_X1_passDays hX.l (fun S1 c1 l1 => ?_)⟩, fun c => absurd (by rw [show (100 : Int32) = nI 100 from rfl, Int32.le_iff_toInt_le, nI_toInt (by omega), nI_toInt (by omega)]; omega) c⟩⟩
    obtain ⟨h1, g1⟩ := PI.day (u := v) (n := nI j) hX hP.2.2 (fun _ _ => rfl) rfl (by omega) c1 l1
    refine ⟨h1.1, x + 1, h1.2.1, h1.k3, x + 16, h1.r2, h1.kl, ?_⟩
    rw [h1.l.2.2.1]
    have hM := hP.2.1.keep c1 (by omega)
    refine U_X11_rests (by first | exact hM.k | exact hM1.k | exact hP.2.1.k | exact h.2.2.1.1 | exact h.1.1 | exact g1.1.1 | exact g3.1.1 | exact gm.1.1 | exact h2.1.1 | exact hM2.k | (rw [c1.1.1]; exact hP.2.1.k)) ⟨fun c => absurd (hj.symm.trans c) (by decide), fun _ => ⟨hM.k, c_X11_goesBy hM hP.2.2 (fun S2 c2 h2 => ?_)⟩⟩
    obtain ⟨a1, a2⟩ := h2.at (i := 4) 4 rfl (by omega)
    refine ⟨h2.k, _, h2.r, h2.k1, a1, ?_⟩
    rw [a2]
    exact ⟨rfl, (jfr.realm c1 (by omega) (by omega)).trans (jfr.row c2), tkOf hP.2.1 h2 (fun j hj => by unfold vday vrow; rw [if_neg (by omega), if_neg (by omega), if_neg (by omega)]), sz, _, h1.of c2.1 (h1.2.2.keep c2 (by omega)), h2, g1⟩
  · have bad : jFm E mX11_rests (d + 3) (x + 94) [.int w] S (fun r' S2 => PO S x kBAD r' S2) := U_X11_rests (by first | exact hM.k | exact hM1.k | exact hP.2.1.k | exact h.2.2.1.1 | exact h.1.1 | exact g1.1.1 | exact g3.1.1 | exact gm.1.1 | exact h2.1.1 | exact hM2.k | (rw [c1.1.1]; exact hP.2.1.k)) ⟨fun _ => hP.same, fun c => absurd hj c⟩
    refine T_X10_rests ⟨fun _ => bad, fun c1 => ⟨fun c2 => ?_, fun _ => bad⟩⟩
    exfalso
    rw [show (1 : Int32) = nI 1 from rfl, Int32.lt_iff_toInt_lt, nI_toInt (by omega)] at c1
    obtain ⟨j, hj, e⟩ := jofI (x := w) (n := 101) (by omega) (by rw [Int32.le_iff_toInt_le]; show (0 : Int) ≤ _; omega) (by rw [show (100 : Int32) = nI 100 from rfl, Int32.le_iff_toInt_le, nI_toInt (by omega)] at c2; rw [Int32.lt_iff_toInt_lt, nI_toInt (by omega)]; omega)
    rw [e, nI_toInt (by omega)] at c1
    exact hw j (by omega) (by omega) e
theorem P_use {w : Int32} (hP : PI S x sz v) : jFi E mX10_use (d + 4) 0 0 [.ref x, .int w] S (fun r S1 => jFm E mX11_use (d + 4) (x + 94) [.int w] S1 (fun r' S2 => PO S x r r' S2)) := by
  have hX := hP.1
  refine T_X10_use ⟨fun c => U_X11_use (by first | exact hM.k | exact hM1.k | exact hP.2.1.k | exact h.2.2.1.1 | exact h.1.1 | exact g1.1.1 | exact g3.1.1 | exact gm.1.1 | exact h2.1.1 | exact hM2.k | (rw [c1.1.1]; exact hP.2.1.k)) ⟨fun _ => hP.same, fun c' => absurd c c'⟩, fun cw => ⟨hX.1, x + 1, hX.2.1, hX.k3, x + 16, hX.r2, hX.kl, c_X1_practise hX.l (fun h0 => ⟨fun _ => ?_, fun c => absurd rfl c⟩) (fun g hg e h0 S1 c1 l1 => ⟨fun c => absurd c (by decide), fun _ => ?_⟩)⟩⟩
  · obtain ⟨g, hg, rfl⟩ := jisg_of cw
    exact U_X11_use (by first | exact hM.k | exact hM1.k | exact hP.2.1.k | exact h.2.2.1.1 | exact h.1.1 | exact g1.1.1 | exact g3.1.1 | exact gm.1.1 | exact h2.1.1 | exact hM2.k | (rw [c1.1.1]; exact hP.2.1.k)) ⟨fun _ => absurd ‹_› cw, fun _ => ⟨hP.2.1.k, c_X11_doesKnow hP.2.1 hP.2.2.kn hg ⟨fun _ => hP.same, fun c => absurd h0 c⟩⟩⟩
  · subst e
    obtain ⟨h1, g1⟩ := PI.day (u := upd v (26 + g) 0) (n := 1) (b := 1) hX hP.2.2 (fun j hj => upd_ne 0 (by omega)) rfl (by omega) c1 (by
      have e : (fun i => upd v (26 + g) 0 (26 + i)) = upd (fun i => v (26 + i)) g 0 := by
        funext i
        unfold upd
        by_cases hi : i = g
        · rw [if_pos hi, if_pos (by omega)]
        · rw [if_neg hi, if_neg (by omega)]
      rw [e]; exact l1)
    refine ⟨h1.1, x + 1, h1.2.1, h1.k3, x + 16, h1.r2, h1.kl, ?_⟩
    rw [h1.l.2.2.1]
    have hM := hP.2.1.keep c1 (by omega)
    refine U_X11_use (by first | exact hM.k | exact hM1.k | exact hP.2.1.k | exact h.2.2.1.1 | exact h.1.1 | exact g1.1.1 | exact g3.1.1 | exact gm.1.1 | exact h2.1.1 | exact hM2.k | (rw [c1.1.1]; exact hP.2.1.k)) ⟨fun _ => absurd ‹_› cw, fun _ => ⟨hM.k, c_X11_doesKnow hM hP.2.2.kn hg ⟨fun c => absurd c h0, fun _ => ⟨hM.k, ?_⟩⟩⟩⟩
    have ei : (26 : Int32) + nI g = nI (26 + g) := nI_add 26 g
    refine T_X11_uses ⟨hM.k, x + 94 + 1, hM.r, hM.k1, (hM.at _ ei (by omega)).1, ?_⟩
    refine c_X11_goesBy (sz := sz) (hM.puts _ ei (by omega)) (hP.2.2.put (fun c => absurd (by rw [show 26 + g = 16 + (10 + g) by omega]; exact rgb_from _ (by omega)) c)) (fun S2 c2 h2 => ?_)
    obtain ⟨a1, a2⟩ := h2.at (i := 4) 4 rfl (by omega)
    refine ⟨h2.k, _, h2.r, h2.k1, a1, ?_⟩
    rw [a2]
    have c3 : jch S1 S2 (x + 95) (x + 96) := (jch.put (by omega) (by omega)).trans c2
    exact ⟨rfl, (jfr.realm c1 (by omega) (by omega)).trans (jfr.row c3), tkOf hP.2.1 h2 (fun j hj => by unfold vday vrow; rw [if_neg (by omega), if_neg (by omega), if_neg (by omega)]; exact upd_ne _ (by omega)), sz, _, h1.of c3.1 (h1.2.2.keep c3 (by omega)), h2, g1⟩
theorem P_go {w : Int32} (hP : PI S x sz v) : jFi E mX10_go (d + 3) 0 0 [.ref x, .int w] S (fun r S1 => jFm E mX11_go (d + 3) (x + 94) [.int w] S1 (fun r' S2 => PO S x r r' S2)) := by
  have hX := hP.1
  have hl := hX.l
  obtain ⟨a, ha, e3⟩ := hP.2.2.at_
  have i3 := hP.2.1.at (i := 3) 3 rfl (by omega)
  refine T_X10_go ⟨hX.1, x + 1, hX.2.1, hX.k3, x + 16, hX.r2, fun c => U_X11_go (by first | exact hM.k | exact hM1.k | exact hP.2.1.k | exact h.2.2.1.1 | exact h.1.1 | exact g1.1.1 | exact g3.1.1 | exact gm.1.1 | exact h2.1.1 | exact hM2.k | (rw [c1.1.1]; exact hP.2.1.k)) ⟨fun _ => hP.same, fun c' => absurd c c'⟩, fun cw => ⟨hX.kl, ?_⟩⟩
  rw [hl.2.1]
  refine ⟨fun c => U_X11_go (by first | exact hM.k | exact hM1.k | exact hP.2.1.k | exact h.2.2.1.1 | exact h.1.1 | exact g1.1.1 | exact g3.1.1 | exact gm.1.1 | exact h2.1.1 | exact hM2.k | (rw [c1.1.1]; exact hP.2.1.k)) ⟨fun c' => absurd c' cw, fun _ => ⟨hP.2.1.k, _, hP.2.1.r, hP.2.1.k1, i3.1, fun _ => hP.same, fun c' => absurd (c.trans i3.2.symm) c'⟩⟩, fun cat => ⟨x + 13, hX.r1, hX.q.1.1, ?_⟩⟩
  obtain ⟨b, hb, rfl⟩ := jist_of cw
  have er : (36 + 6 * v 3) + nI b = nI (36 + (a * 6 + b)) := by rw [e3]; exact nI_road a b
  obtain ⟨k, hk, ek⟩ := hP.2.2.rd (a * 6 + b) (by omega)
  rw [e3]
  refine c_X4_direct hX.q ha hb ⟨fun h0 => ?_, fun h0 => ⟨hX.kl, c_X1_passDays hl (fun S1 c1 l1 => ?_)⟩⟩
  · obtain ⟨r1, r2⟩ := hP.2.1.at _ er (by omega)
    refine U_X11_go (by first | exact hM.k | exact hM1.k | exact hP.2.1.k | exact h.2.2.1.1 | exact h.1.1 | exact g1.1.1 | exact g3.1.1 | exact gm.1.1 | exact h2.1.1 | exact hM2.k | (rw [c1.1.1]; exact hP.2.1.k)) ⟨fun c' => absurd c' cw, fun _ => ⟨hP.2.1.k, _, hP.2.1.r, hP.2.1.k1, i3.1, fun c' => absurd (c'.trans i3.2) cat, fun _ => ?_⟩⟩
    rw [i3.2]
    refine ⟨r1, fun _ => hP.same, fun c' => absurd (r2.trans h0) c'⟩
  · obtain ⟨h1, g1⟩ := PI.day (u := v) (n := v (36 + (a * 6 + b))) (b := k) hX hP.2.2 (fun _ _ => rfl) ek (by omega) c1 l1
    refine ⟨h1.kl, ?_⟩
    have c1b : jch S (jput S1 (x + 16) 0 (nI b)) (x + 16) (x + 19) := c1.trans (jch.put (by omega) (by omega))
    have h3 : XR (jput S1 (x + 16) 0 (nI b)) x sz (upd (vday (v (36 + (a * 6 + b))) v) 3 (nI b)) := by
      refine h1.lear (jch.put (by omega) (by omega)) ?_ (fun j p1 p2 => upd_ne _ (by omega))
      rw [upd_at, upd_ne _ (j := 4) (by omega), upd_ne _ (j := 5) (by omega), upd_ne _ (j := 6) (by omega), upd_ne _ (j := 2) (by omega)]
      exact h1.l.put0.cong (fun i hi => (upd_ne _ (by omega)).symm) (fun i hi => (upd_ne _ (by omega)).symm)
    rw [h1.l.2.2.2.2.2.1]
    have hM := hP.2.1.keep c1b (by omega)
    have j3 := hM.at (i := 3) 3 rfl (by omega)
    obtain ⟨r1, r2⟩ := hM.at _ er (by omega)
    refine U_X11_go (by first | exact hM.k | exact hM1.k | exact hP.2.1.k | exact h.2.2.1.1 | exact h.1.1 | exact g1.1.1 | exact g3.1.1 | exact gm.1.1 | exact h2.1.1 | exact hM2.k | (rw [c1.1.1]; exact hP.2.1.k)) ⟨fun c' => absurd c' cw, fun _ => ⟨hM.k, _, hM.r, hM.k1, j3.1, fun c' => absurd (c'.trans j3.2) cat, fun _ => ?_⟩⟩
    rw [j3.2]
    refine ⟨r1, fun c' => absurd (r2.symm.trans c') h0, fun _ => ?_⟩
    rw [r2]
    refine c_X11_goesBy hM hP.2.2 (fun S2 c2 h2 => ?_)
    refine ⟨h2.k, _, h2.r, h2.k1, (h2.at (i := 3) 3 rfl (by omega)).1, (h2.at (i := 2) 2 rfl (by omega)).1, ?_⟩
    have h4 := h2.puts (i := 3) (w := nI b) 3 rfl (by omega)
    rw [(h4.at (i := 2) 2 rfl (by omega)).2, upd_ne _ (by omega)]
    have c3 : jch (jput S1 (x + 16) 0 (nI b)) (jput S2 (x + 94 + 1) (Int32.toNatClampNeg 3) (nI b)) (x + 95) (x + 96) := c2.trans (jch.put (by omega) (by omega))
    exact ⟨rfl, (jfr.realm c1b (by omega) (by omega)).trans (jfr.row c3), tkOf hP.2.1 h4 (fun j hj => by rw [upd_ne _ (by omega)]; unfold vday vrow; rw [if_neg (by omega), if_neg (by omega), if_neg (by omega)]), sz, _, h3.of c3.1 (h3.2.2.keep c3 (by omega)), h4, g1.put (fun _ => ⟨b, hb, rfl⟩)⟩
end jLight3
end
section
/-! WANTS, ROAD, MASTER on both sides -/
theorem nI_mst (i f : Nat) : (72 + 7 * nI i) + nI f = nI (72 + 7 * i + f) := by
  rw [show (72 : Int32) = nI 72 from rfl, show (7 : Int32) = nI 7 from rfl, pk_mul, nI_add, nI_add]
section jLight4
variable {E : jEnv} {d : Nat} {S : jM} {x m sz : Nat} {v : Nat → Int32}
theorem P_wants {w : Int32} (hP : PI S x sz v) : jFi E mX10_wants (d + 2) 0 0 [.ref x, .int w] S (fun r S1 => jFm E mX11_wants (d + 1) (x + 94) [.int w] S1 (fun r' S2 => PO S x r r' S2)) := by
  have hX := hP.1
  have hM := hP.2.1
  obtain ⟨a0, a1, a2, a3, a4, a5, a6, a7, a8⟩ := hX.2.2
  obtain ⟨n, hn, e7⟩ := hP.2.2.wi
  have m7 := hM.at (i := 7) 7 rfl (by omega)
  refine T_X10_wants ⟨fun c => U_X11_wants (by first | exact hM.k | exact hM1.k | exact hP.2.1.k | exact h.2.2.1.1 | exact h.1.1 | exact g1.1.1 | exact g3.1.1 | exact gm.1.1 | exact h2.1.1 | exact hM2.k | (rw [c1.1.1]; exact hP.2.1.k)) ⟨fun _ => hP.same, fun c' => absurd c c'⟩, fun cw => ⟨hX.1, x + 1, hX.2.1, hX.k3, T_X3_addWish ⟨hX.k3, ?_⟩⟩⟩
  rw [a6, e7]
  by_cases h6 : n = 6
  · subst h6
    refine ⟨fun _ => ⟨fun _ => ?_, fun c => absurd rfl c⟩, fun c => absurd (by decide) c⟩
    refine U_X11_wants (by first | exact hM.k | exact hM1.k | exact hP.2.1.k | exact h.2.2.1.1 | exact h.1.1 | exact g1.1.1 | exact g3.1.1 | exact gm.1.1 | exact h2.1.1 | exact hM2.k | (rw [c1.1.1]; exact hP.2.1.k)) ⟨fun c => absurd c cw, fun _ => ⟨hM.k, _, hM.r, hM.k1, m7.1, fun _ => hP.same, fun c => absurd (m7.2.trans e7) c⟩⟩
  · have hn6 : n < 6 := by omega
    have hw1 : jwi (nI n) 6 = 1 := jwi_at (n := 6) hn6 (by omega)
    refine ⟨fun c => absurd (hw1.symm.trans c) (by decide), fun _ => ⟨x + 19, a0.2.2.2.2.1, a0.2.2.2.2.2.2.1, by rw [a0.2.2.2.2.2.2.2.1]; exact jin_nI hn6 (by omega), ⟨fun c => absurd c (by decide), fun _ => ?_⟩⟩⟩
    obtain ⟨g, hg, rfl⟩ := jisg_of cw
    rw [jcl (by omega)]
    have s1 : jsame S (jput (jput S (x + 19) n (nI g)) (x + 1) 4 (nI n + 1)) := ⟨rfl, rfl, rfl, rfl⟩
    have o1 : ∀ y, y ≠ x + 1 → y ≠ x + 19 → ji (jput (jput S (x + 19) n (nI g)) (x + 1) 4 (nI n + 1)) y = ji S y := fun y h1 h2 => by rw [ji_put_ne _ _ _ _ h1, ji_put_ne _ _ _ _ h2]
    have c1 : jch S (jput (jput S (x + 19) n (nI g)) (x + 1) 4 (nI n + 1)) (x + 1) (x + 20) := ⟨s1, fun y hy => o1 y (by omega) (by omega)⟩
    have e4 : ji (jput (jput S (x + 19) n (nI g)) (x + 1) 4 (nI n + 1)) (x + 1) 4 = nI n + 1 := by rw [ji_put, if_pos ⟨rfl, rfl⟩]
    have hr : RmR (jput (jput S (x + 19) n (nI g)) (x + 1) 4 (nI n + 1)) (x + 1) sz (upd (upd v (9 + n) (nI g)) 7 (nI n + 1)) := by
      refine hX.2.2.wish s1 o1 ?_ ?_ (fun i hi => ?_) (fun j h1 h2 => ?_)
      · rw [ji_put, if_neg (by omega), ji_put, if_neg (by omega)]
      · rw [e4, upd_at]
      · rw [ji_put, if_neg (by omega), upd_ne _ (by omega), ji_put]
        unfold upd
        by_cases hi2 : i = n
        · rw [if_pos ⟨rfl, hi2⟩, if_pos (by omega)]
        · rw [if_neg (fun c => hi2 c.2), if_neg (by omega)]; exact a7 i hi
      · rw [upd_ne _ h1, upd_ne _ (by omega)]
    have hX1 := hX.of s1 hr
    have hM1 := hM.keep c1 (by omega)
    have n7 := hM1.at (i := 7) 7 rfl (by omega)
    refine ⟨s1.1 ▸ hX.1, x + 1, hX1.2.1, hX1.k3, ?_⟩
    rw [e4]
    refine U_X11_wants (by first | exact hM.k | exact hM1.k | exact hP.2.1.k | exact h.2.2.1.1 | exact h.1.1 | exact g1.1.1 | exact g3.1.1 | exact gm.1.1 | exact h2.1.1 | exact hM2.k | (rw [c1.1.1]; exact hP.2.1.k)) ⟨fun c => absurd c cw, fun _ => ⟨hM1.k, _, hM1.r, hM1.k1, n7.1, fun c => ?_, fun _ => ?_⟩⟩
    · rw [n7.2, e7] at c
      exact absurd (nI_inj (by omega) (by omega) (show nI n = nI 6 from c)) h6
    · rw [n7.2, e7]
      have e9 : (9 : Int32) + nI n = nI (9 + n) := nI_add 9 n
      have h1 := hM1.puts (w := nI g) (9 + n) e9 (by omega)
      have k7 := h1.at (i := 7) 7 rfl (by omega)
      refine ⟨(hM1.at _ e9 (by omega)).1, ?_⟩
      rw [k7.2, upd_ne _ (by omega), e7]
      have h2 := h1.puts (i := 7) (w := nI n + 1) 7 rfl (by omega)
      have c3 : jch (jput (jput S (x + 19) n (nI g)) (x + 1) 4 (nI n + 1)) (jput (jput (jput (jput S (x + 19) n (nI g)) (x + 1) 4 (nI n + 1)) (x + 94 + 1) (Int32.toNatClampNeg (9 + nI n)) (nI g)) (x + 94 + 1) (Int32.toNatClampNeg 7) (nI n + 1)) (x + 95) (x + 96) := (jch.put (by omega) (by omega)).trans (jch.put (by omega) (by omega))
      refine ⟨rfl, (jfr.realm c1 (by omega) (by omega)).trans (jfr.row c3), tkOf hP.2.1 h2 (fun j hj => by rw [upd_ne _ (by omega), upd_ne _ (by omega)]), sz, _, hX1.of c3.1 (hr.keep c3 (by omega)), h2, (hP.2.2.put (fun _ => ⟨g, by rw [rgb_wish n hn6]; exact hg, rfl⟩)).put (fun _ => ⟨n + 1, ?_, nI_1 n⟩)⟩
      show n + 1 < 7
      omega
theorem P_road {w u t : Int32} (hP : PI S x sz v) : jFi E mX10_road (d + 3) 0 0 [.ref x, .int w, .int u, .int t] S (fun r S1 => jFm E mX11_road (d + 1) (x + 94) [.int w, .int u, .int t] S1 (fun r' S2 => PO S x r r' S2)) := by
  have hX := hP.1
  have et : jisin t.toInt64 0 9 = jwi t 10 := jisin_wi t 10 9 rfl (jle_lt (by decide))
  refine T_X10_road ⟨fun c => U_X11_road (by first | exact hM.k | exact hM1.k | exact hP.2.1.k | exact h.2.2.1.1 | exact h.1.1 | exact g1.1.1 | exact g3.1.1 | exact gm.1.1 | exact h2.1.1 | exact hM2.k | (rw [c1.1.1]; exact hP.2.1.k)) ⟨fun _ => hP.same, fun c' => absurd c c'⟩, fun cw => ⟨fun c => U_X11_road (by first | exact hM.k | exact hM1.k | exact hP.2.1.k | exact h.2.2.1.1 | exact h.1.1 | exact g1.1.1 | exact g3.1.1 | exact gm.1.1 | exact h2.1.1 | exact hM2.k | (rw [c1.1.1]; exact hP.2.1.k)) ⟨fun c' => absurd c' cw, fun _ => ⟨fun _ => hP.same, fun c' => absurd c c'⟩⟩, fun cu => ⟨fun c => U_X11_road (by first | exact hM.k | exact hM1.k | exact hP.2.1.k | exact h.2.2.1.1 | exact h.1.1 | exact g1.1.1 | exact g3.1.1 | exact gm.1.1 | exact h2.1.1 | exact hM2.k | (rw [c1.1.1]; exact hP.2.1.k)) ⟨fun c' => absurd c' cw, fun _ => ⟨fun c' => absurd c' cu, fun _ => ⟨fun _ => hP.same, fun c' => absurd c c'⟩⟩⟩, fun ne => ⟨fun c => U_X11_road (by first | exact hM.k | exact hM1.k | exact hP.2.1.k | exact h.2.2.1.1 | exact h.1.1 | exact g1.1.1 | exact g3.1.1 | exact gm.1.1 | exact h2.1.1 | exact hM2.k | (rw [c1.1.1]; exact hP.2.1.k)) ⟨fun c' => absurd c' cw, fun _ => ⟨fun c' => absurd c' cu, fun _ => ⟨fun c' => absurd c' ne, fun _ => ⟨fun _ => hP.same, fun c' => absurd (et.trans c) c'⟩⟩⟩⟩, fun ct => ⟨hX.1, x + 1, hX.2.1, hX.k3, x + 13, hX.r1, hX.q.1.1, ?_⟩⟩⟩⟩⟩
  obtain ⟨a, ha, rfl⟩ := jist_of cw
  obtain ⟨b, hb, rfl⟩ := jist_of cu
  obtain ⟨k, hk, rfl⟩ := jisg_of ct
  have hab : a ≠ b := fun e => ne (by rw [e])
  refine c_X4_direct hX.q ha hb ⟨hX.1, x + 1, hX.2.1, hX.k3, x + 13, hX.r1, hX.q.1.1, c_X4_build hX.q ha hb (fun S1 c1 q1 => ?_)⟩
  have ed : dbuild (fun i => v (36 + i)) a b (nI k) = fun i => upd (upd v (36 + (b * 6 + a)) (nI k)) (36 + (a * 6 + b)) (nI k) (36 + i) := by
    funext i
    unfold dbuild upd
    by_cases h1 : i = b * 6 + a
    · rw [if_pos h1]
      by_cases h2 : 36 + i = 36 + (a * 6 + b)
      · rw [if_pos h2]
      · rw [if_neg h2, if_pos (by omega)]
    · rw [if_neg h1]
      by_cases h2 : i = a * 6 + b
      · rw [if_pos h2, if_pos (by omega)]
      · rw [if_neg h2, if_neg (by omega), if_neg (by omega)]
  rw [ed] at q1
  have h1 : XR S1 x sz (upd (upd v (36 + (b * 6 + a)) (nI k)) (36 + (a * 6 + b)) (nI k)) := hX.of c1.1 (hX.2.2.roads (c1.wide (by omega) (by omega)) q1 (fun j hj => by rw [upd_ne _ (by omega), upd_ne _ (by omega)]))
  have hM := hP.2.1.keep c1 (by omega)
  have e1 := nI_road b a
  have e2 := nI_road a b
  refine U_X11_road (by first | exact hM.k | exact hM1.k | exact hP.2.1.k | exact h.2.2.1.1 | exact h.1.1 | exact g1.1.1 | exact g3.1.1 | exact gm.1.1 | exact h2.1.1 | exact hM2.k | (rw [c1.1.1]; exact hP.2.1.k)) ⟨fun c' => absurd c' cw, fun _ => ⟨fun c' => absurd c' cu, fun _ => ⟨fun c' => absurd c' ne, fun _ => ⟨fun c' => absurd (et.symm.trans c') ct, fun _ => ⟨hM.k, _, hM.r, hM.k1, (hM.at _ e1 (by omega)).1, ?_⟩⟩⟩⟩⟩
  refine c_X11_becomes (36 + (a * 6 + b)) (hM.puts _ e1 (by omega)) e2 (by omega) (fun S2 c2 h2 => ⟨?_, (jfr.realm c1 (by omega) (by omega)).trans (jfr.row ((jch.put (by omega) (by omega)).trans c2)), tkOf hP.2.1 h2 (fun j hj => by rw [upd_ne _ (by omega), upd_ne _ (by omega)]), sz, _, ?_, h2, (hP.2.2.put (fun _ => ⟨k, by rw [rgb_road _ (by omega)]; exact hk, rfl⟩)).put (fun _ => ⟨k, by rw [rgb_road _ (by omega)]; exact hk, rfl⟩)⟩)
  · rw [upd_ne _ (by omega)]
  · have c3 : jch S1 S2 (x + 95) (x + 96) := (jch.put (by omega) (by omega)).trans c2
    exact h1.of c3.1 (h1.2.2.keep c3 (by omega))
end jLight4
end
section
/-! AS, TURNS, BARS, MASTER on both sides -/
/-- of a KIND, by going up -/
def jisC : Nat → Int32 → Int32 → Int32 → Int32
  | 0, _, _, _ => 0
  | f + 1, w, own, s => if 6 ≤ s then 0 else if jwi own 6 = 0 then 0 else if own = w then 1 else jisC f w (jab own) (s + 1)
theorem jisC_of : ∀ k : Fin 6, ∀ j : Fin 6, jisC 7 (nI j.val) (nI k.val) (nI 0) = jisof (nI k.val) (nI j.val) := by decide +kernel
theorem j_or_lt : ∀ a : Fin 10, ∀ b : Fin 10, (jshl 1 (nI a.val) ||| jshl 1 (nI b.val)).toBitVec.toNat < 1024 := by decide +kernel
section jLight5
variable {E : jEnv} {d : Nat} {S : jM} {x m sz : Nat} {v : Nat → Int32}
theorem l_X2_isOf {Q : Int32 → jM → Prop} {w : Int32} : ∀ (c n : Nat) (own : Int32), n + c = 6 → Q (jisC (c + 1) w own (nI n)) S → L_X2_isOf_7 E d Q w own (nI n) S := by
  intro c
  induction c with
  | zero =>
    intro n own hn h
    obtain rfl : n = 6 := by omega
    have e : jisC (0 + 1) w own (nI 6) = 0 := by unfold jisC; rw [if_pos (by decide)]
    rw [e] at h
    exact T_X2_isOf_7 ⟨fun _ => h, fun c => absurd (by decide) c⟩
  | succ c ih =>
    intro n own hn h
    have h6 : ¬ (6 : Int32) ≤ nI n := nI_ge (b := 6) (by omega) (by omega)
    have e : jisC (c + 1 + 1) w own (nI n) = if 6 ≤ nI n then 0 else if jwi own 6 = 0 then 0 else if own = w then 1 else jisC (c + 1) w (jab own) (nI n + 1) := rfl
    rw [e, if_neg h6] at h
    refine T_X2_isOf_7 ⟨fun c => absurd c h6, fun _ => ⟨fun c1 => by rw [if_pos c1] at h; exact h, fun c1 => ⟨fun c2 => by rw [if_neg c1, if_pos c2] at h; exact h, fun c2 => ?_⟩⟩⟩
    rw [if_neg c1, if_neg c2] at h
    obtain ⟨j, hj, rfl⟩ := jist_of c1
    refine ⟨jin_nI hj (by omega), ?_⟩
    rw [nI_1] at h ⊢
    exact ih (n + 1) _ (by omega) h
theorem c_X2_isOf {Q : Int32 → jM → Prop} {a k j : Nat} (hk : jk S a = 2) (h0 : ji S a 0 = nI k) (hk6 : k < 6) (hj : j < 6) (h : Q (jisof (nI k) (nI j)) S) : jFi E mX2_isOf (d + 1) 0 0 [.ref a, .int (nI j)] S Q := by
  refine T_X2_isOf ⟨hk, ?_⟩
  rw [h0]
  refine l_X2_isOf 6 0 (nI k) (by omega) ?_
  have := jisC_of ⟨k, hk6⟩ ⟨j, hj⟩
  rw [this]
  exact h
theorem c_X11_isMaster {Q : Int32 → jM → Prop} {w : Int32} (hM : MR S m v) (h0 : v 0 = nI sz) (hz : sz ≤ 9) (h1 : ∀ j, j < sz → w = nI j → Q 1 S) (h2 : (∀ j, j < sz → w ≠ nI j) → Q 0 S) : jFi E mX11_isMaster (d + 1) 0 0 [.ref m, .int w] S Q := by
  obtain ⟨a1, a2⟩ := hM.at (i := 0) 0 rfl (by omega)
  refine T_X11_isMaster ⟨hM.k, m + 1, hM.r, hM.k1, a1, jisin01 _ _ _, ?_⟩
  rw [a2, h0]
  cases sz with
  | zero =>
    have e : jisin w.toInt64 0 (Int32.toInt64 (nI 0 - 1)) = 0 := by
      have e0 : (0 : Int64) = (0 : Int32).toInt64 := rfl
      rw [e0, jisin_int]
      by_cases hw : w < 0
      · rw [if_pos hw]
      · rw [if_neg hw, if_pos]
        have e1 : (nI 0 - 1 : Int32) = -1 := rfl
        rw [e1, Int32.lt_iff_toInt_lt]
        rw [Int32.lt_iff_toInt_lt] at hw
        have e2 : (-1 : Int32).toInt = -1 := rfl
        have e3 : (0 : Int32).toInt = 0 := rfl
        omega
    rw [e]
    exact h2 (fun j hj => absurd hj (by omega))
  | succ n =>
    rw [nI_pred]
    rcases jisin_ab w (lo := 0) (hi := (nI n).toInt64) 0 n rfl rfl (by omega) (by omega) with ⟨j, -, hj, e, h⟩ | ⟨hw, h⟩
    · rw [h]; exact h1 j (by omega) e
    · rw [h]; exact h2 (fun j hj => hw j (by omega) (by omega))
theorem c_X11_of {Q : Int32 → jM → Prop} {i f : Nat} (hM : MR S m v) (hi : i < 9) (hf : f < 7) (h : Q (mfv v i f) S) : jFi E mX11_of d 0 0 [.ref m, .int (nI i), .int (nI f)] S Q := by
  obtain ⟨a1, a2⟩ := hM.at _ (nI_mst i f) (by omega)
  refine T_X11_of ⟨hM.k, m + 1, hM.r, hM.k1, a1, ?_⟩
  rw [a2]
  exact h
theorem Rg.ms (h : Rg sz v) {i f : Nat} (hi : i < 9) (hf : f < 7) : ∃ k, k < rgb (72 + 7 * i + f) ∧ mfv v i f = nI k := by
  refine h (72 + 7 * i + f) (by omega) ?_
  rw [rgb_m i f hf]
  split <;> first | decide | (split <;> first | decide | (split <;> first | decide | (split <;> first | decide | (split <;> decide))))
/-- one number of one master is otherwise -/
theorem XR.mput {i f : Nat} {w : Int32} (h : XR S x sz v) (hi : i < 9) (hf : f < 7) : XR (jput S (x + 2 + 2 + i) f w) x sz (upd v (72 + 7 * i + f) w) := by
  have c1 : jch S (jput S (x + 2 + 2 + i) f w) (x + 2) (x + 13) := jch.put (by omega) (by omega)
  refine h.of c1.1 (h.2.2.guild c1 ?_ h.sz9 (by rw [upd_ne _ (by omega)]; exact h.v0) (fun j p0 p8 pj => upd_ne _ (by omega)))
  rw [upd_ne _ (by omega)]
  exact (h.g.putm hi).cong (mset_upd hi hf)
/-- the class puts one number of a master, the reference puts it too -/
theorem PI.mput {i f : Nat} {ix w : Int32} (hP : PI S x sz v) (hi : i < sz) (hf : f < 7) (hix : ix = nI (72 + 7 * i + f)) (hw : ∃ k, k < rgb (72 + 7 * i + f) ∧ w = nI k) : jFi E mX11_becomes d 0 0 [.ref (x + 94), .int ix, .int w] (jput S (x + 2 + 2 + i) f w) (fun r' S2 => PO S x (mfv v i f) r' S2) := by
  have hz := hP.1.sz9
  have c1 : jch S (jput S (x + 2 + 2 + i) f w) (x + 2) (x + 13) := jch.put (by omega) (by omega)
  have h1 := hP.1.mput (w := w) (show i < 9 by omega) hf
  refine c_X11_becomes (72 + 7 * i + f) (hP.2.1.keep c1 (by omega)) hix (by omega) (fun S2 c2 h2 => ⟨rfl, (jfr.realm c1 (by omega) (by omega)).trans (jfr.row c2), tkOf hP.2.1 h2 (fun j hj => upd_ne _ (by have := hP.1.sz9; omega)), sz, _, h1.of c2.1 (h1.2.2.keep c2 (by omega)), h2, hP.2.2.put (fun _ => hw)⟩)
theorem P_turns {w u : Int32} (hP : PI S x sz v) : jFi E mX10_turns (d + 2) 0 0 [.ref x, .int w, .int u] S (fun r S1 => jFm E mX11_turns (d + 2) (x + 94) [.int w, .int u] S1 (fun r' S2 => PO S x r r' S2)) := by
  have hX := hP.1
  have hM := hP.2.1
  have hz := hX.sz9
  have eu : jisin u.toInt64 0 5 = jwi u 6 := jisin_wi u 6 5 rfl (jle_lt (by decide))
  refine T_X10_turns ⟨hX.1, x + 1, hX.2.1, hX.k3, x + 2, hX.r0, hX.g.1.1, c_X0_find hX.g.1 hX.g.2.1 hz (fun n hn e => ⟨fun c => absurd c (by simp), fun b hb => ?_⟩) (fun hno => ⟨fun _ => ?_, fun b hb => absurd hb (by simp)⟩)⟩
  · obtain rfl : x + 2 + 2 + n = b := by simpa using hb
    subst e
    refine ⟨fun c => ?_, fun cu => ⟨hX.g.mk2 (by omega), ?_⟩⟩
    · exact U_X11_turns (by first | exact hM.k | exact hM1.k | exact hP.2.1.k | exact h.2.2.1.1 | exact h.1.1 | exact g1.1.1 | exact g3.1.1 | exact gm.1.1 | exact h2.1.1 | exact hM2.k | (rw [c1.1.1]; exact hP.2.1.k)) ⟨hM.k, c_X11_isMaster hM hX.v0 hz (fun j hj e => ⟨fun c' => absurd c' (by decide), fun _ => ⟨fun _ => hP.same, fun c' => absurd (eu.trans c) c'⟩⟩) (fun h => absurd rfl (h n hn))⟩
    · rw [hX.g.at (by omega) (by omega)]
      have c1 : jch S (jput S (x + 2 + 2 + n) 0 u) (x + 2) (x + 13) := jch.put (by omega) (by omega)
      have hM1 := hM.keep c1 (by omega)
      obtain ⟨k, hk, rfl⟩ := jist_of cu
      refine U_X11_turns (by first | exact hM.k | exact hM1.k | exact hP.2.1.k | exact h.2.2.1.1 | exact h.1.1 | exact g1.1.1 | exact g3.1.1 | exact gm.1.1 | exact h2.1.1 | exact hM2.k | (rw [c1.1.1]; exact hP.2.1.k)) ⟨hM1.k, c_X11_isMaster hM1 hX.v0 hz (fun j hj e => ⟨fun c' => absurd c' (by decide), fun _ => ⟨fun c' => absurd (eu.symm.trans c') cu, fun _ => ⟨hM1.k, ?_⟩⟩⟩) (fun h => absurd rfl (h n hn))⟩
      refine hP.mput (i := n) (f := 0) hn (by omega) ?_ ⟨k, by rw [rgb_m n 0 (by omega), if_pos rfl]; exact hk, rfl⟩
      rw [show (72 : Int32) = nI 72 from rfl, show (7 : Int32) = nI 7 from rfl, pk_mul, nI_add]
      rfl
  · exact U_X11_turns (by first | exact hM.k | exact hM1.k | exact hP.2.1.k | exact h.2.2.1.1 | exact h.1.1 | exact g1.1.1 | exact g3.1.1 | exact gm.1.1 | exact h2.1.1 | exact hM2.k | (rw [c1.1.1]; exact hP.2.1.k)) ⟨hM.k, c_X11_isMaster hM hX.v0 hz (fun j hj e => absurd e (hno j hj)) (fun _ => ⟨fun _ => hP.same, fun c => absurd rfl c⟩)⟩
theorem P_as {w u : Int32} (hP : PI S x sz v) : jFi E mX10_as (d + 2) 0 0 [.ref x, .int w, .int u] S (fun r S1 => jFm E mX11_as (d + 2) (x + 94) [.int w, .int u] S1 (fun r' S2 => PO S x r r' S2)) := by
  have hX := hP.1
  have hM := hP.2.1
  have hz := hX.sz9
  have eu : jisin u.toInt64 0 5 = jwi u 6 := jisin_wi u 6 5 rfl (jle_lt (by decide))
  refine T_X10_as ⟨hX.1, x + 1, hX.2.1, hX.k3, x + 2, hX.r0, hX.g.1.1, c_X0_find hX.g.1 hX.g.2.1 hz (fun n hn e => ⟨fun c => absurd c (by simp), fun b hb => ?_⟩) (fun hno => ⟨fun _ => ?_, fun b hb => absurd hb (by simp)⟩)⟩
  · obtain rfl : x + 2 + 2 + n = b := by simpa using hb
    subst e
    refine ⟨fun c => ?_, fun cu => ⟨hX.g.mk2 (by omega), ?_⟩⟩
    · exact U_X11_as (by first | exact hM.k | exact hM1.k | exact hP.2.1.k | exact h.2.2.1.1 | exact h.1.1 | exact g1.1.1 | exact g3.1.1 | exact gm.1.1 | exact h2.1.1 | exact hM2.k | (rw [c1.1.1]; exact hP.2.1.k)) ⟨hM.k, c_X11_isMaster hM hX.v0 hz (fun j hj e => ⟨fun c' => absurd c' (by decide), fun _ => ⟨fun _ => hP.same, fun c' => absurd (eu.trans c) c'⟩⟩) (fun h => absurd rfl (h n hn))⟩
    · obtain ⟨j, hj, rfl⟩ := jist_of cu
      obtain ⟨k, hk, ek⟩ := hP.2.2.ms (i := n) (f := 0) (by omega) (by omega)
      rw [rgb_m n 0 (by omega), if_pos rfl] at hk
      have ref : ∀ r, (jisof (nI k) (nI j) = 0 → r = kKIND) → (jisof (nI k) (nI j) ≠ 0 → r = mfv v n 4) → jFm E mX11_as (d + 2) (x + 94) [.int (nI n), .int (nI j)] S (fun r' S2 => PO S x r r' S2) := by
        intro r h1 h2
        refine U_X11_as (by first | exact hM.k | exact hM1.k | exact hP.2.1.k | exact h.2.2.1.1 | exact h.1.1 | exact g1.1.1 | exact g3.1.1 | exact gm.1.1 | exact h2.1.1 | exact hM2.k | (rw [c1.1.1]; exact hP.2.1.k)) ⟨hM.k, c_X11_isMaster hM hX.v0 hz (fun _ _ _ => ⟨fun c' => absurd c' (by decide), fun _ => ⟨fun c' => absurd (eu.symm.trans c') cu, fun _ => ⟨hM.k, c_X11_of (f := 0) hM (by omega) (by omega) ?_⟩⟩⟩) (fun h => absurd rfl (h n hn))⟩
        rw [ek]
        refine ⟨fun c => ?_, fun c => ⟨hM.k, c_X11_of (f := 4) hM (by omega) (by omega) ?_⟩⟩
        · rw [h1 c]; exact hP.same
        · rw [h2 c]; exact hP.same
      refine c_X2_isOf (hX.g.mk2 (by omega)) ((hX.g.at (by omega) (by omega)).trans ek) hk hj ⟨fun c => ref _ (fun _ => rfl) (fun c' => absurd c c'), fun c => ⟨hX.g.mk2 (by omega), ?_⟩⟩
      rw [hX.g.at (by omega) (by omega)]
      exact ref _ (fun c' => absurd c' c) (fun _ => rfl)
  · exact U_X11_as (by first | exact hM.k | exact hM1.k | exact hP.2.1.k | exact h.2.2.1.1 | exact h.1.1 | exact g1.1.1 | exact g3.1.1 | exact gm.1.1 | exact h2.1.1 | exact hM2.k | (rw [c1.1.1]; exact hP.2.1.k)) ⟨hM.k, c_X11_isMaster hM hX.v0 hz (fun j hj e => absurd e (hno j hj)) (fun _ => ⟨fun _ => hP.same, fun c => absurd rfl c⟩)⟩
end jLight5
end
section
/-! BARS, SET, MASTER on both sides -/
section jLight6
variable {E : jEnv} {d : Nat} {S : jM} {x m sz : Nat} {v : Nat → Int32}
theorem P_bars {w u t : Int32} (hP : PI S x sz v) : jFi E mX10_bars (d + 2) 0 0 [.ref x, .int w, .int u, .int t] S (fun r S1 => jFm E mX11_bars (d + 2) (x + 94) [.int w, .int u, .int t] S1 (fun r' S2 => PO S x r r' S2)) := by
  have hX := hP.1
  have hM := hP.2.1
  have hz := hX.sz9
  refine T_X10_bars ⟨hX.1, x + 1, hX.2.1, hX.k3, x + 2, hX.r0, hX.g.1.1, c_X0_find hX.g.1 hX.g.2.1 hz (fun n hn e => ⟨fun c => absurd c (by simp), fun b hb => ?_⟩) (fun hno => ⟨fun _ => ?_, fun b hb => absurd hb (by simp)⟩)⟩
  · obtain rfl : x + 2 + 2 + n = b := by simpa using hb
    subst e
    have g2 : ji S (x + 2 + 2 + n) 2 = mfv v n 2 := hX.g.at (by omega) (by omega)
    have g3 : ji S (x + 2 + 2 + n) 3 = mfv v n 3 := hX.g.at (by omega) (by omega)
    refine ⟨fun c => ?_, fun cu => ⟨fun c => ?_, fun ct => ⟨hX.g.mk2 (by omega), ?_⟩⟩⟩
    · exact U_X11_bars (by first | exact hM.k | exact hM1.k | exact hP.2.1.k | exact h.2.2.1.1 | exact h.1.1 | exact g1.1.1 | exact g3.1.1 | exact gm.1.1 | exact h2.1.1 | exact hM2.k | (rw [c1.1.1]; exact hP.2.1.k)) ⟨hM.k, c_X11_isMaster hM hX.v0 hz (fun j hj e => ⟨fun c' => absurd c' (by decide), fun _ => ⟨fun _ => hP.same, fun c' => absurd c c'⟩⟩) (fun h => absurd rfl (h n hn))⟩
    · exact U_X11_bars (by first | exact hM.k | exact hM1.k | exact hP.2.1.k | exact h.2.2.1.1 | exact h.1.1 | exact g1.1.1 | exact g3.1.1 | exact gm.1.1 | exact h2.1.1 | exact hM2.k | (rw [c1.1.1]; exact hP.2.1.k)) ⟨hM.k, c_X11_isMaster hM hX.v0 hz (fun j hj e => ⟨fun c' => absurd c' (by decide), fun _ => ⟨fun c' => absurd c' cu, fun _ => ⟨fun _ => hP.same, fun c' => absurd c c'⟩⟩⟩) (fun h => absurd rfl (h n hn))⟩
    · rw [g2, g3]
      refine ⟨fun c => ?_, fun c2 => ⟨fun c => ?_, fun c3 => ?_⟩⟩
      · exact U_X11_bars (by first | exact hM.k | exact hM1.k | exact hP.2.1.k | exact h.2.2.1.1 | exact h.1.1 | exact g1.1.1 | exact g3.1.1 | exact gm.1.1 | exact h2.1.1 | exact hM2.k | (rw [c1.1.1]; exact hP.2.1.k)) ⟨hM.k, c_X11_isMaster hM hX.v0 hz (fun j hj e => ⟨fun c' => absurd c' (by decide), fun _ => ⟨fun c' => absurd c' cu, fun _ => ⟨fun c' => absurd c' ct, fun _ => ⟨hM.k, c_X11_of (f := 2) hM (by omega) (by omega) ⟨fun _ => hP.same, fun c' => absurd c c'⟩⟩⟩⟩⟩) (fun h => absurd rfl (h n hn))⟩
      · exact U_X11_bars (by first | exact hM.k | exact hM1.k | exact hP.2.1.k | exact h.2.2.1.1 | exact h.1.1 | exact g1.1.1 | exact g3.1.1 | exact gm.1.1 | exact h2.1.1 | exact hM2.k | (rw [c1.1.1]; exact hP.2.1.k)) ⟨hM.k, c_X11_isMaster hM hX.v0 hz (fun j hj e => ⟨fun c' => absurd c' (by decide), fun _ => ⟨fun c' => absurd c' cu, fun _ => ⟨fun c' => absurd c' ct, fun _ => ⟨hM.k, c_X11_of (f := 2) hM (by omega) (by omega) ⟨fun c' => absurd c' c2, fun _ => ⟨hM.k, c_X11_of (f := 2) hM (by omega) (by omega) ⟨fun _ => hP.same, fun c' => absurd c c'⟩⟩⟩⟩⟩⟩⟩) (fun h => absurd rfl (h n hn))⟩
      · obtain ⟨a, ha, rfl⟩ := jisg_of cu
        obtain ⟨b, hb, rfl⟩ := jisg_of ct
        have c1 : jch S (jput S (x + 2 + 2 + n) 3 (jshl 1 (nI a) ||| jshl 1 (nI b))) (x + 2) (x + 13) := jch.put (by omega) (by omega)
        have hM1 := hM.keep c1 (by omega)
        refine U_X11_bars (by first | exact hM.k | exact hM1.k | exact hP.2.1.k | exact h.2.2.1.1 | exact h.1.1 | exact g1.1.1 | exact g3.1.1 | exact gm.1.1 | exact h2.1.1 | exact hM2.k | (rw [c1.1.1]; exact hP.2.1.k)) ⟨hM1.k, c_X11_isMaster hM1 hX.v0 hz (fun j hj e => ⟨fun c' => absurd c' (by decide), fun _ => ⟨fun c' => absurd c' cu, fun _ => ⟨fun c' => absurd c' ct, fun _ => ⟨hM1.k, c_X11_of (f := 2) hM1 (by omega) (by omega) ⟨fun c' => absurd c' c2, fun _ => ⟨hM1.k, c_X11_of (f := 2) hM1 (by omega) (by omega) ⟨fun c' => absurd c' c3, fun _ => ⟨hM1.k, ?_⟩⟩⟩⟩⟩⟩⟩⟩) (fun h => absurd rfl (h n hn))⟩
        refine hP.mput (i := n) (f := 3) hn (by omega) (nI_mst n 3) ⟨_, ?_, nI_bv _⟩
        rw [rgb_m n 3 (by omega)]
        exact j_or_lt ⟨a, ha⟩ ⟨b, hb⟩
  · exact U_X11_bars (by first | exact hM.k | exact hM1.k | exact hP.2.1.k | exact h.2.2.1.1 | exact h.1.1 | exact g1.1.1 | exact g3.1.1 | exact gm.1.1 | exact h2.1.1 | exact hM2.k | (rw [c1.1.1]; exact hP.2.1.k)) ⟨hM.k, c_X11_isMaster hM hX.v0 hz (fun j hj e => absurd e (hno j hj)) (fun _ => ⟨fun _ => hP.same, fun c => absurd rfl c⟩)⟩
theorem P_set {w u t : Int32} (hP : PI S x sz v) : jFi E mX10_set (d + 3) 0 0 [.ref x, .int w, .int u, .int t] S (fun r S1 => jFm E mX11_set (d + 2) (x + 94) [.int w, .int u, .int t] S1 (fun r' S2 => PO S x r r' S2)) := by
  have hX := hP.1
  have hM := hP.2.1
  have hz := hX.sz9
  have e2 : jisin t.toInt64 0 1 = jwi t 2 := jisin_wi t 2 1 rfl (jle_lt (by decide))
  have e99 : jisin t.toInt64 0 99 = jwi t 100 := jisin_wi t 100 99 rfl (jle_lt (by decide))
  refine T_X10_set ⟨hX.1, x + 1, hX.2.1, hX.k3, x + 2, hX.r0, hX.g.1.1, c_X0_find hX.g.1 hX.g.2.1 hz (fun n hn e => ⟨fun c => absurd c (by simp), fun b hb => ?_⟩) (fun hno => ⟨fun _ => ?_, fun b hb => absurd hb (by simp)⟩)⟩
  · obtain rfl : x + 2 + 2 + n = b := by simpa using hb
    subst e
    have k2 : jk S (x + 2 + 2 + n) = 2 := hX.g.mk2 (by omega)
    have i46 : ∀ f : Nat, 4 ≤ f → f ≤ 6 → jisin (nI f).toInt64 4 6 ≠ 0 := by
      intro f h1 h2
      rcases jisin_ab (nI f) (lo := 4) (hi := 6) 4 6 rfl rfl (by omega) (by omega) with ⟨j, _, _, _, h⟩ | ⟨h, _⟩
      · rw [h]; decide
      · exact absurd rfl (h f h1 h2)
    -- fee and age
    have small : ∀ f : Nat, (f = 4 ∨ f = 5) → ∀ r S1, S1 = jput S (x + 2 + 2 + n) f t → r = mfv v n f → ¬ jwi t 100 = 0 → jFm E mX11_set (d + 2) (x + 94) [.int (nI n), .int (nI f), .int t] S1 (fun r' S2 => PO S x r r' S2) := by
      intro f hf r S1 hS hr ht
      subst hS; subst hr
      have c1 : jch S (jput S (x + 2 + 2 + n) f t) (x + 2) (x + 13) := jch.put (by omega) (by omega)
      have hM1 := hM.keep c1 (by omega)
      have hf6 : nI f ≠ 6 := nI_ne (b := 6) (by omega) (by omega) (by omega)
      refine U_X11_set (by first | exact hM.k | exact hM1.k | exact hP.2.1.k | exact h.2.2.1.1 | exact h.1.1 | exact g1.1.1 | exact g3.1.1 | exact gm.1.1 | exact h2.1.1 | exact hM2.k | (rw [c1.1.1]; exact hP.2.1.k)) ⟨hM1.k, c_X11_isMaster hM1 hX.v0 hz (fun j hj e => ⟨fun c' => absurd c' (by decide), fun _ => ⟨fun c' => absurd c' (i46 f (by omega) (by omega)), fun _ => ⟨fun c' => absurd c' hf6, fun _ => ⟨fun c' => absurd (e99.symm.trans c') ht, fun _ => ⟨hM1.k, ?_⟩⟩⟩⟩⟩) (fun h => absurd rfl (h n hn))⟩
      refine hP.mput hn (by omega) (nI_mst n f) ?_
      rcases jwi_cases t (b := 100) 100 rfl (by omega) with ⟨j, hj, e, _⟩ | ⟨_, e⟩
      · refine ⟨j, ?_, e⟩
        rw [rgb_m n f (by omega)]
        rcases hf with rfl | rfl <;> exact hj
      · exact absurd e ht
    have bad : ∀ f : Nat, (f = 4 ∨ f = 5) → jwi t 100 = 0 → jFm E mX11_set (d + 2) (x + 94) [.int (nI n), .int (nI f), .int t] S (fun r' S2 => PO S x kBAD r' S2) := by
      intro f hf ht
      have hf6 : nI f ≠ 6 := nI_ne (b := 6) (by omega) (by omega) (by omega)
      exact U_X11_set (by first | exact hM.k | exact hM1.k | exact hP.2.1.k | exact h.2.2.1.1 | exact h.1.1 | exact g1.1.1 | exact g3.1.1 | exact gm.1.1 | exact h2.1.1 | exact hM2.k | (rw [c1.1.1]; exact hP.2.1.k)) ⟨hM.k, c_X11_isMaster hM hX.v0 hz (fun j hj e => ⟨fun c' => absurd c' (by decide), fun _ => ⟨fun _ => hP.same, fun _ => ⟨fun c' => absurd c' hf6, fun _ => ⟨fun _ => hP.same, fun c' => absurd (e99.trans ht) c'⟩⟩⟩⟩) (fun h => absurd rfl (h n hn))⟩
    have dead : ∀ r q : Int32, r = mfv v n 6 → q = t → ¬ jwi t 2 = 0 → jFm E mX11_set (d + 2) (x + 94) [.int (nI n), .int 6, .int t] (jput S (x + 2 + 2 + n) 6 q) (fun r' S2 => PO S x r r' S2) := by
      intro r q hr hq ht
      subst hr; subst hq
      have c1 : jch S (jput S (x + 2 + 2 + n) 6 q) (x + 2) (x + 13) := jch.put (by omega) (by omega)
      have hM1 := hM.keep c1 (by omega)
      refine U_X11_set (by first | exact hM.k | exact hM1.k | exact hP.2.1.k | exact h.2.2.1.1 | exact h.1.1 | exact g1.1.1 | exact g3.1.1 | exact gm.1.1 | exact h2.1.1 | exact hM2.k | (rw [c1.1.1]; exact hP.2.1.k)) ⟨hM1.k, c_X11_isMaster hM1 hX.v0 hz (fun j hj e => ⟨fun c' => absurd c' (by decide), fun _ => ⟨fun c' => absurd c' (i46 6 (by omega) (by omega)), fun _ => ⟨fun _ => ⟨fun c' => absurd (e2.symm.trans c') ht, fun _ => ⟨hM1.k, ?_⟩⟩, fun c' => absurd rfl c'⟩⟩⟩) (fun h => absurd rfl (h n hn))⟩
      refine hP.mput hn (by omega) (nI_mst n 6) ?_
      rcases jwi_cases q (b := 2) 2 rfl (by omega) with ⟨j, hj, e, _⟩ | ⟨_, e⟩
      · exact ⟨j, by rw [rgb_m n 6 (by omega)]; exact hj, e⟩
      · exact absurd e ht
    refine ⟨fun c => ?_, fun c => ?_, fun c => ?_, fun c4 c5 c6 => ?_⟩
    · subst c
      refine T_X10_setFee ⟨fun ht => bad 4 (Or.inl rfl) ht, fun ht => ⟨k2, small 4 (Or.inl rfl) _ _ rfl (hX.g.at (by omega) (by omega)) ht⟩⟩
    · subst c
      refine T_X10_setAge ⟨fun ht => bad 5 (Or.inr rfl) ht, fun ht => ⟨k2, small 5 (Or.inr rfl) _ _ rfl (hX.g.at (by omega) (by omega)) ht⟩⟩
    · subst c
      have h6 : ji S (x + 2 + 2 + n) 6 = mfv v n 6 := hX.g.at (by omega) (by omega)
      obtain ⟨k, hk, ek⟩ := hP.2.2.ms (i := n) (f := 6) (by omega) (by omega)
      rw [rgb_m n 6 (by omega)] at hk
      have hk : k < 2 := hk
      refine T_X10_setDead ⟨fun ht => ?_, fun ht => ⟨k2, ?_⟩⟩
      · exact U_X11_set (by first | exact hM.k | exact hM1.k | exact hP.2.1.k | exact h.2.2.1.1 | exact h.1.1 | exact g1.1.1 | exact g3.1.1 | exact gm.1.1 | exact h2.1.1 | exact hM2.k | (rw [c1.1.1]; exact hP.2.1.k)) ⟨hM.k, c_X11_isMaster hM hX.v0 hz (fun j hj e => ⟨fun c' => absurd c' (by decide), fun _ => ⟨fun _ => hP.same, fun _ => ⟨fun _ => ⟨fun _ => hP.same, fun c' => absurd (e2.trans ht) c'⟩, fun c' => absurd rfl c'⟩⟩⟩) (fun h => absurd rfl (h n hn))⟩
      · have ht01 : t = 0 ∨ t = 1 := by
          rcases jwi_cases t (b := 2) 2 rfl (by omega) with ⟨j, hj, e, _⟩ | ⟨_, e⟩
          · rcases (show j = 0 ∨ j = 1 by omega) with rfl | rfl
            · exact Or.inl e
            · exact Or.inr e
          · exact absurd e ht
        have hm01 : mfv v n 6 = 0 ∨ mfv v n 6 = 1 := by
          rw [ek]
          rcases (show k = 0 ∨ k = 1 by omega) with rfl | rfl
          · exact Or.inl rfl
          · exact Or.inr rfl
        rw [h6]
        refine ⟨fun c => ⟨fun c1 => dead _ _ c.symm c1.symm ht, fun c1 => dead _ _ c.symm ?_ ht⟩, fun c => ⟨fun c1 => dead _ _ ?_ c1.symm ht, fun c1 => dead _ _ ?_ ?_ ht⟩⟩
        · rcases ht01 with h | h
          · exact h.symm
          · exact absurd h c1
        · rcases hm01 with h | h
          · exact absurd h c
          · exact h.symm
        · rcases hm01 with h | h
          · exact absurd h c
          · exact h.symm
        · rcases ht01 with h | h
          · exact h.symm
          · exact absurd h c1
    · refine U_X11_set (by first | exact hM.k | exact hM1.k | exact hP.2.1.k | exact h.2.2.1.1 | exact h.1.1 | exact g1.1.1 | exact g3.1.1 | exact gm.1.1 | exact h2.1.1 | exact hM2.k | (rw [c1.1.1]; exact hP.2.1.k)) ⟨hM.k, c_X11_isMaster hM hX.v0 hz (fun j hj e => ⟨fun c' => absurd c' (by decide), fun _ => ⟨fun _ => hP.same, fun c' => absurd ?_ c'⟩⟩) (fun h => absurd rfl (h n hn))⟩
      rcases jisin_ab u (lo := 4) (hi := 6) 4 6 rfl rfl (by omega) (by omega) with ⟨f, h1, h2, h, _⟩ | ⟨_, h⟩
      · exfalso
        rcases (show f = 4 ∨ f = 5 ∨ f = 6 by omega) with rfl | rfl | rfl
        · exact c4 h
        · exact c5 h
        · exact c6 h
      · exact h
  · exact U_X11_set (by first | exact hM.k | exact hM1.k | exact hP.2.1.k | exact h.2.2.1.1 | exact h.1.1 | exact g1.1.1 | exact g3.1.1 | exact gm.1.1 | exact h2.1.1 | exact hM2.k | (rw [c1.1.1]; exact hP.2.1.k)) ⟨hM.k, c_X11_isMaster hM hX.v0 hz (fun j hj e => absurd e (hno j hj)) (fun _ => ⟨fun _ => hP.same, fun c => absurd rfl c⟩)⟩
end jLight6
end
section
/-! MASTER on both sides -/
section jLight7
variable {E : jEnv} {d : Nat} {S : jM} {x m sz : Nat} {v : Nat → Int32}
theorem c_X11_comes {Q : jM → Prop} {k t g f : Int32} (hM : MR S m v) (h0 : v 0 = nI sz) (hz : sz < 9) (h : ∀ S', jch S S' (m + 1) (m + 2) → MR S' m (vjoin v sz (mnew k t g f)) → Q S') : jFv E mX11_comes d 0 0 [.ref m, .int k, .int t, .int g, .int f] S Q := by
  have i0 := hM.at (i := 0) 0 rfl (by omega)
  have b0 : (72 + 7 * nI sz : Int32) = nI (72 + 7 * sz) := by
    rw [show (72 : Int32) = nI 72 from rfl, show (7 : Int32) = nI 7 from rfl, pk_mul, nI_add]
  have b1 : (72 + 7 * nI sz + 1 : Int32) = nI (72 + 7 * sz + 1) := nI_mst sz 1
  have b2 : (72 + 7 * nI sz + 2 : Int32) = nI (72 + 7 * sz + 2) := nI_mst sz 2
  have b3 : (72 + 7 * nI sz + 3 : Int32) = nI (72 + 7 * sz + 3) := nI_mst sz 3
  have b4 : (72 + 7 * nI sz + 4 : Int32) = nI (72 + 7 * sz + 4) := nI_mst sz 4
  have b5 : (72 + 7 * nI sz + 5 : Int32) = nI (72 + 7 * sz + 5) := nI_mst sz 5
  have b6 : (72 + 7 * nI sz + 6 : Int32) = nI (72 + 7 * sz + 6) := nI_mst sz 6
  refine T_X11_comes ⟨hM.k, m + 1, hM.r, hM.k1, i0.1, ?_⟩
  rw [i0.2, h0]
  have h1 := hM.puts (w := k) _ b0 (by omega)
  have h2 := h1.puts (w := t) _ b1 (by omega)
  have h3 := h2.puts (w := g) _ b2 (by omega)
  have h4 := h3.puts (w := 0) _ b3 (by omega)
  have h5 := h4.puts (w := f) _ b4 (by omega)
  have h6 := h5.puts (w := 40) _ b5 (by omega)
  have h7 := h6.puts (w := 0) _ b6 (by omega)
  have j0 := (h7.at (i := 0) 0 rfl (by omega)).2
  have h8 := h7.puts (i := 0) (w := nI sz + 1) 0 rfl (by omega)
  refine ⟨(hM.at _ b0 (by omega)).1, (hM.at _ b1 (by omega)).1, (hM.at _ b2 (by omega)).1, (hM.at _ b3 (by omega)).1, (hM.at _ b4 (by omega)).1, (hM.at _ b5 (by omega)).1, (hM.at _ b6 (by omega)).1, ?_⟩
  rw [j0, upd_ne _ (by omega), upd_ne _ (by omega), upd_ne _ (by omega), upd_ne _ (by omega), upd_ne _ (by omega), upd_ne _ (by omega), upd_ne _ (by omega), h0]
  refine h _ ?_ ⟨h8.1, fun j => (h8.2 j).trans ?_⟩
  · exact (((((((jch.put (by omega) (by omega)).trans (jch.put (by omega) (by omega))).trans (jch.put (by omega) (by omega))).trans (jch.put (by omega) (by omega))).trans (jch.put (by omega) (by omega))).trans (jch.put (by omega) (by omega))).trans (jch.put (by omega) (by omega))).trans (jch.put (by omega) (by omega))
  · unfold vjoin
    by_cases p0 : j = 0
    · subst p0; rw [upd_at, if_pos rfl, nI_1]
    · rw [upd_ne _ p0, if_neg p0]
      by_cases pr : 72 + 7 * sz ≤ j ∧ j < 72 + 7 * sz + 7
      · rw [if_pos pr]
        rcases (show j = 72 + 7 * sz ∨ j = 72 + 7 * sz + 1 ∨ j = 72 + 7 * sz + 2 ∨ j = 72 + 7 * sz + 3 ∨ j = 72 + 7 * sz + 4 ∨ j = 72 + 7 * sz + 5 ∨ j = 72 + 7 * sz + 6 by omega) with e | e | e | e | e | e | e
        · rw [show j - (72 + 7 * sz) = 0 by omega, upd_ne _ (by omega), upd_ne _ (by omega), upd_ne _ (by omega), upd_ne _ (by omega), upd_ne _ (by omega), upd_ne _ (by omega), e, upd_at]; rfl
        · rw [show j - (72 + 7 * sz) = 1 by omega, upd_ne _ (by omega), upd_ne _ (by omega), upd_ne _ (by omega), upd_ne _ (by omega), upd_ne _ (by omega), e, upd_at]; rfl
        · rw [show j - (72 + 7 * sz) = 2 by omega, upd_ne _ (by omega), upd_ne _ (by omega), upd_ne _ (by omega), upd_ne _ (by omega), e, upd_at]; rfl
        · rw [show j - (72 + 7 * sz) = 3 by omega, upd_ne _ (by omega), upd_ne _ (by omega), upd_ne _ (by omega), e, upd_at]; rfl
        · rw [show j - (72 + 7 * sz) = 4 by omega, upd_ne _ (by omega), upd_ne _ (by omega), e, upd_at]; rfl
        · rw [show j - (72 + 7 * sz) = 5 by omega, upd_ne _ (by omega), e, upd_at]; rfl
        · rw [show j - (72 + 7 * sz) = 6 by omega, e, upd_at]; rfl
      · rw [if_neg pr, upd_ne _ (by omega), upd_ne _ (by omega), upd_ne _ (by omega), upd_ne _ (by omega), upd_ne _ (by omega), upd_ne _ (by omega), upd_ne _ (by omega)]
theorem vjoin_0 {w : Nat → Int32} : vjoin v sz w 0 = nI (sz + 1) := by unfold vjoin; rw [if_pos rfl]
/-- ranges when a master comes -/
theorem Rg.join {k t g f : Nat} (h : Rg sz v) (hk : k < 6) (ht : t < 6) (hg : g < 10) (hf : f < 100) : Rg (sz + 1) (vjoin v sz (mnew (nI k) (nI t) (nI g) (nI f))) := by
  intro j hj hb
  unfold vjoin
  by_cases p0 : j = 0
  · subst p0; exact absurd rfl hb
  · rw [if_neg p0]
    by_cases pr : 72 + 7 * sz ≤ j ∧ j < 72 + 7 * sz + 7
    · rw [if_pos pr]
      obtain ⟨i, hi, rfl⟩ : ∃ i, i < 7 ∧ j = 72 + 7 * sz + i := ⟨j - (72 + 7 * sz), by omega, by omega⟩
      rw [rgb_m sz i hi, show 72 + 7 * sz + i - (72 + 7 * sz) = i by omega]
      rcases (show i = 0 ∨ i = 1 ∨ i = 2 ∨ i = 3 ∨ i = 4 ∨ i = 5 ∨ i = 6 by omega) with rfl | rfl | rfl | rfl | rfl | rfl | rfl
      · exact ⟨k, hk, rfl⟩
      · exact ⟨t, ht, rfl⟩
      · exact ⟨g, hg, rfl⟩
      · exact ⟨0, by decide, rfl⟩
      · exact ⟨f, hf, rfl⟩
      · exact ⟨40, by decide, rfl⟩
      · exact ⟨0, by decide, rfl⟩
    · rw [if_neg pr]
      exact h j (by omega) hb
theorem P_master {k t g f : Int32} (hP : PI S x sz v) : jFi E mX10_master (d + 2) 0 0 [.ref x, .int k, .int t, .int g, .int f] S (fun r S1 => jFm E mX11_master (d + 1) (x + 94) [.int k, .int t, .int g, .int f] S1 (fun r' S2 => PO S x r r' S2)) := by
  have hX := hP.1
  have hM := hP.2.1
  have hz := hX.sz9
  have ek : jisin k.toInt64 0 5 = jwi k 6 := jisin_wi k 6 5 rfl (jle_lt (by decide))
  have ef : jisin f.toInt64 0 99 = jwi f 100 := jisin_wi f 100 99 rfl (jle_lt (by decide))
  have i0 := hM.at (i := 0) 0 rfl (by omega)
  refine C_master hX (fun c => ?_) (fun c1 c2 c3 c4 h9 => ?_) (fun c1 c2 c3 c4 h9 S1 ch1 h1 => ?_)
  · refine U_X11_master (by first | exact hM.k | exact hM1.k | exact hP.2.1.k | exact h.2.2.1.1 | exact h.1.1 | exact g1.1.1 | exact g3.1.1 | exact gm.1.1 | exact h2.1.1 | exact hM2.k | (rw [c1.1.1]; exact hP.2.1.k)) ⟨fun _ => hP.same, fun c1 => ⟨fun _ => hP.same, fun c2 => ⟨fun _ => hP.same, fun c3 => ⟨fun _ => hP.same, fun c4 => ?_⟩⟩⟩⟩
    rcases c with c | c | c | c
    · exact absurd (ek.trans c) c1
    · exact absurd c c2
    · exact absurd c c3
    · exact absurd (ef.trans c) c4
  · refine U_X11_master (by first | exact hM.k | exact hM1.k | exact hP.2.1.k | exact h.2.2.1.1 | exact h.1.1 | exact g1.1.1 | exact g3.1.1 | exact gm.1.1 | exact h2.1.1 | exact hM2.k | (rw [c1.1.1]; exact hP.2.1.k)) ⟨fun c => absurd (ek.symm.trans c) c1, fun _ => ⟨fun c => absurd c c2, fun _ => ⟨fun c => absurd c c3, fun _ => ⟨fun c => absurd (ef.symm.trans c) c4, fun _ => ⟨hM.k, _, hM.r, hM.k1, i0.1, fun _ => hP.same, fun c => absurd (i0.2.trans (hX.v0.trans (by rw [h9]; rfl))) c⟩⟩⟩⟩⟩
  · have hM1 := hM.keep ch1 (by omega)
    have j0 := hM1.at (i := 0) 0 rfl (by omega)
    refine U_X11_master (by first | exact hM.k | exact hM1.k | exact hP.2.1.k | exact h.2.2.1.1 | exact h.1.1 | exact g1.1.1 | exact g3.1.1 | exact gm.1.1 | exact h2.1.1 | exact hM2.k | (rw [c1.1.1]; exact hP.2.1.k)) ⟨fun c => absurd (ek.symm.trans c) c1, fun _ => ⟨fun c => absurd c c2, fun _ => ⟨fun c => absurd c c3, fun _ => ⟨fun c => absurd (ef.symm.trans c) c4, fun _ => ⟨hM1.k, _, hM1.r, hM1.k1, j0.1, fun c => ?_, fun _ => c_X11_comes hM1 hX.v0 h9 (fun S2 ch2 h2 => ?_)⟩⟩⟩⟩⟩
    · rw [j0.2, hX.v0] at c
      exact absurd (nI_inj (by omega) (by omega) (show nI sz = nI 9 from c)) (by omega)
    · have l0 := h2.at (i := 0) 0 rfl (by omega)
      refine ⟨h2.k, _, h2.r, h2.k1, l0.1, ?_⟩
      rw [l0.2, vjoin_0, nI_pred]
      obtain ⟨k', hk, rfl⟩ := jist_of c1
      obtain ⟨t', ht, rfl⟩ := jist_of c2
      obtain ⟨g', hg, rfl⟩ := jisg_of c3
      obtain ⟨f', hf, rfl⟩ : ∃ j, j < 100 ∧ f = nI j := by
        rcases jwi_cases f (b := 100) 100 rfl (by omega) with ⟨j, hj, e, _⟩ | ⟨_, e⟩
        · exact ⟨j, hj, e⟩
        · exact absurd e c4
      exact ⟨rfl, (jfr.realm ch1 (by omega) (by omega)).trans (jfr.row ch2), tkOf hP.2.1 h2 (fun j hj => by unfold vjoin; rw [if_neg (by omega), if_neg (by omega)]), sz + 1, _, h1.of ch2.1 (h1.2.2.keep ch2 (by omega)), h2, hP.2.2.join hk ht hg hf⟩
end jLight7
end
section
/-! FAR on both sides -/
theorem nI_d6 {i : Nat} (h : i < 2 ^ 31) : nI i / 6 = nI (i / 6) := pk_div (d := 6) h (by decide) (by decide)
theorem nI_r6 {i : Nat} (h : i < 2 ^ 31) : jrem (nI i) 6 = nI (i % 6) := pk_rem (d := 6) h (by decide) (by decide)
theorem nI_6x (a c : Nat) : 6 * nI a + nI c = nI (a * 6 + c) := by
  rw [show (6 : Int32) = nI 6 from rfl, pk_mul, nI_add, Nat.mul_comm]
section jFar
variable {E : jEnv} {d : Nat} {S : jM} {x m sz : Nat} {v : Nat → Int32}
theorem ML.far (h : ML S m) : jr S m 12 = some (m + 12) ∧ jk S (m + 12) = 12 ∧ jl S (m + 12) = 36 := by
  have := h.2 11 (12, 36) rfl
  rw [show m + 1 + 11 = m + 12 by omega] at this
  exact this
theorem l_X11_far2 {Q : jM → Prop} (hL : ML S m) (h : Q (jrow S (m + 12) (jfold w1 6 0 (ji S (m + 12))))) : L_X11_findFar_64 E d Q m 0 S := by
  obtain ⟨f1, f2, f3⟩ := hL.far
  have stepI : ∀ (o : Nat), o < 6 → ∀ (wz : Nat → Int32), L_X11_findFar_64 E d Q m (nI (o + 1)) (jrow S (m + 12) wz) → ∀ (n i : Nat) (w : Nat → Int32), i + n = 36 → jfold (w1step o) n i w = wz → L_X11_findFar_72 E d Q m (nI o) (nI i) (jrow S (m + 12) w) := by
    intro o ho wz hend n
    induction n with
    | zero =>
      intro i w hi hw
      obtain rfl : i = 36 := by omega
      have hw' : w = wz := hw
      subst hw'
      exact T_X11_findFar_72 ⟨fun _ => by rw [nI_1]; exact hend, fun c => absurd (by decide) c⟩
    | succ n ih =>
      intro i w hi hw
      have hrow : ji (jrow S (m + 12) w) (m + 12) = w := ji_row_same _ _ _
      have hl : jl (jrow S (m + 12) w) (m + 12) = 36 := f3
      have e1 : (nI i / 6) * 6 + nI o = nI (i / 6 * 6 + o) := by rw [nI_d6 (by omega), nI_ix6]
      have e2 : 6 * nI o + jrem (nI i) 6 = nI (o * 6 + i % 6) := by rw [nI_r6 (by omega), nI_6x]
      refine T_X11_findFar_72 ⟨fun c => absurd c (nI_ge (b := 36) (by omega) (by omega)), fun _ => ⟨hL.1, m + 12, f1, f2, ?_, ?_, fun y hy => ⟨?_, ?_⟩⟩⟩
      · rw [hl, e1]; exact jin_nI (by omega) (by omega)
      · rw [hl, e2]; exact jin_nI (by omega) (by omega)
      · rw [hl]; exact jin_nI (by omega) (by omega)
      · rw [e1, e2, jcl (by omega), jcl (by omega), hrow] at hy
        rw [jcl (by omega), hrow, nI_1, jput_eq, jrow_row, jput_eq, jrow_row, hrow]
        have hs : upd w i (jmin (w i) y) = w1step o i w := by rw [hy]; rfl
        have hnext := ih (i + 1) (w1step o i w) (by omega) hw
        rw [← hs] at hnext
        unfold jmin at hnext
        refine ⟨fun c => ?_, fun c => ?_⟩
        · rw [if_neg (Int32.not_lt.mpr c)] at hnext; exact hnext
        · rw [if_pos (Int32.not_le.mp c)] at hnext; exact hnext
  have stepO : ∀ (n o : Nat) (w : Nat → Int32), o + n = 6 → jfold w1 n o w = jfold w1 6 0 (ji S (m + 12)) → L_X11_findFar_64 E d Q m (nI o) (jrow S (m + 12) w) := by
    intro n
    induction n with
    | zero =>
      intro o w ho hw
      obtain rfl : o = 6 := by omega
      have hw' : w = jfold w1 6 0 (ji S (m + 12)) := hw
      rw [hw']
      exact T_X11_findFar_64 ⟨fun _ => h, fun c => absurd (by decide) c⟩
    | succ n ih =>
      intro o w ho hw
      exact T_X11_findFar_64 ⟨fun c => absurd c (nI_ge (b := 6) (by omega) (by omega)), fun _ => stepI o (by omega) (w1 o w) (ih (o + 1) (w1 o w) (by omega) hw) 36 0 w (by omega) rfl⟩
  have h0 := stepO 6 0 (ji S (m + 12)) (by omega) rfl
  rw [jrow_self] at h0
  exact h0
theorem c_X11_findFar {Q : jM → Prop} (hM : MR S m v) (h : ∀ S', jch S S' (m + 12) (m + 13) → (∀ i, i < 36 → ji S' (m + 12) i = vfar v i) → Q S') : jFv E mX11_findFar d 0 0 [.ref m] S Q := by
  obtain ⟨f1, f2, f3⟩ := hM.1.far
  have hend : L_X11_findFar_64 E d Q m 0 (jrow S (m + 12) (jfold (w0step (fun i => v (36 + i))) 36 0 (ji S (m + 12)))) := by
    refine l_X11_far2 (S := jrow S (m + 12) (jfold (w0step (fun i => v (36 + i))) 36 0 (ji S (m + 12)))) hM.1 ?_
    rw [jrow_row, ji_row_same]
    refine h _ (jch.row (by omega) (by omega)) (fun i hi => ?_)
    rw [ji_row_same]
    exact wfar_agr (dy := fun i => v (36 + i)) (dy' := fun i => v (36 + i)) (w := ji S (m + 12)) (w' := fun _ => 0) (fun _ _ => rfl) i hi
  have stepI : ∀ (n i : Nat) (w : Nat → Int32), i + n = 36 → jfold (w0step (fun i => v (36 + i))) n i w = jfold (w0step (fun i => v (36 + i))) 36 0 (ji S (m + 12)) → L_X11_findFar_2 E d Q m (nI i) (jrow S (m + 12) w) := by
    intro n
    induction n with
    | zero =>
      intro i w hi hw
      obtain rfl : i = 36 := by omega
      have hw' : w = jfold (w0step (fun i => v (36 + i))) 36 0 (ji S (m + 12)) := hw
      rw [hw']
      exact T_X11_findFar_2 ⟨fun _ => hend, fun c => absurd (by decide) c⟩
    | succ n ih =>
      intro i w hi hw
      have hnext := ih (i + 1) (w0step (fun i => v (36 + i)) i w) (by omega) hw
      have hM1 : MR (jrow S (m + 12) w) m v := hM.keep (jch.row (lo := m + 12) (hi := m + 13) (by omega) (by omega)) (by omega)
      have hrow : ji (jrow S (m + 12) w) (m + 12) = w := ji_row_same _ _ _
      have hl : jl (jrow S (m + 12) w) (m + 12) = 36 := f3
      have hin : vp_in (nI i) (jl (jrow S (m + 12) w) (m + 12)) := by rw [hl]; exact jin_nI (by omega) (by omega)
      obtain ⟨a1, a2⟩ := hM1.at (i := 36 + nI i) (36 + i) (nI_add 36 i) (by omega)
      unfold w0step at hnext
      refine T_X11_findFar_2 ⟨fun c => absurd c (nI_ge (b := 36) (by omega) (by omega)), fun _ => ⟨hM1.k, m + 12, f1, fun c => ⟨f2, hin, ?_⟩, fun c => ⟨m + 1, hM1.r, hM1.k1, a1, ?_⟩⟩⟩
      · rw [nI_d6 (by omega), nI_r6 (by omega)] at c
        rw [if_pos (nI_inj (by omega) (by omega) c)] at hnext
        rw [jcl (by omega), nI_1, jput_eq, jrow_row, hrow]
        exact hnext
      · rw [nI_d6 (by omega), nI_r6 (by omega)] at c
        rw [if_neg (fun e => c (by rw [e]))] at hnext
        rw [a2, jcl (by omega), nI_1, jput_eq, jrow_row, jput_eq, jrow_row, hrow]
        refine ⟨fun c0 => ⟨f2, hin, ?_⟩, fun c0 => ⟨f2, hin, ?_⟩⟩
        · rw [if_pos c0] at hnext; exact hnext
        · rw [if_neg c0] at hnext; exact hnext
  have h0 := stepI 36 0 (ji S (m + 12)) (by omega) rfl
  rw [jrow_self] at h0
  exact T_X11_findFar h0
theorem jfr.far {S1 : jM} (h : jch S S1 (x + 106) (x + 107)) : jfr S S1 x := ⟨h.1, fun y _ _ _ _ c _ => h.2 y (by omega)⟩
theorem P_far {w u : Int32} (hP : PI S x sz v) : jFi E mX10_far (d + 2) 0 0 [.ref x, .int w, .int u] S (fun r S1 => jFm E mX11_far (d + 1) (x + 94) [.int w, .int u] S1 (fun r' S2 => PO S x r r' S2)) := by
  have hX := hP.1
  have hM := hP.2.1
  refine T_X10_far ⟨fun c => U_X11_far (by first | exact hM.k | exact hM1.k | exact hP.2.1.k | exact h.2.2.1.1 | exact h.1.1 | exact g1.1.1 | exact g3.1.1 | exact gm.1.1 | exact h2.1.1 | exact hM2.k | (rw [c1.1.1]; exact hP.2.1.k)) ⟨fun _ => hP.same, fun c' => absurd c c'⟩, fun cw => ⟨fun c => U_X11_far (by first | exact hM.k | exact hM1.k | exact hP.2.1.k | exact h.2.2.1.1 | exact h.1.1 | exact g1.1.1 | exact g3.1.1 | exact gm.1.1 | exact h2.1.1 | exact hM2.k | (rw [c1.1.1]; exact hP.2.1.k)) ⟨fun c' => absurd c' cw, fun _ => ⟨fun _ => hP.same, fun c' => absurd c c'⟩⟩, fun cu => ⟨hX.1, x + 1, hX.2.1, hX.k3, x + 13, hX.r1, hX.q.1.1, ?_⟩⟩⟩
  obtain ⟨a, ha, rfl⟩ := jist_of cw
  obtain ⟨b, hb, rfl⟩ := jist_of cu
  have ref : ∀ r, (vfar v (a * 6 + b) = 9999 → r = kNONE) → (vfar v (a * 6 + b) ≠ 9999 → r = vfar v (a * 6 + b)) → jFm E mX11_far (d + 1) (x + 94) [.int (nI a), .int (nI b)] S (fun r' S2 => PO S x r r' S2) := by
    intro r h1 h2
    refine U_X11_far (by first | exact hM.k | exact hM1.k | exact hP.2.1.k | exact h.2.2.1.1 | exact h.1.1 | exact g1.1.1 | exact g3.1.1 | exact gm.1.1 | exact h2.1.1 | exact hM2.k | (rw [c1.1.1]; exact hP.2.1.k)) ⟨fun c => absurd c cw, fun _ => ⟨fun c => absurd c cu, fun _ => ⟨hM.k, c_X11_findFar hM (fun S1 c1 hf => ?_)⟩⟩⟩
    have hM1 := hM.keep c1 (by omega)
    have hX1 := hX.of c1.1 (hX.2.2.keep c1 (by omega))
    obtain ⟨f1, f2, f3⟩ := hM1.1.far
    have po : ∀ q, r = q → PO S x r q S1 := fun q e => ⟨e, jfr.far (c1.wide (by omega) (by omega)), tkOf hM hM1 (fun _ _ => rfl), sz, v, hX1, hM1, hP.2.2⟩
    refine ⟨hM1.k, _, f1, f2, by rw [f3, nI_6x]; exact jin_nI (by omega) (by omega), ?_⟩
    rw [nI_6x, jcl (by omega), hf _ (by omega)]
    exact ⟨fun c => po _ (h1 c), fun c => po _ (h2 c)⟩
  exact c_X4_fewest hX.q ha hb ⟨fun c => ref _ (fun _ => rfl) (fun c' => absurd c c'), fun c => ref _ (fun c' => absurd c' c) (fun _ => rfl)⟩
end jFar
end
section
/-! DEAL on both sides -/
theorem jushr8 (z : Int32) : ∃ n, n < 2 ^ 31 ∧ jushr z 8 = nI n := by
  refine ⟨(jushr z 8).toBitVec.toNat, ?_, nI_bv _⟩
  have e : (jushr z 8).toBitVec = z.toBitVec >>> 8 := rfl
  rw [e, BitVec.toNat_ushiftRight, Nat.shiftRight_eq_div_pow]
  have := z.toBitVec.isLt
  omega
theorem jdrawn (z : Int32) {b : Int32} (k : Nat) (hb : b = nI k) (h0 : 0 < k) (hk : k < 2 ^ 31) : ∃ n, n < k ∧ jrem (jushr z 8) b = nI n := by
  obtain ⟨n, hn, e⟩ := jushr8 z
  subst hb
  exact ⟨n % k, Nat.mod_lt _ h0, by rw [e]; exact pk_rem hn h0 hk⟩
/-- a master comes by lot, on the row -/
def vlot (v : Nat → Int32) (sz : Nat) : Nat → Int32 := vjoin (upd v 8 (jz4 (v 8))) sz (mdraw (v 8))
def vlots : Nat → Nat → (Nat → Int32) → Nat → Int32
  | 0, _, v => v
  | c + 1, sz, v => vlots c (sz + 1) (vlot v sz)
section jDeal
variable {E : jEnv} {d : Nat} {S : jM} {x m sz : Nat} {v : Nat → Int32}
theorem vlot_0 : vlot v sz 0 = nI (sz + 1) := vjoin_0
theorem Rg.lot (h : Rg sz v) : Rg (sz + 1) (vlot v sz) := by
  obtain ⟨k, hk, e1⟩ := jdrawn (jlot (v 8)) (b := 6) 6 rfl (by omega) (by omega)
  obtain ⟨t, ht, e2⟩ := jdrawn (jlot (jlot (v 8))) (b := 6) 6 rfl (by omega) (by omega)
  obtain ⟨g, hg, e3⟩ := jdrawn (jlot (jlot (jlot (v 8)))) (b := 10) 10 rfl (by omega) (by omega)
  obtain ⟨f, hf, e4⟩ := jdrawn (jz4 (v 8)) (b := 40) 40 rfl (by omega) (by omega)
  unfold vlot mdraw
  rw [e1, e2, e3, e4]
  exact (h.put (n := 8) (w := jz4 (v 8)) (fun c => absurd rfl c)).join hk ht hg (by omega)
theorem Rg.lots : ∀ (c sz : Nat) (v : Nat → Int32), Rg sz v → Rg (sz + c) (vlots c sz v)
  | 0, _, _, h => h
  | c + 1, sz, v, h => by
    have := Rg.lots c (sz + 1) (vlot v sz) h.lot
    rw [show sz + 1 + c = sz + (c + 1) by omega] at this
    exact this
theorem vlots_o : ∀ (c sz : Nat) (v : Nat → Int32), sz + c ≤ 9 → ∀ j, (j = 1 ∨ 135 ≤ j) → vlots c sz v j = v j
  | 0, _, _, _, _, _ => rfl
  | c + 1, sz, v, h, j, hj => by
    show vlots c (sz + 1) (vlot v sz) j = v j
    rw [vlots_o c (sz + 1) _ (by omega) j hj]
    unfold vlot vjoin
    rw [if_neg (by omega), if_neg (by omega), upd_ne _ (by omega)]
theorem XR.lot {S' : jM} (h : XR S x sz v) (hz : sz < 9) (hc : jch S S' (x + 2) (x + 13)) (hg : GR S' (x + 2) (sz + 1) (jz4 (v 8)) (mall (mfv v) sz (mdraw (v 8)))) : XR S' x (sz + 1) (vlot v sz) := by
  have e8 : vlot v sz 8 = jz4 (v 8) := by unfold vlot vjoin; rw [if_neg (by omega), if_neg (by omega), upd_at]
  refine h.of hc.1 (h.2.2.guild hc ?_ (by omega) vlot_0 (fun j p0 p8 pj => ?_))
  · rw [e8]
    refine hg.cong (fun a ha b hb => ?_)
    rw [mall_join hz a ha b hb]
    unfold mfv vlot vjoin
    rw [upd_ne _ (by omega)]
  · unfold vlot vjoin
    rw [if_neg p0, if_neg (by omega), upd_ne _ p8]
theorem l_X10_deal {Q : Int32 → jM → Prop} : ∀ (c i sz : Nat) (v : Nat → Int32) (S : jM), i + c ≤ 9 → sz + c ≤ 9 → XR S x sz v → (∀ S', jch S S' (x + 2) (x + 13) → XR S' x (sz + c) (vlots c sz v) → Q (nI (i + c)) S') → L_X10_deal_34 E (d + 2) Q x (nI (i + c)) (nI i) S := by
  intro c
  induction c with
  | zero =>
    intro i sz v S hi hz hX h
    exact T_X10_deal_34 ⟨fun _ => h S jch.rfl hX, fun c => absurd Int32.le_rfl c⟩
  | succ c ih =>
    intro i sz v S hi hz hX h
    refine T_X10_deal_34 ⟨fun c' => absurd c' ?_, fun _ => ⟨hX.1, x + 1, hX.2.1, hX.k3, x + 2, hX.r0, hX.g.1.1, c_X0_joinByLot hX.g (by omega) (fun S1 c1 g1 => ?_)⟩⟩
    · rw [Int32.le_iff_toInt_le, nI_toInt (by omega), nI_toInt (by omega)]; omega
    · have h1 := hX.lot (by omega) c1 g1
      rw [nI_1]
      have e : i + (c + 1) = i + 1 + c := by omega
      rw [e] at h ⊢
      refine ih (i + 1) (sz + 1) (vlot v sz) S1 (by omega) (by omega) h1 (fun S' c' h' => h S' (c1.trans c') ?_)
      rw [show sz + (c + 1) = sz + 1 + c by omega]
      exact h'
theorem c_X11_drawn {Q : Int32 → jM → Prop} (hM : MR S m v) (h : ∀ S', jch S S' (m + 1) (m + 2) → MR S' m (upd v 8 (jlot (v 8))) → Q (jushr (jlot (v 8)) 8) S') : jFi E mX11_drawn d 0 0 [.ref m] S Q := by
  obtain ⟨a1, a2⟩ := hM.at (i := 8) 8 rfl (by omega)
  refine T_X11_drawn ⟨hM.k, m + 1, hM.r, hM.k1, a1, ?_⟩
  rw [a2]
  exact h _ (jch.put (by omega) (by omega)) (hM.puts 8 rfl (by omega))
theorem l_X11_deal {Q : Int32 → jM → Prop} {n : Nat} (hn : n ≤ 9) : ∀ (c i sz : Nat) (v : Nat → Int32) (S : jM), i + c ≤ n → sz + c ≤ 9 → (i + c = n ∨ sz + c = 9) → v 0 = nI sz → MR S m v → (∀ S', jch S S' (m + 1) (m + 2) → MR S' m (vlots c sz v) → Q (nI (i + c)) S') → L_X11_deal_17 E (d + 1) Q m (nI n) (nI i) S := by
  intro c
  induction c with
  | zero =>
    intro i sz v S hi hz hs h0 hM h
    have i0 := hM.at (i := 0) 0 rfl (by omega)
    refine T_X11_deal_17 ⟨fun _ => h S jch.rfl hM, fun c => ⟨hM.k, _, hM.r, hM.k1, i0.1, fun _ => h S jch.rfl hM, fun c9 => absurd ?_ c9⟩⟩
    rw [i0.2, h0]
    rcases hs with hs | hs
    · exfalso
      rw [Int32.le_iff_toInt_le, nI_toInt (by omega), nI_toInt (by omega)] at c
      omega
    · obtain rfl : sz = 9 := by omega
      decide
  | succ c ih =>
    intro i sz v S hi hz hs h0 hM h
    have i0 := hM.at (i := 0) 0 rfl (by omega)
    refine T_X11_deal_17 ⟨fun c' => absurd c' ?_, fun _ => ⟨hM.k, _, hM.r, hM.k1, i0.1, fun c9 => absurd c9 ?_, fun _ => ?_⟩⟩
    · rw [Int32.le_iff_toInt_le, nI_toInt (by omega), nI_toInt (by omega)]; omega
    · rw [i0.2, h0]; exact nI_ge (b := 9) (by omega) (by omega)
    · refine c_X11_drawn hM (fun S1 c1 h1 => ⟨h1.k, c_X11_drawn h1 (fun S2 c2 h2 => ⟨h2.k, c_X11_drawn h2 (fun S3 c3 h3 => ⟨h3.k, c_X11_drawn h3 (fun S4 c4 h4 => ⟨h4.k, ?_⟩)⟩)⟩)⟩)
      rw [upd_at, upd_at, upd_at] at *
      have hM4 : MR S4 m (upd v 8 (jz4 (v 8))) := ⟨h4.1, fun j => (h4.2 j).trans (by
        by_cases j8 : j = 8
        · subst j8; rw [upd_at, upd_at]; rfl
        · rw [upd_ne _ j8, upd_ne _ j8, upd_ne _ j8, upd_ne _ j8, upd_ne _ j8])⟩
      refine c_X11_comes hM4 (by rw [upd_ne _ (by omega)]; exact h0) (by omega) (fun S5 c5 h5 => ?_)
      rw [nI_1]
      have e : i + (c + 1) = i + 1 + c := by omega
      rw [e] at h
      exact ih (i + 1) (sz + 1) (vlot v sz) S5 (by omega) (by omega) (by omega) vlot_0 h5 (fun S' c' h' => h S' ((((c1.trans c2).trans (c3.trans c4)).trans c5).trans c') h')
theorem P_deal {w : Int32} (hP : PI S x sz v) : jFi E mX10_deal (d + 3) 0 0 [.ref x, .int w] S (fun r S1 => jFm E mX11_deal (d + 2) (x + 94) [.int w] S1 (fun r' S2 => PO S x r r' S2)) := by
  have hX := hP.1
  have hz := hX.sz9
  rcases jisin_ab w (lo := 1) (hi := 9) 1 9 rfl rfl (by omega) (by omega) with ⟨n, n1, n9, rfl, hj⟩ | ⟨hw, hj⟩
  · refine T_X10_deal ⟨fun c => absurd c (by rw [show (1 : Int32) = nI 1 from rfl, Int32.lt_iff_toInt_lt, nI_toInt (by omega), nI_toInt (by omega)]; omega), fun _ => ⟨fun _ => ⟨hX.1, x + 1, hX.2.1, hX.k3, x + 2, hX.r0, hX.g.1.1, ?_⟩, fun c => absurd (by rw [show (9 : Int32) = nI 9 from rfl, Int32.le_iff_toInt_le, nI_toInt (by omega), nI_toInt (by omega)]; omega) c⟩⟩
    have ec : ∃ c, c ≤ n ∧ sz + c ≤ 9 ∧ (c = n ∨ sz + c = 9) ∧ jmin (nI n) (9 - ji S (x + 2) 1) = nI (0 + c) := by
      rw [hX.g.2.1, show (9 : Int32) = nI 9 from rfl, pk_sub hz]
      unfold jmin
      by_cases hl : 9 - sz < n
      · refine ⟨9 - sz, by omega, by omega, Or.inr (by omega), ?_⟩
        rw [if_pos (by rw [Int32.lt_iff_toInt_lt, nI_toInt (by omega), nI_toInt (by omega)]; omega), Nat.zero_add]
      · refine ⟨n, by omega, by omega, Or.inl rfl, ?_⟩
        rw [if_neg (by rw [Int32.lt_iff_toInt_lt, nI_toInt (by omega), nI_toInt (by omega)]; omega), Nat.zero_add]
    obtain ⟨c, h1, h2, h3, e⟩ := ec
    rw [e]
    refine l_X10_deal c 0 sz v S (by omega) h2 hX (fun S1 c1 hX1 => ?_)
    have hM := hP.2.1.keep c1 (by omega)
    refine U_X11_deal (by first | exact hM.k | exact hM1.k | exact hP.2.1.k | exact h.2.2.1.1 | exact h.1.1 | exact g1.1.1 | exact g3.1.1 | exact gm.1.1 | exact h2.1.1 | exact hM2.k | (rw [c1.1.1]; exact hP.2.1.k)) ⟨fun c => absurd (hj.symm.trans c) (by decide), fun _ => l_X11_deal n9 c 0 sz v S1 (by omega) h2 (by omega) hX.v0 hM (fun S2 c2 hM2 => ?_)⟩
    exact ⟨rfl, (jfr.realm c1 (by omega) (by omega)).trans (jfr.row c2), tkOf hP.2.1 hM2 (fun j hj => vlots_o c sz v (by omega) j hj), sz + c, _, hX1.of c2.1 (hX1.2.2.keep c2 (by omega)), hM2, Rg.lots c sz v hP.2.2⟩
  · have bad : jFm E mX11_deal (d + 2) (x + 94) [.int w] S (fun r' S2 => PO S x kBAD r' S2) := U_X11_deal (by first | exact hM.k | exact hM1.k | exact hP.2.1.k | exact h.2.2.1.1 | exact h.1.1 | exact g1.1.1 | exact g3.1.1 | exact gm.1.1 | exact h2.1.1 | exact hM2.k | (rw [c1.1.1]; exact hP.2.1.k)) ⟨fun _ => hP.same, fun c => absurd hj c⟩
    refine T_X10_deal ⟨fun _ => bad, fun c1 => ⟨fun c2 => ?_, fun _ => bad⟩⟩
    exfalso
    rw [show (1 : Int32) = nI 1 from rfl, Int32.lt_iff_toInt_lt, nI_toInt (by omega)] at c1
    obtain ⟨j, hj, e⟩ := jofI (x := w) (n := 10) (by omega) (by rw [Int32.le_iff_toInt_le]; show (0 : Int) ≤ _; omega) (by rw [show (9 : Int32) = nI 9 from rfl, Int32.le_iff_toInt_le, nI_toInt (by omega)] at c2; rw [Int32.lt_iff_toInt_lt, nI_toInt (by omega)]; omega)
    rw [e, nI_toInt (by omega)] at c1
    exact hw j (by omega) (by omega) e
end jDeal
end
section
/-! LAST on both sides; the dead, counted by the reference -/
section jLast
variable {E : jEnv} {d : Nat} {S : jM} {x m sz : Nat} {v : Nat → Int32}
def jlres (mf : Nat → Nat → Int32) (ge : Int32) (c : Nat) (one : Int32) (n i : Nat) : Int32 := if c = 0 then monly mf ge n i kNONE else if c = 1 then monly mf ge n i one else kNONE
theorem l_X11_last {Q : Int32 → jM → Prop} {ge : Int32} (hM : MR S m v) (h0 : v 0 = nI sz) (hz : sz ≤ 9) : ∀ (n i c : Nat) (one : Int32), i + n = sz → c ≤ i → (c = 1 → one ≠ kNONE) → Q (jlres (mfv v) ge c one n i) S → L_X11_last_17 E d Q m ge one (nI c) (nI i) S := by
  have i0 := hM.at (i := 0) 0 rfl (by omega)
  intro n
  induction n with
  | zero =>
    intro i c one hi hc ho h
    obtain rfl : i = sz := by omega
    refine T_X11_last_17 ⟨hM.k, _, hM.r, hM.k1, i0.1, fun _ => ⟨fun c1 => ?_, fun c1 => ?_⟩, fun cc => absurd (by rw [i0.2, h0]; exact Int32.le_rfl) cc⟩
    · have : c = 1 := nI_inj (by omega) (by omega) (show nI c = nI 1 from c1)
      subst this
      exact h
    · have hc1 : c ≠ 1 := fun e => c1 (by rw [e]; rfl)
      unfold jlres at h
      by_cases hc0 : c = 0
      · rw [if_pos hc0] at h; exact h
      · rw [if_neg hc0, if_neg hc1] at h; exact h
  | succ n ih =>
    intro i c one hi hc ho h
    refine T_X11_last_17 ⟨hM.k, _, hM.r, hM.k1, i0.1, fun cc => absurd cc ?_, fun _ => c_X11_of (f := 6) hM (by omega) (by omega) ⟨fun c6 => ⟨hM.k, c_X11_of (f := 2) hM (by omega) (by omega) ⟨fun c2 => ?_, fun c2 => ?_⟩⟩, fun c6 => ?_⟩⟩
    · rw [i0.2, h0, Int32.le_iff_toInt_le, nI_toInt (by omega), nI_toInt (by omega)]; omega
    · rw [nI_1, nI_1]
      refine ih (i + 1) (c + 1) (nI i) (by omega) (by omega) (fun _ => ?_) ?_
      · intro e
        have := congrArg Int32.toInt e
        rw [nI_toInt (by omega)] at this
        have e2 : (kNONE : Int32).toInt = -1000000005 := by decide
        omega
      · unfold jlres at h ⊢
        rw [if_neg (by omega)]
        by_cases hc0 : c = 0
        · subst hc0
          rw [if_pos rfl] at h
          rw [if_pos rfl]
          unfold monly at h
          rw [if_pos c6, if_pos c2, if_pos rfl] at h
          exact h
        · rw [if_neg hc0] at h
          rw [if_neg (by omega)]
          by_cases hc1 : c = 1
          · rw [if_pos hc1] at h
            unfold monly at h
            rw [if_pos c6, if_pos c2, if_neg (ho hc1)] at h
            exact h
          · rw [if_neg hc1] at h; exact h
    · rw [nI_1]
      refine ih (i + 1) c one (by omega) (by omega) ho ?_
      unfold jlres at h ⊢
      unfold monly at h
      rw [if_pos c6, if_neg c2, if_pos c6, if_neg c2] at h
      exact h
    · rw [nI_1]
      refine ih (i + 1) c one (by omega) (by omega) ho ?_
      unfold jlres at h ⊢
      unfold monly at h
      rw [if_neg c6, if_neg c6] at h
      exact h
theorem P_last {w : Int32} (hP : PI S x sz v) : jFi E mX10_last (d + 3) 0 0 [.ref x, .int w] S (fun r S1 => jFm E mX11_last (d + 1) (x + 94) [.int w] S1 (fun r' S2 => PO S x r r' S2)) := by
  have hX := hP.1
  refine T_X10_last ⟨fun c => U_X11_last (by first | exact hM.k | exact hM1.k | exact hP.2.1.k | exact h.2.2.1.1 | exact h.1.1 | exact g1.1.1 | exact g3.1.1 | exact gm.1.1 | exact h2.1.1 | exact hM2.k | (rw [c1.1.1]; exact hP.2.1.k)) ⟨fun _ => hP.same, fun c' => absurd c c'⟩, fun cw => ⟨hX.1, x + 1, hX.2.1, hX.k3, x + 2, hX.r0, hX.g.1.1, c_X0_onlyTeacher hX.g hX.sz9 ?_⟩⟩
  exact U_X11_last (by first | exact hM.k | exact hM1.k | exact hP.2.1.k | exact h.2.2.1.1 | exact h.1.1 | exact g1.1.1 | exact g3.1.1 | exact gm.1.1 | exact h2.1.1 | exact hM2.k | (rw [c1.1.1]; exact hP.2.1.k)) ⟨fun c' => absurd c' cw, fun _ => l_X11_last hP.2.1 hX.v0 hX.sz9 sz 0 0 (-1) (by omega) (by omega) (fun c => absurd c (by omega)) hP.same⟩
/-- the dead -/
theorem c_X11_dead {Q : Int32 → jM → Prop} (hM : MR S m v) (h0 : v 0 = nI sz) (hz : sz ≤ 9) (hg : Rg sz v) (h : Q (mdead (mfv v) sz) S) : jFi E mX11_allOf (d + 1) 0 0 [.ref m, .int 6] S Q := by
  have i0 := hM.at (i := 0) 0 rfl (by omega)
  have key : ∀ (n i : Nat) (a : Int32), i + n = sz → Q (jfold (fun i a => if mfv v i 6 = 0 then a + 0 else a + 1) n i a) S → L_X11_allOf_4 E d Q m 6 a (nI i) S := by
    intro n
    induction n with
    | zero =>
      intro i a hi hh
      obtain rfl : i = sz := by omega
      exact T_X11_allOf_4 ⟨hM.k, _, hM.r, hM.k1, i0.1, fun _ => hh, fun cc => absurd (by rw [i0.2, h0]; exact Int32.le_rfl) cc⟩
    | succ n ih =>
      intro i a hi h
      refine T_X11_allOf_4 ⟨hM.k, _, hM.r, hM.k1, i0.1, fun cc => absurd cc ?_, fun _ => c_X11_of (f := 6) hM (by omega) (by omega) ?_⟩
      · rw [i0.2, h0, Int32.le_iff_toInt_le, nI_toInt (by omega), nI_toInt (by omega)]; omega
      · rw [nI_1]
        refine ih (i + 1) _ (by omega) ?_
        unfold jfold at h
        obtain ⟨k, hk, e⟩ := hg.ms (i := i) (f := 6) (by omega) (by omega)
        rw [rgb_m i 6 (by omega)] at hk
        have hk : k < 2 := hk
        rcases (show k = 0 ∨ k = 1 by omega) with rfl | rfl
        · rw [if_pos (by rw [e]; rfl)] at h
          rw [e]; exact h
        · rw [if_neg (by rw [e]; decide)] at h
          rw [e]; exact h
  exact T_X11_allOf (key sz 0 0 (by omega) h)
end jLast
end
section
/-! A YEAR, by the reference -/
/-- the row with lot and masters otherwise -/
def vg (v : Nat → Int32) (p : gst) : Nat → Int32 := fun j => if j = 8 then p.1 else if 72 ≤ j ∧ j < 135 then p.2 ((j - 72) / 7) ((j - 72) % 7) else v j
/-- a year with the dead counted -/
def yoneC (i : Nat) (q : gst × Int32) : gst × Int32 := (yone i q.1, if q.1.2 i 6 = 0 then (if q.1.2 i 5 - 50 ≤ jrem (jushr (jlot q.1.1) 8) 100 then q.2 else q.2 + 1) else q.2)
section jYear
variable {E : jEnv} {d : Nat} {S : jM} {x m sz : Nat} {v : Nat → Int32}
theorem vg_8 (p : gst) : vg v p 8 = p.1 := by unfold vg; rw [if_pos rfl]
theorem vg_m (p : gst) {i f : Nat} (hi : i < 9) (hf : f < 7) : vg v p (72 + 7 * i + f) = p.2 i f := by
  unfold vg
  rw [if_neg (by omega), if_pos (by omega), show (72 + 7 * i + f - 72) / 7 = i by omega, show (72 + 7 * i + f - 72) % 7 = f by omega]
theorem vg_o (p : gst) {j : Nat} (h8 : j ≠ 8) (h : j < 72 ∨ 135 ≤ j) : vg v p j = v j := by
  unfold vg
  rw [if_neg h8, if_neg (by omega)]
theorem vg_set (p : gst) (z w : Int32) {i f : Nat} (hi : i < 9) (hf : f < 7) (j : Nat) : upd (upd (vg v p) 8 z) (72 + 7 * i + f) w j = vg v (z, mset p.2 i f w) j := by
  by_cases h1 : j = 72 + 7 * i + f
  · subst h1; rw [upd_at, vg_m _ hi hf]; unfold mset; show w = if i = i ∧ f = f then w else _; rw [if_pos ⟨rfl, rfl⟩]
  · rw [upd_ne _ h1]
    by_cases h8 : j = 8
    · subst h8; rw [upd_at, vg_8]
    · rw [upd_ne _ h8]
      unfold vg mset
      rw [if_neg h8, if_neg h8]
      by_cases hr : 72 ≤ j ∧ j < 135
      · rw [if_pos hr, if_pos hr]
        show _ = if (j - 72) / 7 = i ∧ (j - 72) % 7 = f then w else _
        rw [if_neg (by omega)]
      · rw [if_neg hr, if_neg hr]
theorem jage {k : Nat} (hk : k < 100) : jclamp (nI k + 1) 0 99 = jmin 99 (nI k + 1) ∧ ∃ n, n < 100 ∧ jmin 99 (nI k + 1) = nI n := by
  have e : ∀ k : Fin 100, jclamp (nI k.val + 1) 0 99 = jmin 99 (nI k.val + 1) ∧ ∃ n : Fin 100, jmin 99 (nI k.val + 1) = nI n.val := by decide +kernel
  obtain ⟨h1, n, h2⟩ := e ⟨k, hk⟩
  exact ⟨h1, n.val, n.isLt, h2⟩
theorem l_X11_year {Q : Int32 → jM → Prop} (h0 : v 0 = nI sz) (hz : sz ≤ 9) : ∀ (n i : Nat) (p : gst) (a : Int32) (S : jM), i + n = sz → MR S m (vg v p) → Rg sz (vg v p) → (∀ S', jch S S' (m + 1) (m + 2) → MR S' m (vg v (jfold yoneC n i (p, a)).1) → Rg sz (vg v (jfold yoneC n i (p, a)).1) → Q (jfold yoneC n i (p, a)).2 S') → L_X11_year_4 E (d + 1) Q m a (nI i) S := by
  intro n
  induction n with
  | zero =>
    intro i p a S hi hM hg h
    have i0 := hM.at (i := 0) 0 rfl (by omega)
    rw [vg_o p (by omega) (by omega), h0] at i0
    obtain rfl : i = sz := by omega
    exact T_X11_year_4 ⟨hM.k, _, hM.r, hM.k1, i0.1, fun _ => h S jch.rfl hM hg, fun cc => absurd (by rw [i0.2]; exact Int32.le_rfl) cc⟩
  | succ n ih =>
    intro i p a S hi hM hg h
    have i0 := hM.at (i := 0) 0 rfl (by omega)
    rw [vg_o p (by omega) (by omega), h0] at i0
    have b5 : (72 + 7 * nI i + 5 : Int32) = nI (72 + 7 * i + 5) := nI_mst i 5
    have b6 : (72 + 7 * nI i + 6 : Int32) = nI (72 + 7 * i + 6) := nI_mst i 6
    obtain ⟨d1, d2⟩ := hM.at _ b6 (by omega)
    rw [vg_m p (by omega) (by omega)] at d2
    have ihn := ih (i + 1)
    have hstep : jfold yoneC (n + 1) i (p, a) = jfold yoneC n (i + 1) (yoneC i (p, a)) := rfl
    rw [hstep] at h
    refine T_X11_year_4 ⟨hM.k, _, hM.r, hM.k1, i0.1, fun cc => absurd cc ?_, fun _ => ⟨d1, ?_⟩⟩
    · rw [i0.2, Int32.le_iff_toInt_le, nI_toInt (by omega), nI_toInt (by omega)]; omega
    · rw [d2, nI_1]
      refine ⟨fun c6 => c_X11_drawn hM (fun S1 c1 h1 => ?_), fun c6 => ?_⟩
      · rw [vg_8] at h1 ⊢
        obtain ⟨a1, a2⟩ := h1.at _ b5 (by omega)
        rw [upd_ne _ (by omega), vg_m p (by omega) (by omega)] at a2
        obtain ⟨k, hk, ek⟩ := hg (72 + 7 * i + 5) (by omega) (by rw [rgb_m i 5 (by omega)]; decide)
        rw [vg_m p (by omega) (by omega)] at ek
        rw [rgb_m i 5 (by omega)] at hk
        have hk : k < 100 := hk
        obtain ⟨g1, g2⟩ := jage hk
        rw [← ek] at g1 g2
        refine ⟨h1.k, _, h1.r, h1.k1, a1, ?_⟩
        rw [a2, g1]
        refine ⟨fun c5 => ?_, fun c5 => ⟨(h1.at _ b6 (by omega)).1, ?_⟩⟩
        · have ey : yoneC i (p, a) = ((jlot p.1, mset p.2 i 5 (jmin 99 (p.2 i 5 + 1))), a) := by unfold yoneC yone; simp only [if_pos c6, if_pos c5]
          have h2 := h1.puts (w := jmin 99 (p.2 i 5 + 1)) _ b5 (by omega)
          have hM2 : MR (jput S1 (m + 1) (Int32.toNatClampNeg (72 + 7 * nI i + 5)) (jmin 99 (p.2 i 5 + 1))) m (vg v (jlot p.1, mset p.2 i 5 (jmin 99 (p.2 i 5 + 1)))) := ⟨h2.1, fun j => (h2.2 j).trans (vg_set p _ _ (by omega) (by omega) j)⟩
          have hg2 : Rg sz (vg v (jlot p.1, mset p.2 i 5 (jmin 99 (p.2 i 5 + 1)))) := by
            intro j hj hb
            rw [← vg_set p _ _ (by omega) (by omega) j]
            exact ((hg.put (n := 8) (w := jlot p.1) (fun c => absurd rfl c)).put (n := 72 + 7 * i + 5) (w := jmin 99 (p.2 i 5 + 1)) (fun _ => by obtain ⟨q, hq, eq⟩ := g2; exact ⟨q, by rw [rgb_m i 5 (by omega)]; exact hq, eq⟩)) j hj hb
          rw [ey] at h
          exact ihn _ a _ (by omega) hM2 hg2 (fun S' c' h' g' => h S' ((c1.trans (jch.put (by omega) (by omega))).trans c') h' g')
        · have ey : yoneC i (p, a) = ((jlot p.1, mset p.2 i 6 1), a + 1) := by unfold yoneC yone; simp only [if_pos c6, if_neg c5]
          have h2 := h1.puts (w := 1) _ b6 (by omega)
          have hM2 : MR (jput S1 (m + 1) (Int32.toNatClampNeg (72 + 7 * nI i + 6)) 1) m (vg v (jlot p.1, mset p.2 i 6 1)) := ⟨h2.1, fun j => (h2.2 j).trans (vg_set p _ _ (by omega) (by omega) j)⟩
          have hg2 : Rg sz (vg v (jlot p.1, mset p.2 i 6 1)) := by
            intro j hj hb
            rw [← vg_set p _ _ (by omega) (by omega) j]
            exact ((hg.put (n := 8) (w := jlot p.1) (fun c => absurd rfl c)).put (n := 72 + 7 * i + 6) (w := 1) (fun _ => ⟨1, by rw [rgb_m i 6 (by omega)]; decide, rfl⟩)) j hj hb
          rw [ey] at h
          exact ihn _ (a + 1) _ (by omega) hM2 hg2 (fun S' c' h' g' => h S' ((c1.trans (jch.put (by omega) (by omega))).trans c') h' g')
      · have ey : yoneC i (p, a) = (p, a) := by unfold yoneC yone; simp only [if_neg c6]
        rw [ey] at h
        exact ihn p a S (by omega) hM hg h
end jYear
end
section
/-! YEARS on both sides -/
theorem j_tele (a x y z : Int32) : a + (y - x) + (z - y) = a + (z - x) := by
  apply Int32.toBitVec_inj.mp
  show a.toBitVec + (y.toBitVec - x.toBitVec) + (z.toBitVec - y.toBitVec) = a.toBitVec + (z.toBitVec - x.toBitVec)
  apply BitVec.eq_of_toNat_eq
  simp only [BitVec.toNat_add, BitVec.toNat_sub]
  have h1 := a.toBitVec.isLt
  have h2 := x.toBitVec.isLt
  have h3 := y.toBitVec.isLt
  have h4 := z.toBitVec.isLt
  omega
theorem j_swap (a : Int32) : a + 1 + 0 = a + 0 + 1 := by rw [Int32.add_zero, Int32.add_zero]
def dst (mf : Nat → Nat → Int32) (i : Nat) (a : Int32) : Int32 := if mf i 6 = 0 then a + 0 else a + 1
theorem dsh (mf : Nat → Nat → Int32) : ∀ (n k : Nat) (a : Int32), jfold (dst mf) n k (a + 1) = jfold (dst mf) n k a + 1
  | 0, _, _ => rfl
  | n + 1, k, a => by
    show jfold (dst mf) n (k + 1) (dst mf k (a + 1)) = jfold (dst mf) n (k + 1) (dst mf k a) + 1
    rw [← dsh mf n (k + 1)]
    congr 1
    unfold dst
    split
    · exact j_swap a
    · rfl
theorem dset {mf : Nat → Nat → Int32} {i : Nat} (h0 : mf i 6 = 0) : ∀ (n k : Nat) (a : Int32), jfold (dst (mset mf i 6 1)) n k a = if k ≤ i ∧ i < k + n then jfold (dst mf) n k a + 1 else jfold (dst mf) n k a
  | 0, k, a => by rw [if_neg (by omega)]; rfl
  | n + 1, k, a => by
    show jfold (dst (mset mf i 6 1)) n (k + 1) (dst (mset mf i 6 1) k a) = _
    rw [dset h0 n (k + 1)]
    by_cases hk : k = i
    · subst hk
      rw [if_neg (by omega), if_pos (by omega)]
      have e1 : dst (mset mf k 6 1) k a = a + 1 := by
        have hm : mset mf k 6 1 k 6 = 1 := by unfold mset; rw [if_pos ⟨rfl, rfl⟩]
        unfold dst; rw [hm, if_neg (by decide)]
      have e2 : dst mf k a = a := by unfold dst; rw [if_pos h0, Int32.add_zero]
      show jfold (dst mf) n (k + 1) (dst (mset mf k 6 1) k a) = jfold (dst mf) n (k + 1) (dst mf k a) + 1
      rw [e1, e2, dsh]
    · have e1 : dst (mset mf i 6 1) k a = dst mf k a := by
        have hm : mset mf i 6 1 k 6 = mf k 6 := by unfold mset; rw [if_neg (fun c => hk c.1)]
        unfold dst; rw [hm]
      rw [e1]
      show (if k + 1 ≤ i ∧ i < k + 1 + n then jfold (dst mf) n (k + 1) (dst mf k a) + 1 else jfold (dst mf) n (k + 1) (dst mf k a)) = if k ≤ i ∧ i < k + (n + 1) then jfold (dst mf) n (k + 1) (dst mf k a) + 1 else jfold (dst mf) n (k + 1) (dst mf k a)
      by_cases hi : k + 1 ≤ i ∧ i < k + 1 + n
      · rw [if_pos hi, if_pos (by omega)]
      · rw [if_neg hi, if_neg (by omega)]
theorem dset5 {mf : Nat → Nat → Int32} {i : Nat} {w : Int32} : dst (mset mf i 5 w) = dst mf := by
  funext k a
  have hm : mset mf i 5 w k 6 = mf k 6 := by unfold mset; rw [if_neg (fun c => absurd c.2 (by omega))]
  unfold dst; rw [hm]
theorem yoneC_dead {sz i : Nat} (hi : i < sz) (p : gst) (a : Int32) : (yoneC i (p, a)).2 = a + (mdead (yoneC i (p, a)).1.2 sz - mdead p.2 sz) := by
  have z : ∀ y : Int32, a = a + (y - y) := fun y => by rw [Int32.sub_self, Int32.add_zero]
  unfold yoneC yone
  simp only
  by_cases c6 : p.2 i 6 = 0
  · rw [if_pos c6, if_pos c6]
    by_cases c5 : p.2 i 5 - 50 ≤ jrem (jushr (jlot p.1) 8) 100
    · rw [if_pos c5, if_pos c5]
      have e : mdead (mset p.2 i 5 (jmin 99 (p.2 i 5 + 1))) sz = mdead p.2 sz := by
        show jfold (dst (mset p.2 i 5 (jmin 99 (p.2 i 5 + 1)))) sz 0 0 = jfold (dst p.2) sz 0 0
        rw [dset5]
      show a = a + (mdead (mset p.2 i 5 (jmin 99 (p.2 i 5 + 1))) sz - mdead p.2 sz)
      rw [e]; exact z _
    · rw [if_neg c5, if_neg c5]
      have e : mdead (mset p.2 i 6 1) sz = mdead p.2 sz + 1 := by
        show jfold (dst (mset p.2 i 6 1)) sz 0 0 = jfold (dst p.2) sz 0 0 + 1
        rw [dset c6, if_pos (by omega)]
      show a + 1 = a + (mdead (mset p.2 i 6 1) sz - mdead p.2 sz)
      rw [e]
      congr 1
      rw [Int32.add_comm]
      exact (Int32.add_sub_cancel 1 _).symm
  · rw [if_neg c6, if_neg c6]; exact z _
theorem yfold_dead {sz : Nat} : ∀ (n i : Nat) (p : gst) (a : Int32), i + n ≤ sz → (jfold yoneC n i (p, a)).2 = a + (mdead (jfold yoneC n i (p, a)).1.2 sz - mdead p.2 sz)
  | 0, i, p, a, _ => by
    show a = a + (mdead p.2 sz - mdead p.2 sz)
    rw [Int32.sub_self, Int32.add_zero]
  | n + 1, i, p, a, h => by
    have e := yoneC_dead (sz := sz) (i := i) (by omega) p a
    have r := yfold_dead (sz := sz) n (i + 1) (yoneC i (p, a)).1 (yoneC i (p, a)).2 (by omega)
    show (jfold yoneC n (i + 1) (yoneC i (p, a))).2 = a + (mdead (jfold yoneC n (i + 1) (yoneC i (p, a))).1.2 sz - mdead p.2 sz)
    have r2 : (jfold yoneC n (i + 1) (yoneC i (p, a))).2 = (yoneC i (p, a)).2 + (mdead (jfold yoneC n (i + 1) (yoneC i (p, a))).1.2 sz - mdead (yoneC i (p, a)).1.2 sz) := r
    rw [r2, e]
    exact j_tele _ _ _ _
theorem yfold_fst : ∀ (n i : Nat) (p : gst) (a : Int32), (jfold yoneC n i (p, a)).1 = jfold yone n i p
  | 0, _, _, _ => rfl
  | n + 1, i, p, a => yfold_fst n (i + 1) (yone i p) (yoneC i (p, a)).2
section jYears
variable {E : jEnv} {d : Nat} {S : jM} {x m sz : Nat} {v : Nat → Int32}
theorem c_X11_year {Q : Int32 → jM → Prop} {p : gst} (h0 : v 0 = nI sz) (hz : sz ≤ 9) (hM : MR S m (vg v p)) (hg : Rg sz (vg v p)) (h : ∀ S', jch S S' (m + 1) (m + 2) → MR S' m (vg v (yyear sz p)) → Rg sz (vg v (yyear sz p)) → Q (0 + (mdead (yyear sz p).2 sz - mdead p.2 sz)) S') : jFi E mX11_year (d + 2) 0 0 [.ref m] S Q := by
  refine T_X11_year (l_X11_year h0 hz sz 0 p 0 S (by omega) hM hg (fun S' c' h' g' => ?_))
  rw [yfold_dead (sz := sz) sz 0 p 0 (by omega)]
  rw [yfold_fst] at h' g' ⊢
  exact h S' c' h' g'
theorem l_X11_years {Q : Int32 → jM → Prop} {n : Nat} (hn : n < 1000) (h0 : v 0 = nI sz) (hz : sz ≤ 9) : ∀ (c j : Nat) (p : gst) (a : Int32) (S : jM), j + c = n → MR S m (vg v p) → Rg sz (vg v p) → (∀ S', jch S S' (m + 1) (m + 2) → MR S' m (vg v (yyears sz c p)) → Rg sz (vg v (yyears sz c p)) → Q (a + (mdead (yyears sz c p).2 sz - mdead p.2 sz)) S') → L_X11_years_19 E (d + 2) Q m (nI n) a (nI j) S := by
  intro c
  induction c with
  | zero =>
    intro j p a S hj hM hg h
    obtain rfl : j = n := by omega
    have h1 := h S jch.rfl hM hg
    have e : a + (mdead (yyears sz 0 p).2 sz - mdead p.2 sz) = a := by
      show a + (mdead p.2 sz - mdead p.2 sz) = a
      rw [Int32.sub_self, Int32.add_zero]
    rw [e] at h1
    exact T_X11_years_19 ⟨fun _ => h1, fun cc => absurd Int32.le_rfl cc⟩
  | succ c ih =>
    intro j p a S hj hM hg h
    refine T_X11_years_19 ⟨fun cc => absurd cc ?_, fun _ => ⟨hM.k, c_X11_year h0 hz hM hg (fun S1 c1 h1 g1 => ?_)⟩⟩
    · rw [Int32.le_iff_toInt_le, nI_toInt (by omega), nI_toInt (by omega)]; omega
    · rw [nI_1]
      refine ih (j + 1) (yyear sz p) _ S1 (by omega) h1 g1 (fun S' c' h' g' => ?_)
      have h2 := h S' (c1.trans c') h' g'
      rw [Int32.zero_add, j_tele]
      exact h2
theorem vg_self (j : Nat) : vg v (v 8, mfv v) j = v j := by
  unfold vg
  by_cases h8 : j = 8
  · subst h8; rw [if_pos rfl]
  · rw [if_neg h8]
    by_cases hr : 72 ≤ j ∧ j < 135
    · rw [if_pos hr]
      show v (72 + 7 * ((j - 72) / 7) + (j - 72) % 7) = v j
      congr 1; omega
    · rw [if_neg hr]
theorem P_years {w : Int32} (hP : PI S x sz v) : jFi E mX10_years (d + 4) 0 0 [.ref x, .int w] S (fun r S1 => jFm E mX11_years (d + 3) (x + 94) [.int w] S1 (fun r' S2 => PO S x r r' S2)) := by
  have hX := hP.1
  have hz := hX.sz9
  rcases jisin_ab w (lo := 1) (hi := 60) 1 60 rfl rfl (by omega) (by omega) with ⟨n, n1, n9, rfl, hj⟩ | ⟨hw, hj⟩
  · refine T_X10_years ⟨fun c => absurd c (by rw [show (1 : Int32) = nI 1 from rfl, Int32.lt_iff_toInt_lt, nI_toInt (by omega), nI_toInt (by omega)]; omega), fun _ => ⟨fun _ => ⟨hX.1, x + 1, hX.2.1, hX.k3, x + 2, hX.r0, hX.g.1.1, c_X0_countDead hX.g hz ⟨hX.1, x + 1, hX.2.1, hX.k3, x + 2, hX.r0, hX.g.1.1, c_X0_liveYears hX.g hz (by omega) (fun S1 c1 g1 => ?_)⟩⟩, fun c => absurd (by rw [show (60 : Int32) = nI 60 from rfl, Int32.le_iff_toInt_le, nI_toInt (by omega), nI_toInt (by omega)]; omega) c⟩⟩
    have h1 : XR S1 x sz (vg v (yyears sz n (v 8, mfv v))) := by
      refine hX.of c1.1 (hX.2.2.guild c1 ?_ hz (by rw [vg_o _ (by omega) (by omega)]; exact hX.v0) (fun j p0 p8 pj => vg_o _ p8 pj))
      rw [vg_8]
      exact g1.cong (fun i hi f hf => (vg_m _ hi hf).symm)
    refine ⟨h1.1, x + 1, h1.2.1, h1.k3, x + 2, h1.r0, h1.g.1.1, c_X0_countDead g1 hz ?_⟩
    have hM := hP.2.1.keep c1 (by omega)
    refine U_X11_years (by first | exact hM.k | exact hM1.k | exact hP.2.1.k | exact h.2.2.1.1 | exact h.1.1 | exact g1.1.1 | exact g3.1.1 | exact gm.1.1 | exact h2.1.1 | exact hM2.k | (rw [c1.1.1]; exact hP.2.1.k)) ⟨fun c => absurd (hj.symm.trans c) (by decide), fun _ => l_X11_years (n := n) (v := v) (by omega) hX.v0 hz n 0 (v 8, mfv v) 0 S1 (by omega) ⟨hM.1, fun j => (hM.2 j).trans (vg_self j).symm⟩ (fun j hj hb => by rw [vg_self]; exact hP.2.2 j hj hb) (fun S2 c2 h2 g2 => ?_)⟩
    exact ⟨(Int32.zero_add _).symm, (jfr.realm c1 (by omega) (by omega)).trans (jfr.row c2), tkOf hP.2.1 h2 (fun j hj => vg_o _ (by omega) (by omega)), sz, _, h1.of c2.1 (h1.2.2.keep c2 (by omega)), h2, g2⟩
  · have bad : jFm E mX11_years (d + 3) (x + 94) [.int w] S (fun r' S2 => PO S x kBAD r' S2) := U_X11_years (by first | exact hM.k | exact hM1.k | exact hP.2.1.k | exact h.2.2.1.1 | exact h.1.1 | exact g1.1.1 | exact g3.1.1 | exact gm.1.1 | exact h2.1.1 | exact hM2.k | (rw [c1.1.1]; exact hP.2.1.k)) ⟨fun _ => hP.same, fun c => absurd hj c⟩
    refine T_X10_years ⟨fun _ => bad, fun c1 => ⟨fun c2 => ?_, fun _ => bad⟩⟩
    exfalso
    rw [show (1 : Int32) = nI 1 from rfl, Int32.lt_iff_toInt_lt, nI_toInt (by omega)] at c1
    obtain ⟨j, hj, e⟩ := jofI (x := w) (n := 61) (by omega) (by rw [Int32.le_iff_toInt_le]; show (0 : Int) ≤ _; omega) (by rw [show (60 : Int32) = nI 60 from rfl, Int32.le_iff_toInt_le, nI_toInt (by omega)] at c2; rw [Int32.lt_iff_toInt_lt, nI_toInt (by omega)]; omega)
    rw [e, nI_toInt (by omega)] at c1
    exact hw j (by omega) (by omega) e
end jYears
end
section
/-! THE START: both sides stand alike when they are made -/
section jStart
variable {S : jM} {x : Nat}
theorem Rg_start : Rg 0 v0 := by
  intro j _ hb
  unfold v0
  by_cases h5 : j = 5
  · subst h5; exact ⟨100, by decide, rfl⟩
  · rw [if_neg h5]
    by_cases h8 : j = 8
    · subst h8; exact absurd rfl hb
    · rw [if_neg h8]; exact ⟨0, Nat.pos_of_ne_zero hb, rfl⟩
theorem PI_start (h1 : CL S x) (h2 : CN S x) (h3 : ML S (x + 94)) (h4 : MN S (x + 94)) : PI S x 0 v0 :=
  ⟨⟨h1.1, h1.2.1.1, h2.1⟩, ⟨h3, h4.2.1⟩, Rg_start⟩
/-- what is fresh stays while later objects are made -/
theorem CL.grow {S' : jM} (h : CL S x) (hc : ∀ y, x ≤ y → y < x + 94 → jcs S S' y) : CL S' x := by
  obtain ⟨a1, ⟨r0, r1, r3, r4, r5, r6, r7, r8⟩, a2, a3, ⟨b1, b2, b3⟩, ⟨c1, c2, c3⟩, ⟨d1, d2⟩, e1, e2⟩ := h
  have cx := hc x (by omega) (by omega)
  have c63 := hc (x + 63) (by omega) (by omega)
  have c64 := hc (x + 64) (by omega) (by omega)
  have c65 := hc (x + 65) (by omega) (by omega)
  have rr := cx.2.2.2
  refine ⟨by rw [cx.1]; exact a1, ⟨by rw [rr]; exact r0, by rw [rr]; exact r1, by rw [rr]; exact r3, by rw [rr]; exact r4, by rw [rr]; exact r5, by rw [rr]; exact r6, by rw [rr]; exact r7, by rw [rr]; exact r8⟩, a2.grow (fun y p q => hc y (by omega) (by omega)), a3.grow (fun y p q => hc y (by omega) (by omega)), ⟨by rw [c63.1]; exact b1, by rw [c63.2.1]; exact b2, fun i hi => by rw [c63.2.2.2]; exact b3 i hi⟩, ⟨by rw [c64.1]; exact c1, by rw [c64.2.1]; exact c2, fun i hi => by rw [c64.2.2.2]; exact c3 i hi⟩, ⟨by rw [c65.1]; exact d1, by rw [c65.2.1]; exact d2⟩, fun i hi => ?_, fun i hi => (e2 i hi).grow (fun y p q => hc y (by omega) (by omega))⟩
  obtain ⟨s1, s2, s3, s4⟩ := e1 i hi
  have p1 := hc (x + 66 + 2 * i) (by omega) (by omega)
  have p2 := hc (x + 67 + 2 * i) (by omega) (by omega)
  exact ⟨by rw [p1.1]; exact s1, by rw [p1.2.2.2]; exact s2, by rw [p2.1]; exact s3, by rw [p2.2.1]; exact s4⟩
theorem CN.grow {S' : jM} (h : CN S x) (hc : ∀ y, x ≤ y → y < x + 94 → jcs S S' y) : CN S' x := by
  obtain ⟨a1, a2, a3, a4, a5, a6, a7, a8, a9, a10⟩ := h
  refine ⟨a1.grow (fun y p q => hc y (by omega) (by omega)), a2.grow (fun y p q => hc y (by omega) (by omega)), fun i hi => ?_, fun i hi => ?_, a5.grow (fun y p q => hc y (by omega) (by omega)), fun j => ?_, fun j => ?_, fun i hi => ?_, fun i hi => ?_, ?_⟩
  · rw [(hc (x + 20) (by omega) (by omega)).2.2.2]; exact a3 i hi
  · rw [(hc (x + 40) (by omega) (by omega)).2.2.2]; exact a4 i hi
  · rw [(hc (x + 60) (by omega) (by omega)).2.2.1]; exact a6 j
  · rw [(hc (x + 61) (by omega) (by omega)).2.2.1]; exact a7 j
  · rw [(hc (x + 66 + 2 * i) (by omega) (by omega)).2.2.1, (hc (x + 67 + 2 * i) (by omega) (by omega)).2.2.1]; exact a8 i hi
  · rw [(hc (x + 74 + 4 * i) (by omega) (by omega)).2.2.1]; exact a9 i hi
  · rw [(hc x (by omega) (by omega)).2.2.1]; exact a10
end jStart
end
section
/-! WHAT IS TAUGHT, and the row laid by and back, by the reference -/
section jClose
variable {E : jEnv} {d : Nat} {S : jM} {x m sz : Nat} {v : Nat → Int32}
theorem c_X11_taughtNow {Q : Int32 → jM → Prop} (hM : MR S m v) (h0 : v 0 = nI sz) (hz : sz ≤ 9) (h : Q (mtaught (mfv v) sz) S) : jFi E mX11_taughtNow (d + 1) 0 0 [.ref m] S Q := by
  have i0 := hM.at (i := 0) 0 rfl (by omega)
  have key : ∀ (n i : Nat) (a : Int32), i + n = sz → Q (jfold (fun i a => if mfv v i 6 = 0 then a ||| jshl 1 (mfv v i 2) else a ||| 0) n i a) S → L_X11_taughtNow_4 E d Q m a (nI i) S := by
    intro n
    induction n with
    | zero =>
      intro i a hi hh
      obtain rfl : i = sz := by omega
      exact T_X11_taughtNow_4 ⟨hM.k, _, hM.r, hM.k1, i0.1, fun _ => hh, fun cc => absurd (by rw [i0.2, h0]; exact Int32.le_rfl) cc⟩
    | succ n ih =>
      intro i a hi hh
      unfold jfold at hh
      refine T_X11_taughtNow_4 ⟨hM.k, _, hM.r, hM.k1, i0.1, fun cc => absurd cc ?_, fun _ => c_X11_of (f := 6) hM (by omega) (by omega) ⟨fun c6 => ⟨hM.k, c_X11_of (f := 2) hM (by omega) (by omega) ?_⟩, fun c6 => ?_⟩⟩
      · rw [i0.2, h0, Int32.le_iff_toInt_le, nI_toInt (by omega), nI_toInt (by omega)]; omega
      · rw [nI_1]
        rw [if_pos c6] at hh
        exact ih (i + 1) _ (by omega) hh
      · rw [nI_1]
        rw [if_neg c6] at hh
        exact ih (i + 1) _ (by omega) hh
  exact T_X11_taughtNow (key sz 0 0 (by omega) h)
theorem ML.close (h : ML S m) : jr S m 13 = some (m + 13) ∧ jk S (m + 13) = 12 ∧ jl S (m + 13) = 135 := by
  have := h.2 12 (13, 135) rfl
  rw [show m + 1 + 12 = m + 13 by omega] at this
  exact this
theorem c_X11_laysBy {Q : jM → Prop} (hM : MR S m v) (h : ∀ S', jch S S' (m + 13) (m + 14) → MR S' m v → (∀ j, j < 135 → ji S' (m + 13) j = v j) → Q S') : jFv E mX11_laysBy d 0 0 [.ref m] S Q := by
  have key : ∀ (n i : Nat) (S1 : jM), i + n = 135 → jch S S1 (m + 13) (m + 14) → MR S1 m v → (∀ j, j < i → ji S1 (m + 13) j = v j) → L_X11_laysBy_2 E d Q m (nI i) S1 := by
    intro n
    induction n with
    | zero =>
      intro i S1 hi c1 h1 hr
      obtain rfl : i = 135 := by omega
      exact T_X11_laysBy_2 ⟨fun _ => h S1 c1 h1 hr, fun cc => absurd (by decide) cc⟩
    | succ n ih =>
      intro i S1 hi c1 h1 hr
      obtain ⟨f1, f2, f3⟩ := h1.1.close
      obtain ⟨a1, a2⟩ := h1.at (i := nI i) i rfl (by omega)
      refine T_X11_laysBy_2 ⟨fun cc => absurd cc (nI_ge (b := 135) (by omega) (by omega)), fun _ => ⟨h1.k, _, f1, _, h1.r, h1.k1, a1, f2, by rw [f3]; exact jin_nI (by omega) (by omega), ?_⟩⟩
      rw [a2, jcl (by omega), nI_1]
      have c2 : jch S1 (jput S1 (m + 13) i (v i)) (m + 13) (m + 14) := jch.put (by omega) (by omega)
      refine ih (i + 1) _ (by omega) (c1.trans c2) (h1.keep c2 (by omega)) (fun j hj => ?_)
      rw [ji_put]
      by_cases hji : j = i
      · rw [if_pos ⟨rfl, hji⟩, hji]
      · rw [if_neg (fun c => hji c.2)]; exact hr j (by omega)
  exact T_X11_laysBy (key 135 0 S (by omega) jch.rfl hM (fun j hj => absurd hj (by omega)))
theorem c_X11_laysBack {Q : jM → Prop} {u : Nat → Int32} (hM : MR S m u) (hr : ∀ j, j < 135 → ji S (m + 13) j = v j) (h : ∀ S', jch S S' (m + 1) (m + 2) → MR S' m (fun j => if j < 135 then v j else u j) → Q S') : jFv E mX11_laysBack d 0 0 [.ref m] S Q := by
  have key : ∀ (n i : Nat) (S1 : jM), i + n = 135 → jch S S1 (m + 1) (m + 2) → MR S1 m (fun j => if j < i then v j else u j) → L_X11_laysBack_2 E d Q m (nI i) S1 := by
    intro n
    induction n with
    | zero =>
      intro i S1 hi c1 h1
      obtain rfl : i = 135 := by omega
      exact T_X11_laysBack_2 ⟨fun _ => h S1 c1 h1, fun cc => absurd (by decide) cc⟩
    | succ n ih =>
      intro i S1 hi c1 h1
      obtain ⟨f1, f2, f3⟩ := h1.1.close
      obtain ⟨a1, -⟩ := h1.at (i := nI i) i rfl (by omega)
      refine T_X11_laysBack_2 ⟨fun cc => absurd cc (nI_ge (b := 135) (by omega) (by omega)), fun _ => ⟨h1.k, _, h1.r, _, f1, f2, by rw [f3]; exact jin_nI (by omega) (by omega), h1.k1, a1, ?_⟩⟩
      rw [jcl (by omega), nI_1, c1.2 (m + 13) (by omega), hr i (by omega)]
      have h2 := h1.put (n := i) (w := v i)
      refine ih (i + 1) _ (by omega) (c1.trans (jch.put (by omega) (by omega))) ⟨h2.1, fun j => (h2.2 j).trans ?_⟩
      by_cases hji : j = i
      · subst hji; rw [upd_at]; show v j = if j < j + 1 then v j else u j; rw [if_pos (by omega)]
      · rw [upd_ne _ hji]
        show (if j < i then v j else u j) = if j < i + 1 then v j else u j
        by_cases hl : j < i
        · rw [if_pos hl, if_pos (by omega)]
        · rw [if_neg hl, if_neg (by omega)]
  exact T_X11_laysBack (key 135 0 S (by omega) jch.rfl ⟨hM.1, fun j => (hM.2 j).trans (by show u j = if j < 0 then v j else u j; rw [if_neg (by omega)])⟩)
end jClose
end
section
/-! CAN the chair be made, on both sides -/
theorem jbitF : ∀ k : Fin 1024, ∀ g : Fin 10, (jshl 1 (nI g.val) &&& (nI k.val ^^^ (-1)) = 0) = ¬ (nI k.val &&& jshl 1 (nI g.val) = 0) := by decide +kernel
def jcanF (kn : Int32) (wf : Nat → Int32) : Nat → Nat → Int32
  | 0, _ => 1
  | n + 1, i => if jable kn (wf i) = 0 then 0 else jcanF kn wf n (i + 1)
theorem j_or_and (a b c : Int32) : ((a ||| b) &&& c = 0) ↔ (a &&& c = 0 ∧ b &&& c = 0) := by
  have e : (a ||| b) &&& c = (a &&& c) ||| (b &&& c) := by
    apply Int32.toBitVec_inj.mp
    show (a.toBitVec ||| b.toBitVec) &&& c.toBitVec = (a.toBitVec &&& c.toBitVec) ||| (b.toBitVec &&& c.toBitVec)
    ext i
    simp [Bool.and_or_distrib_right]
  rw [e]
  have z : ∀ p q : Int32, (p ||| q = 0) ↔ (p = 0 ∧ q = 0) := by
    intro p q
    have h : ∀ p : Int32, p = 0 ↔ p.toBitVec = 0#32 := fun p => ⟨fun h => by rw [h]; rfl, fun h => Int32.toBitVec_inj.mp h⟩
    rw [h, h, h]
    show (p.toBitVec ||| q.toBitVec = 0#32) ↔ _
    exact BitVec.or_eq_zero_iff
  exact z _ _
theorem jcan_set {kn : Int32} {wf : Nat → Int32} (hk : ∃ k, k < 1024 ∧ kn = nI k) : ∀ (n i : Nat) (a : Int32), (∀ j, j < i + n → ∃ g, g < 10 ∧ wf j = nI g) → ((jfold (fun i a => a ||| jshl 1 (wf i)) n i a &&& (kn ^^^ (-1)) = 0) ↔ (a &&& (kn ^^^ (-1)) = 0 ∧ jcanF kn wf n i = 1))
  | 0, i, a, _ => ⟨fun h => ⟨h, rfl⟩, fun h => h.1⟩
  | n + 1, i, a, hw => by
    show (jfold (fun i a => a ||| jshl 1 (wf i)) n (i + 1) (a ||| jshl 1 (wf i)) &&& (kn ^^^ (-1)) = 0) ↔ _
    rw [jcan_set hk n (i + 1) _ (fun j hj => hw j (by omega)), j_or_and]
    obtain ⟨k, hk, rfl⟩ := hk
    obtain ⟨g, hg, e⟩ := hw i (by omega)
    have hb := jbitF ⟨k, hk⟩ ⟨g, hg⟩
    have ej : jcanF (nI k) wf (n + 1) i = if jable (nI k) (wf i) = 0 then 0 else jcanF (nI k) wf n (i + 1) := rfl
    rw [ej, e, jable_at hg, hb]
    by_cases hz : nI k &&& jshl 1 (nI g) = 0
    · simp [hz]
    · simp [hz]
section jCan
variable {E : jEnv} {d : Nat} {S : jM} {x m sz : Nat} {v : Nat → Int32}
theorem jcanF01 (kn : Int32) (wf : Nat → Int32) : ∀ n i, jcanF kn wf n i = 0 ∨ jcanF kn wf n i = 1
  | 0, _ => Or.inr rfl
  | n + 1, i => by
    unfold jcanF
    split
    · exact Or.inl rfl
    · exact jcanF01 kn wf n (i + 1)
theorem c_X11_can {Q : Int32 → jM → Prop} {w : Nat} (hM : MR S m v) (hg : Rg sz v) (hw : w < 7) (e7 : v 7 = nI w) (h : Q (jcanF (v 4) (fun i => v (9 + i)) w 0) S) : jFi E mX11_can (d + 1) 0 0 [.ref m] S Q := by
  have i7 := hM.at (i := 7) 7 rfl (by omega)
  have key : ∀ (n i : Nat), i + n = w → Q (jcanF (v 4) (fun i => v (9 + i)) n i) S → L_X11_can_2 E d Q m (nI i) S := by
    intro n
    induction n with
    | zero =>
      intro i hi hh
      obtain rfl : i = w := by omega
      exact T_X11_can_2 ⟨hM.k, _, hM.r, hM.k1, i7.1, fun _ => hh, fun cc => absurd (by rw [i7.2, e7]; exact Int32.le_rfl) cc⟩
    | succ n ih =>
      intro i hi hh
      obtain ⟨a1, a2⟩ := hM.at (i := 9 + nI i) (9 + i) (nI_add 9 i) (by omega)
      obtain ⟨g, hg10, eg⟩ := hg.wd i (by omega)
      refine T_X11_can_2 ⟨hM.k, _, hM.r, hM.k1, i7.1, fun cc => absurd cc ?_, fun _ => ⟨a1, ?_⟩⟩
      · rw [i7.2, e7, Int32.le_iff_toInt_le, nI_toInt (by omega), nI_toInt (by omega)]; omega
      · rw [a2, eg]
        unfold jcanF at hh
        simp only [eg] at hh
        refine c_X11_doesKnow hM hg.kn hg10 ⟨fun c => ?_, fun c => ?_⟩
        · rw [if_pos c] at hh; exact hh
        · rw [if_neg c] at hh; rw [nI_1]; exact ih (i + 1) (by omega) hh
  exact T_X11_can (key w 0 (by omega) h)
theorem c_X3_can {Q : Int32 → jM → Prop} {r w : Nat} (hR : RmR S r sz v) (hg : Rg sz v) (hw : w < 7) (e7 : v 7 = nI w) (h : Q (jcanF (v 4) (fun i => v (9 + i)) w 0) S) : jFi E mX3_canMakeChair (d + 1) 0 0 [.ref r] S Q := by
  obtain ⟨a0, a1, a2, a3, a4, a5, a6, a7, a8⟩ := hR
  have key : ∀ (Q' : Int32 → jM → Prop) (n i : Nat) (a : Int32), i + n = w → Q' (jfold (fun i a => a ||| jshl 1 (v (9 + i))) n i a) S → L_X3_wishedSet_4 E d Q' r a (nI i) S := by
    intro Q' n
    induction n with
    | zero =>
      intro i a hi hh
      obtain rfl : i = w := by omega
      exact T_X3_wishedSet_4 ⟨a0.1, fun _ => hh, fun cc => absurd (by rw [a6, e7]; exact Int32.le_rfl) cc⟩
    | succ n ih =>
      intro i a hi hh
      refine T_X3_wishedSet_4 ⟨a0.1, fun cc => absurd cc ?_, fun _ => ⟨fun c6 => absurd c6 (nI_ge (b := 6) (by omega) (by omega)), fun _ => ⟨r + 18, a0.2.2.2.2.1, a0.2.2.2.2.2.2.1, by rw [a0.2.2.2.2.2.2.2.1]; exact jin_nI (by omega) (by omega), ?_⟩⟩⟩
      · rw [a6, e7, Int32.le_iff_toInt_le, nI_toInt (by omega), nI_toInt (by omega)]; omega
      · rw [jcl (by omega), a7 i (by omega), nI_1]
        exact ih (i + 1) _ (by omega) hh
  refine T_X3_canMakeChair ⟨a0.1, T_X3_wishedSet (key _ w 0 0 (by omega) ⟨a0.1, r + 15, a0.2.2.2.1, a5.1.1, ?_⟩)⟩
  rw [a5.2.2.1]
  have hs := jcan_set (kn := v 4) (wf := fun i => v (9 + i)) hg.kn w 0 0 (fun j hj => hg.wd j (by omega))
  refine ⟨fun c => ?_, fun c => ?_⟩
  · rw [(hs.mp c).2] at h; exact h
  · rcases jcanF01 (v 4) (fun i => v (9 + i)) w 0 with e | e
    · rw [e] at h; exact h
    · exact absurd (hs.mpr ⟨by rw [Int32.zero_and], e⟩) c
end jCan
end
