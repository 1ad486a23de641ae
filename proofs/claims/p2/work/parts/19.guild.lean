/-! MASTERS AND THE GUILD (class): a guild at g has its row at g + 1, its masters at g + 2 .. g + 10 -/
def GL (S : jM) (g : Nat) : Prop := jk S g = 0 ∧ jr S g 0 = some (g + 1) ∧ jk S (g + 1) = 13 ∧ jl S (g + 1) = 9 ∧ ∀ i, i < 9 → jr S (g + 1) i = some (g + 2 + i) ∧ jk S (g + 2 + i) = 2
section jGuild
variable {E : jEnv} {d : Nat} {S : jM} {g : Nat} {sz : Nat}
theorem c_X0_find {Q : Option Nat → jM → Prop} {x : Int32} (hG : GL S g) (hs : ji S g 1 = nI sz) (hz : sz ≤ 9) (h1 : ∀ n, n < sz → x = nI n → Q (some (g + 2 + n)) S) (h2 : (∀ n, n < sz → x ≠ nI n) → Q none S) : jFr E mX0_find (d + 1) 0 0 [.ref g, .int x] S Q := by
  obtain ⟨k1, k2, k3, k4, k5⟩ := hG
  refine T_X0_find ⟨k1, ?_⟩
  rw [hs]
  rcases jwi_cases x sz rfl (by omega) with ⟨n, hn, rfl, e⟩ | ⟨hn, e⟩
  · rw [e]
    refine ⟨fun c => absurd c (by decide), fun _ => ⟨fun c => ?_, fun _ => ?_⟩⟩
    · exact absurd c (nI_ge (b := 9) (by omega) (by omega))
    · refine ⟨g + 1, k2, k3, ?_, g + 2 + n, ?_, h1 n hn rfl⟩
      · rw [k4]; exact jin_nI (by omega) (by omega)
      · rw [jcl (by omega)]; exact (k5 n (by omega)).1
  · rw [e]
    exact ⟨fun _ => h2 hn, fun c => absurd rfl c⟩
theorem c_X0_findAt {Q : Option Nat → jM → Prop} {n : Nat} (hG : GL S g) (hs : ji S g 1 = nI sz) (hz : sz ≤ 9) (hn : n < sz) (h : Q (some (g + 2 + n)) S) : jFr E mX0_find (d + 1) 0 0 [.ref g, .int (nI n)] S Q :=
  c_X0_find hG hs hz (fun k hk e => by rw [nI_inj (a := n) (b := k) (by omega) (by omega) e] at h; exact h) (fun hh => absurd rfl (hh n hn))
/-- what a master is made of, as a row -/
def mrow (f : Nat → Int32) (kind town gesture bars fee age dead : Int32) : Nat → Int32 := upd (upd (upd (upd (upd (upd (upd f 0 kind) 1 town) 2 gesture) 3 bars) 4 fee) 5 age) 6 dead
theorem c_X2_begin {Q : jM → Prop} {a : Nat} {x1 x2 x3 x4 : Int32} (hk : jk S a = 2) (h : Q (jrow S a (mrow (ji S a) x1 x2 x3 0 x4 40 0))) : jFv E mX2_begin d 0 0 [.ref a, .int x1, .int x2, .int x3, .int x4] S Q := by
  refine T_X2_begin ⟨hk, ?_⟩
  have e : jput (jput (jput (jput (jput (jput (jput S a 0 x1) a 1 x2) a 2 x3) a 4 x4) a 3 0) a 5 40) a 6 0 = jrow S a (mrow (ji S a) x1 x2 x3 0 x4 40 0) := by
    simp only [jput_eq, jrow_row, ji_row_same]
    congr 1
    funext i
    simp only [mrow, upd]
    repeat' split
    all_goals first | rfl | omega
  rw [e]; exact h
theorem c_X2_become {Q : jM → Prop} {a a1 : Nat} (hk : jk S a = 2) (hk1 : jk S a1 = 2) (hd : ji S a1 6 = 0 ∨ ji S a1 6 = 1) (h : Q (jrow S a (mrow (ji S a) (ji S a1 0) (ji S a1 1) (ji S a1 2) (ji S a1 3) (ji S a1 4) (ji S a1 5) (ji S a1 6)))) : jFv E mX2_become d 0 0 [.ref a, .ref a1] S Q := by
  refine T_X2_become ⟨hk1, hk, hd, ?_⟩
  simp only [jput_eq, jrow_row, ji_row_same]
  exact h
/-- what a master answers -/
def jteach (kind bars known : Int32) : Int32 := if kind = 2 then 1 else if kind = 3 then (if jbc (bars &&& known) = 0 then (if jbc known < 3 then 0 else 1) else 0) else if kind = 4 then 1 else if kind = 5 then (if 1 < jbc (bars &&& known) then 0 else 1) else (if jbc (bars &&& known) = 0 then 1 else 0)
def junl (kind bars : Int32) : Int32 := if kind = 2 then bars else 0
def jworth (kind fee : Int32) : Int32 := if kind = 1 then fee + 11 else if kind = 2 then 99 - fee else if kind = 3 then 2 * (fee + 11) else if kind = 4 then 99 - fee - 4 else if kind = 5 then 8 else fee
def jdays (kind age p : Int32) : Int32 := if kind = 1 then 2 * p else if kind = 2 then jmax 1 (p - 1) else if kind = 3 then 2 * p + age / 10 else if kind = 4 then jmax 1 (jmax 1 (p - 1) / 2) else if kind = 5 then 1 else p
theorem c_X2_teaches {Q : Int32 → jM → Prop} {a : Nat} {x1 : Int32} (hk : jk S a = 2) (h : Q (jteach (ji S a 0) (ji S a 3) x1) S) : jFi E mX2_teaches (d + 1) 0 0 [.ref a, .int x1] S Q :=
  T_X2_teaches ⟨hk, by unfold jteach at h; (repeat' first | apply And.intro | intro _) <;> simp_all⟩
theorem c_X2_unlearnt {Q : Int32 → jM → Prop} {a : Nat} (hk : jk S a = 2) (h : Q (junl (ji S a 0) (ji S a 3)) S) : jFi E mX2_unlearnt d 0 0 [.ref a] S Q :=
  T_X2_unlearnt ⟨hk, by unfold junl at h; (repeat' first | apply And.intro | intro _) <;> simp_all⟩
theorem c_X2_worth {Q : Int32 → jM → Prop} {a : Nat} (hk : jk S a = 2) (h : Q (jworth (ji S a 0) (ji S a 4)) S) : jFi E mX2_worth d 0 0 [.ref a] S Q :=
  T_X2_worth ⟨hk, by unfold jworth at h; (repeat' first | apply And.intro | intro _) <;> simp_all⟩
theorem c_X2_daysFrom {Q : Int32 → jM → Prop} {a : Nat} {x1 : Int32} (hk : jk S a = 2) (h : Q (jdays (ji S a 0) (ji S a 5) x1) S) : jFi E mX2_daysFrom (d + 1) 0 0 [.ref a, .int x1] S Q :=
  T_X2_daysFrom ⟨hk, by unfold jdays at h; (repeat' first | apply And.intro | intro _) <;> simp_all⟩
theorem jteach01 (k b n : Int32) : jteach k b n = 0 ∨ jteach k b n = 1 := by
  unfold jteach
  repeat' split
  all_goals first | exact Or.inl rfl | exact Or.inr rfl
/-- a draw -/
def jlot (z : Int32) : Int32 := z * 1103515245 + 12345
theorem c_X0_draw {Q : Int32 → jM → Prop} (hk : jk S g = 0) (h : Q (jushr (jlot (ji S g 2)) 8) (jput S g 2 (jlot (ji S g 2)))) : jFi E mX0_draw d 0 0 [.ref g] S Q :=
  T_X0_draw ⟨hk, h⟩
end jGuild
