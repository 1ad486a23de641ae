/-! numbers' words -/
theorem jle {a b : Nat} (h : Nat.ble a b = true) : a ≤ b := Nat.le_of_ble_eq_true h
def jrem (x y : Int32) : Int32 := x - x / y * y
def jshl (x y : Int32) : Int32 := x <<< (y &&& 31)
def jshr (x y : Int32) : Int32 := x >>> (y &&& 31)
def jushr (x y : Int32) : Int32 := (x.toUInt32 >>> (y.toUInt32 &&& Int32.toUInt32 31)).toInt32
def jmin (x y : Int32) : Int32 := if y < x then y else x
def jmax (x y : Int32) : Int32 := if x < y then y else x
def jabs (x : Int32) : Int32 := if 0 ≤ x then x else 0 - x
def jchar (x : Int32) : Int32 := (x.toUInt32 % 65536).toInt32
/-- the table ABOVE -/
def jab (x : Int32) : Int32 := ([-1, 0, 0, 1, 2, 0] : List Int32).getD x.toNatClampNeg 0
theorem jb_nar {v : Int32} (h : v = 0 ∨ v = 1) : narrow .boolean (.int v) = .int v := by rcases h with rfl | rfl <;> decide
theorem jb_fit {v : Int32} (h : v = 0 ∨ v = 1) : fits .boolean (.int v) = true := by rcases h with rfl | rfl <;> decide
/-! the memory's words -/
theorem jne {S : jM} {a b x y : Nat} (ha : jk S a = x) (hb : jk S b = y) (h : x ≠ y) : a ≠ b := fun e => h (by rw [← ha, ← hb, e])
theorem jk_put (S : jM) (a j : Nat) (v : Int32) : jk (jput S a j v) = jk S := rfl
theorem jl_put (S : jM) (a j : Nat) (v : Int32) : jl (jput S a j v) = jl S := rfl
theorem jr_put (S : jM) (a j : Nat) (v : Int32) : jr (jput S a j v) = jr S := rfl
theorem jn_put (S : jM) (a j : Nat) (v : Int32) : jn (jput S a j v) = jn S := rfl
theorem ji_put (S : jM) (a j : Nat) (v : Int32) (b i : Nat) : ji (jput S a j v) b i = if b = a ∧ i = j then v else ji S b i := by
  by_cases h : b = a
  · subst h
    by_cases hi : i = j
    · simp [ji, jput, jrow, va_up, upd, hi]
    · simp [ji, jput, jrow, va_up, upd, hi]
  · simp [ji, jput, jrow, va_up, h]
theorem ji_put_same (S : jM) (a j : Nat) (v : Int32) : ji (jput S a j v) a j = v := by simp [ji_put]
theorem ji_put_ne (S : jM) (a j : Nat) (v : Int32) {b : Nat} (h : b ≠ a) : ji (jput S a j v) b = ji S b := by funext i; simp [ji_put, h]
theorem jk_row (S : jM) (a : Nat) (f : Nat → Int32) : jk (jrow S a f) = jk S := rfl
theorem jl_row (S : jM) (a : Nat) (f : Nat → Int32) : jl (jrow S a f) = jl S := rfl
theorem jr_row (S : jM) (a : Nat) (f : Nat → Int32) : jr (jrow S a f) = jr S := rfl
theorem jn_row (S : jM) (a : Nat) (f : Nat → Int32) : jn (jrow S a f) = jn S := rfl
theorem ji_row (S : jM) (a : Nat) (f : Nat → Int32) (b : Nat) : ji (jrow S a f) b = if b = a then f else ji S b := by
  by_cases h : b = a <;> simp [ji, jrow, va_up, h]
theorem ji_row_same (S : jM) (a : Nat) (f : Nat → Int32) : ji (jrow S a f) a = f := by simp [ji_row]
theorem ji_row_ne (S : jM) (a : Nat) (f : Nat → Int32) {b : Nat} (h : b ≠ a) : ji (jrow S a f) b = ji S b := by simp [ji_row, h]
theorem jput_eq (S : jM) (a j : Nat) (v : Int32) : jput S a j v = jrow S a (upd (ji S a) j v) := rfl
theorem jrow_row (S : jM) (a : Nat) (f g : Nat → Int32) : jrow (jrow S a f) a g = jrow S a g := by
  unfold jrow
  congr 3
  funext x
  by_cases h : x = a <;> simp [va_up, h]
theorem jrow_self (S : jM) (a : Nat) : jrow S a (ji S a) = S := by
  obtain ⟨k, l, i, r, n⟩ := S
  show (k, l, va_up i a (i a), r, n) = _
  congr 3
  funext x
  by_cases h : x = a <;> simp [va_up, h]
theorem jrow_comm (S : jM) {a b : Nat} (h : a ≠ b) (f g : Nat → Int32) : jrow (jrow S a f) b g = jrow (jrow S b g) a f := by
  unfold jrow
  congr 3
  funext x
  by_cases h1 : x = a
  · subst h1; simp [va_up, h]
  · by_cases h2 : x = b
    · subst h2; simp [va_up, h1]
    · simp [va_up, h1, h2]
theorem jk_putr (S : jM) (a j : Nat) (v : Option Nat) : jk (jputr S a j v) = jk S := rfl
theorem jl_putr (S : jM) (a j : Nat) (v : Option Nat) : jl (jputr S a j v) = jl S := rfl
theorem ji_putr (S : jM) (a j : Nat) (v : Option Nat) : ji (jputr S a j v) = ji S := rfl
theorem jn_putr (S : jM) (a j : Nat) (v : Option Nat) : jn (jputr S a j v) = jn S := rfl
theorem jr_putr (S : jM) (a j : Nat) (v : Option Nat) (b i : Nat) : jr (jputr S a j v) b i = if b = a ∧ i = j then v else jr S b i := by
  by_cases h : b = a
  · subst h
    by_cases hi : i = j
    · simp [jr, jputr, va_up, hi]
    · simp [jr, jputr, va_up, hi]
  · simp [jr, jputr, va_up, h]
theorem jn_new (S : jM) (k n : Nat) : jn (jnew S k n) = jn S + 1 := rfl
theorem jk_newE (S : jM) (k n a : Nat) : jk (jnew S k n) a = if a = jn S then k else jk S a := rfl
theorem jl_newE (S : jM) (k n a : Nat) : jl (jnew S k n) a = if a = jn S then n else jl S a := rfl
theorem ji_newE (S : jM) (k n a : Nat) : ji (jnew S k n) a = if a = jn S then (fun _ => 0) else ji S a := rfl
theorem jr_newE (S : jM) (k n a : Nat) : jr (jnew S k n) a = if a = jn S then (fun _ => none) else jr S a := rfl
