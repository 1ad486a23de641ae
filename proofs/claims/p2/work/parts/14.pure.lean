/-! LEAVES that are plain functions of their arguments -/
def jwi (v b : Int32) : Int32 := if v < 0 then 0 else if b ≤ v then 0 else 1
def jbc (x : Int32) : Int32 :=
  let y1 := ((x - ((jushr x 1) &&& 1431655765)) &&& 858993459) + ((jushr (x - ((jushr x 1) &&& 1431655765)) 2) &&& 858993459)
  let y2 := (((y1 + (jushr y1 4)) &&& 252645135) + (jushr ((y1 + (jushr y1 4)) &&& 252645135) 8)) + (jushr (((y1 + (jushr y1 4)) &&& 252645135) + (jushr ((y1 + (jushr y1 4)) &&& 252645135) 8)) 16)
  y2 &&& 63
def jisin (v lo hi : Int64) : Int32 := if lg_cmp v lo < 0 then 0 else if 0 < lg_cmp v hi then 0 else 1
def jornone (v : Int32) : Int32 := if 0 ≤ v then v else (-1000000005)
def jclamp (v lo hi : Int32) : Int32 := if lo ≤ v then (if v ≤ hi then v else hi) else lo
def joff (a b : Int32) : Int32 := if b ≤ a then a - b else b - a
def jisg (g : Int32) : Int32 := if g < 0 then 0 else if 10 ≤ g then 0 else 1
def jist (g : Int32) : Int32 := if g < 0 then 0 else if 6 ≤ g then 0 else 1
def jisof (own kind : Int32) : Int32 := if own = kind then 1 else if kind = 0 then 1 else if kind = 1 then (if own = 3 then 1 else 0) else if kind = 2 then (if own = 4 then 1 else 0) else 0
def jtextat (t : Int32) : Int32 := 135 + 200 * t
def jjoinM (s x y : Int32) : Int32 :=
  if s = 38 then (if x = 0 then 0 else if y = 0 then 0 else 1) else if s = 42 then x * y else if s = 43 then x + y else if s = 45 then x - y
  else if s = 47 then (if y = 0 then 0 else if y = (-1) then -x else x / y) else if s = 60 then (if y ≤ x then 0 else 1) else if s = 61 then (if x = y then 1 else 0) else if s = 62 then (if x ≤ y then 0 else 1)
  else (if x = 0 then (if y = 0 then 0 else 1) else 1)
def jjoinC (s x y : Int32) : Int32 :=
  if s = 38 then (if x = 0 then 0 else if y = 0 then 0 else 1) else if s = 42 then x * y else if s = 43 then x + y else if s = 45 then x - y
  else if s = 60 then (if y ≤ x then 0 else 1) else if s = 61 then (if x = y then 1 else 0) else if s = 62 then (if x ≤ y then 0 else 1)
  else if s = 124 then (if x = 0 then (if y = 0 then 0 else 1) else 1) else (if y = 0 then 0 else x / y)
def jisname (key c : Int32) : Int32 := if key = 0 then (if c = 107 then 1 else if c = 103 then 1 else if c = 97 then 1 else 0) else if key = 1 then (if c = 102 then 1 else if c = 97 then 1 else 0) else (if c = 99 then 1 else if c = 100 then 1 else 0)
def jvalof (w x y z : Int32) : Int32 := if w = 10000 then x else if w = 10001 then y else if w = 10002 then z else w
theorem c_X10_within {E : jEnv} {d : Nat} {Q : Int32 → jM → Prop} {x0 x1 : Int32} {S : jM} (h : Q (jwi x0 x1) S) : jFi E mX10_within d 0 0 [.int x0, .int x1] S Q :=
  T_X10_within (by unfold jwi at h; (repeat' first | apply And.intro | intro _) <;> simp_all)
theorem c_J6_bitCount_0f7a4 {E : jEnv} {d : Nat} {Q : Int32 → jM → Prop} {x0 : Int32} {S : jM} (h : Q (jbc x0) S) : jFi E mJ6_bitCount_0f7a4 d 0 0 [.int x0] S Q :=
  T_J6_bitCount_0f7a4 (by intro y1 e1 y2 e2; subst e1; subst e2; exact h)
theorem c_X11_isIn {E : jEnv} {d : Nat} {Q : Int32 → jM → Prop} {x0 x2 x4 : Int64} {S : jM} (h : Q (jisin x0 x2 x4) S) : jFi E mX11_isIn d 0 0 [.long x0, .long x2, .long x4] S Q :=
  T_X11_isIn (by unfold jisin at h; (repeat' first | apply And.intro | intro _) <;> simp_all)
theorem c_X11_orNone {E : jEnv} {d : Nat} {Q : Int32 → jM → Prop} {x0 : Int32} {S : jM} (h : Q (jornone x0) S) : jFi E mX11_orNone d 0 0 [.int x0] S Q :=
  T_X11_orNone (by unfold jornone at h; (repeat' first | apply And.intro | intro _) <;> simp_all)
theorem c_X11_within {E : jEnv} {d : Nat} {Q : Int32 → jM → Prop} {x0 x1 x2 : Int32} {S : jM} (h : Q (jclamp x0 x1 x2) S) : jFi E mX11_within d 0 0 [.int x0, .int x1, .int x2] S Q :=
  T_X11_within (by unfold jclamp at h; (repeat' first | apply And.intro | intro _) <;> simp_all)
theorem c_X11_off {E : jEnv} {d : Nat} {Q : Int32 → jM → Prop} {x0 x1 : Int32} {S : jM} (h : Q (joff x0 x1) S) : jFi E mX11_off d 0 0 [.int x0, .int x1] S Q :=
  T_X11_off (by unfold joff at h; (repeat' first | apply And.intro | intro _) <;> simp_all)
theorem c_X11_isGesture {E : jEnv} {d : Nat} {Q : Int32 → jM → Prop} {x0 : Int32} {S : jM} (h : Q (jisg x0) S) : jFi E mX11_isGesture d 0 0 [.int x0] S Q :=
  T_X11_isGesture (by unfold jisg at h; (repeat' first | apply And.intro | intro _) <;> simp_all)
theorem c_X11_isTown {E : jEnv} {d : Nat} {Q : Int32 → jM → Prop} {x0 : Int32} {S : jM} (h : Q (jist x0) S) : jFi E mX11_isTown d 0 0 [.int x0] S Q :=
  T_X11_isTown (by unfold jist at h; (repeat' first | apply And.intro | intro _) <;> simp_all)
theorem c_X11_isOf {E : jEnv} {d : Nat} {Q : Int32 → jM → Prop} {x0 x1 : Int32} {S : jM} (h : Q (jisof x0 x1) S) : jFi E mX11_isOf d 0 0 [.int x0, .int x1] S Q :=
  T_X11_isOf (by unfold jisof at h; (repeat' first | apply And.intro | intro _) <;> simp_all)
theorem c_X11_textAt {E : jEnv} {d : Nat} {Q : Int32 → jM → Prop} {a0 : Nat} {x1 : Int32} {S : jM} (h : Q (jtextat x1) S) : jFi E mX11_textAt d 0 0 [.ref a0, .int x1] S Q := T_X11_textAt h
theorem c_X11_joined {E : jEnv} {d : Nat} {Q : Int32 → jM → Prop} {x0 x1 x2 : Int32} {S : jM} (h : Q (jjoinM x0 x1 x2) S) : jFi E mX11_joined d 0 0 [.int x0, .int x1, .int x2] S Q :=
  T_X11_joined (by unfold jjoinM at h; (repeat' first | apply And.intro | intro _) <;> simp_all)
theorem c_X9_joined {E : jEnv} {d : Nat} {Q : Int32 → jM → Prop} {x0 x1 x2 : Int32} {S : jM} (h : Q (jjoinC x0 x1 x2) S) : jFi E mX9_joined d 0 0 [.int x0, .int x1, .int x2] S Q :=
  T_X9_joined (by unfold jjoinC at h; (repeat' first | apply And.intro | intro _) <;> simp_all)
theorem c_X11_isName {E : jEnv} {d : Nat} {Q : Int32 → jM → Prop} {x0 x1 : Int32} {S : jM} (h : Q (jisname x0 x1) S) : jFi E mX11_isName d 0 0 [.int x0, .int x1] S Q :=
  T_X11_isName (by unfold jisname at h; (repeat' first | apply And.intro | intro _) <;> simp_all)
theorem c_X9_valueOf {E : jEnv} {d : Nat} {Q : Int32 → jM → Prop} {x0 x1 x2 x3 : Int32} {S : jM} (h : Q (jvalof x0 x1 x2 x3) S) : jFi E mX9_valueOf d 0 0 [.int x0, .int x1, .int x2, .int x3] S Q :=
  T_X9_valueOf (by unfold jvalof at h; (repeat' first | apply And.intro | intro _) <;> simp_all)
/-- how many bits, by taking the lowest away -/
def jmanyL : Nat → Int32 → Int32 → Int32
  | 0, n, _ => n
  | f + 1, n, x => if x = 0 then n else jmanyL f (n + 1) (x &&& (x - 1))
def jmany (x : Int32) : Int32 := jmanyL (x.toBitVec.toNat + 1) 0 x
theorem jmany_dec {x : Int32} (h : ¬ x = 0) : (x &&& (x - 1)).toBitVec.toNat < x.toBitVec.toNat := by
  have h0 : x.toBitVec.toNat ≠ 0 := by
    intro e
    apply h
    apply Int32.toBitVec_inj.mp
    apply BitVec.eq_of_toNat_eq
    rw [e]; rfl
  have h1 : (x - 1).toBitVec.toNat = x.toBitVec.toNat - 1 := by
    have e1 : (x - 1).toBitVec = x.toBitVec - 1#32 := rfl
    rw [e1, BitVec.toNat_sub]
    have hlt := x.toBitVec.isLt
    have e2 : (1#32).toNat = 1 := rfl
    rw [e2]
    omega
  have h2 : (x &&& (x - 1)).toBitVec.toNat ≤ (x - 1).toBitVec.toNat := by
    have e1 : (x &&& (x - 1)).toBitVec = x.toBitVec &&& (x - 1).toBitVec := rfl
    rw [e1, BitVec.toNat_and]
    exact Nat.and_le_right
  omega
theorem l_X11_manyIn {E : jEnv} {d : Nat} {Q : Int32 → jM → Prop} {S : jM} : ∀ (f : Nat) (n x : Int32), x.toBitVec.toNat < f → Q (jmanyL f n x) S → L_X11_manyIn_4 E d Q n x S := by
  intro f
  induction f with
  | zero => intro n x h; exact absurd h (Nat.not_lt_zero _)
  | succ f ih =>
    intro n x hf h
    refine T_X11_manyIn_4 ⟨fun c => ?_, fun c => ?_⟩
    · simpa [jmanyL, c] using h
    · have hd := jmany_dec c
      refine ih (n + 1) (x &&& (x - 1)) (by omega) ?_
      simpa [jmanyL, c] using h
theorem c_X11_manyIn {E : jEnv} {d : Nat} {Q : Int32 → jM → Prop} {x0 : Int32} {S : jM} (h : Q (jmany x0) S) : jFi E mX11_manyIn d 0 0 [.int x0] S Q :=
  T_X11_manyIn (l_X11_manyIn _ _ _ (Nat.lt_succ_self _) h)
theorem jbc_many : ∀ n : Fin 1024, jbc (nI n.val) = jmany (nI n.val) := by decide +kernel
