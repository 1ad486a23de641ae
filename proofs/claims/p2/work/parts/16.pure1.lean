def jissheet (k : Int32) : Int32 := jisin k.toInt64 0 3
def jisslot (k : Int32) : Int32 := jisin k.toInt64 0 4
theorem jisin01 (v lo hi : Int64) : jisin v lo hi = 0 ∨ jisin v lo hi = 1 := by
  unfold jisin
  split
  · exact Or.inl rfl
  · split
    · exact Or.inl rfl
    · exact Or.inr rfl
theorem jwi01 (v b : Int32) : jwi v b = 0 ∨ jwi v b = 1 := by
  unfold jwi
  split
  · exact Or.inl rfl
  · split
    · exact Or.inl rfl
    · exact Or.inr rfl
theorem c_X11_isSheet {E : jEnv} {d : Nat} {Q : Int32 → jM → Prop} {x0 : Int32} {S : jM} (h : Q (jissheet x0) S) : jFi E mX11_isSheet (d + 1) 0 0 [.int x0] S Q := T_X11_isSheet ⟨jisin01 _ _ _, h⟩
theorem c_X11_isSlot {E : jEnv} {d : Nat} {Q : Int32 → jM → Prop} {x0 : Int32} {S : jM} (h : Q (jisslot x0) S) : jFi E mX11_isSlot (d + 1) 0 0 [.int x0] S Q := T_X11_isSlot ⟨jisin01 _ _ _, h⟩
