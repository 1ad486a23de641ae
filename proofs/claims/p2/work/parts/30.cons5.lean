/-! THE CONSTRUCTOR of the reference -/
def MT : List (Nat × Nat) := [(0, 3135), (1, 3135), (2, 3135), (4, 4), (5, 4), (6, 96), (7, 5), (8, 5), (9, 5), (10, 5), (11, 120), (12, 36), (13, 135), (14, 4), (18, 96), (30, 128), (31, 100), (32, 24), (33, 60), (35, 60)]
def ML (S : jM) (a : Nat) : Prop := jk S a = 11 ∧ ∀ k p, MT[k]? = some p → jr S a p.1 = some (a + 1 + k) ∧ jk S (a + 1 + k) = 12 ∧ jl S (a + 1 + k) = p.2
def MN (S : jM) (a : Nat) : Prop := (∀ j, ji S a j = 0) ∧ (∀ j, ji S (a + 1) j = v0 j) ∧ (∀ j, j < 4 → ji S (a + 4) j = -1) ∧ ∀ k, 1 ≤ k → k < 20 → k ≠ 3 → ∀ j, ji S (a + 1 + k) j = 0
section jCons5
variable {E : jEnv} {d : Nat} {S : jM}
theorem l_X11_init {Q : jM → Prop} {a b : Nat} (h : ∀ S', jn S' = jn S → (∀ y, y ≠ b → jcs S S' y) → jk S' b = jk S b → jl S' b = jl S b → (∀ j, j < 4 → ji S' b j = -1) → Q S') (hk : jk S a = 11) (hr : jr S a 4 = some b) (hb : jk S b = 12) (hl : jl S b = 4) :
    ∀ (n i : Nat) (S1 : jM), i + n = 4 → jn S1 = jn S → (∀ y, y ≠ b → jcs S S1 y) → jk S1 b = jk S b → jl S1 b = jl S b → jk S1 a = 11 → jr S1 a 4 = some b → (∀ j, j < i → ji S1 b j = -1) → L_X11_init_180 E d Q a (nI i) S1 20 10292 := by
  intro n
  induction n with
  | zero =>
    intro i S1 hi hn hs k1 k2 k3 k4 k5
    obtain rfl : i = 4 := by omega
    exact T_X11_init_180 ⟨fun _ => ⟨by decide, h S1 hn hs k1 k2 k5⟩, fun c => absurd (by decide) c⟩
  | succ n ih =>
    intro i S1 hi hn hs k1 k2 k3 k4 k5
    refine T_X11_init_180 ⟨fun c => absurd c (nI_ge (b := 4) (by omega) (by omega)), fun _ => ⟨k3, b, k4, k1.trans hb, by rw [k2, hl]; exact jin_nI (by omega) (by omega), ?_⟩⟩
    rw [jcl (by omega), nI_1]
    refine ih (i + 1) _ (by omega) hn (fun y hy => (hs y hy).trans (jcs.put hy)) k1 k2 k3 k4 (fun j hj => ?_)
    rw [ji_put]
    by_cases hji : j = i
    · rw [if_pos ⟨rfl, hji⟩]
    · rw [if_neg (fun c => hji c.2)]; exact k5 j (by omega)
set_option maxHeartbeats 2000000 in
theorem c_X11_init {Q : jM → Prop} {a : Nat} (hk : jk S a = 11) (hq : jn S = a + 1) (h0 : ji S a = fun _ => 0) (h : ∀ S', jn S' = a + 21 → (∀ y, y < a → jcs S S' y) → ML S' a → MN S' a → Q S') : jFv E mX11_init (d + 1) 20 10292 [.ref a] S Q := by
  refine T_X11_init ?_
  have ha : a < jn S := by omega
  refine VA_of (a := a) (kd := 11) (K := fun S' => ∃ b61, jr S' a 0 = some b61 ∧ jk S' b61 = 12 ∧ vp_in 8 (jl S' b61) ∧ (vp_in 5 (jl S' b61) ∧ L_X11_init_180 E d Q a 0 (jput (jput S' b61 (Int32.toNatClampNeg 8) 1) b61 (Int32.toNatClampNeg 5) 100) 20 10292)) MT S hk ha ?_
  obtain ⟨a1, a2, a3, a4⟩ := JAs_a a MT S ha
  have hat := fun k p => JAs_at a MT S k p ha
  have hrf := fun k p => JAs_ref a MT S k p ha (by decide)
  have hn : jn (JAs a S MT) = jn S + 20 := JAs_n a MT S
  have hkeep := JAs_keep a MT S
  generalize JAs a S MT = S1 at *
  rw [hq] at hat hrf hn
  have r0 := hrf 0 (0, 3135) rfl
  have t0 := hat 0 (0, 3135) rfl
  have r3 := hrf 3 (4, 4) rfl
  have t3 := hat 3 (4, 4) rfl
  refine ⟨a + 1, r0, t0.1, by rw [t0.2.1]; exact jin_nI (n := 8) (N := 3135) (by decide) (by decide), by rw [t0.2.1]; exact jin_nI (n := 5) (N := 3135) (by decide) (by decide), ?_⟩
  have e8 : Int32.toNatClampNeg 8 = 8 := by decide
  have e5 : Int32.toNatClampNeg 5 = 5 := by decide
  rw [e8, e5]
  have s2 : ∀ y, y ≠ a + 1 → jcs S1 (jput (jput S1 (a + 1) 8 1) (a + 1) 5 100) y := fun y hy => (jcs.put hy).trans (jcs.put hy)
  have i2 : ∀ j, ji (jput (jput S1 (a + 1) 8 1) (a + 1) 5 100) (a + 1) j = v0 j := by
    intro j
    rw [ji_put, ji_put]
    unfold v0
    by_cases h5 : j = 5
    · simp [h5]
    · by_cases h8 : j = 8
      · simp [h8]
      · simp only [h5, h8, and_false, if_false]; exact congrFun t0.2.2 j
  have n2 : jn (jput (jput S1 (a + 1) 8 1) (a + 1) 5 100) = a + 21 := hn
  have kk : jk (jput (jput S1 (a + 1) 8 1) (a + 1) 5 100) = jk S1 := rfl
  have ll : jl (jput (jput S1 (a + 1) 8 1) (a + 1) 5 100) = jl S1 := rfl
  have rr : jr (jput (jput S1 (a + 1) 8 1) (a + 1) 5 100) = jr S1 := rfl
  generalize jput (jput S1 (a + 1) 8 1) (a + 1) 5 100 = S2 at *
  refine l_X11_init (S := S2) (a := a) (b := a + 1 + 3) (fun S3 n3 s3 k3 l3 i3 => ?_) (by rw [kk]; exact a1.trans hk) (by rw [rr]; exact r3) (by rw [kk]; exact t3.1) (by rw [ll]; exact t3.2.1) 4 0 S2 rfl rfl (fun _ _ => jcs.rfl) rfl rfl (by rw [kk]; exact a1.trans hk) (by rw [rr]; exact r3) (fun j hj => absurd hj (Nat.not_lt_zero _))
  have ca := (s2 a (by omega)).trans (s3 a (by omega))
  have k23 : jk S3 = jk S2 := by
    funext y
    by_cases hy : y = a + 1 + 3
    · subst hy; exact k3
    · exact (s3 y hy).1
  have l23 : jl S3 = jl S2 := by
    funext y
    by_cases hy : y = a + 1 + 3
    · subst hy; exact l3
    · exact (s3 y hy).2.1
  refine h S3 (n3.trans n2) (fun y hy => (hkeep y (by omega) (by omega)).trans ((s2 y (by omega)).trans (s3 y (by omega)))) ⟨?_, fun k p hp => ⟨?_, ?_, ?_⟩⟩ ⟨fun j => ?_, fun j => ?_, i3, fun k h1 h2 h3 j => ?_⟩
  · rw [k23, kk]; exact a1.trans hk
  · rw [ca.2.2.2]; exact hrf k p hp
  · rw [k23, kk]; exact (hat k p hp).1
  · rw [l23, ll]; exact (hat k p hp).2.1
  · rw [ca.2.2.1, a3, h0]
  · rw [(s3 (a + 1) (by omega)).2.2.1]; exact i2 j
  · rw [(s3 (a + 1 + k) (by omega)).2.2.1, (s2 (a + 1 + k) (by omega)).2.2.1]
    have hl : k < MT.length := h2
    exact congrFun (hat k _ (List.getElem?_eq_getElem hl)).2.2 j
end jCons5
