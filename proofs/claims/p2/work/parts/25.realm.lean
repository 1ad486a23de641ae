/-! THE REALM (class) at r, by a row of numbers v as the reference lays it: 0 size, 1 texts, 2 day, 3 at, 4 knows, 5 coins, 6 forgets, 7 wishes, 8 z, 9.. wished, 16.. from, 26.. rested, 36.. days, 72.. masters -/
def mfv (v : Nat → Int32) (i f : Nat) : Int32 := v (72 + 7 * i + f)
def RmL (S : jM) (r : Nat) : Prop := jk S r = 3 ∧ jr S r 0 = some (r + 1) ∧ jr S r 1 = some (r + 12) ∧ jr S r 2 = some (r + 15) ∧ jr S r 3 = some (r + 18) ∧ jr S r 5 = some (r + 19) ∧ jk S (r + 18) = 12 ∧ jl S (r + 18) = 6 ∧ jk S (r + 19) = 16 ∧ jl S (r + 19) = 14
def vfar (v : Nat → Int32) : Nat → Int32 := wfar (fun i => v (36 + i)) (fun _ => 0)
def RmR (S : jM) (r sz : Nat) (v : Nat → Int32) : Prop :=
  RmL S r ∧ sz ≤ 9 ∧ v 0 = nI sz ∧ GR S (r + 1) sz (v 8) (mfv v) ∧ RdR S (r + 12) (fun i => v (36 + i)) (vfar v) ∧ LdR S (r + 15) (v 3) (v 4) (v 5) (v 6) (v 2) (fun i => v (16 + i)) (fun i => v (26 + i)) ∧ ji S r 4 = v 7 ∧ (∀ i, i < 6 → ji S (r + 18) i = v (9 + i)) ∧ ji S r 6 = v 1
theorem RmL.same {S S' : jM} {r : Nat} (h : RmL S r) (hs : jsame S S') : RmL S' r := by
  obtain ⟨e1, e2, e3, -⟩ := hs
  unfold RmL
  rw [e1, e2, e3]
  exact h
theorem RmR.keep {S S' : jM} {r sz lo hi : Nat} {v : Nat → Int32} (h : RmR S r sz v) (hc : jch S S' lo hi) (hd : r + 19 ≤ lo ∨ hi ≤ r) : RmR S' r sz v := by
  obtain ⟨h0, h1, h2, h3, h4, h5, h6, h7, h8⟩ := h
  refine ⟨h0.same hc.1, h1, h2, h3.keep hc (by omega), h4.keep hc (by omega), h5.keep hc (by omega), ?_, fun i hi' => ?_, ?_⟩
  · rw [hc.2 r (by omega)]; exact h6
  · rw [hc.2 (r + 18) (by omega)]; exact h7 i hi'
  · rw [hc.2 r (by omega)]; exact h8
theorem RdR.cong {S : jM} {q : Nat} {v v' : Nat → Int32} (h : RdR S q (fun i => v (36 + i)) (vfar v)) (he : ∀ i, i < 36 → v' (36 + i) = v (36 + i)) : RdR S q (fun i => v' (36 + i)) (vfar v') :=
  ⟨h.1, fun i hi => (h.2.1 i hi).trans (he i hi).symm, fun i hi => (h.2.2 i hi).trans (wfar_agr (fun j hj => (he j hj).symm) i hi)⟩
/-- the guild alone changes -/
theorem RmR.guild {S S' : jM} {r sz sz' : Nat} {v v' : Nat → Int32} (h : RmR S r sz v) (hc : jch S S' (r + 1) (r + 12)) (hg : GR S' (r + 1) sz' (v' 8) (mfv v')) (hz : sz' ≤ 9) (h0 : v' 0 = nI sz') (he : ∀ j, j ≠ 0 → j ≠ 8 → (j < 72 ∨ 135 ≤ j) → v' j = v j) : RmR S' r sz' v' := by
  obtain ⟨a0, a1, a2, a3, a4, a5, a6, a7, a8⟩ := h
  refine ⟨a0.same hc.1, hz, h0, hg, ?_, ?_, ?_, fun i hi => ?_, ?_⟩
  · exact (a4.keep hc (by omega)).cong (fun i hi => he _ (by omega) (by omega) (by omega))
  · rw [he 3 (by omega) (by omega) (by omega), he 4 (by omega) (by omega) (by omega), he 5 (by omega) (by omega) (by omega), he 6 (by omega) (by omega) (by omega), he 2 (by omega) (by omega) (by omega)]
    exact (a5.keep hc (by omega)).cong (fun i hi => (he _ (by omega) (by omega) (by omega)).symm) (fun i hi => (he _ (by omega) (by omega) (by omega)).symm)
  · rw [hc.2 r (by omega), he 7 (by omega) (by omega) (by omega)]; exact a6
  · rw [hc.2 (r + 18) (by omega), he _ (by omega) (by omega) (by omega)]; exact a7 i hi
  · rw [hc.2 r (by omega), he 1 (by omega) (by omega) (by omega)]; exact a8
/-- the learner alone changes -/
theorem RmR.learner {S S' : jM} {r sz : Nat} {v v' : Nat → Int32} (h : RmR S r sz v) (hc : jch S S' (r + 15) (r + 18)) (hl : LdR S' (r + 15) (v' 3) (v' 4) (v' 5) (v' 6) (v' 2) (fun i => v' (16 + i)) (fun i => v' (26 + i))) (he : ∀ j, (j < 2 ∨ 7 ≤ j) → (j < 16 ∨ 36 ≤ j) → v' j = v j) : RmR S' r sz v' := by
  obtain ⟨a0, a1, a2, a3, a4, a5, a6, a7, a8⟩ := h
  refine ⟨a0.same hc.1, a1, by rw [he 0 (by omega) (by omega)]; exact a2, ?_, ?_, hl, ?_, fun i hi => ?_, ?_⟩
  · rw [he 8 (by omega) (by omega)]
    exact (a3.keep hc (by omega)).cong (fun i hi f hf => (he _ (by omega) (by omega)).symm)
  · exact (a4.keep hc (by omega)).cong (fun i hi => he _ (by omega) (by omega))
  · rw [hc.2 r (by omega), he 7 (by omega) (by omega)]; exact a6
  · rw [hc.2 (r + 18) (by omega), he _ (by omega) (by omega)]; exact a7 i hi
  · rw [hc.2 r (by omega), he 1 (by omega) (by omega)]; exact a8
/-- the roads alone change -/
theorem RmR.roads {S S' : jM} {r sz : Nat} {v v' : Nat → Int32} (h : RmR S r sz v) (hc : jch S S' (r + 12) (r + 15)) (hl : RdR S' (r + 12) (fun i => v' (36 + i)) (vfar v')) (he : ∀ j, (j < 36 ∨ 72 ≤ j) → v' j = v j) : RmR S' r sz v' := by
  obtain ⟨a0, a1, a2, a3, a4, a5, a6, a7, a8⟩ := h
  refine ⟨a0.same hc.1, a1, by rw [he 0 (by omega)]; exact a2, ?_, hl, ?_, ?_, fun i hi => ?_, ?_⟩
  · rw [he 8 (by omega)]
    exact (a3.keep hc (by omega)).cong (fun i hi f hf => (he _ (by omega)).symm)
  · rw [he 3 (by omega), he 4 (by omega), he 5 (by omega), he 6 (by omega), he 2 (by omega)]
    exact (a5.keep hc (by omega)).cong (fun i hi => (he _ (by omega)).symm) (fun i hi => (he _ (by omega)).symm)
  · rw [hc.2 r (by omega), he 7 (by omega)]; exact a6
  · rw [hc.2 (r + 18) (by omega), he _ (by omega)]; exact a7 i hi
  · rw [hc.2 r (by omega), he 1 (by omega)]; exact a8
/-- one place of the row is otherwise -/
theorem mset_upd {v : Nat → Int32} {i f : Nat} {x : Int32} (hi : i < 9) (hf : f < 7) : ∀ a, a < 9 → ∀ b, b < 7 → mset (mfv v) i f x a b = mfv (upd v (72 + 7 * i + f) x) a b := by
  intro a ha b hb
  unfold mset mfv upd
  by_cases hc : a = i ∧ b = f
  · rw [if_pos hc, if_pos (by omega)]
  · rw [if_neg hc, if_neg (by omega)]
/-- a master comes -/
def vjoin (v : Nat → Int32) (sz : Nat) (w : Nat → Int32) : Nat → Int32 := fun j => if j = 0 then nI (sz + 1) else if 72 + 7 * sz ≤ j ∧ j < 72 + 7 * sz + 7 then w (j - (72 + 7 * sz)) else v j
theorem mall_join {v w : Nat → Int32} {sz : Nat} (hs : sz < 9) : ∀ a, a < 9 → ∀ b, b < 7 → mall (mfv v) sz w a b = mfv (vjoin v sz w) a b := by
  intro a ha b hb
  unfold mall mfv vjoin
  by_cases hc : a = sz
  · subst hc
    rw [if_pos rfl, if_neg (c := 72 + 7 * a + b = 0) (by omega), if_pos (c := 72 + 7 * a ≤ 72 + 7 * a + b ∧ 72 + 7 * a + b < 72 + 7 * a + 7) (by omega)]
    congr 1
    omega
  · rw [if_neg hc, if_neg (c := 72 + 7 * a + b = 0) (by omega), if_neg (by omega)]
section jRealm
variable {E : jEnv} {d : Nat} {S : jM} {x sz : Nat} {v : Nat → Int32}
/-- the object and its realm -/
def XR (S : jM) (x sz : Nat) (v : Nat → Int32) : Prop := jk S x = 10 ∧ jr S x 0 = some (x + 1) ∧ RmR S (x + 1) sz v
theorem XR.g (h : XR S x sz v) : GR S (x + 2) sz (v 8) (mfv v) := h.2.2.2.2.2.1
theorem XR.l (h : XR S x sz v) : LdR S (x + 16) (v 3) (v 4) (v 5) (v 6) (v 2) (fun i => v (16 + i)) (fun i => v (26 + i)) := h.2.2.2.2.2.2.2.1
theorem XR.q (h : XR S x sz v) : RdR S (x + 13) (fun i => v (36 + i)) (vfar v) := h.2.2.2.2.2.2.1
theorem XR.k3 (h : XR S x sz v) : jk S (x + 1) = 3 := h.2.2.1.1
theorem XR.r0 (h : XR S x sz v) : jr S (x + 1) 0 = some (x + 2) := h.2.2.1.2.1
theorem XR.r1 (h : XR S x sz v) : jr S (x + 1) 1 = some (x + 13) := h.2.2.1.2.2.1
theorem XR.r2 (h : XR S x sz v) : jr S (x + 1) 2 = some (x + 16) := h.2.2.1.2.2.2.1
theorem XR.sz9 (h : XR S x sz v) : sz ≤ 9 := h.2.2.2.1
theorem XR.v0 (h : XR S x sz v) : v 0 = nI sz := h.2.2.2.2.1
theorem XR.of {S' : jM} {sz' : Nat} {v' : Nat → Int32} (h : XR S x sz v) (hs : jsame S S') (hr : RmR S' (x + 1) sz' v') : XR S' x sz' v' := ⟨by rw [hs.1]; exact h.1, by rw [hs.2.2.1]; exact h.2.1, hr⟩
/-- the constants -/
abbrev kBAD : Int32 := -1000000001
abbrev kNO : Int32 := -1000000002
abbrev kFULL : Int32 := -1000000003
abbrev kNONE : Int32 := -1000000005
abbrev kNOTHING : Int32 := -1000000011
abbrev kKIND : Int32 := -1000000012
abbrev kINDEX : Int32 := -1000000013
abbrev kSIZE : Int32 := -1000000014
theorem C_master {Q : Int32 → jM → Prop} {k t g f : Int32} (hX : XR S x sz v) (h1 : (jwi k 6 = 0 ∨ jwi t 6 = 0 ∨ jwi g 10 = 0 ∨ jwi f 100 = 0) → Q kBAD S) (h2 : jwi k 6 ≠ 0 → jwi t 6 ≠ 0 → jwi g 10 ≠ 0 → jwi f 100 ≠ 0 → sz = 9 → Q kFULL S)
    (h3 : jwi k 6 ≠ 0 → jwi t 6 ≠ 0 → jwi g 10 ≠ 0 → jwi f 100 ≠ 0 → sz < 9 → ∀ S', jch S S' (x + 2) (x + 13) → XR S' x (sz + 1) (vjoin v sz (mnew k t g f)) → Q (nI sz) S') : jFi E mX10_master (d + 2) 0 0 [.ref x, .int k, .int t, .int g, .int f] S Q := by
  refine T_X10_master ⟨fun c => h1 (Or.inl c), fun c1 => ⟨fun c => h1 (Or.inr (Or.inl c)), fun c2 => ⟨fun c => h1 (Or.inr (Or.inr (Or.inl c))), fun c3 => ⟨fun c => h1 (Or.inr (Or.inr (Or.inr c))), fun c4 => ?_⟩⟩⟩⟩
  refine ⟨hX.1, x + 1, hX.2.1, hX.k3, x + 2, hX.r0, hX.g.1.1, c_X0_join hX.g hX.sz9 (fun hz => ?_) (fun hz S' hc hg => ?_)⟩
  · exact ⟨fun _ => h2 c1 c2 c3 c4 hz, fun c => absurd rfl c⟩
  · refine ⟨fun c => absurd c (by decide), fun _ => ?_⟩
    rw [hX.g.2.1]
    have hr : RmR S' (x + 1) (sz + 1) (vjoin v sz (mnew k t g f)) := by
      refine hX.2.2.guild (hc.wide (by omega) (by omega)) ?_ (by omega) (by simp [vjoin]) (fun j h0 h8 hj => ?_)
      · have e8 : vjoin v sz (mnew k t g f) 8 = v 8 := by unfold vjoin; rw [if_neg (by omega), if_neg (by omega)]
        rw [e8]
        exact hg.cong (mall_join hz)
      · unfold vjoin
        rw [if_neg h0, if_neg (by omega)]
    exact h3 c1 c2 c3 c4 hz S' (hc.wide (by omega) (by omega)) (hX.of hc.1 hr)
end jRealm
