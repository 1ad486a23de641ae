/-! WHAT A CALL CHANGES: nothing but ints of the cells lo .. hi - 1 -/
def jsame (S S' : jM) : Prop := jk S' = jk S ∧ jl S' = jl S ∧ jr S' = jr S ∧ jn S' = jn S
def jch (S S' : jM) (lo hi : Nat) : Prop := jsame S S' ∧ ∀ y, (y < lo ∨ hi ≤ y) → ji S' y = ji S y
theorem jsame.rfl {S : jM} : jsame S S := ⟨_root_.rfl, _root_.rfl, _root_.rfl, _root_.rfl⟩
theorem jsame.trans {S S1 S2 : jM} (h1 : jsame S S1) (h2 : jsame S1 S2) : jsame S S2 := ⟨h2.1.trans h1.1, h2.2.1.trans h1.2.1, h2.2.2.1.trans h1.2.2.1, h2.2.2.2.trans h1.2.2.2⟩
theorem jch.rfl {S : jM} {lo hi : Nat} : jch S S lo hi := ⟨jsame.rfl, fun _ _ => _root_.rfl⟩
theorem jch.trans {S S1 S2 : jM} {lo hi : Nat} (h1 : jch S S1 lo hi) (h2 : jch S1 S2 lo hi) : jch S S2 lo hi := ⟨h1.1.trans h2.1, fun y hy => (h2.2 y hy).trans (h1.2 y hy)⟩
theorem jch.wide {S S1 : jM} {lo hi lo' hi' : Nat} (h1 : jch S S1 lo hi) (a : lo' ≤ lo) (b : hi ≤ hi') : jch S S1 lo' hi' := ⟨h1.1, fun y hy => h1.2 y (by omega)⟩
theorem jch.put {S : jM} {a j lo hi : Nat} {v : Int32} (h1 : lo ≤ a) (h2 : a < hi) : jch S (jput S a j v) lo hi := ⟨⟨_root_.rfl, _root_.rfl, _root_.rfl, _root_.rfl⟩, fun y hy => ji_put_ne _ _ _ _ (by omega)⟩
theorem jch.row {S : jM} {a lo hi : Nat} {f : Nat → Int32} (h1 : lo ≤ a) (h2 : a < hi) : jch S (jrow S a f) lo hi := ⟨⟨_root_.rfl, _root_.rfl, _root_.rfl, _root_.rfl⟩, fun y hy => ji_row_ne _ _ _ (by omega)⟩
/-! THE GUILD at g: size, z, the masters' fields -/
def GR (S : jM) (g sz : Nat) (z : Int32) (mf : Nat → Nat → Int32) : Prop := GL S g ∧ ji S g 1 = nI sz ∧ ji S g 2 = z ∧ ∀ i, i < 9 → ∀ f, f < 7 → ji S (g + 2 + i) f = mf i f
theorem GL.same {S S' : jM} {g : Nat} (h : GL S g) (hs : jsame S S') : GL S' g := by
  obtain ⟨e1, e2, e3, -⟩ := hs
  unfold GL
  rw [e1, e2, e3]
  exact h
theorem GR.keep {S S' : jM} {g sz lo hi : Nat} {z : Int32} {mf : Nat → Nat → Int32} (h : GR S g sz z mf) (hc : jch S S' lo hi) (hd : g + 11 ≤ lo ∨ hi ≤ g) : GR S' g sz z mf := by
  obtain ⟨h1, h2, h3, h4⟩ := h
  refine ⟨h1.same hc.1, ?_, ?_, fun i hi' f hf => ?_⟩
  · rw [hc.2 g (by omega)]; exact h2
  · rw [hc.2 g (by omega)]; exact h3
  · rw [hc.2 (g + 2 + i) (by omega)]; exact h4 i hi' f hf
/-- one field of one master is otherwise -/
def mset (mf : Nat → Nat → Int32) (i f : Nat) (v : Int32) : Nat → Nat → Int32 := fun a b => if a = i ∧ b = f then v else mf a b
theorem GR.putz {S : jM} {g sz : Nat} {z v : Int32} {mf : Nat → Nat → Int32} (h : GR S g sz z mf) : GR (jput S g 2 v) g sz v mf := by
  obtain ⟨h1, h2, h3, h4⟩ := h
  refine ⟨h1, ?_, ji_put_same _ _ _ _, fun i hi f hf => ?_⟩
  · rw [ji_put]; simpa using h2
  · rw [ji_put_ne _ _ _ _ (by omega)]; exact h4 i hi f hf
theorem GR.puts {S : jM} {g sz n : Nat} {z : Int32} {mf : Nat → Nat → Int32} (h : GR S g sz z mf) : GR (jput S g 1 (nI n)) g n z mf := by
  obtain ⟨h1, h2, h3, h4⟩ := h
  refine ⟨h1, ji_put_same _ _ _ _, ?_, fun i hi f hf => ?_⟩
  · rw [ji_put]; simpa using h3
  · rw [ji_put_ne _ _ _ _ (by omega)]; exact h4 i hi f hf
theorem GR.putm {S : jM} {g sz i f : Nat} {z v : Int32} {mf : Nat → Nat → Int32} (h : GR S g sz z mf) (hi : i < 9) : GR (jput S (g + 2 + i) f v) g sz z (mset mf i f v) := by
  obtain ⟨h1, h2, h3, h4⟩ := h
  refine ⟨h1, ?_, ?_, fun a ha b hb => ?_⟩
  · rw [ji_put_ne _ _ _ _ (by omega)]; exact h2
  · rw [ji_put_ne _ _ _ _ (by omega)]; exact h3
  · rw [ji_put]
    unfold mset
    by_cases hc : a = i ∧ b = f
    · rw [if_pos hc, if_pos ⟨by omega, hc.2⟩]
    · rw [if_neg hc, if_neg (fun q => hc ⟨by omega, q.2⟩)]
      exact h4 a ha b hb
/-- a whole master is otherwise -/
def mall (mf : Nat → Nat → Int32) (i : Nat) (w : Nat → Int32) : Nat → Nat → Int32 := fun a b => if a = i then w b else mf a b
theorem GR.rowm {S : jM} {g sz i : Nat} {z : Int32} {mf : Nat → Nat → Int32} {r w : Nat → Int32} (h : GR S g sz z mf) (hi : i < 9) (hr : ∀ f, f < 7 → r f = w f) : GR (jrow S (g + 2 + i) r) g sz z (mall mf i w) := by
  obtain ⟨h1, h2, h3, h4⟩ := h
  refine ⟨h1, ?_, ?_, fun a ha b hb => ?_⟩
  · rw [ji_row_ne _ _ _ (by omega)]; exact h2
  · rw [ji_row_ne _ _ _ (by omega)]; exact h3
  · unfold mall
    by_cases hc : a = i
    · subst hc; rw [if_pos rfl, ji_row_same]; exact hr b hb
    · rw [if_neg hc, ji_row_ne _ _ _ (by omega)]
      exact h4 a ha b hb
theorem GR.cong {S : jM} {g sz : Nat} {z : Int32} {mf mf' : Nat → Nat → Int32} (h : GR S g sz z mf) (he : ∀ i, i < 9 → ∀ f, f < 7 → mf i f = mf' i f) : GR S g sz z mf' :=
  ⟨h.1, h.2.1, h.2.2.1, fun i hi f hf => (h.2.2.2 i hi f hf).trans (he i hi f hf)⟩
/-- a master as it comes -/
def mnew (kind town gesture fee : Int32) : Nat → Int32 := fun f => ([kind, town, gesture, 0, fee, 40, 0] : List Int32).getD f 0
theorem mrow_new (f : Nat → Int32) (k t g fe : Int32) : ∀ i, i < 7 → mrow f k t g 0 fe 40 0 i = mnew k t g fe i := by
  intro i hi
  rcases (show i = 0 ∨ i = 1 ∨ i = 2 ∨ i = 3 ∨ i = 4 ∨ i = 5 ∨ i = 6 by omega) with rfl | rfl | rfl | rfl | rfl | rfl | rfl <;> simp [mrow, upd, mnew]
section jGuild2
variable {E : jEnv} {d : Nat} {S : jM} {g : Nat} {sz : Nat} {z : Int32} {mf : Nat → Nat → Int32}
theorem c_X0_join {Q : Int32 → jM → Prop} {x1 x2 x3 x4 : Int32} (hG : GR S g sz z mf) (hz : sz ≤ 9) (h1 : sz = 9 → Q 0 S) (h2 : sz < 9 → ∀ S', jch S S' g (g + 11) → GR S' g (sz + 1) z (mall mf sz (mnew x1 x2 x3 x4)) → Q 1 S') : jFi E mX0_join (d + 1) 0 0 [.ref g, .int x1, .int x2, .int x3, .int x4] S Q := by
  obtain ⟨k1, k2, k3, k4, k5⟩ := hG.1
  refine T_X0_join ⟨k1, ?_⟩
  rw [hG.2.1]
  rcases jwi_cases (nI sz) (b := 9) 9 rfl (by omega) with ⟨n, hn, e, e1⟩ | ⟨hn, e1⟩
  · have hsn : sz = n := nI_inj (by omega) (by omega) e
    subst hsn
    rw [e1]
    refine ⟨fun c => absurd c (by decide), fun _ => ⟨g + 1, k2, k3, by rw [k4]; exact jin_nI hn (by omega), g + 2 + sz, by rw [jcl (by omega)]; exact (k5 sz hn).1, (k5 sz hn).2, ?_⟩⟩
    refine c_X2_begin (k5 sz hn).2 ⟨k1, ?_⟩
    have hg := hG.rowm (i := sz) (w := mnew x1 x2 x3 x4) hn (mrow_new (ji S (g + 2 + sz)) x1 x2 x3 x4)
    rw [hg.2.1, nI_1]
    exact h2 hn _ ((jch.row (by omega) (by omega)).trans (jch.put (by omega) (by omega))) hg.puts
  · rw [e1]
    have : sz = 9 := by
      rcases Nat.lt_or_ge sz 9 with q | q
      · exact absurd rfl (hn sz q)
      · omega
    exact ⟨fun _ => h1 this, fun c => absurd rfl c⟩
/-- the fourth part of a guild that is drawn: z behind four draws -/
def jz4 (z : Int32) : Int32 := jlot (jlot (jlot (jlot z)))
def mdraw (z : Int32) : Nat → Int32 := mnew (jrem (jushr (jlot z) 8) 6) (jrem (jushr (jlot (jlot z)) 8) 6) (jrem (jushr (jlot (jlot (jlot z))) 8) 10) (jrem (jushr (jz4 z) 8) 40)
theorem c_X0_joinByLot {Q : jM → Prop} (hG : GR S g sz z mf) (hz : sz < 9) (h : ∀ S', jch S S' g (g + 11) → GR S' g (sz + 1) (jz4 z) (mall mf sz (mdraw z)) → Q S') : jFv E mX0_joinByLot (d + 2) 0 0 [.ref g] S Q := by
  have k1 := hG.1.1
  have e := hG.2.2.1
  have g1 := hG.putz (v := jlot z)
  have g2 := g1.putz (v := jlot (jlot z))
  have g3 := g2.putz (v := jlot (jlot (jlot z)))
  have g4 := g3.putz (v := jz4 z)
  refine T_X0_joinByLot ⟨k1, c_X0_draw k1 ⟨k1, ?_⟩⟩
  rw [e]
  refine c_X0_draw k1 ⟨k1, ?_⟩
  rw [g1.2.2.1]
  refine c_X0_draw k1 ⟨k1, ?_⟩
  rw [g2.2.2.1]
  refine c_X0_draw k1 ⟨k1, ?_⟩
  rw [g3.2.2.1]
  refine c_X0_join g4 (by omega) (fun q => absurd q (by omega)) (fun _ S' hc hg => h S' ?_ hg)
  exact (((jch.put (by omega) (by omega)).trans (jch.put (by omega) (by omega))).trans ((jch.put (by omega) (by omega)).trans (jch.put (by omega) (by omega)))).trans hc
/-- a guild becomes another one -/
theorem c_X0_become {Q : jM → Prop} {g1 sz1 : Nat} {z1 : Int32} {mf1 : Nat → Nat → Int32} (hG : GR S g sz z mf) (hG1 : GR S g1 sz1 z1 mf1) (hne : g + 11 ≤ g1 ∨ g1 + 11 ≤ g) (hd : ∀ i, i < 9 → mf1 i 6 = 0 ∨ mf1 i 6 = 1) (h : ∀ S', jch S S' g (g + 11) → GR S' g sz1 z1 mf1 → Q S') : jFv E mX0_become (d + 1) 0 0 [.ref g, .ref g1] S Q := by
  have key : ∀ (n i : Nat) (S1 : jM) (mfx : Nat → Nat → Int32), i + n = 9 → jch S S1 g (g + 11) → GR S1 g sz1 z1 mfx → (∀ a, a < i → ∀ f, f < 7 → mfx a f = mf1 a f) → L_X0_become_18 E d Q g g1 (nI i) S1 := by
    intro n
    induction n with
    | zero =>
      intro i S1 mfx hi hc hg hm
      obtain rfl : i = 9 := by omega
      exact T_X0_become_18 ⟨fun _ => h S1 hc (hg.cong (fun a ha f hf => hm a ha f hf)), fun c => absurd (by decide) c⟩
    | succ n ih =>
      intro i S1 mfx hi hc hg hm
      have hg1 := hG1.keep hc (by omega)
      obtain ⟨k1, k2, k3, k4, k5⟩ := hg.1
      obtain ⟨l1, l2, l3, l4, l5⟩ := hg1.1
      refine T_X0_become_18 ⟨fun c => absurd c (nI_ge (b := 9) (by omega) (by omega)), fun _ => ⟨k1, g + 1, k2, k3, by rw [k4]; exact jin_nI (by omega) (by omega), g + 2 + i, by rw [jcl (by omega)]; exact (k5 i (by omega)).1, l1, g1 + 1, l2, l3, by rw [l4]; exact jin_nI (by omega) (by omega), g1 + 2 + i, by rw [jcl (by omega)]; exact (l5 i (by omega)).1, (k5 i (by omega)).2, ?_⟩⟩
      have hv : ∀ f, f < 7 → ji S1 (g1 + 2 + i) f = mf1 i f := fun f hf => hg1.2.2.2 i (by omega) f hf
      refine c_X2_become (k5 i (by omega)).2 (l5 i (by omega)).2 (by rw [hv 6 (by omega)]; exact hd i (by omega)) ?_
      rw [nI_1]
      refine ih (i + 1) _ (mall mfx i (mf1 i)) (by omega) (hc.trans (jch.row (by omega) (by omega))) (hg.rowm (by omega) (fun f hf => ?_)) (fun a ha f hf => ?_)
      · rw [hv 0 (by omega), hv 1 (by omega), hv 2 (by omega), hv 3 (by omega), hv 4 (by omega), hv 5 (by omega), hv 6 (by omega)]
        rcases (show f = 0 ∨ f = 1 ∨ f = 2 ∨ f = 3 ∨ f = 4 ∨ f = 5 ∨ f = 6 by omega) with rfl | rfl | rfl | rfl | rfl | rfl | rfl <;> simp [mrow, upd]
      · unfold mall
        by_cases hai : a = i
        · subst hai; rw [if_pos rfl]
        · rw [if_neg hai]; exact hm a (by omega) f hf
  refine T_X0_become ⟨hG1.1.1, hG.1.1, ?_⟩
  rw [hG1.2.1, hG1.2.2.1]
  refine key 9 0 _ mf (by omega) ((jch.put (by omega) (by omega)).trans (jch.put (by omega) (by omega))) ?_ (fun a ha => absurd ha (by omega))
  exact (hG.puts (n := sz1)).putz
end jGuild2
