/-! ONE CALL ON FRESH OBJECTS, second part -/
section jFresh2
variable {E : jEnv} {d : Nat} {S : jM} {x : Nat}
/-- the reference alone is fresh -/
def GM (S : jM) (x : Nat) : Prop := ML S (x + 94) ∧ MN S (x + 94)
theorem GM.row (h : GM S x) (k n : Nat) {f : Nat} (hk : MT[k]? = some (f, n)) : jr S (x + 94) f = some (x + 95 + k) ∧ jk S (x + 95 + k) = 12 ∧ jl S (x + 95 + k) = n := by
  have := h.1.2 k (f, n) hk
  rw [show x + 94 + 1 + k = x + 95 + k by omega] at this
  exact this
theorem GM.zero (h : GM S x) (k : Nat) (h1 : 1 ≤ k) (h2 : k < 20) (h3 : k ≠ 3) (j : Nat) : ji S (x + 95 + k) j = 0 := by
  have := h.2.2.2.2 k h1 h2 h3 j
  rw [show x + 94 + 1 + k = x + 95 + k by omega] at this
  exact this
theorem GM.keep {S' : jM} {lo hi : Nat} (h : GM S x) (hc : jch S S' lo hi) (hd : x + 115 ≤ lo ∨ hi ≤ x + 94) : GM S' x := by
  obtain ⟨h1, a1, a2, a3, a4⟩ := h
  refine ⟨h1.same hc.1, fun j => ?_, fun j => ?_, fun j hj => ?_, fun k p q r j => ?_⟩
  · rw [hc.2 _ (by omega)]; exact a1 j
  · rw [hc.2 _ (by omega)]; exact a2 j
  · rw [hc.2 _ (by omega)]; exact a3 j hj
  · rw [hc.2 _ (by omega)]; exact a4 k p q r j
theorem FR.gm (h : FR S x) : GM S x := h.2.2
theorem GM.missM (h : GM S x) (i : Nat) (hi : i < 4) : vp_in (nI i) (jl S (x + 98)) ∧ ji S (x + 98) (Int32.toNatClampNeg (nI i)) = -1 := by
  have r := h.row 3 4 (f := 4) rfl
  have z := h.2.2.2.1 i hi
  rw [jcl (by omega), r.2.2]
  exact ⟨jin_nI hi (by omega), z⟩
/-- places of the reference's short rows -/
theorem GM.in5 (h : GM S x) (k : Nat) {f : Nat} (hk : MT[k]? = some (f, 5)) (i : Nat) (hi : i < 5) : vp_in (nI i) (jl S (x + 95 + k)) := by
  rw [(h.row k 5 hk).2.2]; exact jin_nI hi (by omega)
theorem GM.mr (h : GM S x) : MR S (x + 94) v0 := ⟨h.1, h.2.2.1⟩
theorem g_isMaster {Q : Int32 → jM → Prop} {w : Int32} (h : GM S x) (hq : Q 0 S) : jFi E mX11_isMaster (d + 1) 0 0 [.ref (x + 94), .int w] S Q :=
  c_X11_isMaster (sz := 0) h.mr rfl (by omega) (fun j hj => absurd hj (Nat.not_lt_zero _)) (fun _ => hq)
/-- the reference's lay on fresh rows -/
theorem g_lay0 {Q : Int32 → jM → Prop} {w u t : Int32} (h : GM S x) (hs : jwi w 5 = 0) (hq : Q kBAD S) : jFm E mX11_lay (d + 3) (x + 94) [.int w, .int u, .int t] S Q := by
  have e : jisslot w = 0 := (jisslot_wi w).trans hs
  refine U_X11_lay (by first | exact hM.k | exact hM1.k | exact hP.2.1.k | exact h.2.2.1.1 | exact h.1.1 | exact g1.1.1 | exact g3.1.1 | exact gm.1.1 | exact h2.1.1 | exact hM2.k | (rw [c1.1.1]; exact hP.2.1.k)) ⟨fun _ => ⟨fun _ => hq, fun c => absurd e c⟩, fun c0 => ⟨fun _ => ⟨fun _ => hq, fun c => absurd e c⟩, fun c3 => ⟨fun c1 => ⟨h.1.1, g_isMaster h ⟨fun _ => ⟨fun c2 => absurd (c1.symm.trans c2) (by decide), fun _ => ⟨fun _ => hq, fun c => absurd e c⟩⟩, fun c => absurd rfl c⟩⟩, fun c1 => ⟨fun c2 => ⟨fun _ => ⟨fun _ => hq, fun c => absurd e c⟩, fun _ => ⟨fun _ => hq, fun c => absurd e c⟩⟩, fun c2 => ⟨fun _ => hq, fun c => absurd e c⟩⟩⟩⟩⟩
theorem g_lay {Q : Int32 → jM → Prop} {i : Nat} {u t : Int32} (h : GM S x) (hi : i < 5) (h0 : u = 0 ∨ u = 3 → ∀ S', Q 0 S') (h1 : u = 1 → Q kBAD S) (h2 : u = 2 → jwi t 4 = 0 → Q kBAD S) (h2' : u = 2 → jwi t 4 ≠ 0 → Q kNOTHING S) (h3 : u ≠ 0 → u ≠ 1 → u ≠ 2 → u ≠ 3 → Q kBAD S) : jFm E mX11_lay (d + 3) (x + 94) [.int (nI i), .int u, .int t] S Q := by
  have e : jisslot (nI i) ≠ 0 := by rw [jisslot_wi, show (5 : Int32) = nI 5 from rfl, jwi_at hi (by omega)]; decide
  have r7 := h.row 6 5 (f := 7) rfl
  have r8 := h.row 7 5 (f := 8) rfl
  have r9 := h.row 8 5 (f := 9) rfl
  have r4 := h.row 3 4 (f := 4) rfl
  have i7 := h.in5 6 (f := 7) rfl i hi
  have i8 := h.in5 7 (f := 8) rfl i hi
  have i9 := h.in5 8 (f := 9) rfl i hi
  have z7 : ji S (x + 95 + 6) (Int32.toNatClampNeg (nI i)) = 0 := h.zero 6 (by omega) (by omega) (by omega) _
  refine U_X11_lay (by first | exact hM.k | exact hM1.k | exact hP.2.1.k | exact h.2.2.1.1 | exact h.1.1 | exact g1.1.1 | exact g3.1.1 | exact gm.1.1 | exact h2.1.1 | exact hM2.k | (rw [c1.1.1]; exact hP.2.1.k)) ⟨fun c0 => ⟨fun c => absurd c e, fun _ => ⟨fun c2 => absurd (c0.symm.trans c2) (by decide), fun _ => ⟨h.1.1, _, r7.1, r7.2.1, i7, _, r8.1, fun c1 => absurd (c0.symm.trans c1) (by decide), fun _ => ⟨r8.2.1, i8, _, r9.1, r9.2.1, i9, ?_⟩⟩⟩⟩, fun c0 => ⟨fun c3 => ⟨fun c => absurd c e, fun _ => ⟨fun c2 => absurd (c3.symm.trans c2) (by decide), fun _ => ⟨h.1.1, _, r7.1, r7.2.1, i7, _, r8.1, fun c1 => absurd (c3.symm.trans c1) (by decide), fun _ => ⟨r8.2.1, i8, _, r9.1, r9.2.1, i9, ?_⟩⟩⟩⟩, fun c3 => ⟨fun c1 => ⟨h.1.1, g_isMaster h ⟨fun _ => ⟨fun c2 => absurd (c1.symm.trans c2) (by decide), fun _ => ⟨fun _ => h1 c1, fun _ => h1 c1⟩⟩, fun c => absurd rfl c⟩⟩, fun c1 => ⟨fun c2 => ⟨fun cs => ⟨fun c => absurd c e, fun _ => h2 c2 ((jissheet_wi t).symm.trans cs)⟩, fun cs => ⟨fun c => absurd c e, fun _ => ?_⟩⟩, fun c2 => ⟨fun c => absurd c e, fun _ => h3 c0 c1 c2 c3⟩⟩⟩⟩⟩
  · rw [z7]; exact h0 (Or.inl c0) _
  · rw [z7]; exact h0 (Or.inr c3) _
  · rcases jwi_cases t (b := 4) 4 rfl (by omega) with ⟨j, hj, rfl, -⟩ | ⟨-, e4⟩
    · have m := h.missM j hj
      exact ⟨h.1.1, _, r4.1, r4.2.1, m.1, fun c => absurd c (by rw [m.2]; exact j0m1), fun _ => h2' c2 (fun c => cs ((jissheet_wi _).trans c))⟩
    · exact absurd ((jissheet_wi t).trans e4) cs
theorem F_lay {w u t : Int32} (h : FR S x) : jFi E mX10_lay (d + 3) 0 0 [.ref x, .int w, .int u, .int t] S (fun r S1 => jFm E mX11_lay (d + 3) (x + 94) [.int w, .int u, .int t] S1 (fun r' _ => r = r')) := by
  refine T_X10_lay ⟨h.1.1, c_X10_findSlot h.1 (fun c => ⟨fun _ => g_lay0 h.gm c rfl, fun b e => absurd e (by simp)⟩) (fun i hi e e1 => ⟨fun c => absurd c (by simp), fun b eb => ?_⟩)⟩
  obtain rfl : x + 74 + 4 * i = b := Option.some.inj eb
  subst e
  have kp : ∀ {S' : jM}, jch S S' (x + 74 + 4 * i) (x + 74 + 4 * i + 1) → GM S' x := fun c => h.gm.keep c (by omega)
  have hX := h.pi.1
  refine ⟨(h.1.sl i hi).1, fun c => ?_, fun c => ⟨h.1.1, T_X10_layMaster ⟨hX.1, x + 1, hX.2.1, hX.k3, x + 2, hX.r0, hX.g.1.1, f_find h ⟨fun _ => ?_, fun b e => absurd e (by simp)⟩⟩⟩, fun c => ⟨h.1.1, T_X10_laySheet ⟨h.1.1, c_X10_findSheet h.1 (fun c4 => ⟨fun _ => ?_, fun b e => absurd e (by simp)⟩) (fun j hj e e1 => ⟨fun c => absurd c (by simp), fun b eb => ?_⟩)⟩⟩, fun c => ?_, fun c0 c1 c2 c3 => ?_⟩
  · rw [h.empty i hi]
    subst c
    exact g_lay (kp (jch.put (by omega) (by omega))) hi (fun _ _ => rfl) (fun c => absurd c (by decide)) (fun c => absurd c (by decide)) (fun c => absurd c (by decide)) (fun c => absurd rfl c)
  · subst c
    exact g_lay h.gm hi (fun c => absurd c (by decide)) (fun _ => rfl) (fun c => absurd c (by decide)) (fun c => absurd c (by decide)) (fun _ c => absurd rfl c)
  · subst c
    exact g_lay h.gm hi (fun c => absurd c (by decide)) (fun c => absurd c (by decide)) (fun _ _ => rfl) (fun _ c => absurd c4 c) (fun _ _ c => absurd rfl c)
  · obtain rfl : x + 66 + 2 * j = b := Option.some.inj eb
    refine ⟨(h.1.sh j hj).1, fun _ => ?_, fun c => absurd (h.miss j hj) c⟩
    subst c
    exact g_lay h.gm hi (fun c => absurd c (by decide)) (fun c => absurd c (by decide)) (fun _ c => absurd c (by rw [e1]; decide)) (fun _ _ => rfl) (fun _ _ c => absurd rfl c)
  · rw [h.empty i hi]
    subst c
    exact g_lay (kp ((jch.put (by omega) (by omega)).trans (jch.put (by omega) (by omega)))) hi (fun _ _ => rfl) (fun c => absurd c (by decide)) (fun c => absurd c (by decide)) (fun c => absurd c (by decide)) (fun _ _ _ c => absurd rfl c)
  · exact g_lay h.gm hi (fun c => c.elim (fun c => absurd c c0) (fun c => absurd c c3)) (fun c => absurd c c1) (fun c => absurd c c2) (fun c => absurd c c2) (fun _ _ _ _ => rfl)
/-! texts -/
theorem RmR.n6 {r sz : Nat} {v : Nat → Int32} (h : RmR S r sz v) : ji S r 6 = v 1 := h.2.2.2.2.2.2.2.2
theorem jwi_0 (w : Int32) : jwi w 0 = 0 := by
  unfold jwi
  by_cases h : w < 0
  · rw [if_pos h]
  · rw [if_neg h, if_pos (Int32.not_lt.mp h)]
theorem jisin_n1 (w : Int32) : jisin (Int32.toInt64 w) 0 (Int32.toInt64 (0 - 1)) = 0 := by
  have e := jisin_int w 0 (0 - 1)
  refine (show _ = _ from e).trans ?_
  by_cases h : w < 0
  · rw [if_pos h]
  · rw [if_neg h, if_pos]
    rw [Int32.lt_iff_toInt_lt] at h ⊢
    have e1 : (0 - 1 : Int32).toInt = -1 := by decide
    have e2 : (0 : Int32).toInt = 0 := by decide
    rw [e1]; rw [e2] at h; omega
theorem f_findText {Q : Option Nat → jM → Prop} {w : Int32} (h : FR S x) (hq : Q none S) : jFr E mX3_findText (d + 1) 0 0 [.ref (x + 1), .int w] S Q :=
  T_X3_findText ⟨h.pi.1.k3, fun _ => hq, fun c => absurd (by rw [h.pi.1.2.2.n6]; exact jwi_0 w) c⟩
theorem f_isText {Q : Int32 → jM → Prop} {w : Int32} (h : FR S x) (hq : Q 0 S) : jFi E mX11_isText (d + 1) 0 0 [.ref (x + 94), .int w] S Q := by
  have hM := h.pi.2.1
  have i1 := hM.at (i := 1) 1 rfl (by omega)
  refine T_X11_isText ⟨hM.k, _, hM.r, hM.k1, i1.1, jisin01 _ _ _, ?_⟩
  rw [i1.2]
  have e : jisin (Int32.toInt64 w) 0 (Int32.toInt64 (v0 1 - 1)) = 0 := jisin_n1 w
  rw [e]; exact hq
theorem f_numberOfLaw {Q : Int32 → jM → Prop} {w : Int32} (h : FR S x) (hq : Q (-1) S) : jFi E mX3_numberOfLaw d 0 0 [.ref (x + 1), .int w] S Q :=
  T_X3_numberOfLaw (T_X3_numberOfLaw_4 ⟨h.pi.1.k3, fun _ => hq, fun c => absurd (by rw [h.pi.1.2.2.n6]; decide) c⟩)
theorem f_counts {Q : Int32 → jM → Prop} {w : Int32} (h : FR S x) (hq : Q (-1) S) : jFi E mX11_counts (d + 1) 0 0 [.ref (x + 94), .int w] S Q := by
  have hM := h.pi.2.1
  have i1 := hM.at (i := 1) 1 rfl (by omega)
  exact T_X11_counts (T_X11_counts_4 ⟨hM.k, _, hM.r, hM.k1, i1.1, fun _ => hq, fun c => absurd (by rw [i1.2]; decide) c⟩)
theorem F_textTold {w u : Int32} (h : FR S x) : jFi E mX10_textTold (d + 2) 0 0 [.ref x, .int w, .int u] S (fun r S1 => jFm E mX11_textTold (d + 2) (x + 94) [.int w, .int u] S1 (fun r' _ => r = r')) := by
  obtain ⟨hX, hM, -⟩ := h.pi
  refine T_X10_textTold ⟨hX.1, x + 1, hX.2.1, hX.k3, f_findText h ⟨fun _ => ?_, fun b e => absurd e (by simp)⟩⟩
  exact U_X11_textTold (by first | exact hM.k | exact hM1.k | exact hP.2.1.k | exact h.2.2.1.1 | exact h.1.1 | exact g1.1.1 | exact g3.1.1 | exact gm.1.1 | exact h2.1.1 | exact hM2.k | (rw [c1.1.1]; exact hP.2.1.k)) ⟨hM.k, f_isText h ⟨fun _ => rfl, fun c => absurd rfl c⟩⟩
theorem F_why {w : Int32} (h : FR S x) : jFi E mX10_why (d + 2) 0 0 [.ref x, .int w] S (fun r S1 => jFm E mX11_why (d + 2) (x + 94) [.int w] S1 (fun r' _ => r = r')) := by
  obtain ⟨hX, hM, -⟩ := h.pi
  have ew : jisin (Int32.toInt64 w) 0 2 = jwi w 3 := jisin_wi w 3 2 rfl (jle_lt (by decide))
  refine T_X10_why ⟨fun c => ?_, fun c => ⟨hX.1, x + 1, hX.2.1, hX.k3, f_numberOfLaw h ⟨fun c1 => absurd c1 j0m1, fun _ => ?_⟩⟩⟩
  · exact U_X11_why (by first | exact hM.k | exact hM1.k | exact hP.2.1.k | exact h.2.2.1.1 | exact h.1.1 | exact g1.1.1 | exact g3.1.1 | exact gm.1.1 | exact h2.1.1 | exact hM2.k | (rw [c1.1.1]; exact hP.2.1.k)) ⟨fun _ => rfl, fun c1 => absurd (ew.trans c) c1⟩
  · exact U_X11_why (by first | exact hM.k | exact hM1.k | exact hP.2.1.k | exact h.2.2.1.1 | exact h.1.1 | exact g1.1.1 | exact g3.1.1 | exact gm.1.1 | exact h2.1.1 | exact hM2.k | (rw [c1.1.1]; exact hP.2.1.k)) ⟨fun c1 => absurd (ew.symm.trans c1) c, fun _ => ⟨hM.k, f_counts h (by decide)⟩⟩
theorem F_fine (h : FR S x) : jFi E mX10_fine (d + 3) 0 0 [.ref x] S (fun r S1 => jFm E mX11_fine (d + 2) (x + 94) [] S1 (fun r' _ => r = r')) := by
  obtain ⟨hX, hM, -⟩ := h.pi
  have i5 := hM.at (i := 5) 5 rfl (by omega)
  refine T_X10_fine ⟨hX.1, x + 1, hX.2.1, hX.k3, T_X3_fineNow ⟨hX.k3, f_numberOfLaw h ⟨hX.k3, f_findText h ⟨fun _ => ⟨hX.k3, x + 16, hX.r2, hX.l.1.1, ?_⟩, fun b e => absurd e (by simp)⟩⟩⟩⟩
  refine U_X11_fine (by first | exact hM.k | exact hM1.k | exact hP.2.1.k | exact h.2.2.1.1 | exact h.1.1 | exact g1.1.1 | exact g3.1.1 | exact gm.1.1 | exact h2.1.1 | exact hM2.k | (rw [c1.1.1]; exact hP.2.1.k)) ⟨hM.k, f_counts h ⟨fun c1 => absurd c1 j0m1, fun _ => ⟨hM.k, _, hM.r, hM.k1, i5.1, ?_⟩⟩⟩
  rw [i5.2]; exact hX.l.2.2.2.1
theorem F_trim {w : Int32} (h : FR S x) : jFi E mX10_trim d 0 0 [.ref x, .int w] S (fun r S1 => jFm E mX11_trim (d + 1) (x + 94) [.int w] S1 (fun r' _ => r = r')) := by
  have ht := h.2.1.2.2.2.2.2.1
  have ew : ∀ t : Int32, jisin (Int32.toInt64 w) 0 (Int32.toInt64 t) = if w < 0 then 0 else if t < w then 0 else 1 := fun t => jisin_int w 0 t
  have k8 : jk S (x + 60) = 8 := h.1.2.2.2.1.1
  refine T_X10_trim ⟨fun c => ?_, fun c => ⟨h.1.1, x + 60, h.1.2.1.2.2.2.2.1, k8, fun c2 => ?_, fun c2 => ?_⟩⟩
  · exact U_X11_trim (by first | exact hM.k | exact hM1.k | exact hP.2.1.k | exact h.2.2.1.1 | exact h.1.1 | exact g1.1.1 | exact g3.1.1 | exact gm.1.1 | exact h2.1.1 | exact hM2.k | (rw [c1.1.1]; exact hP.2.1.k)) ⟨h.2.2.1.1, fun _ => rfl, fun c3 => absurd (by rw [ew, if_pos c]) c3⟩
  · have h2 := h.gm.keep (jch.put (S := S) (a := x + 60) (j := 1) (v := w) (lo := x + 60) (hi := x + 61) (by omega) (by omega)) (by omega)
    rw [ht] at c2
    refine U_X11_trim (by first | exact hM.k | exact hM1.k | exact hP.2.1.k | exact h.2.2.1.1 | exact h.1.1 | exact g1.1.1 | exact g3.1.1 | exact gm.1.1 | exact h2.1.1 | exact hM2.k | (rw [c1.1.1]; exact hP.2.1.k)) ⟨h2.1.1, fun c3 => absurd c3 ?_, fun _ => rfl⟩
    rw [h2.2.1, ew, if_neg c, if_neg (Int32.not_lt.mpr c2)]; decide
  · rw [ht] at c2
    exact U_X11_trim (by first | exact hM.k | exact hM1.k | exact hP.2.1.k | exact h.2.2.1.1 | exact h.1.1 | exact g1.1.1 | exact g3.1.1 | exact gm.1.1 | exact h2.1.1 | exact hM2.k | (rw [c1.1.1]; exact hP.2.1.k)) ⟨h.2.2.1.1, fun _ => rfl, fun c3 => absurd (by rw [h.m0, ew, if_neg c, if_pos (Int32.not_le.mp c2)]) c3⟩
end jFresh2
