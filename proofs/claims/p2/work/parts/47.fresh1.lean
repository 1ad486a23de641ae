/-! ONE CALL ON FRESH OBJECTS, first part: what is refused, what is not there -/
def FR (S : jM) (x : Nat) : Prop := CL S x ∧ CN S x ∧ ML S (x + 94) ∧ MN S (x + 94)
section jFresh1
variable {E : jEnv} {d : Nat} {S : jM} {x : Nat}
theorem FR.pi (h : FR S x) : PI S x 0 v0 := PI_start h.1 h.2.1 h.2.2.1 h.2.2.2
theorem FR.row (h : FR S x) (k n : Nat) {f : Nat} (hk : MT[k]? = some (f, n)) : jr S (x + 94) f = some (x + 95 + k) ∧ jk S (x + 95 + k) = 12 ∧ jl S (x + 95 + k) = n := by
  have := h.2.2.1.2 k (f, n) hk
  rw [show x + 94 + 1 + k = x + 95 + k by omega] at this
  exact this
theorem FR.zero (h : FR S x) (k : Nat) (h1 : 1 ≤ k) (h2 : k < 20) (h3 : k ≠ 3) (j : Nat) : ji S (x + 95 + k) j = 0 := by
  have := h.2.2.2.2.2.2 k h1 h2 h3 j
  rw [show x + 94 + 1 + k = x + 95 + k by omega] at this
  exact this
theorem f_find {Q : Option Nat → jM → Prop} {w : Int32} (h : FR S x) (hq : Q none S) : jFr E mX0_find (d + 1) 0 0 [.ref (x + 2), .int w] S Q :=
  c_X0_find h.pi.1.g.1 h.pi.1.g.2.1 h.pi.1.sz9 (fun n hn => absurd hn (Nat.not_lt_zero _)) (fun _ => hq)
theorem f_isMaster {Q : Int32 → jM → Prop} {w : Int32} (h : FR S x) (hq : Q 0 S) : jFi E mX11_isMaster (d + 1) 0 0 [.ref (x + 94), .int w] S Q :=
  c_X11_isMaster (sz := 0) h.pi.2.1 rfl (by omega) (fun j hj => absurd hj (Nat.not_lt_zero _)) (fun _ => hq)
theorem F_told {w u : Int32} (h : FR S x) : jFi E mX10_told (d + 2) 0 0 [.ref x, .int w, .int u] S (fun r S1 => jFm E mX11_told (d + 2) (x + 94) [.int w, .int u] S1 (fun r' _ => r = r')) := by
  obtain ⟨hX, hM, -⟩ := h.pi
  refine T_X10_told ⟨hX.1, x + 1, hX.2.1, hX.k3, x + 2, hX.r0, hX.g.1.1, f_find h ⟨fun _ => ?_, fun b e => absurd e (by simp)⟩⟩
  exact U_X11_told (by first | exact hM.k | exact hM1.k | exact hP.2.1.k | exact h.2.2.1.1 | exact h.1.1 | exact g1.1.1 | exact g3.1.1 | exact gm.1.1 | exact h2.1.1 | exact hM2.k | (rw [c1.1.1]; exact hP.2.1.k)) ⟨hM.k, f_isMaster h ⟨fun _ => rfl, fun c => absurd rfl c⟩⟩
theorem F_learn {w : Int32} (h : FR S x) : jFi E mX10_learn (d + 2) 0 0 [.ref x, .int w] S (fun r S1 => jFm E mX11_learn (d + 2) (x + 94) [.int w] S1 (fun r' _ => r = r')) := by
  obtain ⟨hX, hM, -⟩ := h.pi
  refine T_X10_learn ⟨hX.1, x + 1, hX.2.1, hX.k3, x + 2, hX.r0, hX.g.1.1, f_find h ⟨fun _ => ?_, fun b e => absurd e (by simp)⟩⟩
  exact U_X11_learn (by first | exact hM.k | exact hM1.k | exact hP.2.1.k | exact h.2.2.1.1 | exact h.1.1 | exact g1.1.1 | exact g3.1.1 | exact gm.1.1 | exact h2.1.1 | exact hM2.k | (rw [c1.1.1]; exact hP.2.1.k)) ⟨hM.k, f_isMaster h ⟨fun _ => rfl, fun c => absurd rfl c⟩⟩
theorem F_fame {w : Int32} (h : FR S x) : jFi E mX10_fame (d + 2) 0 0 [.ref x, .int w] S (fun r S1 => jFm E mX11_fame (d + 2) (x + 94) [.int w] S1 (fun r' _ => r = r')) := by
  obtain ⟨hX, hM, -⟩ := h.pi
  refine T_X10_fame ⟨hX.1, x + 1, hX.2.1, hX.k3, x + 2, hX.r0, hX.g.1.1, f_find h ⟨fun _ => ?_, fun b e => absurd e (by simp)⟩⟩
  exact U_X11_fame (by first | exact hM.k | exact hM1.k | exact hP.2.1.k | exact h.2.2.1.1 | exact h.1.1 | exact g1.1.1 | exact g3.1.1 | exact gm.1.1 | exact h2.1.1 | exact hM2.k | (rw [c1.1.1]; exact hP.2.1.k)) ⟨hM.k, f_isMaster h ⟨fun _ => rfl, fun c => absurd rfl c⟩⟩
/-! sheets -/
theorem c_X10_findSheet {Q : Option Nat → jM → Prop} {w : Int32} (hC : CL S x) (h0 : jwi w 4 = 0 → Q none S) (h1 : ∀ i, i < 4 → w = nI i → jwi w 4 = 1 → Q (some (x + 66 + 2 * i)) S) : jFr E mX10_findSheet (d + 1) 0 0 [.ref x, .int w] S Q := by
  obtain ⟨a1, ⟨-, -, -, -, -, r6, -, -⟩, -, -, ⟨b1, b2, b3⟩, -⟩ := hC
  refine T_X10_findSheet ⟨h0, fun c => ⟨a1, x + 63, r6, b1, ?_⟩⟩
  rcases jwi_cases w (b := 4) 4 rfl (by omega) with ⟨i, hi, e, e1⟩ | ⟨-, e⟩
  · rw [e, b2, jcl (by omega)]
    exact ⟨jin_nI hi (by omega), x + 66 + 2 * i, b3 i hi, h1 i hi e e1⟩
  · exact absurd e c
theorem c_X10_findSlot {Q : Option Nat → jM → Prop} {w : Int32} (hC : CL S x) (h0 : jwi w 5 = 0 → Q none S) (h1 : ∀ i, i < 5 → w = nI i → jwi w 5 = 1 → Q (some (x + 74 + 4 * i)) S) : jFr E mX10_findSlot (d + 1) 0 0 [.ref x, .int w] S Q := by
  obtain ⟨a1, ⟨-, -, -, -, -, -, r7, -⟩, -, -, -, ⟨b1, b2, b3⟩, -⟩ := hC
  refine T_X10_findSlot ⟨h0, fun c => ⟨a1, x + 64, r7, b1, ?_⟩⟩
  rcases jwi_cases w (b := 5) 5 rfl (by omega) with ⟨i, hi, e, e1⟩ | ⟨-, e⟩
  · rw [e, b2, jcl (by omega)]
    exact ⟨jin_nI hi (by omega), x + 74 + 4 * i, b3 i hi, h1 i hi e e1⟩
  · exact absurd e c
theorem jissheet_wi (w : Int32) : jissheet w = jwi w 4 := jisin_wi w 4 3 rfl (jle_lt (by decide))
theorem jisslot_wi (w : Int32) : jisslot w = jwi w 5 := jisin_wi w 5 4 rfl (jle_lt (by decide))
theorem CL.sh (hC : CL S x) (i : Nat) (hi : i < 4) : ShL S (x + 66 + 2 * i) (x + 67 + 2 * i) := hC.2.2.2.2.2.2.2.1 i hi
theorem CL.sl (hC : CL S x) (i : Nat) (hi : i < 5) : SlL S (x + 74 + 4 * i) := hC.2.2.2.2.2.2.2.2 i hi
/-- a sheet that is missing, on both sides -/
theorem FR.miss (h : FR S x) (i : Nat) (hi : i < 4) : ji S (x + 66 + 2 * i) 0 = -1 := (h.2.1.2.2.2.2.2.2.2.1 i hi).1
theorem FR.missM (h : FR S x) (i : Nat) (hi : i < 4) : vp_in (nI i) (jl S (x + 98)) ∧ ji S (x + 98) (Int32.toNatClampNeg (nI i)) = -1 := by
  have r := h.row 3 4 (f := 4) rfl
  have z := h.2.2.2.2.2.1 i hi
  rw [jcl (by omega), r.2.2]
  exact ⟨jin_nI hi (by omega), z⟩
theorem FR.empty (h : FR S x) (i : Nat) (hi : i < 5) : ji S (x + 74 + 4 * i) 0 = 0 := h.2.1.2.2.2.2.2.2.2.2.1 i hi
theorem FR.emptyM (h : FR S x) (i : Nat) (hi : i < 5) : vp_in (nI i) (jl S (x + 101)) ∧ ji S (x + 101) (Int32.toNatClampNeg (nI i)) = 0 := by
  have r := h.row 6 5 (f := 7) rfl
  rw [jcl (by omega), r.2.2]
  exact ⟨jin_nI hi (by omega), h.zero 6 (by omega) (by omega) (by omega) i⟩
theorem j0m1 : ¬ (0 : Int32) ≤ -1 := by decide
theorem F_mark {w u t : Int32} (h : FR S x) : jFi E mX10_mark (d + 2) 0 0 [.ref x, .int w, .int u, .int t] S (fun r S1 => jFm E mX11_mark (d + 2) (x + 94) [.int w, .int u, .int t] S1 (fun r' _ => r = r')) := by
  refine T_X10_mark ⟨h.1.1, c_X10_findSheet h.1 (fun c => ⟨fun _ => ?_, fun b e => absurd e (by simp)⟩) (fun i hi e e1 => ⟨fun c => absurd c (by simp), fun b eb => ?_⟩)⟩
  · exact U_X11_mark (by first | exact hM.k | exact hM1.k | exact hP.2.1.k | exact h.2.2.1.1 | exact h.1.1 | exact g1.1.1 | exact g3.1.1 | exact gm.1.1 | exact h2.1.1 | exact hM2.k | (rw [c1.1.1]; exact hP.2.1.k)) ⟨fun _ => rfl, fun c2 => absurd ((jissheet_wi w).trans c) c2⟩
  · obtain rfl : x + 66 + 2 * i = b := Option.some.inj eb
    refine ⟨(h.1.sh i hi).1, fun _ => ?_, fun c => absurd (h.miss i hi) c⟩
    have r := h.row 3 4 (f := 4) rfl
    have m := h.missM i hi
    subst e
    refine U_X11_mark (by first | exact hM.k | exact hM1.k | exact hP.2.1.k | exact h.2.2.1.1 | exact h.1.1 | exact g1.1.1 | exact g3.1.1 | exact gm.1.1 | exact h2.1.1 | exact hM2.k | (rw [c1.1.1]; exact hP.2.1.k)) ⟨fun c2 => absurd ((jissheet_wi _).symm.trans c2) (by rw [e1]; decide), fun _ => ⟨h.2.2.1.1, _, r.1, r.2.1, m.1, fun c => absurd c (by rw [m.2]; exact j0m1), fun _ => rfl⟩⟩
theorem F_pour {w : Int32} (h : FR S x) : jFi E mX10_pour (d + 2) 0 0 [.ref x, .int w] S (fun r S1 => jFm E mX11_pour (d + 2) (x + 94) [.int w] S1 (fun r' _ => r = r')) := by
  refine T_X10_pour ⟨h.1.1, c_X10_findSheet h.1 (fun c => ⟨fun _ => ?_, fun b e => absurd e (by simp)⟩) (fun i hi e e1 => ⟨fun c => absurd c (by simp), fun b eb => ?_⟩)⟩
  · exact U_X11_pour (by first | exact hM.k | exact hM1.k | exact hP.2.1.k | exact h.2.2.1.1 | exact h.1.1 | exact g1.1.1 | exact g3.1.1 | exact gm.1.1 | exact h2.1.1 | exact hM2.k | (rw [c1.1.1]; exact hP.2.1.k)) ⟨fun _ => rfl, fun c2 => absurd ((jissheet_wi w).trans c) c2⟩
  · obtain rfl : x + 66 + 2 * i = b := Option.some.inj eb
    refine ⟨(h.1.sh i hi).1, fun _ => ?_, fun c => absurd (h.miss i hi) c⟩
    have r := h.row 3 4 (f := 4) rfl
    have m := h.missM i hi
    subst e
    refine U_X11_pour (by first | exact hM.k | exact hM1.k | exact hP.2.1.k | exact h.2.2.1.1 | exact h.1.1 | exact g1.1.1 | exact g3.1.1 | exact gm.1.1 | exact h2.1.1 | exact hM2.k | (rw [c1.1.1]; exact hP.2.1.k)) ⟨fun c2 => absurd ((jissheet_wi _).symm.trans c2) (by rw [e1]; decide), fun _ => ⟨h.2.2.1.1, _, r.1, r.2.1, m.1, fun c => absurd c (by rw [m.2]; exact j0m1), fun _ => rfl⟩⟩
theorem F_reads {w : Int32} (h : FR S x) : jFi E mX10_reads (d + 2) 0 0 [.ref x, .int w] S (fun r S1 => jFm E mX11_reads (d + 2) (x + 94) [.int w] S1 (fun r' _ => r = r')) := by
  refine T_X10_reads ⟨h.1.1, c_X10_findSheet h.1 (fun c => ⟨fun _ => ?_, fun b e => absurd e (by simp)⟩) (fun i hi e e1 => ⟨fun c => absurd c (by simp), fun b eb => ?_⟩)⟩
  · exact U_X11_reads (by first | exact hM.k | exact hM1.k | exact hP.2.1.k | exact h.2.2.1.1 | exact h.1.1 | exact g1.1.1 | exact g3.1.1 | exact gm.1.1 | exact h2.1.1 | exact hM2.k | (rw [c1.1.1]; exact hP.2.1.k)) ⟨fun _ => rfl, fun c2 => absurd ((jissheet_wi w).trans c) c2⟩
  · obtain rfl : x + 66 + 2 * i = b := Option.some.inj eb
    refine ⟨(h.1.sh i hi).1, fun _ => ?_, fun c => absurd (h.miss i hi) c⟩
    have r := h.row 3 4 (f := 4) rfl
    have m := h.missM i hi
    subst e
    refine U_X11_reads (by first | exact hM.k | exact hM1.k | exact hP.2.1.k | exact h.2.2.1.1 | exact h.1.1 | exact g1.1.1 | exact g3.1.1 | exact gm.1.1 | exact h2.1.1 | exact hM2.k | (rw [c1.1.1]; exact hP.2.1.k)) ⟨fun c2 => absurd ((jissheet_wi _).symm.trans c2) (by rw [e1]; decide), fun _ => ⟨h.2.2.1.1, _, r.1, r.2.1, m.1, fun c => absurd c (by rw [m.2]; exact j0m1), fun _ => rfl⟩⟩
theorem F_cut {w u : Int32} (h : FR S x) : jFi E mX10_cut (d + 2) 0 0 [.ref x, .int w, .int u] S (fun r S1 => jFm E mX11_cut (d + 2) (x + 94) [.int w, .int u] S1 (fun r' _ => r = r')) := by
  have eu : jisin (Int32.toInt64 u) 0 1 = jwi u 2 := jisin_wi u 2 1 rfl (jle_lt (by decide))
  refine T_X10_cut ⟨h.1.1, c_X10_findSheet h.1 (fun c => ⟨fun _ => ?_, fun b e => absurd e (by simp)⟩) (fun i hi e e1 => ⟨fun c => absurd c (by simp), fun b eb => ⟨fun cu => ?_, fun cu => ?_⟩⟩)⟩
  · exact U_X11_cut (by first | exact hM.k | exact hM1.k | exact hP.2.1.k | exact h.2.2.1.1 | exact h.1.1 | exact g1.1.1 | exact g3.1.1 | exact gm.1.1 | exact h2.1.1 | exact hM2.k | (rw [c1.1.1]; exact hP.2.1.k)) ⟨fun _ => rfl, fun c2 => absurd ((jissheet_wi w).trans c) c2⟩
  · exact U_X11_cut (by first | exact hM.k | exact hM1.k | exact hP.2.1.k | exact h.2.2.1.1 | exact h.1.1 | exact g1.1.1 | exact g3.1.1 | exact gm.1.1 | exact h2.1.1 | exact hM2.k | (rw [c1.1.1]; exact hP.2.1.k)) ⟨fun _ => rfl, fun _ => ⟨fun _ => rfl, fun c2 => absurd (eu.trans cu) c2⟩⟩
  · obtain rfl : x + 66 + 2 * i = b := Option.some.inj eb
    refine ⟨(h.1.sh i hi).1, fun _ => ?_, fun c => absurd (h.miss i hi) c⟩
    have r := h.row 3 4 (f := 4) rfl
    have m := h.missM i hi
    subst e
    refine U_X11_cut (by first | exact hM.k | exact hM1.k | exact hP.2.1.k | exact h.2.2.1.1 | exact h.1.1 | exact g1.1.1 | exact g3.1.1 | exact gm.1.1 | exact h2.1.1 | exact hM2.k | (rw [c1.1.1]; exact hP.2.1.k)) ⟨fun c2 => absurd ((jissheet_wi _).symm.trans c2) (by rw [e1]; decide), fun _ => ⟨fun c2 => absurd (eu.symm.trans c2) cu, fun _ => ⟨h.2.2.1.1, _, r.1, r.2.1, m.1, fun c => absurd c (by rw [m.2]; exact j0m1), fun _ => rfl⟩⟩⟩
/-! slots -/
theorem F_item {w u : Int32} (h : FR S x) : jFi E mX10_item (d + 2) 0 0 [.ref x, .int w, .int u] S (fun r S1 => jFm E mX11_item (d + 2) (x + 94) [.int w, .int u] S1 (fun r' _ => r = r')) := by
  refine T_X10_item ⟨h.1.1, c_X10_findSlot h.1 (fun c => ⟨fun _ => ?_, fun b e => absurd e (by simp)⟩) (fun i hi e e1 => ⟨fun c => absurd c (by simp), fun b eb => ?_⟩)⟩
  · exact U_X11_item (by first | exact hM.k | exact hM1.k | exact hP.2.1.k | exact h.2.2.1.1 | exact h.1.1 | exact g1.1.1 | exact g3.1.1 | exact gm.1.1 | exact h2.1.1 | exact hM2.k | (rw [c1.1.1]; exact hP.2.1.k)) ⟨fun _ => rfl, fun c2 => absurd ((jisslot_wi w).trans c) c2⟩
  · obtain rfl : x + 74 + 4 * i = b := Option.some.inj eb
    refine ⟨(h.1.sl i hi).1, fun _ => ?_, fun c => absurd (h.empty i hi) c⟩
    have r := h.row 6 5 (f := 7) rfl
    have m := h.emptyM i hi
    subst e
    refine U_X11_item (by first | exact hM.k | exact hM1.k | exact hP.2.1.k | exact h.2.2.1.1 | exact h.1.1 | exact g1.1.1 | exact g3.1.1 | exact gm.1.1 | exact h2.1.1 | exact hM2.k | (rw [c1.1.1]; exact hP.2.1.k)) ⟨fun c2 => absurd ((jisslot_wi _).symm.trans c2) (by rw [e1]; decide), fun _ => ⟨h.2.2.1.1, _, r.1, r.2.1, m.1, fun c => absurd c (by rw [m.2]; decide), fun _ => ⟨fun _ => rfl, fun c => absurd m.2 c⟩⟩⟩
theorem F_rest {w u : Int32} (h : FR S x) : jFi E mX10_rest (d + 2) 0 0 [.ref x, .int w, .int u] S (fun r S1 => jFm E mX11_rest (d + 2) (x + 94) [.int w, .int u] S1 (fun r' _ => r = r')) := by
  refine T_X10_rest ⟨h.1.1, c_X10_findSlot h.1 (fun c => ⟨fun _ => ?_, fun b e => absurd e (by simp)⟩) (fun i hi e e1 => ⟨fun c => absurd c (by simp), fun b eb => ?_⟩)⟩
  · exact U_X11_rest (by first | exact hM.k | exact hM1.k | exact hP.2.1.k | exact h.2.2.1.1 | exact h.1.1 | exact g1.1.1 | exact g3.1.1 | exact gm.1.1 | exact h2.1.1 | exact hM2.k | (rw [c1.1.1]; exact hP.2.1.k)) ⟨fun _ => rfl, fun c2 => absurd ((jisslot_wi w).trans c) c2⟩
  · obtain rfl : x + 74 + 4 * i = b := Option.some.inj eb
    refine ⟨(h.1.sl i hi).1, fun _ => ?_, fun c => absurd (h.empty i hi) c⟩
    have r := h.row 6 5 (f := 7) rfl
    have m := h.emptyM i hi
    subst e
    refine U_X11_rest (by first | exact hM.k | exact hM1.k | exact hP.2.1.k | exact h.2.2.1.1 | exact h.1.1 | exact g1.1.1 | exact g3.1.1 | exact gm.1.1 | exact h2.1.1 | exact hM2.k | (rw [c1.1.1]; exact hP.2.1.k)) ⟨fun c2 => absurd ((jisslot_wi _).symm.trans c2) (by rw [e1]; decide), fun _ => ⟨h.2.2.1.1, _, r.1, r.2.1, m.1, fun c => absurd c (by rw [m.2]; decide), fun _ => ⟨fun _ => rfl, fun c => absurd m.2 c⟩⟩⟩
theorem F_ask {w u : Int32} (h : FR S x) : jFi E mX10_ask (d + 2) 0 0 [.ref x, .int w, .int u] S (fun r S1 => jFm E mX11_ask (d + 2) (x + 94) [.int w, .int u] S1 (fun r' _ => r = r')) := by
  have eu : jisin (Int32.toInt64 u) 0 5 = jwi u 6 := jisin_wi u 6 5 rfl (jle_lt (by decide))
  refine T_X10_ask ⟨h.1.1, c_X10_findSlot h.1 (fun c => ⟨fun _ => ?_, fun b e => absurd e (by simp)⟩) (fun i hi e e1 => ⟨fun c => absurd c (by simp), fun b eb => ⟨fun cu => ?_, fun cu => ?_⟩⟩)⟩
  · exact U_X11_ask (by first | exact hM.k | exact hM1.k | exact hP.2.1.k | exact h.2.2.1.1 | exact h.1.1 | exact g1.1.1 | exact g3.1.1 | exact gm.1.1 | exact h2.1.1 | exact hM2.k | (rw [c1.1.1]; exact hP.2.1.k)) ⟨fun _ => rfl, fun c2 => absurd ((jisslot_wi w).trans c) c2⟩
  · exact U_X11_ask (by first | exact hM.k | exact hM1.k | exact hP.2.1.k | exact h.2.2.1.1 | exact h.1.1 | exact g1.1.1 | exact g3.1.1 | exact gm.1.1 | exact h2.1.1 | exact hM2.k | (rw [c1.1.1]; exact hP.2.1.k)) ⟨fun _ => rfl, fun _ => ⟨fun _ => rfl, fun c2 => absurd (eu.trans cu) c2⟩⟩
  · obtain rfl : x + 74 + 4 * i = b := Option.some.inj eb
    refine ⟨(h.1.sl i hi).1, fun _ => ?_, fun c => absurd (h.empty i hi) c⟩
    have r := h.row 6 5 (f := 7) rfl
    have m := h.emptyM i hi
    subst e
    refine U_X11_ask (by first | exact hM.k | exact hM1.k | exact hP.2.1.k | exact h.2.2.1.1 | exact h.1.1 | exact g1.1.1 | exact g3.1.1 | exact gm.1.1 | exact h2.1.1 | exact hM2.k | (rw [c1.1.1]; exact hP.2.1.k)) ⟨fun c2 => absurd ((jisslot_wi _).symm.trans c2) (by rw [e1]; decide), fun _ => ⟨fun c2 => absurd (eu.symm.trans c2) cu, fun _ => ⟨h.2.2.1.1, _, r.1, r.2.1, m.1, fun _ => rfl, fun c => absurd m.2 c⟩⟩⟩
/-! texts, images, numbers that wait -/
theorem FR.x0 (h : FR S x) (j : Nat) : ji S x j = 0 := by rw [h.2.1.2.2.2.2.2.2.2.2.2]
theorem FR.m0 (h : FR S x) (j : Nat) : ji S (x + 94) j = 0 := h.2.2.2.1 j
theorem F_back (h : FR S x) : jFi E mX10_back (d + 1) 0 0 [.ref x] S (fun r S1 => jFm E mX11_back (d + 1) (x + 94) [] S1 (fun r' _ => r = r')) := by
  refine T_X10_back ⟨h.1.1, fun _ => ?_, fun c => absurd (h.x0 2) c⟩
  exact U_X11_back (by first | exact hM.k | exact hM1.k | exact hP.2.1.k | exact h.2.2.1.1 | exact h.1.1 | exact g1.1.1 | exact g3.1.1 | exact gm.1.1 | exact h2.1.1 | exact hM2.k | (rw [c1.1.1]; exact hP.2.1.k)) ⟨h.2.2.1.1, fun _ => rfl, fun c => absurd (h.m0 3) c⟩
theorem F_tell {w : Int32} (h : FR S x) : jFi E mX10_tell (d + 1) 0 0 [.ref x, .int w] S (fun r S1 => jFm E mX11_tell (d + 1) (x + 94) [.int w] S1 (fun r' _ => r = r')) := by
  have hl := h.1.2.2.2.2.2.2.1
  refine T_X10_tell ⟨h.1.1, fun c => absurd c (by rw [h.x0 9]; decide), fun _ => ⟨x + 65, h.1.2.1.2.2.2.2.2.2.2, hl.1, by rw [h.x0 9, hl.2]; exact jin_nI (n := 0) (by omega) (by omega), ?_⟩⟩
  have r := h.row 18 60 (f := 33) rfl
  have e9 : ∀ j, ji (jput (jput S (x + 65) (Int32.toNatClampNeg (ji S x 9)) w) x 9 (ji S x 9 + 1)) (x + 94) j = 0 := fun j => by
    rw [ji_put_ne _ _ _ _ (by omega), ji_put_ne _ _ _ _ (by omega)]; exact h.m0 j
  refine U_X11_tell (by first | exact hM.k | exact hM1.k | exact hP.2.1.k | exact h.2.2.1.1 | exact h.1.1 | exact g1.1.1 | exact g3.1.1 | exact gm.1.1 | exact h2.1.1 | exact hM2.k | (rw [c1.1.1]; exact hP.2.1.k)) ⟨h.2.2.1.1, fun c => absurd c (by rw [e9]; decide), fun _ => ⟨_, r.1, r.2.1, ?_, ?_⟩⟩
  · rw [e9]; show vp_in 0 (jl S (x + 95 + 18)); rw [r.2.2]; exact jin_nI (n := 0) (by omega) (by omega)
  · rw [e9, h.x0 9]
theorem F_check {w : Int32} (h : FR S x) : jFi E mX10_check (d + 1) 0 0 [.ref x, .int w] S (fun r S1 => jFm E mX11_check (d + 1) (x + 94) [.int w] S1 (fun r' _ => r = r')) := by
  have e9 : ∀ j, ji (jput S x 9 0) (x + 94) j = 0 := fun j => by
    rw [ji_put_ne _ _ _ _ (by omega)]; exact h.m0 j
  have ew : jisin (Int32.toInt64 w) 1 30 = if w < 1 then 0 else if 30 < w then 0 else 1 := jisin_int w 1 30
  refine T_X10_check ⟨h.1.1, fun c => ?_, fun c => ⟨fun c2 => ⟨fun _ => ?_, fun c3 => absurd (h.x0 2) c3⟩, fun c2 => ?_⟩⟩
  · exact U_X11_check (by first | exact hM.k | exact hM1.k | exact hP.2.1.k | exact h.2.2.1.1 | exact h.1.1 | exact g1.1.1 | exact g3.1.1 | exact gm.1.1 | exact h2.1.1 | exact hM2.k | (rw [c1.1.1]; exact hP.2.1.k)) ⟨h.2.2.1.1, fun _ => rfl, fun c3 => absurd (by rw [ew, if_pos c]) c3⟩
  · exact U_X11_check (by first | exact hM.k | exact hM1.k | exact hP.2.1.k | exact h.2.2.1.1 | exact h.1.1 | exact g1.1.1 | exact g3.1.1 | exact gm.1.1 | exact h2.1.1 | exact hM2.k | (rw [c1.1.1]; exact hP.2.1.k)) ⟨h.2.2.1.1, fun c3 => absurd c3 (by rw [ew, if_neg c, if_neg (Int32.not_lt.mpr c2)]; decide), fun _ => ⟨fun _ => rfl, fun c3 => absurd (e9 3) c3⟩⟩
  · exact U_X11_check (by first | exact hM.k | exact hM1.k | exact hP.2.1.k | exact h.2.2.1.1 | exact h.1.1 | exact g1.1.1 | exact g3.1.1 | exact gm.1.1 | exact h2.1.1 | exact hM2.k | (rw [c1.1.1]; exact hP.2.1.k)) ⟨h.2.2.1.1, fun _ => rfl, fun c3 => absurd (by rw [ew, if_neg c, if_pos (Int32.not_le.mp c2)]) c3⟩
end jFresh1
