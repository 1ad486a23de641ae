/-! TOGETHER, NEVER on both sides -/
def tb (a : Int32) (k : Nat) : Bool := a.toBitVec.getLsbD k
theorem tb_ext {a b : Int32} (h : ∀ k, k < 32 → tb a k = tb b k) : a = b := by
  apply Int32.toBitVec_inj.mp
  apply BitVec.eq_of_getLsbD_eq
  exact h
theorem tb_and (a b : Int32) (k : Nat) : tb (a &&& b) k = (tb a k && tb b k) := by
  show (a.toBitVec &&& b.toBitVec).getLsbD k = _
  rw [BitVec.getLsbD_and]; rfl
theorem tb_or (a b : Int32) (k : Nat) : tb (a ||| b) k = (tb a k || tb b k) := by
  show (a.toBitVec ||| b.toBitVec).getLsbD k = _
  rw [BitVec.getLsbD_or]; rfl
theorem tb_not (a : Int32) {k : Nat} (h : k < 32) : tb (a ^^^ (-1)) k = !tb a k := by
  show (a.toBitVec ^^^ BitVec.allOnes 32).getLsbD k = _
  rw [BitVec.getLsbD_xor, BitVec.getLsbD_allOnes]
  simp [h, tb]
theorem tb_0 (k : Nat) : tb 0 k = false := by
  show (0#32).getLsbD k = false
  simp
theorem tb_bitF : ∀ g : Fin 10, ∀ k : Fin 32, tb (jshl 1 (nI g.val)) k.val = decide (k.val = g.val) := by decide +kernel
theorem tb_bit {g k : Nat} (hg : g < 10) (hk : k < 32) : tb (jshl 1 (nI g)) k = decide (k = g) := tb_bitF ⟨g, hg⟩ ⟨k, hk⟩
theorem tb_z {a : Int32} : a = 0 ↔ ∀ k, k < 32 → tb a k = false := ⟨fun h k _ => by rw [h]; exact tb_0 k, fun h => tb_ext (fun k hk => by rw [h k hk, tb_0])⟩
theorem tb_nz {a : Int32} (h : ¬ a = 0) : ∃ k, k < 32 ∧ tb a k = true := by
  refine Classical.byContradiction (fun hn => h (tb_z.mpr (fun k hk => ?_)))
  cases e : tb a k
  · rfl
  · exact absurd ⟨k, hk, e⟩ hn
/-- a bit is in, or not -/
theorem tb_in {a : Int32} {g : Nat} (hg : g < 10) : (a &&& jshl 1 (nI g) = 0) ↔ tb a g = false := by
  rw [tb_z]
  constructor
  · intro h
    have := h g (by omega)
    rw [tb_and, tb_bit hg (by omega)] at this
    simpa using this
  · intro h k hk
    rw [tb_and, tb_bit hg hk]
    by_cases e : k = g
    · subst e; rw [h]; rfl
    · simp [e]
theorem tb_in1 {a : Int32} {g : Nat} (hg : g < 10) : (¬ a &&& jshl 1 (nI g) = 0) ↔ tb a g = true := by
  rw [tb_in hg]; simp
def tsub (a b : Int32) : Prop := ∀ k, k < 32 → tb a k = true → tb b k = true
theorem tsub_and {a b : Int32} (h : tsub a b) : b &&& a = a := tb_ext (fun k hk => by
  rw [tb_and]
  cases e : tb a k
  · simp
  · rw [h k hk e]; rfl)
theorem tsub_lt {a : Int32} {k : Nat} (hk : k < 1024) (h : tsub a (nI k)) : ∃ j, j < 1024 ∧ a = nI j := by
  obtain ⟨j, hj, e⟩ := nI_andle hk a
  rw [tsub_and h] at e
  exact ⟨j, hj, e⟩
theorem jbc_z : ∀ k : Fin 1024, jbc (nI k.val) = 0 → nI k.val = 0 := by decide +kernel
theorem jbc_s : ∀ k : Fin 1024, ∀ g : Fin 10, ¬ (nI k.val &&& jshl 1 (nI g.val) = 0) → jbc (nI k.val &&& (jshl 1 (nI g.val) ^^^ (-1))) + 1 = jbc (nI k.val) := by decide +kernel
theorem j_new (w kn b : Int32) : w &&& ((kn ||| b) ^^^ (-1)) = (w &&& (kn ^^^ (-1))) &&& (b ^^^ (-1)) := tb_ext (fun k hk => by
  rw [tb_and, tb_not _ hk, tb_or, tb_and, tb_and, tb_not _ hk, tb_not _ hk]
  cases tb w k <;> cases tb kn k <;> cases tb b k <;> rfl)
section jTog
variable {E : jEnv} {d : Nat} {S S' : jM} {x sz M : Nat} {v : Nat → Int32}
/-- a lesson that brings on -/
def tOK (v : Nat → Int32) (w kn : Int32) (i : Nat) : Prop := ¬ ((w &&& (kn ^^^ (-1))) &&& jshl 1 (mfv v i 2)) = 0 ∧ mfv v i 6 = 0 ∧ ¬ jteach (mfv v i 0) (mfv v i 3) kn = 0 ∧ junl (mfv v i 0) (mfv v i 3) &&& kn = 0
def tRe (v : Nat → Int32) (sz : Nat) (w : Int32) : Nat → Int32 → Prop
  | 0, kn => kn = w
  | n + 1, kn => ∃ i, i < sz ∧ tOK v w kn i ∧ tRe v sz w n (kn ||| jshl 1 (mfv v i 2))
theorem tOK.bits {w kn : Int32} {i g : Nat} (h : tOK v w kn i) (hg : g < 10) (e : mfv v i 2 = nI g) : tb w g = true ∧ tb kn g = false := by
  have h1 := h.1
  rw [e, tb_in1 hg, tb_and, tb_not _ (by omega)] at h1
  cases p : tb w g <;> cases q : tb kn g <;> simp_all
theorem c_X0_helps {Q : Int32 → jM → Prop} {w kn : Int32} {i : Nat} (hX : XR S x sz v) (hi : i < 9) (h1 : tOK v w kn i → Q 1 S) (h0 : ¬ tOK v w kn i → Q 0 S) : jFi E mX0_helps (d + 2) 0 0 [.ref (x + 2 + 2 + i), .int kn, .int w] S Q := by
  have k2 := hX.mk hi
  refine T_X0_helps ⟨k2, ?_⟩
  rw [hX.ms hi (by omega), hX.ms hi (by omega)]
  refine ⟨fun c => h0 (fun t => t.1 c), fun c => ⟨fun c1 => c_X2_teaches k2 ?_, fun c1 => h0 (fun t => c1 t.2.1)⟩⟩
  rw [hX.ms hi (by omega), hX.ms hi (by omega)]
  refine ⟨fun c2 => h0 (fun t => t.2.2.1 c2), fun c2 => ⟨k2, c_X2_unlearnt k2 ?_⟩⟩
  rw [hX.ms hi (by omega), hX.ms hi (by omega)]
  exact ⟨fun c3 => h1 ⟨c, c1, c2, c3⟩, fun c3 => h0 (fun t => c3 t.2.2.2)⟩
theorem c_X0_leadsTo {w : Int32} {k0 : Nat} (hX : XR S x sz v) (hg : Rg sz v) (hw : w = nI k0) (hk0 : k0 < 1024) : ∀ (n D : Nat) (kn : Int32) (Q : Int32 → jM → Prop), n + 3 ≤ D → n ≤ 3 → tsub kn w → jbc (w &&& (kn ^^^ (-1))) = nI n → (tRe v sz w n kn → Q 1 S) → (¬ tRe v sz w n kn → Q 0 S) → jFi E mX0_leadsTo D 0 0 [.ref (x + 2), .int kn, .int w] S Q := by
  intro n
  induction n with
  | zero =>
    intro D kn Q hD _ hs hc h1 h0
    obtain ⟨e, rfl⟩ : ∃ e, D = e + 1 := ⟨D - 1, by omega⟩
    obtain ⟨j, hj, ej⟩ := nI_andle hk0 (kn ^^^ (-1))
    rw [hw, ej] at hc
    have z := jbc_z ⟨j, hj⟩ hc
    have ekw : kn = w := tb_ext (fun k hk => by
      have u0 : tb (w &&& (kn ^^^ (-1))) k = false := by rw [hw, ej, show nI j = 0 from z, tb_0]
      rw [tb_and, tb_not _ hk] at u0
      have := hs k hk
      cases p : tb w k <;> cases q : tb kn k <;> simp_all)
    exact T_X0_leadsTo ⟨fun _ => h1 ekw, fun c => absurd ekw c⟩
  | succ n ih =>
    intro D kn Q hD hn3 hs hc h1 h0
    obtain ⟨e, rfl⟩ : ∃ e, D = e + 2 + 1 := ⟨D - 3, by omega⟩
    have hne : ¬ kn = w := fun c => by
      rw [c] at hc
      have z : w &&& (w ^^^ (-1)) = 0 := tb_z.mpr (fun k hk => by rw [tb_and, tb_not _ hk]; simp)
      rw [z] at hc
      have := nI_inj (by omega) (by omega) (show nI 0 = nI (n + 1) from hc)
      omega
    have loop : ∀ (c i : Nat), i + c = sz → (∀ j, j < i → ¬ (tOK v w kn j ∧ tRe v sz w n (kn ||| jshl 1 (mfv v j 2)))) → L_X0_leadsTo_23 E (e + 2) Q (x + 2) kn w (nI i) S := by
      have hz := hX.sz9
      intro c
      induction c with
      | zero =>
        intro i hi hno
        obtain rfl : i = sz := by omega
        refine T_X0_leadsTo_23 ⟨hX.g.1.1, ?_⟩
        rw [hX.g.2.1]
        exact ⟨fun _ => h0 (fun ⟨j, hj, t⟩ => hno j hj t), fun cc => absurd Int32.le_rfl cc⟩
      | succ c ihc =>
        intro i hi hno
        refine T_X0_leadsTo_23 ⟨hX.g.1.1, ?_⟩
        rw [hX.g.2.1]
        refine ⟨fun cc => absurd cc (nI_ge (by omega) (by omega)), fun _ => c_X0_findAt hX.g.1 hX.g.2.1 hz (by omega) ⟨fun cc => absurd cc (by simp), fun b eb => ?_⟩⟩
        obtain rfl : x + 2 + 2 + i = b := Option.some.inj eb
        have nxt : ¬ (tOK v w kn i ∧ tRe v sz w n (kn ||| jshl 1 (mfv v i 2))) → L_X0_leadsTo_23 E (e + 2) Q (x + 2) kn w (nI i + 1) S := fun hn => by
          rw [nI_1]
          refine ihc (i + 1) (by omega) (fun j hj => ?_)
          by_cases ej : j = i
          · rw [ej]; exact hn
          · exact hno j (by omega)
        refine c_X0_helps hX (by omega) (fun t => ⟨fun cc => absurd cc (by decide), fun _ => ⟨hX.mk (by omega), ?_⟩⟩) (fun t => ⟨fun _ => nxt (fun q => t q.1), fun cc => absurd rfl cc⟩)
        rw [hX.ms (by omega) (by omega)]
        obtain ⟨g, hg10, eg⟩ := hg.ge (i := i) (by omega)
        have tt := t.bits hg10 eg
        refine ih (e + 2) (kn ||| jshl 1 (mfv v i 2)) _ (by omega) (by omega) (fun k hk hb => ?_) ?_ (fun r => ⟨fun cc => absurd cc (by decide), fun _ => h1 ⟨i, by omega, t, r⟩⟩) (fun r => ⟨fun _ => nxt (fun q => r q.2), fun cc => absurd rfl cc⟩)
        · rw [eg, tb_or, tb_bit hg10 hk] at hb
          by_cases ek : k = g
          · rw [ek]; exact tt.1
          · simp only [ek, decide_false, Bool.or_false] at hb
            exact hs k hk hb
        · obtain ⟨j, hj, ej⟩ := nI_andle hk0 (kn ^^^ (-1))
          have t1 := t.1
          rw [hw, ej] at hc t1
          rw [eg] at t1 ⊢
          have q := jbc_s ⟨j, hj⟩ ⟨g, hg10⟩ t1
          rw [j_new, hw, ej]
          have q2 : jbc (nI j &&& (jshl 1 (nI g) ^^^ (-1))) + 1 = nI n + 1 := by rw [nI_1]; exact q.trans hc
          have q3 := congrArg (fun z => z - 1) q2
          simpa [Int32.add_sub_cancel] using q3
    refine T_X0_leadsTo ⟨fun c => absurd c hne, fun _ => ⟨fun _ => loop sz 0 (by omega) (fun j hj => absurd hj (Nat.not_lt_zero _)), fun c => absurd ?_ c⟩⟩
    rw [hc]; exact nI_le (b := 3) (by omega) (by omega)
/-! the reference counts all rows of masters through -/
def rGo (v : Nat → Int32) (w had kn : Int32) (i : Nat) : Prop := mfv v i 6 = 0 ∧ ¬ w &&& jshl 1 (mfv v i 2) = 0 ∧ had &&& jshl 1 (mfv v i 2) = 0 ∧ ¬ jteach (mfv v i 0) (mfv v i 3) kn = 0
def rS (v : Nat → Int32) (sz : Nat) (w : Int32) : Nat → Nat → Int32 → Int32 → Prop
  | 0, _, kn, had => had = w ∧ kn = w
  | c + 1, left, kn, had => rGo v w had kn (left % sz) ∧ rS v sz w c (left / sz) (jbl (mfv v (left % sz) 0) (mfv v (left % sz) 3) (mfv v (left % sz) 2) kn) (had ||| jshl 1 (mfv v (left % sz) 2))
def tSq (v : Nat → Int32) (sz : Nat) (w : Int32) : Nat → Nat → Int32 → Prop
  | 0, _, kn => kn = w
  | c + 1, left, kn => tOK v w kn (left % sz) ∧ tSq v sz w c (left / sz) (kn ||| jshl 1 (mfv v (left % sz) 2))
theorem rS_lossy (hg : Rg sz v) (hz : sz ≤ 9) (h0 : 0 < sz) {w : Int32} : ∀ (c left : Nat) (kn had : Int32), (∃ k, k < 32 ∧ tb had k = true ∧ tb kn k = false) → ¬ rS v sz w c left kn had
  | 0, _, kn, had, ⟨k, _, a, b⟩, ⟨e1, e2⟩ => by rw [e1] at a; rw [e2, a] at b; exact absurd b (by decide)
  | c + 1, left, kn, had, ⟨k, hk, a, b⟩, ⟨r1, r2⟩ => by
    have hlt : left % sz < 9 := Nat.lt_of_lt_of_le (Nat.mod_lt _ h0) hz
    obtain ⟨g, hg10, eg⟩ := hg.ge hlt
    have hh := r1.2.2.1
    rw [eg, tb_in hg10] at hh
    have hkg : ¬ k = g := fun e => by rw [e, hh] at a; exact absurd a (by decide)
    refine rS_lossy hg hz h0 c (left / sz) _ _ ⟨k, hk, ?_, ?_⟩ r2
    · rw [tb_or, a]; rfl
    · unfold jbl
      rw [tb_or, tb_and, b, eg, tb_bit hg10 hk]
      simp [hkg]
theorem rS_eq (hg : Rg sz v) (hz : sz ≤ 9) (h0 : 0 < sz) {w : Int32} : ∀ (c left : Nat) (kn : Int32), rS v sz w c left kn kn ↔ tSq v sz w c left kn
  | 0, _, kn => ⟨fun h => h.1, fun h => ⟨h, h⟩⟩
  | c + 1, left, kn => by
    have hlt : left % sz < 9 := Nat.lt_of_lt_of_le (Nat.mod_lt _ h0) hz
    obtain ⟨g, hg10, eg⟩ := hg.ge hlt
    have new : (¬ w &&& jshl 1 (nI g) = 0 ∧ kn &&& jshl 1 (nI g) = 0) ↔ ¬ ((w &&& (kn ^^^ (-1))) &&& jshl 1 (nI g)) = 0 := by
      rw [tb_in1 hg10, tb_in hg10, tb_in1 hg10, tb_and, tb_not _ (by omega)]
      cases tb w g <;> cases tb kn g <;> simp
    have keep : junl (mfv v (left % sz) 0) (mfv v (left % sz) 3) &&& kn = 0 → jbl (mfv v (left % sz) 0) (mfv v (left % sz) 3) (mfv v (left % sz) 2) kn = kn ||| jshl 1 (mfv v (left % sz) 2) := fun hu => tb_ext (fun k hk => by
      unfold jbl
      have := tb_z.mp hu k hk
      rw [tb_and] at this
      rw [tb_or, tb_or, tb_and, tb_not _ hk]
      cases p : tb kn k <;> cases q : tb (junl (mfv v (left % sz) 0) (mfv v (left % sz) 3)) k <;> simp_all)
    constructor
    · rintro ⟨⟨r1, r2, r3, r4⟩, r5⟩
      by_cases hu : junl (mfv v (left % sz) 0) (mfv v (left % sz) 3) &&& kn = 0
      · rw [keep hu] at r5
        rw [eg] at r2 r3
        exact ⟨⟨by rw [eg]; exact new.mp ⟨r2, r3⟩, r1, r4, hu⟩, (rS_eq hg hz h0 c _ _).mp r5⟩
      · exfalso
        obtain ⟨k, hk, ek⟩ := tb_nz hu
        rw [tb_and] at ek
        have p := (Bool.and_eq_true_iff.mp ek)
        rw [eg, tb_in hg10] at r3
        have hkg : ¬ k = g := fun e => by rw [← e, p.2] at r3; exact absurd r3 (by decide)
        refine rS_lossy hg hz h0 c _ _ _ ⟨k, hk, ?_, ?_⟩ r5
        · rw [tb_or, p.2]; rfl
        · unfold jbl
          rw [tb_or, tb_and, tb_not _ hk, p.1, eg, tb_bit hg10 hk]
          simp [hkg]
    · rintro ⟨⟨t1, t2, t3, t4⟩, t5⟩
      rw [eg] at t1
      have n := new.mpr t1
      refine ⟨⟨t2, by rw [eg]; exact n.1, by rw [eg]; exact n.2, t3⟩, ?_⟩
      rw [keep t4]
      exact (rS_eq hg hz h0 c _ _).mpr t5
theorem tSq_ex {w : Int32} : ∀ (n : Nat) (kn : Int32), (∃ code, code < sz ^ n ∧ tSq v sz w n code kn) ↔ tRe v sz w n kn
  | 0, kn => ⟨fun ⟨_, _, h⟩ => h, fun h => ⟨0, by simp, h⟩⟩
  | n + 1, kn => by
    constructor
    · rintro ⟨code, hc, t1, t2⟩
      have h0 : 0 < sz := by
        rcases Nat.eq_zero_or_pos sz with e | e
        · rw [e, Nat.pow_succ, Nat.mul_zero] at hc; omega
        · exact e
      refine ⟨code % sz, Nat.mod_lt _ h0, t1, (tSq_ex n _).mp ⟨code / sz, ?_, t2⟩⟩
      rw [Nat.pow_succ] at hc
      exact Nat.div_lt_of_lt_mul (by rw [Nat.mul_comm]; exact hc)
    · rintro ⟨i, hi, t1, t2⟩
      obtain ⟨code, hc, t3⟩ := (tSq_ex n _).mpr t2
      have e1 : (i + sz * code) % sz = i := by rw [Nat.add_mul_mod_self_left, Nat.mod_eq_of_lt hi]
      have e2 : (i + sz * code) / sz = code := by rw [Nat.add_mul_div_left _ _ (by omega), Nat.div_eq_of_lt hi, Nat.zero_add]
      refine ⟨i + sz * code, ?_, ?_⟩
      · have : sz * (code + 1) ≤ sz * sz ^ n := Nat.mul_le_mul_left _ hc
        rw [Nat.pow_succ, Nat.mul_comm (sz ^ n)]
        rw [Nat.mul_add, Nat.mul_one] at this
        omega
      · show tOK v w kn ((i + sz * code) % sz) ∧ tSq v sz w n ((i + sz * code) / sz) (kn ||| jshl 1 (mfv v ((i + sz * code) % sz) 2))
        rw [e1, e2]; exact ⟨t1, t3⟩
end jTog
