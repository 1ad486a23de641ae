section
/-! TOGETHER, NEVER on both sides -/
def tb (a : Int32) (k : Nat) : Bool := a.toBitVec.getLsbD k
theorem tb_ext {a b : Int32} (h : ∀ k, k < 32 → tb a k = tb b k) : a = b := by
  apply Int32.toBitVec_inj.mp
  apply BitVec.eq_of_getLsbD_eq
  exact h
theorem tb_and (a b : Int32) (k : Nat) : tb (a &&& b) k = (tb a k && tb b k) := by
  show (a.toBitVec &&& b.toBitVec).getLsbD k = _
  rw [BitVec.getLsbD_and]; rfl
theorem tb_or (a b : Int32) (k : Nat) : tb (a ||| b) k = (tb a k || tb b k) := by
  show (a.toBitVec ||| b.toBitVec).getLsbD k = _
  rw [BitVec.getLsbD_or]; rfl
theorem tb_not (a : Int32) {k : Nat} (h : k < 32) : tb (a ^^^ (-1)) k = !tb a k := by
  show (a.toBitVec ^^^ BitVec.allOnes 32).getLsbD k = _
  rw [BitVec.getLsbD_xor, BitVec.getLsbD_allOnes]
  simp [h, tb]
theorem tb_0 (k : Nat) : tb 0 k = false := by
  show (0#32).getLsbD k = false
  simp
theorem tb_bitF : ∀ g : Fin 10, ∀ k : Fin 32, tb (jshl 1 (nI g.val)) k.val = decide (k.val = g.val) := by decide
theorem tb_bit {g k : Nat} (hg : g < 10) (hk : k < 32) : tb (jshl 1 (nI g)) k = decide (k = g) := tb_bitF ⟨g, hg⟩ ⟨k, hk⟩
theorem tb_z {a : Int32} : a = 0 ↔ ∀ k, k < 32 → tb a k = false := ⟨fun h k _ => by rw [h]; exact tb_0 k, fun h => tb_ext (fun k hk => by rw [h k hk, tb_0])⟩
theorem tb_nz {a : Int32} (h : ¬ a = 0) : ∃ k, k < 32 ∧ tb a k = true := by
  refine Classical.byContradiction (fun hn => h (tb_z.mpr (fun k hk => ?_)))
  cases e : tb a k
  · rfl
  · exact absurd ⟨k, hk, e⟩ hn
/-- a bit is in, or not -/
theorem tb_in {a : Int32} {g : Nat} (hg : g < 10) : (a &&& jshl 1 (nI g) = 0) ↔ tb a g = false := by
  rw [tb_z]
  constructor
  · intro h
    have := h g (by omega)
    rw [tb_and, tb_bit hg (by omega)] at this
    simpa using this
  · intro h k hk
    rw [tb_and, tb_bit hg hk]
    by_cases e : k = g
    · subst e; rw [h]; rfl
    · simp [e]
theorem tb_in1 {a : Int32} {g : Nat} (hg : g < 10) : (¬ a &&& jshl 1 (nI g) = 0) ↔ tb a g = true := by
  rw [tb_in hg]; simp
def tsub (a b : Int32) : Prop := ∀ k, k < 32 → tb a k = true → tb b k = true
theorem tsub_and {a b : Int32} (h : tsub a b) : b &&& a = a := tb_ext (fun k hk => by
  rw [tb_and]
  cases e : tb a k
  · simp
  · rw [h k hk e]; rfl)
theorem tsub_lt {a : Int32} {k : Nat} (hk : k < 1024) (h : tsub a (nI k)) : ∃ j, j < 1024 ∧ a = nI j := by
  obtain ⟨j, hj, e⟩ := nI_andle hk a
  rw [tsub_and h] at e
  exact ⟨j, hj, e⟩
theorem jbc_z : ∀ k : Fin 1024, jbc (nI k.val) = 0 → nI k.val = 0 := by decide +kernel
theorem jbc_s : ∀ k : Fin 1024, ∀ g : Fin 10, ¬ (nI k.val &&& jshl 1 (nI g.val) = 0) → jbc (nI k.val &&& (jshl 1 (nI g.val) ^^^ (-1))) + 1 = jbc (nI k.val) := by decide +kernel
theorem j_new (w kn b : Int32) : w &&& ((kn ||| b) ^^^ (-1)) = (w &&& (kn ^^^ (-1))) &&& (b ^^^ (-1)) := tb_ext (fun k hk => by
  rw [tb_and, tb_not _ hk, tb_or, tb_and, tb_and, tb_not _ hk, tb_not _ hk]
  cases tb w k <;> cases tb kn k <;> cases tb b k <;> rfl)
section jTog
variable {E : jEnv} {d : Nat} {S S' : jM} {x sz M : Nat} {v : Nat → Int32}
/-- a lesson that brings on -/
def tOK (v : Nat → Int32) (w kn : Int32) (i : Nat) : Prop := ¬ ((w &&& (kn ^^^ (-1))) &&& jshl 1 (mfv v i 2)) = 0 ∧ mfv v i 6 = 0 ∧ ¬ jteach (mfv v i 0) (mfv v i 3) kn = 0 ∧ junl (mfv v i 0) (mfv v i 3) &&& kn = 0
def tRe (v : Nat → Int32) (sz : Nat) (w : Int32) : Nat → Int32 → Prop
  | 0, kn => kn = w
  | n + 1, kn => ∃ i, i < sz ∧ tOK v w kn i ∧ tRe v sz w n (kn ||| jshl 1 (mfv v i 2))
theorem tOK.bits {w kn : Int32} {i g : Nat} (h : tOK v w kn i) (hg : g < 10) (e : mfv v i 2 = nI g) : tb w g = true ∧ tb kn g = false := by
  have h1 := h.1
  rw [e, tb_in1 hg, tb_and, tb_not _ (by omega)] at h1
  cases p : tb w g <;> cases q : tb kn g <;> simp_all
theorem c_X0_helps {Q : Int32 → jM → Prop} {w kn : Int32} {i : Nat} (hX : XR S x sz v) (hi : i < 9) (h1 : tOK v w kn i → Q 1 S) (h0 : ¬ tOK v w kn i → Q 0 S) : jFi E mX0_helps (d + 2) 0 0 [.ref (x + 2 + 2 + i), .int kn, .int w] S Q := by
  have k2 := hX.mk hi
  refine T_X0_helps ⟨k2, ?_⟩
  rw [hX.ms hi (by omega), hX.ms hi (by omega)]
  refine ⟨fun c => h0 (fun t => t.1 c), fun c => ⟨fun c1 => c_X2_teaches k2 ?_, fun c1 => h0 (fun t => c1 t.2.1)⟩⟩
  rw [hX.ms hi (by omega), hX.ms hi (by omega)]
  refine ⟨fun c2 => h0 (fun t => t.2.2.1 c2), fun c2 => ⟨k2, c_X2_unlearnt k2 ?_⟩⟩
  rw [hX.ms hi (by omega), hX.ms hi (by omega)]
  exact ⟨fun c3 => h1 ⟨c, c1, c2, c3⟩, fun c3 => h0 (fun t => c3 t.2.2.2)⟩
theorem c_X0_leadsTo {w : Int32} {k0 : Nat} (hX : XR S x sz v) (hg : Rg sz v) (hw : w = nI k0) (hk0 : k0 < 1024) : ∀ (n D : Nat) (kn : Int32) (Q : Int32 → jM → Prop), n + 3 ≤ D → n ≤ 3 → tsub kn w → jbc (w &&& (kn ^^^ (-1))) = nI n → (tRe v sz w n kn → Q 1 S) → (¬ tRe v sz w n kn → Q 0 S) → jFi E mX0_leadsTo D 0 0 [.ref (x + 2), .int kn, .int w] S Q := by
  intro n
  induction n with
  | zero =>
    intro D kn Q hD _ hs hc h1 h0
    obtain ⟨e, rfl⟩ : ∃ e, D = e + 1 := ⟨D - 1, by omega⟩
    obtain ⟨j, hj, ej⟩ := nI_andle hk0 (kn ^^^ (-1))
    rw [hw, ej] at hc
    have z := jbc_z ⟨j, hj⟩ hc
    have ekw : kn = w := tb_ext (fun k hk => by
      have u0 : tb (w &&& (kn ^^^ (-1))) k = false := by rw [hw, ej, show nI j = 0 from z, tb_0]
      rw [tb_and, tb_not _ hk] at u0
      have := hs k hk
      cases p : tb w k <;> cases q : tb kn k <;> simp_all)
    exact T_X0_leadsTo ⟨fun _ => h1 ekw, fun c => absurd ekw c⟩
  | succ n ih =>
    intro D kn Q hD hn3 hs hc h1 h0
    obtain ⟨e, rfl⟩ : ∃ e, D = e + 2 + 1 := ⟨D - 3, by omega⟩
    have hne : ¬ kn = w := fun c => by
      rw [c] at hc
      have z : w &&& (w ^^^ (-1)) = 0 := tb_z.mpr (fun k hk => by rw [tb_and, tb_not _ hk]; simp)
      rw [z] at hc
      have := nI_inj (by omega) (by omega) (show nI 0 = nI (n + 1) from hc)
      omega
    have loop : ∀ (c i : Nat), i + c = sz → (∀ j, j < i → ¬ (tOK v w kn j ∧ tRe v sz w n (kn ||| jshl 1 (mfv v j 2)))) → L_X0_leadsTo_23 E (e + 2) Q (x + 2) kn w (nI i) S := by
      have hz := hX.sz9
      intro c
      induction c with
      | zero =>
        intro i hi hno
        obtain rfl : i = sz := by omega
        refine T_X0_leadsTo_23 ⟨hX.g.1.1, ?_⟩
        rw [hX.g.2.1]
        exact ⟨fun _ => h0 (fun ⟨j, hj, t⟩ => hno j hj t), fun cc => absurd Int32.le_rfl cc⟩
      | succ c ihc =>
        intro i hi hno
        refine T_X0_leadsTo_23 ⟨hX.g.1.1, ?_⟩
        rw [hX.g.2.1]
        refine ⟨fun cc => absurd cc (nI_ge (by omega) (by omega)), fun _ => c_X0_findAt hX.g.1 hX.g.2.1 hz (by omega) ⟨fun cc => absurd cc (by simp), fun b eb => ?_⟩⟩
        obtain rfl : x + 2 + 2 + i = b := Option.some.inj eb
        have nxt : ¬ (tOK v w kn i ∧ tRe v sz w n (kn ||| jshl 1 (mfv v i 2))) → L_X0_leadsTo_23 E (e + 2) Q (x + 2) kn w (nI i + 1) S := fun hn => by
          rw [nI_1]
          refine ihc (i + 1) (by omega) (fun j hj => ?_)
          by_cases ej : j = i
          · rw [ej]; exact hn
          · exact hno j (by omega)
        refine c_X0_helps hX (by omega) (fun t => ⟨fun cc => absurd cc (by decide), fun _ => ⟨hX.mk (by omega), ?_⟩⟩) (fun t => ⟨fun _ => nxt (fun q => t q.1), fun cc => absurd rfl cc⟩)
        rw [hX.ms (by omega) (by omega)]
        obtain ⟨g, hg10, eg⟩ := hg.ge (i := i) (by omega)
        have tt := t.bits hg10 eg
        refine ih (e + 2) (kn ||| jshl 1 (mfv v i 2)) _ (by omega) (by omega) (fun k hk hb => ?_) ?_ (fun r => ⟨fun cc => absurd cc (by decide), fun _ => h1 ⟨i, by omega, t, r⟩⟩) (fun r => ⟨fun _ => nxt (fun q => r q.2), fun cc => absurd rfl cc⟩)
        · rw [eg, tb_or, tb_bit hg10 hk] at hb
          by_cases ek : k = g
          · rw [ek]; exact tt.1
          · simp only [ek, decide_false, Bool.or_false] at hb
            exact hs k hk hb
        · obtain ⟨j, hj, ej⟩ := nI_andle hk0 (kn ^^^ (-1))
          have t1 := t.1
          rw [hw, ej] at hc t1
          rw [eg] at t1 ⊢
          have q := jbc_s ⟨j, hj⟩ ⟨g, hg10⟩ t1
          rw [j_new, hw, ej]
          have q2 : jbc (nI j &&& (jshl 1 (nI g) ^^^ (-1))) + 1 = nI n + 1 := by rw [nI_1]; exact q.trans hc
          have q3 := congrArg (fun z => z - 1) q2
          simpa [Int32.add_sub_cancel] using q3
    refine T_X0_leadsTo ⟨fun c => absurd c hne, fun _ => ⟨fun _ => loop sz 0 (by omega) (fun j hj => absurd hj (Nat.not_lt_zero _)), fun c => absurd ?_ c⟩⟩
    rw [hc]; exact nI_le (b := 3) (by omega) (by omega)
/-! the reference counts all rows of masters through -/
def rGo (v : Nat → Int32) (w had kn : Int32) (i : Nat) : Prop := mfv v i 6 = 0 ∧ ¬ w &&& jshl 1 (mfv v i 2) = 0 ∧ had &&& jshl 1 (mfv v i 2) = 0 ∧ ¬ jteach (mfv v i 0) (mfv v i 3) kn = 0
def rS (v : Nat → Int32) (sz : Nat) (w : Int32) : Nat → Nat → Int32 → Int32 → Prop
  | 0, _, kn, had => had = w ∧ kn = w
  | c + 1, left, kn, had => rGo v w had kn (left % sz) ∧ rS v sz w c (left / sz) (jbl (mfv v (left % sz) 0) (mfv v (left % sz) 3) (mfv v (left % sz) 2) kn) (had ||| jshl 1 (mfv v (left % sz) 2))
def tSq (v : Nat → Int32) (sz : Nat) (w : Int32) : Nat → Nat → Int32 → Prop
  | 0, _, kn => kn = w
  | c + 1, left, kn => tOK v w kn (left % sz) ∧ tSq v sz w c (left / sz) (kn ||| jshl 1 (mfv v (left % sz) 2))
theorem rS_lossy (hg : Rg sz v) (hz : sz ≤ 9) (h0 : 0 < sz) {w : Int32} : ∀ (c left : Nat) (kn had : Int32), (∃ k, k < 32 ∧ tb had k = true ∧ tb kn k = false) → ¬ rS v sz w c left kn had
  | 0, _, kn, had, ⟨k, _, a, b⟩, ⟨e1, e2⟩ => by rw [e1] at a; rw [e2, a] at b; exact absurd b (by decide)
  | c + 1, left, kn, had, ⟨k, hk, a, b⟩, ⟨r1, r2⟩ => by
    have hlt : left % sz < 9 := Nat.lt_of_lt_of_le (Nat.mod_lt _ h0) hz
    obtain ⟨g, hg10, eg⟩ := hg.ge hlt
    have hh := r1.2.2.1
    rw [eg, tb_in hg10] at hh
    have hkg : ¬ k = g := fun e => by rw [e, hh] at a; exact absurd a (by decide)
    refine rS_lossy hg hz h0 c (left / sz) _ _ ⟨k, hk, ?_, ?_⟩ r2
    · rw [tb_or, a]; rfl
    · unfold jbl
      rw [tb_or, tb_and, b, eg, tb_bit hg10 hk]
      simp [hkg]
theorem rS_eq (hg : Rg sz v) (hz : sz ≤ 9) (h0 : 0 < sz) {w : Int32} : ∀ (c left : Nat) (kn : Int32), rS v sz w c left kn kn ↔ tSq v sz w c left kn
  | 0, _, kn => ⟨fun h => h.1, fun h => ⟨h, h⟩⟩
  | c + 1, left, kn => by
    have hlt : left % sz < 9 := Nat.lt_of_lt_of_le (Nat.mod_lt _ h0) hz
    obtain ⟨g, hg10, eg⟩ := hg.ge hlt
    have new : (¬ w &&& jshl 1 (nI g) = 0 ∧ kn &&& jshl 1 (nI g) = 0) ↔ ¬ ((w &&& (kn ^^^ (-1))) &&& jshl 1 (nI g)) = 0 := by
      rw [tb_in1 hg10, tb_in hg10, tb_in1 hg10, tb_and, tb_not _ (by omega)]
      cases tb w g <;> cases tb kn g <;> simp
    have keep : junl (mfv v (left % sz) 0) (mfv v (left % sz) 3) &&& kn = 0 → jbl (mfv v (left % sz) 0) (mfv v (left % sz) 3) (mfv v (left % sz) 2) kn = kn ||| jshl 1 (mfv v (left % sz) 2) := fun hu => tb_ext (fun k hk => by
      unfold jbl
      have := tb_z.mp hu k hk
      rw [tb_and] at this
      rw [tb_or, tb_or, tb_and, tb_not _ hk]
      cases p : tb kn k <;> cases q : tb (junl (mfv v (left % sz) 0) (mfv v (left % sz) 3)) k <;> simp_all)
    constructor
    · rintro ⟨⟨r1, r2, r3, r4⟩, r5⟩
      by_cases hu : junl (mfv v (left % sz) 0) (mfv v (left % sz) 3) &&& kn = 0
      · rw [keep hu] at r5
        rw [eg] at r2 r3
        exact ⟨⟨by rw [eg]; exact new.mp ⟨r2, r3⟩, r1, r4, hu⟩, (rS_eq hg hz h0 c _ _).mp r5⟩
      · exfalso
        obtain ⟨k, hk, ek⟩ := tb_nz hu
        rw [tb_and] at ek
        have p := (Bool.and_eq_true_iff.mp ek)
        rw [eg, tb_in hg10] at r3
        have hkg : ¬ k = g := fun e => by rw [← e, p.2] at r3; exact absurd r3 (by decide)
        refine rS_lossy hg hz h0 c _ _ _ ⟨k, hk, ?_, ?_⟩ r5
        · rw [tb_or, p.2]; rfl
        · unfold jbl
          rw [tb_or, tb_and, tb_not _ hk, p.1, eg, tb_bit hg10 hk]
          simp [hkg]
    · rintro ⟨⟨t1, t2, t3, t4⟩, t5⟩
      rw [eg] at t1
      have n := new.mpr t1
      refine ⟨⟨t2, by rw [eg]; exact n.1, by rw [eg]; exact n.2, t3⟩, ?_⟩
      rw [keep t4]
      exact (rS_eq hg hz h0 c _ _).mpr t5
theorem tSq_ex {w : Int32} : ∀ (n : Nat) (kn : Int32), (∃ code, code < sz ^ n ∧ tSq v sz w n code kn) ↔ tRe v sz w n kn
  | 0, kn => ⟨fun ⟨_, _, h⟩ => h, fun h => ⟨0, by simp, h⟩⟩
  | n + 1, kn => by
    constructor
    · rintro ⟨code, hc, t1, t2⟩
      have h0 : 0 < sz := by
        rcases Nat.eq_zero_or_pos sz with e | e
        · rw [e, Nat.pow_succ, Nat.mul_zero] at hc; omega
        · exact e
      refine ⟨code % sz, Nat.mod_lt _ h0, t1, (tSq_ex n _).mp ⟨code / sz, ?_, t2⟩⟩
      rw [Nat.pow_succ] at hc
      exact Nat.div_lt_of_lt_mul (by rw [Nat.mul_comm]; exact hc)
    · rintro ⟨i, hi, t1, t2⟩
      obtain ⟨code, hc, t3⟩ := (tSq_ex n _).mpr t2
      have e1 : (i + sz * code) % sz = i := by rw [Nat.add_mul_mod_self_left, Nat.mod_eq_of_lt hi]
      have e2 : (i + sz * code) / sz = code := by rw [Nat.add_mul_div_left _ _ (by omega), Nat.div_eq_of_lt hi, Nat.zero_add]
      refine ⟨i + sz * code, ?_, ?_⟩
      · have : sz * (code + 1) ≤ sz * sz ^ n := Nat.mul_le_mul_left _ hc
        rw [Nat.pow_succ, Nat.mul_comm (sz ^ n)]
        rw [Nat.mul_add, Nat.mul_one] at this
        omega
      · show tOK v w kn ((i + sz * code) % sz) ∧ tSq v sz w n ((i + sz * code) / sz) (kn ||| jshl 1 (mfv v ((i + sz * code) % sz) 2))
        rw [e1, e2]; exact ⟨t1, t3⟩
end jTog
end
section
/-! TOGETHER, NEVER on both sides, second part -/
section jTog2
variable {E : jEnv} {d : Nat} {S S' : jM} {x sz M : Nat} {v : Nat → Int32}
theorem nI_dv {i s : Nat} (h : i < 2 ^ 31) (h0 : 0 < s) (hs : s < 2 ^ 31) : nI i / nI s = nI (i / s) := pk_div (d := s) h h0 hs
theorem nI_rm {i s : Nat} (h : i < 2 ^ 31) (h0 : 0 < s) (hs : s < 2 ^ 31) : jrem (nI i) (nI s) = nI (i % s) := pk_rem (d := s) h h0 hs
theorem pw9 {n : Nat} (hz : sz ≤ 9) (hn : n ≤ 3) : sz ^ n ≤ 729 := by
  have h1 : sz ^ n ≤ 9 ^ n := Nat.pow_le_pow_left hz n
  have h2 : 9 ^ n ≤ 9 ^ 3 := Nat.pow_le_pow_right (by omega) hn
  have h3 : 9 ^ 3 = 729 := by decide
  omega
theorem c_X11_areTogether {Q : Int32 → jM → Prop} {w : Int32} {k0 n : Nat} (hM : MR S (x + 94) v) (hg : Rg sz v) (hv0 : v 0 = nI sz) (hz : sz ≤ 9) (hw : w = nI k0) (hk0 : k0 < 1024) (hn : jmany w = nI n) (hn3 : n ≤ 3) (h1 : tRe v sz w n 0 → Q 1 S) (h0 : ¬ tRe v sz w n 0 → Q 0 S) : jFi E mX11_areTogether (d + 2) 0 0 [.ref (x + 94), .int w] S Q := by
  have i0 := hM.at (i := 0) 0 rfl (by omega)
  have all9 := pw9 (n := n) hz hn3
  have wneg : ¬ (-1 : Int32) = w := fun e => by
    have := nI_pos (n := k0) (by omega)
    rw [← hw, ← e] at this; exact absurd (by decide) this
  -- a row that is spoilt
  have dead : ∀ (c i left code : Nat) (x6 : Int32), i + c = n → 0 < sz → left < 1000 → L_X11_areTogether_34 E (d + 1) Q (x + 94) w (nI n) (nI (sz ^ n)) (nI (code + 1)) S → L_X11_areTogether_53 E (d + 1) Q (x + 94) w (nI n) (nI (sz ^ n)) (nI code) (nI left) x6 (-1) (nI i) S := by
    intro c
    induction c with
    | zero =>
      intro i left code x6 hi hs hl hk
      obtain rfl : i = n := by omega
      refine T_X11_areTogether_53 ⟨fun _ => ⟨fun c => absurd c wneg, fun _ => by rw [nI_1]; exact hk⟩, fun cc => absurd Int32.le_rfl cc⟩
    | succ c ih =>
      intro i left code x6 hi hs hl hk
      refine T_X11_areTogether_53 ⟨fun cc => absurd cc (nI_ge (by omega) (by omega)), fun _ => ⟨hM.k, _, hM.r, hM.k1, i0.1, ?_⟩⟩
      have nz : ¬ nI sz = 0 := fun e => by have := nI_inj (by omega) (by omega) (show nI sz = nI 0 from e); omega
      rw [i0.2, hv0, nI_rm (by omega) hs (by omega), nI_dv (by omega) hs (by omega), nI_1]
      have hm9 : left % sz < 9 := Nat.lt_of_lt_of_le (Nat.mod_lt _ hs) hz
      have hd : left / sz ≤ left := Nat.div_le_self _ _
      refine ⟨nz, nz, c_X11_of (f := 2) hM hm9 (by omega) ⟨fun _ => ih (i + 1) _ code _ (by omega) hs (by omega) hk, fun cc => absurd (by decide) cc⟩⟩
  -- a row that is good so far
  have good : ∀ (c i left code : Nat) (kn had : Int32), i + c = n → 0 < sz → left < 1000 → tsub kn w → tsub had w → (rS v sz w c left kn had → Q 1 S) → (¬ rS v sz w c left kn had → L_X11_areTogether_34 E (d + 1) Q (x + 94) w (nI n) (nI (sz ^ n)) (nI (code + 1)) S) → L_X11_areTogether_53 E (d + 1) Q (x + 94) w (nI n) (nI (sz ^ n)) (nI code) (nI left) kn had (nI i) S := by
    intro c
    induction c with
    | zero =>
      intro i left code kn had hi hs hl s1 s2 q1 q0
      obtain rfl : i = n := by omega
      rw [← nI_1] at q0
      exact T_X11_areTogether_53 ⟨fun _ => ⟨fun c => ⟨fun c2 => q1 ⟨c, c2⟩, fun c2 => q0 (fun r => c2 r.2)⟩, fun c => q0 (fun r => c r.1)⟩, fun cc => absurd Int32.le_rfl cc⟩
    | succ c ih =>
      intro i left code kn had hi hs hl s1 s2 q1 q0
      refine T_X11_areTogether_53 ⟨fun cc => absurd cc (nI_ge (by omega) (by omega)), fun _ => ⟨hM.k, _, hM.r, hM.k1, i0.1, ?_⟩⟩
      have nz : ¬ nI sz = 0 := fun e => by have := nI_inj (by omega) (by omega) (show nI sz = nI 0 from e); omega
      rw [i0.2, hv0, nI_rm (by omega) hs (by omega), nI_dv (by omega) hs (by omega), nI_1]
      have hm9 : left % sz < 9 := Nat.lt_of_lt_of_le (Nat.mod_lt _ hs) hz
      have hd : left / sz ≤ left := Nat.div_le_self _ _
      rw [hw] at s1 s2
      obtain ⟨kh, hkh, ekh⟩ := tsub_lt hk0 s2
      obtain ⟨kk, hkk, ekk⟩ := tsub_lt hk0 s1
      rw [← hw] at s1 s2
      obtain ⟨g, hg10, eg⟩ := hg.ge hm9
      have no : ¬ rGo v w had kn (left % sz) → L_X11_areTogether_53 E (d + 1) Q (x + 94) w (nI n) (nI (sz ^ n)) (nI code) (nI (left / sz)) 0 (-1) (nI (i + 1)) S := fun hno => dead c (i + 1) _ code _ (by omega) hs (by omega) (q0 (fun r => hno r.1))
      refine ⟨nz, nz, c_X11_of (f := 2) hM hm9 (by omega) ⟨fun cc => absurd cc (by rw [ekh]; exact nI_pos (by omega)), fun _ => ⟨hM.k, c_X11_of (f := 6) hM hm9 (by omega) ⟨fun c6 => ⟨fun cw => no (fun r => r.2.1 cw), fun cw => ⟨fun ch => ⟨hM.k, ?_⟩, fun ch => no (fun r => ch r.2.2.1)⟩⟩, fun c6 => no (fun r => c6 r.1)⟩⟩⟩⟩
      rw [ekk]
      refine c_X11_teaches hM hg hm9 hkk ⟨fun ct => no (fun r => r.2.2.2 (by rw [ekk]; exact ct)), fun ct => ⟨hM.k, c_X11_behindLesson hM hm9 ?_⟩⟩
      rw [← ekk]
      rw [← ekk] at ct
      have hwg : tb w g = true := by rw [eg, tb_in1 hg10] at cw; exact cw
      refine ih (i + 1) (left / sz) code _ _ (by omega) hs (by omega) (fun k hk hb => ?_) (fun k hk hb => ?_) (fun r => q1 ⟨⟨c6, cw, ch, ct⟩, r⟩) (fun r => q0 (fun z => r z.2))
      · unfold jbl at hb
        rw [tb_or, tb_and, eg, tb_bit hg10 hk] at hb
        by_cases ek : k = g
        · rw [ek]; exact hwg
        · simp only [ek, decide_false, Bool.or_false, Bool.and_eq_true] at hb
          exact s1 k hk hb.1
      · rw [tb_or, eg, tb_bit hg10 hk] at hb
        by_cases ek : k = g
        · rw [ek]; exact hwg
        · simp only [ek, decide_false, Bool.or_false] at hb
          exact s2 k hk hb
  have sub0 : tsub 0 w := fun k _ hb => by rw [tb_0] at hb; exact absurd hb (by decide)
  have codes : ∀ (c code : Nat), code + c = sz ^ n → (∀ e, e < code → ¬ tSq v sz w n e 0) → L_X11_areTogether_34 E (d + 1) Q (x + 94) w (nI n) (nI (sz ^ n)) (nI code) S := by
    intro c
    induction c with
    | zero =>
      intro code hc hno
      obtain rfl : code = sz ^ n := by omega
      refine T_X11_areTogether_34 ⟨fun _ => h0 (fun t => ?_), fun cc => absurd Int32.le_rfl cc⟩
      obtain ⟨e, he, te⟩ := (tSq_ex n 0).mpr t
      exact hno e he te
    | succ c ih =>
      intro code hc hno
      refine T_X11_areTogether_34 ⟨fun cc => absurd cc (nI_ge (by omega) (by omega)), fun _ => ?_⟩
      cases n with
      | zero =>
        have hc1 : code + (c + 1) = 1 := by simpa using hc
        refine T_X11_areTogether_53 ⟨fun _ => ?_, fun cc => absurd (by exact Int32.le_rfl) cc⟩
        have yes : tRe v sz w 0 0 → Q 1 S := h1
        refine ⟨fun e => ⟨fun _ => yes e, fun q => absurd e q⟩, fun e => ?_⟩
        rw [nI_1]
        refine ih (code + 1) (by omega) (fun e' he' => ?_)
        exact fun t => e t
      | succ n' =>
        have hs : 0 < sz := by
          rcases Nat.eq_zero_or_pos sz with e | e
          · rw [e, Nat.pow_succ, Nat.mul_zero] at hc; omega
          · exact e
        refine good (n' + 1) 0 code code 0 0 (by omega) hs (by omega) sub0 sub0 (fun r => h1 ((tSq_ex (n' + 1) 0).mp ⟨code, by omega, (rS_eq hg hz hs _ _ _).mp r⟩)) (fun r => ih (code + 1) (by omega) (fun e he => ?_))
        by_cases ee : e = code
        · rw [ee]; exact fun t => r ((rS_eq hg hz hs _ _ _).mpr t)
        · exact hno e (by omega)
  have pows : ∀ (c i : Nat), i + c = n → L_X11_areTogether_10 E (d + 1) Q (x + 94) w (nI n) (nI (sz ^ i)) (nI i) S := by
    intro c
    induction c with
    | zero =>
      intro i hi
      obtain rfl : i = n := by omega
      exact T_X11_areTogether_10 ⟨fun _ => codes (sz ^ i) 0 (by omega) (fun e he => absurd he (Nat.not_lt_zero _)), fun cc => absurd Int32.le_rfl cc⟩
    | succ c ih =>
      intro i hi
      refine T_X11_areTogether_10 ⟨fun cc => absurd cc (nI_ge (by omega) (by omega)), fun _ => ⟨hM.k, _, hM.r, hM.k1, i0.1, ?_⟩⟩
      rw [i0.2, hv0, nI_mul, ← Nat.pow_succ, nI_1]
      exact ih (i + 1) (by omega)
  refine T_X11_areTogether ?_
  rw [hn]
  exact pows n 0 (by omega)
/-- the class's question, from nothing -/
theorem c_X0_canBringTogether {Q : Int32 → jM → Prop} {w : Int32} {k0 n : Nat} (hX : XR S x sz v) (hg : Rg sz v) (hw : w = nI k0) (hk0 : k0 < 1024) (hn : jbc w = nI n) (hn3 : n ≤ 3) (h1 : tRe v sz w n 0 → Q 1 S) (h0 : ¬ tRe v sz w n 0 → Q 0 S) : jFi E mX0_canBringTogether (d + 7) 0 0 [.ref (x + 2), .int w] S Q := by
  have e0 : w &&& (0 ^^^ (-1)) = w := tb_ext (fun k hk => by rw [tb_and, tb_not _ hk, tb_0]; simp)
  exact T_X0_canBringTogether (c_X0_leadsTo hX hg hw hk0 n (d + 6) 0 _ (by omega) hn3 (fun k _ hb => by rw [tb_0] at hb; exact absurd hb (by decide)) (by rw [e0]; exact hn) (fun t => ⟨Or.inr rfl, h1 t⟩) (fun t => ⟨Or.inl rfl, h0 t⟩))
theorem Q_together {w : Int32} (h : IV S x sz M v) : jFi E mX10_together (d + 8) 0 0 [.ref x, .int w] S (fun r S1 => jFm E mX11_together (d + 3) (x + 94) [.int w] S1 (fun r' S2 => r = r' ∧ INV S2 x M)) := by
  obtain ⟨hX, hM, hg⟩ := id h.1
  have hz := hX.sz9
  have e0 : jisin (Int32.toInt64 w) 0 1023 = jwi w 1024 := jisin_wi w 1024 1023 rfl (jle_lt (by decide))
  refine T_X10_together ⟨fun c => U_X11_together hM.k ⟨fun _ => ⟨rfl, h.inv⟩, fun c2 => absurd (e0.trans c) c2⟩, fun c => ?_⟩
  have c' : ¬ jisin (Int32.toInt64 w) 0 1023 = 0 := by rw [e0]; exact c
  rcases jwi_cases w (b := 1024) 1024 rfl (by omega) with ⟨k0, hk0, hw, -⟩ | ⟨-, e⟩
  · have ebm : jbc w = jmany w := by rw [hw]; exact jbm hk0
    refine ⟨fun c3 => ?_, fun c3 => U_X11_together hM.k ⟨fun q => absurd q c', fun _ => ⟨fun q => absurd (by rw [ebm]; exact q) c3, fun _ => ⟨rfl, h.inv⟩⟩⟩⟩
    obtain ⟨⟨n, hn11⟩, hn⟩ := jmany_le ⟨k0, hk0⟩
    have hmn : jmany w = nI n := by rw [hw]; exact hn
    have hn3 : n ≤ 3 := by
      rw [ebm, hmn] at c3
      exact (nI_leI (b := 3) (by omega) (by omega)).mp c3
    have ref : ∀ r : Int32, (tRe v sz w n 0 → r = 1) → (¬ tRe v sz w n 0 → r = 0) → jFm E mX11_together (d + 3) (x + 94) [.int w] S (fun r' S2 => r = r' ∧ INV S2 x M) := fun r p1 p0 =>
      U_X11_together hM.k ⟨fun q => absurd q c', fun _ => ⟨fun _ => ⟨hM.k, c_X11_areTogether hM hg hX.v0 hz hw hk0 hmn hn3 (fun t => ⟨fun q => absurd q (by decide), fun _ => ⟨p1 t, h.inv⟩⟩) (fun t => ⟨fun _ => ⟨p0 t, h.inv⟩, fun q => absurd rfl q⟩)⟩, fun q => absurd (by rw [← ebm]; exact c3) q⟩⟩
    exact ⟨hX.1, _, hX.2.1, hX.k3, _, hX.r0, hX.g.1.1, c_X0_canBringTogether hX hg hw hk0 (ebm.trans hmn) hn3 (fun t => ⟨fun q => absurd q (by decide), fun _ => ref 1 (fun _ => rfl) (fun q => absurd t q)⟩) (fun t => ⟨fun _ => ref 0 (fun q => absurd q t) (fun _ => rfl), fun q => absurd rfl q⟩)⟩
  · exact absurd e c
/-! never -/
/-- the first pair a, b that is taught and does not come together -/
def nvB (P : Nat → Nat → Prop) (a : Nat) : Nat → Nat → Int32 → Prop
  | 0, _, _ => False
  | c + 1, b, r => (P a b ∧ r = nI (10 * a + b)) ∨ (¬ P a b ∧ nvB P a c (b + 1) r)
def nvN (P : Nat → Nat → Prop) (a : Nat) : Nat → Nat → Prop
  | 0, _ => True
  | c + 1, b => ¬ P a b ∧ nvN P a c (b + 1)
def nvA (P : Nat → Nat → Prop) : Nat → Nat → Int32 → Prop
  | 0, _, r => r = kNONE
  | c + 1, a, r => nvB P a (9 - a) (a + 1) r ∨ (nvN P a (9 - a) (a + 1) ∧ nvA P c (a + 1) r)
theorem nvB_one {P : Nat → Nat → Prop} {a : Nat} {r r' : Int32} : ∀ (c b : Nat), nvB P a c b r → nvB P a c b r' → r = r'
  | 0, _, h, _ => h.elim
  | c + 1, b, h, h' => by
    rcases h with ⟨p, e⟩ | ⟨p, e⟩ <;> rcases h' with ⟨p', e'⟩ | ⟨p', e'⟩
    · rw [e, e']
    · exact absurd p p'
    · exact absurd p' p
    · exact nvB_one c (b + 1) e e'
theorem nvB_no {P : Nat → Nat → Prop} {a : Nat} {r : Int32} : ∀ (c b : Nat), nvB P a c b r → nvN P a c b → False
  | 0, _, h, _ => h
  | c + 1, b, h, n => by
    rcases h with ⟨p, _⟩ | ⟨_, e⟩
    · exact n.1 p
    · exact nvB_no c (b + 1) e n.2
theorem nvA_one {P : Nat → Nat → Prop} {r r' : Int32} : ∀ (c a : Nat), nvA P c a r → nvA P c a r' → r = r'
  | 0, _, h, h' => h.trans h'.symm
  | c + 1, a, h, h' => by
    rcases h with e | ⟨n, e⟩ <;> rcases h' with e' | ⟨n', e'⟩
    · exact nvB_one _ _ e e'
    · exact (nvB_no _ _ e n').elim
    · exact (nvB_no _ _ e' n).elim
    · exact nvA_one c (a + 1) e e'
/-- the two bits of a pair -/
theorem pair_b : ∀ a : Fin 10, ∀ b : Fin 10, a.val < b.val → (∃ k : Fin 1024, jshl 1 (nI a.val) ||| jshl 1 (nI b.val) = nI k.val) ∧ jbc (jshl 1 (nI a.val) ||| jshl 1 (nI b.val)) = nI 2 ∧ jmany (jshl 1 (nI a.val) ||| jshl 1 (nI b.val)) = nI 2 := by
  have h : ∀ a : Fin 10, ∀ b : Fin 10, a.val < b.val → (jshl 1 (nI a.val) ||| jshl 1 (nI b.val) = nI (2 ^ a.val + 2 ^ b.val) ∧ 2 ^ a.val + 2 ^ b.val < 1024) ∧ jbc (jshl 1 (nI a.val) ||| jshl 1 (nI b.val)) = nI 2 ∧ jmany (jshl 1 (nI a.val) ||| jshl 1 (nI b.val)) = nI 2 := by decide +kernel
  intro a b hab
  obtain ⟨⟨h1, h2⟩, h3⟩ := h a b hab
  exact ⟨⟨⟨_, h2⟩, h1⟩, h3⟩
def nvP (v : Nat → Int32) (sz : Nat) (ta : Int32) (a b : Nat) : Prop := ta &&& (jshl 1 (nI a) ||| jshl 1 (nI b)) = (jshl 1 (nI a) ||| jshl 1 (nI b)) ∧ ¬ tRe v sz (jshl 1 (nI a) ||| jshl 1 (nI b)) 2 0
theorem l_X10_never {Q : Int32 → jM → Prop} {ta : Int32} (hX : XR S x sz v) (hg : Rg sz v) (h : ∀ r, nvA (nvP v sz ta) 10 0 r → Q r S) : L_X10_never_13 E (d + 7) Q x ta 0 S := by
  have inner : ∀ (c b a : Nat), a < b → b + c = 10 → a < 10 → (∀ r, nvB (nvP v sz ta) a c b r → Q r S) → (nvN (nvP v sz ta) a c b → L_X10_never_13 E (d + 7) Q x ta (nI (a + 1)) S) → L_X10_never_23 E (d + 7) Q x ta (nI a) (nI b) S := by
    intro c
    induction c with
    | zero =>
      intro b a hab hb ha q n
      obtain rfl : b = 10 := by omega
      exact T_X10_never_23 ⟨fun _ => by rw [nI_1]; exact n trivial, fun cc => absurd (by decide) cc⟩
    | succ c ih =>
      intro b a hab hb ha q n
      obtain ⟨⟨⟨k, hk⟩, ek⟩, e2, -⟩ := pair_b ⟨a, ha⟩ ⟨b, by omega⟩ hab
      have nxt : ¬ nvP v sz ta a b → L_X10_never_23 E (d + 7) Q x ta (nI a) (nI b + 1) S := fun hp => by
        rw [nI_1]
        exact ih (b + 1) a (by omega) (by omega) ha (fun r hr => q r (Or.inr ⟨hp, hr⟩)) (fun hn => n ⟨hp, hn⟩)
      refine T_X10_never_23 ⟨fun cc => absurd cc (nI_ge (b := 10) (by omega) (by omega)), fun _ => ⟨fun c1 => ⟨hX.1, _, hX.2.1, hX.k3, _, hX.r0, hX.g.1.1, c_X0_canBringTogether hX hg ek hk e2 (by omega) (fun t => ⟨fun cc => absurd cc (by decide), fun _ => nxt (fun p => p.2 t)⟩) (fun t => ⟨fun _ => ?_, fun cc => absurd rfl cc⟩)⟩, fun c1 => nxt (fun p => c1 p.1)⟩⟩
      rw [show (10 : Int32) = nI 10 from rfl, nI_mul, nI_add]
      exact q _ (Or.inl ⟨⟨c1, t⟩, rfl⟩)
  have outer : ∀ (c a : Nat), a + c = 10 → (∀ r, nvA (nvP v sz ta) c a r → Q r S) → L_X10_never_13 E (d + 7) Q x ta (nI a) S := by
    intro c
    induction c with
    | zero =>
      intro a ha q
      obtain rfl : a = 10 := by omega
      exact T_X10_never_13 ⟨fun _ => q _ rfl, fun cc => absurd (by decide) cc⟩
    | succ c ih =>
      intro a ha q
      refine T_X10_never_13 ⟨fun cc => absurd cc (nI_ge (b := 10) (by omega) (by omega)), fun _ => ?_⟩
      rw [nI_1]
      exact inner (9 - a) (a + 1) a (by omega) (by omega) (by omega) (fun r hr => q r (Or.inl hr)) (fun hn => ih (a + 1) (by omega) (fun r hr => q r (Or.inr ⟨hn, hr⟩)))
  exact outer 10 0 (by omega) h
theorem l_X11_never {Q : Int32 → jM → Prop} {ta : Int32} (hM : MR S (x + 94) v) (hv0 : v 0 = nI sz) (hz : sz ≤ 9) (hg : Rg sz v) (h : ∀ r, nvA (nvP v sz ta) 10 0 r → Q r S) : L_X11_never_7 E (d + 2) Q (x + 94) ta 0 S := by
  have inner : ∀ (c b a : Nat), a < b → b + c = 10 → a < 10 → (∀ r, nvB (nvP v sz ta) a c b r → Q r S) → (nvN (nvP v sz ta) a c b → L_X11_never_7 E (d + 2) Q (x + 94) ta (nI (a + 1)) S) → L_X11_never_17 E (d + 2) Q (x + 94) ta (nI a) (nI b) S := by
    intro c
    induction c with
    | zero =>
      intro b a hab hb ha q n
      obtain rfl : b = 10 := by omega
      exact T_X11_never_17 ⟨fun _ => by rw [nI_1]; exact n trivial, fun cc => absurd (by decide) cc⟩
    | succ c ih =>
      intro b a hab hb ha q n
      obtain ⟨⟨⟨k, hk⟩, ek⟩, -, e2⟩ := pair_b ⟨a, ha⟩ ⟨b, by omega⟩ hab
      have nxt : ¬ nvP v sz ta a b → L_X11_never_17 E (d + 2) Q (x + 94) ta (nI a) (nI b + 1) S := fun hp => by
        rw [nI_1]
        exact ih (b + 1) a (by omega) (by omega) ha (fun r hr => q r (Or.inr ⟨hp, hr⟩)) (fun hn => n ⟨hp, hn⟩)
      refine T_X11_never_17 ⟨fun cc => absurd cc (nI_ge (b := 10) (by omega) (by omega)), fun _ => ⟨fun c1 => ⟨hM.k, c_X11_areTogether hM hg hv0 hz ek hk e2 (by omega) (fun t => ⟨fun cc => absurd cc (by decide), fun _ => nxt (fun p => p.2 t)⟩) (fun t => ⟨fun _ => ?_, fun cc => absurd rfl cc⟩)⟩, fun c1 => nxt (fun p => c1 p.1)⟩⟩
      rw [show (10 : Int32) = nI 10 from rfl, nI_mul, nI_add]
      exact q _ (Or.inl ⟨⟨c1, t⟩, rfl⟩)
  have outer : ∀ (c a : Nat), a + c = 10 → (∀ r, nvA (nvP v sz ta) c a r → Q r S) → L_X11_never_7 E (d + 2) Q (x + 94) ta (nI a) S := by
    intro c
    induction c with
    | zero =>
      intro a ha q
      obtain rfl : a = 10 := by omega
      exact T_X11_never_7 ⟨fun _ => q _ rfl, fun cc => absurd (by decide) cc⟩
    | succ c ih =>
      intro a ha q
      refine T_X11_never_7 ⟨fun cc => absurd cc (nI_ge (b := 10) (by omega) (by omega)), fun _ => ?_⟩
      rw [nI_1]
      exact inner (9 - a) (a + 1) a (by omega) (by omega) (by omega) (fun r hr => q r (Or.inl hr)) (fun hn => ih (a + 1) (by omega) (fun r hr => q r (Or.inr ⟨hn, hr⟩)))
  exact outer 10 0 (by omega) h
theorem Q_never (h : IV S x sz M v) : jFi E mX10_never (d + 8) 0 0 [.ref x] S (fun r S1 => jFm E mX11_never (d + 3) (x + 94) [] S1 (fun r' S2 => r = r' ∧ INV S2 x M)) := by
  obtain ⟨hX, hM, hg⟩ := id h.1
  have hz := hX.sz9
  refine T_X10_never ⟨hX.1, _, hX.2.1, hX.k3, _, hX.r0, hX.g.1.1, c_X0_taught hX.g hz (l_X10_never hX hg (fun r hr => ?_))⟩
  exact U_X11_never hM.k ⟨hM.k, c_X11_taughtNow hM hX.v0 hz (l_X11_never hM hX.v0 hz hg (fun r' hr' => ⟨nvA_one 10 0 hr hr', h.inv⟩))⟩
end jTog2
end
