/-! TOGETHER, NEVER on both sides, second part -/
section jTog2
variable {E : jEnv} {d : Nat} {S S' : jM} {x sz M : Nat} {v : Nat → Int32}
theorem nI_dv {i s : Nat} (h : i < 2 ^ 31) (h0 : 0 < s) (hs : s < 2 ^ 31) : nI i / nI s = nI (i / s) := pk_div (d := s) h h0 hs
theorem nI_rm {i s : Nat} (h : i < 2 ^ 31) (h0 : 0 < s) (hs : s < 2 ^ 31) : jrem (nI i) (nI s) = nI (i % s) := pk_rem (d := s) h h0 hs
theorem pw9 {n : Nat} (hz : sz ≤ 9) (hn : n ≤ 3) : sz ^ n ≤ 729 := by
  have h1 : sz ^ n ≤ 9 ^ n := Nat.pow_le_pow_left hz n
  have h2 : 9 ^ n ≤ 9 ^ 3 := Nat.pow_le_pow_right (by omega) hn
  have h3 : 9 ^ 3 = 729 := by decide
  omega
theorem c_X11_areTogether {Q : Int32 → jM → Prop} {w : Int32} {k0 n : Nat} (hM : MR S (x + 94) v) (hg : Rg sz v) (hv0 : v 0 = nI sz) (hz : sz ≤ 9) (hw : w = nI k0) (hk0 : k0 < 1024) (hn : jmany w = nI n) (hn3 : n ≤ 3) (h1 : tRe v sz w n 0 → Q 1 S) (h0 : ¬ tRe v sz w n 0 → Q 0 S) : jFi E mX11_areTogether (d + 2) 0 0 [.ref (x + 94), .int w] S Q := by
  have i0 := hM.at (i := 0) 0 rfl (by omega)
  have all9 := pw9 (n := n) hz hn3
  have wneg : ¬ (-1 : Int32) = w := fun e => by
    have := nI_pos (n := k0) (by omega)
    rw [← hw, ← e] at this; exact absurd (by decide) this
  -- a row that is spoilt
  have dead : ∀ (c i left code : Nat) (x6 : Int32), i + c = n → 0 < sz → left < 1000 → L_X11_areTogether_34 E (d + 1) Q (x + 94) w (nI n) (nI (sz ^ n)) (nI (code + 1)) S → L_X11_areTogether_53 E (d + 1) Q (x + 94) w (nI n) (nI (sz ^ n)) (nI code) (nI left) x6 (-1) (nI i) S := by
    intro c
    induction c with
    | zero =>
      intro i left code x6 hi hs hl hk
      obtain rfl : i = n := by omega
      refine T_X11_areTogether_53 ⟨fun _ => ⟨fun c => absurd c wneg, fun _ => by rw [nI_1]; exact hk⟩, fun cc => absurd Int32.le_rfl cc⟩
    | succ c ih =>
      intro i left code x6 hi hs hl hk
      refine T_X11_areTogether_53 ⟨fun cc => absurd cc (nI_ge (by omega) (by omega)), fun _ => ⟨hM.k, _, hM.r, hM.k1, i0.1, ?_⟩⟩
      have nz : ¬ nI sz = 0 := fun e => by have := nI_inj (by omega) (by omega) (show nI sz = nI 0 from e); omega
      rw [i0.2, hv0, nI_rm (by omega) hs (by omega), nI_dv (by omega) hs (by omega), nI_1]
      have hm9 : left % sz < 9 := Nat.lt_of_lt_of_le (Nat.mod_lt _ hs) hz
      have hd : left / sz ≤ left := Nat.div_le_self _ _
      refine ⟨nz, nz, c_X11_of (f := 2) hM hm9 (by omega) ⟨fun _ => ih (i + 1) _ code _ (by omega) hs (by omega) hk, fun cc => absurd (by decide) cc⟩⟩
  -- a row that is good so far
  have good : ∀ (c i left code : Nat) (kn had : Int32), i + c = n → 0 < sz → left < 1000 → tsub kn w → tsub had w → (rS v sz w c left kn had → Q 1 S) → (¬ rS v sz w c left kn had → L_X11_areTogether_34 E (d + 1) Q (x + 94) w (nI n) (nI (sz ^ n)) (nI (code + 1)) S) → L_X11_areTogether_53 E (d + 1) Q (x + 94) w (nI n) (nI (sz ^ n)) (nI code) (nI left) kn had (nI i) S := by
    intro c
    induction c with
    | zero =>
      intro i left code kn had hi hs hl s1 s2 q1 q0
      obtain rfl : i = n := by omega
      rw [← nI_1] at q0
      exact T_X11_areTogether_53 ⟨fun _ => ⟨fun c => ⟨fun c2 => q1 ⟨c, c2⟩, fun c2 => q0 (fun r => c2 r.2)⟩, fun c => q0 (fun r => c r.1)⟩, fun cc => absurd Int32.le_rfl cc⟩
    | succ c ih =>
      intro i left code kn had hi hs hl s1 s2 q1 q0
      refine T_X11_areTogether_53 ⟨fun cc => absurd cc (nI_ge (by omega) (by omega)), fun _ => ⟨hM.k, _, hM.r, hM.k1, i0.1, ?_⟩⟩
      have nz : ¬ nI sz = 0 := fun e => by have := nI_inj (by omega) (by omega) (show nI sz = nI 0 from e); omega
      rw [i0.2, hv0, nI_rm (by omega) hs (by omega), nI_dv (by omega) hs (by omega), nI_1]
      have hm9 : left % sz < 9 := Nat.lt_of_lt_of_le (Nat.mod_lt _ hs) hz
      have hd : left / sz ≤ left := Nat.div_le_self _ _
      rw [hw] at s1 s2
      obtain ⟨kh, hkh, ekh⟩ := tsub_lt hk0 s2
      obtain ⟨kk, hkk, ekk⟩ := tsub_lt hk0 s1
      rw [← hw] at s1 s2
      obtain ⟨g, hg10, eg⟩ := hg.ge hm9
      have no : ¬ rGo v w had kn (left % sz) → L_X11_areTogether_53 E (d + 1) Q (x + 94) w (nI n) (nI (sz ^ n)) (nI code) (nI (left / sz)) 0 (-1) (nI (i + 1)) S := fun hno => dead c (i + 1) _ code _ (by omega) hs (by omega) (q0 (fun r => hno r.1))
      refine ⟨nz, nz, c_X11_of (f := 2) hM hm9 (by omega) ⟨fun cc => absurd cc (by rw [ekh]; exact nI_pos (by omega)), fun _ => ⟨hM.k, c_X11_of (f := 6) hM hm9 (by omega) ⟨fun c6 => ⟨fun cw => no (fun r => r.2.1 cw), fun cw => ⟨fun ch => ⟨hM.k, ?_⟩, fun ch => no (fun r => ch r.2.2.1)⟩⟩, fun c6 => no (fun r => c6 r.1)⟩⟩⟩⟩
      rw [ekk]
      refine c_X11_teaches hM hg hm9 hkk ⟨fun ct => no (fun r => r.2.2.2 (by rw [ekk]; exact ct)), fun ct => ⟨hM.k, c_X11_behindLesson hM hm9 ?_⟩⟩
      rw [← ekk]
      rw [← ekk] at ct
      have hwg : tb w g = true := by rw [eg, tb_in1 hg10] at cw; exact cw
      refine ih (i + 1) (left / sz) code _ _ (by omega) hs (by omega) (fun k hk hb => ?_) (fun k hk hb => ?_) (fun r => q1 ⟨⟨c6, cw, ch, ct⟩, r⟩) (fun r => q0 (fun z => r z.2))
      · unfold jbl at hb
        rw [tb_or, tb_and, eg, tb_bit hg10 hk] at hb
        by_cases ek : k = g
        · rw [ek]; exact hwg
        · simp only [ek, decide_false, Bool.or_false, Bool.and_eq_true] at hb
          exact s1 k hk hb.1
      · rw [tb_or, eg, tb_bit hg10 hk] at hb
        by_cases ek : k = g
        · rw [ek]; exact hwg
        · simp only [ek, decide_false, Bool.or_false] at hb
          exact s2 k hk hb
  have sub0 : tsub 0 w := fun k _ hb => by rw [tb_0] at hb; exact absurd hb (by decide)
  have codes : ∀ (c code : Nat), code + c = sz ^ n → (∀ e, e < code → ¬ tSq v sz w n e 0) → L_X11_areTogether_34 E (d + 1) Q (x + 94) w (nI n) (nI (sz ^ n)) (nI code) S := by
    intro c
    induction c with
    | zero =>
      intro code hc hno
      obtain rfl : code = sz ^ n := by omega
      refine T_X11_areTogether_34 ⟨fun _ => h0 (fun t => ?_), fun cc => absurd Int32.le_rfl cc⟩
      obtain ⟨e, he, te⟩ := (tSq_ex n 0).mpr t
      exact hno e he te
    | succ c ih =>
      intro code hc hno
      refine T_X11_areTogether_34 ⟨fun cc => absurd cc (nI_ge (by omega) (by omega)), fun _ => ?_⟩
      cases n with
      | zero =>
        have hc1 : code + (c + 1) = 1 := by simpa using hc
        refine T_X11_areTogether_53 ⟨fun _ => ?_, fun cc => absurd (by exact Int32.le_rfl) cc⟩
        have yes : tRe v sz w 0 0 → Q 1 S := h1
        refine ⟨fun e => ⟨fun _ => yes e, fun q => absurd e q⟩, fun e => ?_⟩
        rw [nI_1]
        refine ih (code + 1) (by omega) (fun e' he' => ?_)
        exact fun t => e t
      | succ n' =>
        have hs : 0 < sz := by
          rcases Nat.eq_zero_or_pos sz with e | e
          · rw [e, Nat.pow_succ, Nat.mul_zero] at hc; omega
          · exact e
        refine good (n' + 1) 0 code code 0 0 (by omega) hs (by omega) sub0 sub0 (fun r => h1 ((tSq_ex (n' + 1) 0).mp ⟨code, by omega, (rS_eq hg hz hs _ _ _).mp r⟩)) (fun r => ih (code + 1) (by omega) (fun e he => ?_))
        by_cases ee : e = code
        · rw [ee]; exact fun t => r ((rS_eq hg hz hs _ _ _).mpr t)
        · exact hno e (by omega)
  have pows : ∀ (c i : Nat), i + c = n → L_X11_areTogether_10 E (d + 1) Q (x + 94) w (nI n) (nI (sz ^ i)) (nI i) S := by
    intro c
    induction c with
    | zero =>
      intro i hi
      obtain rfl : i = n := by omega
      exact T_X11_areTogether_10 ⟨fun _ => codes (sz ^ i) 0 (by omega) (fun e he => absurd he (Nat.not_lt_zero _)), fun cc => absurd Int32.le_rfl cc⟩
    | succ c ih =>
      intro i hi
      refine T_X11_areTogether_10 ⟨fun cc => absurd cc (nI_ge (by omega) (by omega)), fun _ => ⟨hM.k, _, hM.r, hM.k1, i0.1, ?_⟩⟩
      rw [i0.2, hv0, nI_mul, ← Nat.pow_succ, nI_1]
      exact ih (i + 1) (by omega)
  refine T_X11_areTogether ?_
  rw [hn]
  exact pows n 0 (by omega)
/-- the class's question, from nothing -/
theorem c_X0_canBringTogether {Q : Int32 → jM → Prop} {w : Int32} {k0 n : Nat} (hX : XR S x sz v) (hg : Rg sz v) (hw : w = nI k0) (hk0 : k0 < 1024) (hn : jbc w = nI n) (hn3 : n ≤ 3) (h1 : tRe v sz w n 0 → Q 1 S) (h0 : ¬ tRe v sz w n 0 → Q 0 S) : jFi E mX0_canBringTogether (d + 7) 0 0 [.ref (x + 2), .int w] S Q := by
  have e0 : w &&& (0 ^^^ (-1)) = w := tb_ext (fun k hk => by rw [tb_and, tb_not _ hk, tb_0]; simp)
  exact T_X0_canBringTogether (c_X0_leadsTo hX hg hw hk0 n (d + 6) 0 _ (by omega) hn3 (fun k _ hb => by rw [tb_0] at hb; exact absurd hb (by decide)) (by rw [e0]; exact hn) (fun t => ⟨Or.inr rfl, h1 t⟩) (fun t => ⟨Or.inl rfl, h0 t⟩))
theorem Q_together {w : Int32} (h : IV S x sz M v) : jFi E mX10_together (d + 8) 0 0 [.ref x, .int w] S (fun r S1 => jFm E mX11_together (d + 3) (x + 94) [.int w] S1 (fun r' S2 => r = r' ∧ INV S2 x M)) := by
  obtain ⟨hX, hM, hg⟩ := id h.1
  have hz := hX.sz9
  have e0 : jisin (Int32.toInt64 w) 0 1023 = jwi w 1024 := jisin_wi w 1024 1023 rfl (jle_lt (by decide))
  refine T_X10_together ⟨fun c => U_X11_together hM.k ⟨fun _ => ⟨rfl, h.inv⟩, fun c2 => absurd (e0.trans c) c2⟩, fun c => ?_⟩
  have c' : ¬ jisin (Int32.toInt64 w) 0 1023 = 0 := by rw [e0]; exact c
  rcases jwi_cases w (b := 1024) 1024 rfl (by omega) with ⟨k0, hk0, hw, -⟩ | ⟨-, e⟩
  · have ebm : jbc w = jmany w := by rw [hw]; exact jbm hk0
    refine ⟨fun c3 => ?_, fun c3 => U_X11_together hM.k ⟨fun q => absurd q c', fun _ => ⟨fun q => absurd (by rw [ebm]; exact q) c3, fun _ => ⟨rfl, h.inv⟩⟩⟩⟩
    obtain ⟨⟨n, hn11⟩, hn⟩ := jmany_le ⟨k0, hk0⟩
    have hmn : jmany w = nI n := by rw [hw]; exact hn
    have hn3 : n ≤ 3 := by
      rw [ebm, hmn] at c3
      exact (nI_leI (b := 3) (by omega) (by omega)).mp c3
    have ref : ∀ r : Int32, (tRe v sz w n 0 → r = 1) → (¬ tRe v sz w n 0 → r = 0) → jFm E mX11_together (d + 3) (x + 94) [.int w] S (fun r' S2 => r = r' ∧ INV S2 x M) := fun r p1 p0 =>
      U_X11_together hM.k ⟨fun q => absurd q c', fun _ => ⟨fun _ => ⟨hM.k, c_X11_areTogether hM hg hX.v0 hz hw hk0 hmn hn3 (fun t => ⟨fun q => absurd q (by decide), fun _ => ⟨p1 t, h.inv⟩⟩) (fun t => ⟨fun _ => ⟨p0 t, h.inv⟩, fun q => absurd rfl q⟩)⟩, fun q => absurd (by rw [← ebm]; exact c3) q⟩⟩
    exact ⟨hX.1, _, hX.2.1, hX.k3, _, hX.r0, hX.g.1.1, c_X0_canBringTogether hX hg hw hk0 (ebm.trans hmn) hn3 (fun t => ⟨fun q => absurd q (by decide), fun _ => ref 1 (fun _ => rfl) (fun q => absurd t q)⟩) (fun t => ⟨fun _ => ref 0 (fun q => absurd q t) (fun _ => rfl), fun q => absurd rfl q⟩)⟩
  · exact absurd e c
/-! never -/
/-- the first pair a, b that is taught and does not come together -/
def nvB (P : Nat → Nat → Prop) (a : Nat) : Nat → Nat → Int32 → Prop
  | 0, _, _ => False
  | c + 1, b, r => (P a b ∧ r = nI (10 * a + b)) ∨ (¬ P a b ∧ nvB P a c (b + 1) r)
def nvN (P : Nat → Nat → Prop) (a : Nat) : Nat → Nat → Prop
  | 0, _ => True
  | c + 1, b => ¬ P a b ∧ nvN P a c (b + 1)
def nvA (P : Nat → Nat → Prop) : Nat → Nat → Int32 → Prop
  | 0, _, r => r = kNONE
  | c + 1, a, r => nvB P a (9 - a) (a + 1) r ∨ (nvN P a (9 - a) (a + 1) ∧ nvA P c (a + 1) r)
theorem nvB_one {P : Nat → Nat → Prop} {a : Nat} {r r' : Int32} : ∀ (c b : Nat), nvB P a c b r → nvB P a c b r' → r = r'
  | 0, _, h, _ => h.elim
  | c + 1, b, h, h' => by
    rcases h with ⟨p, e⟩ | ⟨p, e⟩ <;> rcases h' with ⟨p', e'⟩ | ⟨p', e'⟩
    · rw [e, e']
    · exact absurd p p'
    · exact absurd p' p
    · exact nvB_one c (b + 1) e e'
theorem nvB_no {P : Nat → Nat → Prop} {a : Nat} {r : Int32} : ∀ (c b : Nat), nvB P a c b r → nvN P a c b → False
  | 0, _, h, _ => h
  | c + 1, b, h, n => by
    rcases h with ⟨p, _⟩ | ⟨_, e⟩
    · exact n.1 p
    · exact nvB_no c (b + 1) e n.2
theorem nvA_one {P : Nat → Nat → Prop} {r r' : Int32} : ∀ (c a : Nat), nvA P c a r → nvA P c a r' → r = r'
  | 0, _, h, h' => h.trans h'.symm
  | c + 1, a, h, h' => by
    rcases h with e | ⟨n, e⟩ <;> rcases h' with e' | ⟨n', e'⟩
    · exact nvB_one _ _ e e'
    · exact (nvB_no _ _ e n').elim
    · exact (nvB_no _ _ e' n).elim
    · exact nvA_one c (a + 1) e e'
/-- the two bits of a pair -/
theorem pair_b : ∀ a : Fin 10, ∀ b : Fin 10, a.val < b.val → (∃ k : Fin 1024, jshl 1 (nI a.val) ||| jshl 1 (nI b.val) = nI k.val) ∧ jbc (jshl 1 (nI a.val) ||| jshl 1 (nI b.val)) = nI 2 ∧ jmany (jshl 1 (nI a.val) ||| jshl 1 (nI b.val)) = nI 2 := by
  have h : ∀ a : Fin 10, ∀ b : Fin 10, a.val < b.val → (jshl 1 (nI a.val) ||| jshl 1 (nI b.val) = nI (2 ^ a.val + 2 ^ b.val) ∧ 2 ^ a.val + 2 ^ b.val < 1024) ∧ jbc (jshl 1 (nI a.val) ||| jshl 1 (nI b.val)) = nI 2 ∧ jmany (jshl 1 (nI a.val) ||| jshl 1 (nI b.val)) = nI 2 := by decide +kernel
  intro a b hab
  obtain ⟨⟨h1, h2⟩, h3⟩ := h a b hab
  exact ⟨⟨⟨_, h2⟩, h1⟩, h3⟩
def nvP (v : Nat → Int32) (sz : Nat) (ta : Int32) (a b : Nat) : Prop := ta &&& (jshl 1 (nI a) ||| jshl 1 (nI b)) = (jshl 1 (nI a) ||| jshl 1 (nI b)) ∧ ¬ tRe v sz (jshl 1 (nI a) ||| jshl 1 (nI b)) 2 0
theorem l_X10_never {Q : Int32 → jM → Prop} {ta : Int32} (hX : XR S x sz v) (hg : Rg sz v) (h : ∀ r, nvA (nvP v sz ta) 10 0 r → Q r S) : L_X10_never_13 E (d + 7) Q x ta 0 S := by
  have inner : ∀ (c b a : Nat), a < b → b + c = 10 → a < 10 → (∀ r, nvB (nvP v sz ta) a c b r → Q r S) → (nvN (nvP v sz ta) a c b → L_X10_never_13 E (d + 7) Q x ta (nI (a + 1)) S) → L_X10_never_23 E (d + 7) Q x ta (nI a) (nI b) S := by
    intro c
    induction c with
    | zero =>
      intro b a hab hb ha q n
      obtain rfl : b = 10 := by omega
      exact T_X10_never_23 ⟨fun _ => by rw [nI_1]; exact n trivial, fun cc => absurd (by decide) cc⟩
    | succ c ih =>
      intro b a hab hb ha q n
      obtain ⟨⟨⟨k, hk⟩, ek⟩, e2, -⟩ := pair_b ⟨a, ha⟩ ⟨b, by omega⟩ hab
      have nxt : ¬ nvP v sz ta a b → L_X10_never_23 E (d + 7) Q x ta (nI a) (nI b + 1) S := fun hp => by
        rw [nI_1]
        exact ih (b + 1) a (by omega) (by omega) ha (fun r hr => q r (Or.inr ⟨hp, hr⟩)) (fun hn => n ⟨hp, hn⟩)
      refine T_X10_never_23 ⟨fun cc => absurd cc (nI_ge (b := 10) (by omega) (by omega)), fun _ => ⟨fun c1 => ⟨hX.1, _, hX.2.1, hX.k3, _, hX.r0, hX.g.1.1, c_X0_canBringTogether hX hg ek hk e2 (by omega) (fun t => ⟨fun cc => absurd cc (by decide), fun _ => nxt (fun p => p.2 t)⟩) (fun t => ⟨fun _ => ?_, fun cc => absurd rfl cc⟩)⟩, fun c1 => nxt (fun p => c1 p.1)⟩⟩
      rw [show (10 : Int32) = nI 10 from rfl, nI_mul, nI_add]
      exact q _ (Or.inl ⟨⟨c1, t⟩, rfl⟩)
  have outer : ∀ (c a : Nat), a + c = 10 → (∀ r, nvA (nvP v sz ta) c a r → Q r S) → L_X10_never_13 E (d + 7) Q x ta (nI a) S := by
    intro c
    induction c with
    | zero =>
      intro a ha q
      obtain rfl : a = 10 := by omega
      exact T_X10_never_13 ⟨fun _ => q _ rfl, fun cc => absurd (by decide) cc⟩
    | succ c ih =>
      intro a ha q
      refine T_X10_never_13 ⟨fun cc => absurd cc (nI_ge (b := 10) (by omega) (by omega)), fun _ => ?_⟩
      rw [nI_1]
      exact inner (9 - a) (a + 1) a (by omega) (by omega) (by omega) (fun r hr => q r (Or.inl hr)) (fun hn => ih (a + 1) (by omega) (fun r hr => q r (Or.inr ⟨hn, hr⟩)))
  exact outer 10 0 (by omega) h
theorem l_X11_never {Q : Int32 → jM → Prop} {ta : Int32} (hM : MR S (x + 94) v) (hv0 : v 0 = nI sz) (hz : sz ≤ 9) (hg : Rg sz v) (h : ∀ r, nvA (nvP v sz ta) 10 0 r → Q r S) : L_X11_never_7 E (d + 2) Q (x + 94) ta 0 S := by
  have inner : ∀ (c b a : Nat), a < b → b + c = 10 → a < 10 → (∀ r, nvB (nvP v sz ta) a c b r → Q r S) → (nvN (nvP v sz ta) a c b → L_X11_never_7 E (d + 2) Q (x + 94) ta (nI (a + 1)) S) → L_X11_never_17 E (d + 2) Q (x + 94) ta (nI a) (nI b) S := by
    intro c
    induction c with
    | zero =>
      intro b a hab hb ha q n
      obtain rfl : b = 10 := by omega
      exact T_X11_never_17 ⟨fun _ => by rw [nI_1]; exact n trivial, fun cc => absurd (by decide) cc⟩
    | succ c ih =>
      intro b a hab hb ha q n
      obtain ⟨⟨⟨k, hk⟩, ek⟩, -, e2⟩ := pair_b ⟨a, ha⟩ ⟨b, by omega⟩ hab
      have nxt : ¬ nvP v sz ta a b → L_X11_never_17 E (d + 2) Q (x + 94) ta (nI a) (nI b + 1) S := fun hp => by
        rw [nI_1]
        exact ih (b + 1) a (by omega) (by omega) ha (fun r hr => q r (Or.inr ⟨hp, hr⟩)) (fun hn => n ⟨hp, hn⟩)
      refine T_X11_never_17 ⟨fun cc => absurd cc (nI_ge (b := 10) (by omega) (by omega)), fun _ => ⟨fun c1 => ⟨hM.k, c_X11_areTogether hM hg hv0 hz ek hk e2 (by omega) (fun t => ⟨fun cc => absurd cc (by decide), fun _ => nxt (fun p => p.2 t)⟩) (fun t => ⟨fun _ => ?_, fun cc => absurd rfl cc⟩)⟩, fun c1 => nxt (fun p => c1 p.1)⟩⟩
      rw [show (10 : Int32) = nI 10 from rfl, nI_mul, nI_add]
      exact q _ (Or.inl ⟨⟨c1, t⟩, rfl⟩)
  have outer : ∀ (c a : Nat), a + c = 10 → (∀ r, nvA (nvP v sz ta) c a r → Q r S) → L_X11_never_7 E (d + 2) Q (x + 94) ta (nI a) S := by
    intro c
    induction c with
    | zero =>
      intro a ha q
      obtain rfl : a = 10 := by omega
      exact T_X11_never_7 ⟨fun _ => q _ rfl, fun cc => absurd (by decide) cc⟩
    | succ c ih =>
      intro a ha q
      refine T_X11_never_7 ⟨fun cc => absurd cc (nI_ge (b := 10) (by omega) (by omega)), fun _ => ?_⟩
      rw [nI_1]
      exact inner (9 - a) (a + 1) a (by omega) (by omega) (by omega) (fun r hr => q r (Or.inl hr)) (fun hn => ih (a + 1) (by omega) (fun r hr => q r (Or.inr ⟨hn, hr⟩)))
  exact outer 10 0 (by omega) h
theorem Q_never (h : IV S x sz M v) : jFi E mX10_never (d + 8) 0 0 [.ref x] S (fun r S1 => jFm E mX11_never (d + 3) (x + 94) [] S1 (fun r' S2 => r = r' ∧ INV S2 x M)) := by
  obtain ⟨hX, hM, hg⟩ := id h.1
  have hz := hX.sz9
  refine T_X10_never ⟨hX.1, _, hX.2.1, hX.k3, _, hX.r0, hX.g.1.1, c_X0_taught hX.g hz (l_X10_never hX hg (fun r hr => ?_))⟩
  exact U_X11_never hM.k ⟨hM.k, c_X11_taughtNow hM hX.v0 hz (l_X11_never hM hX.v0 hz hg (fun r' hr' => ⟨nvA_one 10 0 hr hr', h.inv⟩))⟩
end jTog2
