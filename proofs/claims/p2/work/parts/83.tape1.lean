/-! TEXT: the class's tape, its small methods -/
def TB (S : jM) (t n : Nat) (b : Nat → Nat) : Prop := TpL S t ∧ n ≤ 96 ∧ ji S t 1 = nI n ∧ ∀ j, j < n → b j < 256 ∧ ji S (t + 1) j = nI (b j)
def TKC (S : jM) (t : Nat) (k : jtk) : Prop := ji S t 2 = nI k.1 ∧ ji S t 3 = nI k.2.1 ∧ ji S t 4 = nI k.2.2.1 ∧ ji S t 5 = nI k.2.2.2
/-- what a step changes -/
def jts (S S' : jM) (t : Nat) : Prop := jsame S S' ∧ (∀ y, y ≠ t → ji S' y = ji S y) ∧ ∀ j, (j < 2 ∨ 6 ≤ j) → ji S' t j = ji S t j
section jTape1
variable {E : jEnv} {d : Nat} {S S' : jM} {t n : Nat} {b : Nat → Nat}
theorem jts.rfl : jts S S t := ⟨jsame.rfl, fun _ _ => _root_.rfl, fun _ _ => _root_.rfl⟩
theorem jts.trans {S1 S2 : jM} (h1 : jts S S1 t) (h2 : jts S1 S2 t) : jts S S2 t := ⟨h1.1.trans h2.1, fun y a => (h2.2.1 y a).trans (h1.2.1 y a), fun j a => (h2.2.2 j a).trans (h1.2.2 j a)⟩
theorem jts.put {j : Nat} {w : Int32} (h1 : 2 ≤ j) (h2 : j < 6) : jts S (jput S t j w) t := ⟨⟨_root_.rfl, _root_.rfl, _root_.rfl, _root_.rfl⟩, fun y a => ji_put_ne _ _ _ _ a, fun k hk => by rw [ji_put, if_neg (by omega)]⟩
theorem TB.ts (h : TB S t n b) (g : jts S S' t) : TB S' t n b := by
  obtain ⟨h1, h2, h3, h4⟩ := h
  exact ⟨h1.same g.1, h2, (g.2.2 1 (by omega)).trans h3, fun j hj => ⟨(h4 j hj).1, by rw [g.2.1 _ (by omega)]; exact (h4 j hj).2⟩⟩
theorem c_X8_byteAt {Q : Int32 → jM → Prop} {p : Nat} (hT : TB S t n b) (hp : p < n) (h : Q (nI (b p)) S) : jFi E mX8_byteAt d 0 0 [.ref t, .int (nI p)] S Q := by
  obtain ⟨hL, h96, h1, hb⟩ := hT
  refine T_X8_byteAt ⟨fun c => absurd c (nI_pos (by omega)), fun _ => ⟨hL.1, ?_⟩⟩
  rw [h1]
  refine ⟨fun c => absurd c (nI_ge (by omega) (by omega)), fun _ => ⟨fun c => absurd c (nI_ge (b := 96) (by omega) (by omega)), fun _ => ⟨_, hL.2.1, hL.2.2.2.1, by rw [hL.2.2.2.2.1]; exact jin_nI (by omega) (by omega), ?_⟩⟩⟩
  rw [jcl (by omega), (hb p hp).2]; exact h
theorem c_X8_sortAt {Q : Int32 → jM → Prop} {p : Nat} (hT : TB S t n b) (hp : p ≤ 96) (h : Q (nI (psrt b n p)) S) : jFi E mX8_sortAt (d + 1) 0 0 [.ref t, .int (nI p)] S Q := by
  have hn := hT.2.1
  refine T_X8_sortAt ⟨hT.1.1, ?_⟩
  rw [hT.2.2.1]
  refine ⟨fun c => ?_, fun c => ?_⟩
  · have hpn : p < n := (nI_ltI (by omega) (by omega)).mp c
    have hb := (hT.2.2.2 p hpn).1
    refine c_X8_byteAt hT hpn ?_
    have e : psrt b n p = if 97 ≤ b p ∧ b p ≤ 122 then 1 else if 48 ≤ b p ∧ b p ≤ 57 then 2 else 3 := if_neg (by omega)
    rw [e] at h
    have lt : ∀ k, k < 256 → (nI (b p) < nI k ↔ b p < k) := fun k hk => nI_ltI (by omega) (by omega)
    have gt : ∀ k, k < 256 → (nI k < nI (b p) ↔ k < b p) := fun k hk => nI_ltI (by omega) (by omega)
    have l97 := lt 97 (by omega)
    have l48 := lt 48 (by omega)
    have g57 := gt 57 (by omega)
    have g122 := gt 122 (by omega)
    refine ⟨fun c1 => ⟨fun c2 => ?_, fun c2 => ⟨fun c3 => ?_, fun c3 => ?_⟩⟩, fun c1 => ⟨fun c2 => ⟨fun c3 => ?_, fun c3 => ⟨fun c4 => ?_, fun c4 => ?_⟩⟩, fun c2 => ?_⟩⟩
    · have q1 := l97.mp c1
      have q2 := l48.mp c2
      rw [if_neg (by omega), if_neg (by omega)] at h; exact h
    · have q1 := l97.mp c1
      have q2 := g57.mp c3
      rw [if_neg (by omega), if_neg (by omega)] at h; exact h
    · have q1 := l97.mp c1
      have q2 : ¬ b p < 48 := fun q => c2 (l48.mpr q)
      have q3 : ¬ 57 < b p := fun q => c3 (g57.mpr q)
      rw [if_neg (by omega), if_pos (by omega)] at h; exact h
    · have q1 : ¬ b p < 97 := fun q => c1 (l97.mpr q)
      have q2 := l48.mp c3
      omega
    · have q1 : ¬ b p < 97 := fun q => c1 (l97.mpr q)
      have q2 := g122.mp c2
      rw [if_neg (by omega), if_neg (by omega)] at h; exact h
    · have q1 : ¬ b p < 97 := fun q => c1 (l97.mpr q)
      have q2 : ¬ 57 < b p := fun q => c4 (g57.mpr q)
      omega
    · have q1 : ¬ b p < 97 := fun q => c1 (l97.mpr q)
      have q2 : ¬ 122 < b p := fun q => c2 (g122.mpr q)
      rw [if_pos (by omega)] at h; exact h
  · have hpn : n ≤ p := by
      rcases Nat.lt_or_ge p n with q | q
      · exact absurd (nI_lt q (by omega)) c
      · exact q
    rw [psrt_0.mpr hpn] at h; exact h
theorem c_X8_step {Q : jM → Prop} {e so : Nat} (hT : TB S t n b) (h3 : ji S t 3 = nI e) (h4 : ji S t 4 = nI so) (he : e ≤ n) (hso : so ≤ 3) (hq : ∀ S', jts S S' t → TKC S' t (ptok b n (if so = 1 ∨ so = 2 then 1 else 0) e) → Q S') : jFv E mX8_step (d + 2) 0 0 [.ref t] S Q := by
  have hn := hT.2.1
  -- the word's end
  have l129 : ∀ (c q st s nb : Nat) (S1 : jM), q + c = n ∨ (n ≤ q ∧ c = 0) → q ≤ 96 → jts S S1 t → ji S1 t 2 = nI st → ji S1 t 3 = nI q → ji S1 t 4 = nI s → s ≤ 3 → ji S1 t 5 = nI nb → (∀ S', jts S S' t → ji S' t 2 = nI st → ji S' t 3 = nI (if s = 3 then q else prun b n s c q) → ji S' t 4 = nI s → ji S' t 5 = nI nb → Q S') → L_X8_step_129 E (d + 1) Q t S1 := by
    intro c
    induction c with
    | zero =>
      intro q st s nb S1 hc hq96 g1 f2 f3 f4 hs f5 hq1
      have T1 := hT.ts g1
      refine T_X8_step_129 ⟨T1.1.1, ?_⟩
      rw [T1.2.2.1, f3]
      refine ⟨fun _ => ?_, fun cc => absurd (nI_le (by omega) (by omega)) cc⟩
      refine hq1 S1 g1 f2 ?_ f4 f5
      rw [f3]
      split <;> rfl
    | succ c ih =>
      intro q st s nb S1 hc hq96 g1 f2 f3 f4 hs f5 hq1
      have T1 := hT.ts g1
      refine T_X8_step_129 ⟨T1.1.1, ?_⟩
      rw [T1.2.2.1, f3, f4]
      refine ⟨fun cc => absurd cc (nI_ge (by omega) (by omega)), fun _ => ⟨fun c3 => ?_, fun c3 => ?_⟩⟩
      · have es : s = 3 := nI_inj (b := 3) (by omega) (by omega) c3
        refine hq1 S1 g1 f2 ?_ f4 f5
        rw [f3, if_pos es]
      · have es : ¬ s = 3 := fun q => c3 (by rw [q]; rfl)
        refine c_X8_sortAt T1 (by omega) ⟨T1.1.1, ?_⟩
        rw [f4, f3, nI_1]
        have ep : prun b n s (c + 1) q = if psrt b n q = s then prun b n s c (q + 1) else q := rfl
        refine ⟨fun c4 => ?_, fun c4 => ?_⟩
        · have e4 : psrt b n q = s := nI_inj (Nat.lt_of_le_of_lt psrt_le (by omega)) (by omega) c4
          rw [ep, if_pos e4, if_neg es] at hq1
          exact ih (q + 1) st s nb _ (by omega) (by omega) (g1.trans (jts.put (by omega) (by omega))) (by rw [ji_put, if_neg (by omega)]; exact f2) (by rw [ji_put_same]) (by rw [ji_put, if_neg (by omega)]; exact f4) hs (by rw [ji_put, if_neg (by omega)]; exact f5) (by rw [if_neg es]; exact hq1)
        · have e4 : ¬ psrt b n q = s := fun z => c4 (by rw [z])
          refine hq1 S1 g1 f2 ?_ f4 f5
          rw [f3, if_neg es, ep, if_neg e4]
  -- behind the blanks
  have aft : ∀ (st nb : Nat) (S1 : jM), pskp b (n - e) e = st → jts S S1 t → ji S1 t 2 = nI st → nb = (if (so = 1 ∨ so = 2) ∧ st = e then 1 else 0) → (nI (psrt b n st) = 0 → L_X8_step_129 E (d + 1) Q t (jput (jput (jput S1 t 4 (nI (psrt b n st))) t 5 (nI nb)) t 3 (nI st))) ∧ (¬ nI (psrt b n st) = 0 → L_X8_step_129 E (d + 1) Q t (jput (jput (jput S1 t 4 (nI (psrt b n st))) t 5 (nI nb)) t 3 (nI st + 1))) := by
    intro st nb S1 hst g1 f2 hnb
    have hge := pskp_ge b (n - e) e
    rw [hst] at hge
    have et : ptok b n (if so = 1 ∨ so = 2 then 1 else 0) e = (st, (if psrt b n st = 0 then st else if psrt b n st = 3 then st + 1 else prun b n (psrt b n st) (n - (st + 1)) (st + 1)), psrt b n st, nb) := by
      unfold ptok
      rw [hst]
      show (st, _, psrt b n st, _) = _
      congr 3
      rw [hnb]
      by_cases w : so = 1 ∨ so = 2
      · rw [if_pos w]
        by_cases q : st = e
        · rw [if_pos ⟨rfl, q⟩, if_pos ⟨w, q⟩]
        · rw [if_neg (fun z => q z.2), if_neg (fun z => q z.2)]
      · rw [if_neg w, if_neg (fun z => absurd z.1 (by decide)), if_neg (fun z => w z.1)]
    rw [et] at hq
    have g2 : ∀ w : Int32, jts S (jput (jput (jput S1 t 4 (nI (psrt b n st))) t 5 (nI nb)) t 3 w) t := fun w => ((g1.trans (jts.put (by omega) (by omega))).trans (jts.put (by omega) (by omega))).trans (jts.put (by omega) (by omega))
    have p2 : ∀ w : Int32, ji (jput (jput (jput S1 t 4 (nI (psrt b n st))) t 5 (nI nb)) t 3 w) t 2 = nI st := fun w => by rw [ji_put, if_neg (by omega), ji_put, if_neg (by omega), ji_put, if_neg (by omega)]; exact f2
    have p4 : ∀ w : Int32, ji (jput (jput (jput S1 t 4 (nI (psrt b n st))) t 5 (nI nb)) t 3 w) t 4 = nI (psrt b n st) := fun w => by rw [ji_put, if_neg (by omega), ji_put, if_neg (by omega), ji_put_same]
    have p5 : ∀ w : Int32, ji (jput (jput (jput S1 t 4 (nI (psrt b n st))) t 5 (nI nb)) t 3 w) t 5 = nI nb := fun w => by rw [ji_put, if_neg (by omega), ji_put_same]
    have le3 := psrt_le (b := b) (n := n) (p := st)
    refine ⟨fun c0 => ?_, fun c0 => ?_⟩
    · have e0 : psrt b n st = 0 := nI_inj (b := 0) (by omega) (by omega) c0
      have hns := psrt_0.mp e0
      refine l129 0 st st (psrt b n st) nb _ (Or.inr ⟨hns, rfl⟩) (by omega) (g2 _) (p2 _) (by rw [ji_put_same]) (p4 _) le3 (p5 _) (fun S' gg q2 q3 q4 q5 => hq S' gg ⟨q2, ?_, q4, q5⟩)
      rw [q3]
      show nI (if psrt b n st = 3 then st else st) = nI (if psrt b n st = 0 then st else _)
      rw [if_pos e0]; split <;> rfl
    · have e0 : ¬ psrt b n st = 0 := fun z => c0 (by rw [z]; rfl)
      have hns : ¬ n ≤ st := fun z => e0 (psrt_0.mpr z)
      rw [nI_1]
      refine l129 (n - (st + 1)) (st + 1) st (psrt b n st) nb _ (by omega) (by omega) (g2 _) (p2 _) (by rw [ji_put_same]) (p4 _) le3 (p5 _) (fun S' gg q2 q3 q4 q5 => hq S' gg ⟨q2, ?_, q4, q5⟩)
      rw [q3]
      show nI _ = nI (if psrt b n st = 0 then st else if psrt b n st = 3 then st + 1 else _)
      rw [if_neg e0]
  have tree : ∀ (x1 : Int32) (st : Nat) (S1 : jM), x1 = (if so = 1 ∨ so = 2 then 1 else 0) → pskp b (n - e) e = st → jts S S1 t → ji S1 t 2 = nI st → (x1 = 0 → (nI (psrt b n st) = 0 → L_X8_step_129 E (d + 1) Q t (jput (jput (jput S1 t 4 (nI (psrt b n st))) t 5 0) t 3 (ji S1 t 2))) ∧ (¬ nI (psrt b n st) = 0 → L_X8_step_129 E (d + 1) Q t (jput (jput (jput S1 t 4 (nI (psrt b n st))) t 5 0) t 3 ((ji S1 t 2) + 1)))) ∧ (¬ x1 = 0 → ((ji S1 t 2) = nI e → (nI (psrt b n st) = 0 → L_X8_step_129 E (d + 1) Q t (jput (jput (jput S1 t 4 (nI (psrt b n st))) t 5 1) t 3 (ji S1 t 2))) ∧ (¬ nI (psrt b n st) = 0 → L_X8_step_129 E (d + 1) Q t (jput (jput (jput S1 t 4 (nI (psrt b n st))) t 5 1) t 3 ((ji S1 t 2) + 1)))) ∧ (¬ (ji S1 t 2) = nI e → (nI (psrt b n st) = 0 → L_X8_step_129 E (d + 1) Q t (jput (jput (jput S1 t 4 (nI (psrt b n st))) t 5 0) t 3 (ji S1 t 2))) ∧ (¬ nI (psrt b n st) = 0 → L_X8_step_129 E (d + 1) Q t (jput (jput (jput S1 t 4 (nI (psrt b n st))) t 5 0) t 3 ((ji S1 t 2) + 1))))) := by
    intro x1 st S1 hx hst g1 f2
    have hge := pskp_ge b (n - e) e
    rw [hst] at hge
    rw [f2]
    refine ⟨fun c => aft st 0 S1 hst g1 f2 ?_, fun c => ⟨fun c1 => aft st 1 S1 hst g1 f2 ?_, fun c1 => aft st 0 S1 hst g1 f2 ?_⟩⟩
    · rw [if_neg (fun z => ?_)]
      rw [hx, if_pos z.1] at c; exact absurd c (by decide)
    · have es : st = e := nI_inj (by omega) (by omega) c1
      have w : so = 1 ∨ so = 2 := by
        refine Classical.byContradiction (fun z => c ?_)
        rw [hx, if_neg z]
      rw [if_pos ⟨w, es⟩]
    · rw [if_neg (fun z => c1 (by rw [z.2]))]
  have l35 : ∀ (c p : Nat) (x1 : Int32) (S1 : jM), p + c = n → e ≤ p → x1 = (if so = 1 ∨ so = 2 then 1 else 0) → pskp b (n - e) e = pskp b c p → jts S S1 t → ji S1 t 2 = nI p → L_X8_step_35 E (d + 1) Q t x1 (nI e) S1 := by
    intro c
    induction c with
    | zero =>
      intro p x1 S1 hp hep hx hsk g1 f2
      obtain rfl : p = n := by omega
      have T1 := hT.ts g1
      refine T_X8_step_35 ⟨T1.1.1, fun _ => ?_, fun cc => absurd (by rw [T1.2.2.1, f2]; exact Int32.le_rfl) cc⟩
      rw [f2]
      refine c_X8_sortAt T1 (by omega) ⟨T1.1.1, ?_⟩
      exact tree x1 p S1 hx hsk g1 f2
    | succ c ih =>
      intro p x1 S1 hp hep hx hsk g1 f2
      have T1 := hT.ts g1
      refine T_X8_step_35 ⟨T1.1.1, fun cc => absurd (by rw [T1.2.2.1, f2] at cc; exact cc) (nI_ge (by omega) (by omega)), fun _ => ?_⟩
      rw [f2]
      have hb := (hT.2.2.2 p (by omega)).1
      have ek : pskp b (c + 1) p = if b p = 32 then pskp b c (p + 1) else p := rfl
      refine c_X8_byteAt T1 (by omega) ⟨fun c32 => ⟨T1.1.1, ?_⟩, fun c32 => ⟨T1.1.1, ?_⟩⟩
      · have e32 : b p = 32 := nI_inj (b := 32) (by omega) (by omega) c32
        rw [f2, nI_1]
        refine ih (p + 1) x1 _ (by omega) (by omega) hx ?_ (g1.trans (jts.put (by omega) (by omega))) (by rw [ji_put_same])
        rw [hsk, ek, if_pos e32]
      · have e32 : ¬ b p = 32 := fun z => c32 (by rw [z]; rfl)
        rw [f2]
        refine c_X8_sortAt T1 (by omega) ⟨T1.1.1, ?_⟩
        exact tree x1 p S1 hx (by rw [hsk, ek, if_neg e32]) g1 f2
  refine T_X8_step ⟨hT.1.1, ?_⟩
  rw [h4, h3]
  have g0 : jts S (jput S t 2 (nI e)) t := jts.put (by omega) (by omega)
  have f0 : ji (jput S t 2 (nI e)) t 2 = nI e := ji_put_same _ _ _ _
  refine ⟨fun c1 => l35 (n - e) e 1 _ (by omega) (Nat.le_refl _) ?_ rfl g0 f0, fun c1 => ⟨fun c2 => l35 (n - e) e 1 _ (by omega) (Nat.le_refl _) ?_ rfl g0 f0, fun c2 => l35 (n - e) e 0 _ (by omega) (Nat.le_refl _) ?_ rfl g0 f0⟩⟩
  · have : so = 1 := nI_inj (b := 1) (by omega) (by omega) c1
    rw [if_pos (Or.inl this)]
  · have : so = 2 := nI_inj (b := 2) (by omega) (by omega) c2
    rw [if_pos (Or.inr this)]
  · rw [if_neg (fun z => ?_)]
    rcases z with z | z
    · exact c1 (by rw [z]; rfl)
    · exact c2 (by rw [z]; rfl)
end jTape1
