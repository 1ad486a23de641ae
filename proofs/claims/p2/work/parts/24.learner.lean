/-! THE LEARNER (class) at l: from at l + 1, rested at l + 2 -/
def LdL (S : jM) (l : Nat) : Prop := jk S l = 1 ∧ jr S l 5 = some (l + 1) ∧ jr S l 6 = some (l + 2) ∧ jk S (l + 1) = 12 ∧ jl S (l + 1) = 10 ∧ jk S (l + 2) = 12 ∧ jl S (l + 2) = 10
def LdR (S : jM) (l : Nat) (at_ kn co fo da : Int32) (fr re : Nat → Int32) : Prop :=
  LdL S l ∧ ji S l 0 = at_ ∧ ji S l 1 = kn ∧ ji S l 2 = co ∧ ji S l 3 = fo ∧ ji S l 4 = da ∧ (∀ i, i < 10 → ji S (l + 1) i = fr i) ∧ ∀ i, i < 10 → ji S (l + 2) i = re i
theorem LdL.same {S S' : jM} {l : Nat} (h : LdL S l) (hs : jsame S S') : LdL S' l := by
  obtain ⟨e1, e2, e3, -⟩ := hs
  unfold LdL
  rw [e1, e2, e3]
  exact h
theorem LdR.keep {S S' : jM} {l lo hi : Nat} {at_ kn co fo da : Int32} {fr re : Nat → Int32} (h : LdR S l at_ kn co fo da fr re) (hc : jch S S' lo hi) (hd : l + 3 ≤ lo ∨ hi ≤ l) : LdR S' l at_ kn co fo da fr re := by
  obtain ⟨h0, h1, h2, h3, h4, h5, h6, h7⟩ := h
  have e := hc.2 l (by omega)
  refine ⟨h0.same hc.1, by rw [e]; exact h1, by rw [e]; exact h2, by rw [e]; exact h3, by rw [e]; exact h4, by rw [e]; exact h5, fun i hi' => ?_, fun i hi' => ?_⟩
  · rw [hc.2 (l + 1) (by omega)]; exact h6 i hi'
  · rw [hc.2 (l + 2) (by omega)]; exact h7 i hi'
/-- days go by: one gesture; all of them -/
abbrev lst : Type := Int32 × (Nat → Int32)
def pone (n fo : Int32) (g : Nat) (p : lst) : lst :=
  if p.1 &&& jshl 1 (nI g) = 0 then p else (if fo = 0 then p.1 else if p.2 g + n ≤ fo then p.1 else p.1 &&& (jshl 1 (nI g) ^^^ (-1)), upd p.2 g (p.2 g + n))
def pdays (n fo : Int32) (p : lst) : lst := jfold (pone n fo) 10 0 p
def jable (kn x : Int32) : Int32 := if jwi x 10 = 0 then 0 else if kn &&& jshl 1 x = 0 then 0 else 1
section jLearner
variable {E : jEnv} {d : Nat} {S : jM} {l : Nat} {at_ kn co fo da : Int32} {fr re : Nat → Int32}
theorem LdR.cong {fr' re' : Nat → Int32} (h : LdR S l at_ kn co fo da fr re) (h1 : ∀ i, i < 10 → fr i = fr' i) (h2 : ∀ i, i < 10 → re i = re' i) : LdR S l at_ kn co fo da fr' re' := by
  obtain ⟨a0, a1, a2, a3, a4, a5, a6, a7⟩ := h
  exact ⟨a0, a1, a2, a3, a4, a5, fun i hi => (a6 i hi).trans (h1 i hi), fun i hi => (a7 i hi).trans (h2 i hi)⟩
theorem LdR.put0 {v : Int32} (h : LdR S l at_ kn co fo da fr re) : LdR (jput S l 0 v) l v kn co fo da fr re := by
  obtain ⟨a0, a1, a2, a3, a4, a5, a6, a7⟩ := h
  refine ⟨a0, ji_put_same _ _ _ _, ?_, ?_, ?_, ?_, fun i hi => ?_, fun i hi => ?_⟩ <;> first | (rw [ji_put]; simpa using ‹_›) | (rw [ji_put_ne _ _ _ _ (by omega)]; first | exact a6 i hi | exact a7 i hi)
theorem LdR.put1 {v : Int32} (h : LdR S l at_ kn co fo da fr re) : LdR (jput S l 1 v) l at_ v co fo da fr re := by
  obtain ⟨a0, a1, a2, a3, a4, a5, a6, a7⟩ := h
  refine ⟨a0, ?_, ji_put_same _ _ _ _, ?_, ?_, ?_, fun i hi => ?_, fun i hi => ?_⟩ <;> first | (rw [ji_put]; simpa using ‹_›) | (rw [ji_put_ne _ _ _ _ (by omega)]; first | exact a6 i hi | exact a7 i hi)
theorem LdR.put2 {v : Int32} (h : LdR S l at_ kn co fo da fr re) : LdR (jput S l 2 v) l at_ kn v fo da fr re := by
  obtain ⟨a0, a1, a2, a3, a4, a5, a6, a7⟩ := h
  refine ⟨a0, ?_, ?_, ji_put_same _ _ _ _, ?_, ?_, fun i hi => ?_, fun i hi => ?_⟩ <;> first | (rw [ji_put]; simpa using ‹_›) | (rw [ji_put_ne _ _ _ _ (by omega)]; first | exact a6 i hi | exact a7 i hi)
theorem LdR.put3 {v : Int32} (h : LdR S l at_ kn co fo da fr re) : LdR (jput S l 3 v) l at_ kn co v da fr re := by
  obtain ⟨a0, a1, a2, a3, a4, a5, a6, a7⟩ := h
  refine ⟨a0, ?_, ?_, ?_, ji_put_same _ _ _ _, ?_, fun i hi => ?_, fun i hi => ?_⟩ <;> first | (rw [ji_put]; simpa using ‹_›) | (rw [ji_put_ne _ _ _ _ (by omega)]; first | exact a6 i hi | exact a7 i hi)
theorem LdR.put4 {v : Int32} (h : LdR S l at_ kn co fo da fr re) : LdR (jput S l 4 v) l at_ kn co fo v fr re := by
  obtain ⟨a0, a1, a2, a3, a4, a5, a6, a7⟩ := h
  refine ⟨a0, ?_, ?_, ?_, ?_, ji_put_same _ _ _ _, fun i hi => ?_, fun i hi => ?_⟩ <;> first | (rw [ji_put]; simpa using ‹_›) | (rw [ji_put_ne _ _ _ _ (by omega)]; first | exact a6 i hi | exact a7 i hi)
theorem LdR.putf {v : Int32} {j : Nat} (h : LdR S l at_ kn co fo da fr re) : LdR (jput S (l + 1) j v) l at_ kn co fo da (upd fr j v) re := by
  obtain ⟨a0, a1, a2, a3, a4, a5, a6, a7⟩ := h
  have e := ji_put_ne S (l + 1) j v (b := l) (by omega)
  refine ⟨a0, by rw [e]; exact a1, by rw [e]; exact a2, by rw [e]; exact a3, by rw [e]; exact a4, by rw [e]; exact a5, fun i hi => ?_, fun i hi => ?_⟩
  · rw [jput_eq, ji_row_same]; exact agr_upd (n := 10) a6 j rfl i hi
  · rw [ji_put_ne _ _ _ _ (by omega)]; exact a7 i hi
theorem LdR.putr {v : Int32} {j : Nat} (h : LdR S l at_ kn co fo da fr re) : LdR (jput S (l + 2) j v) l at_ kn co fo da fr (upd re j v) := by
  obtain ⟨a0, a1, a2, a3, a4, a5, a6, a7⟩ := h
  have e := ji_put_ne S (l + 2) j v (b := l) (by omega)
  refine ⟨a0, by rw [e]; exact a1, by rw [e]; exact a2, by rw [e]; exact a3, by rw [e]; exact a4, by rw [e]; exact a5, fun i hi => ?_, fun i hi => ?_⟩
  · rw [ji_put_ne _ _ _ _ (by omega)]; exact a6 i hi
  · rw [jput_eq, ji_row_same]; exact agr_upd (n := 10) a7 j rfl i hi
theorem c_X1_isAble {Q : Int32 → jM → Prop} {x : Int32} (hk : jk S l = 1) (h : Q (jable (ji S l 1) x) S) : jFi E mX1_isAble (d + 1) 0 0 [.ref l, .int x] S Q := by
  refine T_X1_isAble ?_
  unfold jable at h
  refine ⟨fun c => ?_, fun c => ⟨hk, fun c2 => ?_, fun c2 => ?_⟩⟩ <;> simpa [*] using h
theorem jable_at {g : Nat} (hg : g < 10) (kn : Int32) : jable kn (nI g) = if kn &&& jshl 1 (nI g) = 0 then 0 else 1 := by
  unfold jable
  rw [show (10 : Int32) = nI 10 from rfl, jwi_at hg (by omega), if_neg (by decide)]
theorem c_X1_passDays {Q : jM → Prop} {n : Int32} (hL : LdR S l at_ kn co fo da fr re) (h : ∀ S', jch S S' l (l + 3) → LdR S' l at_ (pdays n fo (kn, re)).1 co fo (jmin 9999 (da + n)) fr (pdays n fo (kn, re)).2 → Q S') : jFv E mX1_passDays (d + 2) 0 0 [.ref l, .int n] S Q := by
  have key : ∀ (k g : Nat) (S1 : jM) (p : lst), g + k = 10 → jch S S1 l (l + 3) → LdR S1 l at_ p.1 co fo (jmin 9999 (da + n)) fr p.2 → jfold (pone n fo) k g p = pdays n fo (kn, re) → L_X1_passDays_18 E (d + 1) Q l n (nI g) S1 := by
    intro k
    induction k with
    | zero =>
      intro g S1 p hg hc hL1 he
      obtain rfl : g = 10 := by omega
      refine T_X1_passDays_18 ⟨fun _ => h S1 hc ?_, fun c => absurd (by decide) c⟩
      rw [← he]; exact hL1
    | succ k ih =>
      intro g S1 p hg hc hL1 he
      obtain ⟨⟨a1, a2, a3, a4, a5, a6, a7⟩, b0, b1, b2, b3, b4, b5, b6⟩ := id hL1
      have he2 : jfold (pone n fo) k (g + 1) (pone n fo g p) = pdays n fo (kn, re) := he
      refine T_X1_passDays_18 ⟨fun c => absurd c (nI_ge (b := 10) (by omega) (by omega)), fun _ => ⟨a1, c_X1_isAble a1 ?_⟩⟩
      rw [b1, jable_at (by omega), nI_1]
      by_cases ck : p.1 &&& jshl 1 (nI g) = 0
      · rw [if_pos ck]
        refine ⟨fun _ => ih (g + 1) S1 p (by omega) hc hL1 ?_, fun c => absurd rfl c⟩
        rw [← he2]; unfold pone; rw [if_pos ck]
      · rw [if_neg ck]
        refine ⟨fun c => absurd c (by decide), fun _ => ⟨a1, l + 2, a3, a6, by rw [a7]; exact jin_nI (by omega) (by omega), ?_⟩⟩
        rw [jcl (by omega), b6 g (by omega), b3]
        have c1 : jch S (jput S1 (l + 2) g (p.2 g + n)) l (l + 3) := hc.trans (jch.put (by omega) (by omega))
        have hL2 := hL1.putr (j := g) (v := p.2 g + n)
        refine ⟨fun c2 => ih (g + 1) _ (p.1, upd p.2 g (p.2 g + n)) (by omega) c1 hL2 ?_, fun c2 => ⟨fun c3 => ih (g + 1) _ (p.1, upd p.2 g (p.2 g + n)) (by omega) c1 hL2 ?_, fun c3 => ih (g + 1) _ (p.1 &&& (jshl 1 (nI g) ^^^ (-1)), upd p.2 g (p.2 g + n)) (by omega) (c1.trans (jch.put (by omega) (by omega))) hL2.put1 ?_⟩⟩
        · rw [← he2]; unfold pone; rw [if_neg ck, if_pos c2]
        · rw [← he2]; unfold pone; rw [if_neg ck, if_neg c2, if_pos c3]
        · rw [← he2]; unfold pone; rw [if_neg ck, if_neg c2, if_neg c3]
  refine T_X1_passDays ⟨hL.1.1, ?_⟩
  rw [hL.2.2.2.2.2.1]
  exact key 10 0 _ (kn, re) (by omega) (jch.put (by omega) (by omega)) hL.put4 rfl
theorem c_X1_practise {Q : Int32 → jM → Prop} {x : Int32} (hL : LdR S l at_ kn co fo da fr re) (h0 : jable kn x = 0 → Q 0 S) (h1 : ∀ g, g < 10 → x = nI g → jable kn x ≠ 0 → ∀ S', jch S S' l (l + 3) → LdR S' l at_ (pdays 1 fo (kn, upd re g 0)).1 co fo (jmin 9999 (da + 1)) fr (pdays 1 fo (kn, upd re g 0)).2 → Q 1 S') : jFi E mX1_practise (d + 3) 0 0 [.ref l, .int x] S Q := by
  obtain ⟨⟨a1, a2, a3, a4, a5, a6, a7⟩, b0, b1, b2, b3, b4, b5, b6⟩ := id hL
  refine T_X1_practise ?_
  rcases jwi_cases x (b := 10) 10 rfl (by omega) with ⟨g, hg, rfl, e⟩ | ⟨hn, e⟩
  · rw [e]
    refine ⟨fun c => absurd c (by decide), fun _ => ⟨a1, c_X1_isAble a1 ?_⟩⟩
    rw [b1]
    refine ⟨fun c => h0 c, fun c => ⟨a1, l + 2, a3, a6, by rw [a7]; exact jin_nI hg (by omega), ?_⟩⟩
    rw [jcl (by omega)]
    exact c_X1_passDays hL.putr (fun S' hc hL' => h1 g hg rfl c S' ((jch.put (by omega) (by omega)).trans hc) hL')
  · rw [e]
    refine ⟨fun _ => h0 (by unfold jable; rw [e, if_pos rfl]), fun c => absurd rfl c⟩
/-- whether it can learn of a master so made -/
def jcan (at_ kn co tk tt tg tb tf td : Int32) : Int32 := if tt = at_ then (if td = 0 then (if jteach tk tb kn = 0 then 0 else if jable kn tg = 0 then (if co < tf then 0 else 1) else 0) else 0) else 0
theorem c_X1_canLearnOf {Q : Int32 → jM → Prop} {t : Nat} (hL : LdR S l at_ kn co fo da fr re) (ht : jk S t = 2) (h : Q (jcan at_ kn co (ji S t 0) (ji S t 1) (ji S t 2) (ji S t 3) (ji S t 4) (ji S t 6)) S) : jFi E mX1_canLearnOf (d + 2) 0 0 [.ref l, .ref t] S Q := by
  obtain ⟨⟨a1, a2, a3, a4, a5, a6, a7⟩, b0, b1, b2, b3, b4, b5, b6⟩ := id hL
  unfold jcan at h
  refine T_X1_canLearnOf ⟨ht, a1, ?_⟩
  rw [b0, b1]
  refine ⟨fun c => ⟨fun c2 => c_X2_teaches ht ⟨fun c3 => ?_, fun c3 => ⟨ht, a1, c_X1_isAble a1 ?_⟩⟩, fun c2 => ?_⟩, fun c => ?_⟩
  · simpa [*] using h
  · rw [b1]
    refine ⟨fun c4 => ⟨ht, a1, ?_⟩, fun c4 => ?_⟩
    · rw [b2]
      refine ⟨fun c5 => ?_, fun c5 => ?_⟩ <;> simpa [*] using h
    · simpa [*] using h
  · simpa [*] using h
  · simpa [*] using h
/-- what it knows, from whom, since when, behind a lesson of so many days -/
theorem c_X1_learnOf {Q : jM → Prop} {t g : Nat} {x n : Int32} (hL : LdR S l at_ kn co fo da fr re) (ht : jk S t = 2) (htl : t + 1 ≤ l ∨ l + 3 ≤ t) (hg : g < 10) (htg : ji S t 2 = nI g)
    (h : ∀ S', jch S S' l (l + 3) → LdR S' l at_ (((pdays n fo (kn, re)).1 &&& (junl (ji S t 0) (ji S t 3) ^^^ (-1))) ||| jshl 1 (nI g)) (co - ji S t 4) fo (jmin 9999 (da + n)) (upd fr g x) (upd (pdays n fo (kn, re)).2 g 0) → Q S') : jFv E mX1_learnOf (d + 3) 0 0 [.ref l, .int x, .ref t, .int n] S Q := by
  obtain ⟨⟨a1, a2, a3, a4, a5, a6, a7⟩, b0, b1, b2, b3, b4, b5, b6⟩ := id hL
  refine T_X1_learnOf ⟨a1, ht, ?_⟩
  rw [b2]
  refine c_X1_passDays hL.put2 (fun S3 hc hL3 => ?_)
  have hc0 : jch S S3 l (l + 3) := (jch.put (by omega) (by omega)).trans hc
  obtain ⟨⟨f1, f2, f3, f4, f5, f6, f7⟩, g0, g1, g2, g3, g4, g5, g6⟩ := id hL3
  have hsk : jk S3 = jk S := hc0.1.1
  have hst : ji S3 t = ji S t := hc0.2 t (by omega)
  have ht3 : jk S3 t = 2 := by rw [hsk]; exact ht
  refine ⟨f1, ht3, c_X2_unlearnt ht3 ⟨f1, ht3, ?_⟩⟩
  rw [hst, htg, show (10 : Int32) = nI 10 from rfl, jwi_at hg (by omega), g1]
  refine ⟨fun c => absurd c (by decide), fun _ => ⟨l + 1, f2, f4, by rw [f5]; exact jin_nI hg (by omega), l + 2, f3, f6, by rw [f7]; exact jin_nI hg (by omega), ?_⟩⟩
  rw [jcl (by omega)]
  exact h _ ((((hc0.trans (jch.put (by omega) (by omega))).trans (jch.put (by omega) (by omega))).trans (jch.put (by omega) (by omega))).trans (jch.put (by omega) (by omega))) (hL3.put1.put1.putf.putr)
theorem c_X1_become {Q : jM → Prop} {l1 : Nat} {at1 kn1 co1 fo1 da1 : Int32} {fr1 re1 : Nat → Int32} (hL : LdR S l at_ kn co fo da fr re) (hL1 : LdR S l1 at1 kn1 co1 fo1 da1 fr1 re1) (hne : l + 3 ≤ l1 ∨ l1 + 3 ≤ l) (h : ∀ S', jch S S' l (l + 3) → LdR S' l at1 kn1 co1 fo1 da1 fr1 re1 → Q S') : jFv E mX1_become (d + 1) 0 0 [.ref l, .ref l1] S Q := by
  obtain ⟨⟨a1, a2, a3, a4, a5, a6, a7⟩, b0, b1, b2, b3, b4, b5, b6⟩ := id hL
  obtain ⟨⟨c1, c2, c3, c4, c5, c6, c7⟩, e0, e1, e2, e3, e4, e5, e6⟩ := id hL1
  have n10 : Int32.toNatClampNeg 10 = 10 := rfl
  have n0 : Int32.toNatClampNeg 0 = 0 := rfl
  have hA := hL.put0 (v := at1)
  have hA := hA.put1 (v := kn1)
  have hA := hA.put2 (v := co1)
  have hA := hA.put3 (v := fo1)
  have hA := hA.put4 (v := da1)
  refine T_X1_become ⟨c1, a1, l1 + 1, c2, l + 1, a2, c4, a4, ⟨by decide, by decide, by decide, by rw [c5]; decide, by rw [a5]; decide⟩, l1 + 2, c3, l + 2, a3, c6, a6, ⟨by decide, by decide, by decide, by rw [c7]; decide, by rw [a7]; decide⟩, ?_⟩
  rw [n10, n0, e0, e1, e2, e3, e4]
  obtain ⟨p0, p1, p2, p3, p4, p5, p6, p7⟩ := hA
  refine h _ ?_ ⟨p0, ?_, ?_, ?_, ?_, ?_, fun i hi => ?_, fun i hi => ?_⟩
  · exact ((((((jch.put (by omega) (by omega)).trans (jch.put (by omega) (by omega))).trans (jch.put (by omega) (by omega))).trans (jch.put (by omega) (by omega))).trans (jch.put (by omega) (by omega))).trans (jch.row (by omega) (by omega))).trans (jch.row (by omega) (by omega))
  · rw [ji_row_ne _ _ _ (by omega), ji_row_ne _ _ _ (by omega)]; exact p1
  · rw [ji_row_ne _ _ _ (by omega), ji_row_ne _ _ _ (by omega)]; exact p2
  · rw [ji_row_ne _ _ _ (by omega), ji_row_ne _ _ _ (by omega)]; exact p3
  · rw [ji_row_ne _ _ _ (by omega), ji_row_ne _ _ _ (by omega)]; exact p4
  · rw [ji_row_ne _ _ _ (by omega), ji_row_ne _ _ _ (by omega)]; exact p5
  · rw [ji_row_ne _ _ _ (by omega), ji_row_same, va_cpy0 hi, ji_put_ne _ _ _ _ (by omega), ji_put_ne _ _ _ _ (by omega), ji_put_ne _ _ _ _ (by omega), ji_put_ne _ _ _ _ (by omega), ji_put_ne _ _ _ _ (by omega)]; exact e5 i hi
  · rw [ji_row_same, va_cpy0 hi, ji_row_ne _ _ _ (by omega), ji_put_ne _ _ _ _ (by omega), ji_put_ne _ _ _ _ (by omega), ji_put_ne _ _ _ _ (by omega), ji_put_ne _ _ _ _ (by omega), ji_put_ne _ _ _ _ (by omega)]; exact e6 i hi
end jLearner
