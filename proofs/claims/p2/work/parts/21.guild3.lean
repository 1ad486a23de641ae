/-! THE GUILD (class): years, counts -/
/-- step by step from i on, n times -/
def jfold {α : Type} (step : Nat → α → α) : Nat → Nat → α → α
  | 0, _, a => a
  | n + 1, i, a => jfold step n (i + 1) (step i a)
abbrev gst : Type := Int32 × (Nat → Nat → Int32)
/-- a year of one master -/
def yone (i : Nat) (p : gst) : gst :=
  if p.2 i 6 = 0 then (if p.2 i 5 - 50 ≤ jrem (jushr (jlot p.1) 8) 100 then (jlot p.1, mset p.2 i 5 (jmin 99 (p.2 i 5 + 1))) else (jlot p.1, mset p.2 i 6 1)) else p
def yyear (sz : Nat) (p : gst) : gst := jfold yone sz 0 p
def yyears (sz : Nat) : Nat → gst → gst
  | 0, p => p
  | n + 1, p => yyears sz n (yyear sz p)
def mdead (mf : Nat → Nat → Int32) (sz : Nat) : Int32 := jfold (fun i a => if mf i 6 = 0 then a + 0 else a + 1) sz 0 (0 : Int32)
def mages (mf : Nat → Nat → Int32) (sz : Nat) : Int32 := jfold (fun i a => a + mf i 5) sz 0 (0 : Int32)
def mtaught (mf : Nat → Nat → Int32) (sz : Nat) : Int32 := jfold (fun i a => if mf i 6 = 0 then a ||| jshl 1 (mf i 2) else a ||| 0) sz 0 (0 : Int32)
def monly (mf : Nat → Nat → Int32) (ge : Int32) : Nat → Nat → Int32 → Int32
  | 0, _, o => o
  | n + 1, i, o => if mf i 6 = 0 then (if mf i 2 = ge then (if o = (-1000000005) then monly mf ge n (i + 1) (nI i) else (-1000000005)) else monly mf ge n (i + 1) o) else monly mf ge n (i + 1) o
section jGuild3
variable {E : jEnv} {d : Nat} {S : jM} {g : Nat} {sz : Nat} {z : Int32} {mf : Nat → Nat → Int32}
theorem GR.at {i f : Nat} (h : GR S g sz z mf) (hi : i < 9) (hf : f < 7) : ji S (g + 2 + i) f = mf i f := h.2.2.2 i hi f hf
theorem GR.mk2 {i : Nat} (h : GR S g sz z mf) (hi : i < 9) : jk S (g + 2 + i) = 2 := (h.1.2.2.2.2 i hi).2
theorem c_X0_liveYear {Q : jM → Prop} (hG : GR S g sz z mf) (hz : sz ≤ 9) (h : ∀ S', jch S S' g (g + 11) → GR S' g sz (yyear sz (z, mf)).1 (yyear sz (z, mf)).2 → Q S') : jFv E mX0_liveYear (d + 2) 0 0 [.ref g] S Q := by
  have key : ∀ (n i : Nat) (S1 : jM) (p : gst), i + n = sz → jch S S1 g (g + 11) → GR S1 g sz p.1 p.2 → jfold yone n i p = yyear sz (z, mf) → L_X0_liveYear_2 E (d + 1) Q g (nI i) S1 := by
    intro n
    induction n with
    | zero =>
      intro i S1 p hi hc hg he
      obtain rfl : i = sz := by omega
      refine T_X0_liveYear_2 ⟨hg.1.1, ?_⟩
      rw [hg.2.1]
      refine ⟨fun _ => h S1 hc ?_, fun c => absurd (nI_le (Nat.le_refl _) (by omega)) c⟩
      rw [← he]; exact hg
    | succ n ih =>
      intro i S1 p hi hc hg he
      refine T_X0_liveYear_2 ⟨hg.1.1, ?_⟩
      rw [hg.2.1]
      refine ⟨fun c => absurd c (nI_ge (by omega) (by omega)), fun _ => ?_⟩
      refine c_X0_findAt hg.1 hg.2.1 hz (by omega) ⟨fun c => (by cases c), fun b hb => ?_⟩
      obtain rfl : g + 2 + i = b := Option.some.inj hb
      refine ⟨hg.mk2 (by omega), ?_⟩
      rw [hg.at (by omega) (by omega), nI_1]
      have he2 : jfold yone n (i + 1) (yone i p) = yyear sz (z, mf) := he
      refine ⟨fun c => ⟨hg.1.1, c_X0_draw hg.1.1 ⟨hg.mk2 (by omega), ?_⟩⟩, fun c => ?_⟩
      · rw [hg.2.2.1]
        have g1 := hg.putz (v := jlot p.1)
        have c1 : jch S (jput S1 g 2 (jlot p.1)) g (g + 11) := hc.trans (jch.put (by omega) (by omega))
        rw [g1.at (by omega) (by omega)]
        refine ⟨fun c2 => ?_, fun c2 => ?_⟩
        · refine ih (i + 1) _ (jlot p.1, mset p.2 i 5 (jmin 99 (p.2 i 5 + 1))) (by omega) (c1.trans (jch.put (by omega) (by omega))) (g1.putm (by omega)) ?_
          rw [← he2]; unfold yone; rw [if_pos c, if_pos c2]
        · refine ih (i + 1) _ (jlot p.1, mset p.2 i 6 1) (by omega) (c1.trans (jch.put (by omega) (by omega))) (g1.putm (by omega)) ?_
          rw [← he2]; unfold yone; rw [if_pos c, if_neg c2]
      · refine ih (i + 1) S1 p (by omega) hc hg ?_
        rw [← he2]; unfold yone; rw [if_neg c]
  exact T_X0_liveYear (key sz 0 S (z, mf) (by omega) jch.rfl hG rfl)
theorem c_X0_liveYears {Q : jM → Prop} {n : Nat} (hG : GR S g sz z mf) (hz : sz ≤ 9) (hn : n < 1000) (h : ∀ S', jch S S' g (g + 11) → GR S' g sz (yyears sz n (z, mf)).1 (yyears sz n (z, mf)).2 → Q S') : jFv E mX0_liveYears (d + 3) 0 0 [.ref g, .int (nI n)] S Q := by
  have key : ∀ (k i : Nat) (S1 : jM) (p : gst), i + k = n → jch S S1 g (g + 11) → GR S1 g sz p.1 p.2 → yyears sz k p = yyears sz n (z, mf) → L_X0_liveYears_2 E (d + 2) Q g (nI n) (nI i) S1 := by
    intro k
    induction k with
    | zero =>
      intro i S1 p hi hc hg he
      obtain rfl : i = n := by omega
      refine T_X0_liveYears_2 ⟨fun _ => h S1 hc ?_, fun c => absurd (nI_le (Nat.le_refl _) (by omega)) c⟩
      rw [← he]; exact hg
    | succ k ih =>
      intro i S1 p hi hc hg he
      refine T_X0_liveYears_2 ⟨fun c => absurd c (nI_ge (by omega) (by omega)), fun _ => ⟨hg.1.1, ?_⟩⟩
      refine c_X0_liveYear hg hz (fun S2 hc2 hg2 => ?_)
      rw [nI_1]
      exact ih (i + 1) S2 _ (by omega) (hc.trans hc2) hg2 he
  exact T_X0_liveYears (key n 0 S (z, mf) (by omega) jch.rfl hG rfl)
theorem c_X0_countDead {Q : Int32 → jM → Prop} (hG : GR S g sz z mf) (hz : sz ≤ 9) (h : Q (mdead mf sz) S) : jFi E mX0_countDead (d + 2) 0 0 [.ref g] S Q := by
  have key : ∀ (n i : Nat) (a : Int32), i + n = sz → Q (jfold (fun i a => if mf i 6 = 0 then a + 0 else a + 1) n i a) S → L_X0_countDead_4 E (d + 1) Q g a (nI i) S := by
    intro n
    induction n with
    | zero =>
      intro i a hi hq
      obtain rfl : i = sz := by omega
      refine T_X0_countDead_4 ⟨hG.1.1, ?_⟩
      rw [hG.2.1]
      exact ⟨fun _ => hq, fun c => absurd (nI_le (Nat.le_refl _) (by omega)) c⟩
    | succ n ih =>
      intro i a hi hq
      refine T_X0_countDead_4 ⟨hG.1.1, ?_⟩
      rw [hG.2.1]
      refine ⟨fun c => absurd c (nI_ge (by omega) (by omega)), fun _ => c_X0_findAt hG.1 hG.2.1 hz (by omega) ⟨fun c => (by cases c), fun b hb => ?_⟩⟩
      obtain rfl : g + 2 + i = b := Option.some.inj hb
      refine ⟨hG.mk2 (by omega), ?_⟩
      rw [hG.at (by omega) (by omega), nI_1]
      refine ⟨fun c => ih (i + 1) _ (by omega) ?_, fun c => ih (i + 1) _ (by omega) ?_⟩
      · simpa [jfold, c] using hq
      · simpa [jfold, c] using hq
  exact T_X0_countDead (key sz 0 0 (by omega) h)
theorem c_X0_agesTogether {Q : Int32 → jM → Prop} (hG : GR S g sz z mf) (hz : sz ≤ 9) (h : Q (mages mf sz) S) : jFi E mX0_agesTogether (d + 2) 0 0 [.ref g] S Q := by
  have key : ∀ (n i : Nat) (a : Int32), i + n = sz → Q (jfold (fun i a => a + mf i 5) n i a) S → L_X0_agesTogether_4 E (d + 1) Q g a (nI i) S := by
    intro n
    induction n with
    | zero =>
      intro i a hi hq
      obtain rfl : i = sz := by omega
      refine T_X0_agesTogether_4 ⟨hG.1.1, ?_⟩
      rw [hG.2.1]
      exact ⟨fun _ => hq, fun c => absurd (nI_le (Nat.le_refl _) (by omega)) c⟩
    | succ n ih =>
      intro i a hi hq
      refine T_X0_agesTogether_4 ⟨hG.1.1, ?_⟩
      rw [hG.2.1]
      refine ⟨fun c => absurd c (nI_ge (by omega) (by omega)), fun _ => c_X0_findAt hG.1 hG.2.1 hz (by omega) ⟨fun c => (by cases c), fun b hb => ?_⟩⟩
      obtain rfl : g + 2 + i = b := Option.some.inj hb
      refine ⟨hG.mk2 (by omega), ?_⟩
      rw [hG.at (by omega) (by omega), nI_1]
      exact ih (i + 1) _ (by omega) hq
  exact T_X0_agesTogether (key sz 0 0 (by omega) h)
theorem c_X0_taught {Q : Int32 → jM → Prop} (hG : GR S g sz z mf) (hz : sz ≤ 9) (h : Q (mtaught mf sz) S) : jFi E mX0_taught (d + 2) 0 0 [.ref g] S Q := by
  have key : ∀ (n i : Nat) (a : Int32), i + n = sz → Q (jfold (fun i a => if mf i 6 = 0 then a ||| jshl 1 (mf i 2) else a ||| 0) n i a) S → L_X0_taught_4 E (d + 1) Q g a (nI i) S := by
    intro n
    induction n with
    | zero =>
      intro i a hi hq
      obtain rfl : i = sz := by omega
      refine T_X0_taught_4 ⟨hG.1.1, ?_⟩
      rw [hG.2.1]
      exact ⟨fun _ => hq, fun c => absurd (nI_le (Nat.le_refl _) (by omega)) c⟩
    | succ n ih =>
      intro i a hi hq
      refine T_X0_taught_4 ⟨hG.1.1, ?_⟩
      rw [hG.2.1]
      refine ⟨fun c => absurd c (nI_ge (by omega) (by omega)), fun _ => c_X0_findAt hG.1 hG.2.1 hz (by omega) ⟨fun c => (by cases c), fun b hb => ?_⟩⟩
      obtain rfl : g + 2 + i = b := Option.some.inj hb
      refine ⟨hG.mk2 (by omega), ?_⟩
      rw [hG.at (f := 6) (by omega) (by omega), hG.at (f := 2) (by omega) (by omega), nI_1]
      refine ⟨fun c => ih (i + 1) _ (by omega) ?_, fun c => ih (i + 1) _ (by omega) ?_⟩
      · simpa [jfold, c] using hq
      · simpa [jfold, c] using hq
  exact T_X0_taught (key sz 0 0 (by omega) h)
theorem c_X0_onlyTeacher {Q : Int32 → jM → Prop} {x1 : Int32} (hG : GR S g sz z mf) (hz : sz ≤ 9) (h : Q (monly mf x1 sz 0 (-1000000005)) S) : jFi E mX0_onlyTeacher (d + 2) 0 0 [.ref g, .int x1] S Q := by
  have key : ∀ (n i : Nat) (a : Int32), i + n = sz → Q (monly mf x1 n i a) S → L_X0_onlyTeacher_5 E (d + 1) Q g x1 a (nI i) S := by
    intro n
    induction n with
    | zero =>
      intro i a hi hq
      obtain rfl : i = sz := by omega
      refine T_X0_onlyTeacher_5 ⟨hG.1.1, ?_⟩
      rw [hG.2.1]
      exact ⟨fun _ => hq, fun c => absurd (nI_le (Nat.le_refl _) (by omega)) c⟩
    | succ n ih =>
      intro i a hi hq
      refine T_X0_onlyTeacher_5 ⟨hG.1.1, ?_⟩
      rw [hG.2.1]
      refine ⟨fun c => absurd c (nI_ge (by omega) (by omega)), fun _ => c_X0_findAt hG.1 hG.2.1 hz (by omega) ⟨fun c => (by cases c), fun b hb => ?_⟩⟩
      obtain rfl : g + 2 + i = b := Option.some.inj hb
      refine ⟨hG.mk2 (by omega), ?_⟩
      rw [hG.at (f := 6) (by omega) (by omega), hG.at (f := 2) (by omega) (by omega), nI_1]
      unfold monly at hq
      refine ⟨fun c => ⟨fun c2 => ⟨fun c3 => ih (i + 1) _ (by omega) ?_, fun c3 => ?_⟩, fun c2 => ih (i + 1) _ (by omega) ?_⟩, fun c => ih (i + 1) _ (by omega) ?_⟩ <;> simpa [*] using hq
  exact T_X0_onlyTeacher (key sz 0 _ (by omega) h)
end jGuild3
