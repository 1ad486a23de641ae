/-! TEXT: what a reading gives -/
/-- the pile's depth behind a code -/
def prn : Nat → List Nat → Option Nat
  | e, [] => some e
  | e, w :: A => if w < 20000 then prn (e + 1) A else if w = 20033 then (if 1 ≤ e then prn e A else none) else (if 2 ≤ e then prn (e - 1) A else none)
def pEX (key : Nat) (A : List Nat) : Prop := (∀ w ∈ A, WFw key w) ∧ ∀ e, prn e A = some (e + 1)
theorem prn_app : ∀ (A B : List Nat) (e f : Nat), prn e A = some f → prn e (A ++ B) = prn f B
  | [], B, e, f, h => by
    have : e = f := Option.some.inj h
    rw [this]; rfl
  | w :: A, B, e, f, h => by
    show (if w < 20000 then prn (e + 1) (A ++ B) else if w = 20033 then (if 1 ≤ e then prn e (A ++ B) else none) else (if 2 ≤ e then prn (e - 1) (A ++ B) else none)) = prn f B
    have h' : (if w < 20000 then prn (e + 1) A else if w = 20033 then (if 1 ≤ e then prn e A else none) else (if 2 ≤ e then prn (e - 1) A else none)) = some f := h
    by_cases c1 : w < 20000
    · rw [if_pos c1] at h' ⊢; exact prn_app A B _ f h'
    · rw [if_neg c1] at h' ⊢
      by_cases c2 : w = 20033
      · rw [if_pos c2] at h' ⊢
        by_cases c3 : 1 ≤ e
        · rw [if_pos c3] at h' ⊢; exact prn_app A B _ f h'
        · rw [if_neg c3] at h'; exact absurd h' (by simp)
      · rw [if_neg c2] at h' ⊢
        by_cases c3 : 2 ≤ e
        · rw [if_pos c3] at h' ⊢; exact prn_app A B _ f h'
        · rw [if_neg c3] at h'; exact absurd h' (by simp)
theorem pEX_op {key w : Nat} (h : WFw key w) (hw : w < 20000) : pEX key [w] := by
  refine ⟨fun v hv => by rw [List.mem_singleton.mp hv]; exact h, fun e => ?_⟩
  show (if w < 20000 then prn (e + 1) [] else _) = _
  rw [if_pos hw]; rfl
theorem pEX_not {key : Nat} {A : List Nat} (h : pEX key A) : pEX key (A ++ [20033]) := by
  refine ⟨fun v hv => ?_, fun e => ?_⟩
  · rcases List.mem_append.mp hv with q | q
    · exact h.1 v q
    · rw [List.mem_singleton.mp q]; exact Or.inr (Or.inr (Or.inl rfl))
  · rw [prn_app A [20033] e (e + 1) (h.2 e)]
    show (if 20033 < 20000 then _ else if 20033 = 20033 then (if 1 ≤ e + 1 then prn (e + 1) [] else none) else _) = _
    rw [if_neg (by decide), if_pos rfl, if_pos (by omega)]; rfl
theorem pEX_bin {key c : Nat} {A B : List Nat} (hA : pEX key A) (hB : pEX key B) (hc : c ∈ sgn) : pEX key (A ++ B ++ [20000 + c]) := by
  have h33 : c ≠ 33 := by
    intro e
    rw [e] at hc
    exact absurd hc (by decide)
  refine ⟨fun v hv => ?_, fun e => ?_⟩
  · rcases List.mem_append.mp hv with q | q
    · rcases List.mem_append.mp q with q | q
      · exact hA.1 v q
      · exact hB.1 v q
    · rw [List.mem_singleton.mp q]; exact Or.inr (Or.inr (Or.inr ⟨c, hc, rfl⟩))
  · rw [prn_app (A ++ B) [20000 + c] e (e + 2) (by rw [prn_app A B e (e + 1) (hA.2 e)]; exact hB.2 (e + 1))]
    show (if 20000 + c < 20000 then _ else if 20000 + c = 20033 then _ else (if 2 ≤ e + 2 then prn (e + 2 - 1) [] else none)) = _
    rw [if_neg (by omega), if_neg (by omega), if_pos (by omega)]; rfl
theorem psrt_2 {b : Nat → Nat} {n p : Nat} (h : psrt b n p = 2) : 48 ≤ b p ∧ b p ≤ 57 := by
  unfold psrt at h
  split at h
  · exact absurd h (by decide)
  · split at h
    · exact absurd h (by decide)
    · split at h
      · assumption
      · exact absurd h (by decide)
theorem pnum_lt (b : Nat → Nat) : ∀ (c p a k : Nat), (∀ q, p ≤ q → q < p + c → 48 ≤ b q ∧ b q ≤ 57) → a < 10 ^ k → pnum b c p a < 10 ^ (k + c)
  | 0, p, a, k, _, h => h
  | c + 1, p, a, k, hd, h => by
    have h1 := hd p (by omega) (by omega)
    have h2 : 10 * a + b p - 48 < 10 ^ (k + 1) := by
      rw [Nat.pow_succ]
      have : a + 1 ≤ 10 ^ k := h
      omega
    have := pnum_lt b c (p + 1) (10 * a + b p - 48) (k + 1) (fun q q1 q2 => hd q (by omega) (by omega)) h2
    rw [show k + 1 + c = k + (c + 1) by omega] at this
    exact this
theorem pnam_ok {key c : Nat} (h : ¬ pnam key c = 9) : pnam key c < nmc key := by
  unfold pnam at h ⊢
  unfold nmc
  split
  · rename_i hk
    rw [if_pos hk] at h
    split
    · omega
    · rename_i q1
      rw [if_neg q1] at h
      split
      · omega
      · rename_i q2
        rw [if_neg q2] at h
        split
        · omega
        · rename_i q3
          rw [if_neg q3] at h; exact absurd rfl h
  · rename_i hk
    rw [if_neg hk] at h
    split
    · rename_i hk1
      rw [if_pos hk1] at h
      split
      · omega
      · rename_i q1
        rw [if_neg q1] at h
        split
        · omega
        · rename_i q2
          rw [if_neg q2] at h; exact absurd rfl h
    · rename_i hk1
      rw [if_neg hk1] at h
      split
      · omega
      · rename_i q1
        rw [if_neg q1] at h
        split
        · omega
        · rename_i q2
          rw [if_neg q2] at h; exact absurd rfl h
theorem popd_ok {b : Nat → Nat} {n key : Nat} {t : jtk} (ht : TKok b n t) (h : ¬ popd b key t = 30000) : WFw key (popd b key t) ∧ popd b key t < 20000 ∧ t.2.2.2 = 0 := by
  obtain ⟨h1, h2, h3, h4, h5, h6, h7⟩ := ht
  unfold popd at h ⊢
  by_cases c0 : t.2.2.2 = 1
  · rw [if_pos c0] at h; exact absurd rfl h
  · rw [if_neg c0] at h ⊢
    by_cases c1 : t.2.2.1 = 2
    · rw [if_pos c1] at h ⊢
      by_cases c2 : 4 < t.2.1 - t.1
      · rw [if_pos c2] at h; exact absurd rfl h
      · rw [if_neg c2] at h ⊢
        have hb := pnum_lt b (t.2.1 - t.1) t.1 0 0 (fun q q1 q2 => psrt_2 ((h7 q q1 (by omega)).trans c1)) (by decide)
        have hp : 10 ^ (0 + (t.2.1 - t.1)) ≤ 10 ^ 4 := Nat.pow_le_pow_right (by omega) (by omega)
        have e4 : (10 : Nat) ^ 4 = 10000 := by decide
        have hl : pnum b (t.2.1 - t.1) t.1 0 < 10000 := by omega
        exact ⟨Or.inl hl, by omega, by omega⟩
    · rw [if_neg c1] at h ⊢
      by_cases c2 : t.2.2.1 = 1
      · rw [if_pos c2] at h ⊢
        by_cases c3 : t.2.1 - t.1 = 1
        · rw [if_pos c3] at h ⊢
          by_cases c4 : pnam key (b t.1) = 9
          · rw [if_pos c4] at h; exact absurd rfl h
          · rw [if_neg c4] at h ⊢
            have hn := pnam_ok c4
            have hn3 : nmc key ≤ 3 := by unfold nmc; split <;> omega
            exact ⟨Or.inr (Or.inl ⟨_, hn, rfl⟩), by omega, by omega⟩
        · rw [if_neg c3] at h; exact absurd rfl h
      · rw [if_neg c2] at h; exact absurd rfl h
theorem plev_ok {b : Nat → Nat} {t : jtk} (h : plev b t < 5) : t.2.2.1 = 3 ∧ b t.1 ∈ sgn := by
  unfold plev at h
  by_cases c : t.2.2.1 = 3
  · rw [if_pos c] at h
    refine ⟨c, ?_⟩
    have hd : b t.1 = 124 ∨ b t.1 = 38 ∨ b t.1 = 60 ∨ b t.1 = 61 ∨ b t.1 = 62 ∨ b t.1 = 43 ∨ b t.1 = 45 ∨ b t.1 = 42 ∨ b t.1 = 47 := by
      by_cases e1 : b t.1 = 124
      · exact Or.inl e1
      · rw [if_neg e1] at h
        by_cases e2 : b t.1 = 38
        · exact Or.inr (Or.inl e2)
        · rw [if_neg e2] at h
          by_cases e3 : b t.1 = 60
          · exact Or.inr (Or.inr (Or.inl e3))
          · rw [if_neg e3] at h
            by_cases e4 : b t.1 = 61
            · exact Or.inr (Or.inr (Or.inr (Or.inl e4)))
            · rw [if_neg e4] at h
              by_cases e5 : b t.1 = 62
              · exact Or.inr (Or.inr (Or.inr (Or.inr (Or.inl e5))))
              · rw [if_neg e5] at h
                by_cases e6 : b t.1 = 43
                · exact Or.inr (Or.inr (Or.inr (Or.inr (Or.inr (Or.inl e6)))))
                · rw [if_neg e6] at h
                  by_cases e7 : b t.1 = 45
                  · exact Or.inr (Or.inr (Or.inr (Or.inr (Or.inr (Or.inr (Or.inl e7))))))
                  · rw [if_neg e7] at h
                    by_cases e8 : b t.1 = 42
                    · exact Or.inr (Or.inr (Or.inr (Or.inr (Or.inr (Or.inr (Or.inr (Or.inl e8)))))))
                    · rw [if_neg e8] at h
                      by_cases e9 : b t.1 = 47
                      · exact Or.inr (Or.inr (Or.inr (Or.inr (Or.inr (Or.inr (Or.inr (Or.inr e9)))))))
                      · rw [if_neg e9] at h; exact absurd h (by decide)
    rcases hd with e | e | e | e | e | e | e | e | e <;> rw [e] <;> decide
  · rw [if_neg c] at h; exact absurd h (by decide)
/-- a good reading: goes on, and writes no more words than it passes bytes -/
def PG (b : Nat → Nat) (n key : Nat) (t : jtk) (L : List Nat) (r : jrs) : Prop := TKok b n r.2.1 ∧ t.1 ≤ r.2.1.1 ∧ (r.1 = true → t.1 < r.2.1.1 ∧ r.2.2.length + t.1 ≤ L.length + r.2.1.1 ∧ ∃ A, r.2.2 = L ++ A ∧ pEX key A)
theorem ploop_ok {b : Nat → Nat} {n key lev : Nat} {f : jtk → List Nat → jrs} (hl : lev < 5) (hf : ∀ t L, TKok b n t → PG b n key t L (f t L)) : ∀ (c : Nat) (t : jtk) (L L0 : List Nat) (t0 : jtk), TKok b n t → t0.1 < t.1 → L.length + t0.1 ≤ L0.length + t.1 → (∃ A, L = L0 ++ A ∧ pEX key A) → PG b n key t0 L0 (ploop b n lev f c t L)
  | 0, t, L, L0, t0, ht, h1, h2, h3 => ⟨ht, Nat.le_of_lt h1, fun _ => ⟨h1, h2, h3⟩⟩
  | c + 1, t, L, L0, t0, ht, h1, h2, h3 => by
    have e : ploop b n lev f (c + 1) t L = if plev b t = lev then (if (f (pnext b n t) L).1 = true then ploop b n lev f c (f (pnext b n t) L).2.1 ((f (pnext b n t) L).2.2 ++ [20000 + b t.1]) else (false, (f (pnext b n t) L).2.1, [])) else (true, t, L) := rfl
    rw [e]
    by_cases c1 : plev b t = lev
    · rw [if_pos c1]
      have hs := plev_ok (b := b) (t := t) (by omega)
      have hn := pnext_ok ht
      have en : t.1 < t.2.1 := ht.2.2.2.1 (by rw [hs.1]; decide)
      obtain ⟨g1, g2, g3⟩ := hf (pnext b n t) L hn.1
      by_cases c2 : (f (pnext b n t) L).1 = true
      · rw [if_pos c2]
        obtain ⟨k1, k2, A2, eA2, xA2⟩ := g3 c2
        obtain ⟨A, eA, xA⟩ := h3
        refine ploop_ok hl hf c _ _ L0 t0 g1 (by omega) ?_ ⟨A ++ A2 ++ [20000 + b t.1], ?_, pEX_bin xA xA2 hs.2⟩
        · rw [List.length_append]
          show _ + 1 + _ ≤ _
          omega
        · rw [eA2, eA]; simp only [List.append_assoc]
      · rw [if_neg c2]
        exact ⟨g1, by show t0.1 ≤ (f (pnext b n t) L).2.1.1; omega, fun q => Bool.noConfusion q⟩
    · rw [if_neg c1]; exact ⟨ht, Nat.le_of_lt h1, fun _ => ⟨h1, h2, h3⟩⟩
theorem pread_ok {b : Nat → Nat} {n key : Nat} : ∀ (F lev par bang : Nat) (t : jtk) (L : List Nat), TKok b n t → PG b n key t L (pread b n key F lev par bang t L)
  | 0, lev, par, bang, t, L, ht => ⟨ht, Nat.le_refl _, fun q => Bool.noConfusion q⟩
  | F + 1, lev, par, bang, t, L, ht => by
    rw [pread]
    by_cases c0 : lev < 5
    · rw [if_pos c0]
      obtain ⟨g1, g2, g3⟩ := pread_ok F (lev + 1) par bang t L ht
      by_cases c1 : (pread b n key F (lev + 1) par bang t L).1 = true
      · rw [if_pos c1]
        obtain ⟨k1, k2, k3⟩ := g3 c1
        exact ploop_ok c0 (fun t L ht => pread_ok F (lev + 1) par bang t L ht) _ _ _ L t g1 k1 k2 k3
      · rw [if_neg c1]; exact ⟨g1, g2, fun q => Bool.noConfusion q⟩
    · rw [if_neg c0]
      have hn := pnext_ok ht
      by_cases c1 : t.2.2.1 = 1 ∨ t.2.2.1 = 2
      · rw [if_pos c1]
        have en : t.1 < t.2.1 := ht.2.2.2.1 (by omega)
        by_cases c2 : popd b key t = 30000
        · rw [if_pos c2]; exact ⟨ht, Nat.le_refl _, fun q => Bool.noConfusion q⟩
        · rw [if_neg c2]
          have ho := popd_ok ht c2
          refine ⟨hn.1, by show t.1 ≤ (pnext b n t).1; omega, fun _ => ⟨by show t.1 < (pnext b n t).1; omega, ?_, [popd b key t], rfl, pEX_op ho.1 ho.2.1⟩⟩
          show (L ++ [popd b key t]).length + t.1 ≤ L.length + (pnext b n t).1
          rw [List.length_append]
          show L.length + 1 + t.1 ≤ _
          omega
      · rw [if_neg c1]
        by_cases c2 : t.2.2.1 = 3 ∧ b t.1 = 33 ∧ bang < 8
        · rw [if_pos c2]
          have en : t.1 < t.2.1 := ht.2.2.2.1 (by omega)
          obtain ⟨g1, g2, g3⟩ := pread_ok F 5 par (bang + 1) (pnext b n t) L hn.1
          by_cases c3 : (pread b n key F 5 par (bang + 1) (pnext b n t) L).1 = true
          · rw [if_pos c3]
            obtain ⟨k1, k2, A, eA, xA⟩ := g3 c3
            refine ⟨g1, by show t.1 ≤ (pread b n key F 5 par (bang + 1) (pnext b n t) L).2.1.1; omega, fun _ => ⟨by show t.1 < (pread b n key F 5 par (bang + 1) (pnext b n t) L).2.1.1; omega, ?_, A ++ [20033], by show _ ++ _ = _; rw [eA, List.append_assoc], pEX_not xA⟩⟩
            show ((pread b n key F 5 par (bang + 1) (pnext b n t) L).2.2 ++ [20033]).length + t.1 ≤ L.length + (pread b n key F 5 par (bang + 1) (pnext b n t) L).2.1.1
            rw [List.length_append]
            show _ + 1 + t.1 ≤ _
            omega
          · rw [if_neg c3]; exact ⟨g1, by show t.1 ≤ (pread b n key F 5 par (bang + 1) (pnext b n t) L).2.1.1; omega, fun q => Bool.noConfusion q⟩
        · rw [if_neg c2]
          by_cases c3 : t.2.2.1 = 3 ∧ b t.1 = 40 ∧ par < 8
          · rw [if_pos c3]
            have en : t.1 < t.2.1 := ht.2.2.2.1 (by omega)
            obtain ⟨g1, g2, g3⟩ := pread_ok F 0 (par + 1) bang (pnext b n t) L hn.1
            by_cases c4 : (pread b n key F 0 (par + 1) bang (pnext b n t) L).1 = true ∧ (pread b n key F 0 (par + 1) bang (pnext b n t) L).2.1.2.2.1 = 3 ∧ b (pread b n key F 0 (par + 1) bang (pnext b n t) L).2.1.1 = 41
            · rw [if_pos c4]
              obtain ⟨k1, k2, A, eA, xA⟩ := g3 c4.1
              have hn2 := pnext_ok g1
              have g4 := g1.1
              refine ⟨hn2.1, by show t.1 ≤ (pnext b n (pread b n key F 0 (par + 1) bang (pnext b n t) L).2.1).1; omega, fun _ => ⟨by show t.1 < (pnext b n (pread b n key F 0 (par + 1) bang (pnext b n t) L).2.1).1; omega, ?_, A, eA, xA⟩⟩
              show (pread b n key F 0 (par + 1) bang (pnext b n t) L).2.2.length + t.1 ≤ L.length + (pnext b n (pread b n key F 0 (par + 1) bang (pnext b n t) L).2.1).1
              omega
            · rw [if_neg c4]; exact ⟨g1, by show t.1 ≤ (pread b n key F 0 (par + 1) bang (pnext b n t) L).2.1.1; omega, fun q => Bool.noConfusion q⟩
          · rw [if_neg c3]; exact ⟨ht, Nat.le_refl _, fun q => Bool.noConfusion q⟩
