/-! TEXT: the reference's whole tape -/
/-- what its parsing changes -/
def rtq (S S' : jM) (x la : Nat) : Prop := jsame S S' ∧ (∀ y, y ≠ x + 94 → y ≠ x + 95 → ji S' y = ji S y) ∧ (∀ j, (j < 19 ∨ 30 ≤ j) → ji S' (x + 94) j = ji S (x + 94) j) ∧ ji S' (x + 94) 19 = 0 ∧ ∀ j, (j < la ∨ la + 196 ≤ j) → ji S' (x + 95) j = ji S (x + 95) j
def pla (cnt : Nat) : Nat := if cnt < 14 then 139 + 200 * cnt else 2935
section jRef7
variable {E : jEnv} {d : Nat} {S S' : jM} {x n : Nat} {b : Nat → Nat}
theorem c_X11_parse {Q : Int32 → jM → Prop} {cnt : Nat} {v : Nat → Int32} (hM : MR S (x + 94) v) (hT : RB S x n b) (e1 : v 1 = nI cnt) (hc : cnt ≤ 14)
    (h1 : (ptx b n).1 = true → ∀ S', rtq S S' x (pla cnt) → CDM S' x (pla cnt) (ptx b n).2.2.1 (ptx b n).2.2.2 → Q (nI (ptx b n).2.2.1) S')
    (h0 : (ptx b n).1 = false → ∀ S', rtq S S' x (pla cnt) → ji S' (x + 94) 20 = nI (ptx b n).2.1 → Q (-1) S') : jFi E mX11_parse 75 0 0 [.ref (x + 94)] S Q := by
  have h96 := hT.2.1
  have hla : pla cnt + 196 ≤ 3135 := by unfold pla; split <;> omega
  have ok0 := (ptok_ok (b := b) (n := n) (w := 0) (e := 0) (Nat.zero_le _)).1
  have hn := pnext_ok ok0
  have nb0 : (ptok b n 0 0).2.2.2 = 0 := by
    show (if 0 = 1 ∧ pskp b (n - 0) 0 = 0 then 1 else 0) = 0
    rw [if_neg (fun z => absurd z.1 (by decide))]
  have i1 := hM.at (i := 1) 1 rfl (by omega)
  -- behind the start
  have go : ∀ S0 : jM, rtp S S0 x (pla cnt) ∨ True → jsame S S0 → (∀ y, y ≠ x + 94 → ji S0 y = ji S y) → (∀ j, (j < 21 ∨ 30 ≤ j) → ji S0 (x + 94) j = ji S (x + 94) j) → ji S0 (x + 94) 21 = nI 0 → ji S0 (x + 94) 22 = nI 3 → ji S0 (x + 94) 25 = nI 0 → ji S0 (x + 94) 26 = nI 0 → ji S0 (x + 94) 27 = nI 0 → ji S0 (x + 94) 29 = nI 0 → ji S0 (x + 94) 28 = nI (pla cnt) → jFv E mX11_nextToken 74 0 0 [.ref (x + 94)] S0 (fun S6 => jk S6 (x + 94) = 11 ∧ jFi E mX11_key 74 0 0 [.ref (x + 94)] S6 (fun r9 S8 => (r9 < 0 → jk S8 (x + 94) = 11 ∧ Q (-1) (jput S8 (x + 94) 19 0)) ∧ (¬ r9 < 0 → jk S8 (x + 94) = 11 ∧ jFv E mX11_nextToken 74 0 0 [.ref (x + 94)] S8 (fun S13 => jk S13 (x + 94) = 11 ∧ jFi E mX11_either 74 0 0 [.ref (x + 94), .int r9] S13 (fun r16 S15 => (r16 = 0 → jk S15 (x + 94) = 11 ∧ Q (-1) (jput S15 (x + 94) 19 0)) ∧ (¬ r16 = 0 → jk S15 (x + 94) = 11 ∧ ((ji S15 (x + 94) 22) = 0 → Q r9 (jput S15 (x + 94) 19 0)) ∧ (¬ (ji S15 (x + 94) 22) = 0 → Q (-1) (jput S15 (x + 94) 19 0)))))))) := by
    intro S0 _ s0 o0 f0 f21 f22 f25 f26 f27 f29 f28
    have T0 : RB S0 x n b := ⟨hT.1.same s0, hT.2.1, (f0 19 (by omega)).trans hT.2.2.1, fun j hj => ⟨(hT.2.2.2 j hj).1, by rw [o0 _ (by omega)]; exact (hT.2.2.2 j hj).2⟩⟩
    have fin : ∀ S2 : jM, rtp S0 S2 x (pla cnt) → rtq S (jput S2 (x + 94) 19 0) x (pla cnt) := fun S2 g => ⟨s0.trans (g.1.trans ⟨rfl, rfl, rfl, rfl⟩), fun y a c => by rw [ji_put_ne _ _ _ _ a, g.2.1 y a c]; exact o0 y a, fun j hj => by rw [ji_put, if_neg (by omega), g.2.2.1 j (by omega)]; exact f0 j (by omega), ji_put_same _ _ _ _, fun j hj => by rw [ji_put_ne _ _ _ _ (by omega), g.2.2.2 j hj, o0 _ (by omega)]⟩
    have p20 : ∀ S2 : jM, ji (jput S2 (x + 94) 19 0) (x + 94) 20 = ji S2 (x + 94) 20 := fun S2 => by rw [ji_put, if_neg (by omega)]
    refine c_X11_token T0 f21 f22 (Nat.zero_le _) (by omega) (fun S1 g1 K1 => ?_)
    rw [if_neg (by omega)] at K1
    have T1 := T0.ts g1
    refine ⟨T1.1.1, c_X11_key T1 K1 ok0 nb0 ?_⟩
    by_cases c9 : pkey b (ptok b n 0 0) = 9
    · rw [if_pos c9]
      have e9 : ptx b n = (false, (ptok b n 0 0).1, 0, []) := by unfold ptx; rw [if_pos c9]
      rw [e9] at h0
      exact ⟨fun _ => ⟨T1.1.1, h0 rfl _ (fin S1 g1.tp) ((p20 S1).trans K1.1)⟩, fun z => absurd (by decide) z⟩
    · rw [if_neg c9]
      have hk := pkey_lt c9
      have e9 : ptx b n = if (pread b n (pkey b (ptok b n 0 0)) 70 0 0 0 (pnext b n (ptok b n 0 0)) []).1 = true ∧ (pread b n (pkey b (ptok b n 0 0)) 70 0 0 0 (pnext b n (ptok b n 0 0)) []).2.1.2.2.1 = 0 then (true, 0, pkey b (ptok b n 0 0), (pread b n (pkey b (ptok b n 0 0)) 70 0 0 0 (pnext b n (ptok b n 0 0)) []).2.2) else (false, (pread b n (pkey b (ptok b n 0 0)) 70 0 0 0 (pnext b n (ptok b n 0 0)) []).2.1.1, 0, []) := by
        unfold ptx
        rw [if_neg c9]
      rw [e9] at h1 h0
      have kw : (ptok b n 0 0).2.2.1 = 1 ∧ (ptok b n 0 0).2.1 - (ptok b n 0 0).1 = 4 := by
        unfold pkey at c9
        by_cases a0 : (ptok b n 0 0).2.2.1 = 1 ∧ (ptok b n 0 0).2.1 - (ptok b n 0 0).1 = 4
        · exact a0
        · exfalso
          rw [if_neg (fun z => a0 ⟨z.1, z.2.1⟩), if_neg (fun z => a0 ⟨z.1, z.2.1⟩), if_neg (fun z => a0 ⟨z.1, z.2.1⟩)] at c9
          exact c9 rfl
      have p1 : ¬ ptn (ptok b n 0 0) = 4 := by
        unfold ptn
        rw [if_neg (by omega), if_pos kw.1, if_neg (by omega)]; decide
      generalize pkey b (ptok b n 0 0) = key at h1 h0 hk ⊢
      refine ⟨fun z => absurd z (nI_pos (by omega)), fun _ => ⟨T1.1.1, c_X11_next T1 K1 ok0 p1 (fun S2 g2 K2 => ⟨(T1.ts g2).1.1, ?_⟩)⟩⟩
      have g12 : rts S0 S2 x := g1.trans g2
      have pg := pread_ok (b := b) (n := n) (key := key) 70 0 0 0 (pnext b n (ptok b n 0 0)) [] hn.1
      have C2 : CDM S2 x (pla cnt) key [] := ⟨(g12.2.2 27 (by omega)).trans f27, (g12.2.2 29 (by omega)).trans f29, (g12.2.2 28 (by omega)).trans f28, fun i hi => absurd hi (Nat.not_lt_zero _)⟩
      have l4 : 0 + 1 ≤ (pnext b n (ptok b n 0 0)).1 := by
        have := hn.2
        have := kw.2
        omega
      refine (R_all (la := pla cnt) hk hla 70).1 0 0 (pnext b n (ptok b n 0 0)) [] S2 _ (by decide) (by omega) (by omega) (T1.ts g2) K2 hn.1 C2 ((g12.2.2 25 (by omega)).trans f25) ((g12.2.2 26 (by omega)).trans f26) l4 (fun S3 g3 p3 => ?_)
      generalize pread b n key 70 0 0 0 (pnext b n (ptok b n 0 0)) [] = r at h1 h0 pg p3 ⊢
      have g13 : rtp S0 S3 x (pla cnt) := g12.tp.trans g3
      have T3 := T0.tp g13
      by_cases c1 : r.1 = true
      · have eB : rB r = 1 := by unfold rB; rw [if_pos c1]
        rw [eB]
        obtain ⟨K3, C3, -, -⟩ := p3.1 c1
        have p4 := ptn_le r.2.1
        refine ⟨fun z => absurd z (by decide), fun _ => ⟨T3.1.1, ?_⟩⟩
        rw [K3.2.2.1]
        refine ⟨fun z => ?_, fun z => ?_⟩
        · have e0 : r.2.1.2.2.1 = 0 := (ptn_0 pg.1.so).mp (nI_inj (b := 0) (by omega) (by omega) z)
          rw [if_pos ⟨c1, e0⟩] at h1
          exact h1 rfl _ (fin S3 g13) (C3.put (by omega))
        · rw [if_neg (fun q => z (by rw [(ptn_0 pg.1.so).mpr q.2]; rfl))] at h0
          exact h0 rfl _ (fin S3 g13) ((p20 S3).trans K3.1)
      · have eB : rB r = 0 := by unfold rB; rw [if_neg c1]
        rw [eB]
        have cf : r.1 = false := by simpa using c1
        rw [if_neg (fun q => c1 q.1)] at h0
        exact ⟨fun _ => ⟨T3.1.1, h0 rfl _ (fin S3 g13) ((p20 S3).trans (p3.2 cf))⟩, fun z => absurd rfl z⟩
  refine T_X11_parse ⟨hM.k, _, hM.r, hM.k1, i1.1, ?_⟩
  rw [i1.2, e1]
  have st : ∀ w : Int32, w = nI (pla cnt) → jFv E mX11_nextToken 74 0 0 [.ref (x + 94)] (jput (jput (jput (jput (jput (jput (jput S (x + 94) 21 0) (x + 94) 22 3) (x + 94) 25 0) (x + 94) 26 0) (x + 94) 27 0) (x + 94) 29 0) (x + 94) 28 w) (fun S6 => jk S6 (x + 94) = 11 ∧ jFi E mX11_key 74 0 0 [.ref (x + 94)] S6 (fun r9 S8 => (r9 < 0 → jk S8 (x + 94) = 11 ∧ Q (-1) (jput S8 (x + 94) 19 0)) ∧ (¬ r9 < 0 → jk S8 (x + 94) = 11 ∧ jFv E mX11_nextToken 74 0 0 [.ref (x + 94)] S8 (fun S13 => jk S13 (x + 94) = 11 ∧ jFi E mX11_either 74 0 0 [.ref (x + 94), .int r9] S13 (fun r16 S15 => (r16 = 0 → jk S15 (x + 94) = 11 ∧ Q (-1) (jput S15 (x + 94) 19 0)) ∧ (¬ r16 = 0 → jk S15 (x + 94) = 11 ∧ ((ji S15 (x + 94) 22) = 0 → Q r9 (jput S15 (x + 94) 19 0)) ∧ (¬ (ji S15 (x + 94) 22) = 0 → Q (-1) (jput S15 (x + 94) 19 0)))))))) := by
    intro w hw
    have q : ∀ j, ji (jput (jput (jput (jput (jput (jput (jput S (x + 94) 21 0) (x + 94) 22 3) (x + 94) 25 0) (x + 94) 26 0) (x + 94) 27 0) (x + 94) 29 0) (x + 94) 28 w) (x + 94) j = if j = 28 then w else if j = 29 then 0 else if j = 27 then 0 else if j = 26 then 0 else if j = 25 then 0 else if j = 22 then 3 else if j = 21 then 0 else ji S (x + 94) j := fun j => by
      simp only [ji_put, true_and]
    refine go _ (Or.inr trivial) ⟨rfl, rfl, rfl, rfl⟩ (fun y hy => by rw [ji_put_ne _ _ _ _ hy, ji_put_ne _ _ _ _ hy, ji_put_ne _ _ _ _ hy, ji_put_ne _ _ _ _ hy, ji_put_ne _ _ _ _ hy, ji_put_ne _ _ _ _ hy, ji_put_ne _ _ _ _ hy]) (fun j hj => ?_) ?_ ?_ ?_ ?_ ?_ ?_ ?_
    · rw [q, if_neg (by omega), if_neg (by omega), if_neg (by omega), if_neg (by omega), if_neg (by omega), if_neg (by omega), if_neg (by omega)]
    · rw [q]; rfl
    · rw [q]; rfl
    · rw [q]; rfl
    · rw [q]; rfl
    · rw [q]; rfl
    · rw [q]; rfl
    · rw [q, if_pos rfl]; exact hw
  refine ⟨fun c => st _ ?_, fun c => st _ ?_⟩
  · have := (nI_leI (a := 14) (by omega) (by omega)).mp c
    unfold pla; rw [if_neg (by omega)]; rfl
  · have hlt : cnt < 14 := by
      rcases Nat.lt_or_ge cnt 14 with z | z
      · exact z
      · exact absurd (nI_le (a := 14) z (by omega)) c
    unfold pla jtextat
    rw [if_pos hlt, show (135 : Int32) = nI 135 from rfl, show (200 : Int32) = nI 200 from rfl, show (4 : Int32) = nI 4 from rfl]
    rw [nI_mul, nI_add, nI_add]
    congr 1
    omega
end jRef7
