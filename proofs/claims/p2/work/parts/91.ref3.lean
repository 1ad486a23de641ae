/-! TEXT: the reference's signs, keys and steps -/
/-- the reference's code L behind place la of its row -/
def CDM (S : jM) (x la key : Nat) (L : List Nat) : Prop := ji S (x + 94) 27 = nI L.length ∧ ji S (x + 94) 29 = nI (pops L) ∧ ji S (x + 94) 28 = nI la ∧ ∀ i, i < L.length → ji S (x + 95) (la + 2 * i) = nI (whatw (L.getD i 0)) ∧ ji S (x + 95) (la + 2 * i + 1) = nI (valw key (L.getD i 0))
/-- what its reading changes -/
def rtp (S S' : jM) (x la : Nat) : Prop := jsame S S' ∧ (∀ y, y ≠ x + 94 → y ≠ x + 95 → ji S' y = ji S y) ∧ (∀ j, (j < 20 ∨ 30 ≤ j ∨ j = 28) → ji S' (x + 94) j = ji S (x + 94) j) ∧ ∀ j, (j < la ∨ la + 196 ≤ j) → ji S' (x + 95) j = ji S (x + 95) j
theorem ptn_3 {k : jtk} (h : k.2.2.1 ≤ 3) : ptn k = 3 ↔ k.2.2.1 = 3 := by
  unfold ptn
  rcases (show k.2.2.1 = 0 ∨ k.2.2.1 = 1 ∨ k.2.2.1 = 2 ∨ k.2.2.1 = 3 by omega) with e | e | e | e
  · rw [e, if_pos rfl]
  · rw [e, if_neg (by decide), if_pos rfl]
    split <;> decide
  · rw [e, if_neg (by decide), if_neg (by decide), if_pos rfl]
    split <;> decide
  · rw [e, if_neg (by decide), if_neg (by decide), if_neg (by decide)]
theorem ptn_le (k : jtk) : ptn k ≤ 4 := by
  unfold ptn
  repeat' split
  all_goals omega
theorem ptn_0 {k : jtk} (h : k.2.2.1 ≤ 3) : ptn k = 0 ↔ k.2.2.1 = 0 := by
  unfold ptn
  rcases (show k.2.2.1 = 0 ∨ k.2.2.1 = 1 ∨ k.2.2.1 = 2 ∨ k.2.2.1 = 3 by omega) with e | e | e | e
  · rw [e, if_pos rfl]
  · rw [e, if_neg (by decide), if_pos rfl]
    split <;> decide
  · rw [e, if_neg (by decide), if_neg (by decide), if_pos rfl]
    split <;> decide
  · rw [e, if_neg (by decide), if_neg (by decide), if_neg (by decide)]
theorem ptn_12 {k : jtk} (h4 : ¬ ptn k = 4) : (ptn k = 1 ∨ ptn k = 2) ↔ (k.2.2.1 = 1 ∨ k.2.2.1 = 2) := by
  unfold ptn at h4 ⊢
  by_cases c0 : k.2.2.1 = 0
  · rw [if_pos c0]; omega
  · rw [if_neg c0] at h4 ⊢
    by_cases c1 : k.2.2.1 = 1
    · rw [if_pos c1] at h4 ⊢
      by_cases q : k.2.2.2 = 1
      · rw [if_pos q] at h4; exact absurd rfl h4
      · rw [if_neg q]; omega
    · rw [if_neg c1] at h4 ⊢
      by_cases c2 : k.2.2.1 = 2
      · rw [if_pos c2] at h4 ⊢
        by_cases q : k.2.2.2 = 1 ∨ 4 < k.2.1 - k.1
        · rw [if_pos q] at h4; exact absurd rfl h4
        · rw [if_neg q]; omega
      · rw [if_neg c2]; omega
section jRef3
variable {E : jEnv} {d : Nat} {S S' : jM} {x n la key : Nat} {b : Nat → Nat} {k : jtk}
theorem rtp.rfl : rtp S S x la := ⟨jsame.rfl, fun _ _ _ => _root_.rfl, fun _ _ => _root_.rfl, fun _ _ => _root_.rfl⟩
theorem rtp.trans {S1 S2 : jM} (h1 : rtp S S1 x la) (h2 : rtp S1 S2 x la) : rtp S S2 x la := ⟨h1.1.trans h2.1, fun y a b => (h2.2.1 y a b).trans (h1.2.1 y a b), fun j a => (h2.2.2.1 j a).trans (h1.2.2.1 j a), fun j a => (h2.2.2.2 j a).trans (h1.2.2.2 j a)⟩
theorem rts.tp (h : rts S S' x) : rtp S S' x la := ⟨h.1, fun y a _ => h.2.1 y a, fun j hj => h.2.2 j (by omega), fun j _ => by rw [h.2.1 _ (by omega)]⟩
theorem RB.tp (h : RB S x n b) (g : rtp S S' x la) : RB S' x n b := by
  obtain ⟨h1, h2, h3, h4⟩ := h
  exact ⟨h1.same g.1, h2, (g.2.2.1 19 (by omega)).trans h3, fun j hj => ⟨(h4 j hj).1, by rw [g.2.1 _ (by omega) (by omega)]; exact (h4 j hj).2⟩⟩
theorem CDM.ts {L : List Nat} (h : CDM S x la key L) (g : rts S S' x) : CDM S' x la key L := ⟨(g.2.2 27 (by omega)).trans h.1, (g.2.2 29 (by omega)).trans h.2.1, (g.2.2 28 (by omega)).trans h.2.2.1, fun i hi => by rw [g.2.1 _ (by omega)]; exact h.2.2.2 i hi⟩
theorem c_X11_next {Q : jM → Prop} (hT : RB S x n b) (hK : TKM S x b k) (ok : TKok b n k) (h4 : ¬ ptn k = 4) (hq : ∀ S', rts S S' x → TKM S' x b (pnext b n k) → Q S') : jFv E mX11_nextToken (d + 2) 0 0 [.ref (x + 94)] S Q := by
  refine c_X11_token hT hK.2.1 hK.2.2.1 ok.2.1 (ptn_le k) (fun S' g K => hq S' g ?_)
  have e : (if 0 < k.2.1 ∧ (ptn k = 1 ∨ ptn k = 2) then 1 else 0) = (if k.2.2.1 = 1 ∨ k.2.2.1 = 2 then 1 else 0) := by
    by_cases c : k.2.2.1 = 1 ∨ k.2.2.1 = 2
    · have := ok.2.2.2.1 (by omega)
      rw [if_pos c, if_pos ⟨by omega, (ptn_12 h4).mpr c⟩]
    · rw [if_neg c, if_neg (fun z => c ((ptn_12 h4).mp z.2))]
  rw [e] at K
  exact K
theorem c_X11_isSign {Q : Int32 → jM → Prop} {c : Nat} (hT : RB S x n b) (hK : TKM S x b k) (ok : TKok b n k) (hc : c < 256) (h1 : k.2.2.1 = 3 → b k.1 = c → Q 1 S) (h0 : ¬ (k.2.2.1 = 3 ∧ b k.1 = c) → Q 0 S) : jFi E mX11_isSign d 0 0 [.ref (x + 94), .int (nI c)] S Q := by
  have h96 := hT.2.1
  have s3 := ok.so
  have p4 := ptn_le k
  refine T_X11_isSign ⟨hT.1.1, ?_⟩
  rw [hK.2.2.1]
  refine ⟨fun c3 => ?_, fun c3 => h0 (fun z => c3 (by rw [(ptn_3 s3).mpr z.1]; rfl))⟩
  have e3 : k.2.2.1 = 3 := (ptn_3 s3).mp (nI_inj (b := 3) (by omega) (by omega) c3)
  have hl := ok.lt (by omega)
  have hb := (hT.2.2.2 k.1 hl).1
  rw [hK.2.2.2.1 e3]
  exact ⟨fun e => h1 e3 (nI_inj (by omega) (by omega) e), fun e => h0 (fun z => e (by rw [z.2]))⟩
theorem c_X11_stepW {Q : jM → Prop} {L : List Nat} {w y z : Nat} (hM : ML S (x + 94)) (hC : CDM S x la key L) (hl : L.length ≤ 95) (hla : la + 196 ≤ 3135) (ey : y = whatw w) (ez : z = valw key w)
    (hq : ∀ S', rtp S S' x la → (∀ j, j ≠ 27 → ji S' (x + 94) j = ji S (x + 94) j) → ji S' (x + 94) 27 = nI (L.length + 1) → (∀ i, i < L.length + 1 → ji S' (x + 95) (la + 2 * i) = nI (whatw ((L ++ [w]).getD i 0)) ∧ ji S' (x + 95) (la + 2 * i + 1) = nI (valw key ((L ++ [w]).getD i 0))) → Q S') : jFv E mX11_step d 0 0 [.ref (x + 94), .int (nI y), .int (nI z)] S Q := by
  obtain ⟨l1, l2, l3, l4⟩ := hC
  have ea : ji S (x + 94) 28 + 2 * ji S (x + 94) 27 = nI (la + 2 * L.length) := by rw [l1, l3, nI_2, nI_add]
  refine T_X11_step ⟨hM.1, _, hM.rr0, hM.kk1, ?_, ?_, ?_⟩
  · rw [ea, hM.ll1]; exact jin_nI (by omega) (by omega)
  · rw [ea, nI_1, hM.ll1]; exact jin_nI (by omega) (by omega)
  · rw [ea, nI_1 (la + 2 * L.length), l1, nI_1 L.length, jcl (by omega), jcl (by omega)]
    refine hq _ ⟨⟨_root_.rfl, _root_.rfl, _root_.rfl, _root_.rfl⟩, fun q a c => by rw [ji_put_ne _ _ _ _ a, ji_put_ne _ _ _ _ c, ji_put_ne _ _ _ _ c], fun j hj => by rw [ji_put, if_neg (by omega), ji_put_ne _ _ _ _ (by omega), ji_put_ne _ _ _ _ (by omega)], fun j hj => by rw [ji_put_ne _ _ _ _ (by omega), ji_put, if_neg (by omega), ji_put, if_neg (by omega)]⟩ (fun j hj => by rw [ji_put, if_neg (by omega), ji_put_ne _ _ _ _ (by omega), ji_put_ne _ _ _ _ (by omega)]) (ji_put_same _ _ _ _) (fun i hi => ?_)
    rw [getD_app, ji_put_ne _ _ _ _ (show x + 95 ≠ x + 94 by omega), ji_put, ji_put, ji_put, ji_put]
    by_cases e : i = L.length
    · rw [if_pos e, e, if_neg (by omega), if_pos ⟨_root_.rfl, _root_.rfl⟩, if_pos ⟨_root_.rfl, _root_.rfl⟩, ey, ez]
      exact ⟨_root_.rfl, _root_.rfl⟩
    · rw [if_neg e, if_neg (by omega), if_neg (by omega), if_neg (by omega), if_neg (by omega)]
      exact l4 i (by omega)
theorem c_X11_isWordAt {Q : Int32 → jM → Prop} {c0 c1 c2 c3 : Nat} (hT : RB S x n b) (hK : TKM S x b k) (ok : TKok b n k) (nb : k.2.2.2 = 0) (h0 : c0 < 256) (h1 : c1 < 256) (h2 : c2 < 256) (h3 : c3 < 256) (hz : c3 ≠ 0) (hy : (k.2.2.1 = 1 ∧ k.2.1 - k.1 = 4 ∧ b k.1 = c0 ∧ b (k.1 + 1) = c1 ∧ b (k.1 + 2) = c2 ∧ b (k.1 + 3) = c3) → Q 1 S) (hn : ¬ (k.2.2.1 = 1 ∧ k.2.1 - k.1 = 4 ∧ b k.1 = c0 ∧ b (k.1 + 1) = c1 ∧ b (k.1 + 2) = c2 ∧ b (k.1 + 3) = c3) → Q 0 S) : jFi E mX11_isWordAt d 0 0 [.ref (x + 94), .int (nI c0), .int (nI c1), .int (nI c2), .int (nI c3)] S Q := by
  have h96 := hT.2.1
  have s3 := ok.so
  have kl := ok.1
  have ke := ok.2.1
  have p4 := ptn_le k
  have e1 : ptn k = 1 ↔ k.2.2.1 = 1 := by
    unfold ptn
    rw [nb]
    rcases (show k.2.2.1 = 0 ∨ k.2.2.1 = 1 ∨ k.2.2.1 = 2 ∨ k.2.2.1 = 3 by omega) with e | e | e | e
    · rw [e, if_pos _root_.rfl]
    · rw [e, if_neg (by decide), if_pos _root_.rfl, if_neg (by decide)]
    · rw [e, if_neg (by decide), if_neg (by decide), if_pos _root_.rfl]
      split <;> decide
    · rw [e, if_neg (by decide), if_neg (by decide), if_neg (by decide)]
  refine T_X11_isWordAt ⟨fun c => absurd (nI_inj (b := 0) (by omega) (by omega) c) hz, fun _ => ⟨hT.1.1, ?_⟩⟩
  rw [hK.2.2.1, hK.2.1, hK.1, nI_sub kl]
  refine ⟨fun q1 => ⟨fun q4 => ?_, fun q4 => hn (fun z => q4 (by rw [z.2.1]; rfl))⟩, fun q1 => hn (fun z => q1 (by rw [e1.mpr z.1]; rfl))⟩
  have es : k.2.2.1 = 1 := e1.mp (nI_inj (b := 1) (by omega) (by omega) q1)
  have e4 : k.2.1 - k.1 = 4 := nI_inj (b := 4) (by omega) (by omega) q4
  have a1 : nI k.1 + 1 = nI (k.1 + 1) := nI_1 _
  have a2 : nI k.1 + 2 = nI (k.1 + 2) := nI_add k.1 2
  have a3 : nI k.1 + 3 = nI (k.1 + 3) := nI_add k.1 3
  have eq : ∀ j c, j < 4 → c < 256 → (nI (b (k.1 + j)) = nI c ↔ b (k.1 + j) = c) := fun j c hj hc => by
    have := (hT.2.2.2 (k.1 + j) (by omega)).1
    exact ⟨fun h => nI_inj (by omega) (by omega) h, fun h => by rw [h]⟩
  have b0 : ji S (x + 109) (Int32.toNatClampNeg (nI k.1)) = nI (b (k.1 + 0)) := hT.by (by omega)
  refine ⟨_, hT.1.r18.1, hT.1.r18.2.1, hT.inn (by omega), ?_⟩
  rw [b0, a1, a2, a3, hT.by (p := k.1 + 1) (by omega), hT.by (p := k.1 + 2) (by omega), hT.by (p := k.1 + 3) (by omega)]
  exact ⟨fun r0 => ⟨hT.inn (by omega), fun r1 => ⟨hT.inn (by omega), fun r2 => ⟨hT.inn (by omega), fun r3 => hy ⟨es, e4, (eq 0 c0 (by omega) h0).mp r0, (eq 1 c1 (by omega) h1).mp r1, (eq 2 c2 (by omega) h2).mp r2, (eq 3 c3 (by omega) h3).mp r3⟩, fun r3 => hn (fun z => r3 ((eq 3 c3 (by omega) h3).mpr z.2.2.2.2.2))⟩, fun r2 => hn (fun z => r2 ((eq 2 c2 (by omega) h2).mpr z.2.2.2.2.1))⟩, fun r1 => hn (fun z => r1 ((eq 1 c1 (by omega) h1).mpr z.2.2.2.1))⟩, fun r0 => hn (fun z => r0 ((eq 0 c0 (by omega) h0).mpr z.2.2.1))⟩
theorem c_X11_key {Q : Int32 → jM → Prop} (hT : RB S x n b) (hK : TKM S x b k) (ok : TKok b n k) (nb : k.2.2.2 = 0) (h : Q (if pkey b k = 9 then -1 else nI (pkey b k)) S) : jFi E mX11_key (d + 1) 0 0 [.ref (x + 94)] S Q := by
  unfold pkey at h
  refine T_X11_key ⟨hT.1.1, c_X11_isWordAt (c0 := 116) (c1 := 101) (c2 := 114) (c3 := 109) hT hK ok nb (by omega) (by omega) (by omega) (by omega) (by omega) (fun y0 => ⟨fun z => absurd z (by decide), fun _ => ?_⟩) (fun n0 => ⟨fun _ => ⟨hT.1.1, c_X11_isWordAt (c0 := 102) (c1 := 97) (c2 := 109) (c3 := 101) hT hK ok nb (by omega) (by omega) (by omega) (by omega) (by omega) (fun y1 => ⟨fun z => absurd z (by decide), fun _ => ?_⟩) (fun n1 => ⟨fun _ => ⟨hT.1.1, c_X11_isWordAt (c0 := 102) (c1 := 105) (c2 := 110) (c3 := 101) hT hK ok nb (by omega) (by omega) (by omega) (by omega) (by omega) (fun y2 => ⟨fun z => absurd z (by decide), fun _ => ?_⟩) (fun n2 => ⟨fun _ => ?_, fun z => absurd _root_.rfl z⟩)⟩, fun z => absurd _root_.rfl z⟩)⟩, fun z => absurd _root_.rfl z⟩)⟩
  · rw [if_pos y0] at h; exact h
  · rw [if_neg n0, if_pos y1] at h; exact h
  · rw [if_neg n0, if_neg n1, if_pos y2] at h; exact h
  · rw [if_neg n0, if_neg n1, if_neg n2] at h; exact h
end jRef3
