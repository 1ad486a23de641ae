/-! FAME, FINE, WHY, TEXTTOLD, MADE, LEARN on both sides -/
section jLearn
variable {E : jEnv} {d : Nat} {S S' : jM} {x r m sz M : Nat} {v : Nat → Int32}
theorem c_X3_fameOf {Q : Int32 → jM → Prop} {o : lwt} {a : Nat} {fe ag : Int32} (hR : RmR S r sz v) (hT : TXS S x (r + 19) M v) (hL : LWD S x (r + 19) v 1 o) (ha : jk S a = 2) (e4 : ji S a 4 = fe) (e5 : ji S a 5 = ag) (h : ∀ S', jpi S S' x → Q (lwv o fe fe ag 0) S') : jFi E mX3_fameOf (d + 2) 0 0 [.ref r, .ref a] S Q := by
  refine T_X3_fameOf ⟨hR.1.1, c_X3_law (key := 1) hR hT hL (fun e => ?_) (fun t m n ops cw e => ?_) (fun w hw => ⟨hR.1.1, hw⟩)⟩
  · subst e
    refine ⟨fun _ => ⟨ha, ?_⟩, fun b c => absurd c (by simp)⟩
    rw [e4]; exact h S jpi.rfl
  · subst e
    refine ⟨fun c => absurd c (by simp), fun b c => ?_⟩
    obtain rfl : x + 115 + 3 * m + 1 = b := Option.some.inj c
    obtain ⟨cnt, c14, e1, e, ht, a1, a3, a4, a5⟩ := hL
    refine ⟨ha, a3.1, ?_⟩
    rw [e4, e5]
    exact c_X9_workOut a3 a5 (fun S1 c1 => h S1 (jpi.pile c1))
theorem c_X3_fineNow {Q : Int32 → jM → Prop} {o : lwt} (hR : RmR S r sz v) (hT : TXS S x (r + 19) M v) (hL : LWD S x (r + 19) v 2 o) (h : ∀ S', jpi S S' x → Q (lwv o (v 5) (v 5) (v 2) 0) S') : jFi E mX3_fineNow (d + 2) 0 0 [.ref r] S Q := by
  obtain ⟨l1, l2, l3, l4, l5, l6, -⟩ := id hR.2.2.2.2.2.1
  have r2 := hR.1.2.2.2.1
  refine T_X3_fineNow ⟨hR.1.1, c_X3_law (key := 2) hR hT hL (fun e => ?_) (fun t m n ops cw e => ?_) (fun w hw => ⟨hR.1.1, hw⟩)⟩
  · subst e
    refine ⟨fun _ => ⟨hR.1.1, _, r2, l1.1, ?_⟩, fun b c => absurd c (by simp)⟩
    rw [l4]; exact h S jpi.rfl
  · subst e
    refine ⟨fun c => absurd c (by simp), fun b c => ?_⟩
    obtain rfl : x + 115 + 3 * m + 1 = b := Option.some.inj c
    obtain ⟨cnt, c14, e1, e, ht, a1, a3, a4, a5⟩ := hL
    refine ⟨hR.1.1, _, r2, l1.1, a3.1, ?_⟩
    rw [l4, l6]
    exact c_X9_workOut a3 a5 (fun S1 c1 => h S1 (jpi.pile c1))
theorem Q_fame {w : Int32} (h : IV S x sz M v) : jFi E mX10_fame (d + 3) 0 0 [.ref x, .int w] S (fun r S1 => jFm E mX11_fame (d + 3) (x + 94) [.int w] S1 (fun r' S2 => r = r' ∧ INV S2 x M)) := by
  obtain ⟨hX, hM, hg⟩ := id h.1
  have hz := hX.sz9
  refine T_X10_fame ⟨hX.1, x + 1, hX.2.1, hX.k3, x + 2, hX.r0, hX.g.1.1, c_X0_find hX.g.1 hX.g.2.1 hz (fun i hn e => ⟨fun c => absurd c (by simp), fun b eb => ?_⟩) (fun hno => ⟨fun _ => ?_, fun b e => absurd e (by simp)⟩)⟩
  · obtain rfl : x + 2 + 2 + i = b := Option.some.inj eb
    subst e
    have n9 : i < 9 := by omega
    obtain ⟨o, hL⟩ := LWD_ex (key := 1) (by omega) h.2.2.2.2.1
    refine ⟨hX.1, x + 1, hX.2.1, hX.k3, c_X3_fameOf (M := M) (o := o) hX.2.2 h.2.2.2.2.1 hL (hX.mk n9) (hX.ms n9 (by omega)) (hX.ms n9 (by omega)) (fun S1 p1 => ?_)⟩
    have hP1 := p1.pi h.1
    have hM1 := hP1.2.1
    have hL1 := hL.keep p1.fq
    have r30 := hM1.1.row 15 128 (f := 30) rfl
    rw [show x + 94 + 1 + 15 = x + 94 + 16 by omega] at r30
    refine U_X11_fame hM1.k ⟨hM1.k, c_X11_isMaster hM1 hX.v0 hz (fun _ _ _ => ⟨fun c => absurd c (by decide), fun _ => ⟨hM1.k, ?_⟩⟩) (fun hh => absurd rfl (hh i hn))⟩
    cases o with
    | none =>
      obtain ⟨cnt, c14, e1, e⟩ := hL1
      refine c_X11_counts (w := 1) hM1 c14 e1 ?_
      have e' : jlst v 1 cnt 0 (-1) = -1 := e
      rw [e']
      exact ⟨fun c => absurd c j0m1, fun _ => ⟨hM1.k, c_X11_of (f := 4) hM1 n9 (by omega) ⟨rfl, sz, v, h.next p1.fq hP1 (fun _ _ _ => rfl)⟩⟩⟩
    | some q =>
      obtain ⟨t, m', n, ops, cw⟩ := q
      obtain ⟨cnt, c14, e1, e, ht, a1, a3, a4, a5⟩ := hL1
      refine c_X11_counts (w := 1) hM1 c14 e1 ?_
      have e' : jlst v 1 cnt 0 (-1) = nI t := e
      rw [e']
      refine ⟨fun _ => ⟨hM1.k, _, r30.1, c_X11_of (f := 4) hM1 n9 (by omega) ⟨r30.2.1, by rw [r30.2.2]; exact jin_nI (n := 102) (by omega) (by omega), hM1.k, _, r30.1, ?_⟩⟩, fun c => absurd (nI_pos' (by omega)) c⟩
      have n102 : Int32.toNatClampNeg 102 = 102 := rfl
      have n97 : Int32.toNatClampNeg 97 = 97 := rfl
      rw [n102]
      have c2 : jch S1 (jput S1 (x + 94 + 16) 102 (mfv v i 4)) (x + 94 + 16) (x + 94 + 18) := jch.put (by omega) (by omega)
      have h2 := hM1.keep c2 (by omega)
      refine c_X11_of (f := 5) h2 n9 (by omega) ⟨r30.2.1, by show vp_in 97 (jl S1 (x + 94 + 16)); rw [r30.2.2]; exact jin_nI (n := 97) (by omega) (by omega), h2.k, ?_⟩
      rw [n97]
      have c3 := c2.trans (jch.put (S := jput S1 (x + 94 + 16) 102 (mfv v i 4)) (a := x + 94 + 16) (j := 97) (v := mfv v i 5) (by omega) (by omega))
      refine c_X11_worked (vals := jv3 (mfv v i 4) (mfv v i 5) 0) (hM1.keep c3 (by omega)) (by omega) (by omega) a4 a5 (fun k hk9 => ?_) (fun S4 c4 => ⟨rfl, h.still p1 (c3.trans (c4.wide (by omega) (by omega)))⟩)
      have hk9 : k < 2 := hk9
      rcases (show k = 0 ∨ k = 1 by omega) with rfl | rfl
      · show ji _ (x + 94 + 16) 102 = mfv v i 4
        rw [ji_put, if_neg (by omega), ji_put_same]
      · show ji _ (x + 94 + 16) 97 = mfv v i 5
        rw [ji_put_same]
  · exact U_X11_fame hM.k ⟨hM.k, c_X11_isMaster hM hX.v0 hz (fun j hj e => absurd e (hno j hj)) (fun _ => ⟨fun _ => ⟨rfl, h.inv⟩, fun c => absurd rfl c⟩)⟩
theorem Q_fine (h : IV S x sz M v) : jFi E mX10_fine (d + 3) 0 0 [.ref x] S (fun r S1 => jFm E mX11_fine (d + 3) (x + 94) [] S1 (fun r' S2 => r = r' ∧ INV S2 x M)) := by
  obtain ⟨hX, hM, hg⟩ := id h.1
  obtain ⟨o, hL⟩ := LWD_ex (key := 2) (by omega) h.2.2.2.2.1
  refine T_X10_fine ⟨hX.1, x + 1, hX.2.1, hX.k3, c_X3_fineNow (M := M) (o := o) hX.2.2 h.2.2.2.2.1 hL (fun S1 p1 => ?_)⟩
  have hP1 := p1.pi h.1
  have hM1 := hP1.2.1
  have hL1 := hL.keep p1.fq
  have r30 := hM1.1.row 15 128 (f := 30) rfl
  rw [show x + 94 + 1 + 15 = x + 94 + 16 by omega] at r30
  have i5 := hM1.at (i := 5) 5 rfl (by omega)
  have i2 := hM1.at (i := 2) 2 rfl (by omega)
  cases o with
  | none =>
    obtain ⟨cnt, c14, e1, e⟩ := hL1
    refine U_X11_fine hM1.k ⟨hM1.k, c_X11_counts (w := 2) hM1 c14 e1 ?_⟩
    have e' : jlst v 2 cnt 0 (-1) = -1 := e
    rw [e']
    refine ⟨fun c => absurd c j0m1, fun _ => ⟨hM1.k, _, hM1.r, hM1.k1, i5.1, ?_⟩⟩
    rw [i5.2]
    exact ⟨rfl, sz, v, h.next p1.fq hP1 (fun _ _ _ => rfl)⟩
  | some q =>
    obtain ⟨t, m', n, ops, cw⟩ := q
    obtain ⟨cnt, c14, e1, e, ht, a1, a3, a4, a5⟩ := hL1
    refine U_X11_fine hM1.k ⟨hM1.k, c_X11_counts (w := 2) hM1 c14 e1 ?_⟩
    have e' : jlst v 2 cnt 0 (-1) = nI t := e
    rw [e']
    have n99 : Int32.toNatClampNeg 99 = 99 := rfl
    have n100 : Int32.toNatClampNeg 100 = 100 := rfl
    refine ⟨fun _ => ⟨hM1.k, _, r30.1, _, hM1.r, hM1.k1, i5.1, r30.2.1, by rw [r30.2.2]; exact jin_nI (n := 99) (by omega) (by omega), i2.1, by rw [r30.2.2]; exact jin_nI (n := 100) (by omega) (by omega), ?_⟩, fun c => absurd (nI_pos' (by omega)) c⟩
    rw [n99, n100, ji_put_ne _ _ _ _ (by omega), i5.2, i2.2]
    have c2 : jch S1 (jput S1 (x + 94 + 16) 99 (v 5)) (x + 94 + 16) (x + 94 + 18) := jch.put (by omega) (by omega)
    have c3 := c2.trans (jch.put (S := jput S1 (x + 94 + 16) 99 (v 5)) (a := x + 94 + 16) (j := 100) (v := v 2) (by omega) (by omega))
    refine c_X11_worked (vals := jv3 (v 5) (v 2) 0) (hM1.keep c3 (by omega)) (by omega) (by omega) a4 a5 (fun k hk9 => ?_) (fun S4 c4 => ⟨rfl, h.still p1 (c3.trans (c4.wide (by omega) (by omega)))⟩)
    have hk9 : k < 2 := hk9
    rcases (show k = 0 ∨ k = 1 by omega) with rfl | rfl
    · show ji _ (x + 94 + 16) 99 = v 5
      rw [ji_put, if_neg (by omega), ji_put_same]
    · show ji _ (x + 94 + 16) 100 = v 2
      rw [ji_put_same]
theorem jornone_at {n : Nat} (h : n < 2 ^ 31) : jornone (nI n) = nI n := by unfold jornone; rw [if_pos (nI_pos' h)]
theorem Q_why {w : Int32} (h : IV S x sz M v) : jFi E mX10_why (d + 2) 0 0 [.ref x, .int w] S (fun r S1 => jFm E mX11_why (d + 2) (x + 94) [.int w] S1 (fun r' S2 => r = r' ∧ INV S2 x M)) := by
  obtain ⟨hX, hM, hg⟩ := id h.1
  have ew : jisin (Int32.toInt64 w) 0 2 = jwi w 3 := jisin_wi w 3 2 rfl (jle_lt (by decide))
  obtain ⟨cnt, c14, e1, -⟩ := id h.2.2.2.2.1
  refine T_X10_why ⟨fun c => U_X11_why hM.k ⟨fun _ => ⟨rfl, h.inv⟩, fun c1 => absurd (ew.trans c) c1⟩, fun c => ⟨hX.1, x + 1, hX.2.1, hX.k3, c_X3_numberOfLaw (M := M) hX.2.2 h.2.2.2.2.1 c14 e1 ?_⟩⟩
  have ref : ∀ r, r = jornone (jlst v w cnt 0 (-1)) → jFm E mX11_why (d + 2) (x + 94) [.int w] S (fun r' S2 => r = r' ∧ INV S2 x M) := fun r hr =>
    U_X11_why hM.k ⟨fun c1 => absurd (ew.symm.trans c1) c, fun _ => ⟨hM.k, c_X11_counts hM c14 e1 ⟨hr, h.inv⟩⟩⟩
  refine ⟨fun c0 => ref _ ?_, fun c0 => ref _ ?_⟩
  · unfold jornone; rw [if_pos c0]
  · unfold jornone; rw [if_neg c0]
theorem Q_textTold {w u : Int32} (h : IV S x sz M v) : jFi E mX10_textTold (d + 2) 0 0 [.ref x, .int w, .int u] S (fun r S1 => jFm E mX11_textTold (d + 2) (x + 94) [.int w, .int u] S1 (fun r' S2 => r = r' ∧ INV S2 x M)) := by
  obtain ⟨hX, hM, hg⟩ := id h.1
  have eu : jisin (Int32.toInt64 u) 0 1 = jwi u 2 := jisin_wi u 2 1 rfl (jle_lt (by decide))
  obtain ⟨cnt, c14, e1, hT, -⟩ := id h.2.2.2.2.1
  obtain ⟨⟨k1, -, -, -, -, k6, -, -, k9, k10⟩, -⟩ := id hX.2.2
  have n6 := hX.2.2.n6
  have i1 := hM.at (i := 1) 1 rfl (by omega)
  have isx : ∀ {Q : Int32 → jM → Prop}, Q (jwi w (nI cnt)) S → jFi E mX11_isText (d + 1) 0 0 [.ref (x + 94), .int w] S Q := by
    intro Q hq
    refine T_X11_isText ⟨hM.k, _, hM.r, hM.k1, i1.1, jisin01 _ _ _, ?_⟩
    rw [i1.2, e1]
    have e9 : jisin (Int32.toInt64 w) 0 (Int32.toInt64 (nI cnt - 1)) = jwi w (nI cnt) := by
      refine jisin_wi w (nI cnt) (nI cnt - 1) rfl (jle_lt ?_)
      cases cnt with
      | zero => decide
      | succ y => rw [nI_pred, nI_toInt (by omega), nI_toInt (by omega)]; omega
    rw [e9]; exact hq
  refine T_X10_textTold ⟨hX.1, x + 1, hX.2.1, hX.k3, T_X3_findText ⟨k1, fun c => ?_, fun c => ?_⟩⟩
  · rw [n6, e1] at c
    refine ⟨fun _ => U_X11_textTold hM.k ⟨hM.k, isx ?_⟩, fun b e => absurd e (by simp)⟩
    rw [c]; exact ⟨fun _ => ⟨rfl, h.inv⟩, fun c => absurd rfl c⟩
  · rw [n6, e1] at c
    rcases jwi_cases w (b := nI cnt) cnt rfl (by omega) with ⟨t, ht, e, e9⟩ | ⟨-, e⟩
    · subst e
      obtain ⟨m', key, n, ops, cw, hm, a1, a2, a3, a4, a5⟩ := hT t ht
      refine ⟨fun c => absurd c (nI_ge (b := 14) (by omega) (by omega)), fun _ => ⟨x + 20, k6, k9, by rw [k10]; exact jin_nI (by omega) (by omega), fun c2 => ?_, fun b c2 => ?_⟩⟩
      · rw [jcl (by omega), a1] at c2; exact absurd c2 (by simp)
      · rw [jcl (by omega), a1] at c2
        obtain rfl : x + 115 + 3 * m' + 1 = b := Option.some.inj c2
        refine ⟨fun c => absurd c (by simp), fun b eb => ?_⟩
        obtain rfl : x + 115 + 3 * m' + 1 = b := Option.some.inj eb
        refine ⟨fun cu => U_X11_textTold hM.k ⟨hM.k, isx ?_⟩, fun cu => ?_⟩
        · rw [e9]; exact ⟨fun c => absurd c (by decide), fun _ => ⟨fun _ => ⟨rfl, h.inv⟩, fun c => absurd (eu.trans cu) c⟩⟩
        · have ref : ∀ (f : Nat) (r : Int32), f < 2 → u = nI f → r = v (135 + 200 * t + f) → jFm E mX11_textTold (d + 2) (x + 94) [.int (nI t), .int u] S (fun r' S2 => r = r' ∧ INV S2 x M) := by
            intro f r hf ef hr
            have ia := hM.at (i := jtextat (nI t) + u) (135 + 200 * t + f) (by rw [ef]; exact nI_txt t f) (by omega)
            refine U_X11_textTold hM.k ⟨hM.k, isx ?_⟩
            rw [e9]
            refine ⟨fun c => absurd c (by decide), fun _ => ⟨fun c => absurd (eu.symm.trans c) cu, fun _ => ⟨hM.k, _, hM.r, hM.k1, ia.1, ?_⟩⟩⟩
            rw [ia.2]; exact ⟨hr, h.inv⟩
          refine ⟨fun c0 => ⟨a3.1, ref 0 _ (by omega) c0 ?_⟩, fun c0 => ⟨a3.1, ref 1 _ (by omega) ?_ ?_⟩⟩
          · rw [a3.2.2.2.2.2.2.2.1]; exact a4.1.symm
          · rcases jwi_cases u (b := 2) 2 rfl (by omega) with ⟨j, hj, e, -⟩ | ⟨-, e⟩
            · rcases (show j = 0 ∨ j = 1 by omega) with rfl | rfl
              · exact absurd e c0
              · exact e
            · exact absurd e cu
          · rw [a3.2.2.2.2.2.2.2.2.1, show 135 + 200 * t + 1 = 136 + 200 * t by omega]; exact a4.2.1.symm
    · exact absurd e c
/-! made -/
def vus (g : Int32) (v : Nat → Int32) : Nat → Int32 := if jable (v 4) g = 0 then v else vday 1 (upd v (26 + g.toNatClampNeg) 0)
theorem vus_o {g : Int32} {j : Nat} (h : j ≠ 2) (h4 : j ≠ 4) (hj : j < 26 ∨ 36 ≤ j) (hg : ∃ k, k < 10 ∧ g = nI k) : vus g v j = v j := by
  obtain ⟨k, hk, rfl⟩ := hg
  unfold vus
  split
  · rfl
  · rw [(vday_at _ _).2.2.2 j h h4 hj, jcl (by omega), upd_ne _ (by omega)]
theorem C_prac {Q : Int32 → jM → Prop} {g : Nat} (hX : XR S x sz v) (hg : Rg sz v) (hg10 : g < 10) (h : ∀ r S', jch S S' (x + 16) (x + 19) → XR S' x sz (vus (nI g) v) → Rg sz (vus (nI g) v) → Q r S') : jFi E mX1_practise (d + 3) 0 0 [.ref (x + 16), .int (nI g)] S Q := by
  refine c_X1_practise hX.l (fun h0 => ?_) (fun g' hg' e h0 S1 c1 l1 => ?_)
  · have e : vus (nI g) v = v := by unfold vus; rw [if_pos h0]
    exact h 0 S jch.rfl (by rw [e]; exact hX) (by rw [e]; exact hg)
  · obtain rfl : g' = g := nI_inj (by omega) (by omega) e.symm
    obtain ⟨h1, g1⟩ := PI.day (u := upd v (26 + g') 0) (n := 1) (b := 1) hX hg (fun j hj => upd_ne 0 (by omega)) rfl (by omega) c1 (by
      have e : (fun i => upd v (26 + g') 0 (26 + i)) = upd (fun i => v (26 + i)) g' 0 := by
        funext i
        unfold upd
        by_cases hi : i = g'
        · rw [if_pos hi, if_pos (by omega)]
        · rw [if_neg hi, if_neg (by omega)]
      rw [e]; exact l1)
    have e : vus (nI g') v = vday 1 (upd v (26 + g') 0) := by unfold vus; rw [if_neg h0, jcl (by omega)]
    exact h 1 S1 c1 (by rw [e]; exact h1) (by rw [e]; exact g1)
theorem c_X11_uses {Q : jM → Prop} {g : Nat} (hM : MR S m v) (hg : Rg sz v) (hg10 : g < 10) (h : ∀ S', jch S S' (m + 1) (m + 2) → MR S' m (vday 1 (upd v (26 + g) 0)) → Q S') : jFv E mX11_uses (d + 3) 0 0 [.ref m, .int (nI g)] S Q := by
  have ei : (26 : Int32) + nI g = nI (26 + g) := nI_add 26 g
  refine T_X11_uses ⟨hM.k, m + 1, hM.r, hM.k1, (hM.at _ ei (by omega)).1, ?_⟩
  exact c_X11_goesBy (sz := sz) (hM.puts _ ei (by omega)) (hg.put (fun c => absurd (by rw [show 26 + g = 16 + (10 + g) by omega]; exact rgb_from _ (by omega)) c)) (fun S2 c2 h2 => h S2 ((jch.put (by omega) (by omega)).trans c2) h2)
def vmk : Nat → Nat → (Nat → Int32) → Nat → Int32
  | 0, _, v => v
  | n + 1, i, v => vmk n (i + 1) (vus (v (9 + i)) v)
theorem Q_made (h : IV S x sz M v) : jFi E mX10_made (d + 6) 0 0 [.ref x] S (fun r S1 => jFm E mX11_made (d + 5) (x + 94) [] S1 (fun r' S2 => r = r' ∧ INV S2 x M)) := by
  obtain ⟨hX, hM, hg⟩ := id h.1
  obtain ⟨w, hw, e7⟩ := hg.wi
  have kC : ∀ (Q : jM → Prop) (n i : Nat) (S1 : jM) (u : Nat → Int32), i + n = w → u 7 = nI w → jch S S1 (x + 16) (x + 19) → XR S1 x sz u → Rg sz u → (∀ S', jch S S' (x + 16) (x + 19) → XR S' x sz (vmk n i u) → Rg sz (vmk n i u) → Q S') → L_X3_makeChair_2 E (d + 4) Q (x + 1) (nI i) S1 := by
    intro Q n
    induction n with
    | zero =>
      intro i S1 u hi u7 c1 h1 g1 hq
      obtain rfl : i = w := by omega
      exact T_X3_makeChair_2 ⟨h1.k3, fun _ => hq S1 c1 h1 g1, fun c => absurd (by rw [h1.2.2.n4, u7]; exact Int32.le_rfl) c⟩
    | succ n ih =>
      intro i S1 u hi u7 c1 h1 g1 hq
      obtain ⟨g, hg10, eg⟩ := g1.wd i (by omega)
      obtain ⟨⟨q1, q2, q3, q4, q5, q6, q7, q8, q9, q10⟩, b1, b2, b3, b4, b5, b6, b7, b8⟩ := id h1.2.2
      refine T_X3_makeChair_2 ⟨h1.k3, fun c => absurd c (by rw [h1.2.2.n4, u7]; exact nI_ge (by omega) (by omega)), fun _ => ⟨fun c => absurd c (nI_ge (b := 6) (by omega) (by omega)), fun _ => ⟨x + 16, q4, x + 19, q5, q7, by rw [q8]; exact jin_nI (by omega) (by omega), b5.1.1, ?_⟩⟩⟩
      rw [jcl (by omega), b7 i (by omega), eg, nI_1]
      refine C_prac h1 g1 hg10 (fun r S2 c2 h2 g2 => ih (i + 1) S2 _ (by omega) ?_ (c1.trans c2) h2 g2 (fun S' c' h' g' => hq S' c' ?_ ?_))
      · rw [vus_o (by omega) (by omega) (by omega) ⟨g, hg10, rfl⟩]; exact u7
      · show XR S' x sz (vmk n (i + 1) (vus (u (9 + i)) u)); rw [eg]; exact h'
      · show Rg sz (vmk n (i + 1) (vus (u (9 + i)) u)); rw [eg]; exact g'
  have kM : ∀ (Q : Int32 → jM → Prop) (S0 : jM) (n i : Nat) (S1 : jM) (u : Nat → Int32), i + n = w → u 7 = nI w → jch S0 S1 (x + 95) (x + 96) → MR S1 (x + 94) u → Rg sz u → (∀ S', jch S0 S' (x + 95) (x + 96) → MR S' (x + 94) (vmk n i u) → Q (vmk n i u 2) S') → L_X11_made_12 E (d + 4) Q (x + 94) (nI i) S1 := by
    intro Q S0 n
    induction n with
    | zero =>
      intro i S1 u hi u7 c1 h1 g1 hq
      obtain rfl : i = w := by omega
      have i7 := h1.at (i := 7) 7 rfl (by omega)
      have i2 := h1.at (i := 2) 2 rfl (by omega)
      refine T_X11_made_12 ⟨h1.k, _, h1.r, h1.k1, i7.1, fun _ => ⟨i2.1, ?_⟩, fun c => absurd (by rw [i7.2, u7]; exact Int32.le_rfl) c⟩
      rw [i2.2]; exact hq S1 c1 h1
    | succ n ih =>
      intro i S1 u hi u7 c1 h1 g1 hq
      obtain ⟨g, hg10, eg⟩ := g1.wd i (by omega)
      have i7 := h1.at (i := 7) 7 rfl (by omega)
      have i9 := h1.at (i := 9 + nI i) (9 + i) (nI_add 9 i) (by omega)
      have rg : Rg sz (vus (nI g) u) := by
        unfold vus
        by_cases ha : jable (u 4) (nI g) = 0
        · rw [if_pos ha]; exact g1
        · rw [if_neg ha, jcl (by omega)]
          have g2 : Rg sz (upd u (26 + g) 0) := g1.put (fun c => absurd (by rw [show 26 + g = 16 + (10 + g) by omega]; exact rgb_from _ (by omega)) c)
          intro j hj hr
          obtain ⟨a1, a2, a3, a4⟩ := vday_at 1 (upd u (26 + g) 0)
          by_cases j2 : j = 2
          · subst j2
            obtain ⟨a, ha9, e2⟩ := g2 2 (by omega) (by decide)
            rw [a1, e2]; exact (jday (a := a) (b := 1) ha9 (by omega)).2
          · by_cases j4 : j = 4
            · subst j4; rw [a2]; exact pfold_kn 10 0 _ g2.kn
            · by_cases jr : j < 26 ∨ 36 ≤ j
              · rw [a4 j j2 j4 jr]; exact g2 j hj hr
              · exfalso
                have := rgb_from (j - 16) (by omega)
                rw [show 16 + (j - 16) = j by omega] at this
                exact hr this
      have e7' : vus (nI g) u 7 = nI w := by rw [vus_o (by omega) (by omega) (by omega) ⟨g, hg10, rfl⟩]; exact u7
      have hq' : ∀ S', jch S0 S' (x + 95) (x + 96) → MR S' (x + 94) (vmk n (i + 1) (vus (nI g) u)) → Q (vmk n (i + 1) (vus (nI g) u) 2) S' := fun S' c' h' => by
        have := hq S' c'
        rw [show vmk (n + 1) i u = vmk n (i + 1) (vus (u (9 + i)) u) from rfl, eg] at this
        exact this h'
      refine T_X11_made_12 ⟨h1.k, _, h1.r, h1.k1, i7.1, fun c => absurd c (by rw [i7.2, u7]; exact nI_ge (by omega) (by omega)), fun _ => ⟨i9.1, ?_⟩⟩
      rw [i9.2, eg, nI_1]
      refine c_X11_doesKnow h1 g1.kn hg10 ⟨fun ha => ?_, fun ha => ⟨h1.k, _, h1.r, h1.k1, i9.1, ?_⟩⟩
      · have e : vus (nI g) u = u := by unfold vus; rw [if_pos ha]
        rw [e] at hq' rg e7'
        exact ih (i + 1) S1 u (by omega) u7 c1 h1 g1 hq'
      · rw [i9.2, eg]
        have e : vus (nI g) u = vday 1 (upd u (26 + g) 0) := by unfold vus; rw [if_neg ha, jcl (by omega)]
        rw [e] at hq' rg e7'
        exact c_X11_uses h1 g1 hg10 (fun S2 c2 h2 => ih (i + 1) S2 _ (by omega) e7' (c1.trans c2) h2 rg hq')
  have vo : ∀ (n i : Nat) (u : Nat → Int32), i + n ≤ 6 → Rg sz u → ∀ j, j ≠ 2 → j ≠ 4 → (j < 26 ∨ 36 ≤ j) → (∀ k, k < 6 → ∃ g, g < 10 ∧ u (9 + k) = nI g) → vmk n i u j = u j := by
    intro n
    induction n with
    | zero => intro i u _ _ j _ _ _ _; rfl
    | succ n ih =>
      intro i u hi hu j j2 j4 jr hk
      obtain ⟨g, hg10, eg⟩ := hk i (by omega)
      have e1 : ∀ j, j ≠ 2 → j ≠ 4 → (j < 26 ∨ 36 ≤ j) → vus (u (9 + i)) u j = u j := fun j a b c => vus_o a b c ⟨g, hg10, eg⟩
      show vmk n (i + 1) (vus (u (9 + i)) u) j = u j
      have ih2 : ∀ (n i : Nat) (u : Nat → Int32), i + n ≤ 6 → (∀ k, k < 6 → ∃ g, g < 10 ∧ u (9 + k) = nI g) → ∀ j, j ≠ 2 → j ≠ 4 → (j < 26 ∨ 36 ≤ j) → vmk n i u j = u j := by
        intro n
        induction n with
        | zero => intro i u _ _ j _ _ _; rfl
        | succ n ih =>
          intro i u hi hk j j2 j4 jr
          obtain ⟨g, hg10, eg⟩ := hk i (by omega)
          show vmk n (i + 1) (vus (u (9 + i)) u) j = u j
          rw [ih (i + 1) _ (by omega) (fun k hk6 => by rw [vus_o (by omega) (by omega) (by omega) ⟨g, hg10, eg⟩]; exact hk k hk6) j j2 j4 jr]
          exact vus_o j2 j4 jr ⟨g, hg10, eg⟩
      rw [ih2 n (i + 1) _ (by omega) (fun k hk6 => by rw [e1 _ (by omega) (by omega) (by omega)]; exact hk k hk6) j j2 j4 jr]
      exact e1 j j2 j4 jr
  refine T_X10_made ⟨hX.1, x + 1, hX.2.1, hX.k3, c_X3_can hX.2.2 hg hw e7 ⟨fun c => ?_, fun c => ⟨hX.1, x + 1, hX.2.1, hX.k3, T_X3_makeChair (kC _ w 0 S v (by omega) e7 jch.rfl hX hg (fun S1 c1 h1 g1 => ?_))⟩⟩⟩
  · exact U_X11_made hM.k ⟨hM.k, c_X11_can hM hg hw e7 ⟨fun _ => ⟨rfl, h.inv⟩, fun c2 => absurd c c2⟩⟩
  · refine ⟨h1.1, x + 1, h1.2.1, h1.k3, x + 16, h1.r2, h1.l.1.1, ?_⟩
    rw [h1.l.2.2.2.2.2.1]
    have hM1 := hM.keep c1 (by omega)
    refine U_X11_made hM1.k ⟨hM1.k, c_X11_can hM1 hg hw e7 ⟨fun c2 => absurd c2 c, fun _ => kM _ S1 w 0 S1 v (by omega) e7 jch.rfl hM1 hg (fun S2 c2 h2 => ⟨rfl, sz, _, h.next ((jfq.of (jfr.realm c1 (by omega) (by omega))).trans (jfq.of (jfr.row c2))) ⟨h1.of c2.1 (h1.2.2.keep c2 (by omega)), h2, g1⟩ (fun j hj _ => vo w 0 v (by omega) hg j (by omega) (by omega) (by omega) (fun k hk => hg.wd k hk))⟩)⟩⟩
end jLearn
