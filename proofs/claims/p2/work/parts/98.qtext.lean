/-! TEXT on both sides -/
section jQText
variable {E : jEnv} {d : Nat} {S : jM} {x sz M : Nat} {v : Nat → Int32}
theorem Q_text (h : IV S x sz M v) : jFi E mX10_text (d + 148) 3 196 [.ref x] S (fun r S1 => jFm E mX11_text 76 (x + 94) [] S1 (fun r' S2 => r = r' ∧ ∃ M', M' ≤ M + 1 ∧ INV S2 x M')) := by
  obtain ⟨⟨hX, hM, hg⟩, hC, hGL, hjn, hT, hI, hS, hSl, hW, hTp⟩ := id h
  obtain ⟨n, n96, a1, a2, a3⟩ := hTp
  obtain ⟨b, hb⟩ := Classical.axiomOfChoice (r := fun (j : Nat) (c : Nat) => j < n → c < 256 ∧ ji S (x + 61) j = nI c ∧ ji S (x + 109) j = nI c) (fun j => (Classical.em (j < n)).elim (fun hj => (a3 j hj).elim (fun c hc => ⟨c, fun _ => hc⟩)) (fun hj => ⟨0, fun q => absurd q hj⟩))
  obtain ⟨cnt, c14, ec, hTx, hz⟩ := id hT
  have hTL := hC.2.2.2.1
  have r5 := hC.2.1.2.2.2.2.1
  have TBc : TB S (x + 60) n b := ⟨hTL, n96, a1, fun j hj => ⟨(hb j hj).1, (hb j hj).2.1⟩⟩
  have n6 : ji S (x + 1) 6 = nI cnt := hX.2.2.n6.trans ec
  refine T_X10_text ⟨hX.1, _, r5, hTL.1, c_X8_isText TBc (fun good S4 g4 e6 C4 => ?_) (fun bad S4 g4 f2 => ?_)⟩
  · -- a text
    obtain ⟨hkey, hEX, hlen⟩ := ptx_ok good
    have hp96 : pops (ptx b n).2.2.2 ≤ 96 := (WFt_of hEX (by omega)).2.2.2.2.2.1
    have hWF := WFt_of hEX (show (ptx b n).2.2.2.length ≤ 96 by omega)
    have T4 := TBc.tq g4
    have hX4 : jr S4 x 0 = some (x + 1) := by rw [g4.1.2.2.1]; exact hX.2.1
    refine ⟨by rw [g4.1.1]; exact hX.1, _, by rw [g4.1.2.2.1]; exact r5, T4.1.1, fun z => absurd z (by decide), fun _ => ⟨_, hX4, by rw [g4.1.1]; exact hX.k3, ?_⟩⟩
    have o5 : ∀ y, y ≠ x + 60 → y ≠ x + 62 → ji (jput S4 (x + 60) 1 0) y = ji S y := fun y p q => by rw [ji_put_ne _ _ _ _ p]; exact g4.2.1 y p q
    have s5 : jsame S (jput S4 (x + 60) 1 0) := g4.1.trans ⟨rfl, rfl, rfl, rfl⟩
    have t5 : ji (jput S4 (x + 60) 1 0) (x + 60) 1 = 0 := ji_put_same _ _ _ _
    have C5 : CDC (jput S4 (x + 60) 1 0) (x + 60) (ptx b n).2.2.2 := ⟨by rw [ji_put, if_neg (by omega)]; exact C4.1, by rw [ji_put, if_neg (by omega)]; exact C4.2.1, fun i hi => by rw [ji_put_ne _ _ _ _ (by omega)]; exact C4.2.2 i hi⟩
    have f6 : ji (jput S4 (x + 60) 1 0) (x + 60) 6 = nI (ptx b n).2.2.1 := by rw [ji_put, if_neg (by omega)]; exact e6
    have e61 : ji S4 (x + 1) 6 = nI cnt := by rw [g4.2.1 _ (by omega) (by omega)]; exact n6
    rw [e61]
    generalize jput S4 (x + 60) 1 0 = S5 at o5 s5 t5 C5 f6 ⊢
    have n5 : jn S5 = x + 115 + 3 * M := s5.2.2.2.trans hjn
    refine c_X8_textRead (hTL.same s5) (by omega) C5 f6 (by omega) hp96 (fun S7 n7 c7 X7 => ⟨fun z => absurd z (by simp), fun b14 e14 => ?_⟩)
    obtain rfl : jn S5 + 1 = b14 := Option.some.inj e14
    rw [n5] at n7 c7 X7 ⊢
    have o7 : ∀ y, y < x + 115 + 3 * M → y ≠ x + 60 → y ≠ x + 62 → ji S7 y = ji S y := fun y hy p q => (c7 y hy).2.2.1.trans (o5 y p q)
    have k7 : ∀ y, y < x + 115 + 3 * M → jk S7 y = jk S y := fun y hy => (c7 y hy).1.trans (by rw [s5.1])
    have l7 : ∀ y, y < x + 115 + 3 * M → jl S7 y = jl S y := fun y hy => (c7 y hy).2.1.trans (by rw [s5.2.1])
    have r7 : ∀ y, y < x + 115 + 3 * M → jr S7 y = jr S y := fun y hy => (c7 y hy).2.2.2.trans (by rw [s5.2.2.1])
    have t7 : ji S7 (x + 60) 1 = 0 := by rw [(c7 (x + 60) (by omega)).2.2.1]; exact t5
    have e67 : ji S7 (x + 1) 6 = nI cnt := by rw [o7 _ (by omega) (by omega) (by omega)]; exact n6
    -- the reference, behind any such memory
    have ref : ∀ (S8 : jM) (Q : Int32 → jM → Prop), (∀ y, y < x + 115 → jk S8 y = jk S y) → (∀ y, y < x + 115 → jl S8 y = jl S y) → jr S8 (x + 94) = jr S (x + 94) → (∀ y, y = x + 94 ∨ y = x + 95 ∨ y = x + 109 → ji S8 y = ji S y) → (∀ S9, rtq S8 S9 x (pla cnt) → CDM S9 x (pla cnt) (ptx b n).2.2.1 (ptx b n).2.2.2 → jk S9 (x + 94) = 11 ∧ ∃ b6, jr S9 (x + 94) 0 = some b6 ∧ (jk S9 b6 = 12 ∧ vp_in 1 (jl S9 b6) ∧ (((ji S9 b6 (Int32.toNatClampNeg 1)) = 14 → Q (-1000000003) S9) ∧ (¬ (ji S9 b6 (Int32.toNatClampNeg 1)) = 14 → (vp_in ((jtextat (ji S9 b6 (Int32.toNatClampNeg 1))) + 0) (jl S9 b6) ∧ (vp_in ((jtextat (ji S9 b6 (Int32.toNatClampNeg 1))) + 1) (jl S9 b6) ∧ (vp_in ((jtextat (ji S9 b6 (Int32.toNatClampNeg 1))) + 2) (jl S9 b6) ∧ ((((Q (((ji (jput (jput (jput S9 b6 (Int32.toNatClampNeg ((jtextat (ji S9 b6 (Int32.toNatClampNeg 1))) + 0)) (nI (ptx b n).2.2.1)) b6 (Int32.toNatClampNeg ((jtextat (ji S9 b6 (Int32.toNatClampNeg 1))) + 1)) (ji S9 (x + 94) 29)) b6 (Int32.toNatClampNeg ((jtextat (ji S9 b6 (Int32.toNatClampNeg 1))) + 2)) (ji S9 (x + 94) 27)) b6 (Int32.toNatClampNeg 1)) + 1) - 1) (jput (jput (jput (jput S9 b6 (Int32.toNatClampNeg ((jtextat (ji S9 b6 (Int32.toNatClampNeg 1))) + 0)) (nI (ptx b n).2.2.1)) b6 (Int32.toNatClampNeg ((jtextat (ji S9 b6 (Int32.toNatClampNeg 1))) + 1)) (ji S9 (x + 94) 29)) b6 (Int32.toNatClampNeg ((jtextat (ji S9 b6 (Int32.toNatClampNeg 1))) + 2)) (ji S9 (x + 94) 27)) b6 (Int32.toNatClampNeg 1) ((ji (jput (jput (jput S9 b6 (Int32.toNatClampNeg ((jtextat (ji S9 b6 (Int32.toNatClampNeg 1))) + 0)) (nI (ptx b n).2.2.1)) b6 (Int32.toNatClampNeg ((jtextat (ji S9 b6 (Int32.toNatClampNeg 1))) + 1)) (ji S9 (x + 94) 29)) b6 (Int32.toNatClampNeg ((jtextat (ji S9 b6 (Int32.toNatClampNeg 1))) + 2)) (ji S9 (x + 94) 27)) b6 (Int32.toNatClampNeg 1)) + 1))))))))))))) → jFm E mX11_text 76 (x + 94) [] S8 Q := by
      intro S8 Q hk8 hl8 hr8 o8 hq
      have M8 : ML S8 (x + 94) := hM.1.pt hk8 hl8 hr8
      have hM8 : MR S8 (x + 94) v := ⟨M8, fun j => by rw [o8 (x + 94 + 1) (by omega)]; exact hM.2 j⟩
      have hT8 : RB S8 x n b := ⟨M8, n96, by rw [o8 _ (by omega)]; exact a2, fun j hj => ⟨(hb j hj).1, by rw [o8 _ (by omega)]; exact (hb j hj).2.2⟩⟩
      exact U_X11_text hM8.k ⟨hM8.k, c_X11_parse hM8 hT8 ec c14 (fun _ S9 g9 C9 => ⟨fun _ => hq S9 g9 C9, fun z => absurd (Int32.not_lt.mp (nI_pos (by omega))) z⟩) (fun q => absurd (good.symm.trans q) (by decide))⟩
    refine ⟨by rw [k7 _ (by omega)]; exact hX.k3, T_X3_addText ⟨by rw [k7 _ (by omega)]; exact hX.k3, ?_⟩⟩
    rw [e67]
    rcases Nat.lt_or_ge cnt 14 with hlt | hge
    · have jw : ¬ jwi (nI cnt) 14 = 0 := by rw [show (14 : Int32) = nI 14 from rfl, jwi_at hlt (by omega)]; decide
      refine ⟨fun z => absurd z jw, fun _ => ⟨x + 20, by rw [r7 _ (by omega)]; exact hX.2.2.1.2.2.2.2.2.1, by rw [k7 _ (by omega)]; exact hX.2.2.1.2.2.2.2.2.2.2.2.1, X7.1, by rw [l7 _ (by omega), show jl S (x + 20) = 14 from hX.2.2.1.2.2.2.2.2.2.2.2.2]; exact jin_nI hlt (by omega), fun z => absurd z (by decide), fun _ => ?_⟩⟩
      rw [jcl (by omega), nI_1]
      have r8 : ∀ y, y ≠ x + 20 → jr (jput (jputr S7 (x + 20) cnt (some (x + 115 + 3 * M + 1))) (x + 1) 6 (nI (cnt + 1))) y = jr S7 y := fun y hy => by rw [jr_put, jr_putr_ne _ _ _ _ hy]
      have r20 : ∀ t, jr (jput (jputr S7 (x + 20) cnt (some (x + 115 + 3 * M + 1))) (x + 1) 6 (nI (cnt + 1))) (x + 20) t = if t = cnt then some (x + 115 + 3 * M + 1) else jr S7 (x + 20) t := fun t => by
        rw [jr_put, jr_putr]
        by_cases e : t = cnt
        · rw [if_pos ⟨rfl, e⟩, if_pos e]
        · rw [if_neg (fun z => e z.2), if_neg e]
      have o8 : ∀ y, y ≠ x + 1 → ji (jput (jputr S7 (x + 20) cnt (some (x + 115 + 3 * M + 1))) (x + 1) 6 (nI (cnt + 1))) y = ji S7 y := fun y hy => by rw [ji_put_ne _ _ _ _ hy, ji_putr]
      have o86 : ∀ j, ji (jput (jputr S7 (x + 20) cnt (some (x + 115 + 3 * M + 1))) (x + 1) 6 (nI (cnt + 1))) (x + 1) j = if j = 6 then nI (cnt + 1) else ji S7 (x + 1) j := fun j => by
        rw [ji_put, ji_putr]
        by_cases e : j = 6
        · rw [if_pos ⟨rfl, e⟩, if_pos e]
        · rw [if_neg (fun z => e z.2), if_neg e]
      have k8 : jk (jput (jputr S7 (x + 20) cnt (some (x + 115 + 3 * M + 1))) (x + 1) 6 (nI (cnt + 1))) = jk S7 := rfl
      have l8 : jl (jput (jputr S7 (x + 20) cnt (some (x + 115 + 3 * M + 1))) (x + 1) 6 (nI (cnt + 1))) = jl S7 := rfl
      have n8 : jn (jput (jputr S7 (x + 20) cnt (some (x + 115 + 3 * M + 1))) (x + 1) 6 (nI (cnt + 1))) = jn S7 := rfl
      generalize jput (jputr S7 (x + 20) cnt (some (x + 115 + 3 * M + 1))) (x + 1) 6 (nI (cnt + 1)) = S8 at r8 r20 o8 o86 k8 l8 n8 ⊢
      have la : pla cnt = 139 + 200 * cnt := by unfold pla; rw [if_pos hlt]
      refine ref S8 _ (fun y hy => by rw [k8]; exact k7 y (by omega)) (fun y hy => by rw [l8]; exact l7 y (by omega)) (by rw [r8 _ (by omega)]; exact r7 _ (by omega)) (fun y hy => by rw [o8 y (by omega)]; exact o7 y (by omega) (by omega) (by omega)) (fun S9 g9 C9 => ?_)
      rw [la] at g9 C9
      have M9 : ML S9 (x + 94) := (hM.1.pt (S' := S8) (fun y hy => by rw [k8]; exact k7 y (by omega)) (fun y hy => by rw [l8]; exact l7 y (by omega)) (by rw [r8 _ (by omega)]; exact r7 _ (by omega))).same g9.1
      have w9 : ∀ j, (j < 139 + 200 * cnt ∨ 335 + 200 * cnt ≤ j) → ji S9 (x + 95) j = v j := fun j hj => by
        rw [g9.2.2.2.2 j (by omega), o8 _ (by omega), o7 _ (by omega) (by omega) (by omega)]; exact hM.2 j
      have e19 : ji S9 (x + 95) (Int32.toNatClampNeg 1) = nI cnt := (w9 1 (by omega)).trans ec
      have n14 : ¬ nI cnt = 14 := fun z => by have := nI_inj (b := 14) (by omega) (by omega) z; omega
      have ta : ∀ q : Nat, jtextat (nI cnt) + nI q = nI (135 + 200 * cnt + q) := fun q => by
        unfold jtextat
        rw [show (135 : Int32) = nI 135 from rfl, show (200 : Int32) = nI 200 from rfl, nI_mul, nI_add, nI_add]
      have ta0 : jtextat (nI cnt) + 0 = nI (135 + 200 * cnt) := ta 0
      have ta1 : jtextat (nI cnt) + 1 = nI (135 + 200 * cnt + 1) := ta 1
      have ta2 : jtextat (nI cnt) + 2 = nI (135 + 200 * cnt + 2) := ta 2
      refine ⟨M9.1, _, M9.rr0, M9.kk1, by rw [M9.ll1]; exact jin_nI (n := 1) (by omega) (by omega), ?_⟩
      rw [e19, ta0, ta1, ta2]
      refine ⟨fun z => absurd z n14, fun _ => ⟨by rw [M9.ll1]; exact jin_nI (by omega) (by omega), by rw [M9.ll1]; exact jin_nI (by omega) (by omega), by rw [M9.ll1]; exact jin_nI (by omega) (by omega), ?_⟩⟩
      rw [jcl (n := 135 + 200 * cnt) (by omega), jcl (n := 135 + 200 * cnt + 1) (by omega), jcl (n := 135 + 200 * cnt + 2) (by omega), show Int32.toNatClampNeg 1 = 1 from rfl, C9.1, C9.2.1]
      have e1' : ji (jput (jput (jput S9 (x + 95) (135 + 200 * cnt) (nI (ptx b n).2.2.1)) (x + 95) (135 + 200 * cnt + 1) (nI (pops (ptx b n).2.2.2))) (x + 95) (135 + 200 * cnt + 2) (nI (ptx b n).2.2.2.length)) (x + 95) 1 = nI cnt := by
        rw [ji_put, if_neg (by omega), ji_put, if_neg (by omega), ji_put, if_neg (by omega)]; exact e19
      rw [e1', nI_1, nI_pred]
      have oo : ∀ y, y ≠ x + 95 → ji (jput (jput (jput (jput S9 (x + 95) (135 + 200 * cnt) (nI (ptx b n).2.2.1)) (x + 95) (135 + 200 * cnt + 1) (nI (pops (ptx b n).2.2.2))) (x + 95) (135 + 200 * cnt + 2) (nI (ptx b n).2.2.2.length)) (x + 95) 1 (nI (cnt + 1))) y = ji S9 y := fun y hy => by rw [ji_put_ne _ _ _ _ hy, ji_put_ne _ _ _ _ hy, ji_put_ne _ _ _ _ hy, ji_put_ne _ _ _ _ hy]
      have ww : ∀ j, ji (jput (jput (jput (jput S9 (x + 95) (135 + 200 * cnt) (nI (ptx b n).2.2.1)) (x + 95) (135 + 200 * cnt + 1) (nI (pops (ptx b n).2.2.2))) (x + 95) (135 + 200 * cnt + 2) (nI (ptx b n).2.2.2.length)) (x + 95) 1 (nI (cnt + 1))) (x + 95) j = if j = 1 then nI (cnt + 1) else if j = 135 + 200 * cnt + 2 then nI (ptx b n).2.2.2.length else if j = 135 + 200 * cnt + 1 then nI (pops (ptx b n).2.2.2) else if j = 135 + 200 * cnt then nI (ptx b n).2.2.1 else ji S9 (x + 95) j := fun j => by
        simp only [ji_put, true_and]
      have sX : jsame S9 (jput (jput (jput (jput S9 (x + 95) (135 + 200 * cnt) (nI (ptx b n).2.2.1)) (x + 95) (135 + 200 * cnt + 1) (nI (pops (ptx b n).2.2.2))) (x + 95) (135 + 200 * cnt + 2) (nI (ptx b n).2.2.2.length)) (x + 95) 1 (nI (cnt + 1))) := ⟨rfl, rfl, rfl, rfl⟩
      generalize jput (jput (jput (jput S9 (x + 95) (135 + 200 * cnt) (nI (ptx b n).2.2.1)) (x + 95) (135 + 200 * cnt + 1) (nI (pops (ptx b n).2.2.2))) (x + 95) (135 + 200 * cnt + 2) (nI (ptx b n).2.2.2.length)) (x + 95) 1 (nI (cnt + 1)) = SX at oo ww sX ⊢
      have kX : ∀ y, jk SX y = jk S7 y := fun y => by rw [sX.1, g9.1.1, k8]
      have lX : ∀ y, jl SX y = jl S7 y := fun y => by rw [sX.2.1, g9.1.2.1, l8]
      have rX : ∀ y, jr SX y = jr S8 y := fun y => by rw [sX.2.2.1, g9.1.2.2.1]
      have iX : ∀ y, y ≠ x + 1 → y ≠ x + 94 → y ≠ x + 95 → ji SX y = ji S7 y := fun y p q r => by rw [oo y r, g9.2.1 y q r, o8 y p]
      have wv : ∀ j, j ≠ 1 → j < 135 + 200 * cnt → ji SX (x + 95) j = v j := fun j hj hlt' => by
        rw [ww, if_neg hj, if_neg (by omega), if_neg (by omega), if_neg (by omega)]; exact w9 j (by omega)
      refine ⟨rfl, M + 1, by omega, h.more (c2 := cnt + 1) (w := fun j => ji SX (x + 95) j) (by omega) ?_ (fun y hy => ?_) (fun y hy => ?_) (fun y hy hne => ?_) (fun y hy p q r s t => ?_) (fun j hj => ?_) ?_ ?_ (fun j hj => ?_) ?_ (fun j => rfl) ?_ (fun j p q => wv j p (by omega)) ⟨cnt + 1, by omega, ?_, fun t ht => ?_, fun t ht q hq => ?_⟩⟩
      · rw [sX.2.2.2, g9.1.2.2.2, n8, n7, hjn]
      · rw [kX]; exact k7 y (by omega)
      · rw [lX]; exact l7 y (by omega)
      · rw [rX, r8 y hne]; exact r7 y (by omega)
      · rw [iX y p s t]; exact o7 y (by omega) q r
      · rw [oo _ (by omega), g9.2.1 _ (by omega) (by omega), o86, if_neg hj, o7 _ (by omega) (by omega) (by omega)]
      · rw [oo _ (by omega), g9.2.1 _ (by omega) (by omega), o86, if_pos rfl]
      · rw [iX _ (by omega) (by omega) (by omega)]; exact t7
      · rw [oo _ (by omega), g9.2.2.1 j hj, o8 _ (by omega), o7 _ (by omega) (by omega) (by omega)]
      · rw [oo _ (by omega)]; exact g9.2.2.2.1
      · show ji SX (x + 95) 1 = _
        rw [ww, if_pos rfl]
      · show ji SX (x + 95) 1 = _
        rw [ww, if_pos rfl]
      · by_cases et : t = cnt
        · subst et
          refine ⟨M, (ptx b n).2.2.1, (ptx b n).2.2.2.length, pops (ptx b n).2.2.2, fun i => (ptx b n).2.2.2.getD i 0, by omega, by rw [rX, r20, if_pos rfl], hkey, X7.move (fun y p q => kX y) (fun y p q => lX y) (by rw [rX, r8 _ (by omega)]) (fun y p q => iX y (by omega) (by omega) (by omega)), ⟨?_, ?_, ?_, fun i hi => ?_⟩, hWF⟩
          · show ji SX (x + 95) _ = _
            rw [ww, if_neg (by omega), if_neg (by omega), if_neg (by omega), if_pos rfl]
          · show ji SX (x + 95) (136 + 200 * t) = _
            rw [ww, if_neg (by omega), if_neg (by omega), if_pos (by omega)]
          · show ji SX (x + 95) (137 + 200 * t) = _
            rw [ww, if_neg (by omega), if_pos (by omega)]
          · have hc := C9.2.2.2 i hi
            refine ⟨?_, ?_⟩
            · show ji SX (x + 95) (139 + 200 * t + 2 * i) = _
              rw [ww, if_neg (by omega), if_neg (by omega), if_neg (by omega), if_neg (by omega)]; exact hc.1
            · show ji SX (x + 95) (140 + 200 * t + 2 * i) = _
              rw [ww, if_neg (by omega), if_neg (by omega), if_neg (by omega), if_neg (by omega), show 140 + 200 * t + 2 * i = 139 + 200 * t + 2 * i + 1 by omega]; exact hc.2
        · obtain ⟨m, key, nn, ops, cw, hm, b1, b2, b3, b4, b5⟩ := hTx t (by omega)
          refine ⟨m, key, nn, ops, cw, by omega, by rw [rX, r20, if_neg et, r7 _ (by omega)]; exact b1, b2, b3.move (fun y p q => by rw [kX]; exact k7 y (by omega)) (fun y p q => by rw [lX]; exact l7 y (by omega)) (by rw [rX, r8 _ (by omega), r7 _ (by omega)]) (fun y p q => by rw [iX y (by omega) (by omega) (by omega)]; exact o7 y (by omega) (by omega) (by omega)), b4.cong2 b5.2.2.2.2.2.2 (fun j p q => wv j (by omega) (by omega)), b5⟩
      · rw [rX, r20] at hq
        by_cases et : t = cnt
        · rw [if_pos et] at hq
          obtain rfl : x + 115 + 3 * M + 1 = q := Option.some.inj hq
          exact ⟨by rw [kX]; exact X7.1, by omega⟩
        · rw [if_neg et, r7 _ (by omega)] at hq
          obtain ⟨z1, z2⟩ := hz t ht q hq
          exact ⟨by rw [kX, k7 q (by omega)]; exact z1, by omega⟩
    · obtain rfl : cnt = 14 := by omega
      refine ⟨fun _ => ⟨fun _ => ?_, fun z => absurd rfl z⟩, fun z => absurd (by decide) z⟩
      refine ref S7 _ (fun y hy => k7 y (by omega)) (fun y hy => l7 y (by omega)) (r7 _ (by omega)) (fun y hy => o7 y (by omega) (by omega) (by omega)) (fun S9 g9 C9 => ?_)
      have M9 : ML S9 (x + 94) := (hM.1.pt (S' := S7) (fun y hy => k7 y (by omega)) (fun y hy => l7 y (by omega)) (r7 _ (by omega))).same g9.1
      have w9 : ∀ j, j < 2935 → ji S9 (x + 95) j = v j := fun j hj => by
        rw [g9.2.2.2.2 j (by left; exact hj), o7 _ (by omega) (by omega) (by omega)]; exact hM.2 j
      have e19 : ji S9 (x + 95) (Int32.toNatClampNeg 1) = nI 14 := (w9 1 (by omega)).trans ec
      refine ⟨M9.1, _, M9.rr0, M9.kk1, by rw [M9.ll1]; exact jin_nI (n := 1) (by omega) (by omega), ?_⟩
      rw [e19]
      refine ⟨fun _ => ⟨rfl, M + 1, by omega, ?_⟩, fun z => absurd rfl z⟩
      have oo : ∀ y, y < x + 115 + 3 * M → y ≠ x + 60 → y ≠ x + 62 → y ≠ x + 94 → y ≠ x + 95 → ji S9 y = ji S y := fun y hy p q r s => (g9.2.1 y r s).trans (o7 y hy p q)
      refine h.more (c2 := 14) (w := fun j => ji S9 (x + 95) j) (by omega) ?_ (fun y hy => ?_) (fun y hy => ?_) (fun y hy _ => ?_) (fun y hy _ p q r s => oo y (by omega) p q r s) (fun j _ => ?_) ?_ ?_ (fun j hj => ?_) g9.2.2.2.1 (fun j => rfl) ((w9 1 (by omega)).trans ec) (fun j _ hj => w9 j (by omega)) ?_
      · rw [g9.1.2.2.2, n7, hjn]
      · rw [g9.1.1]; exact k7 y (by omega)
      · rw [g9.1.2.1]; exact l7 y (by omega)
      · rw [g9.1.2.2.1]; exact r7 y (by omega)
      · rw [oo _ (by omega) (by omega) (by omega) (by omega) (by omega)]
      · rw [g9.2.1 _ (by omega) (by omega)]; exact e67
      · rw [g9.2.1 _ (by omega) (by omega)]; exact t7
      · rw [g9.2.2.1 j hj, o7 _ (by omega) (by omega) (by omega)]
      · exact hT.move (by omega) (fun y hy => by rw [g9.1.1]; exact k7 y hy) (fun y hy => by rw [g9.1.2.1]; exact l7 y hy) (fun t _ => by rw [g9.1.2.2.1, r7 _ (by omega)]) (fun y p q => by rw [g9.1.2.2.1]; exact r7 y q) (fun y p q _ => oo y q (by omega) (by omega) (by omega) (by omega)) (fun j _ hj => w9 j hj)
  · -- a fault
    have T4 := TBc.tq g4
    refine ⟨by rw [g4.1.1]; exact hX.1, _, by rw [g4.1.2.2.1]; exact r5, T4.1.1, fun _ => ?_, fun z => absurd rfl z⟩
    rw [f2]
    have o5 : ∀ y, y ≠ x + 60 → y ≠ x + 62 → ji (jput S4 (x + 60) 1 0) y = ji S y := fun y p q => by rw [ji_put_ne _ _ _ _ p]; exact g4.2.1 y p q
    have s5 : jsame S (jput S4 (x + 60) 1 0) := g4.1.trans ⟨rfl, rfl, rfl, rfl⟩
    have t5 : ji (jput S4 (x + 60) 1 0) (x + 60) 1 = 0 := ji_put_same _ _ _ _
    generalize jput S4 (x + 60) 1 0 = S5 at o5 s5 t5 ⊢
    have hM5 : MR S5 (x + 94) v := ⟨hM.1.same s5, fun j => by rw [o5 (x + 94 + 1) (by omega) (by omega)]; exact hM.2 j⟩
    have hT5 : RB S5 x n b := ⟨hM5.1, n96, by rw [o5 _ (by omega) (by omega)]; exact a2, fun j hj => ⟨(hb j hj).1, by rw [o5 _ (by omega) (by omega)]; exact (hb j hj).2.2⟩⟩
    refine U_X11_text hM5.k ⟨hM5.k, c_X11_parse hM5 hT5 ec c14 (fun q => absurd (bad.symm.trans q) (by decide)) (fun _ S6 g6 f20 => ⟨fun z => absurd z (by decide), fun _ => ⟨by rw [g6.1.1]; exact hM5.k, ?_⟩⟩)⟩
    rw [f20]
    refine ⟨rfl, M, by omega, h.fault ec c14 (s5.trans g6.1) (fun y p q r s => (g6.2.1 y r s).trans (o5 y p q)) ?_ (fun j hj => ?_) g6.2.2.2.1 (fun j hj => ?_)⟩
    · rw [g6.2.1 _ (by omega) (by omega)]; exact t5
    · rw [g6.2.2.1 j hj, o5 _ (by omega) (by omega)]
    · rw [g6.2.2.2.2 j hj, o5 _ (by omega) (by omega)]
end jQText
