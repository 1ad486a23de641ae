/-! TELL, TRIM, FEED on both sides -/
theorem jby (b : BitVec 32) {k : Nat} (hk : k ≤ 24) : (b >>> k) &&& 255#32 = (b.sshiftRight k) &&& 255#32 := by
  have h8 : ∀ i : Fin 32, 8 ≤ i.val → (255#32).getLsbD i.val = false := by decide +kernel
  apply BitVec.eq_of_getLsbD_eq
  intro i hi
  rw [BitVec.getLsbD_and, BitVec.getLsbD_and]
  by_cases h : 8 ≤ i
  · rw [h8 ⟨i, hi⟩ h, Bool.and_false, Bool.and_false]
  · rw [BitVec.getLsbD_ushiftRight, BitVec.getLsbD_sshiftRight]
    have h1 : k + i < 32 := by omega
    have h2 : ¬ 32 ≤ i := by omega
    simp [h1, h2]
theorem jbyN (y : Int32) : ∃ c, c < 256 ∧ y &&& 255 = nI c := by
  refine ⟨(y &&& 255).toBitVec.toNat, ?_, ?_⟩
  · have e : (y &&& 255).toBitVec = y.toBitVec &&& 255#32 := rfl
    rw [e, BitVec.toNat_and]
    exact Nat.lt_of_le_of_lt Nat.and_le_right (by decide)
  · apply Int32.toBitVec_inj.mp
    have e : (nI (y &&& 255).toBitVec.toNat).toBitVec = BitVec.ofNat 32 (y &&& 255).toBitVec.toNat := rfl
    rw [e, BitVec.ofNat_toNat, BitVec.setWidth_eq]
theorem jby24 (w : Int32) : jushr w 24 &&& 255 = jshr w 24 &&& 255 := Int32.toBitVec_inj.mp (jby w.toBitVec (k := 24) (by omega))
theorem jby16 (w : Int32) : jushr w 16 &&& 255 = jshr w 16 &&& 255 := Int32.toBitVec_inj.mp (jby w.toBitVec (k := 16) (by omega))
theorem jby8 (w : Int32) : jushr w 8 &&& 255 = jshr w 8 &&& 255 := Int32.toBitVec_inj.mp (jby w.toBitVec (k := 8) (by omega))
theorem jby0 (w : Int32) : jushr w 0 &&& 255 = jshr w 0 &&& 255 := Int32.toBitVec_inj.mp (jby w.toBitVec (k := 0) (by omega))
/-- byte e of four -/
def jbt (w : Int32) (e : Nat) : Int32 := jshr w (nI (24 - 8 * e)) &&& 255
theorem fb4_in (f : Nat → Int32) (n : Nat) (w : Int32) {j : Nat} (h1 : n ≤ j) (h2 : j < n + 4) : fb4 f n w j = jbt w (j - n) := by
  have hc : j = n ∨ j = n + 1 ∨ j = n + 2 ∨ j = n + 3 := by omega
  unfold fb4 jbt
  rcases hc with rfl | rfl | rfl | rfl
  · rw [upd_ne _ (by omega), upd_ne _ (by omega), upd_ne _ (by omega), upd_at, jby24, Nat.sub_self]; rfl
  · rw [upd_ne _ (by omega), upd_ne _ (by omega), upd_at, jby16, show n + 1 - n = 1 by omega]; rfl
  · rw [upd_ne _ (by omega), upd_at, jby8, show n + 2 - n = 2 by omega]; rfl
  · rw [upd_at, jby0, show n + 3 - n = 3 by omega]; rfl
theorem fb4_out (f : Nat → Int32) (n : Nat) (w : Int32) {j : Nat} (h : j < n ∨ n + 4 ≤ j) : fb4 f n w j = f j := by
  unfold fb4
  rw [upd_ne _ (by omega), upd_ne _ (by omega), upd_ne _ (by omega), upd_ne _ (by omega)]
section jTape
variable {E : jEnv} {d : Nat} {S S' : jM} {x sz M : Nat} {v : Nat → Int32}
theorem Q_tell {w : Int32} (h : IV S x sz M v) : jFi E mX10_tell (d + 1) 0 0 [.ref x, .int w] S (fun r S1 => jFm E mX11_tell (d + 1) (x + 94) [.int w] S1 (fun r' S2 => r = r' ∧ INV S2 x M)) := by
  obtain ⟨⟨hX, hM, hg⟩, hC, hGL, hjn, hT, hI, hS, hSl, hW, hTp⟩ := id h
  obtain ⟨n, n60, a1, a2, a3⟩ := hW
  have m := hM.1
  refine T_X10_tell ⟨hX.1, ?_⟩
  rw [a1]
  rcases Nat.lt_or_ge n 60 with h60 | h60
  · have e1 : ¬ jwi (nI n) 60 = 0 := by rw [show (60 : Int32) = nI 60 from rfl, jwi_at h60 (by omega)]; decide
    refine ⟨fun c => absurd c e1, fun _ => ⟨_, hC.2.1.2.2.2.2.2.2.2, hC.2.2.2.2.2.2.1.1, by rw [hC.2.2.2.2.2.2.1.2]; exact jin_nI h60 (by omega), ?_⟩⟩
    rw [jcl (by omega), nI_1]
    refine U_X11_tell m.1 ⟨m.1, fun c => ?_, fun _ => ⟨_, m.r33.1, m.r33.2.1, ?_, ?_⟩⟩
    · rw [ji_put_ne _ _ _ _ (by omega), ji_put_ne _ _ _ _ (by omega), a2] at c
      have := nI_inj (by omega) (by omega) (show nI n = nI 60 from c)
      omega
    · rw [ji_put_ne _ _ _ _ (by omega), ji_put_ne _ _ _ _ (by omega), a2]
      show vp_in (nI n) (jl S (x + 113))
      rw [m.r33.2.2]; exact jin_nI h60 (by omega)
    · have ea : ji (jput (jput S (x + 65) n w) x 9 (nI (n + 1))) (x + 94) 34 = nI n := by rw [ji_put_ne _ _ _ _ (by omega), ji_put_ne _ _ _ _ (by omega), a2]
      rw [ea, jcl (by omega), nI_1]
      have s3 : jsame S (jput (jput (jput (jput S (x + 65) n w) x 9 (nI (n + 1))) (x + 113) n w) (x + 94) 34 (nI (n + 1))) := ⟨rfl, rfl, rfl, rfl⟩
      have o : ∀ y, y ≠ x → y ≠ x + 65 → y ≠ x + 94 → y ≠ x + 113 → ji (jput (jput (jput (jput S (x + 65) n w) x 9 (nI (n + 1))) (x + 113) n w) (x + 94) 34 (nI (n + 1))) y = ji S y := fun y p q r s => by rw [ji_put_ne _ _ _ _ r, ji_put_ne _ _ _ _ s, ji_put_ne _ _ _ _ p, ji_put_ne _ _ _ _ q]
      have ox : ∀ j, j ≠ 9 → ji (jput (jput (jput (jput S (x + 65) n w) x 9 (nI (n + 1))) (x + 113) n w) (x + 94) 34 (nI (n + 1))) x j = ji S x j := fun j hj => by rw [ji_put_ne _ _ _ _ (by omega), ji_put_ne _ _ _ _ (by omega), ji_put, if_neg (fun c => hj c.2), ji_put_ne _ _ _ _ (by omega)]
      have om : ∀ j, j ≠ 34 → ji (jput (jput (jput (jput S (x + 65) n w) x 9 (nI (n + 1))) (x + 113) n w) (x + 94) 34 (nI (n + 1))) (x + 94) j = ji S (x + 94) j := fun j hj => by rw [ji_put, if_neg (fun c => hj c.2), ji_put_ne _ _ _ _ (by omega), ji_put_ne _ _ _ _ (by omega), ji_put_ne _ _ _ _ (by omega)]
      refine ⟨rfl, h.rst s3 (fun y hy => o y (by omega) (by omega) (by omega) (by omega)) ⟨hI.keep s3 (ox 2 (by omega)) (om 3 (by omega)) (fun y hy => o y (by omega) (by omega) (by omega) (by omega)), hS.keep (fun y hy => o y (by omega) (by omega) (by omega) (by omega)), hSl.keep (fun y hy => o y (by omega) (by omega) (by omega) (by omega)), ⟨n + 1, by omega, ?_, ?_, fun j hj => ?_⟩, hTp.keep (by rw [o (x + 60) (by omega) (by omega) (by omega) (by omega)]) (om 19 (by omega)) (o _ (by omega) (by omega) (by omega) (by omega)) (o _ (by omega) (by omega) (by omega) (by omega))⟩⟩
      · rw [ji_put_ne _ _ _ _ (by omega), ji_put_ne _ _ _ _ (by omega), ji_put_same]
      · rw [ji_put_same]
      · rw [ji_put_ne _ _ _ _ (show x + 65 ≠ x + 94 by omega), ji_put_ne _ _ _ _ (show x + 65 ≠ x + 113 by omega), ji_put_ne _ _ _ _ (show x + 65 ≠ x by omega), ji_put_ne _ _ _ _ (show x + 113 ≠ x + 94 by omega), ji_put, ji_put, ji_put_ne _ _ _ _ (show x + 113 ≠ x by omega), ji_put_ne _ _ _ _ (show x + 113 ≠ x + 65 by omega)]
        by_cases e : j = n
        · rw [if_pos ⟨rfl, e⟩, if_pos ⟨rfl, e⟩]
        · rw [if_neg (fun c => e c.2), if_neg (fun c => e c.2)]
          exact a3 j (by omega)
  · obtain rfl : n = 60 := by omega
    refine ⟨fun _ => U_X11_tell m.1 ⟨m.1, fun _ => ⟨rfl, h.inv⟩, fun c => absurd a2 c⟩, fun c => absurd (by decide) c⟩
theorem Q_trim {w : Int32} (h : IV S x sz M v) : jFi E mX10_trim (d + 1) 0 0 [.ref x, .int w] S (fun r S1 => jFm E mX11_trim (d + 1) (x + 94) [.int w] S1 (fun r' S2 => r = r' ∧ INV S2 x M)) := by
  obtain ⟨⟨hX, hM, hg⟩, hC, hGL, hjn, hT, hI, hS, hSl, hW, hTp⟩ := id h
  obtain ⟨n, n96, a1, a2, a3⟩ := hTp
  have m := hM.1
  have ej : ∀ z : Int32, jisin (Int32.toInt64 z) 0 (Int32.toInt64 (nI n)) = if z < 0 then 0 else if nI n < z then 0 else 1 := fun z => jisin_int z 0 (nI n)
  refine T_X10_trim ⟨fun c => ?_, fun c => ⟨hX.1, _, hC.2.1.2.2.2.2.1, hC.2.2.2.1.1, ?_⟩⟩
  · refine U_X11_trim m.1 ⟨m.1, ?_⟩
    rw [a2, ej, if_pos c]
    exact ⟨fun _ => ⟨rfl, h.inv⟩, fun c => absurd rfl c⟩
  · rw [a1]
    refine ⟨fun c1 => ?_, fun c1 => ?_⟩
    · refine U_X11_trim m.1 ⟨m.1, ?_⟩
      have ea : ji (jput S (x + 60) 1 w) (x + 94) 19 = nI n := by rw [ji_put_ne _ _ _ _ (by omega), a2]
      rw [ea, ej, if_neg c, if_neg (Int32.not_lt.mpr c1)]
      refine ⟨fun c => absurd c (by decide), fun _ => ⟨rfl, ?_⟩⟩
      obtain ⟨k, hk, rfl⟩ := nI_of c
      have hkn : k ≤ n := (nI_leI (by omega) (by omega)).mp c1
      have s3 : jsame S (jput (jput S (x + 60) 1 (nI k)) (x + 94) 19 (nI k)) := ⟨rfl, rfl, rfl, rfl⟩
      have o : ∀ y, y ≠ x + 60 → y ≠ x + 94 → ji (jput (jput S (x + 60) 1 (nI k)) (x + 94) 19 (nI k)) y = ji S y := fun y p q => by rw [ji_put_ne _ _ _ _ q, ji_put_ne _ _ _ _ p]
      have om : ∀ j, j ≠ 19 → ji (jput (jput S (x + 60) 1 (nI k)) (x + 94) 19 (nI k)) (x + 94) j = ji S (x + 94) j := fun j hj => by rw [ji_put, if_neg (fun c => hj c.2), ji_put_ne _ _ _ _ (by omega)]
      refine h.rst s3 (fun y hy => o y (by omega) (by omega)) ⟨hI.keep s3 (by rw [o x (by omega) (by omega)]) (om 3 (by omega)) (fun y hy => o y (by omega) (by omega)), hS.keep (fun y hy => o y (by omega) (by omega)), hSl.keep (fun y hy => o y (by omega) (by omega)), hW.keep (by rw [o x (by omega) (by omega)]) (om 34 (by omega)) (o _ (by omega) (by omega)) (o _ (by omega) (by omega)), ⟨k, by omega, ?_, ?_, fun j hj => ?_⟩⟩
      · rw [ji_put_ne _ _ _ _ (by omega), ji_put_same]
      · rw [ji_put_same]
      · rw [o _ (by omega) (by omega), o _ (by omega) (by omega)]; exact a3 j (by omega)
    · refine U_X11_trim m.1 ⟨m.1, ?_⟩
      rw [a2, ej, if_neg c, if_pos (Int32.not_le.mp c1)]
      exact ⟨fun _ => ⟨rfl, h.inv⟩, fun c => absurd rfl c⟩
/-- byte e of twelve -/
def jb12 (a b c : Int32) (e : Nat) : Int32 := if e < 4 then jbt a e else if e < 8 then jbt b (e - 4) else jbt c (e - 8)
theorem c_X11_feedB {Q : Int32 → jM → Prop} {n : Nat} {a b c : Int32} (hn : n + 12 ≤ 96) (h : ∀ S', ML S' (x + 94) → ji S' (x + 94) 19 = nI (n + 12) → jsame S S' → (∀ y, y ≠ x + 94 → y ≠ x + 109 → ji S' y = ji S y) → (∀ j, j ≠ 19 → ji S' (x + 94) j = ji S (x + 94) j) → (∀ j, ji S' (x + 109) j = if n ≤ j ∧ j < n + 12 then jb12 a b c (j - n) else ji S (x + 109) j) → Q (nI (n + 12)) S') :
    ∀ (r i : Nat) (S1 : jM), i + r = 12 → ML S1 (x + 94) → ji S1 (x + 94) 19 = nI (n + i) → jsame S S1 → (∀ y, y ≠ x + 94 → y ≠ x + 109 → ji S1 y = ji S y) → (∀ j, j ≠ 19 → ji S1 (x + 94) j = ji S (x + 94) j) → (∀ j, ji S1 (x + 109) j = if n ≤ j ∧ j < n + i then jb12 a b c (j - n) else ji S (x + 109) j) → L_X11_feed_18 E d Q (x + 94) a b c (nI i) S1 := by
  intro r
  induction r with
  | zero =>
    intro i S1 hi hM h19 hs ho hm hj
    obtain rfl : i = 12 := by omega
    refine T_X11_feed_18 ⟨fun _ => ⟨hM.1, ?_⟩, fun c => absurd (by decide) c⟩
    rw [h19]; exact h S1 hM h19 hs ho hm hj
  | succ r ih =>
    intro i S1 hi hM h19 hs ho hm hj
    have r18 := hM.r18
    have inn : vp_in (ji S1 (x + 94) 19) (jl S1 (x + 109)) := by rw [h19, r18.2.2]; exact jin_nI (by omega) (by omega)
    have sh : ∀ i : Fin 12, (24 : Int32) - 8 * jrem (nI i.val) 4 = nI (24 - 8 * (i.val % 4)) := by decide +kernel
    have nxt : ∀ w : Int32, w = jb12 a b c i → L_X11_feed_18 E d Q (x + 94) a b c (nI i + 1) (jput (jput S1 (x + 109) (Int32.toNatClampNeg (ji S1 (x + 94) 19)) w) (x + 94) 19 (ji S1 (x + 94) 19 + 1)) := by
      intro w hw
      rw [nI_1, h19, nI_1, jcl (by omega)]
      refine ih (i + 1) _ (by omega) hM (by rw [ji_put_same, show n + i + 1 = n + (i + 1) by omega]) ⟨hs.1, hs.2.1, hs.2.2.1, hs.2.2.2⟩ (fun y h1 h2 => (ji_put_ne _ _ _ _ h1).trans ((ji_put_ne _ _ _ _ (by omega)).trans (ho y h1 h2))) (fun j hj' => ?_) (fun j => ?_)
      · rw [ji_put, if_neg (fun c => hj' c.2), ji_put_ne _ _ _ _ (by omega)]; exact hm j hj'
      · rw [ji_put_ne _ _ _ _ (by omega), ji_put]
        by_cases e : j = n + i
        · rw [if_pos ⟨rfl, e⟩, if_pos (by omega), hw, e, show n + i - n = i by omega]
        · rw [if_neg (fun c => e c.2), hj j]
          by_cases e2 : n ≤ j ∧ j < n + i
          · rw [if_pos e2, if_pos (by omega)]
          · rw [if_neg e2, if_neg (by omega)]
    refine T_X11_feed_18 ⟨fun c => absurd c (nI_ge (b := 12) (by omega) (by omega)), fun _ => ⟨fun c4 => ⟨fun c8 => ⟨hM.1, _, r18.1, r18.2.1, inn, nxt _ ?_⟩, fun c8 => ⟨hM.1, _, r18.1, r18.2.1, inn, nxt _ ?_⟩⟩, fun c4 => ⟨hM.1, _, r18.1, r18.2.1, inn, nxt _ ?_⟩⟩⟩
    all_goals rw [sh ⟨i, by omega⟩]; unfold jb12 jbt
    · have := (nI_leI (a := 8) (by omega) (by omega)).mp c8
      rw [if_neg (by omega), if_neg (by omega), show i % 4 = i - 8 by omega]
    · have := (nI_leI (a := 4) (by omega) (by omega)).mp c4
      have : ¬ 8 ≤ i := fun q => c8 (nI_le (a := 8) q (by omega))
      rw [if_neg (by omega), if_pos (by omega), show i % 4 = i - 4 by omega]
    · have : ¬ 4 ≤ i := fun q => c4 (nI_le (a := 4) q (by omega))
      rw [if_pos (by omega), show i % 4 = i by omega]
theorem Q_feed {a b c : Int32} (h : IV S x sz M v) : jFi E mX10_feed (d + 2) 0 0 [.ref x, .int a, .int b, .int c] S (fun r S1 => jFm E mX11_feed (d + 2) (x + 94) [.int a, .int b, .int c] S1 (fun r' S2 => r = r' ∧ INV S2 x M)) := by
  obtain ⟨⟨hX, hM, hg⟩, hC, hGL, hjn, hT, hI, hS, hSl, hW, hTp⟩ := id h
  obtain ⟨n, n96, a1, a2, a3⟩ := hTp
  have m := hM.1
  have r5 := hC.2.1.2.2.2.2.1
  have hTL := hC.2.2.2.1
  refine T_X10_feed ⟨hX.1, _, r5, hTL.1, ?_⟩
  rw [a1]
  refine ⟨fun cn => ?_, fun cn => ?_⟩
  · have hn : n ≤ 84 := (nI_leI (b := 84) (by omega) (by omega)).mp cn
    refine c_X8_addNumber hTL a1 (by omega) (fun S1 c1 p1 p2 p3 => ⟨by rw [c1.1.1]; exact hX.1, _, by rw [c1.1.2.2.1]; exact r5, (hTL.same c1.1).1, ?_⟩)
    refine c_X8_addNumber (hTL.same c1.1) p1 (by omega) (fun S2 c2 q1 q2 q3 => ?_)
    have c12 := c1.trans c2
    refine ⟨by rw [c12.1.1]; exact hX.1, _, by rw [c12.1.2.2.1]; exact r5, (hTL.same c12.1).1, ?_⟩
    refine c_X8_addNumber (hTL.same c12.1) q1 (by omega) (fun S3 c3 t1 t2 t3 => ?_)
    have c13 := c12.trans c3
    refine ⟨by rw [c13.1.1]; exact hX.1, _, by rw [c13.1.2.2.1]; exact r5, (hTL.same c13.1).1, ?_⟩
    rw [t1]
    have m3 := m.same c13.1
    have b2 : ji S3 (x + 94) 19 = nI n := by rw [c13.2 _ (by omega)]; exact a2
    refine U_X11_feed m3.1 ⟨m3.1, fun _ => ?_, fun c => ?_⟩
    · refine c_X11_feedB (S := S3) (n := n) (by omega) (fun S4 m4 e1 s4 o4 om ob => ⟨rfl, ?_⟩) 12 0 S3 (by omega) m3 b2 jsame.rfl (fun _ _ _ => rfl) (fun _ _ => rfl) (fun j => by rw [if_neg (by omega)])
      have s : jsame S S4 := c13.1.trans s4
      have o : ∀ y, y ≠ x + 60 → y ≠ x + 61 → y ≠ x + 94 → y ≠ x + 109 → ji S4 y = ji S y := fun y p q r t => (o4 y r t).trans (c13.2 y (by omega))
      have om' : ∀ j, j ≠ 19 → ji S4 (x + 94) j = ji S (x + 94) j := fun j hj => (om j hj).trans (by rw [c13.2 _ (by omega)])
      refine h.rst s (fun y hy => o y (by omega) (by omega) (by omega) (by omega)) ⟨hI.keep s (by rw [o x (by omega) (by omega) (by omega) (by omega)]) (om' 3 (by omega)) (fun y hy => o y (by omega) (by omega) (by omega) (by omega)), hS.keep (fun y hy => o y (by omega) (by omega) (by omega) (by omega)), hSl.keep (fun y hy => o y (by omega) (by omega) (by omega) (by omega)), hW.keep (by rw [o x (by omega) (by omega) (by omega) (by omega)]) (om' 34 (by omega)) (o _ (by omega) (by omega) (by omega) (by omega)) (o _ (by omega) (by omega) (by omega) (by omega)), ⟨n + 12, by omega, ?_, e1, fun j hj => ?_⟩⟩
      · rw [o4 _ (by omega) (by omega)]; exact t1
      · rw [ob j, o4 _ (by omega) (by omega)]
        have e3 : ji S3 (x + 61) j = fb4 (ji S2 (x + 61)) (n + 4 + 4) c j := t3 j
        have e2 : ∀ j, ji S2 (x + 61) j = fb4 (ji S1 (x + 61)) (n + 4) b j := q3
        have e1 : ∀ j, ji S1 (x + 61) j = fb4 (ji S (x + 61)) n a j := p3
        rw [e3]
        by_cases g : n ≤ j
        · rw [if_pos ⟨g, hj⟩]
          unfold jb12
          by_cases g1 : j < n + 4
          · rw [fb4_out _ _ _ (by omega), e2, fb4_out _ _ _ (by omega), e1, fb4_in _ _ _ g g1, if_pos (by omega)]
            obtain ⟨c', hc', ec⟩ := jbyN (jshr a (nI (24 - 8 * (j - n))))
            exact ⟨c', hc', ec, ec⟩
          · rw [if_neg (by omega)]
            by_cases g2 : j < n + 8
            · rw [fb4_out _ _ _ (by omega), e2, fb4_in _ _ _ (by omega) (by omega), if_pos (by omega), show j - (n + 4) = j - n - 4 by omega]
              obtain ⟨c', hc', ec⟩ := jbyN (jshr b (nI (24 - 8 * (j - n - 4))))
              exact ⟨c', hc', ec, ec⟩
            · rw [fb4_in _ _ _ (by omega) (by omega), if_neg (by omega), show j - (n + 4 + 4) = j - n - 8 by omega]
              obtain ⟨c', hc', ec⟩ := jbyN (jshr c (nI (24 - 8 * (j - n - 8))))
              exact ⟨c', hc', ec, ec⟩
        · rw [if_neg (fun q => g q.1), fb4_out _ _ _ (by omega), e2, fb4_out _ _ _ (by omega), e1, fb4_out _ _ _ (by omega), c13.2 _ (by omega)]
          exact a3 j (by omega)
    · rw [b2, show (12 : Int32) = nI 12 from rfl, nI_add] at c
      exact absurd (nI_le (b := 96) (by omega) (by omega)) c
  · have hn : ¬ n ≤ 84 := fun q => cn (nI_le (b := 84) q (by omega))
    refine U_X11_feed m.1 ⟨m.1, fun c => ?_, fun _ => ⟨rfl, h.inv⟩⟩
    rw [a2, show (12 : Int32) = nI 12 from rfl, nI_add] at c
    have := (nI_leI (b := 96) (by omega) (by omega)).mp c
    omega
end jTape
