section
/-! EVERY PAIR OF CALLS keeps the invariant, in the law's form -/
def jPq (E : jEnv) (M M' : jMd) (mc ms x : Nat) (As : List Value) (S : jM) (J : jM → Prop) : Prop := ∃ d, jRok room_1 d ∧ jFi E M d mc ms (.ref x :: As) S (fun _ S1 => jk S1 (x + 94) = 11 ∧ ∃ d', jRok room_1 d' ∧ jFi E M' d' 0 0 (.ref (x + 94) :: As) S1 (fun _ S2 => J S2))
theorem jPr.q {E : jEnv} {M M' : jMd} {mc ms x : Nat} {As : List Value} {S : jM} {J : jM → Prop} (h : jPr E M M' mc ms x As S J) : jPq E M M' mc ms x As S J := by
  obtain ⟨d, h1, h2⟩ := h
  refine ⟨d, h1, jFi_mono h2 (fun r S1 h3 => ⟨h3.1, ?_⟩)⟩
  obtain ⟨d2, h4, h5⟩ := h3.2
  exact ⟨d2, h4, jFi_mono h5 (fun r' S2 h6 => h6.2)⟩
section jVops
variable {E : jEnv} {S : jM} {x sz M : Nat} {v : Nat → Int32}
theorem v_master {a b c e : Int32} (h : IV S x sz M v) : jPr E mX10_master mX11_master 0 0 x [.int a, .int b, .int c, .int e] S (fun S2 => INV S2 x M) := ⟨_, jok _ rfl, jFi_mono (P_master h.1 (d := 0)) (fun r S1 h1 => ⟨h1.1, _, jok _ rfl, jFi_mono h1.2 (fun r' S2 h2 => h.po h2)⟩)⟩
theorem v_told {a b : Int32} (h : IV S x sz M v) : jPr E mX10_told mX11_told 0 0 x [.int a, .int b] S (fun S2 => INV S2 x M) := ⟨_, jok _ rfl, jFi_mono (Q_told h (d := 0)) (fun r S1 h1 => ⟨h1.1, _, jok _ rfl, h1.2⟩)⟩
theorem v_as {a b : Int32} (h : IV S x sz M v) : jPr E mX10_as mX11_as 0 0 x [.int a, .int b] S (fun S2 => INV S2 x M) := ⟨_, jok _ rfl, jFi_mono (P_as h.1 (d := 0)) (fun r S1 h1 => ⟨h1.1, _, jok _ rfl, jFi_mono h1.2 (fun r' S2 h2 => h.po h2)⟩)⟩
theorem v_turns {a b : Int32} (h : IV S x sz M v) : jPr E mX10_turns mX11_turns 0 0 x [.int a, .int b] S (fun S2 => INV S2 x M) := ⟨_, jok _ rfl, jFi_mono (P_turns h.1 (d := 0)) (fun r S1 h1 => ⟨h1.1, _, jok _ rfl, jFi_mono h1.2 (fun r' S2 h2 => h.po h2)⟩)⟩
theorem v_set {a b c : Int32} (h : IV S x sz M v) : jPr E mX10_set mX11_set 0 0 x [.int a, .int b, .int c] S (fun S2 => INV S2 x M) := ⟨_, jok _ rfl, jFi_mono (P_set h.1 (d := 0)) (fun r S1 h1 => ⟨h1.1, _, jok _ rfl, jFi_mono h1.2 (fun r' S2 h2 => h.po h2)⟩)⟩
theorem v_bars {a b c : Int32} (h : IV S x sz M v) : jPr E mX10_bars mX11_bars 0 0 x [.int a, .int b, .int c] S (fun S2 => INV S2 x M) := ⟨_, jok _ rfl, jFi_mono (P_bars h.1 (d := 0)) (fun r S1 h1 => ⟨h1.1, _, jok _ rfl, jFi_mono h1.2 (fun r' S2 h2 => h.po h2)⟩)⟩
theorem v_road {a b c : Int32} (h : IV S x sz M v) : jPr E mX10_road mX11_road 0 0 x [.int a, .int b, .int c] S (fun S2 => INV S2 x M) := ⟨_, jok _ rfl, jFi_mono (P_road h.1 (d := 0)) (fun r S1 h1 => ⟨h1.1, _, jok _ rfl, jFi_mono h1.2 (fun r' S2 h2 => h.po h2)⟩)⟩
theorem v_far {a b : Int32} (h : IV S x sz M v) : jPr E mX10_far mX11_far 0 0 x [.int a, .int b] S (fun S2 => INV S2 x M) := ⟨_, jok _ rfl, jFi_mono (P_far h.1 (d := 0)) (fun r S1 h1 => ⟨h1.1, _, jok _ rfl, jFi_mono h1.2 (fun r' S2 h2 => h.po h2)⟩)⟩
theorem v_deal {a : Int32} (h : IV S x sz M v) : jPr E mX10_deal mX11_deal 0 0 x [.int a] S (fun S2 => INV S2 x M) := ⟨_, jok _ rfl, jFi_mono (P_deal h.1 (d := 0)) (fun r S1 h1 => ⟨h1.1, _, jok _ rfl, jFi_mono h1.2 (fun r' S2 h2 => h.po h2)⟩)⟩
theorem v_seed {a : Int32} (h : IV S x sz M v) : jPr E mX10_seed mX11_seed 0 0 x [.int a] S (fun S2 => INV S2 x M) := ⟨_, jok _ rfl, jFi_mono (P_seed h.1 (d := 0)) (fun r S1 h1 => ⟨h1.1, _, jok _ rfl, jFi_mono h1.2 (fun r' S2 h2 => h.po h2)⟩)⟩
theorem v_apprentice {a : Int32} (h : IV S x sz M v) : jPr E mX10_apprentice mX11_apprentice 0 0 x [.int a] S (fun S2 => INV S2 x M) := ⟨_, jok _ rfl, jFi_mono (P_apprentice h.1 (d := 0)) (fun r S1 h1 => ⟨h1.1, _, jok _ rfl, jFi_mono h1.2 (fun r' S2 h2 => h.po h2)⟩)⟩
theorem v_has {a b : Int32} (h : IV S x sz M v) : jPr E mX10_has mX11_has 0 0 x [.int a, .int b] S (fun S2 => INV S2 x M) := ⟨_, jok _ rfl, jFi_mono (P_has h.1 (d := 0)) (fun r S1 h1 => ⟨h1.1, _, jok _ rfl, jFi_mono h1.2 (fun r' S2 h2 => h.po h2)⟩)⟩
theorem v_knows {a b : Int32} (h : IV S x sz M v) : jPr E mX10_knows mX11_knows 0 0 x [.int a, .int b] S (fun S2 => INV S2 x M) := ⟨_, jok _ rfl, jFi_mono (P_knows h.1 (d := 0)) (fun r S1 h1 => ⟨h1.1, _, jok _ rfl, jFi_mono h1.2 (fun r' S2 h2 => h.po h2)⟩)⟩
theorem v_go {a : Int32} (h : IV S x sz M v) : jPr E mX10_go mX11_go 0 0 x [.int a] S (fun S2 => INV S2 x M) := ⟨_, jok _ rfl, jFi_mono (P_go h.1 (d := 0)) (fun r S1 h1 => ⟨h1.1, _, jok _ rfl, jFi_mono h1.2 (fun r' S2 h2 => h.po h2)⟩)⟩
theorem v_learn {a : Int32} (h : IV S x sz M v) : jPr E mX10_learn mX11_learn 0 0 x [.int a] S (fun S2 => INV S2 x M) := ⟨_, jok _ rfl, jFi_mono (Q_learn h (d := 0)) (fun r S1 h1 => ⟨h1.1, _, jok _ rfl, h1.2⟩)⟩
theorem v_use {a : Int32} (h : IV S x sz M v) : jPr E mX10_use mX11_use 0 0 x [.int a] S (fun S2 => INV S2 x M) := ⟨_, jok _ rfl, jFi_mono (P_use h.1 (d := 0)) (fun r S1 h1 => ⟨h1.1, _, jok _ rfl, jFi_mono h1.2 (fun r' S2 h2 => h.po h2)⟩)⟩
theorem v_rests {a : Int32} (h : IV S x sz M v) : jPr E mX10_rests mX11_rests 0 0 x [.int a] S (fun S2 => INV S2 x M) := ⟨_, jok _ rfl, jFi_mono (P_rests h.1 (d := 0)) (fun r S1 h1 => ⟨h1.1, _, jok _ rfl, jFi_mono h1.2 (fun r' S2 h2 => h.po h2)⟩)⟩
theorem v_wants {a : Int32} (h : IV S x sz M v) : jPr E mX10_wants mX11_wants 0 0 x [.int a] S (fun S2 => INV S2 x M) := ⟨_, jok _ rfl, jFi_mono (P_wants h.1 (d := 0)) (fun r S1 h1 => ⟨h1.1, _, jok _ rfl, jFi_mono h1.2 (fun r' S2 h2 => h.po h2)⟩)⟩
theorem v_clear (h : IV S x sz M v) : jPr E mX10_clear mX11_clear 0 0 x [] S (fun S2 => INV S2 x M) := ⟨_, jok _ rfl, jFi_mono (P_clear h.1 (d := 0)) (fun r S1 h1 => ⟨h1.1, _, jok _ rfl, jFi_mono h1.2 (fun r' S2 h2 => h.po h2)⟩)⟩
theorem v_made (h : IV S x sz M v) : jPr E mX10_made mX11_made 0 0 x [] S (fun S2 => INV S2 x M) := ⟨_, jok _ rfl, jFi_mono (Q_made h (d := 0)) (fun r S1 h1 => ⟨h1.1, _, jok _ rfl, h1.2⟩)⟩
theorem v_soonest {a : Int32} (h : IV S x sz M v) : jPq E mX10_soonest mX11_soonest 0 0 x [.int a] S (fun S2 => INV S2 x M) := ⟨_, jok _ rfl, jFi_mono (Q_soonest h (d := 0)) (fun r S1 h1 => ⟨h1.1, _, jok _ rfl, h1.2⟩)⟩
theorem v_together {a : Int32} (h : IV S x sz M v) : jPr E mX10_together mX11_together 0 0 x [.int a] S (fun S2 => INV S2 x M) := ⟨_, jok _ rfl, jFi_mono (Q_together h (d := 0)) (fun r S1 h1 => ⟨h1.1, _, jok _ rfl, h1.2⟩)⟩
theorem v_never (h : IV S x sz M v) : jPr E mX10_never mX11_never 0 0 x [] S (fun S2 => INV S2 x M) := ⟨_, jok _ rfl, jFi_mono (Q_never h (d := 0)) (fun r S1 h1 => ⟨h1.1, _, jok _ rfl, h1.2⟩)⟩
theorem v_last {a : Int32} (h : IV S x sz M v) : jPr E mX10_last mX11_last 0 0 x [.int a] S (fun S2 => INV S2 x M) := ⟨_, jok _ rfl, jFi_mono (P_last h.1 (d := 0)) (fun r S1 h1 => ⟨h1.1, _, jok _ rfl, jFi_mono h1.2 (fun r' S2 h2 => h.po h2)⟩)⟩
theorem v_years {a : Int32} (h : IV S x sz M v) : jPr E mX10_years mX11_years 0 0 x [.int a] S (fun S2 => INV S2 x M) := ⟨_, jok _ rfl, jFi_mono (P_years h.1 (d := 0)) (fun r S1 h1 => ⟨h1.1, _, jok _ rfl, jFi_mono h1.2 (fun r' S2 h2 => h.po h2)⟩)⟩
theorem v_gone {a : Int32} (h : IV S x sz M v) : jPr E mX10_gone mX11_gone 0 0 x [.int a] S (fun S2 => INV S2 x M) := ⟨_, jok _ rfl, jFi_mono (P_gone h.1 h.2.2.1 h.2.1.2.1.2.2.1 (d := 0)) (fun r S1 h1 => ⟨h1.1, _, jok _ rfl, jFi_mono h1.2 (fun r' S2 h2 => h.po h2)⟩)⟩
theorem v_fresh (h : IV S x sz M v) : jPr E mX10_fresh mX11_fresh 0 0 x [] S (fun S2 => INV S2 x M) := ⟨_, jok _ rfl, jFi_mono (P_fresh h.1 (d := 0)) (fun r S1 h1 => ⟨h1.1, _, jok _ rfl, jFi_mono h1.2 (fun r' S2 h2 => h.po h2)⟩)⟩
theorem v_cut {a b : Int32} (h : IV S x sz M v) : jPr E mX10_cut mX11_cut 0 0 x [.int a, .int b] S (fun S2 => INV S2 x M) := ⟨_, jok _ rfl, jFi_mono (Q_cut h (d := 0)) (fun r S1 h1 => ⟨h1.1, _, jok _ rfl, h1.2⟩)⟩
theorem v_fame {a : Int32} (h : IV S x sz M v) : jPr E mX10_fame mX11_fame 0 0 x [.int a] S (fun S2 => INV S2 x M) := ⟨_, jok _ rfl, jFi_mono (Q_fame h (d := 0)) (fun r S1 h1 => ⟨h1.1, _, jok _ rfl, h1.2⟩)⟩
theorem v_fine (h : IV S x sz M v) : jPr E mX10_fine mX11_fine 0 0 x [] S (fun S2 => INV S2 x M) := ⟨_, jok _ rfl, jFi_mono (Q_fine h (d := 0)) (fun r S1 h1 => ⟨h1.1, _, jok _ rfl, h1.2⟩)⟩
theorem v_feed {a b c : Int32} (h : IV S x sz M v) : jPr E mX10_feed mX11_feed 0 0 x [.int a, .int b, .int c] S (fun S2 => INV S2 x M) := ⟨_, jok _ rfl, jFi_mono (Q_feed h (d := 0)) (fun r S1 h1 => ⟨h1.1, _, jok _ rfl, h1.2⟩)⟩
theorem v_trim {a : Int32} (h : IV S x sz M v) : jPr E mX10_trim mX11_trim 0 0 x [.int a] S (fun S2 => INV S2 x M) := ⟨_, jok _ rfl, jFi_mono (Q_trim h (d := 0)) (fun r S1 h1 => ⟨h1.1, _, jok _ rfl, h1.2⟩)⟩
theorem v_text (h : IV S x sz M v) : jPr E mX10_text mX11_text 3 196 x [] S (fun S2 => ∃ M', M' ≤ M + 1 ∧ INV S2 x M') := ⟨_, jok _ rfl, jFi_mono (Q_text h (d := 0)) (fun r S1 h1 => ⟨h1.1, _, jok _ rfl, h1.2⟩)⟩
theorem v_textTold {a b : Int32} (h : IV S x sz M v) : jPr E mX10_textTold mX11_textTold 0 0 x [.int a, .int b] S (fun S2 => INV S2 x M) := ⟨_, jok _ rfl, jFi_mono (Q_textTold h (d := 0)) (fun r S1 h1 => ⟨h1.1, _, jok _ rfl, h1.2⟩)⟩
theorem v_why {a : Int32} (h : IV S x sz M v) : jPr E mX10_why mX11_why 0 0 x [.int a] S (fun S2 => INV S2 x M) := ⟨_, jok _ rfl, jFi_mono (Q_why h (d := 0)) (fun r S1 h1 => ⟨h1.1, _, jok _ rfl, h1.2⟩)⟩
theorem v_sheet {a b c : Int32} (h : IV S x sz M v) : jPr E mX10_sheet mX11_sheet 0 0 x [.int a, .int b, .int c] S (fun S2 => INV S2 x M) := ⟨_, jok _ rfl, jFi_mono (Q_sheet h (d := 0)) (fun r S1 h1 => ⟨h1.1, _, jok _ rfl, h1.2⟩)⟩
theorem v_mark {a b c : Int32} (h : IV S x sz M v) : jPr E mX10_mark mX11_mark 0 0 x [.int a, .int b, .int c] S (fun S2 => INV S2 x M) := ⟨_, jok _ rfl, jFi_mono (Q_mark h (d := 0)) (fun r S1 h1 => ⟨h1.1, _, jok _ rfl, h1.2⟩)⟩
theorem v_pour {a : Int32} (h : IV S x sz M v) : jPr E mX10_pour mX11_pour 0 0 x [.int a] S (fun S2 => INV S2 x M) := ⟨_, jok _ rfl, jFi_mono (Q_pour h (d := 0)) (fun r S1 h1 => ⟨h1.1, _, jok _ rfl, h1.2⟩)⟩
theorem v_reads {a : Int32} (h : IV S x sz M v) : jPr E mX10_reads mX11_reads 0 0 x [.int a] S (fun S2 => INV S2 x M) := ⟨_, jok _ rfl, jFi_mono (Q_reads h (d := 0)) (fun r S1 h1 => ⟨h1.1, _, jok _ rfl, h1.2⟩)⟩
theorem v_copy {a b c e f : Int32} (h : IV S x sz M v) : jPr E mX10_copy mX11_copy 0 0 x [.int a, .int b, .int c, .int e, .int f] S (fun S2 => INV S2 x M) := ⟨_, jok _ rfl, jFi_mono (Q_copy h (d := 0)) (fun r S1 h1 => ⟨h1.1, _, jok _ rfl, h1.2⟩)⟩
theorem v_lay {a b c : Int32} (h : IV S x sz M v) : jPr E mX10_lay mX11_lay 0 0 x [.int a, .int b, .int c] S (fun S2 => INV S2 x M) := ⟨_, jok _ rfl, jFi_mono (Q_lay h (d := 0)) (fun r S1 h1 => ⟨h1.1, _, jok _ rfl, h1.2⟩)⟩
theorem v_ask {a b : Int32} (h : IV S x sz M v) : jPr E mX10_ask mX11_ask 0 0 x [.int a, .int b] S (fun S2 => INV S2 x M) := ⟨_, jok _ rfl, jFi_mono (Q_ask h (d := 0)) (fun r S1 h1 => ⟨h1.1, _, jok _ rfl, h1.2⟩)⟩
theorem v_item {a b : Int32} (h : IV S x sz M v) : jPr E mX10_item mX11_item 0 0 x [.int a, .int b] S (fun S2 => INV S2 x M) := ⟨_, jok _ rfl, jFi_mono (Q_item h (d := 0)) (fun r S1 h1 => ⟨h1.1, _, jok _ rfl, h1.2⟩)⟩
theorem v_rest {a b : Int32} (h : IV S x sz M v) : jPr E mX10_rest mX11_rest 0 0 x [.int a, .int b] S (fun S2 => INV S2 x M) := ⟨_, jok _ rfl, jFi_mono (Q_rest h (d := 0)) (fun r S1 h1 => ⟨h1.1, _, jok _ rfl, h1.2⟩)⟩
theorem v_tell {a : Int32} (h : IV S x sz M v) : jPr E mX10_tell mX11_tell 0 0 x [.int a] S (fun S2 => INV S2 x M) := ⟨_, jok _ rfl, jFi_mono (Q_tell h (d := 0)) (fun r S1 h1 => ⟨h1.1, _, jok _ rfl, h1.2⟩)⟩
theorem v_check {a : Int32} (h : IV S x sz M v) : jPr E mX10_check mX11_check 0 0 x [.int a] S (fun S2 => INV S2 x M) := ⟨_, jok _ rfl, jFi_mono (Q_check h (d := 0)) (fun r S1 h1 => ⟨h1.1, _, jok _ rfl, h1.2⟩)⟩
theorem v_keep (h : IV S x sz M v) : jPr E mX10_keep mX11_keep 0 0 x [] S (fun S2 => INV S2 x M) := ⟨_, jok _ rfl, jFi_mono (Q_keep h (d := 0)) (fun r S1 h1 => ⟨h1.1, _, jok _ rfl, h1.2⟩)⟩
theorem v_back (h : IV S x sz M v) : jPr E mX10_back mX11_back 0 0 x [] S (fun S2 => INV S2 x M) := ⟨_, jok _ rfl, jFi_mono (Q_back h (d := 0)) (fun r S1 h1 => ⟨h1.1, _, jok _ rfl, h1.2⟩)⟩
theorem v_count {a : Int32} (h : IV S x sz M v) : jPr E mX10_count mX11_count 0 0 x [.int a] S (fun S2 => INV S2 x M) := ⟨_, jok _ rfl, jFi_mono (P_count h.1 h.2.1.2.1.2.2.2.2.1 h.2.1.2.2.2.1.1 (by obtain ⟨w, -, a, b, -⟩ := h.2.2.2.2.2.2.2.2.1; exact a.trans b.symm) (by obtain ⟨w, -, a, b, -⟩ := h.2.2.2.2.2.2.2.2.2; exact a.trans b.symm) (d := 0)) (fun r S1 h1 => ⟨h1.1, _, jok _ rfl, jFi_mono h1.2 (fun r' S2 h2 => h.po h2)⟩)⟩
end jVops
end
section
/-! THE LAW'S LOOP over all calls -/
section jLoop
variable {E : jEnv} {nm : String} {xs : Nat → Int32} {b x L : Nat}
theorem law_pr {M M' : jMd} {mc ms : Nat} {As : List Value} {S : jM} {J P : jM → Prop} {R : Prop} (h : jPr E M M' mc ms x As S J) (hR : R) (hP : ∀ S2, J S2 → P S2) : ∃ d, jRok room_1 d ∧ jFi E M d mc ms (.ref x :: As) S (fun r S1 => jk S1 (x + 94) = 11 ∧ R ∧ ∃ d, jRok room_1 d ∧ jFi E M' d 0 0 (.ref (x + 94) :: As) S1 (fun r' S2 => (r = r' → P S2) ∧ (¬ r = r' → False))) := by
  obtain ⟨d, hd, h⟩ := h
  refine ⟨d, hd, jFi_mono h (fun r S1 h1 => ?_)⟩
  obtain ⟨k1, d', hd', h2⟩ := h1
  exact ⟨k1, hR, d', hd', jFi_mono h2 (fun r' S2 h3 => ⟨fun _ => hP S2 h3.2, fun c => c h3.1⟩)⟩
theorem law_pq {M M' : jMd} {mc ms : Nat} {As : List Value} {S : jM} {J P : jM → Prop} {R : Prop} (h : jPq E M M' mc ms x As S J) (hR : R) (hP : ∀ S2, J S2 → P S2) : ∃ d, jRok room_1 d ∧ jFi E M d mc ms (.ref x :: As) S (fun _ S1 => jk S1 (x + 94) = 11 ∧ R ∧ ∃ d, jRok room_1 d ∧ jFi E M' d 0 0 (.ref (x + 94) :: As) S1 (fun _ S2 => P S2)) := by
  obtain ⟨d, hd, h⟩ := h
  refine ⟨d, hd, jFi_mono h (fun r S1 h1 => ?_)⟩
  obtain ⟨k1, d', hd', h2⟩ := h1
  exact ⟨k1, hR, d', hd', jFi_mono h2 (fun r' S2 h3 => hP S2 h3)⟩
theorem law_past {i : Nat} (hi : i < 1000) (h : L < i + 6) : nI L - 6 < nI i := by
  by_cases q : 6 ≤ L
  · rw [show (6 : Int32) = nI 6 from rfl, nI_sub q]; exact nI_lt (by omega) (by omega)
  · refine Int32.lt_of_lt_of_le ?_ (nI_pos' (n := i) (by omega))
    rcases (show L = 0 ∨ L = 1 ∨ L = 2 ∨ L = 3 ∨ L = 4 ∨ L = 5 by omega) with rfl | rfl | rfl | rfl | rfl | rfl <;> decide
theorem law_in {i t : Nat} (hL : L ≤ 384) (h : i + t < L) : vp_in (nI i + nI t) L := by
  rw [nI_add]; exact jin_nI h (by omega)
set_option maxHeartbeats 4000000 in
set_option maxRecDepth 100000 in
theorem law_loop (hL : L ≤ 384) : ∀ (n j : Nat) (S : jM) (M c k : Nat), L < 6 * j + 6 * n + 6 → 6 * j ≤ 384 → INV S x M → c ≤ 115 + 3 * j → k ≤ 11534 + 196 * j → L_L_law_18 E nm L xs b x (x + 94) (nI (6 * j)) S c k
  | 0, j, S, M, c, k, hn, hj, hI, hc, hk => T_L_law_18 ⟨fun _ => ⟨by omega, by omega⟩, fun e => absurd (law_past (by omega) (by omega)) e⟩
  | n + 1, j, S, M, c, k, hn, hj, hI, hc, hk => by
    by_cases q : L < 6 * j + 6
    · exact T_L_law_18 ⟨fun _ => ⟨by omega, by omega⟩, fun e => absurd (law_past (by omega) q) e⟩
    have q : 6 * j + 6 ≤ L := Nat.le_of_not_lt q
    have nx : ∀ (S2 : jM) (M2 c2 k2 : Nat), INV S2 x M2 → c2 ≤ 115 + 3 * (j + 1) → k2 ≤ 11534 + 196 * (j + 1) → L_L_law_18 E nm L xs b x (x + 94) (nI (6 * j) + 6) S2 c2 k2 := by
      intro S2 M2 c2 k2 h2 hc2 hk2
      rw [show (6 : Int32) = nI 6 from rfl, nI_add, show 6 * j + 6 = 6 * (j + 1) by omega]
      exact law_loop hL n (j + 1) S2 M2 c2 k2 (by omega) (by omega) h2 hc2 hk2
    obtain ⟨sz, v, h⟩ := hI
    have w0 : vp_in (nI (6 * j)) L := jin_nI (by omega) (by omega)
    have w1 : vp_in (nI (6 * j) + 1) L := law_in (t := 1) hL (by omega)
    have w2 : vp_in (nI (6 * j) + 2) L := law_in (t := 2) hL (by omega)
    have w3 : vp_in (nI (6 * j) + 3) L := law_in (t := 3) hL (by omega)
    have w4 : vp_in (nI (6 * j) + 4) L := law_in (t := 4) hL (by omega)
    have w5 : vp_in (nI (6 * j) + 5) L := law_in (t := 5) hL (by omega)
    have rm : c + 0 ≤ 600000 ∧ k + 0 ≤ 7302250 := ⟨by omega, by omega⟩
    have rt : c + 3 ≤ 600000 ∧ k + 196 ≤ 7302250 := ⟨by omega, by omega⟩
    exact T_L_law_18 ⟨fun _ => ⟨by omega, by omega⟩, fun _ => ⟨w0, fun _ => ⟨w1, w2, w3, w4, h.2.1.1, rm, law_pq (v_master h).q rm (fun S2 h2 => nx S2 M _ _ h2 (by omega) (by omega))⟩, fun _ => ⟨w1, w2, h.2.1.1, rm, law_pq (v_told h).q rm (fun S2 h2 => nx S2 M _ _ h2 (by omega) (by omega))⟩, fun _ => ⟨w1, w2, h.2.1.1, rm, law_pr (v_as h) rm (fun S2 h2 => nx S2 M _ _ h2 (by omega) (by omega))⟩, fun _ => ⟨w1, w2, h.2.1.1, rm, law_pq (v_turns h).q rm (fun S2 h2 => nx S2 M _ _ h2 (by omega) (by omega))⟩, fun _ => ⟨w1, w2, w3, h.2.1.1, rm, law_pq (v_set h).q rm (fun S2 h2 => nx S2 M _ _ h2 (by omega) (by omega))⟩, fun _ => ⟨w1, w2, w3, h.2.1.1, rm, law_pq (v_bars h).q rm (fun S2 h2 => nx S2 M _ _ h2 (by omega) (by omega))⟩, fun _ => ⟨w1, w2, w3, h.2.1.1, rm, law_pq (v_road h).q rm (fun S2 h2 => nx S2 M _ _ h2 (by omega) (by omega))⟩, fun _ => ⟨w1, w2, h.2.1.1, rm, law_pq (v_far h).q rm (fun S2 h2 => nx S2 M _ _ h2 (by omega) (by omega))⟩, fun _ => ⟨w1, h.2.1.1, rm, law_pq (v_deal h).q rm (fun S2 h2 => nx S2 M _ _ h2 (by omega) (by omega))⟩, fun _ => ⟨w1, h.2.1.1, rm, law_pq (v_seed h).q rm (fun S2 h2 => nx S2 M _ _ h2 (by omega) (by omega))⟩, fun _ => ⟨w1, h.2.1.1, rm, law_pq (v_apprentice h).q rm (fun S2 h2 => nx S2 M _ _ h2 (by omega) (by omega))⟩, fun _ => ⟨w1, w2, h.2.1.1, rm, law_pq (v_has h).q rm (fun S2 h2 => nx S2 M _ _ h2 (by omega) (by omega))⟩, fun _ => ⟨w1, w2, h.2.1.1, rm, law_pq (v_knows h).q rm (fun S2 h2 => nx S2 M _ _ h2 (by omega) (by omega))⟩, fun _ => ⟨w1, h.2.1.1, rm, law_pq (v_go h).q rm (fun S2 h2 => nx S2 M _ _ h2 (by omega) (by omega))⟩, fun _ => ⟨w1, h.2.1.1, rm, law_pq (v_learn h).q rm (fun S2 h2 => nx S2 M _ _ h2 (by omega) (by omega))⟩, fun _ => ⟨w1, h.2.1.1, rm, law_pq (v_use h).q rm (fun S2 h2 => nx S2 M _ _ h2 (by omega) (by omega))⟩, fun _ => ⟨w1, h.2.1.1, rm, law_pq (v_rests h).q rm (fun S2 h2 => nx S2 M _ _ h2 (by omega) (by omega))⟩, fun _ => ⟨w1, h.2.1.1, rm, law_pq (v_wants h).q rm (fun S2 h2 => nx S2 M _ _ h2 (by omega) (by omega))⟩, fun _ => ⟨h.2.1.1, rm, law_pq (v_clear h).q rm (fun S2 h2 => nx S2 M _ _ h2 (by omega) (by omega))⟩, fun _ => ⟨h.2.1.1, rm, law_pq (v_made h).q rm (fun S2 h2 => nx S2 M _ _ h2 (by omega) (by omega))⟩, fun _ => ⟨w1, h.2.1.1, rm, law_pq (v_soonest h) rm (fun S2 h2 => nx S2 M _ _ h2 (by omega) (by omega))⟩, fun _ => ⟨w1, h.2.1.1, rm, law_pq (v_together h).q rm (fun S2 h2 => nx S2 M _ _ h2 (by omega) (by omega))⟩, fun _ => ⟨h.2.1.1, rm, law_pq (v_never h).q rm (fun S2 h2 => nx S2 M _ _ h2 (by omega) (by omega))⟩, fun _ => ⟨w1, h.2.1.1, rm, law_pq (v_last h).q rm (fun S2 h2 => nx S2 M _ _ h2 (by omega) (by omega))⟩, fun _ => ⟨w1, h.2.1.1, rm, law_pq (v_years h).q rm (fun S2 h2 => nx S2 M _ _ h2 (by omega) (by omega))⟩, fun _ => ⟨w1, h.2.1.1, rm, law_pq (v_gone h).q rm (fun S2 h2 => nx S2 M _ _ h2 (by omega) (by omega))⟩, fun _ => ⟨h.2.1.1, rm, law_pq (v_fresh h).q rm (fun S2 h2 => nx S2 M _ _ h2 (by omega) (by omega))⟩, fun _ => ⟨w1, w2, h.2.1.1, rm, law_pq (v_cut h).q rm (fun S2 h2 => nx S2 M _ _ h2 (by omega) (by omega))⟩, fun _ => ⟨w1, h.2.1.1, rm, law_pq (v_fame h).q rm (fun S2 h2 => nx S2 M _ _ h2 (by omega) (by omega))⟩, fun _ => ⟨h.2.1.1, rm, law_pq (v_fine h).q rm (fun S2 h2 => nx S2 M _ _ h2 (by omega) (by omega))⟩, fun _ => ⟨w1, w2, w3, h.2.1.1, rm, law_pq (v_feed h).q rm (fun S2 h2 => nx S2 M _ _ h2 (by omega) (by omega))⟩, fun _ => ⟨w1, h.2.1.1, rm, law_pq (v_trim h).q rm (fun S2 h2 => nx S2 M _ _ h2 (by omega) (by omega))⟩, fun _ => ⟨h.2.1.1, rt, law_pq (v_text h).q rt (fun S2 ⟨M2, _, h2⟩ => nx S2 M2 _ _ h2 (by omega) (by omega))⟩, fun _ => ⟨w1, w2, h.2.1.1, rm, law_pq (v_textTold h).q rm (fun S2 h2 => nx S2 M _ _ h2 (by omega) (by omega))⟩, fun _ => ⟨w1, h.2.1.1, rm, law_pq (v_why h).q rm (fun S2 h2 => nx S2 M _ _ h2 (by omega) (by omega))⟩, fun _ => ⟨w1, w2, w3, h.2.1.1, rm, law_pq (v_sheet h).q rm (fun S2 h2 => nx S2 M _ _ h2 (by omega) (by omega))⟩, fun _ => ⟨w1, w2, w3, h.2.1.1, rm, law_pq (v_mark h).q rm (fun S2 h2 => nx S2 M _ _ h2 (by omega) (by omega))⟩, fun _ => ⟨w1, h.2.1.1, rm, law_pq (v_pour h).q rm (fun S2 h2 => nx S2 M _ _ h2 (by omega) (by omega))⟩, fun _ => ⟨w1, h.2.1.1, rm, law_pq (v_reads h).q rm (fun S2 h2 => nx S2 M _ _ h2 (by omega) (by omega))⟩, fun _ => ⟨w1, w2, w3, w4, w5, h.2.1.1, rm, law_pq (v_copy h).q rm (fun S2 h2 => nx S2 M _ _ h2 (by omega) (by omega))⟩, fun _ => ⟨w1, w2, w3, h.2.1.1, rm, law_pq (v_lay h).q rm (fun S2 h2 => nx S2 M _ _ h2 (by omega) (by omega))⟩, fun _ => ⟨w1, w2, h.2.1.1, rm, law_pq (v_ask h).q rm (fun S2 h2 => nx S2 M _ _ h2 (by omega) (by omega))⟩, fun _ => ⟨w1, w2, h.2.1.1, rm, law_pq (v_item h).q rm (fun S2 h2 => nx S2 M _ _ h2 (by omega) (by omega))⟩, fun _ => ⟨w1, w2, h.2.1.1, rm, law_pq (v_rest h).q rm (fun S2 h2 => nx S2 M _ _ h2 (by omega) (by omega))⟩, fun _ => ⟨w1, h.2.1.1, rm, law_pq (v_tell h).q rm (fun S2 h2 => nx S2 M _ _ h2 (by omega) (by omega))⟩, fun _ => ⟨w1, h.2.1.1, rm, law_pq (v_check h).q rm (fun S2 h2 => nx S2 M _ _ h2 (by omega) (by omega))⟩, fun _ => ⟨h.2.1.1, rm, law_pq (v_keep h).q rm (fun S2 h2 => nx S2 M _ _ h2 (by omega) (by omega))⟩, fun _ => ⟨h.2.1.1, rm, law_pq (v_back h).q rm (fun S2 h2 => nx S2 M _ _ h2 (by omega) (by omega))⟩, fun _ => ⟨w1, h.2.1.1, rm, law_pq (v_count h).q rm (fun S2 h2 => nx S2 M _ _ h2 (by omega) (by omega))⟩, fun _ _ _ _ _ _ _ _ _ _ _ _ _ _ _ _ _ _ _ _ _ _ _ _ _ _ _ _ _ _ _ _ _ _ _ _ _ _ _ _ _ _ _ _ _ _ _ _ _ => nx S M _ _ ⟨sz, v, h⟩ (by omega) (by omega)⟩⟩
theorem law_new {S : jM} (hq : jn S = x) (h : ∀ S', FR S' x → jn S' = x + 115 → L_L_law_18 E nm L xs b x (x + 94) 0 S' 115 11534) : jX E (mLw nm) room_1 (jZL E b L xs) 0 [(0, .ref b)] [] S 0 0 := by
  refine T_L_law (fun q1 e1 => ?_)
  obtain rfl : q1 = x := e1.trans hq
  refine ⟨1000, jok _ rfl, c_X10_init (d := 996) (S := jnew S 10 0) (by rw [jk_newE, if_pos hq.symm]) (by show jn S + 1 = _; rw [hq]) (by rw [ji_newE, if_pos hq.symm]) (fun S2 n2 s2 cl cn q3 e3 => ?_)⟩
  obtain rfl : q3 = q1 + 94 := e3.trans n2
  refine ⟨1000, jok _ rfl, c_X11_init (d := 999) (S := jnew S2 11 0) (by rw [jk_newE, if_pos n2.symm]) (by show jn S2 + 1 = _; rw [n2]) (by rw [ji_newE, if_pos n2.symm]) (fun S4 n4 s4 ml mn => ?_)⟩
  have g : ∀ y, q1 ≤ y → y < q1 + 94 → jcs S2 S4 y := fun y p q => (jcs.new (by rw [n2]; omega)).trans (s4 y q)
  exact h S4 ⟨cl.grow g, cn.grow g, ml, mn⟩ n4
theorem law_start {S : jM} (hL : L ≤ 384) (h : FR S x) (hn : jn S = x + 115) : L_L_law_18 E nm L xs b x (x + 94) 0 S 115 11534 := by
  have h1 := law_loop (E := E) (nm := nm) (xs := xs) (b := b) hL 64 0 S 0 115 11534 (by omega) (by omega) ⟨0, _, IV_start h hn⟩ (by omega) (by omega)
  rw [show nI (6 * 0) = 0 from rfl] at h1
  exact h1
end jLoop
end
