/-! THE CLAIM OF p1 -/
section jEnd
variable {E : jEnv} {nm : String} {xs : Nat → Int32} {b x : Nat} {S : jM} {c k : Nat}
theorem law_pr {M M' : jMd} {mc ms : Nat} {As : List Value} {J P : jM → Prop} {R : Prop} (h : jPr E M M' mc ms x As S J) (hR : R) (hP : ∀ S2, J S2 → P S2) : ∃ d, jRok room_1 d ∧ jFi E M d mc ms (.ref x :: As) S (fun r S1 => jk S1 (x + 94) = 11 ∧ R ∧ ∃ d, jRok room_1 d ∧ jFi E M' d 0 0 (.ref (x + 94) :: As) S1 (fun r' S2 => (r = r' → P S2) ∧ (¬ r = r' → False))) := by
  obtain ⟨d, hd, h⟩ := h
  refine ⟨d, hd, jFi_mono h (fun r S1 h1 => ?_)⟩
  obtain ⟨k1, d', hd', h2⟩ := h1
  exact ⟨k1, hR, d', hd', jFi_mono h2 (fun r' S2 h3 => ⟨fun _ => hP S2 h3.2, fun c => c h3.1⟩)⟩
theorem law_end {L : Nat} (hc : c ≤ 600000) (hk : k ≤ 7302250) (hL : L ≤ 6 := by omega) : L_L_law_18 E nm L xs b x (x + 94) (0 + 6) S c k := by
  refine T_L_law_18 ⟨fun _ => ⟨hc, hk⟩, fun c => absurd ?_ c⟩
  rcases (show L = 0 ∨ L = 1 ∨ L = 2 ∨ L = 3 ∨ L = 4 ∨ L = 5 ∨ L = 6 by omega) with rfl | rfl | rfl | rfl | rfl | rfl | rfl <;> decide
set_option maxHeartbeats 4000000 in
set_option maxRecDepth 100000 in
theorem law_six (h : FR S x) (hc : c ≤ 1000) (hk : k ≤ 100000) : L_L_law_18 E nm 6 xs b x (x + 94) 0 S c k := by
  have v0 : vp_in (0 : Int32) 6 := by unfold vp_in; decide
  have v1 : vp_in ((0 : Int32) + 1) 6 := by unfold vp_in; decide
  have v2 : vp_in ((0 : Int32) + 2) 6 := by unfold vp_in; decide
  have v3 : vp_in ((0 : Int32) + 3) 6 := by unfold vp_in; decide
  have v4 : vp_in ((0 : Int32) + 4) 6 := by unfold vp_in; decide
  have v5 : vp_in ((0 : Int32) + 5) 6 := by unfold vp_in; decide
  have hc : c ≤ 600000 := by omega
  have hk : k ≤ 7302250 := by omega
  have rm : c + 0 ≤ 600000 ∧ k + 0 ≤ 7302250 := ⟨hc, hk⟩
  have rt : c + 3 ≤ 600000 ∧ k + 196 ≤ 7302250 := ⟨by omega, by omega⟩
  exact T_L_law_18 ⟨fun _ => ⟨hc, hk⟩, fun _ => ⟨v0, fun _ => ⟨v1, v2, v3, v4, h.1.1, rm, law_pr (o_master h) rm (fun _ _ => law_end hc hk)⟩, fun _ => ⟨v1, v2, h.1.1, rm, law_pr (o_told h) rm (fun _ _ => law_end hc hk)⟩, fun _ => ⟨v1, v2, h.1.1, rm, law_pr (o_as h) rm (fun _ _ => law_end hc hk)⟩, fun _ => ⟨v1, v2, h.1.1, rm, law_pr (o_turns h) rm (fun _ _ => law_end hc hk)⟩, fun _ => ⟨v1, v2, v3, h.1.1, rm, law_pr (o_set h) rm (fun _ _ => law_end hc hk)⟩, fun _ => ⟨v1, v2, v3, h.1.1, rm, law_pr (o_bars h) rm (fun _ _ => law_end hc hk)⟩, fun _ => ⟨v1, v2, v3, h.1.1, rm, law_pr (o_road h) rm (fun _ _ => law_end hc hk)⟩, fun _ => ⟨v1, v2, h.1.1, rm, law_pr (o_far h) rm (fun _ _ => law_end hc hk)⟩, fun _ => ⟨v1, h.1.1, rm, law_pr (o_deal h) rm (fun _ _ => law_end hc hk)⟩, fun _ => ⟨v1, h.1.1, rm, law_pr (o_seed h) rm (fun _ _ => law_end hc hk)⟩, fun _ => ⟨v1, h.1.1, rm, law_pr (o_apprentice h) rm (fun _ _ => law_end hc hk)⟩, fun _ => ⟨v1, v2, h.1.1, rm, law_pr (o_has h) rm (fun _ _ => law_end hc hk)⟩, fun _ => ⟨v1, v2, h.1.1, rm, law_pr (o_knows h) rm (fun _ _ => law_end hc hk)⟩, fun _ => ⟨v1, h.1.1, rm, law_pr (o_go h) rm (fun _ _ => law_end hc hk)⟩, fun _ => ⟨v1, h.1.1, rm, law_pr (o_learn h) rm (fun _ _ => law_end hc hk)⟩, fun _ => ⟨v1, h.1.1, rm, law_pr (o_use h) rm (fun _ _ => law_end hc hk)⟩, fun _ => ⟨v1, h.1.1, rm, law_pr (o_rests h) rm (fun _ _ => law_end hc hk)⟩, fun _ => ⟨v1, h.1.1, rm, law_pr (o_wants h) rm (fun _ _ => law_end hc hk)⟩, fun _ => ⟨h.1.1, rm, law_pr (o_clear h) rm (fun _ _ => law_end hc hk)⟩, fun _ => ⟨h.1.1, rm, law_pr (o_made h) rm (fun _ _ => law_end hc hk)⟩, fun _ => ⟨v1, h.1.1, rm, law_pr (o_soonest h) rm (fun _ _ => law_end hc hk)⟩, fun _ => ⟨v1, h.1.1, rm, law_pr (o_together h) rm (fun _ _ => law_end hc hk)⟩, fun _ => ⟨h.1.1, rm, law_pr (o_never h) rm (fun _ _ => law_end hc hk)⟩, fun _ => ⟨v1, h.1.1, rm, law_pr (o_last h) rm (fun _ _ => law_end hc hk)⟩, fun _ => ⟨v1, h.1.1, rm, law_pr (o_years h) rm (fun _ _ => law_end hc hk)⟩, fun _ => ⟨v1, h.1.1, rm, law_pr (o_gone h) rm (fun _ _ => law_end hc hk)⟩, fun _ => ⟨h.1.1, rm, law_pr (o_fresh h) rm (fun _ _ => law_end hc hk)⟩, fun _ => ⟨v1, v2, h.1.1, rm, law_pr (o_cut h) rm (fun _ _ => law_end hc hk)⟩, fun _ => ⟨v1, h.1.1, rm, law_pr (o_fame h) rm (fun _ _ => law_end hc hk)⟩, fun _ => ⟨h.1.1, rm, law_pr (o_fine h) rm (fun _ _ => law_end hc hk)⟩, fun _ => ⟨v1, v2, v3, h.1.1, rm, law_pr (o_feed h) rm (fun _ _ => law_end hc hk)⟩, fun _ => ⟨v1, h.1.1, rm, law_pr (o_trim h) rm (fun _ _ => law_end hc hk)⟩, fun _ => ⟨h.1.1, rt, law_pr (o_text h) rt (fun _ _ => law_end (by omega) (by omega))⟩, fun _ => ⟨v1, v2, h.1.1, rm, law_pr (o_textTold h) rm (fun _ _ => law_end hc hk)⟩, fun _ => ⟨v1, h.1.1, rm, law_pr (o_why h) rm (fun _ _ => law_end hc hk)⟩, fun _ => ⟨v1, v2, v3, h.1.1, rm, law_pr (o_sheet h) rm (fun _ _ => law_end hc hk)⟩, fun _ => ⟨v1, v2, v3, h.1.1, rm, law_pr (o_mark h) rm (fun _ _ => law_end hc hk)⟩, fun _ => ⟨v1, h.1.1, rm, law_pr (o_pour h) rm (fun _ _ => law_end hc hk)⟩, fun _ => ⟨v1, h.1.1, rm, law_pr (o_reads h) rm (fun _ _ => law_end hc hk)⟩, fun _ => ⟨v1, v2, v3, v4, v5, h.1.1, rm, law_pr (o_copy h) rm (fun _ _ => law_end hc hk)⟩, fun _ => ⟨v1, v2, v3, h.1.1, rm, law_pr (o_lay h) rm (fun _ _ => law_end hc hk)⟩, fun _ => ⟨v1, v2, h.1.1, rm, law_pr (o_ask h) rm (fun _ _ => law_end hc hk)⟩, fun _ => ⟨v1, v2, h.1.1, rm, law_pr (o_item h) rm (fun _ _ => law_end hc hk)⟩, fun _ => ⟨v1, v2, h.1.1, rm, law_pr (o_rest h) rm (fun _ _ => law_end hc hk)⟩, fun _ => ⟨v1, h.1.1, rm, law_pr (o_tell h) rm (fun _ _ => law_end hc hk)⟩, fun _ => ⟨v1, h.1.1, rm, law_pr (o_check h) rm (fun _ _ => law_end hc hk)⟩, fun _ => ⟨h.1.1, rm, law_pr (o_keep h) rm (fun _ _ => law_end hc hk)⟩, fun _ => ⟨h.1.1, rm, law_pr (o_back h) rm (fun _ _ => law_end hc hk)⟩, fun _ => ⟨v1, h.1.1, rm, law_pr (o_count h) rm (fun _ _ => law_end hc hk)⟩, fun _ _ _ _ _ _ _ _ _ _ _ _ _ _ _ _ _ _ _ _ _ _ _ _ _ _ _ _ _ _ _ _ _ _ _ _ _ _ _ _ _ _ _ _ _ _ _ _ _ => law_end hc hk⟩⟩
theorem law_all {L : Nat} (hL : L ≤ 6) (h : FR S x) (hc : c ≤ 1000) (hk : k ≤ 100000) : L_L_law_18 E nm L xs b x (x + 94) 0 S c k := by
  by_cases h6 : L = 6
  · subst h6; exact law_six h hc hk
  · refine T_L_law_18 ⟨fun _ => ⟨by omega, by omega⟩, fun c => absurd ?_ c⟩
    rcases (show L = 0 ∨ L = 1 ∨ L = 2 ∨ L = 3 ∨ L = 4 ∨ L = 5 by omega) with rfl | rfl | rfl | rfl | rfl | rfl <;> decide
theorem law_new {L : Nat} (hq : jn S = x) (h : ∀ S', FR S' x → L_L_law_18 E nm L xs b x (x + 94) 0 S' 115 11534) : jX E (mLw nm) room_1 (jZL E b L xs) 0 [(0, .ref b)] [] S 0 0 := by
  refine T_L_law (fun q1 e1 => ?_)
  obtain rfl : q1 = x := e1.trans hq
  refine ⟨1000, jok _ rfl, c_X10_init (d := 996) (S := jnew S 10 0) (by rw [jk_newE, if_pos hq.symm]) (by show jn S + 1 = _; rw [hq]) (by rw [ji_newE, if_pos hq.symm]) (fun S2 n2 s2 cl cn q3 e3 => ?_)⟩
  obtain rfl : q3 = q1 + 94 := e3.trans n2
  refine ⟨1000, jok _ rfl, c_X11_init (d := 999) (S := jnew S2 11 0) (by rw [jk_newE, if_pos n2.symm]) (by show jn S2 + 1 = _; rw [n2]) (by rw [ji_newE, if_pos n2.symm]) (fun S4 n4 s4 ml mn => ?_)⟩
  have g : ∀ y, q1 ≤ y → y < q1 + 94 → jcs S2 S4 y := fun y p q => (jcs.new (by rw [n2]; omega)).trans (s4 y q)
  exact h S4 ⟨cl.grow g, cn.grow g, ml, mn⟩
end jEnd
theorem whole_start {p : Program} {e : Env} {s : State} {m : MethodId} {below : List Frame} {meth : Method} {c : Code} (l : Launch) (hflags : l.flags = flags0) {b L : Nat} {xs : Nat → Int32} (hL : L ≤ 6) (C0 : lw_At p s m meth c b L xs) : W p l e room_1 s m #[Value.ref b] below meth c s.heap [] 0 0 (lw_Z below #[Value.ref b] s) (entryFrame m ([Value.ref b] : List Value).toArray 4) := by
  obtain ⟨hx, hb, hr, hml, hown, hts, hX, hbl, hlocks, hgv⟩ := id C0
  obtain ⟨E, rfl, e2, e3, hK, hG⟩ := env_start l hts hgv
  have hB : jB E (mLw meth.name) p s m #[Value.ref b] meth c := ⟨hx, hb, hr, hml, hown, fun w hw => hts w (jT_sub hw), hlocks, hK, rfl, hG, fun q _ => by rw [e3], by rw [e3, e2], by rw [e2]; exact Nat.le_refl _⟩
  have hV : jV E (fun _ => 17, fun _ => 0, fun _ _ => 0, fun _ _ => none, s.heap.size) s.heap := ⟨fun a h => absurd h (by show ¬ 17 < 17; decide), rfl, fun a h => absurd h (by show ¬ 17 < 17; decide), by rw [e2]; exact Nat.le_refl _, fun q _ => by rw [e3], by rw [e3, e2]⟩
  have hl := lv_entry ([.ref b]) (n := 4) (Nat.le_of_ble_eq_true rfl)
  rw [lg_entry_eq]
  generalize (lg_sl ([.ref b]) ++ List.replicate (4 - (lg_sl ([.ref b])).length) Slot.unset).toArray = ls at hl ⊢
  have hl : lv_has ls 4 [(0, .ref b)] := hl
  have key : jX E (mLw meth.name) room_1 (jZL E b L xs) 0 [(0, .ref b)] [] (fun _ => 17, fun _ => 0, fun _ _ => 0, fun _ _ => none, s.heap.size) 0 0 := law_new (x := s.heap.size) rfl (fun S' h => law_all hL h (by decide) (by decide))
  intro T hT X
  obtain ⟨t, a1, b1⟩ := key p e s m #[Value.ref b] below meth c hB s.heap [] ls hV va_S.rf hl T hT X
  exact ⟨t, a1, b1 ⟨rfl, hX, hbl, e2⟩⟩
set_option maxHeartbeats 4000000 in
theorem lw_walk (l : Launch) (hflags : l.flags = flags0) (b : Addr) (xs : List Int32) : MetFree l x (headSpec (Jvm.Cond.code x code maxLocals ret :: tables_1) room_1) (lw_P b xs) (fun _ _ _ _ _ => True) lw_Q := by
  refine MetFree.of_bodyS (code := code) (maxLocals := maxLocals) (ret := ret) (by decide) ?_ ?_
  · intro args s m h hn
    obtain ⟨meth, c, h1, h2, h3, h4, h5, h6, -, -⟩ := Cond.code_spec hn (atoms_spec (ws := Jvm.Cond.code x code maxLocals ret :: tables_1) h _ List.mem_cons_self)
    exact ⟨meth, c, h1, h2, h3, h4, h5, h6⟩
  · intro p e s m args below meth c s₁ B hml0 hP _
    obtain ⟨rfl, hx, hbd, hgv⟩ := hP
    obtain ⟨scr, harrAt, hlist, hof, hsmall⟩ := hx
    obtain ⟨hcb, hkn, -, -⟩ := State.arrayAt?_spec harrAt
    have hown : s.vm.findClass R_law = some m.cls := findClass_of_methodNamed B.named
    have hts0 : ∀ c ∈ (Jvm.Cond.code x code maxLocals ret :: tables_1), c.before #[Value.ref b] s = true := atoms_spec (ws := Jvm.Cond.code x code maxLocals ret :: tables_1) B.pre
    have hts : ∀ w ∈ lw_tbl, w.before #[Value.ref b] s = true := k2_hts_sels lw_privs (fun w hw => hts0 w (List.mem_cons_of_mem _ hw)) lw_privs_ok
    have hml : c.maxLocals = 4 := B.maxLocals_eq (hts0 _ List.mem_cons_self)
    have X₀ : Stand p l e room_1 s m #[Value.ref b] below meth c s₁ [] 0 0 := Stand.of_body B
    have hh0 : s₁.heap = s.heap := by rw [B.state]; rfl
    have hsz : scr.slots.size = xs.length := by rw [← Array.length_toList, hlist, List.length_map]
    have hval : ∀ j : Nat, j < xs.length → scr.slots[j]? = some (.int (xs.getD j 0)) := fun j hj => by
      rw [← Array.getElem?_toList, hlist]
      simp [hj]
    have hbl : b < s.heap.size := (Array.getElem?_eq_some_iff.mp hcb).1
    have hX : va_X b xs.length (fun j => xs.getD j 0) s s.heap := ⟨scr, hcb, hof, hkn, hsz, hval⟩
    have K : W p l e room_1 s m #[Value.ref b] below meth c s₁.heap [] 0 0 (lw_Z below #[Value.ref b] s) (entryFrame m ([Value.ref b] : List Value).toArray 4) := by
      rw [hh0]
      exact whole_start l hflags hbd ⟨B.exec, B.bytes, B.returns, hml, hown, hts, hX, hbl, B.notSynchronized, hgv⟩
    obtain ⟨t, a1, o, b1, b2, b3⟩ := K s₁ rfl X₀
    exact ⟨t, o, a1, b1, b2, b3⟩
theorem lw_pre_spec {args : Array Value} {s : State} (h : (Jvm.Cond.and given_1 narrow_1).before args s = true) (hr : rest_1_c.before args s = true) : ∃ (b : Addr) (xs : List Int32), lw_P b xs args s := by
  have hs := flat_of_before _ h
  have hq := flat_of_before _ hr
  have hc : (Cond.count 1).before args s = true := hs _ (by decide +kernel)
  have harr : (Cond.arrayOf (.arg 0) .int).before args s = true := hs _ (by decide +kernel)
  have hle : (Cond.le (.length (.arg 0)) (.int 6)).before args s = true := hs _ (by decide +kernel)
  have hlen : (Cond.isInt (.length (.arg 0))).before args s = true := hq _ (by decide +kernel)
  have hall : (Cond.all (.arg 0) (.isInt (.elem (.arg 0) (.index 0)))).before args s = true := hq _ (by decide +kernel)
  obtain ⟨b, xs, hb, hx⟩ := State.ints_of_pre rfl harr hlen hall
  have hsm : xs.length < 2 ^ 31 := hx.choose_spec.2.2.2
  have hev : (Term.length (.arg 0)).eval args s none [] s = some (.int xs.length.toInt32) := hx.length_eval hb
  have hv := Cond.le_ints hev (show (Term.int 6).eval args s none [] s = some (.int 6) from rfl)
  have hd : xs.length.toInt32 ≤ 6 := by
    simpa [Cond.before, Cond.holds, hv] using hle
  have hN : xs.length ≤ 6 := (Int32.ofNat_le_ofNat hsm (by decide)).mp (show Int32.ofNat xs.length ≤ Int32.ofNat 6 from hd)
  exact ⟨b, xs, Cond.one_arg hc (show args[0]? = some (.ref b) from hb), hx, hN, h⟩
theorem lw_comes (l : Launch) (hflags : l.flags = flags0) : Comes l x (Jvm.Cond.code x code maxLocals ret :: tables_1) room_1 (fun tb e args s => Calls_1 tb e args s ∧ rest_1 tb e args s ∧ Pre_1 tb e args s)
    (fun _ _ args s o t => lw_Q args s o t) := by
  intro p e ha hc hk s m args below hf hfit hheap happ hpre
  obtain ⟨b, xs, hP⟩ := lw_pre_spec hpre.2.2 hpre.2.1
  obtain ⟨k, o, h1, h2, h3, hQ⟩ := lw_walk l hflags b xs p e ha hc hk s m args below hf ((Spec.applies_iff_loose hf).mp happ).1 hP trivial
  exact ⟨k, o, h1, h2, h3, hQ⟩
theorem lw_frame {s t : State} {o : Outcome} {args : Array Value} (h : Framed s o t [] 600000 7302250) :
    Framed s o t (fieldLocs frame_1_writes args s ++ arrayLocs frame_1_arrays args s ++ staticLocs frame_1_statics s) 600000 7302250 := h
theorem lw_limb (L : Cond) (hL : ∀ (args : Array Value) (s t : State), L.after args s (.returned (some (.int 1))) t = true) :
    ArmFor flags0 classFile x code maxLocals ret World_1 tables_1 room_1 Calls_1 rest_1 Pre_1
      (fun tb e a s o t => postC L tb e a s o t ∧ Framed s o t (fieldLocs frame_1_writes a s ++ arrayLocs frame_1_arrays a s ++ staticLocs frame_1_statics s) 600000 7302250) := by
  intro l hflags _ _ p e ha hc hk s m args below hf hfit hheap happ hpre
  obtain ⟨k, o, h1, h2, h3, rfl, hF⟩ := lw_comes l hflags p e ha hc hk s m args below hf hfit hheap happ hpre
  exact ⟨k, _, h1, h2, h3, hL args s _, lw_frame hF⟩
theorem i_vc : Claimed_1_1 ∧ Claimed_1_2 := ⟨lw_limb limb_1_1 (fun args s t => by simp [limb_1_1, Cond.after, Cond.holds, Cond.value]), lw_limb limb_1_2 (fun args s t => Cond.after_iff.mpr (by
  first | (rw [show limb_1_2 = Cond.eq .result (.int 1) from rfl, Cond.eq_ints (x := 1) (y := 1) rfl rfl]; simp; done) | (simp [limb_1_2, Cond.value, Term.eval]; done)))⟩
