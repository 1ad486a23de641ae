/-! THE LAYER: calls by what they answer -/
section jTyped
variable {E : jEnv} {M M' : jMd} {R : Room} {Z : jZ} {pc : Nat} {lv lv1 : List (Nat × Value)} {st st1 : List Value} {S : jM} {c k : Nat} {d mc ms n index : Nat} {As : List Value}
theorem jx_callVi {Q' : Int32 → jM → Prop} {ci b : Nat} {q : vw_C} {ty : Nat → FieldType} (ho : jMo M' n) (hc : jCl ci q ty) (hq : q.1 = M'.1.cls) (w1 : Cond.methodLink M.1.cls index M'.1 ∈ jT) (w2 : Cond.instanceMethod M'.1 ∈ jT) (w3 : Cond.selects M'.1.cls M'.1 M'.1 ∈ jT) (hd : decode M.2.1 pc = .ok (.invokevirtual index, 3)) (hR : jRok R d) (hA : As.length = n) (hs : (st.map fun v => v.category).sum ≤ 8) (hm : c + mc ≤ R.cells ∧ k + ms ≤ R.slots) (hk : jk S b = ci)
    (hF : jFi E M' d mc ms (.ref b :: As) S Q') (h : ∀ (v : Int32) (S' : jM), Q' v S' → jX E M R Z (pc + 3) lv (.int v :: st) S' (c + mc) (k + ms)) : jX E M R Z pc lv (As.reverse ++ .ref b :: st) S c k :=
  jx_callV ho hc hq w1 w2 w3 hd hR hA hs hm hk hF (fun r S' hr => by obtain ⟨v, rfl, h9⟩ := hr; exact h v S' h9)
theorem jx_callVv {Q' : jM → Prop} {ci b : Nat} {q : vw_C} {ty : Nat → FieldType} (ho : jMo M' n) (hc : jCl ci q ty) (hq : q.1 = M'.1.cls) (w1 : Cond.methodLink M.1.cls index M'.1 ∈ jT) (w2 : Cond.instanceMethod M'.1 ∈ jT) (w3 : Cond.selects M'.1.cls M'.1 M'.1 ∈ jT) (hd : decode M.2.1 pc = .ok (.invokevirtual index, 3)) (hR : jRok R d) (hA : As.length = n) (hs : (st.map fun v => v.category).sum ≤ 8) (hm : c + mc ≤ R.cells ∧ k + ms ≤ R.slots) (hk : jk S b = ci)
    (hF : jFv E M' d mc ms (.ref b :: As) S Q') (h : ∀ S' : jM, Q' S' → jX E M R Z (pc + 3) lv st S' (c + mc) (k + ms)) : jX E M R Z pc lv (As.reverse ++ .ref b :: st) S c k :=
  jx_callV ho hc hq w1 w2 w3 hd hR hA hs hm hk hF (fun r S' hr => by obtain ⟨rfl, h9⟩ := hr; exact h S' h9)
theorem jx_callVr {Q' : Option Nat → jM → Prop} {ci b : Nat} {q : vw_C} {ty : Nat → FieldType} (ho : jMo M' n) (hc : jCl ci q ty) (hq : q.1 = M'.1.cls) (w1 : Cond.methodLink M.1.cls index M'.1 ∈ jT) (w2 : Cond.instanceMethod M'.1 ∈ jT) (w3 : Cond.selects M'.1.cls M'.1 M'.1 ∈ jT) (hd : decode M.2.1 pc = .ok (.invokevirtual index, 3)) (hR : jRok R d) (hA : As.length = n) (hs : (st.map fun v => v.category).sum ≤ 8) (hm : c + mc ≤ R.cells ∧ k + ms ≤ R.slots) (hk : jk S b = ci)
    (hF : jFr E M' d mc ms (.ref b :: As) S Q') (h : ∀ (o : Option Nat) (S' : jM), Q' o S' → jX E M R Z (pc + 3) lv (va_rf o :: st) S' (c + mc) (k + ms)) : jX E M R Z pc lv (As.reverse ++ .ref b :: st) S c k :=
  jx_callV ho hc hq w1 w2 w3 hd hR hA hs hm hk hF (fun r S' hr => by obtain ⟨v, rfl, h9⟩ := hr; exact h v S' h9)
theorem jx_callSi {Q' : Int32 → jM → Prop} (ho : jMo M' n) (w1 : Cond.methodLink M.1.cls index M'.1 ∈ jT) (w2 : Cond.static M'.1 ∈ jT) (hd : decode M.2.1 pc = .ok (.invokestatic index, 3)) (hR : jRok R d) (hA : As.length = n) (hs : (st.map fun v => v.category).sum ≤ 8) (hm : c + mc ≤ R.cells ∧ k + ms ≤ R.slots)
    (hF : jFi E M' d mc ms (As) S Q') (h : ∀ (v : Int32) (S' : jM), Q' v S' → jX E M R Z (pc + 3) lv (.int v :: st) S' (c + mc) (k + ms)) : jX E M R Z pc lv (As.reverse ++ st) S c k :=
  jx_callS ho w1 w2 hd hR hA hs hm hF (fun r S' hr => by obtain ⟨v, rfl, h9⟩ := hr; exact h v S' h9)
theorem jx_callSv {Q' : jM → Prop} (ho : jMo M' n) (w1 : Cond.methodLink M.1.cls index M'.1 ∈ jT) (w2 : Cond.static M'.1 ∈ jT) (hd : decode M.2.1 pc = .ok (.invokestatic index, 3)) (hR : jRok R d) (hA : As.length = n) (hs : (st.map fun v => v.category).sum ≤ 8) (hm : c + mc ≤ R.cells ∧ k + ms ≤ R.slots)
    (hF : jFv E M' d mc ms (As) S Q') (h : ∀ S' : jM, Q' S' → jX E M R Z (pc + 3) lv st S' (c + mc) (k + ms)) : jX E M R Z pc lv (As.reverse ++ st) S c k :=
  jx_callS ho w1 w2 hd hR hA hs hm hF (fun r S' hr => by obtain ⟨rfl, h9⟩ := hr; exact h S' h9)
theorem jx_callSr {Q' : Option Nat → jM → Prop} (ho : jMo M' n) (w1 : Cond.methodLink M.1.cls index M'.1 ∈ jT) (w2 : Cond.static M'.1 ∈ jT) (hd : decode M.2.1 pc = .ok (.invokestatic index, 3)) (hR : jRok R d) (hA : As.length = n) (hs : (st.map fun v => v.category).sum ≤ 8) (hm : c + mc ≤ R.cells ∧ k + ms ≤ R.slots)
    (hF : jFr E M' d mc ms (As) S Q') (h : ∀ (o : Option Nat) (S' : jM), Q' o S' → jX E M R Z (pc + 3) lv (va_rf o :: st) S' (c + mc) (k + ms)) : jX E M R Z pc lv (As.reverse ++ st) S c k :=
  jx_callS ho w1 w2 hd hR hA hs hm hF (fun r S' hr => by obtain ⟨v, rfl, h9⟩ := hr; exact h v S' h9)
theorem jx_callSNi {Q' : Int32 → jM → Prop} {host : String} (ho : jMo M' n) (w1 : (M.1.cls, index, M'.1, host) ∈ jNest) (w2 : Cond.static M'.1 ∈ jT) (hd : decode M.2.1 pc = .ok (.invokestatic index, 3)) (hR : jRok R d) (hA : As.length = n) (hs : (st.map fun v => v.category).sum ≤ 8) (hm : c + mc ≤ R.cells ∧ k + ms ≤ R.slots)
    (hF : jFi E M' d mc ms (As) S Q') (h : ∀ (v : Int32) (S' : jM), Q' v S' → jX E M R Z (pc + 3) lv (.int v :: st) S' (c + mc) (k + ms)) : jX E M R Z pc lv (As.reverse ++ st) S c k :=
  jx_callSN ho w1 w2 hd hR hA hs hm hF (fun r S' hr => by obtain ⟨v, rfl, h9⟩ := hr; exact h v S' h9)
theorem jx_callSNv {Q' : jM → Prop} {host : String} (ho : jMo M' n) (w1 : (M.1.cls, index, M'.1, host) ∈ jNest) (w2 : Cond.static M'.1 ∈ jT) (hd : decode M.2.1 pc = .ok (.invokestatic index, 3)) (hR : jRok R d) (hA : As.length = n) (hs : (st.map fun v => v.category).sum ≤ 8) (hm : c + mc ≤ R.cells ∧ k + ms ≤ R.slots)
    (hF : jFv E M' d mc ms (As) S Q') (h : ∀ S' : jM, Q' S' → jX E M R Z (pc + 3) lv st S' (c + mc) (k + ms)) : jX E M R Z pc lv (As.reverse ++ st) S c k :=
  jx_callSN ho w1 w2 hd hR hA hs hm hF (fun r S' hr => by obtain ⟨rfl, h9⟩ := hr; exact h S' h9)
theorem jx_callSNr {Q' : Option Nat → jM → Prop} {host : String} (ho : jMo M' n) (w1 : (M.1.cls, index, M'.1, host) ∈ jNest) (w2 : Cond.static M'.1 ∈ jT) (hd : decode M.2.1 pc = .ok (.invokestatic index, 3)) (hR : jRok R d) (hA : As.length = n) (hs : (st.map fun v => v.category).sum ≤ 8) (hm : c + mc ≤ R.cells ∧ k + ms ≤ R.slots)
    (hF : jFr E M' d mc ms (As) S Q') (h : ∀ (o : Option Nat) (S' : jM), Q' o S' → jX E M R Z (pc + 3) lv (va_rf o :: st) S' (c + mc) (k + ms)) : jX E M R Z pc lv (As.reverse ++ st) S c k :=
  jx_callSN ho w1 w2 hd hR hA hs hm hF (fun r S' hr => by obtain ⟨v, rfl, h9⟩ := hr; exact h v S' h9)
theorem jx_callIv {Q' : jM → Prop} {b : Nat} (ho : jMo M' n) (hi : M'.1.name = "<init>") (w1 : Cond.methodLink M.1.cls index M'.1 ∈ jT) (w2 : Cond.instanceMethod M'.1 ∈ jT) (hret : M'.2.2.2 = none) (hd : decode M.2.1 pc = .ok (.invokespecial index, 3)) (hR : jRok R d) (hA : As.length = n) (hs : (st.map fun v => v.category).sum ≤ 8) (hm : c + mc ≤ R.cells ∧ k + ms ≤ R.slots)
    (hF : jFv E M' d mc ms (.ref b :: As) S Q') (h : ∀ S' : jM, Q' S' → jX E M R Z (pc + 3) lv st S' (c + mc) (k + ms)) : jX E M R Z pc lv (As.reverse ++ .ref b :: st) S c k :=
  jx_callI ho hi w1 w2 hret hd hR hA hs hm hF (fun r S' hr => by obtain ⟨rfl, h9⟩ := hr; exact h S' h9)
theorem jx_callINv {Q' : jM → Prop} {host : String} {b : Nat} (ho : jMo M' n) (hi : M'.1.name = "<init>") (w1 : (M.1.cls, index, M'.1, host) ∈ jNest) (w2 : Cond.instanceMethod M'.1 ∈ jT) (hret : M'.2.2.2 = none) (hd : decode M.2.1 pc = .ok (.invokespecial index, 3)) (hR : jRok R d) (hA : As.length = n) (hs : (st.map fun v => v.category).sum ≤ 8) (hm : c + mc ≤ R.cells ∧ k + ms ≤ R.slots)
    (hF : jFv E M' d mc ms (.ref b :: As) S Q') (h : ∀ S' : jM, Q' S' → jX E M R Z (pc + 3) lv st S' (c + mc) (k + ms)) : jX E M R Z pc lv (As.reverse ++ .ref b :: st) S c k :=
  jx_callIN ho hi w1 w2 hret hd hR hA hs hm hF (fun r S' hr => by obtain ⟨rfl, h9⟩ := hr; exact h S' h9)
theorem jx_st (hs : st = st1) (h : jX E M R Z pc lv st1 S c k) : jX E M R Z pc lv st S c k := hs ▸ h
theorem jx_nm {x : Int32} (h : ∀ y : Int32, y = x → jX E M R Z pc lv (.int y :: st) S c k) : jX E M R Z pc lv (.int x :: st) S c k := h x rfl
theorem jx_topi {x y : Int32} (e : x = y) (h : jX E M R Z pc lv (.int y :: st) S c k) : jX E M R Z pc lv (.int x :: st) S c k := e ▸ h
end jTyped
