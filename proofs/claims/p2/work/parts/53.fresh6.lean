/-! copy on fresh objects -/
section jFresh6
variable {E : jEnv} {d : Nat} {S : jM} {x : Nat}
theorem F_copy {w u t a n : Int32} (h : FR S x) : jFi E mX10_copy (d + 2) 0 0 [.ref x, .int w, .int u, .int t, .int a, .int n] S (fun r S1 => jFm E mX11_copy (d + 2) (x + 94) [.int w, .int u, .int t, .int a, .int n] S1 (fun r' _ => r = r')) := by
  have hk := h.2.2.1.1
  have bad : jwi w 4 = 0 ∨ jwi t 4 = 0 → jFm E mX11_copy (d + 2) (x + 94) [.int w, .int u, .int t, .int a, .int n] S (fun r' _ => kBAD = r') := by
    intro hc
    refine U_X11_copy hk ⟨fun _ => rfl, fun c => ⟨fun _ => rfl, fun c2 => ?_⟩⟩
    rcases hc with hc | hc
    · exact absurd ((jissheet_wi w).trans hc) c
    · exact absurd ((jissheet_wi t).trans hc) c2
  refine T_X10_copy ⟨h.1.1, c_X10_findSheet h.1 (fun c => ⟨fun _ => ⟨h.1.1, c_X10_findSheet h.1 (fun c2 => ⟨fun _ => bad (Or.inl c), fun _ _ => bad (Or.inl c)⟩) (fun _ _ _ _ => ⟨fun _ => bad (Or.inl c), fun _ _ => bad (Or.inl c)⟩)⟩, fun b e => absurd e (by simp)⟩) (fun i hi e e1 => ⟨fun c => absurd c (by simp), fun b eb => ⟨h.1.1, c_X10_findSheet h.1 (fun c2 => ⟨fun _ => bad (Or.inr c2), fun b e => absurd e (by simp)⟩) (fun j hj f f1 => ⟨fun c => absurd c (by simp), fun b2 eb2 => ?_⟩)⟩⟩)⟩
  obtain rfl : x + 66 + 2 * i = b := Option.some.inj eb
  refine ⟨(h.1.sh i hi).1, fun _ => ?_, fun c => absurd (h.miss i hi) c⟩
  have r := h.row 3 4 (f := 4) rfl
  have m := h.missM i hi
  subst e
  subst f
  refine U_X11_copy hk ⟨fun c2 => absurd ((jissheet_wi _).symm.trans c2) (by rw [e1]; decide), fun _ => ⟨fun c2 => absurd ((jissheet_wi _).symm.trans c2) (by rw [f1]; decide), fun _ => ⟨hk, _, r.1, r.2.1, m.1, fun _ => rfl, fun c => absurd (by rw [m.2]; decide) c⟩⟩⟩
end jFresh6
