theorem p_assemble {n : Nat} {σ μ : Nat → Int32} {α β : Nat → Nat → Int32} {kp tp : Nat → Nat} {Q : Int32 → gSP → Int32 → gS → Prop} (hQ : ∀ r u r' u', r = r' ∧ Rel n u.2.2.1 u.2.2.2 u'.1 u'.2 → Q r u r' u') (h : Rel n σ α μ β) : wp_Dm_assemble kp tp σ α (fun r u => wp_Md_assemble μ β (Q r u)) := by
  sorry
