-- pure rows: an order, a stop, a fork on both sides
theorem qVf_mod (hb : Nat → Bool) : ∀ m pos, qVf hb m (pos % 32) = qVf hb m pos := by
  intro m
  induction m with
  | zero => intro pos; rfl
  | succ m ih =>
    intro pos
    unfold qVf
    rw [Nat.mod_mod, ← ih (pos % 32 + 1), ← ih (pos + 1), show (pos % 32 + 1) % 32 = (pos + 1) % 32 by omega]
theorem q_b1 : vp_nar .boolean (1 : Int32) = 1 := rfl
theorem q_b0 : vp_nar .boolean (0 : Int32) = 0 := rfl
theorem nI_m1 {p : Nat} (h : p < 2 ^ 31) : ¬ nI p = -1 := fun z => by
  have := nI_pos h
  rw [z] at this
  exact this (by decide)
def FrX (σ : Nat → Int32) (α : Nat → Nat → Int32) (σ' : Nat → Int32) (α' : Nat → Nat → Int32) : Prop := (∀ i, i < 33 → σ' i = σ i) ∧ (∀ k, k < 25 → α' k = α k) ∧ α' 28 = α 28
def FrM (β β' : Nat → Nat → Int32) : Prop := ∀ k, k < 15 ∨ 19 < k → β' k = β k
def PR (kd bb : Nat → Nat) (c : Nat) (fr hb : Nat → Bool) (vp : Nat → Int32) (f : Nat) (sp wt : Nat → Nat) (σ : Nat → Int32) (α β : Nat → Nat → Int32) : Prop := rPX fr hb vp f σ α ∧ rPM fr hb vp β ∧ rAb hb vp ∧ rCt kd bb sp wt c fr σ α ∧ (∀ i, i < c → β 15 i = nI (sp i) ∧ β 16 i = nI (wt i) ∧ (kd i = 2 → wt i = 0))
theorem qCw_ne {kd bb sp wt : Nat → Nat} {c i : Nat} (hb : bb i + 1024 * wt i < 32768) (hs : ∀ j, j < c → sp j < 64) : ¬ qCw kd bb sp wt c i = -1 := by
  unfold qCw
  split
  · decide
  · split
    · decide
    · split
      · rename_i h
        have h1 := hs _ h
        unfold qLb
        exact nI_m1 (by omega)
      · exact nI_m1 (by omega)
section PM
variable {σ μ : Nat → Int32} {α β : Nat → Nat → Int32} {hb : Nat → Bool} {vp : Nat → Int32}
/-- where a variable lies, or is put -/
theorem c_var {v w : Nat} (hv : v < 16) (hw : w < 2 ^ 20) (hX26 : ∀ p, p < 32 → (α 26 p = -1 ↔ hb p = false)) (hX27 : ∀ v, v < 16 → α 27 v = vp v) (hM18 : ∀ p, p < 32 → (β 18 p = 0 ↔ hb p = false)) (hM19 : ∀ v, v < 16 → β 19 v = vp v) (hA : rAb hb vp) : ∃ (p : Nat) (hb' : Nat → Bool) (vp' a26 a27 b18 b19 : Nat → Int32), p < 32 ∧ (∀ post : Int32 → gS → Prop, post (nI p) (σ, va_up (va_up α 26 a26) 27 a27) → wp_Pl_variablePlace σ α (nI v) (nI (w % 32)) post) ∧ (∀ post : Int32 → gS → Prop, post (nI p) (μ, va_up (va_up β 19 b19) 18 b18) → wp_Md_variableFrom μ β (nI v) (nI w) post) ∧ (∀ p, p < 32 → (a26 p = -1 ↔ hb' p = false)) ∧ (∀ v, v < 16 → a27 v = vp' v) ∧ (∀ p, p < 32 → (b18 p = 0 ↔ hb' p = false)) ∧ (∀ v, v < 16 → b19 v = vp' v) ∧ rAb hb' vp' := by
  rcases hA.1 v hv with hn | ⟨p, hp, e, hh⟩
  · -- it is put
    have hct : qCt hb 32 < 32 := by
      have := qCt_le (fun v => decide (vp v ≠ -1)) 16
      have := hA.2
      omega
    obtain ⟨p, hq⟩ := qVf_some hct w
    obtain ⟨hp32, hfree⟩ := qVf_lt _ _ _ hq
    refine ⟨p, va_up hb p true, upd vp v (nI p), upd (α 26) p (nI v), upd (α 27) v (nI p), upd (β 18) p (vp_nar .boolean 1), upd (β 19) v (nI p), hp32, ?_, ?_, ?_, ?_, ?_, ?_, ?_, ?_⟩
    · intro post hpost
      refine x_varNew hv (by omega) hX26 (by rw [hX27 v hv]; exact hn) ?_ hpost
      rw [qVf_mod]
      exact hq
    · intro post hpost
      exact m_varNew hv hw hM18 (by rw [hM19 v hv]; exact hn) hq hpost
    · intro r hr
      by_cases z : r = p
      · rw [z, pk_us, va_up_self]
        constructor
        · intro y
          exact absurd y (nI_m1 (by omega))
        · intro y
          cases y
      · rw [pk_un z, va_up_ne hb true z]
        exact hX26 r hr
    · intro u hu
      unfold upd
      by_cases z : u = v
      · rw [if_pos z, if_pos z]
      · rw [if_neg z, if_neg z]
        exact hX27 u hu
    · intro r hr
      by_cases z : r = p
      · rw [z, pk_us, va_up_self, q_b1]
        constructor
        · intro y
          exact absurd y (by decide)
        · intro y
          cases y
      · rw [pk_un z, va_up_ne hb true z]
        exact hM18 r hr
    · intro u hu
      unfold upd
      by_cases z : u = v
      · rw [if_pos z, if_pos z]
      · rw [if_neg z, if_neg z]
        exact hM19 u hu
    · intro u hu
      by_cases z : u = v
      · rw [z, pk_us]
        exact Or.inr ⟨p, hp32, rfl, va_up_self hb p true⟩
      · rw [pk_un z]
        rcases hA.1 u hu with y | ⟨q, h1, h2, h3⟩
        · exact Or.inl y
        · refine Or.inr ⟨q, h1, h2, ?_⟩
          by_cases w2 : q = p
          · rw [w2]
            exact va_up_self hb p true
          · rw [va_up_ne hb true w2]
            exact h3
    · have e1 : (fun u => decide (upd vp v (nI p) u ≠ -1)) = va_up (fun u => decide (vp u ≠ -1)) v true := by
        funext u
        by_cases z : u = v
        · rw [z, va_up_self]
          show decide (upd vp v (nI p) v ≠ -1) = true
          rw [pk_us]
          exact decide_eq_true (nI_m1 (by omega))
        · rw [va_up_ne _ true z]
          show decide (upd vp v (nI p) u ≠ -1) = decide (vp u ≠ -1)
          rw [pk_un z]
      have e2 : decide (vp v ≠ -1) = false := decide_eq_false (fun z => z hn)
      rw [e1, qCt_up 32 hp32 hfree, qCt_up 16 hv e2]
      have := hA.2
      omega
  · -- it lies there
    refine ⟨p, hb, vp, α 26, α 27, upd (β 18) p (vp_nar .boolean 1), β 19, hp, ?_, ?_, hX26, hX27, ?_, hM19, hA⟩
    · intro post hpost
      have e1 : va_up (va_up α 26 (α 26)) 27 (α 27) = α := by
        rw [q_upself α 26, q_upself α 27]
      rw [e1] at hpost
      have e2 : α 27 v = nI p := by rw [hX27 v hv]; exact e
      refine x_varOld hv (by rw [e2]; exact nI_m1 (by omega)) ?_
      rw [e2]
      exact hpost
    · intro post hpost
      rw [q_upself β 19] at hpost
      exact m_varOld hv hp (by rw [hM19 v hv]; exact e) hpost
    · intro r hr
      by_cases z : r = p
      · rw [z, pk_us, q_b1, hh]
        constructor
        · intro y
          exact absurd y (by decide)
        · intro y
          cases y
      · rw [pk_un z]
        exact hM18 r hr
end PM
