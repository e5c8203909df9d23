-- pure rows: where a variable goes, on both sides
def qCt (f : Nat → Bool) : Nat → Nat
  | 0 => 0
  | m + 1 => qCt f m + (if f m then 1 else 0)
theorem qCt_le (f : Nat → Bool) : ∀ m, qCt f m ≤ m := by
  intro m
  induction m with
  | zero => exact Nat.le_refl 0
  | succ m ih =>
    unfold qCt
    split <;> omega
theorem qCt_all {f : Nat → Bool} : ∀ m, (∀ i, i < m → f i = true) → qCt f m = m := by
  intro m
  induction m with
  | zero => intro _; rfl
  | succ m ih =>
    intro h
    unfold qCt
    rw [ih (fun i hi => h i (by omega)), h m (by omega)]
    rfl
theorem qCt_out {f : Nat → Bool} {i : Nat} {b : Bool} : ∀ m, m ≤ i → qCt (va_up f i b) m = qCt f m := by
  intro m
  induction m with
  | zero => intro _; rfl
  | succ m ih =>
    intro h
    unfold qCt
    rw [ih (by omega), va_up_ne f b (by omega)]
theorem qCt_up {f : Nat → Bool} {i : Nat} : ∀ m, i < m → f i = false → qCt (va_up f i true) m = qCt f m + 1 := by
  intro m
  induction m with
  | zero => intro h; omega
  | succ m ih =>
    intro h hf
    unfold qCt
    by_cases z : i = m
    · subst z
      rw [qCt_out i (Nat.le_refl i), va_up_self, hf]
      rfl
    · rw [ih (by omega) hf, va_up_ne f true (fun y => z y.symm)]
      omega
theorem qCt_same {f : Nat → Bool} {i : Nat} (h : f i = true) : va_up f i true = f := by
  rw [← h]
  exact q_upself f i
/-- the first place from pos on that is not held -/
def qVf (hb : Nat → Bool) : Nat → Nat → Option Nat
  | 0, _ => none
  | m + 1, pos => if hb (pos % 32) then qVf hb m (pos + 1) else some (pos % 32)
theorem qVf_none {hb : Nat → Bool} : ∀ (m pos : Nat), qVf hb m pos = none → ∀ i, i < m → hb ((pos + i) % 32) = true := by
  intro m
  induction m with
  | zero => intro pos _ i hi; omega
  | succ m ih =>
    intro pos h i hi
    unfold qVf at h
    split at h
    · rename_i z
      rcases Nat.eq_zero_or_pos i with y | y
      · rw [y]
        exact z
      · have := ih (pos + 1) h (i - 1) (by omega)
        rw [show pos + 1 + (i - 1) = pos + i by omega] at this
        exact this
    · cases h
theorem qVf_lt {hb : Nat → Bool} : ∀ (m pos p : Nat), qVf hb m pos = some p → p < 32 ∧ hb p = false := by
  intro m
  induction m with
  | zero => intro pos p h; cases h
  | succ m ih =>
    intro pos p h
    unfold qVf at h
    split at h
    · exact ih _ _ h
    · rename_i z
      cases h
      refine ⟨by omega, ?_⟩
      cases y : hb (pos % 32)
      · rfl
      · exact absurd y z
theorem qVf_some {hb : Nat → Bool} (h : qCt hb 32 < 32) (pos : Nat) : ∃ p, qVf hb 32 pos = some p := by
  cases e : qVf hb 32 pos with
  | some p => exact ⟨p, rfl⟩
  | none =>
    exfalso
    have a := qVf_none 32 pos e
    have b : qCt hb 32 = 32 := by
      refine qCt_all 32 (fun p hp => ?_)
      have := a ((p + 32 - pos % 32) % 32) (by omega)
      rw [show (pos + (p + 32 - pos % 32) % 32) % 32 = p by omega] at this
      exact this
    omega
section PI
variable {σ μ : Nat → Int32} {α β : Nat → Nat → Int32} {hb : Nat → Bool}
theorem x_varOld {post : Int32 → gS → Prop} {v w : Nat} (hv : v < 16) (h : ¬ α 27 v = -1) (hp : post (α 27 v) (σ, α)) : wp_Pl_variablePlace σ α (nI v) (nI w) post := by
  unfold wp_Pl_variablePlace
  intro X hX
  apply hX
  unfold wp_Pl_variablePlace_B2 wp_Pl_variablePlace_J59
  rw [nI_clamp (by omega)]
  exact br_f (by decide) ⟨vp_in_nI (by omega) (by decide), bs_f h ⟨vp_in_nI (by omega) (by decide), hp⟩⟩
theorem x_varNew {post : Int32 → gS → Prop} {v w p : Nat} (hv : v < 16) (hw : w < 32) (hh : ∀ q, q < 32 → (α 26 q = -1 ↔ hb q = false)) (h : α 27 v = -1) (hq : qVf hb 32 w = some p) (hp : post (nI p) (σ, va_up (va_up α 26 (upd (α 26) p (nI v))) 27 (upd (α 27) v (nI p)))) : wp_Pl_variablePlace σ α (nI v) (nI w) post := by
  unfold wp_Pl_variablePlace
  have hp32 := (qVf_lt _ _ _ hq).1
  have vv : vp_in (nI v) 16 := vp_in_nI (by omega) (by decide)
  have key : ∀ (m st : Nat), st + m = 32 → qVf hb m (w + st) = some p → wp_Pl_variablePlace_L2 σ α (nI v) (nI w) (nI st) post := by
    intro m st hst hqm X hX
    induction m generalizing st with
    | zero => cases hqm
    | succ m ih =>
      apply hX
      unfold wp_Pl_variablePlace_B2 wp_Pl_variablePlace_J53
      rw [q_pl w st (by omega), nI_clamp (by omega), nI_clamp (by omega), io1, nI_1]
      have vq : vp_in (nI ((w + st) % 32)) 32 := vp_in_nI (by omega) (by decide)
      refine br_f (nI_ge (b := 32) (by omega) (by decide)) ⟨vv, bs_t h ⟨vq, fun z => ?_, fun z => ⟨vq, vv, ?_⟩⟩⟩
      · unfold qVf at hqm
        have y : hb ((w + st) % 32) = true := by
          cases e : hb ((w + st) % 32)
          · exact absurd ((hh _ (by omega)).mpr e) z
          · rfl
        rw [if_pos y] at hqm
        exact ih (st + 1) (by omega) hqm
      · unfold qVf at hqm
        have y : ¬ hb ((w + st) % 32) = true := by
          rw [(hh _ (by omega)).mp z]
          decide
        rw [if_neg y] at hqm
        have e : (w + st) % 32 = p := Option.some.inj hqm
        rw [e]
        have fin : wp_Pl_variablePlace_J59 σ (va_up (va_up α 26 (upd (α 26) p (nI v))) 27 (upd (α 27) v (nI p))) (nI v) post := by
          unfold wp_Pl_variablePlace_J59
          rw [nI_clamp (by omega)]
          refine ⟨vv, ?_⟩
          show post (upd (α 27) v (nI p) v) _
          rw [pk_us]
          exact hp
        apply hX
        unfold wp_Pl_variablePlace_B2
        refine ⟨fun _ => fin, fun _ => ⟨vv, bs_f ?_ fin⟩⟩
        rw [nI_clamp (by omega)]
        show ¬ upd (α 27) v (nI p) v = -1
        rw [pk_us]
        intro z2
        have := nI_pos (n := p) (by omega)
        rw [z2] at this
        exact this (by decide)
  exact key 32 0 (by omega) hq
theorem m_varOld {post : Int32 → gS → Prop} {v w p : Nat} (hv : v < 16) (hp32 : p < 32) (h : β 19 v = nI p) (hp : post (nI p) (μ, va_up β 18 (upd (β 18) p (vp_nar .boolean 1)))) : wp_Md_variableFrom μ β (nI v) (nI w) post := by
  unfold wp_Md_variableFrom
  intro X hX
  apply hX
  unfold wp_Md_variableFrom_B5
  have vv : vp_in (nI v) 16 := vp_in_nI (by omega) (by decide)
  rw [nI_clamp (by omega), h, nI_clamp (by omega)]
  exact ⟨vv, br_t (nI_pos' (by omega)) ⟨vv, vp_in_nI hp32 (by decide), vv, hp⟩⟩
theorem m_varNew {post : Int32 → gS → Prop} {v w p : Nat} (hv : v < 16) (hw : w < 2 ^ 20) (hh : ∀ q, q < 32 → (β 18 q = 0 ↔ hb q = false)) (h : β 19 v = -1) (hq : qVf hb 32 w = some p) (hp : post (nI p) (μ, va_up (va_up β 19 (upd (β 19) v (nI p))) 18 (upd (β 18) p (vp_nar .boolean 1)))) : wp_Md_variableFrom μ β (nI v) (nI w) post := by
  unfold wp_Md_variableFrom
  have hp32 := (qVf_lt _ _ _ hq).1
  have vv : vp_in (nI v) 16 := vp_in_nI (by omega) (by decide)
  have key : ∀ (m pos : Nat), pos + m < 2 ^ 21 → qVf hb m pos = some p → wp_Md_variableFrom_L5 μ β (nI v) (nI (pos % 32)) post := by
    intro m pos hm hqm X hX
    induction m generalizing pos with
    | zero => cases hqm
    | succ m ih =>
      apply hX
      unfold wp_Md_variableFrom_B5 wp_Md_variableFrom_J30
      have e1 : (nI (pos % 32) + 1) &&& 31 = nI ((pos + 1) % 32) := by
        have := q_pl (pos % 32) 1 (by omega)
        rw [show (pos % 32 + 1) % 32 = (pos + 1) % 32 by omega] at this
        exact this
      have vq : vp_in (nI (pos % 32)) 32 := vp_in_nI (by omega) (by decide)
      rw [e1, nI_clamp (by omega), nI_clamp (by omega), h]
      refine ⟨vv, br_f (by decide) ⟨vq, fun z => ?_, fun z => ⟨vv, ?_⟩⟩⟩
      · unfold qVf at hqm
        have y : hb (pos % 32) = true := by
          cases e : hb (pos % 32)
          · exact absurd ((hh _ (by omega)).mpr e) z
          · rfl
        rw [if_pos y] at hqm
        exact ih (pos + 1) (by omega) hqm
      · unfold qVf at hqm
        have y : ¬ hb (pos % 32) = true := by
          rw [(hh _ (by omega)).mp z]
          decide
        rw [if_neg y] at hqm
        have e : pos % 32 = p := Option.some.inj hqm
        rw [e]
        apply hX
        unfold wp_Md_variableFrom_B5
        rw [nI_clamp (by omega)]
        have eb : (va_up β 19 (upd (β 19) v (nI p))) 19 v = nI p := pk_us
        rw [eb, nI_clamp (by omega)]
        exact ⟨vv, br_t (nI_pos' (by omega)) ⟨vv, vp_in_nI hp32 (by decide), vv, hp⟩⟩
  have t := key 32 w (by omega) hq
  rw [q_a31 (by omega)]
  exact t
end PI
