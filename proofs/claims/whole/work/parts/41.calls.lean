-- pure rows: the calls without loops
theorem q_in {x : Int32} {n : Nat} (N : Int32) (hN : N.toInt = n) (h0 : ¬ x < 0) (h : x < N) : vp_in x n := by
  rw [vp_in_iff]
  have h1 := Int32.lt_iff_toInt_lt.mp h
  have k : (0 : Int32).toInt = 0 := by decide
  have h2 : ¬ x.toInt < (0 : Int32).toInt := fun z => h0 (Int32.lt_iff_toInt_lt.mpr z)
  rw [k] at h2
  omega
theorem q_upself {γ : Type} (f : Nat → γ) (k : Nat) : va_up f k (f k) = f := by
  funext j
  unfold va_up
  split
  · rename_i h
    rw [h]
  · rfl
theorem q_sub31 (a b : Nat) (ha : a < 2 ^ 31) (hb : b < 2 ^ 31) : (nI a - nI b) &&& 31 = nI ((a + 32 - b % 32) % 32) := by
  rw [pk_and _ 5 (by decide)]
  congr 1
  have e : (nI a - nI b).toBitVec.toNat = (2 ^ 32 - b + a) % 2 ^ 32 := by
    rw [Int32.toBitVec_sub, BitVec.toNat_sub, pk_tn (by omega), pk_tn (by omega)]
  rw [e]
  omega
def qF (l : Int32) : Int32 := if l = 6 then 128 else if l = 7 then 129 else if l = 8 then 130 else (l - 2) * 32
def qP (l : Int32) : Int32 := if 2 ≤ l ∧ l ≤ 5 then 32 else if l = 6 ∨ l = 7 then 1 else if l = 8 then 2 else 0
def qK (l p : Int32) : Int32 := if p < 0 ∨ qP l ≤ p then -1 else qF l + p
section PB
variable {σ μ : Nat → Int32} {α β : Nat → Nat → Int32} {n : Nat} {l p x1 x2 x3 x4 x5 : Int32}
theorem s_placesOf {post : Int32 → gS → Prop} (hp : post (qP l) (σ, α)) : wp_St_placesOf σ α l post := by
  have hp' : ∀ r, r = qP l → post r (σ, α) := fun r e => by rw [e]; exact hp
  simp only [wp_St_placesOf, wp_St_placesOf_J13, wp_St_placesOf_J25, wp_St_placesOf_J38]
  repeat' (first | intro _ | apply And.intro)
  all_goals exact hp' _ (by unfold qP; grind)
theorem s_firstSpot {post : Int32 → gS → Prop} (hp : post (qF l) (σ, α)) : wp_St_firstSpot σ α l post := by
  have hp' : ∀ r, r = qF l → post r (σ, α) := fun r e => by rw [e]; exact hp
  unfold wp_St_firstSpot
  refine ⟨fun h => hp' _ (by rw [h]; decide), fun h => hp' _ (by rw [h]; decide), fun h => hp' _ (by rw [h]; decide), fun h => hp' _ ?_⟩
  have h := q_sw 6 8 (by decide) (by decide) h
  unfold qF
  grind
theorem s_wordSpot {post : Int32 → gS → Prop} (hp : post (qK l p) (σ, α)) : wp_St_wordSpot σ α l p post := by
  have e1 : p < 0 ∨ qP l ≤ p → qK l p = -1 := fun h => if_pos h
  have e2 : ¬ (p < 0 ∨ qP l ≤ p) → qK l p = qF l + p := fun h => if_neg h
  unfold wp_St_wordSpot wp_St_wordSpot_J21 wp_St_wordSpot_J22
  refine ⟨fun h => ?_, fun h => s_placesOf ⟨fun h2 => ?_, fun h2 => s_firstSpot ?_⟩⟩
  · rw [e1 (Or.inl h)] at hp
    exact hp
  · rw [e1 (Or.inr h2)] at hp
    exact hp
  · rw [e2 (fun z => z.elim h h2)] at hp
    exact hp
theorem s_wordAt {post : Int32 → gS → Prop} (hp : post (qK l p) (μ, β)) : wp_Md_wordAt μ β l p post := by
  have hp' : ∀ r, r = qK l p → post r (μ, β) := fun r e => by rw [e]; exact hp
  simp only [wp_Md_wordAt, wp_Md_wordAt_J32, wp_Md_wordAt_J33, wp_Md_wordAt_J34, wp_Md_wordAt_J46, wp_Md_wordAt_J62, wp_Md_wordAt_J78, wp_Md_wordAt_J86, wp_Md_wordAt_J87]
  repeat' (first | intro _ | apply And.intro)
  all_goals exact hp' _ (by unfold qK qF qP; grind)
theorem qK_in (h : ¬ qK l p < 0) : vp_in (qK l p) 132 := by
  refine q_in 132 (by decide) h ?_
  unfold qK qF qP at *
  grind
theorem p_word {Q : Int32 → gS → Int32 → gS → Prop} (hQ : ∀ r u r' u', r = r' ∧ Rel n u.1 u.2 u'.1 u'.2 → Q r u r' u') (h : Rel n σ α μ β) : wp_Dm_word σ α x1 x2 x3 (fun r u => wp_Md_word μ β x1 x2 x3 (Q r u)) := by
  unfold wp_Dm_word wp_Md_word wp_Md_word_J20 wp_Md_word_J30
  refine s_wordSpot ⟨fun h0 => ?_, fun h0 => ?_⟩
  · have hq : ¬ qK x1 x2 < 0 := by grind
    obtain ⟨hN, hM, hG, hF, hL, hO, hW, hD, hP, hU, hS, hK, hR⟩ := h
    refine ⟨qK_in hq, s_wordAt (br_f hq ⟨qK_in hq, br_f hq ⟨rfl, hQ _ _ _ _ ⟨rfl, hN, hM, hG, hF, hL, hO, ?_, hD, hP, hU, hS, hK, hR⟩⟩⟩)⟩
    show rWrd (upd (α 3) _ _) (upd (β 2) _ _)
    exact ⟨by rw [hW.1], qS_upd hW.2 (qS_nar _)⟩
  · have hq : qK x1 x2 < 0 := by grind
    exact s_wordAt (br_t hq (br_t hq ⟨rfl, hQ _ _ _ _ ⟨rfl, h⟩⟩))
theorem p_peek {Q : Int32 → gS → Int32 → gS → Prop} (hQ : ∀ r u r' u', r = r' ∧ Rel n u.1 u.2 u'.1 u'.2 → Q r u r' u') (h : Rel n σ α μ β) : wp_Dm_peek σ α x1 x2 (fun r u => wp_Md_peek μ β x1 x2 (Q r u)) := by
  unfold wp_Dm_peek wp_Dm_peek_J23 wp_Md_peek wp_Md_peek_J20
  have hW := h.2.2.2.2.2.2.1
  refine s_wordSpot ⟨fun h0 => ?_, fun h0 => ⟨rfl, s_wordAt (br_f h0 ⟨rfl, hQ _ _ _ _ ⟨rfl, h⟩⟩)⟩⟩
  have hq : ¬ qK x1 x2 < 0 := by grind
  refine ⟨qK_in hq, hW.2 _, s_wordAt (br_t h0 ⟨qK_in hq, ?_, hQ _ _ _ _ ⟨?_, h⟩⟩)⟩
  · show qS (β 2 _)
    rw [← hW.1]
    exact hW.2 _
  · show α 3 _ = β 2 _
    rw [hW.1]
theorem p_card {Q : Int32 → gS → Int32 → gS → Prop} (hQ : ∀ r u r' u', r = r' ∧ Rel n u.1 u.2 u'.1 u'.2 → Q r u r' u') (h : Rel n σ α μ β) : wp_Dm_card σ α x1 (fun r u => wp_Md_card μ β x1 (Q r u)) := by
  unfold wp_Dm_card wp_Rd_addRow wp_Md_card
  obtain ⟨hN, hM, hG, hF, hL, hO, hW, hD, hP, hU, hS, hK, hR⟩ := h
  have hD0 := hD
  obtain ⟨c, t, htc, hc, e0, e1, e17, e18, hd, ha, hb, hb4⟩ := hD
  refine ⟨fun q => ?_, fun q => ?_⟩
  · have hlt : c < 48 := by
      rw [e0] at q
      exact (nI_ltI (b := 48) (by omega) (by decide)).mp q
    have hv : vp_in (σ 0) 48 := by rw [e0]; exact vp_in_nI hlt (by decide)
    refine ⟨hv, rfl, bs_f ?_ ⟨?_, hQ _ _ _ _ ⟨rfl, hN, hM, hG, hF, hL, hO, hW, ?_, hP, hU, hS, hK, ?_⟩⟩⟩
    · rw [e18]
      intro z
      have := (nI_eq (a := c) (b := 48) (by omega) (by decide)).mp z
      omega
    · rw [e17]
      exact vp_in_nI (by omega) (by decide)
    · show rDeck (σ 0 + 1) (σ 1) (upd (α 5) (σ 0).toNatClampNeg (vp_nar .short x1)) (μ 17 + 1) (μ 18 + 1) (upd (β 3) (μ 17).toNatClampNeg (vp_nar .short x1)) (β 4)
      rw [e0, e17, e18, nI_clamp (by omega), nI_clamp (by omega), nI_1, nI_1]
      refine ⟨c + 1, t, by omega, by omega, rfl, e1, ?_, rfl, ?_, qS_upd ha (qS_nar _), qS_upd hb (qS_nar _), hb4⟩
      · rw [show c + 1 - t = c - t + 1 by omega]
      · intro j hj
        by_cases z : j = c - t
        · rw [z, pk_us, show t + (c - t) = c by omega, pk_us]
        · rw [pk_un z, pk_un (by omega)]
          exact hd j (by omega)
    · intro g
      obtain ⟨r1, r2, r3⟩ := hR g
      refine ⟨r1, r2, ?_⟩
      show rCard n (σ 2) (σ 3) (σ 4) (σ 1) (upd (α 5) (σ 0).toNatClampNeg (vp_nar .short x1)) (μ 19) (μ 20) (β 4)
      rcases r3 with r | ⟨f, t', k1, k2, k3, k4, k5, k6, k7, k8, k9, k10, k11, k12, k13⟩
      · exact Or.inl r
      · refine Or.inr ⟨f, t', k1, k2, k3, k4, k5, k6, k7, k8, fun i hi => ?_, k10, k11, k12, k13⟩
        have ht : t' = t := (nI_eq (by omega) (by omega)).mp (k6.symm.trans e1)
        rw [k9 i hi, pk_un]
        rw [e0, nI_clamp (by omega)]
        omega
  · refine ⟨rfl, bs_t ?_ (hQ _ _ _ _ ⟨rfl, hN, hM, hG, hF, hL, hO, hW, hD0, hP, hU, hS, hK, hR⟩)⟩
    have hc2 : c = 48 := by
      rcases Nat.lt_or_ge c 48 with z | z
      · exact absurd (by rw [e0]; exact nI_lt z (by decide)) q
      · omega
    rw [e18, hc2]
    rfl
theorem p_punched {Q : Int32 → gS → Int32 → gS → Prop} (hQ : ∀ r u r' u', r = r' ∧ Rel n u.1 u.2 u'.1 u'.2 → Q r u r' u') (h : Rel n σ α μ β) : wp_Dm_punched σ α x1 (fun r u => wp_Md_punched μ β x1 (Q r u)) := by
  unfold wp_Dm_punched wp_Dm_punched_J15 wp_Dm_punched_J28 wp_Md_punched wp_Md_punched_J12 wp_Md_punched_J22
  obtain ⟨e7, hq7, k, hk, e5, e21, -⟩ := h.2.2.2.2.2.2.2.2.1
  have e : σ 5 = μ 21 := by rw [e5, e21]
  refine ⟨fun q => ⟨rfl, br_t q ⟨rfl, hQ _ _ _ _ ⟨rfl, h⟩⟩⟩, fun q => ⟨fun q2 => ?_, fun q2 => ⟨rfl, br_f q (br_f (by rw [← e]; exact q2) ⟨rfl, hQ _ _ _ _ ⟨rfl, h⟩⟩)⟩⟩⟩
  have hv : vp_in x1 60 := by
    obtain ⟨j, hj, rfl⟩ := nI_of q
    rw [e5] at q2
    have := (nI_ltI hj (by omega)).mp q2
    exact vp_in_nI (by omega) (by decide)
  refine ⟨hv, hq7 _, br_f q (br_t (by rw [← e]; exact q2) ⟨hv, ?_, hQ _ _ _ _ ⟨?_, h⟩⟩)⟩
  · show qS (β 5 _)
    rw [← e7]
    exact hq7 _
  · show α 7 _ = β 5 _
    rw [e7]
def qX (σ : Nat → Int32) (x : Int32) : Int32 := if x = 0 then (if σ 7 = 0 then 0 else 1) else if x = 1 then σ 8 else if x = 2 then σ 9 else if x = 3 then σ 12 else if x = 4 then σ 13 else if x = 5 then σ 14 else if x = 6 then σ 0 - σ 1 else if x = 7 then σ 5 else if x = 8 then σ 16 else -1
def qL (μ : Nat → Int32) (x : Int32) : Int32 := if x = 0 then (if μ 1 = 0 then 0 else 1) else if x = 1 then μ 2 else if x = 2 then μ 0 else if x = 3 then (if μ 7 = 0 then -1 else μ 5) else if x = 4 then (if μ 7 = 0 then -1 else μ 6) else if x = 5 then μ 7 else if x = 6 then μ 17 else if x = 7 then μ 21 else if x = 8 then μ 15 else -1
theorem x_look {post : Int32 → gS → Prop} (hp : post (qX σ x1) (σ, α)) : wp_Dm_look σ α x1 post := by
  have hp' : ∀ r, r = qX σ x1 → post r (σ, α) := fun r e => by rw [e]; exact hp
  simp only [wp_Dm_look, wp_Dm_look_J67, wp_Rd_rowsLeft]
  refine ⟨fun e => ⟨fun e2 => ?_, fun e2 => ?_⟩, fun e => ?_, fun e => ?_, fun e => ?_, fun e => ?_, fun e => ?_, fun e => ?_, fun e => ?_, fun e => ?_, fun e => ?_⟩
  all_goals first
    | exact hp' _ (by unfold qX; grind)
    | (have e := q_sw 0 8 (by decide) (by decide) e
       exact hp' _ (by unfold qX; grind))
theorem m_look {post : Int32 → gS → Prop} (hp : post (qL μ x1) (μ, β)) : wp_Md_look μ β x1 post := by
  have hp' : ∀ r, r = qL μ x1 → post r (μ, β) := fun r e => by rw [e]; exact hp
  simp only [wp_Md_look, wp_Md_look_J64, wp_Md_look_J90, wp_Md_look_J106]
  refine ⟨fun e => ⟨fun e2 => ?_, fun e2 => ?_⟩, fun e => ?_, fun e => ?_, fun e => ⟨fun e2 => ?_, fun e2 => ?_⟩, fun e => ⟨fun e2 => ?_, fun e2 => ?_⟩, fun e => ?_, fun e => ?_, fun e => ?_, fun e => ?_, fun e => ?_⟩
  all_goals first
    | exact hp' _ (by unfold qL; grind)
    | (have e := q_sw 0 8 (by decide) (by decide) e
       exact hp' _ (by unfold qL; grind))
theorem p_look {Q : Int32 → gS → Int32 → gS → Prop} (hQ : ∀ r u r' u', r = r' ∧ Rel n u.1 u.2 u'.1 u'.2 → Q r u r' u') (hn : n < 2 ^ 30) (h : Rel n σ α μ β) : wp_Dm_look σ α x1 (fun r u => wp_Md_look μ β x1 (Q r u)) := by
  refine x_look (m_look (hQ _ _ _ _ ⟨?_, h⟩))
  obtain ⟨hN, hM, hG, hF, hL, hO, hW, hD, hP, hU, hS, hK, hR⟩ := h
  obtain ⟨eG, -⟩ := hG
  obtain ⟨c, t, htc, hc, e0, e1, e17, -⟩ := hD
  obtain ⟨-, -, k, -, e5, e21, -⟩ := hP
  obtain ⟨-, w, -, e16, e15⟩ := hU
  obtain ⟨e14, q, hq, e7, hz, hp⟩ := hL
  have a1 : σ 9 = μ 0 := by rw [hN, hM]
  have a2 : σ 0 - σ 1 = μ 17 := by rw [e0, e1, e17, pk_sub htc]
  have a3 : σ 5 = μ 21 := by rw [e5, e21]
  have a4 : σ 16 = μ 15 := by rw [e16, e15]
  have a5 : σ 12 = (if μ 7 = 0 then -1 else μ 5) ∧ σ 13 = (if μ 7 = 0 then -1 else μ 6) := by
    rcases Nat.eq_zero_or_pos q with z | z
    · have e : μ 7 = 0 := by rw [e7, z]; rfl
      rw [if_pos e, if_pos e]
      exact hz z
    · have e : ¬ μ 7 = 0 := by rw [e7]; exact nI_ne0 z (by omega)
      rw [if_neg e, if_neg e]
      exact hp z
  unfold qX qL
  rw [eG, hF, a1, a5.1, a5.2, e14, a2, a3, a4]
-- statements
def qV (x : Int32) : Prop := ¬ x < 0 ∧ ¬ 16 ≤ x
theorem s_isVariable {post : Int32 → gS → Prop} (hn : ¬ qV x1 → post 0 (σ, α)) (hy : qV x1 → post 1 (σ, α)) : wp_Pr_isVariable σ α x1 post := by
  unfold wp_Pr_isVariable wp_Pr_isVariable_J14 wp_Pr_isVariable_J15
  exact ⟨fun h => ⟨rfl, hn (fun q => q.1 h)⟩, fun h => ⟨fun h2 => ⟨rfl, hn (fun q => q.2 h2)⟩, fun h2 => ⟨rfl, hy ⟨h, h2⟩⟩⟩⟩
theorem s_isVariableM {post : Int32 → gS → Prop} (hn : ¬ qV x1 → post 0 (μ, β)) (hy : qV x1 → post 1 (μ, β)) : wp_Md_isVariable μ β x1 post := by
  unfold wp_Md_isVariable wp_Md_isVariable_J14 wp_Md_isVariable_J15
  exact ⟨fun h => ⟨rfl, hn (fun q => q.1 h)⟩, fun h => ⟨fun h2 => ⟨rfl, hn (fun q => q.2 h2)⟩, fun h2 => ⟨rfl, hy ⟨h, h2⟩⟩⟩⟩
theorem qV_nI (h : qV x1) : ∃ j : Nat, j < 16 ∧ x1 = nI j := by
  obtain ⟨i, hi, rfl⟩ := nI_of h.1
  exact ⟨i, Nat.lt_of_not_le (fun z => h.2 (nI_le z hi)), rfl⟩
def qG (x1 x5 : Int32) : Prop := x1 = 4 → ¬ x5 < 0 ∧ ¬ 12 ≤ x5
def qT (x1 x2 x3 x4 x5 : Int32) : Prop := (¬ x1 < 0 ∧ ¬ 7 ≤ x1) ∧ qV x2 ∧ qV x3 ∧ qV x4 ∧ qG x1 x5
def qSt (f : Nat → Nat → Int32) (a b c d e k : Nat) (x1 x2 x3 x4 x5 : Int32) : Nat → Nat → Int32 := va_up (va_up (va_up (va_up (va_up f a (upd (f a) k x1)) b (upd (f b) k x2)) c (upd (f c) k x3)) d (upd (f d) k x4)) e (upd (f e) k x5)
theorem x_statement {post : Int32 → gS → Prop} (hn : ¬ (¬ 12 ≤ σ 28 ∧ qT x1 x2 x3 x4 x5) → post (-1) (σ, α)) (hy : ¬ 12 ≤ σ 28 → qT x1 x2 x3 x4 x5 → vp_in (σ 28) 12 ∧ post (σ 28 + 1 - 1) (va_up σ 28 (σ 28 + 1), qSt α 13 14 15 16 17 (σ 28).toNatClampNeg x1 x2 x3 x4 x5)) : wp_Pr_addStatement σ α x1 x2 x3 x4 x5 post := by
  have J68 : ∀ a6 a7 t0 : Int32, (¬ a6 = 0 → ¬ a7 = 0 → ¬ t0 = 0 → qT x1 x2 x3 x4 x5) → (a6 = 0 ∨ a7 = 0 ∨ t0 = 0 → ¬ qT x1 x2 x3 x4 x5) → wp_Pr_addStatement_J68 σ α x1 x2 x3 x4 x5 a6 a7 t0 post := by
    intro a6 a7 t0 g b
    unfold wp_Pr_addStatement_J68 wp_Pr_addStatement_J94
    refine ⟨fun h => hn (fun z => z.1 h), fun h => ⟨fun h2 => hn (fun z => b (Or.inl h2) z.2), fun h2 => ⟨fun h3 => hn (fun z => b (Or.inr (Or.inl h3)) z.2), fun h3 => ⟨fun h4 => ?_, fun h4 => hn (fun z => b (Or.inr (Or.inr h4)) z.2)⟩⟩⟩⟩
    have k := hy h (g h2 h3 h4)
    exact ⟨k.1, k.1, k.1, k.1, k.1, k.2⟩
  have J44 : ∀ a6 a7 : Int32, (¬ a6 = 0 ↔ (¬ x1 < 0 ∧ ¬ 7 ≤ x1)) → (¬ a7 = 0 ↔ (qV x2 ∧ qV x3 ∧ qV x4)) → wp_Pr_addStatement_J44 σ α x1 x2 x3 x4 x5 a6 a7 post := by
    intro a6 a7 g6 g7
    have b6 : a6 = 0 → ¬ (¬ x1 < 0 ∧ ¬ 7 ≤ x1) := fun e z => (g6.mpr z) e
    have b7 : a7 = 0 → ¬ (qV x2 ∧ qV x3 ∧ qV x4) := fun e z => (g7.mpr z) e
    have Y : qG x1 x5 → wp_Pr_addStatement_J68 σ α x1 x2 x3 x4 x5 a6 a7 1 post := fun q => J68 a6 a7 1 (fun h6 h7 _ => ⟨g6.mp h6, (g7.mp h7).1, (g7.mp h7).2.1, (g7.mp h7).2.2, q⟩) (fun z t => by
      rcases z with z | z | z
      · exact b6 z t.1
      · exact b7 z ⟨t.2.1, t.2.2.1, t.2.2.2.1⟩
      · exact absurd z (by decide))
    have Z : ¬ qG x1 x5 → wp_Pr_addStatement_J68 σ α x1 x2 x3 x4 x5 a6 a7 0 post := fun q => J68 a6 a7 0 (fun _ _ h => absurd rfl h) (fun _ t => q t.2.2.2.2)
    unfold wp_Pr_addStatement_J44 wp_Pr_addStatement_J63 wp_Pr_addStatement_J67
    exact ⟨fun h => Y (fun e => absurd e h), fun h => ⟨fun h2 => Z (fun q => (q h).1 h2), fun h2 => ⟨fun h3 => Z (fun q => (q h).2 h3), fun h3 => Y (fun _ => ⟨h2, h3⟩)⟩⟩⟩
  have J15 : ∀ a6 : Int32, (¬ a6 = 0 ↔ (¬ x1 < 0 ∧ ¬ 7 ≤ x1)) → wp_Pr_addStatement_J15 σ α x1 x2 x3 x4 x5 a6 post := by
    intro a6 g6
    have N : ¬ (qV x2 ∧ qV x3 ∧ qV x4) → wp_Pr_addStatement_J44 σ α x1 x2 x3 x4 x5 a6 0 post := fun q => J44 a6 0 g6 ⟨fun z => absurd rfl z, fun z => absurd z q⟩
    unfold wp_Pr_addStatement_J15 wp_Pr_addStatement_J43
    refine s_isVariable (fun q => br_t rfl (N (fun z => q z.1))) (fun q2 => br_f (by decide) ?_)
    refine s_isVariable (fun q => br_t rfl (N (fun z => q z.2.1))) (fun q3 => br_f (by decide) ?_)
    refine s_isVariable (fun q => br_t rfl (N (fun z => q z.2.2))) (fun q4 => br_f (by decide) ?_)
    exact J44 a6 1 g6 ⟨fun _ => ⟨q2, q3, q4⟩, fun _ => by decide⟩
  unfold wp_Pr_addStatement wp_Pr_addStatement_J14
  refine ⟨fun h => J15 0 ⟨fun z => absurd rfl z, fun z => absurd h z.1⟩, fun h => ⟨fun h2 => J15 0 ⟨fun z => absurd rfl z, fun z => absurd h2 z.2⟩, fun h2 => J15 1 ⟨fun _ => ⟨h, h2⟩, fun _ => by decide⟩⟩⟩
theorem m_statement {post : Int32 → gS → Prop} (hn : ¬ (¬ μ 23 = 12 ∧ qT x1 x2 x3 x4 x5) → post (-1) (μ, β)) (hy : ¬ μ 23 = 12 → qT x1 x2 x3 x4 x5 → vp_in (μ 23) 12 ∧ post (μ 23 + 1 - 1) (va_up μ 23 (μ 23 + 1), qSt β 6 7 8 9 10 (μ 23).toNatClampNeg x1 x2 x3 x4 x5)) : wp_Md_statement μ β x1 x2 x3 x4 x5 post := by
  have N : ¬ qT x1 x2 x3 x4 x5 → wp_Md_statement_J54 μ β x1 x2 x3 x4 x5 0 post := by
    intro q
    unfold wp_Md_statement_J54 wp_Md_statement_J70
    exact ⟨fun h => hn (fun z => z.1 h), fun h => ⟨fun h2 => absurd rfl h2, fun _ => hn (fun z => q z.2)⟩⟩
  have Y : qT x1 x2 x3 x4 x5 → wp_Md_statement_J54 μ β x1 x2 x3 x4 x5 1 post := by
    intro q
    unfold wp_Md_statement_J54 wp_Md_statement_J70
    refine ⟨fun h => hn (fun z => z.1 h), fun h => ⟨fun _ => ?_, fun h2 => absurd h2 (by decide)⟩⟩
    have k := hy h q
    exact ⟨k.1, k.1, k.1, k.1, k.1, k.2⟩
  have s7 : ¬ 6 < x1 ↔ ¬ 7 ≤ x1 := by grind
  have s12 : ¬ 11 < x5 ↔ ¬ 12 ≤ x5 := by grind
  unfold wp_Md_statement wp_Md_statement_J49 wp_Md_statement_J53
  refine ⟨fun h => N (fun q => q.1.1 h), fun h => ⟨fun h2 => N (fun q => (s7.mpr q.1.2) h2), fun h2 => ?_⟩⟩
  refine s_isVariableM (fun q => br_t rfl (N (fun z => q z.2.1))) (fun q2 => br_f (by decide) ?_)
  refine s_isVariableM (fun q => br_t rfl (N (fun z => q z.2.2.1))) (fun q3 => br_f (by decide) ?_)
  refine s_isVariableM (fun q => br_t rfl (N (fun z => q z.2.2.2.1))) (fun q4 => br_f (by decide) ?_)
  refine ⟨fun h3 => Y ⟨⟨h, s7.mp h2⟩, q2, q3, q4, fun e => absurd e h3⟩, fun h3 => ⟨fun h4 => N (fun q => (q.2.2.2.2 h3).1 h4), fun h4 => ⟨fun h5 => N (fun q => (s12.mpr (q.2.2.2.2 h3).2) h5), fun h5 => Y ⟨⟨h, s7.mp h2⟩, q2, q3, q4, fun _ => ⟨h4, s12.mp h5⟩⟩⟩⟩⟩
theorem p_statement {Q : Int32 → gS → Int32 → gS → Prop} (hQ : ∀ r u r' u', r = r' ∧ Rel n u.1 u.2 u'.1 u'.2 → Q r u r' u') (h : Rel n σ α μ β) : wp_Dm_statement σ α x1 x2 x3 x4 x5 (fun r u => wp_Md_statement μ β x1 x2 x3 x4 x5 (Q r u)) := by
  unfold wp_Dm_statement
  have h0 := h
  obtain ⟨hN, hM, hG, hF, hL, hO, hW, hD, hP, hU, hS, hK, hR⟩ := h
  obtain ⟨f1, f2, f3, f4, f5, s, hs, e28, e23, hv⟩ := hS
  have hb : ¬ 12 ≤ σ 28 ↔ s < 12 := by
    rw [e28]
    constructor
    · intro z
      exact Nat.lt_of_not_le (fun y => z (nI_le (a := 12) y (by omega)))
    · intro z
      exact nI_ge (b := 12) z (by decide)
  have hm : ¬ μ 23 = 12 ↔ s < 12 := by
    rw [e23]
    constructor
    · intro z
      have : s ≠ 12 := fun y => z (by rw [y]; rfl)
      omega
    · intro z y
      have := (nI_eq (a := s) (b := 12) (by omega) (by decide)).mp y
      omega
  refine x_statement (fun q => m_statement (fun _ => hQ _ _ _ _ ⟨rfl, h0⟩) (fun a b => absurd ⟨hb.mpr (hm.mp a), b⟩ q)) (fun a q => ?_)
  have hs12 := hb.mp a
  refine ⟨by rw [e28]; exact vp_in_nI hs12 (by decide), m_statement (fun z => absurd ⟨hm.mpr hs12, q⟩ z) (fun _ _ => ⟨by rw [e23]; exact vp_in_nI hs12 (by decide), hQ _ _ _ _ ⟨?_, hN, hM, hG, hF, hL, hO, hW, hD, hP, hU, ?_, hK, hR⟩⟩)⟩
  · rw [e28, e23]
  · show rProg (σ 28 + 1) (μ 23 + 1) (upd (α 13) (σ 28).toNatClampNeg x1) (upd (α 14) (σ 28).toNatClampNeg x2) (upd (α 15) (σ 28).toNatClampNeg x3) (upd (α 16) (σ 28).toNatClampNeg x4) (upd (α 17) (σ 28).toNatClampNeg x5) (upd (β 6) (μ 23).toNatClampNeg x1) (upd (β 7) (μ 23).toNatClampNeg x2) (upd (β 8) (μ 23).toNatClampNeg x3) (upd (β 9) (μ 23).toNatClampNeg x4) (upd (β 10) (μ 23).toNatClampNeg x5)
    rw [e28, e23, nI_clamp (by omega), nI_1]
    refine ⟨by rw [f1], by rw [f2], by rw [f3], by rw [f4], by rw [f5], s + 1, by omega, rfl, rfl, fun j hj => ?_⟩
    by_cases z : j = s
    · subst z
      rw [pk_us, pk_us, pk_us, pk_us, pk_us]
      obtain ⟨q1, q2, q3, q4, q5⟩ := q
      refine ⟨?_, qV_nI q2, qV_nI q3, qV_nI q4, fun e => ?_⟩
      · obtain ⟨i, hi, rfl⟩ := nI_of q1.1
        exact ⟨i, Nat.lt_of_not_le (fun z => q1.2 (nI_le z hi)), rfl⟩
      · obtain ⟨i, hi, rfl⟩ := nI_of (q5 e).1
        exact ⟨i, Nat.lt_of_not_le (fun z => (q5 e).2 (nI_le z hi)), rfl⟩
    · rw [pk_un z, pk_un z, pk_un z, pk_un z, pk_un z]
      exact hv j (by omega)
theorem p_placed {Q : Int32 → gS → Int32 → gS → Prop} (hQ : ∀ r u r' u', r = r' ∧ Rel n u.1 u.2 u'.1 u'.2 → Q r u r' u') (h : Rel n σ α μ β) : wp_Dm_placed σ α x1 (fun r u => wp_Md_placed μ β x1 (Q r u)) := by
  unfold wp_Dm_placed wp_Dm_placed_J10 wp_Dm_placed_J23 wp_Md_placed wp_Md_placed_J12 wp_Md_placed_J22
  obtain ⟨k, hk, e25, hf⟩ := h.2.2.2.2.2.2.2.2.2.2.2.1.1
  refine ⟨fun q => br_t q (hQ _ _ _ _ ⟨rfl, h⟩), fun q => ⟨fun q2 => ?_, fun q2 => br_f q (br_f ?_ (hQ _ _ _ _ ⟨rfl, h⟩))⟩⟩
  · obtain ⟨j, hj, rfl⟩ := nI_of q
    have hj12 : j < 12 := (nI_ltI (b := 12) hj (by decide)).mp q2
    have hv : vp_in (nI j) 12 := vp_in_nI hj12 (by decide)
    refine ⟨hv, br_f q ?_⟩
    have hfj := hf j hj12
    rw [e25]
    rcases Nat.lt_or_ge j k with z | z
    · refine br_t (nI_lt z (by omega)) ⟨hv, hQ _ _ _ _ ⟨?_, h⟩⟩
      show α 22 (nI j).toNatClampNeg = β 20 (nI j).toNatClampNeg
      rw [nI_clamp hj, hfj, if_pos z]
    · refine br_f (nI_nlt z (by omega)) (hQ _ _ _ _ ⟨?_, h⟩)
      show α 22 (nI j).toNatClampNeg = -1
      rw [nI_clamp hj, hfj, if_neg (by omega)]
  · intro z
    obtain ⟨j, hj, rfl⟩ := nI_of q
    rw [e25] at z
    have := (nI_ltI hj (by omega)).mp z
    exact q2 (nI_lt (b := 12) (by omega) (by decide))
theorem p_variable {Q : Int32 → gS → Int32 → gS → Prop} (hQ : ∀ r u r' u', r = r' ∧ Rel n u.1 u.2 u'.1 u'.2 → Q r u r' u') (h : Rel n σ α μ β) : wp_Dm_variable σ α x1 (fun r u => wp_Md_variable μ β x1 (Q r u)) := by
  unfold wp_Dm_variable wp_Dm_variable_J20 wp_Md_variable wp_Md_variable_J10 wp_Md_variable_J20
  have hf := h.2.2.2.2.2.2.2.2.2.2.2.1.2
  have s15 : x1 ≤ 15 ↔ ¬ 16 ≤ x1 := by grind
  refine s_isVariable (fun q => br_t rfl ⟨fun _ => hQ _ _ _ _ ⟨rfl, h⟩, fun a => ⟨fun b => absurd ⟨a, s15.mp b⟩ q, fun _ => hQ _ _ _ _ ⟨rfl, h⟩⟩⟩) (fun q => br_f (by decide) ?_)
  obtain ⟨j, hj, rfl⟩ := qV_nI q
  have hv : vp_in (nI j) 16 := vp_in_nI hj (by decide)
  refine ⟨hv, br_f q.1 (br_t (s15.mpr q.2) ⟨hv, hQ _ _ _ _ ⟨?_, h⟩⟩)⟩
  show α 21 (nI j).toNatClampNeg = β 21 (nI j).toNatClampNeg
  rw [nI_clamp (by omega)]
  exact hf j hj
-- start
theorem m_L73 {post : Int32 → gS → Prop} (j : Nat) (hp0 : j < 32) : ∀ (k d : Nat), d + k < 2 ^ 30 → (d + k) % 32 = j → (∀ i, i < k → (d + i) % 32 ≠ j) → post 1 (va_up (va_up μ 3 (nI (d + k))) 4 l, β) → wp_Md_start_L73 (va_up μ 3 (nI d)) β l (nI j) post := by
  intro k d h1 h2 h3 hp X hX
  induction k generalizing d with
  | zero =>
    apply hX
    show (nI d - nI d / 32 * 32 = nI j → post 1 (va_up (va_up μ 3 (nI d)) 4 l, β)) ∧ (¬ nI d - nI d / 32 * 32 = nI j → X (va_up (va_up μ 3 (nI d)) 3 (nI d + 1)) β l (nI j))
    refine br_t ?_ hp
    have e : nI d - nI d / 32 * 32 = nI (d % 32) := pk_rem (d := 32) (by omega) (by decide) (by decide)
    rw [e]
    congr 1
  | succ k ih =>
    apply hX
    show (nI d - nI d / 32 * 32 = nI j → post 1 (va_up (va_up μ 3 (nI d)) 4 l, β)) ∧ (¬ nI d - nI d / 32 * 32 = nI j → X (va_up (va_up μ 3 (nI d)) 3 (nI d + 1)) β l (nI j))
    refine br_f ?_ ?_
    · have e : nI d - nI d / 32 * 32 = nI (d % 32) := pk_rem (d := 32) (by omega) (by decide) (by decide)
      rw [e]
      intro z
      exact h3 0 (by omega) ((nI_eq (by omega) (by omega)).mp z)
    · rw [bx_uu, nI_1]
      refine ih (d + 1) (by omega) (by rw [← h2]; congr 1; omega) (fun i hi => ?_) ?_
      · have := h3 (i + 1) (by omega)
        rw [show d + 1 + i = d + (i + 1) by omega]
        exact this
      · rw [show d + 1 + k = d + (k + 1) by omega]
        exact hp
theorem m_start {post : Int32 → gS → Prop} (j k d : Nat) (h3 : μ 3 = nI d) (hp0 : j < 32) (h1 : d + k < 2 ^ 30) (h2 : (d + k) % 32 = j) (hk : ∀ i, i < k → (d + i) % 32 ≠ j) (hp : post 1 (va_up (va_up μ 3 (nI (d + k))) 4 l, β)) : wp_Md_start_L73 μ β l (nI j) post := by
  have t := m_L73 (μ := μ) (β := β) (l := l) (post := post) j hp0 k d h1 h2 hk hp
  have e : va_up μ 3 (nI d) = μ := by rw [← h3]; exact q_upself μ 3
  rw [e] at t
  exact t
theorem p_start {Q : Int32 → gS → Int32 → gS → Prop} (hQ : ∀ r u r' u', r = r' ∧ Rel n u.1 u.2 u'.1 u'.2 → Q r u r' u') (hn : n < 2 ^ 29) (h : Rel n σ α μ β) : wp_Dm_start σ α x1 x2 (fun r u => wp_Md_start μ β x1 x2 (Q r u)) := by
  unfold wp_Dm_start wp_Md_start
  refine s_orderSpot (fun q => br_f (by decide) (s_isOrder (fun _ => bs_t rfl (hQ _ _ _ _ ⟨rfl, h⟩)) (fun a => absurd a q))) (fun q => ?_)
  obtain ⟨i, j, hi, hj, rfl, rfl⟩ := qO_nI q
  rw [q_idx]
  refine br_t (nI_pos' (by omega)) ?_
  unfold wp_Mc_begin wp_Wi_close_10 wp_Wi_close_11 wp_Mu_rest wp_Rd_rest
  refine s_isOrder (fun z => absurd q z) (fun _ => bs_f (by decide) ?_)
  obtain ⟨hN, hM, hG, hF, hL, hO, hW, hD, hP, hU, hS, hK, hR⟩ := h
  have hk : ∃ k : Nat, k = (j + 32 - n % 32) % 32 := ⟨_, rfl⟩
  obtain ⟨k, hk⟩ := hk
  refine m_start j k n hM hj (by omega) (by omega) (fun i hi => by omega) ?_
  refine hQ _ _ _ _ ⟨rfl, hN, hM, ⟨rfl, Or.inr rfl⟩, rfl, ⟨rfl, 0, Nat.zero_le _, rfl, fun _ => ⟨rfl, rfl⟩, fun z => absurd z (Nat.lt_irrefl 0)⟩, hO, hW, hD, hP, ⟨hU.1, 0, by omega, rfl, rfl⟩, hS, hK, fun _ => ⟨⟨n + k, ⟨by omega, by omega, ?_, rfl, i, hi, rfl, rfl⟩, Or.inl ⟨⟨rfl, rfl, rfl, rfl⟩, ⟨rfl, rfl, rfl, rfl⟩⟩⟩, Or.inl rfl, Or.inl ⟨rfl, rfl, Or.inl rfl⟩⟩⟩
  show σ 9 + ((nI j - σ 9) &&& 31) = nI (n + k)
  rw [hN, q_sub31 j n (by omega) (by omega), nI_add, ← hk]
end PB
