-- pure rows: assembling, on both sides
section PW
variable {n : Nat} {σ σ' μ μ' : Nat → Int32} {α α' β β' : Nat → Nat → Int32}
theorem Rel_new (h : Rel n σ α μ β) (hs : ∀ i, i < 29 → σ' i = σ i) (ha : ∀ k, k < 18 → k ≠ 2 → α' k = α k) (hm : ∀ i, i ≠ 24 → i ≠ 25 → μ' i = μ i) (hb : ∀ k, k ≠ 1 → k < 11 → β' k = β k) (hO : rOrd (α' 2) (β' 1)) (hK : rKept (α' 22) (α' 21) (μ' 25) (β' 20) (β' 21)) : Rel n σ' α' μ' β' := by
  obtain ⟨hN, hM, hG, hF, hL, -, hW, hD, hP, hU, hS, -, hR⟩ := h
  refine ⟨?_, ?_, ?_, ?_, ?_, hO, ?_, ?_, ?_, ?_, ?_, hK, ?_⟩
  · rw [hs 9 (by decide)]
    exact hN
  · rw [hm 0 (by decide) (by decide)]
    exact hM
  · rw [hs 7 (by decide), hm 1 (by decide) (by decide)]
    exact hG
  · rw [hs 8 (by decide), hm 2 (by decide) (by decide)]
    exact hF
  · rw [hs 12 (by decide), hs 13 (by decide), hs 14 (by decide), hm 5 (by decide) (by decide), hm 6 (by decide) (by decide), hm 7 (by decide) (by decide)]
    exact hL
  · rw [ha 3 (by decide) (by decide), hb 2 (by decide) (by decide)]
    exact hW
  · rw [hs 0 (by decide), hs 1 (by decide), ha 5 (by decide) (by decide), hm 17 (by decide) (by decide), hm 18 (by decide) (by decide), hb 3 (by decide) (by decide), hb 4 (by decide) (by decide)]
    exact hD
  · rw [hs 5 (by decide), hs 6 (by decide), ha 7 (by decide) (by decide), hm 21 (by decide) (by decide), hm 22 (by decide) (by decide), hb 5 (by decide) (by decide)]
    exact hP
  · rw [hs 16 (by decide), hs 17 (by decide), hm 15 (by decide) (by decide)]
    exact hU
  · rw [hs 28 (by decide), hm 23 (by decide) (by decide), ha 13 (by decide) (by decide), ha 14 (by decide) (by decide), ha 15 (by decide) (by decide), ha 16 (by decide) (by decide), ha 17 (by decide) (by decide), hb 6 (by decide) (by decide), hb 7 (by decide) (by decide), hb 8 (by decide) (by decide), hb 9 (by decide) (by decide), hb 10 (by decide) (by decide)]
    exact hS
  · rw [hm 1 (by decide) (by decide)]
    intro g
    obtain ⟨⟨d, r1, r2⟩, r3, r4⟩ := hR g
    refine ⟨⟨d, ?_, ?_⟩, ?_, ?_⟩
    · rw [hs 11 (by decide), hs 10 (by decide), hm 3 (by decide) (by decide), hm 4 (by decide) (by decide)]
      exact r1
    · rw [hs 18 (by decide), hs 19 (by decide), hs 20 (by decide), hs 21 (by decide), hs 22 (by decide), hs 23 (by decide), hs 24 (by decide), hs 25 (by decide), hs 26 (by decide), hm 8 (by decide) (by decide), hm 9 (by decide) (by decide), hm 10 (by decide) (by decide), hm 11 (by decide) (by decide), hm 12 (by decide) (by decide), hm 13 (by decide) (by decide), hm 14 (by decide) (by decide)]
      exact r2
    · rw [hm 15 (by decide) (by decide), hs 15 (by decide), hm 16 (by decide) (by decide)]
      exact r3
    · rw [hs 2 (by decide), hs 3 (by decide), hs 4 (by decide), hs 1 (by decide), ha 5 (by decide) (by decide), hm 19 (by decide) (by decide), hm 20 (by decide) (by decide), hb 4 (by decide) (by decide)]
      exact r4
theorem x_gotos {P : Int32 → gS → Prop} {s : Nat} (hs : s ≤ 12) (e28 : σ 28 = nI s) (h1 : (∀ j, j < s → α 13 j = 4 → α 17 j < nI s) → P 1 (σ, α)) (h0 : ¬ (∀ j, j < s → α 13 j = 4 → α 17 j < nI s) → P 0 (σ, α)) : wp_Pr_allGotosLead σ α P := by
  unfold wp_Pr_allGotosLead
  have key : ∀ (m j : Nat), j + m = s → (∀ i, i < j → α 13 i = 4 → α 17 i < nI s) → wp_Pr_allGotosLead_L2 σ α (nI j) P := by
    intro m j hj hall X hX
    induction m generalizing j with
    | zero =>
      refine hX _ _ _ ?_
      unfold wp_Pr_allGotosLead_B2
      exact br_t (by rw [e28]; exact nI_le (by omega) (by omega)) (h1 (fun i hi => hall i (by omega)))
    | succ m ih =>
      refine hX _ _ _ ?_
      unfold wp_Pr_allGotosLead_B2 wp_Pr_allGotosLead_J35
      rw [nI_clamp (by omega), io1, nI_1, e28]
      have vj : vp_in (nI j) 12 := vp_in_nI (by omega) (by decide)
      have nx : (α 13 j = 4 → α 17 j < nI s) → X σ α (nI (j + 1)) := fun h => ih (j + 1) (by omega) (fun i hi => by
        by_cases z : i = j
        · rw [z]
          exact h
        · exact hall i (by omega))
      exact br_f (nI_ge (by omega) (by omega)) ⟨vj, fun z => nx (fun y => absurd y z), fun z => ⟨vj, fun y => nx (fun _ => y), fun y => h0 (fun w => y (w j (by omega) z))⟩⟩
  exact key s 0 (by omega) (fun i hi => absurd hi (Nat.not_lt_zero i))
theorem m_can0 {post : Int32 → gS → Prop} {s : Nat} (hs : s ≤ 12) (e23 : μ 23 = nI s) (hp : post (-1) (μ, β)) : ∀ (m j : Nat), j + m = s → wp_Md_assemble_L22 μ β 0 (nI j) post := by
  intro m j hj X hX
  induction m generalizing j with
  | zero =>
    refine hX _ _ _ _ ?_
    unfold wp_Md_assemble_B22
    exact br_t (by rw [e23]; exact nI_le (by omega) (by omega)) (bs_t rfl hp)
  | succ m ih =>
    refine hX _ _ _ _ ?_
    unfold wp_Md_assemble_B22 wp_Md_assemble_J61 wp_Md_assemble_J62
    rw [io1, nI_1]
    exact br_f (by rw [e23]; exact nI_ge (by omega) (by omega)) (br_t rfl (ih (j + 1) (by omega)))
theorem m_can1 {post : Int32 → gS → Prop} {s : Nat} (hs : s ≤ 12) (e23 : μ 23 = nI s) (hy : (∀ j, j < s → β 6 j = 4 → β 10 j < nI s) → wp_Md_listAll μ β (fun u76 => (64 < u76.1 24 → wp_Md_assemble_J95 u76.1 u76.2 post) ∧ (¬ 64 < u76.1 24 → wp_Md_place u76.1 u76.2 (fun r89 u89 => (¬ r89 = 0 → wp_Md_assemble_L99 u89.1 u89.2 0 post) ∧ (r89 = 0 → wp_Md_assemble_J95 u89.1 u89.2 post))))) (hn : ¬ (∀ j, j < s → β 6 j = 4 → β 10 j < nI s) → post (-1) (μ, β)) : wp_Md_assemble_L22 μ β 1 0 post := by
  have key : ∀ (m j : Nat), j + m = s → (∀ i, i < j → β 6 i = 4 → β 10 i < nI s) → wp_Md_assemble_L22 μ β 1 (nI j) post := by
    intro m j hj hall X hX
    induction m generalizing j with
    | zero =>
      refine hX _ _ _ _ ?_
      unfold wp_Md_assemble_B22
      exact br_t (by rw [e23]; exact nI_le (by omega) (by omega)) (bs_f (by decide) (hy (fun i hi => hall i (by omega))))
    | succ m ih =>
      refine hX _ _ _ _ ?_
      unfold wp_Md_assemble_B22 wp_Md_assemble_J57 wp_Md_assemble_J61 wp_Md_assemble_J62
      rw [nI_clamp (by omega), io1, nI_1, e23]
      have vj : vp_in (nI j) 12 := vp_in_nI (by omega) (by decide)
      have nx : (β 6 j = 4 → β 10 j < nI s) → X μ β 1 (nI (j + 1)) := fun h => ih (j + 1) (by omega) (fun i hi => by
        by_cases z : i = j
        · rw [z]
          exact h
        · exact hall i (by omega))
      refine br_f (nI_ge (by omega) (by omega)) (br_f (by decide) ⟨vj, fun z => nx (fun y => absurd y z), fun z => ⟨vj, fun y => ?_, fun y => nx (fun _ => ?_)⟩⟩)
      · refine m_can0 hs e23 (hn (fun w => ?_)) m (j + 1) (by omega) X hX
        have := w j (by omega) z
        grind
      · grind
  exact key s 0 (by omega) (fun i hi => absurd hi (Nat.not_lt_zero i))
theorem m_no {post : Int32 → gS → Prop} {s : Nat} (hs : s ≤ 12) (e23 : μ 23 = nI s) (h : s = 0 ∨ ¬ μ 1 = 0) (hp : post (-1) (μ, β)) : wp_Md_assemble μ β post := by
  unfold wp_Md_assemble wp_Md_assemble_J18 wp_Md_assemble_J19
  have L := m_can0 hs e23 hp s 0 (by omega)
  refine ⟨fun _ => L, fun z => ?_⟩
  rcases h with h | h
  · exact absurd (by rw [e23, h]; exact Int32.le_refl _) z
  · exact bs_f h L
theorem qFw_lt {es eg eo ew o a b cc g : Nat → Int32} {s tot : Nat} {sp wt : Nat → Nat} (htot : (o (s - 1) = 6 ∧ tot = qOff o s) ∨ (¬ o (s - 1) = 6 ∧ tot = qOff o s + 1 ∧ qAt es eg eo ew (qOff o s) 0 1 (-1) (-1))) (hs : s ≤ 12) (hls : ∀ j, j < s → rLs o a b cc es eg eo ew j) (hop : ∀ j, j < s → ∃ k : Nat, k < 7 ∧ o j = nI k) (hg : ∀ j, j < s → o j = 4 → ∃ k : Nat, k < s ∧ g j = nI k) (hsp : ∀ i, i < tot → sp i < 64) (hbw : ∀ i, i < tot → qBb es eg i + 1024 * wt i < 32768) {i : Nat} (hi : i < tot) : ∃ w : Nat, w < 2097152 ∧ qFw (qKd es eg) (qBb es eg) sp wt (qTg o g ew) tot i = nI w := by
  have h1 := hsp i hi
  have h2 := hbw i hi
  unfold qFw
  by_cases z : qKd es eg i = 2
  · rw [if_pos z]
    have hio : i < qOff o s := by
      rcases htot with ⟨-, h⟩ | ⟨-, h, hat⟩
      · omega
      · refine Nat.lt_of_not_le (fun y => ?_)
        rw [show i = qOff o s by omega, qKd_3 hat.2.1] at z
        exact absurd z (by decide)
    have hos : qOff o s ≤ tot := by rcases htot with ⟨-, h⟩ | ⟨-, h, -⟩ <;> omega
    obtain ⟨j, hj, q1, q2⟩ := ent_at s i hio
    obtain ⟨h4, -⟩ := kd2 (hls j hj) (hop j hj) q1 q2 z
    obtain ⟨k, hk, ek⟩ := hg j hj h4
    have eo1 := (ent (hls j hj) (hop j hj) q1 q2).1
    have hT : qTg o g ew i = qOff o k := by
      unfold qTg
      rw [eo1, nI_clamp (n := j) (by omega), ek, nI_clamp (by omega)]
    have hmk := qOff_mono o (show k + 1 ≤ s by omega)
    have hlk : qOff o (k + 1) = qOff o k + qLn (o k) := rfl
    have hl1 := (qLn_in (o k)).1
    have h3 := hsp (qOff o k) (by omega)
    rw [hT]
    refine ⟨_, ?_, rfl⟩
    unfold qLb
    omega
  · rw [if_neg z]
    unfold qCw
    by_cases z3 : qKd es eg i = 3
    · rw [if_pos z3]
      exact ⟨1015824, by decide, rfl⟩
    · rw [if_neg z3, if_neg z]
      by_cases y : qNx (qKd es eg) i < tot
      · rw [if_pos y]
        have h3 := hsp _ y
        refine ⟨_, ?_, rfl⟩
        unfold qLb
        omega
      · rw [if_neg y]
        exact ⟨_, by omega, rfl⟩
theorem c64 : (64 : Int32).toNatClampNeg = 64 := by decide
theorem p_assemble {kp tp : Nat → Nat} {Q : Int32 → gSP → Int32 → gS → Prop} (hQ : ∀ r u r' u', r = r' ∧ Rel n u.2.2.1 u.2.2.2 u'.1 u'.2 → Q r u r' u') (h : Rel n σ α μ β) : wp_Dm_assemble kp tp σ α (fun r u => wp_Md_assemble μ β (Q r u)) := by
  have h0 := h
  obtain ⟨hN, hM, hG, hF, hL, hO, hW, hD, hP, hU, hS, hK, hR⟩ := h
  obtain ⟨f1, f2, f3, f4, f5, s, hs, e28, e23, hv⟩ := hS
  unfold wp_Dm_assemble wp_Dm_assemble_J30
  have NO : (s = 0 ∨ ¬ μ 1 = 0) → wp_Md_assemble μ β (Q (-1) (kp, tp, σ, α)) := fun z => m_no hs e23 z (hQ _ _ _ _ ⟨rfl, h0⟩)
  by_cases hgo : μ 1 = 0
  · have hgo' : σ 7 = 0 := by rw [hG.1]; exact hgo
    refine bs_t hgo' ?_
    rcases Nat.eq_zero_or_pos s with z | hs0
    · exact br_t (by rw [e28, z]; rfl) (NO (Or.inl z))
    · refine br_f (by rw [e28]; exact nI_ne0 hs0 (by omega)) ?_
      have BEG : ∀ post : Int32 → gS → Prop, wp_Md_assemble_L22 μ β 1 0 post → wp_Md_assemble μ β post := by
        intro post hp
        unfold wp_Md_assemble wp_Md_assemble_J19
        exact br_f (by rw [e23]; exact nI_nle hs0 (by omega)) (bs_t hgo hp)
      have same : (∀ j, j < s → α 13 j = 4 → α 17 j < nI s) ↔ (∀ j, j < s → β 6 j = 4 → β 10 j < nI s) := by rw [f1, f5]
      refine x_gotos hs e28 (fun hall => bs_f (by decide) ?_) (fun hno => bs_t rfl ?_)
      · -- every GOTO leads to a statement
        have hval : ∀ j, j < s → (∃ k : Nat, k < 7 ∧ β 6 j = nI k) ∧ (∃ k : Nat, k < 16 ∧ β 7 j = nI k) ∧ (∃ k : Nat, k < 16 ∧ β 8 j = nI k) ∧ (∃ k : Nat, k < 16 ∧ β 9 j = nI k) := by
          intro j hj
          obtain ⟨v1, v2, v3, v4, -⟩ := hv j hj
          rw [f1] at v1
          rw [f2] at v2
          rw [f3] at v3
          rw [f4] at v4
          exact ⟨v1, v2, v3, v4⟩
        have hop : ∀ j, j < s → ∃ k : Nat, k < 7 ∧ β 6 j = nI k := fun j hj => (hval j hj).1
        have hg : ∀ j, j < s → β 6 j = 4 → ∃ k : Nat, k < s ∧ β 10 j = nI k := by
          intro j hj e4
          obtain ⟨-, -, -, -, v5⟩ := hv j hj
          rw [f1, f5] at v5
          obtain ⟨k, hk, ek⟩ := v5 e4
          have := same.mp hall j hj e4
          rw [ek] at this
          exact ⟨k, (nI_ltI (by omega) (by omega)).mp this, ek⟩
        obtain ⟨tot, es, eg, eo, ew, li1, hls, htot⟩ := m_listAll hs0 hs e23 hop
        have hofs := (qOff_le (β 6) s).1
        have ht60 : tot < 60 := by rcases htot with ⟨-, h⟩ | ⟨-, h, -⟩ <;> omega
        have ht64 : ¬ (64 : Int32) < nI tot := nI_nlt (b := tot) (a := 64) (by omega) (by decide)
        have hos : qOff (β 6) s ≤ tot := by rcases htot with ⟨-, h⟩ | ⟨-, h, -⟩ <;> omega
        have q11 : qB β es eg eo ew 11 = es := rfl
        have q12 : qB β es eg eo ew 12 = eg := rfl
        have q13 : qB β es eg eo ew 13 = eo := rfl
        have q14 : qB β es eg eo ew 14 = ew := rfl
        have qk : ∀ k, k < 11 ∨ 14 < k → qB β es eg eo ew k = β k := by
          intro k hk
          unfold qB
          rw [va_up_ne _ _ (by omega), va_up_ne _ _ (by omega), va_up_ne _ _ (by omega), va_up_ne _ _ (by omega)]
        have REF : ∀ post : Int32 → gS → Prop, wp_Md_place (va_up μ 24 (nI tot)) (qB β es eg eo ew) (fun r89 u89 => (¬ r89 = 0 → wp_Md_assemble_L99 u89.1 u89.2 0 post) ∧ (r89 = 0 → wp_Md_assemble_J95 u89.1 u89.2 post)) → wp_Md_assemble μ β post := by
          intro post hp
          refine BEG post (m_can1 hs e23 (fun _ => li1 _ (br_f ht64 hp)) (fun z => absurd (same.mp hall) z))
        rcases c_place (σ := σ) (μ := va_up μ 24 (nI tot)) (α := α) (β := qB β es eg eo ew) hs0 hs ht60 rfl htot hls hval hg e28 q11 q12 q13 f1 f2 f3 f4 f5 with ⟨σ1, α1, β1, k1, k2, k3, k4⟩ | ⟨sp, wt, vp, F, σ1, α1, β1, k1, k2, k3, k4, k5, k6, k7, k8, k9, k10, k11⟩
        · -- it does not fit
          refine k3 _ (bs_t rfl (REF _ (k4 _ (bs_t rfl (hQ _ _ _ _ ⟨rfl, ?_⟩)))))
          have bk : ∀ k, k < 11 ∨ 19 < k → β1 k = β k := fun k hk => (k2 k (by omega)).trans (qk k (by omega))
          refine Rel_new h0 (fun i hi => k1.1 i (by omega)) (fun k hk _ => k1.2 k (by omega)) (fun i hi _ => va_up_ne μ _ hi) (fun k _ hk => bk k (by omega)) ?_ ?_
          · show rOrd (α1 2) (β1 1)
            rw [k1.2 2 (by decide), bk 1 (by decide)]
            exact hO
          · show rKept (α1 22) (α1 21) (va_up μ 24 (nI tot) 25) (β1 20) (β1 21)
            rw [k1.2 22 (by decide), k1.2 21 (by decide), bk 20 (by decide), bk 21 (by decide), va_up_ne μ _ (by decide)]
            exact hK
        · -- it fits
          have hsp : ∀ i, i < tot → sp i < 64 := fun i hi => (k8 i hi).1
          have hbw : ∀ i, i < tot → qBb es eg i + 1024 * wt i < 32768 := fun i hi => (k8 i hi).2.1
          have bk : ∀ k, k < 11 ∨ 19 < k → β1 k = β k := fun k hk => (k2 k (by omega)).trans (qk k (by omega))
          refine k3 _ (bs_f (by decide) (REF _ (k4 _ (bs_f (by decide) ?_))))
          refine m_L99 (m_L121 hs0 hs ht60 rfl htot hls hop hg hsp k9 hbw (fun i hi => (k8 i hi).2.2.1) (bk 10 (by decide)) ((k2 11 (by decide)).trans q11) ((k2 12 (by decide)).trans q12) ((k2 14 (by decide)).trans q14) (fun i hi => (k8 i hi).2.2.2.1) (fun i hi => (k8 i hi).2.2.2.2) (fun G hG1 hG2 => ?_))
          refine m_L150 (sp := sp) hs ht60 hos e23 hls hop ((k2 14 (by decide)).trans q14) (fun i hi => (k8 i hi).2.2.2.1) (fun B20 hB20 => ?_)
          refine m_L182 (fun B21 hB21 => hQ _ _ _ _ ⟨k5, ?_⟩)
          have hFG : ∀ q, q < 64 → F q = G q := by
            intro q hq
            by_cases z : ∃ i, i < tot ∧ q = sp i
            · obtain ⟨i, hi, e⟩ := z
              rw [e, k6 i hi, hG1 i hi]
            · have hno : ∀ i, i < tot → q ≠ sp i := fun i hi e => z ⟨i, hi, e⟩
              rw [k7 q hq hno, hG2 q hno]
              exact (if_pos hq).symm
          refine Rel_new h0 (fun i hi => ?_) (fun k hk hk2 => ?_) (fun i hi hi2 => ?_) (fun k hk hk2 => ?_) ?_ ?_
          · show va_up (va_up (va_up (va_up (va_up (va_up (va_up (va_up σ1 29 _) 30 _) 31 _) 32 _) 33 _) 34 _) 35 _) 36 _ i = σ i
            rw [va_up_ne _ _ (by omega), va_up_ne _ _ (by omega), va_up_ne _ _ (by omega), va_up_ne _ _ (by omega), va_up_ne _ _ (by omega), va_up_ne _ _ (by omega), va_up_ne _ _ (by omega), va_up_ne _ _ (by omega)]
            exact k1.1 i (by omega)
          · show va_up (va_up (va_up (va_up (va_up (va_up (va_up (va_up (va_up (va_up (va_up (va_up α1 25 F) 2 _) 19 _) 20 _) 21 _) 22 _) 23 _) 25 _) 26 _) 27 _) 28 _) 29 _ k = α k
            rw [va_up_ne _ _ (by omega), va_up_ne _ _ (by omega), va_up_ne _ _ (by omega), va_up_ne _ _ (by omega), va_up_ne _ _ (by omega), va_up_ne _ _ (by omega), va_up_ne _ _ (by omega), va_up_ne _ _ (by omega), va_up_ne _ _ (by omega), va_up_ne _ _ (by omega), va_up_ne _ _ (by omega), va_up_ne _ _ (by omega)]
            exact k1.2 k (by omega)
          · show va_up (va_up μ 24 (nI tot)) 25 _ i = μ i
            rw [va_up_ne _ _ hi2, va_up_ne _ _ hi]
          · show va_up (va_up (va_up β1 1 G) 20 B20) 21 B21 k = β k
            rw [va_up_ne _ _ (by omega), va_up_ne _ _ (by omega), va_up_ne _ _ hk]
            exact bk k (by omega)
          · show rOrd (va_cpy F (α1 2) (0 : Int32).toNatClampNeg (0 : Int32).toNatClampNeg (64 : Int32).toNatClampNeg) G
            rw [sb_cl0, c64]
            have inn : ∀ q, q < 64 → va_cpy F (α1 2) 0 0 64 q = F q := fun q hq => sb_cpy0 hq
            refine ⟨?_, fun q hq => ?_⟩
            · funext q
              by_cases hq : q < 64
              · rw [inn q hq]
                exact hFG q hq
              · rw [pk_cpy_out (Or.inr (by omega)), hG2 q (fun i hi e => hq (by rw [e]; exact hsp i hi)), k1.2 2 (by decide), hO.1]
                show β 1 q = gfill 64 1015824 (β1 1) q
                rw [bk 1 (by decide)]
                exact (if_neg hq).symm
            · rw [inn q hq]
              by_cases z : ∃ i, i < tot ∧ q = sp i
              · obtain ⟨i, hi, e⟩ := z
                rw [e, k6 i hi]
                exact qFw_lt htot hs hls hop hg hsp hbw hi
              · rw [k7 q hq (fun i hi e => z ⟨i, hi, e⟩)]
                exact ⟨1015824, by decide, rfl⟩
          · show rKept (α1 28) (α1 27) (va_up μ 24 (nI tot) 23) B20 B21
            refine ⟨⟨s, hs, ?_, fun j hj => ?_⟩, fun v hv2 => ?_⟩
            · rw [va_up_ne μ _ (by decide)]
              exact e23
            · by_cases z : j < s
              · rw [if_pos z, hB20 j z]
                exact k11.1 j z
              · rw [if_neg z]
                exact k11.2.1 j (by omega) hj
            · rw [(k10 v hv2).1, hB21 v hv2]
              exact (k10 v hv2).2.symm
      · exact BEG _ (m_can1 hs e23 (fun z => absurd (same.mpr z) hno) (fun _ => hQ _ _ _ _ ⟨rfl, h0⟩))
  · exact bs_f (by rw [hG.1]; exact hgo) (NO (Or.inr hgo))
end PW
