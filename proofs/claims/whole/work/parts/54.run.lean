-- pure rows: a cycle whole, run
section PG
variable {σ μ : Nat → Int32} {α β : Nat → Nat → Int32} {n : Nat} {a1 a2 : Int32}
theorem c_disc {fb : Int32} (hn : n < 2 ^ 29) (h : St n a1 a2 σ α μ β) (hcov : ¬ (nI n < σ 20 ∨ σ 21 < nI n)) (hfb : fb = 0 ∨ fb = 1) : ∃ σ' μ' : Nat → Int32, (∀ post, post (σ', α) → wp_Mc_discriminate_10 σ α fb post) ∧ (∀ post, post (μ', β) → wp_Md_discriminate μ β fb post) ∧ St n a1 a2 σ' α μ' β := by
  rcases hfb with e | e
  · refine ⟨σ, μ, ?_, ?_, h⟩
    · intro post hp
      unfold wp_Mc_discriminate_10 wp_Mc_discriminate_10_J22
      exact br_t e hp
    · intro post hp
      unfold wp_Md_discriminate wp_Md_discriminate_J22
      exact br_t e hp
  · have e0 : ¬ fb = 0 := by rw [e]; decide
    obtain ⟨⟨hN, hM, hG, hF, hL, hO, hW, hD, hP, hS, hK, d, ⟨d1, d2, d3, d4, d5⟩, hw⟩, hU, hC⟩ := h
    rcases hw with ⟨-, s1, s2, -, -⟩ | ⟨F, hF2, ⟨k, L, V, c1, c2, c3, c4, c5, c6, c7, c8, c9, c10, c11, c12⟩, hb⟩
    · exfalso
      apply hcov
      rw [s1, s2]
      rcases Nat.eq_zero_or_pos n with z | z
      · rw [z]
        exact Or.inl (by decide)
      · exact Or.inr (nI_lt (a := 0) z (by omega))
    · have ev : σ 22 + 1 = nI (V + 1) := by rw [c9, nI_1]
      rcases c12 with ⟨t1, t2⟩ | ⟨t1, t2⟩
      · refine ⟨va_up σ 11 (σ 22 + 1), va_up (va_up μ 3 (μ 3 + 1)) 14 1, ?_, ?_, ⟨hN, hM, hG, hF, hL, hO, hW, hD, hP, hS, hK, V + 1, ⟨by omega, by omega, ev, ?_, d5⟩, Or.inr ⟨F, hF2, ⟨k, L, V, c1, c2, c3, c4, c5, c6, c7, c8, c9, c10, c11, Or.inr ⟨rfl, rfl⟩⟩, hb⟩⟩, hU, hC⟩
        · intro post hp
          unfold wp_Mc_discriminate_10 wp_Mc_discriminate_10_J22
          exact br_f e0 hp
        · intro post hp
          unfold wp_Md_discriminate wp_Md_discriminate_J22
          refine br_f e0 (bs_t t1 (br_t ?_ hp))
          rw [hM, d4]
          exact nI_lt (by omega) (by omega)
        · show μ 3 + 1 = nI (V + 1)
          rw [d4, t2, nI_1]
      · refine ⟨va_up σ 11 (σ 22 + 1), μ, ?_, ?_, ⟨hN, hM, hG, hF, hL, hO, hW, hD, hP, hS, hK, d, ⟨d1, d2, ?_, d4, d5⟩, Or.inr ⟨F, hF2, ⟨k, L, V, c1, c2, c3, c4, c5, c6, c7, c8, c9, c10, c11, Or.inr ⟨t1, t2⟩⟩, hb⟩⟩, hU, hC⟩
        · intro post hp
          unfold wp_Mc_discriminate_10 wp_Mc_discriminate_10_J22
          exact br_f e0 hp
        · intro post hp
          unfold wp_Md_discriminate wp_Md_discriminate_J22
          exact br_f e0 (bs_f (by rw [t1]; decide) hp)
        · show σ 22 + 1 = nI d
          rw [ev, t2]
/-- the move of a cycle -/
theorem c_move {wc wb : Nat} {t0 : Int32} (hn : n < 2 ^ 29) (hm : Mid n σ α μ β) (hU : rMul (σ 16) (σ 17) (μ 15)) (hF2 : rFac (μ 15) (σ 15) (μ 16)) (ht : t0 = 0 ∨ t0 = 1) (hC : rCardM n (σ 2) (σ 3) (σ 4) (σ 1) (α 5) (μ 19) t0 (β 4) a1 a2) : ∃ (σ' μ' : Nat → Int32) (α' β' : Nat → Nat → Int32), (∀ post, wp_Mc_goThroughCycle_J62 wc wb σ' α' post → wp_Mc_goThroughCycle_J15 wc wb σ α post) ∧ (∀ post, wp_Md_cycle_J181 μ' β' a1 a2 post → wp_Md_cycle_J57 μ β a1 a2 t0 post) ∧ St n a1 a2 σ' α' μ' β' := by
  have hN : σ 9 = nI n := hm.1
  have hM : μ 0 = nI n := hm.2.1
  have hW : rWrd (α 3) (β 2) := hm.2.2.2.2.2.2.1
  have hD : rDeck (σ 0) (σ 1) (α 5) (μ 17) (μ 18) (β 3) (β 4) := hm.2.2.2.2.2.2.2.1
  have h5 : ∀ j, qS (α 5 j) := by
    obtain ⟨c, t, -, -, -, -, -, -, -, h, -⟩ := hD
    exact h
  obtain ⟨d, hd, hw⟩ := hm.2.2.2.2.2.2.2.2.2.2.2
  have hmul : rMulM (σ 16) (σ 17) (μ 15) (σ 15) (μ 16) := Or.inl ⟨hU.1, hU.2, hF2⟩
  -- the rest of a cycle with the order k
  have GO : ∀ k : Nat, k < 2097152 → ∃ (v t1 : Int32) (σ1 : Nat → Int32), qS v ∧ (∀ P, P v (σ1, α) → wp_Mc_sourceWord σ α (nI (k % 16)) P) ∧ (∀ i, i ≠ 4 → σ1 i = σ i) ∧ St n a1 a2 σ1 α (va_up (va_up μ 20 t0) 20 t1) β ∧ ∀ (lt : Int32) (post : gS → Prop), ((¬ lt = 0 → wp_Md_put (va_up (va_up μ 20 t0) 20 t1) β (nI (k / 16 % 16)) v (fun u178 => wp_Md_cycle_J181 u178.1 u178.2 a1 a2 post)) ∧ (lt = 0 → (nI (k / 16 % 16) = 11 → wp_Md_cycle_J181 (va_up (va_up μ 20 t0) 20 t1) β a1 a2 post) ∧ (¬ nI (k / 16 % 16) = 11 → (nI (k / 16 % 16) = 12 → wp_Md_cycle_J181 (va_up (va_up μ 20 t0) 20 t1) β a1 a2 post) ∧ (¬ nI (k / 16 % 16) = 12 → wp_Md_put (va_up (va_up μ 20 t0) 20 t1) β (nI (k / 16 % 16)) v (fun u178 => wp_Md_cycle_J181 u178.1 u178.2 a1 a2 post))))) → ((nI k < 0 → wp_Md_cycle_J181 (va_up μ 20 t0) β a1 a2 post) ∧ (¬ nI k < 0 → wp_Md_get (va_up μ 20 t0) β (nI k &&& 15) (fun r105 u105 => (¬ u105.1 20 = 0 → wp_Md_cycle_J132 u105.1 u105.2 a1 a2 lt (nI k) r105 post) ∧ (u105.1 20 = 0 → (a1 < 0 → wp_Md_cycle_J136 u105.1 u105.2 a1 a2 lt (nI k) r105 post) ∧ (¬ a1 < 0 → (¬ (nI k &&& 15) = 13 → wp_Md_cycle_J136 u105.1 u105.2 a1 a2 lt (nI k) r105 post) ∧ ((nI k &&& 15) = 13 → wp_Md_cycle_J132 u105.1 u105.2 a1 a2 lt (nI k) r105 post)))))) := by
    intro k hk
    obtain ⟨v, t1, σ1, g1, g2, g3, g4, g5, g6, g7⟩ := c_src (μ := va_up μ 20 t0) (s := k % 16) (by omega) hn hN hM hW h5 ht hC
    refine ⟨v, t1, σ1, g1, g2, ?_, ?_, ?_⟩
    · intro i hi
      rcases g4 with e | e
      · rw [e]
      · rw [e]
        exact va_up_ne σ 1 hi
    · rcases g4 with e | e
      · subst e
        exact ⟨hm, hmul, g7⟩
      · subst e
        exact ⟨hm, hmul, g7⟩
    · intro lt post hp
      have hb : narrow .boolean (.int t1) = .int t1 ∧ fits .boolean (.int t1) = true := by
        rcases g5 with e | e
        · rw [e]; exact ⟨rfl, rfl⟩
        · rw [e]; exact ⟨rfl, rfl⟩
      have J : wp_Md_cycle_J137 (va_up μ 20 t0) β a1 a2 lt (nI k) v t1 post := by
        unfold wp_Md_cycle_J137 wp_Md_cycle_J168
        rw [q_dest (by omega)]
        exact ⟨hb, hp⟩
      refine br_f (nI_pos (by omega)) ?_
      rw [q_src (by omega)]
      refine g3 _ ?_
      refine g6 _ _ (fun e => ?_) (fun e => ?_)
      · rw [e] at J
        exact J
      · rw [e] at J
        exact J
  rcases c_wins hn hw with ⟨w1, w2, w3, w4⟩ | ⟨w1, w2, w3, k, hk, ko, ks, kt⟩ | ⟨w1, w2, w3, k, hk, ko, ks, kt⟩
  · refine ⟨σ, va_up μ 20 t0, α, β, ?_, ?_, hm, hmul, hC⟩
    · intro post hp
      unfold wp_Mc_goThroughCycle_J15
      rw [hN]
      refine x_cov11_no w1 (br_t rfl ?_)
      show wp_Wi_covers_10 σ α (σ 9) _
      rw [hN]
      exact x_cov10_no w2 (br_t rfl hp)
    · intro post hp
      rw [← hM] at w3 w4
      refine m_latest ht (fun _ => ?_) (fun z => absurd w3 z)
      unfold wp_Md_cycle_J87
      exact m_cur_3 w3 w4 (br_t (by decide) hp)
  · -- the order before
    obtain ⟨v, t1, σ1, g1, g2, g4, S2, g6⟩ := GO k hk
    have e24 : σ1 24 = nI (k / 16 % 16) := by rw [g4 24 (by decide)]; exact kt
    have REF : ∀ post : gS → Prop, (((nI (k / 16 % 16) = 11 → wp_Md_cycle_J181 (va_up (va_up μ 20 t0) 20 t1) β a1 a2 post) ∧ (¬ nI (k / 16 % 16) = 11 → (nI (k / 16 % 16) = 12 → wp_Md_cycle_J181 (va_up (va_up μ 20 t0) 20 t1) β a1 a2 post) ∧ (¬ nI (k / 16 % 16) = 12 → wp_Md_put (va_up (va_up μ 20 t0) 20 t1) β (nI (k / 16 % 16)) v (fun u178 => wp_Md_cycle_J181 u178.1 u178.2 a1 a2 post))))) → wp_Md_cycle_J57 μ β a1 a2 t0 post := by
      intro post hp
      rw [← hM] at w2 w3
      refine m_latest ht (fun _ => ?_) (fun z => absurd w2 z)
      unfold wp_Md_cycle_J87
      refine m_cur_2 w2 w3 ?_
      have t := g6 0 post (bs_t rfl hp)
      rw [← ko] at t
      exact t
    have CLS : ∀ (wc wb : Nat) (post : gSW → Prop), wp_Mc_move_11 σ α (fun u34 => wp_Mc_goThroughCycle_J62 wc wb u34.1 u34.2 post) → wp_Mc_goThroughCycle_J15 wc wb σ α post := by
      intro wc wb post hp
      unfold wp_Mc_goThroughCycle_J15
      rw [hN]
      exact x_cov11_yes w1 (br_f (by decide) hp)
    have MV : ∀ (P : gS → Prop), ((nI (k / 16 % 16) = 11 → P (σ1, α)) ∧ (nI (k / 16 % 16) = 12 → P (σ1, α)) ∧ (¬ nI (k / 16 % 16) = 11 ∧ ¬ nI (k / 16 % 16) = 12 → wp_Mc_deliver σ1 α v (nI (k / 16 % 16)) (fun u80 => P (u80.1, u80.2)))) → wp_Mc_move_11 σ α P := by
      intro P hp
      unfold wp_Mc_move_11 wp_Mc_move_11_J51 wp_Mc_move_11_J68 wp_Mc_move_11_J83 wp_Mc_discriminate_11 wp_Mc_discriminate_11_J22
      rw [ks]
      refine g2 _ ?_
      rw [← e24] at hp
      exact ⟨fun z => ⟨fun _ => ⟨fun _ => hp.1 z, fun _ => hp.1 z⟩, fun _ => ⟨fun _ => hp.1 z, fun _ => hp.1 z⟩⟩, fun z => ⟨fun _ => ⟨fun _ => hp.2.1 z, fun _ => hp.2.1 z⟩, fun _ => ⟨fun _ => hp.2.1 z, fun _ => hp.2.1 z⟩⟩, fun z => hp.2.2 z⟩
    by_cases z11 : k / 16 % 16 = 11
    · refine ⟨σ1, va_up (va_up μ 20 t0) 20 t1, α, β, ?_, ?_, S2⟩
      · intro post hp
        refine CLS wc wb post (MV _ ⟨fun _ => hp, fun _ => hp, fun z => absurd ?_ z.1⟩)
        rw [z11]
        rfl
      · intro post hp
        refine REF post (br_t ?_ hp)
        rw [z11]
        rfl
    · have n11 : ¬ nI (k / 16 % 16) = 11 := fun z => z11 ((nI_eq (b := 11) (by omega) (by decide)).mp z)
      by_cases z12 : k / 16 % 16 = 12
      · refine ⟨σ1, va_up (va_up μ 20 t0) 20 t1, α, β, ?_, ?_, S2⟩
        · intro post hp
          refine CLS wc wb post (MV _ ⟨fun _ => hp, fun _ => hp, fun z => absurd ?_ z.2⟩)
          rw [z12]
          rfl
        · intro post hp
          refine REF post (br_f n11 (br_t ?_ hp))
          rw [z12]
          rfl
      · have n12 : ¬ nI (k / 16 % 16) = 12 := fun z => z12 ((nI_eq (b := 12) (by omega) (by decide)).mp z)
        obtain ⟨σ', μ', α', β', f1, f2, f3⟩ := c_put (t := k / 16 % 16) (by omega) z11 z12 g1 hn S2
        refine ⟨σ', μ', α', β', ?_, ?_, f3⟩
        · intro post hp
          exact CLS wc wb post (MV _ ⟨fun z => absurd z n11, fun z => absurd z n12, fun _ => f1 _ hp⟩)
        · intro post hp
          exact REF post (br_f n11 (br_f n12 (f2 _ hp)))
  · -- the order that was read last
    obtain ⟨v, t1, σ1, g1, g2, g4, S2, g6⟩ := GO k hk
    have e19 : σ1 19 = nI (k / 16 % 16) := by rw [g4 19 (by decide)]; exact kt
    have hcov : ¬ (nI n < σ1 20 ∨ σ1 21 < nI n) := by rw [g4 20 (by decide), g4 21 (by decide)]; exact w2
    have REF : ∀ post : gS → Prop, wp_Md_put (va_up (va_up μ 20 t0) 20 t1) β (nI (k / 16 % 16)) v (fun u178 => wp_Md_cycle_J181 u178.1 u178.2 a1 a2 post) → wp_Md_cycle_J57 μ β a1 a2 t0 post := by
      intro post hp
      rw [← hM] at w3
      refine m_latest ht (fun z => absurd z w3) (fun _ => ?_)
      unfold wp_Md_cycle_J87
      refine m_cur_1 w3 ?_
      have t := g6 1 post (bs_f (by decide) hp)
      rw [← ko] at t
      exact t
    have CLS : ∀ (post : gSW → Prop), wp_Mc_move_10 σ α (fun u59 => wp_Mc_goThroughCycle_J62 wc wb u59.1 u59.2 post) → wp_Mc_goThroughCycle_J15 wc wb σ α post := by
      intro post hp
      unfold wp_Mc_goThroughCycle_J15
      rw [hN]
      refine x_cov11_no w1 (br_t rfl ?_)
      show wp_Wi_covers_10 σ α (σ 9) _
      rw [hN]
      exact x_cov10_yes w2 (br_f (by decide) hp)
    have MV : ∀ (P : gS → Prop), ((nI (k / 16 % 16) = 11 → (0 ≤ v → wp_Mc_discriminate_10 σ1 α 0 (fun u51 => P (u51.1, u51.2))) ∧ (¬ 0 ≤ v → wp_Mc_discriminate_10 σ1 α 1 (fun u51 => P (u51.1, u51.2)))) ∧ (nI (k / 16 % 16) = 12 → (v = 0 → wp_Mc_discriminate_10 σ1 α 0 (fun u51 => P (u51.1, u51.2))) ∧ (¬ v = 0 → wp_Mc_discriminate_10 σ1 α 1 (fun u51 => P (u51.1, u51.2)))) ∧ (¬ nI (k / 16 % 16) = 11 ∧ ¬ nI (k / 16 % 16) = 12 → wp_Mc_deliver σ1 α v (nI (k / 16 % 16)) (fun u80 => P (u80.1, u80.2)))) → wp_Mc_move_10 σ α P := by
      intro P hp
      unfold wp_Mc_move_10 wp_Mc_move_10_J51 wp_Mc_move_10_J68 wp_Mc_move_10_J83
      rw [ks]
      refine g2 _ ?_
      rw [← e19] at hp
      exact hp
    by_cases z11 : k / 16 % 16 = 11
    · have fb : ∃ fb : Int32, (fb = 0 ∨ fb = 1) ∧ (0 ≤ v → fb = 0) ∧ (¬ 0 ≤ v → fb = 1) := by
        by_cases z : 0 ≤ v
        · exact ⟨0, Or.inl rfl, fun _ => rfl, fun y => absurd z y⟩
        · exact ⟨1, Or.inr rfl, fun y => absurd y z, fun _ => rfl⟩
      obtain ⟨fb, hfb, fb0, fb1⟩ := fb
      obtain ⟨σ', μ', f1, f2, f3⟩ := c_disc hn S2 hcov hfb
      refine ⟨σ', μ', α, β, ?_, ?_, f3⟩
      · intro post hp
        have q := f1 (fun u51 => wp_Mc_goThroughCycle_J62 wc wb u51.1 u51.2 post) hp
        refine CLS post (MV _ ⟨fun _ => ⟨fun z => ?_, fun z => ?_⟩, fun z => absurd z ?_, fun z => absurd ?_ z.1⟩)
        · rw [fb0 z] at q
          exact q
        · rw [fb1 z] at q
          exact q
        · rw [z11]
          decide
        · rw [z11]
          rfl
      · intro post hp
        have q := f2 (fun u178 => wp_Md_cycle_J181 u178.1 u178.2 a1 a2 post) hp
        refine REF post ?_
        rw [z11]
        unfold wp_Md_put wp_Md_put_J265 wp_Md_put_J187 wp_Md_put_J215
        refine ⟨fun e => absurd e (by decide), fun e => absurd e (by decide), fun e => absurd e (by decide), fun e => absurd e (by decide), fun e => absurd e (by decide), fun e => absurd e (by decide), fun e => absurd e (by decide), fun e => absurd e (by decide), fun e => absurd e (by decide), fun e => absurd e (by decide), fun e => absurd e (by decide), fun _ => bs_t rfl ⟨fun z => ?_, fun z => ?_⟩, fun e => absurd e (by decide), fun e => absurd e (by decide), fun e => absurd e (by decide), fun e => absurd e (by decide)⟩
        · rw [fb0 z] at q
          exact q
        · rw [fb1 z] at q
          exact q
    · have n11 : ¬ nI (k / 16 % 16) = 11 := fun z => z11 ((nI_eq (b := 11) (by omega) (by decide)).mp z)
      by_cases z12 : k / 16 % 16 = 12
      · have fb : ∃ fb : Int32, (fb = 0 ∨ fb = 1) ∧ (v = 0 → fb = 0) ∧ (¬ v = 0 → fb = 1) := by
          by_cases z : v = 0
          · exact ⟨0, Or.inl rfl, fun _ => rfl, fun y => absurd z y⟩
          · exact ⟨1, Or.inr rfl, fun y => absurd y z, fun _ => rfl⟩
        obtain ⟨fb, hfb, fb0, fb1⟩ := fb
        obtain ⟨σ', μ', f1, f2, f3⟩ := c_disc hn S2 hcov hfb
        refine ⟨σ', μ', α, β, ?_, ?_, f3⟩
        · intro post hp
          have q := f1 (fun u51 => wp_Mc_goThroughCycle_J62 wc wb u51.1 u51.2 post) hp
          refine CLS post (MV _ ⟨fun z => absurd z n11, fun _ => ⟨fun z => ?_, fun z => ?_⟩, fun z => absurd ?_ z.2⟩)
          · rw [fb0 z] at q
            exact q
          · rw [fb1 z] at q
            exact q
          · rw [z12]
            rfl
        · intro post hp
          have q := f2 (fun u178 => wp_Md_cycle_J181 u178.1 u178.2 a1 a2 post) hp
          refine REF post ?_
          rw [z12]
          unfold wp_Md_put wp_Md_put_J265 wp_Md_put_J187 wp_Md_put_J215
          refine ⟨fun e => absurd e (by decide), fun e => absurd e (by decide), fun e => absurd e (by decide), fun e => absurd e (by decide), fun e => absurd e (by decide), fun e => absurd e (by decide), fun e => absurd e (by decide), fun e => absurd e (by decide), fun e => absurd e (by decide), fun e => absurd e (by decide), fun e => absurd e (by decide), fun e => absurd e (by decide), fun _ => bs_f (by decide) ⟨fun z => ?_, fun z => ?_⟩, fun e => absurd e (by decide), fun e => absurd e (by decide), fun e => absurd e (by decide)⟩
          · rw [fb0 z] at q
            exact q
          · rw [fb1 z] at q
            exact q
      · have n12 : ¬ nI (k / 16 % 16) = 12 := fun z => z12 ((nI_eq (b := 12) (by omega) (by decide)).mp z)
        obtain ⟨σ', μ', α', β', f1, f2, f3⟩ := c_put (t := k / 16 % 16) (by omega) z11 z12 g1 hn S2
        refine ⟨σ', μ', α', β', ?_, ?_, f3⟩
        · intro post hp
          exact CLS post (MV _ ⟨fun z => absurd z n11, fun z => absurd z n12, fun _ => f1 _ hp⟩)
        · intro post hp
          exact REF post (f2 _ hp)
/-- one cycle -/
theorem c_cycle {wc wb : Nat} (hn : n < 2 ^ 29) (h : Rel n σ α μ β) (g : μ 1 ≠ 0) : ∃ (wc' wb' : Nat) (σ' μ' : Nat → Int32) (α' β' : Nat → Nat → Int32), (∀ post : gSW → Prop, post (wc', wb', σ', α') → wp_Mc_goThroughCycle wc wb σ α post) ∧ (∀ post : gS → Prop, post (μ', β') → wp_Md_cycle μ β post) ∧ Rel (n + 1) σ' α' μ' β' := by
  obtain ⟨wc1, wb1, σ1, μ1, r1, r2, m1, u1, f1, k1⟩ := c_read (wc := wc) (wb := wb) hn h g
  obtain ⟨a1, a2, t0, q1, q2, q3⟩ := c_row (σ := σ1) (α := α) (β := β) hn m1.2.1 k1
  obtain ⟨σ2, μ2, α2, β2, s1, s2, s3⟩ := c_move (wc := wc1) (wb := wb1) hn m1 u1 f1 q2 q3
  obtain ⟨σ3, μ3, α3, β3, v1, v2, m3, u3, f3, k3⟩ := c_mult s3
  obtain ⟨σ4, μ4, e1, e2, m4, u4, f4, k4⟩ := c_end (wc := wc1) (wb := wb1) hn m3 u3 f3 k3
  refine ⟨wc1, wb1, va_up σ4 9 (σ4 9 + 1), va_up μ4 0 (μ4 0 + 1), α3, β3, ?_, ?_, mid_rel m4 u4 f4 k4⟩
  · intro post hp
    refine r1 post (s1 post ?_)
    unfold wp_Mc_goThroughCycle_J62
    exact v1 _ (e1 post hp)
  · intro post hp
    refine r2 post (q1 post (s2 post ?_))
    unfold wp_Md_cycle_J181
    exact v2 _ (e2 post hp)
theorem c_run {N : Nat} (hN : N ≤ 2000) : ∀ (m i : Nat), i + m = N → ∀ (n wc wb : Nat) (σ μ : Nat → Int32) (α β : Nat → Nat → Int32), n + m < 2 ^ 29 → Rel n σ α μ β → ∃ (n' wc' wb' : Nat) (r : Int32) (σ' μ' : Nat → Int32) (α' β' : Nat → Nat → Int32), (∀ post : Int32 → gSW → Prop, post r (wc', wb', σ', α') → wp_Dm_run_L15 wc wb σ α (nI N) (nI i) post) ∧ (∀ post : Int32 → gS → Prop, post r (μ', β') → wp_Md_run_L15 μ β (nI N) (nI i) post) ∧ n' ≤ n + m ∧ Rel n' σ' α' μ' β' := by
  intro m
  induction m with
  | zero =>
    intro i hi n wc wb σ μ α β hn h
    have hle : nI N ≤ nI i := nI_le (by omega) (by omega)
    have e : nI i = nI N := by rw [show i = N by omega]
    refine ⟨n, wc, wb, nI N, σ, μ, α, β, ?_, ?_, by omega, h⟩
    · intro post hp X hX
      apply hX
      unfold wp_Dm_run_B15
      exact br_t hle hp
    · intro post hp X hX
      apply hX
      unfold wp_Md_run_B15 wp_Md_run_J37
      refine br_t hle ?_
      rw [e]
      exact hp
  | succ m ih =>
    intro i hi n wc wb σ μ α β hn h
    have hnle : ¬ nI N ≤ nI i := nI_ge (by omega) (by omega)
    have eg : σ 7 = μ 1 := h.2.2.1.1
    by_cases g : μ 1 = 0
    · have g2 : σ 7 = 0 := by rw [eg]; exact g
      refine ⟨n, wc, wb, nI i, σ, μ, α, β, ?_, ?_, by omega, h⟩
      · intro post hp X hX
        apply hX
        unfold wp_Dm_run_B15
        exact br_f hnle (bs_t g2 hp)
      · intro post hp X hX
        apply hX
        unfold wp_Md_run_B15 wp_Md_run_J37
        exact br_f hnle (br_t g hp)
    · have g2 : ¬ σ 7 = 0 := by rw [eg]; exact g
      obtain ⟨wc1, wb1, σ1, μ1, α1, β1, c1, c2, c3⟩ := c_cycle (wc := wc) (wb := wb) (by omega) h g
      obtain ⟨n', wc', wb', r, σ', μ', α', β', p1, p2, p3, p4⟩ := ih (i + 1) (by omega) (n + 1) wc1 wb1 σ1 μ1 α1 β1 (by omega) c3
      refine ⟨n', wc', wb', r, σ', μ', α', β', ?_, ?_, by omega, p4⟩
      · intro post hp X hX
        apply hX
        unfold wp_Dm_run_B15
        rw [io1, nI_1]
        exact br_f hnle (bs_f g2 (c1 _ (p1 post hp X hX)))
      · intro post hp X hX
        apply hX
        unfold wp_Md_run_B15
        rw [io1, nI_1]
        exact br_f hnle (br_f g (c2 _ (p2 post hp X hX)))
theorem p_run {wc wb : Nat} {x1 : Int32} {Q : Int32 → gSW → Int32 → gS → Prop} (hQ : ∀ r u r' u', (r = r' ∧ ∃ n', n' ≤ n + 2000 ∧ Rel n' u.2.2.1 u.2.2.2 u'.1 u'.2) → Q r u r' u') (hn : n + 2000 < 2 ^ 29) (h : Rel n σ α μ β) : wp_Dm_run wc wb σ α x1 (fun r u => wp_Md_run μ β x1 (Q r u)) := by
  unfold wp_Dm_run wp_Dm_run_J11 wp_Md_run wp_Md_run_J11
  have R : Q (-1) (wc, wb, σ, α) (-1) (μ, β) := hQ _ _ _ _ ⟨rfl, n, by omega, h⟩
  refine ⟨fun z => br_t z R, fun z => ⟨fun y => ?_, fun y => br_f z (br_f y R)⟩⟩
  obtain ⟨N, hN, rfl⟩ := nI_of2 (x := x1) (M := 2000) (n := 2000) (by decide) z y
  obtain ⟨n', wc', wb', r, σ', μ', α', β', p1, p2, p3, p4⟩ := c_run hN N 0 (by omega) n wc wb σ μ α β (by omega) h
  refine p1 _ ?_
  exact br_f z (br_t y (p2 _ (hQ _ _ _ _ ⟨rfl, n', by omega, p4⟩)))
end PG
