-- pure rows: destinations
def rMulM (l fr w fx fm : Int32) : Prop := (fr = 0 ∧ (∃ k : Nat, k ≤ 16 ∧ l = nI k ∧ w = nI k) ∧ rFac w fx fm) ∨ (fr = 1 ∧ l = 16 ∧ w = 17 ∧ fx.toInt16.toInt32 = fm ∧ qS fm)
def St (n : Nat) (a1 a2 : Int32) (σ : Nat → Int32) (α : Nat → Nat → Int32) (μ : Nat → Int32) (β : Nat → Nat → Int32) : Prop :=
  Mid n σ α μ β ∧ rMulM (σ 16) (σ 17) (μ 15) (σ 15) (μ 16) ∧ rCardM n (σ 2) (σ 3) (σ 4) (σ 1) (α 5) (μ 19) (μ 20) (β 4) a1 a2
section PE
variable {σ μ : Nat → Int32} {α β : Nat → Nat → Int32} {n : Nat} {a1 a2 : Int32}
theorem c_fail0 (x : Int32) (hF : σ 8 = μ 2) : ∃ s : Int32, (∀ post, post (va_up (va_up σ 7 0) 8 s, α) → wp_Mc_stopBy σ α x post) ∧ (∀ post, post (va_up (va_up μ 1 0) 2 s, β) → wp_Md_fail μ β x post) := by
  by_cases z : σ 8 = 0
  · refine ⟨x, fun post hp => ?_, fun post hp => ?_⟩
    · unfold wp_Mc_stopBy wp_Mc_stopBy_J17
      exact bs_t z hp
    · unfold wp_Md_fail wp_Md_fail_J16
      exact bs_t (by rw [← hF]; exact z) hp
  · refine ⟨σ 8, fun post hp => ?_, fun post hp => ?_⟩
    · have e : va_up (va_up σ 7 0) 8 (σ 8) = va_up σ 7 0 := q_upself (va_up σ 7 0) 8
      rw [e] at hp
      unfold wp_Mc_stopBy wp_Mc_stopBy_J17
      exact bs_f z hp
    · unfold wp_Md_fail wp_Md_fail_J16
      refine bs_f (by rw [← hF]; exact z) ?_
      rw [← hF]
      exact hp
theorem c_fail (x : Int32) (h : St n a1 a2 σ α μ β) : ∃ σ' μ' : Nat → Int32, (∀ post, post (σ', α) → wp_Mc_stopBy σ α x post) ∧ (∀ post, post (μ', β) → wp_Md_fail μ β x post) ∧ St n a1 a2 σ' α μ' β := by
  obtain ⟨⟨hN, hM, hG, hF, hL, hO, hW, hD, hP, hS, hK, hE⟩, hU, hC⟩ := h
  obtain ⟨s, f1, f2⟩ := c_fail0 (α := α) (β := β) x hF
  exact ⟨_, _, f1, f2, ⟨hN, hM, ⟨rfl, Or.inl rfl⟩, rfl, hL, hO, hW, hD, hP, hS, hK, hE⟩, hU, hC⟩
theorem x_J189 {post : gS → Prop} {v : Int32} {s : Nat} (h2 : 2 ≤ s) (h8 : s ≤ 8) (hn : n < 2 ^ 29) (hN : σ 9 = nI n) (hp : post (σ, va_up α 3 (upd (α 3) (qSp n s) (vp_nar .short v)))) : wp_Mc_deliver_J189 σ α v (nI s) post := by
  unfold wp_Mc_deliver_J189 wp_Mc_deliver_J206
  rw [hN]
  have := qSp_lt (n := n) h2 h8
  refine s_presentedSpot h2 h8 hn ⟨vp_in_nI this (by decide), ?_⟩
  rw [nI_clamp (by omega)]
  exact hp
theorem m_J87 {post : gS → Prop} {v : Int32} {s : Nat} (h2 : 2 ≤ s) (h8 : s ≤ 5) (hn : n < 2 ^ 29) (hM : μ 0 = nI n) (hp : post (μ, va_up β 2 (upd (β 2) (32 * (s - 2) + n % 32) (vp_nar .short v)))) : wp_Md_put_J87 μ β (nI s) v post := by
  unfold wp_Md_put_J87 wp_Md_put_J265
  have e : 32 * (nI s - 2) + (μ 0 - μ 0 / 32 * 32) = nI (32 * (s - 2) + n % 32) := by
    rw [hM, q_r32 (by omega)]
    show 32 * (nI s - nI 2) + _ = _
    rw [pk_sub h2, q_idx']
  rw [e]
  refine ⟨vp_in_nI (by omega) (by decide), ?_⟩
  rw [nI_clamp (by omega)]
  exact hp
-- a card is fed
def qSh (B : Nat → Int32) (i : Nat) : Nat → Int32 := fun j => if j < i then B (j + 12) else B j
def qCp (a b : Nat → Int32) (i : Nat) : Nat → Int32 := fun j => if j < i then a j else b j
theorem qSh_s {B : Nat → Int32} {i : Nat} (h : ∀ j, qS (B j)) : ∀ j, qS (qSh B i j) := by
  intro j
  unfold qSh
  split
  · exact h _
  · exact h _
theorem qCp_s {a b : Nat → Int32} {i : Nat} (h : ∀ j, qS (a j)) (h2 : ∀ j, qS (b j)) : ∀ j, qS (qCp a b i j) := by
  intro j
  unfold qCp
  split
  · exact h _
  · exact h2 _
theorem qSh_0 (B : Nat → Int32) : qSh B 0 = B := by
  funext j
  exact if_neg (Nat.not_lt_zero j)
theorem qCp_0 (a b : Nat → Int32) : qCp a b 0 = b := by
  funext j
  exact if_neg (Nat.not_lt_zero j)
theorem qSh_up {B : Nat → Int32} {i : Nat} (h : ∀ j, qS (B j)) : upd (qSh B i) i (vp_nar .short (qSh B i (i + 12))) = qSh B (i + 1) := by
  have e : qSh B i (i + 12) = B (i + 12) := if_neg (by omega)
  rw [e, qS_id (h _)]
  funext j
  unfold upd qSh
  by_cases z : j = i
  · rw [if_pos z, if_pos (by omega), z]
  · rw [if_neg z]
    by_cases y : j < i
    · rw [if_pos y, if_pos (by omega)]
    · rw [if_neg y, if_neg (by omega)]
theorem qCp_up {a b : Nat → Int32} {i : Nat} (h : ∀ j, qS (a j)) : upd (qCp a b i) i (vp_nar .short (a i)) = qCp a b (i + 1) := by
  rw [qS_id (h _)]
  funext j
  unfold upd qCp
  by_cases z : j = i
  · rw [if_pos z, if_pos (by omega), z]
  · rw [if_neg z]
    by_cases y : j < i
    · rw [if_pos y, if_pos (by omega)]
    · rw [if_neg y, if_neg (by omega)]
theorem m_L76 {post : gS → Prop} {B : Nat → Int32} {c : Nat} (hc : c + 12 ≤ 48) (e17 : μ 17 = nI c) (hB : ∀ j, qS (B j)) (hp : post (va_up (va_up μ 19 (μ 0)) 20 0, va_up β 3 (qSh B c))) : ∀ k i : Nat, i + k = c → wp_Md_feed_L76 μ (va_up β 3 (qSh B i)) (nI i) post := by
  intro k i hik X hX
  induction k generalizing i with
  | zero =>
    apply hX
    unfold wp_Md_feed_B76
    refine br_t (by rw [e17]; exact nI_le (by omega) (by omega)) ?_
    rw [show i = c by omega]
    exact hp
  | succ k ih =>
    apply hX
    unfold wp_Md_feed_B76
    rw [io1]
    have e12 : nI i + 12 = nI (i + 12) := nI_add i 12
    refine br_f (by rw [e17]; exact nI_ge (by omega) (by omega)) ?_
    rw [e12]
    refine ⟨vp_in_nI (by omega) (by decide), vp_in_nI (by omega) (by decide), ?_⟩
    rw [bx_uu, nI_clamp (by omega), nI_clamp (by omega), nI_1]
    show X μ (va_up β 3 (upd (qSh B i) i (vp_nar .short (qSh B i (i + 12))))) (nI (i + 1))
    rw [qSh_up hB]
    exact ih (i + 1) (by omega)
theorem m_L39 {post : gS → Prop} {c : Nat} (h12 : 12 ≤ c) (hc : c ≤ 48) (e17 : μ 17 = nI c) (hB : ∀ j, qS (β 3 j)) (hp : post (va_up (va_up (va_up μ 17 (nI (c - 12))) 19 (μ 0)) 20 0, va_up (va_up β 4 (qCp (β 3) (β 4) 12)) 3 (qSh (β 3) (c - 12)))) : ∀ k i : Nat, i + k = 12 → wp_Md_feed_L39 μ (va_up β 4 (qCp (β 3) (β 4) i)) (nI i) post := by
  intro k i hik X hX
  induction k generalizing i with
  | zero =>
    apply hX
    unfold wp_Md_feed_B39
    refine br_t (nI_le (a := 12) (by omega) (by omega)) ?_
    have e : μ 17 - 12 = nI (c - 12) := by
      rw [e17]
      exact pk_sub (b := 12) h12
    rw [e, show i = 12 by omega]
    have t := m_L76 (μ := va_up μ 17 (nI (c - 12))) (β := va_up β 4 (qCp (β 3) (β 4) 12)) (post := post) (B := β 3) (c := c - 12) (by omega) rfl hB hp (c - 12) 0 (by omega)
    have e3 : va_up (va_up β 4 (qCp (β 3) (β 4) 12)) 3 (qSh (β 3) 0) = va_up β 4 (qCp (β 3) (β 4) 12) := by rw [qSh_0]; exact q_upself (va_up β 4 (qCp (β 3) (β 4) 12)) 3
    rw [e3] at t
    exact t
  | succ k ih =>
    apply hX
    unfold wp_Md_feed_B39
    rw [io1]
    refine br_f (nI_ge (b := 12) (by omega) (by decide)) ⟨vp_in_nI (by omega) (by decide), vp_in_nI (by omega) (by decide), ?_⟩
    rw [bx_uu, nI_clamp (by omega), nI_1]
    show X μ (va_up β 4 (upd (qCp (β 3) (β 4) i) i (vp_nar .short (β 3 i)))) (nI (i + 1))
    rw [qCp_up hB]
    exact ih (i + 1) (by omega)
theorem m_feed_no {post : gS → Prop} (h : μ 17 < 12 ∨ (¬ μ 19 < 0 ∧ ¬ μ 19 + 130 < μ 0)) (hp : wp_Md_fail μ β 2 (fun u => post (u.1, u.2))) : wp_Md_feed μ β post := by
  unfold wp_Md_feed wp_Md_feed_J31
  rcases h with h | ⟨h, h2⟩
  · exact br_t h hp
  · exact ⟨fun _ => hp, fun _ => br_f h (br_f h2 hp)⟩
theorem m_feed_ok {post : gS → Prop} (h : ¬ μ 17 < 12) (h2 : μ 19 < 0 ∨ μ 19 + 130 < μ 0) (hp : wp_Md_feed_L39 μ β 0 post) : wp_Md_feed μ β post := by
  unfold wp_Md_feed wp_Md_feed_J37
  refine br_f h ⟨fun _ => hp, fun z => br_t (h2.resolve_left z) hp⟩
theorem c_feed (hn : n < 2 ^ 29) (h : St n a1 a2 σ α μ β) : ∃ (σ' μ' : Nat → Int32) (α' β' : Nat → Nat → Int32), (∀ post, post (σ', α') → wp_Mc_deliver σ α 0 14 post ∧ ∀ v : Int32, wp_Mc_deliver σ α v 14 post) ∧ (∀ post, post (μ', β') → wp_Md_feed μ β post) ∧ St n a1 a2 σ' α' μ' β' := by
  have FAIL : (¬ σ 2 = 0 ∨ ¬ 12 ≤ σ 0 - σ 1) → (μ 17 < 12 ∨ (¬ μ 19 < 0 ∧ ¬ μ 19 + 130 < μ 0)) → ∃ (σ' μ' : Nat → Int32) (α' β' : Nat → Nat → Int32), (∀ post, post (σ', α') → wp_Mc_deliver σ α 0 14 post ∧ ∀ v : Int32, wp_Mc_deliver σ α v 14 post) ∧ (∀ post, post (μ', β') → wp_Md_feed μ β post) ∧ St n a1 a2 σ' α' μ' β' := by
    intro q1 q2
    obtain ⟨σ', μ', f1, f2, f3⟩ := c_fail 2 h
    have D : ∀ post, post (σ', α) → ∀ v : Int32, wp_Mc_deliver σ α v 14 post := by
      intro post hp v
      unfold wp_Mc_deliver wp_Mc_deliver_J206
      refine ⟨fun e => absurd e (by decide), fun e => absurd e (by decide), fun e => absurd e (by decide), fun e => absurd e (by decide), fun e => absurd e (by decide), fun e => absurd e (by decide), fun e => absurd e (by decide), fun e => absurd e (by decide), fun e => absurd e (by decide), fun e => absurd e (by decide), fun e => absurd e (by decide), fun e => absurd e (by decide), fun e => absurd e (by decide), fun e => absurd e (by decide), fun _ => ?_, fun e => absurd e (by decide), fun e => absurd e (by decide)⟩
      unfold wp_Rd_feed wp_Rd_feed_J16 wp_Rd_rowsLeft
      have Z : ((¬ (0 : Int32) = 0 → post (σ, α)) ∧ ((0 : Int32) = 0 → wp_Mc_stopBy σ α 2 (fun u160 => post (u160.1, u160.2)))) := bs_t rfl (f1 _ hp)
      rcases q1 with q | q
      · exact bs_f q Z
      · exact ⟨fun _ => Z, fun _ => br_f q Z⟩
    exact ⟨σ', μ', α, β, fun post hp => ⟨D post hp 0, D post hp⟩, fun post hp => m_feed_no q2 (f2 _ hp), f3⟩
  have h0 := h
  obtain ⟨⟨hN, hM, hG, hF, hL, hO, hW, hD, hP, hS, hK, hE⟩, hU, hC⟩ := h
  obtain ⟨c, t, htc, hc, e0, e1, e17, e18, hd, ha, hb, hb4⟩ := hD
  have er : σ 0 - σ 1 = nI (c - t) := by rw [e0, e1, pk_sub htc]
  have BUSY : (∃ f : Nat, μ 19 = nI f ∧ n ≤ f + 130 ∧ f ≤ n) → ¬ σ 2 = 0 → ∃ (σ' μ' : Nat → Int32) (α' β' : Nat → Nat → Int32), (∀ post, post (σ', α') → wp_Mc_deliver σ α 0 14 post ∧ ∀ v : Int32, wp_Mc_deliver σ α v 14 post) ∧ (∀ post, post (μ', β') → wp_Md_feed μ β post) ∧ St n a1 a2 σ' α' μ' β' := by
    rintro ⟨f, e, h1, h2⟩ z
    refine FAIL (Or.inl z) (Or.inr ⟨by rw [e]; exact nI_pos (by omega), ?_⟩)
    have e130 : nI f + 130 = nI (f + 130) := nI_add f 130
    rw [e, hM, e130]
    exact nI_nlt (by omega) (by omega)
  rcases hC with ⟨hq, hm0, hcase⟩ | hin
  · rcases hcase with ⟨hps, hfe⟩ | ⟨f, t', k1, k2, k3, k4, k5, -⟩
    · by_cases hl : 12 ≤ c - t
      · -- it can be fed
        obtain ⟨b3, hb3⟩ : ∃ b3, b3 = qSh (β 3) (c - t - 12) := ⟨_, rfl⟩
        obtain ⟨b4, hb4'⟩ : ∃ b4, b4 = qCp (β 3) (β 4) 12 := ⟨_, rfl⟩
        have q1 : ∀ j, j < 12 → b4 j = β 3 j := fun j hj => by rw [hb4']; exact if_pos hj
        have q2 : ∀ j, j < c - t - 12 → b3 j = β 3 (j + 12) := fun j hj => by rw [hb3]; exact if_pos hj
        have q3 : ∀ j, qS (b3 j) := by rw [hb3]; exact qSh_s hb
        have q4 : ∀ j, qS (b4 j) := by rw [hb4']; exact qCp_s hb hb4
        have hpost : ∀ post, post (va_up (va_up (va_up μ 17 (nI (c - t - 12))) 19 (μ 0)) 20 0, va_up (va_up β 4 b4) 3 b3) → wp_Md_feed_L39 μ β 0 post := by
          intro post hp
          rw [hb3, hb4'] at hp
          have tt := m_L39 (post := post) hl (by omega) e17 hb hp 12 0 (by omega)
          have e4 : va_up β 4 (qCp (β 3) (β 4) 0) = β := by rw [qCp_0]; exact q_upself β 4
          rw [e4] at tt
          exact tt
        refine ⟨va_up (va_up (va_up σ 1 (σ 1 + 12)) 2 1) 3 (σ 9), va_up (va_up (va_up μ 17 (nI (c - t - 12))) 19 (μ 0)) 20 0, α, va_up (va_up β 4 b4) 3 b3, ?_, ?_, ?_⟩
        · have D : ∀ post, post (va_up (va_up (va_up σ 1 (σ 1 + 12)) 2 1) 3 (σ 9), α) → ∀ v : Int32, wp_Mc_deliver σ α v 14 post := by
            intro post hp v
            unfold wp_Mc_deliver wp_Mc_deliver_J206
            refine ⟨fun e => absurd e (by decide), fun e => absurd e (by decide), fun e => absurd e (by decide), fun e => absurd e (by decide), fun e => absurd e (by decide), fun e => absurd e (by decide), fun e => absurd e (by decide), fun e => absurd e (by decide), fun e => absurd e (by decide), fun e => absurd e (by decide), fun e => absurd e (by decide), fun e => absurd e (by decide), fun e => absurd e (by decide), fun e => absurd e (by decide), fun _ => ?_, fun e => absurd e (by decide), fun e => absurd e (by decide)⟩
            unfold wp_Rd_feed wp_Rd_feed_J16 wp_Rd_rowsLeft
            refine bs_t hps (br_t ?_ (bs_f (by decide) hp))
            rw [er]
            exact nI_le (a := 12) hl (by omega)
          exact fun post hp => ⟨D post hp 0, D post hp⟩
        · intro post hp
          refine m_feed_ok ?_ ?_ (hpost _ hp)
          · rw [e17]
            exact nI_nlt (b := 12) hl (by omega)
          · rcases hfe with e | ⟨f, e, hf⟩
            · exact Or.inl (by rw [e]; decide)
            · have e130 : nI f + 130 = nI (f + 130) := nI_add f 130
              exact Or.inr (by rw [e, hM, e130]; exact nI_lt hf (by omega))
        · refine ⟨⟨hN, hM, hG, hF, hL, hO, hW, ⟨c, t + 12, by omega, hc, e0, ?_, ?_, e18, ?_, ha, q3, q4⟩, hP, hS, hK, hE⟩, hU, Or.inl ⟨hq, hm0, Or.inr ⟨n, t + 12, rfl, hN, hM, by omega, by omega, by omega, ?_, by omega, by omega, ?_, Or.inl rfl⟩⟩⟩
          · show σ 1 + 12 = nI (t + 12)
            rw [e1]
            exact nI_add t 12
          · show nI (c - t - 12) = nI (c - (t + 12))
            rw [show c - t - 12 = c - (t + 12) by omega]
          · intro j hj
            show b3 j = α 5 (t + 12 + j)
            rw [q2 j (by omega), hd (j + 12) (by omega)]
            congr 1
            omega
          · show σ 1 + 12 = nI (t + 12)
            rw [e1]
            exact nI_add t 12
          · intro i hi
            show b4 i = α 5 (t + 12 - 12 + i)
            rw [q1 i hi, hd i (by omega)]
            congr 1
      · refine FAIL (Or.inr ?_) (Or.inl ?_)
        · rw [er]
          exact nI_ge (b := 12) (by omega) (by decide)
        · rw [e17]
          exact nI_lt (b := 12) (by omega) (by decide)
    · exact BUSY ⟨f, k3, by omega, k4⟩ (by rw [k1]; decide)
  · obtain ⟨f, t', x, k1, k2, k3, k4, k5, -⟩ := hin
    exact BUSY ⟨f, k3, by omega, by omega⟩ (by rw [k1]; decide)

-- punching
theorem c_press {v : Int32} (hn : n < 2 ^ 29) (h : St n a1 a2 σ α μ β) : ∃ (σ' μ' : Nat → Int32) (α' β' : Nat → Nat → Int32), (∀ post, post (σ', α') → wp_Mc_deliver σ α v 15 post) ∧ (∀ post, post (μ', β') → wp_Md_press μ β v post) ∧ St n a1 a2 σ' α' μ' β' := by
  have h0 := h
  obtain ⟨⟨hN, hM, hG, hF, hL, hO, hW, hD, hP, hS, hK, hE⟩, hU, hC⟩ := h
  obtain ⟨e7, hq7, k, hk, e5, e21, hq⟩ := hP
  by_cases hok : k < 60 ∧ (k = 0 ∨ ∃ q : Nat, q + 6 ≤ n ∧ σ 6 = nI q ∧ μ 22 = nI q)
  · obtain ⟨hk60, hok⟩ := hok
    have r6 : 6 ≤ μ 0 - μ 22 := by
      rcases hq with ⟨-, e⟩ | ⟨hk0, -⟩
      · have e6 : nI n - (-6) = nI (n + 6) := by
          rw [← nI_add]
          show nI n - (-6) = nI n + 6
          grind
        rw [hM, e, e6]
        exact nI_le (a := 6) (by omega) (by omega)
      · rcases hok with z | ⟨q, hq1, -, hq2⟩
        · omega
        · rw [hM, hq2, pk_sub (by omega)]
          exact nI_le (a := 6) (by omega) (by omega)
    refine ⟨va_up (va_up σ 5 (σ 5 + 1)) 6 (σ 9), va_up (va_up μ 21 (μ 21 + 1)) 22 (μ 0), va_up α 7 (upd (α 7) (σ 5).toNatClampNeg (vp_nar .short v)), va_up β 5 (upd (β 5) (μ 21).toNatClampNeg (vp_nar .short v)), ?_, ?_, ?_⟩
    · intro post hp
      unfold wp_Mc_deliver wp_Mc_deliver_J206
      refine ⟨fun e => absurd e (by decide), fun e => absurd e (by decide), fun e => absurd e (by decide), fun e => absurd e (by decide), fun e => absurd e (by decide), fun e => absurd e (by decide), fun e => absurd e (by decide), fun e => absurd e (by decide), fun e => absurd e (by decide), fun e => absurd e (by decide), fun e => absurd e (by decide), fun e => absurd e (by decide), fun e => absurd e (by decide), fun e => absurd e (by decide), fun e => absurd e (by decide), fun _ => ?_, fun e => absurd e (by decide)⟩
      have Z : wp_Pu_take_J23 σ α v (σ 9) 0 (fun r175 u175 => (¬ r175 = 0 → post (u175.1, u175.2)) ∧ (r175 = 0 → wp_Mc_stopBy u175.1 u175.2 3 (fun u183 => post (u183.1, u183.2)))) := by
        unfold wp_Pu_take_J23 wp_Pu_take_J37
        refine bs_t rfl (br_t ?_ ⟨?_, bs_f (by decide) hp⟩)
        · rw [e5]
          exact nI_lt (b := 60) hk60 (by decide)
        · rw [e5]
          exact vp_in_nI hk60 (by decide)
      unfold wp_Pu_take wp_Pu_take_J22
      refine ⟨fun _ => Z, fun z => br_t ?_ Z⟩
      rcases hok with y | ⟨q, hq1, hq2, -⟩
      · exact absurd (by rw [e5, y]; decide) z
      · rw [hN, hq2, pk_sub (by omega)]
        exact nI_le (a := 6) (by omega) (by omega)
    · intro post hp
      unfold wp_Md_press
      refine br_f ?_ (br_t r6 ⟨?_, hp⟩)
      · rw [e21]
        intro z
        have := (nI_eq (b := 60) (by omega) (by decide)).mp z
        omega
      · rw [e21]
        exact vp_in_nI hk60 (by decide)
    · refine ⟨⟨hN, hM, hG, hF, hL, hO, hW, hD, ?_, hS, hK, hE⟩, hU, hC⟩
      show rPun n (σ 5 + 1) (σ 9) (upd (α 7) (σ 5).toNatClampNeg (vp_nar .short v)) (μ 21 + 1) (μ 0) (upd (β 5) (μ 21).toNatClampNeg (vp_nar .short v))
      rw [e5, e21, nI_1]
      exact ⟨by rw [e7], qS_upd hq7 (qS_nar _), k + 1, by omega, rfl, rfl, Or.inr ⟨by omega, n, Nat.le_refl n, hN, hM⟩⟩
  · obtain ⟨σ', μ', f1, f2, f3⟩ := c_fail 3 h0
    refine ⟨σ', μ', α, β, ?_, ?_, f3⟩
    · intro post hp
      unfold wp_Mc_deliver wp_Mc_deliver_J206
      refine ⟨fun e => absurd e (by decide), fun e => absurd e (by decide), fun e => absurd e (by decide), fun e => absurd e (by decide), fun e => absurd e (by decide), fun e => absurd e (by decide), fun e => absurd e (by decide), fun e => absurd e (by decide), fun e => absurd e (by decide), fun e => absurd e (by decide), fun e => absurd e (by decide), fun e => absurd e (by decide), fun e => absurd e (by decide), fun e => absurd e (by decide), fun e => absurd e (by decide), fun _ => ?_, fun e => absurd e (by decide)⟩
      have Z : (¬ (0 : Int32) = 0 → post (σ, α)) ∧ ((0 : Int32) = 0 → wp_Mc_stopBy σ α 3 (fun u183 => post (u183.1, u183.2))) := bs_t rfl (f1 _ hp)
      have Z1 : wp_Pu_take_J23 σ α v (σ 9) 1 (fun r175 u175 => (¬ r175 = 0 → post (u175.1, u175.2)) ∧ (r175 = 0 → wp_Mc_stopBy u175.1 u175.2 3 (fun u183 => post (u183.1, u183.2)))) := by
        unfold wp_Pu_take_J23 wp_Pu_take_J37
        exact bs_f (by decide) Z
      have Z0 : ¬ k < 60 → wp_Pu_take_J23 σ α v (σ 9) 0 (fun r175 u175 => (¬ r175 = 0 → post (u175.1, u175.2)) ∧ (r175 = 0 → wp_Mc_stopBy u175.1 u175.2 3 (fun u183 => post (u183.1, u183.2)))) := by
        intro z
        unfold wp_Pu_take_J23 wp_Pu_take_J37
        refine bs_t rfl (br_f ?_ Z)
        rw [e5]
        exact nI_nlt (b := 60) (by omega) (by omega)
      unfold wp_Pu_take wp_Pu_take_J22
      refine ⟨fun z => Z0 (fun y => hok ⟨y, Or.inl ?_⟩), fun z => ⟨fun y => Z0 (fun w => hok ⟨w, ?_⟩), fun _ => Z1⟩⟩
      · rw [e5] at z
        exact Nat.le_zero.mp ((nI_leI (b := 0) (by omega) (by decide)).mp z)
      · rcases hq with ⟨z0, -⟩ | ⟨-, q, q1, q2, q3⟩
        · exact Or.inl z0
        · rw [hN, q2, pk_sub q1] at y
          have := (nI_leI (a := 6) (by decide) (by omega)).mp y
          exact Or.inr ⟨q, by omega, q2, q3⟩
    · intro post hp
      unfold wp_Md_press wp_Md_press_J23
      refine ⟨fun _ => f2 _ hp, fun z => br_f ?_ (f2 _ hp)⟩
      intro y
      have hk60 : k < 60 := by
        have : k ≠ 60 := fun w => z (by rw [e21, w]; rfl)
        omega
      refine hok ⟨hk60, ?_⟩
      rcases hq with ⟨z0, -⟩ | ⟨-, q, q1, q2, q3⟩
      · exact Or.inl z0
      · rw [hM, q3, pk_sub q1] at y
        have := (nI_leI (a := 6) (by decide) (by omega)).mp y
        exact Or.inr ⟨q, by omega, q2, q3⟩
/-- a destination other than the two that discriminate -/
theorem c_put {v : Int32} {t : Nat} (ht : t < 16) (h11 : t ≠ 11) (h12 : t ≠ 12) (hv : qS v) (hn : n < 2 ^ 29) (h : St n a1 a2 σ α μ β) : ∃ (σ' μ' : Nat → Int32) (α' β' : Nat → Nat → Int32), (∀ post, post (σ', α') → wp_Mc_deliver σ α v (nI t) post) ∧ (∀ post, post (μ', β') → wp_Md_put μ β (nI t) v post) ∧ St n a1 a2 σ' α' μ' β' := by
  have h0 := h
  obtain ⟨⟨hN, hM, hG, hF, hL, hO, hW, hD, hP, hS, hK, hE⟩, hU, hC⟩ := h
  rcases (show t = 0 ∨ t = 1 ∨ t = 2 ∨ t = 3 ∨ t = 4 ∨ t = 5 ∨ t = 6 ∨ t = 7 ∨ t = 8 ∨ t = 9 ∨ t = 10 ∨ t = 13 ∨ t = 14 ∨ t = 15 by omega) with rfl | rfl | rfl | rfl | rfl | rfl | rfl | rfl | rfl | rfl | rfl | rfl | rfl | rfl
  · refine ⟨σ, μ, α, β, ?_, ?_, h0⟩
    · intro post hp
      unfold wp_Mc_deliver wp_Mc_deliver_J206
      exact ⟨fun _ => hp, fun e => absurd e (by decide), fun e => absurd e (by decide), fun e => absurd e (by decide), fun e => absurd e (by decide), fun e => absurd e (by decide), fun e => absurd e (by decide), fun e => absurd e (by decide), fun e => absurd e (by decide), fun e => absurd e (by decide), fun e => absurd e (by decide), fun e => absurd e (by decide), fun e => absurd e (by decide), fun e => absurd e (by decide), fun e => absurd e (by decide), fun e => absurd e (by decide), fun e => absurd e (by decide)⟩
    · intro post hp
      unfold wp_Md_put wp_Md_put_J265
      exact ⟨fun _ => hp, fun e => absurd e (by decide), fun e => absurd e (by decide), fun e => absurd e (by decide), fun e => absurd e (by decide), fun e => absurd e (by decide), fun e => absurd e (by decide), fun e => absurd e (by decide), fun e => absurd e (by decide), fun e => absurd e (by decide), fun e => absurd e (by decide), fun e => absurd e (by decide), fun e => absurd e (by decide), fun e => absurd e (by decide), fun e => absurd e (by decide), fun e => absurd e (by decide)⟩
  · refine ⟨va_up σ 7 0, va_up μ 1 0, α, β, ?_, ?_, ⟨⟨hN, hM, ⟨rfl, Or.inl rfl⟩, hF, hL, hO, hW, hD, hP, hS, hK, hE⟩, hU, hC⟩⟩
    · intro post hp
      unfold wp_Mc_deliver wp_Mc_deliver_J206
      exact ⟨fun e => absurd e (by decide), fun _ => hp, fun e => absurd e (by decide), fun e => absurd e (by decide), fun e => absurd e (by decide), fun e => absurd e (by decide), fun e => absurd e (by decide), fun e => absurd e (by decide), fun e => absurd e (by decide), fun e => absurd e (by decide), fun e => absurd e (by decide), fun e => absurd e (by decide), fun e => absurd e (by decide), fun e => absurd e (by decide), fun e => absurd e (by decide), fun e => absurd e (by decide), fun e => absurd e (by decide)⟩
    · intro post hp
      unfold wp_Md_put wp_Md_put_J265
      exact ⟨fun e => absurd e (by decide), fun _ => hp, fun e => absurd e (by decide), fun e => absurd e (by decide), fun e => absurd e (by decide), fun e => absurd e (by decide), fun e => absurd e (by decide), fun e => absurd e (by decide), fun e => absurd e (by decide), fun e => absurd e (by decide), fun e => absurd e (by decide), fun e => absurd e (by decide), fun e => absurd e (by decide), fun e => absurd e (by decide), fun e => absurd e (by decide), fun e => absurd e (by decide)⟩
  · refine ⟨σ, μ, va_up α 3 (upd (α 3) (qSp n 2) (vp_nar .short v)), va_up β 2 (upd (β 2) (qSp n 2) (vp_nar .short v)), ?_, ?_, ⟨⟨hN, hM, hG, hF, hL, hO, ⟨show upd (α 3) _ _ = upd (β 2) _ _ by rw [hW.1], qS_upd hW.2 (qS_nar _)⟩, hD, hP, hS, hK, hE⟩, hU, hC⟩⟩
    · intro post hp
      unfold wp_Mc_deliver wp_Mc_deliver_J206
      exact ⟨fun e => absurd e (by decide), fun e => absurd e (by decide), fun _ => x_J189 (by decide) (by decide) hn hN hp, fun e => absurd e (by decide), fun e => absurd e (by decide), fun e => absurd e (by decide), fun e => absurd e (by decide), fun e => absurd e (by decide), fun e => absurd e (by decide), fun e => absurd e (by decide), fun e => absurd e (by decide), fun e => absurd e (by decide), fun e => absurd e (by decide), fun e => absurd e (by decide), fun e => absurd e (by decide), fun e => absurd e (by decide), fun e => absurd e (by decide)⟩
    · intro post hp
      unfold wp_Md_put wp_Md_put_J265
      exact ⟨fun e => absurd e (by decide), fun e => absurd e (by decide), fun _ => m_J87 (by decide) (by decide) hn hM hp, fun e => absurd e (by decide), fun e => absurd e (by decide), fun e => absurd e (by decide), fun e => absurd e (by decide), fun e => absurd e (by decide), fun e => absurd e (by decide), fun e => absurd e (by decide), fun e => absurd e (by decide), fun e => absurd e (by decide), fun e => absurd e (by decide), fun e => absurd e (by decide), fun e => absurd e (by decide), fun e => absurd e (by decide)⟩
  · refine ⟨σ, μ, va_up α 3 (upd (α 3) (qSp n 3) (vp_nar .short v)), va_up β 2 (upd (β 2) (qSp n 3) (vp_nar .short v)), ?_, ?_, ⟨⟨hN, hM, hG, hF, hL, hO, ⟨show upd (α 3) _ _ = upd (β 2) _ _ by rw [hW.1], qS_upd hW.2 (qS_nar _)⟩, hD, hP, hS, hK, hE⟩, hU, hC⟩⟩
    · intro post hp
      unfold wp_Mc_deliver wp_Mc_deliver_J206
      exact ⟨fun e => absurd e (by decide), fun e => absurd e (by decide), fun e => absurd e (by decide), fun _ => x_J189 (by decide) (by decide) hn hN hp, fun e => absurd e (by decide), fun e => absurd e (by decide), fun e => absurd e (by decide), fun e => absurd e (by decide), fun e => absurd e (by decide), fun e => absurd e (by decide), fun e => absurd e (by decide), fun e => absurd e (by decide), fun e => absurd e (by decide), fun e => absurd e (by decide), fun e => absurd e (by decide), fun e => absurd e (by decide), fun e => absurd e (by decide)⟩
    · intro post hp
      unfold wp_Md_put wp_Md_put_J265
      exact ⟨fun e => absurd e (by decide), fun e => absurd e (by decide), fun e => absurd e (by decide), fun _ => m_J87 (by decide) (by decide) hn hM hp, fun e => absurd e (by decide), fun e => absurd e (by decide), fun e => absurd e (by decide), fun e => absurd e (by decide), fun e => absurd e (by decide), fun e => absurd e (by decide), fun e => absurd e (by decide), fun e => absurd e (by decide), fun e => absurd e (by decide), fun e => absurd e (by decide), fun e => absurd e (by decide), fun e => absurd e (by decide)⟩
  · refine ⟨σ, μ, va_up α 3 (upd (α 3) (qSp n 4) (vp_nar .short v)), va_up β 2 (upd (β 2) (qSp n 4) (vp_nar .short v)), ?_, ?_, ⟨⟨hN, hM, hG, hF, hL, hO, ⟨show upd (α 3) _ _ = upd (β 2) _ _ by rw [hW.1], qS_upd hW.2 (qS_nar _)⟩, hD, hP, hS, hK, hE⟩, hU, hC⟩⟩
    · intro post hp
      unfold wp_Mc_deliver wp_Mc_deliver_J206
      exact ⟨fun e => absurd e (by decide), fun e => absurd e (by decide), fun e => absurd e (by decide), fun e => absurd e (by decide), fun _ => x_J189 (by decide) (by decide) hn hN hp, fun e => absurd e (by decide), fun e => absurd e (by decide), fun e => absurd e (by decide), fun e => absurd e (by decide), fun e => absurd e (by decide), fun e => absurd e (by decide), fun e => absurd e (by decide), fun e => absurd e (by decide), fun e => absurd e (by decide), fun e => absurd e (by decide), fun e => absurd e (by decide), fun e => absurd e (by decide)⟩
    · intro post hp
      unfold wp_Md_put wp_Md_put_J265
      exact ⟨fun e => absurd e (by decide), fun e => absurd e (by decide), fun e => absurd e (by decide), fun e => absurd e (by decide), fun _ => m_J87 (by decide) (by decide) hn hM hp, fun e => absurd e (by decide), fun e => absurd e (by decide), fun e => absurd e (by decide), fun e => absurd e (by decide), fun e => absurd e (by decide), fun e => absurd e (by decide), fun e => absurd e (by decide), fun e => absurd e (by decide), fun e => absurd e (by decide), fun e => absurd e (by decide), fun e => absurd e (by decide)⟩
  · refine ⟨σ, μ, va_up α 3 (upd (α 3) (qSp n 5) (vp_nar .short v)), va_up β 2 (upd (β 2) (qSp n 5) (vp_nar .short v)), ?_, ?_, ⟨⟨hN, hM, hG, hF, hL, hO, ⟨show upd (α 3) _ _ = upd (β 2) _ _ by rw [hW.1], qS_upd hW.2 (qS_nar _)⟩, hD, hP, hS, hK, hE⟩, hU, hC⟩⟩
    · intro post hp
      unfold wp_Mc_deliver wp_Mc_deliver_J206
      exact ⟨fun e => absurd e (by decide), fun e => absurd e (by decide), fun e => absurd e (by decide), fun e => absurd e (by decide), fun e => absurd e (by decide), fun _ => x_J189 (by decide) (by decide) hn hN hp, fun e => absurd e (by decide), fun e => absurd e (by decide), fun e => absurd e (by decide), fun e => absurd e (by decide), fun e => absurd e (by decide), fun e => absurd e (by decide), fun e => absurd e (by decide), fun e => absurd e (by decide), fun e => absurd e (by decide), fun e => absurd e (by decide), fun e => absurd e (by decide)⟩
    · intro post hp
      unfold wp_Md_put wp_Md_put_J265
      exact ⟨fun e => absurd e (by decide), fun e => absurd e (by decide), fun e => absurd e (by decide), fun e => absurd e (by decide), fun e => absurd e (by decide), fun _ => m_J87 (by decide) (by decide) hn hM hp, fun e => absurd e (by decide), fun e => absurd e (by decide), fun e => absurd e (by decide), fun e => absurd e (by decide), fun e => absurd e (by decide), fun e => absurd e (by decide), fun e => absurd e (by decide), fun e => absurd e (by decide), fun e => absurd e (by decide), fun e => absurd e (by decide)⟩
  · refine ⟨σ, μ, va_up α 3 (upd (α 3) (qSp n 6) (vp_nar .short v)), va_up β 2 (upd (β 2) (qSp n 6) (vp_nar .short v)), ?_, ?_, ⟨⟨hN, hM, hG, hF, hL, hO, ⟨show upd (α 3) _ _ = upd (β 2) _ _ by rw [hW.1], qS_upd hW.2 (qS_nar _)⟩, hD, hP, hS, hK, hE⟩, hU, hC⟩⟩
    · intro post hp
      unfold wp_Mc_deliver wp_Mc_deliver_J206
      exact ⟨fun e => absurd e (by decide), fun e => absurd e (by decide), fun e => absurd e (by decide), fun e => absurd e (by decide), fun e => absurd e (by decide), fun e => absurd e (by decide), fun _ => x_J189 (by decide) (by decide) hn hN hp, fun e => absurd e (by decide), fun e => absurd e (by decide), fun e => absurd e (by decide), fun e => absurd e (by decide), fun e => absurd e (by decide), fun e => absurd e (by decide), fun e => absurd e (by decide), fun e => absurd e (by decide), fun e => absurd e (by decide), fun e => absurd e (by decide)⟩
    · intro post hp
      unfold wp_Md_put wp_Md_put_J265
      refine ⟨fun e => absurd e (by decide), fun e => absurd e (by decide), fun e => absurd e (by decide), fun e => absurd e (by decide), fun e => absurd e (by decide), fun e => absurd e (by decide), fun _ => ?_, fun e => absurd e (by decide), fun e => absurd e (by decide), fun e => absurd e (by decide), fun e => absurd e (by decide), fun e => absurd e (by decide), fun e => absurd e (by decide), fun e => absurd e (by decide), fun e => absurd e (by decide), fun e => absurd e (by decide)⟩
      unfold wp_Md_put_J110
      rw [show (128 : Int32) + nI 6 - 6 = nI 128 by decide, nI_clamp (by decide)]
      exact ⟨vp_in_nI (by decide) (by decide), hp⟩
  · refine ⟨σ, μ, va_up α 3 (upd (α 3) (qSp n 7) (vp_nar .short v)), va_up β 2 (upd (β 2) (qSp n 7) (vp_nar .short v)), ?_, ?_, ⟨⟨hN, hM, hG, hF, hL, hO, ⟨show upd (α 3) _ _ = upd (β 2) _ _ by rw [hW.1], qS_upd hW.2 (qS_nar _)⟩, hD, hP, hS, hK, hE⟩, hU, hC⟩⟩
    · intro post hp
      unfold wp_Mc_deliver wp_Mc_deliver_J206
      exact ⟨fun e => absurd e (by decide), fun e => absurd e (by decide), fun e => absurd e (by decide), fun e => absurd e (by decide), fun e => absurd e (by decide), fun e => absurd e (by decide), fun e => absurd e (by decide), fun _ => x_J189 (by decide) (by decide) hn hN hp, fun e => absurd e (by decide), fun e => absurd e (by decide), fun e => absurd e (by decide), fun e => absurd e (by decide), fun e => absurd e (by decide), fun e => absurd e (by decide), fun e => absurd e (by decide), fun e => absurd e (by decide), fun e => absurd e (by decide)⟩
    · intro post hp
      unfold wp_Md_put wp_Md_put_J265
      refine ⟨fun e => absurd e (by decide), fun e => absurd e (by decide), fun e => absurd e (by decide), fun e => absurd e (by decide), fun e => absurd e (by decide), fun e => absurd e (by decide), fun e => absurd e (by decide), fun _ => ?_, fun e => absurd e (by decide), fun e => absurd e (by decide), fun e => absurd e (by decide), fun e => absurd e (by decide), fun e => absurd e (by decide), fun e => absurd e (by decide), fun e => absurd e (by decide), fun e => absurd e (by decide)⟩
      unfold wp_Md_put_J110
      rw [show (128 : Int32) + nI 7 - 6 = nI 129 by decide, nI_clamp (by decide)]
      exact ⟨vp_in_nI (by decide) (by decide), hp⟩
  · refine ⟨σ, μ, va_up α 3 (upd (α 3) (qSp n 8) (vp_nar .short v)), va_up β 2 (upd (β 2) (qSp n 8) (vp_nar .short v)), ?_, ?_, ⟨⟨hN, hM, hG, hF, hL, hO, ⟨show upd (α 3) _ _ = upd (β 2) _ _ by rw [hW.1], qS_upd hW.2 (qS_nar _)⟩, hD, hP, hS, hK, hE⟩, hU, hC⟩⟩
    · intro post hp
      unfold wp_Mc_deliver wp_Mc_deliver_J206
      exact ⟨fun e => absurd e (by decide), fun e => absurd e (by decide), fun e => absurd e (by decide), fun e => absurd e (by decide), fun e => absurd e (by decide), fun e => absurd e (by decide), fun e => absurd e (by decide), fun e => absurd e (by decide), fun _ => x_J189 (by decide) (by decide) hn hN hp, fun e => absurd e (by decide), fun e => absurd e (by decide), fun e => absurd e (by decide), fun e => absurd e (by decide), fun e => absurd e (by decide), fun e => absurd e (by decide), fun e => absurd e (by decide), fun e => absurd e (by decide)⟩
    · intro post hp
      unfold wp_Md_put wp_Md_put_J265
      refine ⟨fun e => absurd e (by decide), fun e => absurd e (by decide), fun e => absurd e (by decide), fun e => absurd e (by decide), fun e => absurd e (by decide), fun e => absurd e (by decide), fun e => absurd e (by decide), fun e => absurd e (by decide), fun _ => ?_, fun e => absurd e (by decide), fun e => absurd e (by decide), fun e => absurd e (by decide), fun e => absurd e (by decide), fun e => absurd e (by decide), fun e => absurd e (by decide), fun e => absurd e (by decide)⟩
      have e : 130 + (μ 0 - μ 0 / 2 * 2) = nI (130 + n % 2) := by
        rw [hM, q_r2 (by omega)]
        exact nI_add 130 _
      rw [e, nI_clamp (by omega)]
      exact ⟨vp_in_nI (by omega) (by decide), hp⟩
  · refine ⟨σ, μ, va_up α 3 (upd (α 3) 128 (vp_nar .short ((α 3 128 + v).toInt16.toInt32))), va_up β 2 (upd (β 2) 128 (vp_nar .short ((β 2 128 + v).toInt16.toInt32))), ?_, ?_, ⟨⟨hN, hM, hG, hF, hL, hO, ⟨show upd (α 3) _ _ = upd (β 2) _ _ by rw [hW.1], qS_upd hW.2 (qS_nar _)⟩, hD, hP, hS, hK, hE⟩, hU, hC⟩⟩
    · intro post hp
      unfold wp_Mc_deliver wp_Mc_deliver_J206
      rw [c128]
      exact ⟨fun e => absurd e (by decide), fun e => absurd e (by decide), fun e => absurd e (by decide), fun e => absurd e (by decide), fun e => absurd e (by decide), fun e => absurd e (by decide), fun e => absurd e (by decide), fun e => absurd e (by decide), fun e => absurd e (by decide), fun _ => hp, fun e => absurd e (by decide), fun e => absurd e (by decide), fun e => absurd e (by decide), fun e => absurd e (by decide), fun e => absurd e (by decide), fun e => absurd e (by decide), fun e => absurd e (by decide)⟩
    · intro post hp
      unfold wp_Md_put wp_Md_put_J265
      unfold wp_Md_put_J146 wp_Md_put_J182 wp_Md_put_J265
      rw [c128]
      exact ⟨fun e => absurd e (by decide), fun e => absurd e (by decide), fun e => absurd e (by decide), fun e => absurd e (by decide), fun e => absurd e (by decide), fun e => absurd e (by decide), fun e => absurd e (by decide), fun e => absurd e (by decide), fun e => absurd e (by decide), fun _ => bs_t rfl ⟨vp_in_nI (n := 128) (by decide) (by decide), hp⟩, fun e => absurd e (by decide), fun e => absurd e (by decide), fun e => absurd e (by decide), fun e => absurd e (by decide), fun e => absurd e (by decide), fun e => absurd e (by decide)⟩
  · refine ⟨σ, μ, va_up α 3 (upd (α 3) 128 (vp_nar .short ((α 3 128 - v).toInt16.toInt32))), va_up β 2 (upd (β 2) 128 (vp_nar .short ((β 2 128 - v).toInt16.toInt32))), ?_, ?_, ⟨⟨hN, hM, hG, hF, hL, hO, ⟨show upd (α 3) _ _ = upd (β 2) _ _ by rw [hW.1], qS_upd hW.2 (qS_nar _)⟩, hD, hP, hS, hK, hE⟩, hU, hC⟩⟩
    · intro post hp
      unfold wp_Mc_deliver wp_Mc_deliver_J206
      rw [c128]
      exact ⟨fun e => absurd e (by decide), fun e => absurd e (by decide), fun e => absurd e (by decide), fun e => absurd e (by decide), fun e => absurd e (by decide), fun e => absurd e (by decide), fun e => absurd e (by decide), fun e => absurd e (by decide), fun e => absurd e (by decide), fun e => absurd e (by decide), fun _ => hp, fun e => absurd e (by decide), fun e => absurd e (by decide), fun e => absurd e (by decide), fun e => absurd e (by decide), fun e => absurd e (by decide), fun e => absurd e (by decide)⟩
    · intro post hp
      unfold wp_Md_put wp_Md_put_J265
      unfold wp_Md_put_J146 wp_Md_put_J182 wp_Md_put_J265
      rw [c128]
      exact ⟨fun e => absurd e (by decide), fun e => absurd e (by decide), fun e => absurd e (by decide), fun e => absurd e (by decide), fun e => absurd e (by decide), fun e => absurd e (by decide), fun e => absurd e (by decide), fun e => absurd e (by decide), fun e => absurd e (by decide), fun e => absurd e (by decide), fun _ => bs_f (by decide) ⟨vp_in_nI (n := 128) (by decide) (by decide), hp⟩, fun e => absurd e (by decide), fun e => absurd e (by decide), fun e => absurd e (by decide), fun e => absurd e (by decide), fun e => absurd e (by decide)⟩
  · refine ⟨va_up (va_up (va_up σ 15 v) 16 16) 17 1, va_up (va_up μ 15 17) 16 v, va_up α 3 (upd (upd (α 3) 130 (vp_nar .short (0 : Int32))) 131 (vp_nar .short (0 : Int32))), va_up β 2 (upd (upd (β 2) 130 (vp_nar .short (0 : Int32))) 131 (vp_nar .short (0 : Int32))), ?_, ?_, ⟨⟨hN, hM, hG, hF, hL, hO, ⟨show upd (upd (α 3) _ _) _ _ = upd (upd (β 2) _ _) _ _ by rw [hW.1], qS_upd (qS_upd hW.2 (qS_nar _)) (qS_nar _)⟩, hD, hP, hS, hK, hE⟩, Or.inr ⟨rfl, rfl, rfl, qS_16 hv, hv⟩, hC⟩⟩
    · intro post hp
      unfold wp_Mc_deliver wp_Mc_deliver_J206
      refine ⟨fun e => absurd e (by decide), fun e => absurd e (by decide), fun e => absurd e (by decide), fun e => absurd e (by decide), fun e => absurd e (by decide), fun e => absurd e (by decide), fun e => absurd e (by decide), fun e => absurd e (by decide), fun e => absurd e (by decide), fun e => absurd e (by decide), fun e => absurd e (by decide), fun e => absurd e (by decide), fun e => absurd e (by decide), fun _ => ?_, fun e => absurd e (by decide), fun e => absurd e (by decide), fun e => absurd e (by decide)⟩
      unfold wp_Mu_begin wp_St_setProduct
      rw [show (0 : Int32).toInt16.toInt32 = 0 by decide, show ((0 : Int32) >>> ((16 : Int32) &&& 31)).toInt16.toInt32 = 0 by decide]
      exact hp
    · intro post hp
      unfold wp_Md_put wp_Md_put_J265
      exact ⟨fun e => absurd e (by decide), fun e => absurd e (by decide), fun e => absurd e (by decide), fun e => absurd e (by decide), fun e => absurd e (by decide), fun e => absurd e (by decide), fun e => absurd e (by decide), fun e => absurd e (by decide), fun e => absurd e (by decide), fun e => absurd e (by decide), fun e => absurd e (by decide), fun e => absurd e (by decide), fun e => absurd e (by decide), fun _ => hp, fun e => absurd e (by decide), fun e => absurd e (by decide)⟩
  · obtain ⟨σ', μ', α', β', f1, f2, f3⟩ := c_feed hn h0
    refine ⟨σ', μ', α', β', fun post hp => (f1 post hp).2 v, ?_, f3⟩
    intro post hp
    unfold wp_Md_put wp_Md_put_J265
    exact ⟨fun e => absurd e (by decide), fun e => absurd e (by decide), fun e => absurd e (by decide), fun e => absurd e (by decide), fun e => absurd e (by decide), fun e => absurd e (by decide), fun e => absurd e (by decide), fun e => absurd e (by decide), fun e => absurd e (by decide), fun e => absurd e (by decide), fun e => absurd e (by decide), fun e => absurd e (by decide), fun e => absurd e (by decide), fun e => absurd e (by decide), fun _ => f2 _ hp, fun e => absurd e (by decide)⟩
  · obtain ⟨σ', μ', α', β', f1, f2, f3⟩ := c_press (v := v) hn h0
    refine ⟨σ', μ', α', β', fun post hp => f1 post hp, ?_, f3⟩
    intro post hp
    unfold wp_Md_put wp_Md_put_J265
    exact ⟨fun e => absurd e (by decide), fun e => absurd e (by decide), fun e => absurd e (by decide), fun e => absurd e (by decide), fun e => absurd e (by decide), fun e => absurd e (by decide), fun e => absurd e (by decide), fun e => absurd e (by decide), fun e => absurd e (by decide), fun e => absurd e (by decide), fun e => absurd e (by decide), fun e => absurd e (by decide), fun e => absurd e (by decide), fun e => absurd e (by decide), fun e => absurd e (by decide), fun _ => f2 _ hp⟩
end PE
