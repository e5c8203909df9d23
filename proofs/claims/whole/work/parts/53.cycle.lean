-- pure rows: the multiplier, the end of a cycle, a cycle, run
theorem q_of32 (x : Int32) : ∃ m : Nat, m < 2 ^ 32 ∧ x = nI m := ⟨x.toBitVec.toNat, x.toBitVec.isLt, Int32.toBitVec_inj.mp (by show _ = BitVec.ofNat 32 _; simp)⟩
theorem q_and (a b : Nat) : nI a &&& nI b = nI (a &&& b) := by
  apply Int32.toBitVec_inj.1
  show BitVec.ofNat 32 a &&& BitVec.ofNat 32 b = BitVec.ofNat 32 (a &&& b)
  apply BitVec.eq_of_getLsbD_eq
  intro i hi
  simp [hi]
theorem q_bit (m : Nat) : m &&& 2 ^ 15 = 0 ↔ m / 2 ^ 15 % 2 = 0 := by
  have h0 : m &&& 2 ^ 15 = 0 ↔ m.testBit 15 = false := by
    constructor
    · intro z
      have h := congrArg (fun q => Nat.testBit q 15) z
      simp only [Nat.testBit_and, Nat.testBit_two_pow_self, Nat.zero_testBit, Bool.and_true] at h
      exact h
    · intro z
      apply Nat.eq_of_testBit_eq
      intro i
      rw [Nat.testBit_and, Nat.zero_testBit]
      by_cases h : i = 15
      · rw [h, z]
        rfl
      · rw [Nat.testBit_two_pow_of_ne (fun y => h y.symm), Bool.and_false]
  rw [h0, Nat.testBit_eq_decide_div_mod_eq, decide_eq_false_iff_not]
  omega
theorem q_sgn (x : Int32) : (x &&& 32768) = 0 ↔ 0 ≤ x.toInt16.toInt32 := by
  obtain ⟨m, hm, rfl⟩ := q_of32 x
  have e0 : (32768 : Int32) = nI (2 ^ 15) := by decide
  have e2 : ((nI m).toInt16.toInt32).toInt = (m : Int).bmod 65536 := by
    rw [Int16.toInt_toInt32]
    show (Int32.ofNat m).toInt16.toInt = _
    rw [Int32.toInt16_ofNat', Int16.toInt_ofNat']
  have k0 : (0 : Int32).toInt = 0 := by decide
  have hle : m &&& 2 ^ 15 ≤ 2 ^ 15 := Nat.and_le_right
  have e3 : nI (m &&& 2 ^ 15) = 0 ↔ m &&& 2 ^ 15 = 0 := nI_eq (b := 0) (by omega) (by decide)
  rw [e0, q_and, Int32.le_iff_toInt_le, e2, k0, e3, q_bit]
  simp only [Int.bmod]
  constructor
  · intro z
    split <;> omega
  · intro z
    split at z <;> omega
theorem q_shl1 (x : Int32) : x <<< ((1 : Int32) &&& 31) = x + x := by
  apply Int32.toBitVec_inj.1
  apply BitVec.eq_of_toNat_eq
  rw [pk_shl x _ 1 (by decide), Int32.toBitVec_add, BitVec.toNat_add]
  congr 1
  omega
theorem q_fac (x : Int32) : (x <<< ((1 : Int32) &&& 31)).toInt16.toInt32 = (x.toInt16.toInt32 <<< ((1 : Int32) &&& 31)).toInt16.toInt32 := by
  rw [q_shl1, q_shl1, Int32.toInt16_add, Int32.toInt16_add, Int16.toInt16_toInt32]
section PF
variable {σ μ : Nat → Int32} {α β : Nat → Nat → Int32} {n : Nat} {a1 a2 : Int32}
def qPr (w : Nat → Int32) (b : Int32) : Int32 := 2 * (w 131 <<< ((16 : Int32) &&& 31) ||| w 130 &&& 65535) + b
def qW2 (w : Nat → Int32) (x : Int32) : Nat → Int32 := upd (upd w 130 (vp_nar .short x.toInt16.toInt32)) 131 (vp_nar .short ((x >>> ((16 : Int32) &&& 31)).toInt16.toInt32))
theorem qW2_s {w : Nat → Int32} {x : Int32} (h : ∀ j, qS (w j)) : ∀ j, qS (qW2 w x j) := qS_upd (qS_upd h (qS_nar _)) (qS_nar _)
theorem c_mult (h : St n a1 a2 σ α μ β) : ∃ (σ' μ' : Nat → Int32) (α' β' : Nat → Nat → Int32), (∀ post, post (σ', α') → wp_Mu_endCycle σ α post) ∧ (∀ post, post (μ', β') → wp_Md_multiply μ β post) ∧ Mid n σ' α' μ' β' ∧ rMul (σ' 16) (σ' 17) (μ' 15) ∧ rFac (μ' 15) (σ' 15) (μ' 16) ∧ rCardM n (σ' 2) (σ' 3) (σ' 4) (σ' 1) (α' 5) (μ' 19) (μ' 20) (β' 4) a1 a2 := by
  obtain ⟨⟨hN, hM, hG, hF, hL, hO, hW, hD, hP, hS, hK, hE⟩, hU, hC⟩ := h
  rcases hU with ⟨u1, ⟨k, hk, u2, u3⟩, u4⟩ | ⟨u1, u2, u3, u4, u5⟩
  · rcases Nat.eq_zero_or_pos k with hk0 | hk0
    · have e0 : μ 15 = 0 := by rw [u3, hk0]; rfl
      have e1 : σ 16 = 0 := by rw [u2, hk0]; rfl
      refine ⟨σ, μ, α, β, ?_, ?_, ⟨hN, hM, hG, hF, hL, hO, hW, hD, hP, hS, hK, hE⟩, ⟨u1, k, hk, u2, u3⟩, u4, hC⟩
      · intro post hp
        unfold wp_Mu_endCycle
        exact br_t u1 (bs_t e1 hp)
      · intro post hp
        unfold wp_Md_multiply
        exact bs_t e0 hp
    · have e0 : ¬ μ 15 = 0 := by rw [u3]; exact nI_ne0 hk0 (by omega)
      have e1 : ¬ σ 16 = 0 := by rw [u2]; exact nI_ne0 hk0 (by omega)
      have ek : nI k - 1 = nI (k - 1) := by
        have := nI_pred (k - 1)
        rw [show k - 1 + 1 = k by omega] at this
        exact this
      have e16 : ¬ μ 15 - 1 = 16 := by
        rw [u3, ek]
        intro z
        have := (nI_eq (b := 16) (by omega) (by decide)).mp z
        omega
      obtain ⟨u4, u5⟩ := u4.resolve_left e0
      have key : ∀ (b b' : Int32), b' = b → ((σ 15 &&& 32768) = 0 → b = 0) → (¬ (σ 15 &&& 32768) = 0 → b = α 3 129) → ∃ (σ' μ' : Nat → Int32) (α' β' : Nat → Nat → Int32), (∀ post, post (σ', α') → wp_Mu_endCycle σ α post) ∧ (∀ post, post (μ', β') → wp_Md_multiply μ β post) ∧ Mid n σ' α' μ' β' ∧ rMul (σ' 16) (σ' 17) (μ' 15) ∧ rFac (μ' 15) (σ' 15) (μ' 16) ∧ rCardM n (σ' 2) (σ' 3) (σ' 4) (σ' 1) (α' 5) (μ' 19) (μ' 20) (β' 4) a1 a2 := by
        intro b b' hbb h0 h1
        refine ⟨va_up (va_up σ 15 (σ 15 <<< ((1 : Int32) &&& 31))) 16 (σ 16 - 1), va_up (va_up μ 15 (μ 15 - 1)) 16 ((μ 16 <<< ((1 : Int32) &&& 31)).toInt16.toInt32), va_up α 3 (qW2 (α 3) (qPr (α 3) b)), va_up β 2 (qW2 (β 2) (qPr (β 2) b)), ?_, ?_, ⟨hN, hM, hG, hF, hL, hO, ⟨?_, qW2_s hW.2⟩, hD, hP, hS, hK, hE⟩, ⟨u1, k - 1, by omega, ?_, ?_⟩, Or.inr ⟨?_, qS_s _⟩, hC⟩
        · intro post hp
          unfold wp_Mu_endCycle wp_Mu_endCycle_J36 wp_Mu_endCycle_J60 wp_St_product wp_St_setProduct
          rw [c129, c130, c131]
          refine br_t u1 (bs_f e1 ⟨fun z => br_t rfl ?_, fun z => br_f (by decide) ?_⟩)
          · rw [h0 z] at hp
            exact hp
          · rw [h1 z] at hp
            exact hp
        · intro post hp
          unfold wp_Md_multiply wp_Md_multiply_J74
          rw [c129, c130, c131]
          have es := q_sgn (σ 15)
          rw [u4] at es
          refine bs_f e0 (bs_f e16 ⟨fun z => ?_, fun z => ?_⟩)
          · rw [h0 (es.mpr z)] at hp
            exact hp
          · have hb := h1 (fun y => z (es.mp y))
            rw [hb, hW.1] at hp
            exact hp
        · show qW2 (α 3) (qPr (α 3) b) = qW2 (β 2) (qPr (β 2) b)
          rw [hW.1]
        · show σ 16 - 1 = nI (k - 1)
          rw [u2, ek]
        · show μ 15 - 1 = nI (k - 1)
          rw [u3, ek]
        · show (σ 15 <<< ((1 : Int32) &&& 31)).toInt16.toInt32 = (μ 16 <<< ((1 : Int32) &&& 31)).toInt16.toInt32
          rw [q_fac, u4]
      by_cases z : (σ 15 &&& 32768) = 0
      · exact key 0 0 rfl (fun _ => rfl) (fun y => absurd z y)
      · exact key (α 3 129) (α 3 129) rfl (fun y => absurd y z) (fun _ => rfl)
  · refine ⟨va_up σ 17 0, va_up μ 15 (μ 15 - 1), α, β, ?_, ?_, ⟨hN, hM, hG, hF, hL, hO, hW, hD, hP, hS, hK, hE⟩, ⟨rfl, 16, Nat.le_refl 16, u2, ?_⟩, Or.inr ⟨u4, u5⟩, hC⟩
    · intro post hp
      unfold wp_Mu_endCycle
      exact br_f (by rw [u1]; decide) hp
    · intro post hp
      unfold wp_Md_multiply
      exact bs_f (by rw [u3]; decide) (bs_t (by rw [u3]; decide) hp)
    · show μ 15 - 1 = nI 16
      rw [u3]
      decide
/-- the end of a cycle -/
theorem c_end {wc wb : Nat} (hn : n < 2 ^ 29) (h : Mid n σ α μ β) (hU : rMul (σ 16) (σ 17) (μ 15)) (hF2 : rFac (μ 15) (σ 15) (μ 16)) (hC : rCardM n (σ 2) (σ 3) (σ 4) (σ 1) (α 5) (μ 19) (μ 20) (β 4) a1 a2) : ∃ σ' μ' : Nat → Int32, (∀ post : gSW → Prop, post (wc, wb, va_up σ' 9 (σ' 9 + 1), α) → wp_Rd_endCycle σ α (σ 9) (fun r81 u81 => (r81 = 0 → wp_Mc_goThroughCycle_J92 wc wb u81.1 u81.2 post) ∧ (¬ r81 = 0 → wp_Mc_stopBy u81.1 u81.2 1 (fun u89 => wp_Mc_goThroughCycle_J92 wc wb u89.1 u89.2 post)))) ∧ (∀ post : gS → Prop, post (va_up μ' 0 (μ' 0 + 1), β) → (a1 < 0 → wp_Md_cycle_J209 μ β post) ∧ (¬ a1 < 0 → (¬ a2 - a2 / 8 * 8 = 2 → wp_Md_cycle_J209 μ β post) ∧ (a2 - a2 / 8 * 8 = 2 → (¬ μ 20 = 0 → wp_Md_cycle_J209 μ β post) ∧ (μ 20 = 0 → wp_Md_fail μ β 1 (fun u206 => wp_Md_cycle_J209 u206.1 u206.2 post))))) ∧ Mid n σ' α μ' β ∧ rMul (σ' 16) (σ' 17) (μ' 15) ∧ rFac (μ' 15) (σ' 15) (μ' 16) ∧ rCard (n + 1) (σ' 2) (σ' 3) (σ' 4) (σ' 1) (α 5) (μ' 19) (μ' 20) (β 4) := by
  have h0 := h
  obtain ⟨hN, hM, hG, hF, hL, hO, hW, hD, hP, hS, hK, hE⟩ := h
  rcases hC with ⟨e1, hno⟩ | ⟨f, t, x, k1, k2, k3, k4, k5, k6, k7, k8, k9, k10, k11, k12, k13, k14⟩
  · refine ⟨σ, μ, ?_, ?_, h0, hU, hF2, ?_⟩
    · intro post hp
      unfold wp_Rd_endCycle wp_Rd_endCycle_J18
      rw [hN]
      exact x_off_no hn hno (br_t (by decide) (br_t rfl hp))
    · intro post hp
      exact br_t (by rw [e1]; decide) hp
    · obtain ⟨h4, ⟨h2, h3⟩ | ⟨f, t, q1, q2, q3, q4, q5, q6, q7, q8, q9, q10, q11⟩⟩ := hno
      · refine Or.inl ⟨h2, h4, ?_⟩
        rcases h3 with h3 | ⟨f, e, hf⟩
        · exact Or.inl h3
        · exact Or.inr ⟨f, e, by omega⟩
      · have nq : ¬ qM (n + 1) f := by
          intro z
          have z1 := z.1
          have z2 := z.2
          omega
        exact Or.inr ⟨f, t, q1, q2, q3, by omega, by omega, q7, q8, q9, q10, Or.inl h4, q11, fun z => absurd z nq, fun _ => h4⟩
  · have ha1 : ¬ a1 < 0 := by rw [k13]; exact nI_pos (by omega)
    have e8 : a2 - a2 / 8 * 8 = nI (x % 8) := by rw [k14, q_r8 (by omega)]
    have eo : n - (f + 40) = x := by omega
    by_cases hx : x % 8 = 2
    · -- the last cycle of a row
      have e82 : a2 - a2 / 8 * 8 = 2 := by rw [e8, hx]; rfl
      have ex2 : nI x - nI x / 8 * 8 = 2 := by rw [q_r8 (by omega), hx]; rfl
      obtain ⟨σ1, hσ1⟩ : ∃ σ1 : Nat → Int32, σ1 = if x = 90 then va_up (va_up σ 2 0) 4 0 else va_up σ 4 0 := ⟨_, rfl⟩
      have J32 : ∀ (t0 : Int32) (post : Int32 → gS → Prop), (t0 = 0 ∨ t0 = 1) → post t0 (σ1, α) → wp_Rd_endCycle_J32 σ α (nI x) t0 post := by
        intro t0 post ht0 hp
        have hnar : narrow .boolean (.int t0) = .int t0 := by
          rcases ht0 with e | e
          · rw [e]; rfl
          · rw [e]; rfl
        unfold wp_Rd_endCycle_J32 wp_Rd_endCycle_J49
        refine ⟨fun z => ⟨hnar, ?_⟩, fun z => ⟨hnar, ?_⟩⟩
        · rw [hσ1, if_neg (fun y => z (by rw [y]; rfl))] at hp
          exact hp
        · rw [hσ1, if_pos ((nI_eq (b := 90) (by omega) (by decide)).mp z)] at hp
          exact hp
      have E : ∀ (P : Int32 → gS → Prop), (¬ σ 4 = 0 → P 0 (σ1, α)) → (σ 4 = 0 → P 1 (σ1, α)) → wp_Rd_endCycle σ α (σ 9) P := by
        intro P p0 p1
        unfold wp_Rd_endCycle
        rw [hN]
        refine x_off_1 k1 k2 (by omega) hn (fun z => absurd z (by omega)) (fun _ => ?_)
        rw [eo]
        exact br_f (nI_pos (by omega)) (br_t ex2 ⟨fun z => J32 0 P (Or.inl rfl) (p0 z), fun z => J32 1 P (Or.inr rfl) (p1 z)⟩)
      have M1 : Mid n σ1 α μ β := by
        rw [hσ1]
        split
        · exact h0
        · exact h0
      have U1 : rMul (σ1 16) (σ1 17) (μ 15) := by
        rw [hσ1]
        split
        · exact hU
        · exact hU
      have F1 : rFac (μ 15) (σ1 15) (μ 16) := by
        rw [hσ1]
        split
        · exact hF2
        · exact hF2
      have nq : ¬ qM (n + 1) f := by
        intro z
        have z2 := z.2
        omega
      have C1 : rCard (n + 1) (σ1 2) (σ1 3) (σ1 4) (σ1 1) (α 5) (μ 19) (μ 20) (β 4) := by
        rw [hσ1]
        split
        · exact Or.inl ⟨rfl, rfl, Or.inr ⟨f, k3, by omega⟩⟩
        · exact Or.inr ⟨f, t, k1, k2, k3, by omega, by omega, k7, k8, k9, k10, Or.inl rfl, k12, fun z => absurd z nq, fun _ => rfl⟩
      by_cases hmo : μ 20 = 0
      · have h4 : σ 4 = 0 := by rw [k11]; exact hmo
        obtain ⟨N1, O1, G1, FF1, L1, R1, W1, D1, P1, S1, K1, E1⟩ := M1
        obtain ⟨s, f1, f2⟩ := c_fail0 (σ := σ1) (μ := μ) (α := α) (β := β) 1 FF1
        refine ⟨va_up (va_up σ1 7 0) 8 s, va_up (va_up μ 1 0) 2 s, ?_, ?_, ⟨N1, O1, ⟨rfl, Or.inl rfl⟩, rfl, L1, R1, W1, D1, P1, S1, K1, E1⟩, U1, F1, C1⟩
        · intro post hp
          exact E _ (fun z => absurd h4 z) (fun _ => br_f (by decide) (f1 _ hp))
        · intro post hp
          exact br_f ha1 (bs_t e82 (bs_t hmo (f2 _ hp)))
      · have h4 : ¬ σ 4 = 0 := by rw [k11]; exact hmo
        refine ⟨σ1, μ, ?_, ?_, M1, U1, F1, C1⟩
        · intro post hp
          exact E _ (fun _ => br_t rfl hp) (fun z => absurd z h4)
        · intro post hp
          exact br_f ha1 (bs_t e82 (bs_f hmo hp))
    · have n82 : ¬ a2 - a2 / 8 * 8 = 2 := by
        rw [e8]
        intro z
        exact hx ((nI_eq (b := 2) (by omega) (by decide)).mp z)
      have nx2 : ¬ nI x - nI x / 8 * 8 = 2 := by
        rw [q_r8 (by omega)]
        intro z
        exact hx ((nI_eq (b := 2) (by omega) (by decide)).mp z)
      refine ⟨σ, μ, ?_, ?_, h0, hU, hF2, ?_⟩
      · intro post hp
        unfold wp_Rd_endCycle wp_Rd_endCycle_J18
        rw [hN]
        refine x_off_1 k1 k2 (by omega) hn (fun z => absurd z (by omega)) (fun _ => ?_)
        rw [eo]
        exact br_f (nI_pos (by omega)) (br_f nx2 (br_t rfl hp))
      · intro post hp
        exact br_f ha1 (bs_f n82 hp)
      · have yq : qM (n + 1) f := ⟨by omega, by omega⟩
        refine Or.inr ⟨f, t, k1, k2, k3, by omega, by omega, k7, k8, k9, k10, ?_, k12, fun _ => k11, fun z => absurd yq z⟩
        rw [k11]
        exact k12
theorem mid_rel (h : Mid n σ α μ β) (hU : rMul (σ 16) (σ 17) (μ 15)) (hF2 : rFac (μ 15) (σ 15) (μ 16)) (hC : rCard (n + 1) (σ 2) (σ 3) (σ 4) (σ 1) (α 5) (μ 19) (μ 20) (β 4)) : Rel (n + 1) (va_up σ 9 (σ 9 + 1)) α (va_up μ 0 (μ 0 + 1)) β := by
  obtain ⟨hN, hM, hG, hF, hL, hO, hW, hD, hP, hS, hK, hE⟩ := h
  refine ⟨?_, ?_, hG, hF, hL, hO, hW, hD, ?_, hU, hS, hK, fun _ => ⟨hE, hF2, hC⟩⟩
  · show σ 9 + 1 = nI (n + 1)
    rw [hN, nI_1]
  · show μ 0 + 1 = nI (n + 1)
    rw [hM, nI_1]
  · obtain ⟨e7, q7, k, hk, e5, e21, hq⟩ := hP
    refine ⟨e7, q7, k, hk, e5, e21, ?_⟩
    rcases hq with hq | ⟨h1, q, h2, h3, h4⟩
    · exact Or.inl hq
    · exact Or.inr ⟨h1, q, by omega, h3, h4⟩
-- windows
theorem x_cov11_no {post : Int32 → gS → Prop} {x : Int32} (h : x < σ 25 ∨ σ 26 < x) (hp : post 0 (σ, α)) : wp_Wi_covers_11 σ α x post := by
  unfold wp_Wi_covers_11 wp_Wi_covers_11_J20 wp_Wi_covers_11_J21
  exact ⟨fun _ => ⟨rfl, hp⟩, fun z => br_t (h.resolve_left z) ⟨rfl, hp⟩⟩
theorem x_cov11_yes {post : Int32 → gS → Prop} {x : Int32} (h : ¬ (x < σ 25 ∨ σ 26 < x)) (hp : post 1 (σ, α)) : wp_Wi_covers_11 σ α x post := by
  unfold wp_Wi_covers_11 wp_Wi_covers_11_J20 wp_Wi_covers_11_J21
  exact br_f (fun z => h (Or.inl z)) (br_f (fun z => h (Or.inr z)) ⟨rfl, hp⟩)
theorem x_cov10_no {post : Int32 → gS → Prop} {x : Int32} (h : x < σ 20 ∨ σ 21 < x) (hp : post 0 (σ, α)) : wp_Wi_covers_10 σ α x post := by
  unfold wp_Wi_covers_10 wp_Wi_covers_10_J20 wp_Wi_covers_10_J21
  exact ⟨fun _ => ⟨rfl, hp⟩, fun z => br_t (h.resolve_left z) ⟨rfl, hp⟩⟩
theorem x_cov10_yes {post : Int32 → gS → Prop} {x : Int32} (h : ¬ (x < σ 20 ∨ σ 21 < x)) (hp : post 1 (σ, α)) : wp_Wi_covers_10 σ α x post := by
  unfold wp_Wi_covers_10 wp_Wi_covers_10_J20 wp_Wi_covers_10_J21
  exact br_f (fun z => h (Or.inl z)) (br_f (fun z => h (Or.inr z)) ⟨rfl, hp⟩)
theorem m_latest {post : gS → Prop} {t0 : Int32} (ht : t0 = 0 ∨ t0 = 1) (hn : μ 0 < μ 9 ∨ μ 10 < μ 0 → wp_Md_cycle_J87 (va_up μ 20 t0) β a1 a2 0 post) (hy : ¬ (μ 0 < μ 9 ∨ μ 10 < μ 0) → wp_Md_cycle_J87 (va_up μ 20 t0) β a1 a2 1 post) : wp_Md_cycle_J57 μ β a1 a2 t0 post := by
  have hb : narrow .boolean (.int t0) = .int t0 ∧ fits .boolean (.int t0) = true := by
    rcases ht with e | e
    · rw [e]; exact ⟨rfl, rfl⟩
    · rw [e]; exact ⟨rfl, rfl⟩
  unfold wp_Md_cycle_J57 wp_Md_cycle_J86
  exact ⟨hb, fun z => hn (Or.inl z), fun z => ⟨fun y => hn (Or.inr y), fun y => hy (fun w => w.elim z y)⟩⟩
theorem m_cur_1 {post : Int32 → gS → Prop} (h : ¬ (μ 0 < μ 9 ∨ μ 10 < μ 0)) (hp : post (μ 8) (μ, β)) : wp_Md_current μ β post := by
  unfold wp_Md_current wp_Md_current_J59
  exact br_f (fun z => h (Or.inl z)) (br_f (fun z => h (Or.inr z)) hp)
theorem m_cur_2 {post : Int32 → gS → Prop} (h : μ 0 < μ 9 ∨ μ 10 < μ 0) (h2 : ¬ (μ 0 < μ 12 ∨ μ 13 < μ 0)) (hp : post (μ 11) (μ, β)) : wp_Md_current μ β post := by
  unfold wp_Md_current wp_Md_current_J29 wp_Md_current_J58 wp_Md_current_J59
  have K : (μ 0 < μ 12 → post (-1) (μ, β)) ∧ (¬ μ 0 < μ 12 → (μ 13 < μ 0 → post (-1) (μ, β)) ∧ (¬ μ 13 < μ 0 → post (μ 11) (μ, β))) := br_f (fun z => h2 (Or.inl z)) (br_f (fun z => h2 (Or.inr z)) hp)
  exact ⟨fun _ => K, fun z => br_t (h.resolve_left z) K⟩
theorem m_cur_3 {post : Int32 → gS → Prop} (h : μ 0 < μ 9 ∨ μ 10 < μ 0) (h2 : μ 0 < μ 12 ∨ μ 13 < μ 0) (hp : post (-1) (μ, β)) : wp_Md_current μ β post := by
  unfold wp_Md_current wp_Md_current_J29 wp_Md_current_J58 wp_Md_current_J59
  have K : (μ 0 < μ 12 → post (-1) (μ, β)) ∧ (¬ μ 0 < μ 12 → (μ 13 < μ 0 → post (-1) (μ, β)) ∧ (¬ μ 13 < μ 0 → post (μ 11) (μ, β))) := ⟨fun _ => hp, fun z => br_t (h2.resolve_left z) hp⟩
  exact ⟨fun _ => K, fun z => br_t (h.resolve_left z) K⟩
/-- what the windows say in the cycle n -/
theorem c_wins {d : Nat} {s t f l v s' t' f' l' o mf ml o' mf' ml' tu : Int32} (hn : n < 2 ^ 29) (h : rWins d s t f l v s' t' f' l' o mf ml o' mf' ml' tu) :
    ((nI n < f' ∨ l' < nI n) ∧ (nI n < f ∨ l < nI n) ∧ (nI n < mf ∨ ml < nI n) ∧ (nI n < mf' ∨ ml' < nI n)) ∨
    (¬ (nI n < f' ∨ l' < nI n) ∧ (nI n < mf ∨ ml < nI n) ∧ ¬ (nI n < mf' ∨ ml' < nI n) ∧ ∃ k : Nat, k < 2097152 ∧ o' = nI k ∧ s' = nI (k % 16) ∧ t' = nI (k / 16 % 16)) ∨
    ((nI n < f' ∨ l' < nI n) ∧ ¬ (nI n < f ∨ l < nI n) ∧ ¬ (nI n < mf ∨ ml < nI n) ∧ ∃ k : Nat, k < 2097152 ∧ o = nI k ∧ s = nI (k % 16) ∧ t = nI (k / 16 % 16)) := by
  have shutX : ∀ a b c e : Int32, rShut a b c e → (nI n < a ∨ b < nI n) ∧ (nI n < c ∨ e < nI n) := by
    rintro a b c e ⟨rfl, rfl, rfl, rfl⟩
    have p := nI_pos (n := n) (by omega)
    constructor
    · rcases Nat.eq_zero_or_pos n with z | z
      · rw [z]; exact Or.inl (by decide)
      · exact Or.inr (nI_lt (a := 0) z (by omega))
    · right
      grind
  rcases h with ⟨h1, h2⟩ | ⟨F, hF, ⟨k, L, V, c1, c2, c3, c4, c5, c6, c7, c8, c9, c10, c11, c12⟩, hb⟩
  · exact Or.inl ⟨(shutX _ _ _ _ h1).1, (shutX _ _ _ _ h2).1, (shutX _ _ _ _ h2).2, (shutX _ _ _ _ h1).2⟩
  · have em : (nI n < f ∨ l < nI n) ↔ (nI n < mf ∨ ml < nI n) := by rw [c5, c6, c7, c8]
    rcases hb with hb | ⟨k', G, L', b1, b2, b3, b4, b5, b6, b7, b8, b9, b10⟩
    · by_cases hc : nI n < f ∨ l < nI n
      · exact Or.inl ⟨(shutX _ _ _ _ hb).1, hc, em.mp hc, (shutX _ _ _ _ hb).2⟩
      · exact Or.inr (Or.inr ⟨(shutX _ _ _ _ hb).1, hc, fun z => hc (em.mpr z), k, c1, c2, c3, c4⟩)
    · have eb : (nI n < f' ∨ l' < nI n) ↔ (nI n < mf' ∨ ml' < nI n) := by rw [b5, b6, b8, b9]
      by_cases hb' : nI n < f' ∨ l' < nI n
      · by_cases hc : nI n < f ∨ l < nI n
        · exact Or.inl ⟨hb', hc, em.mp hc, eb.mp hb'⟩
        · exact Or.inr (Or.inr ⟨hb', hc, fun z => hc (em.mpr z), k, c1, c2, c3, c4⟩)
      · refine Or.inr (Or.inl ⟨hb', Or.inl ?_, fun z => hb' (eb.mpr z), k', b1, b2, b3, b4⟩)
        rw [c6]
        refine nI_lt ?_ (by omega)
        have : ¬ l' < nI n := fun z => hb' (Or.inr z)
        rw [b8] at this
        have : ¬ L' < n := fun z => this (nI_lt z (by omega))
        omega
end PF
