-- pure rows: one cycle, its parts
theorem c128 : (128 : Int32).toNatClampNeg = 128 := by decide
theorem c129 : (129 : Int32).toNatClampNeg = 129 := by decide
theorem c130 : (130 : Int32).toNatClampNeg = 130 := by decide
theorem c131 : (131 : Int32).toNatClampNeg = 131 := by decide
theorem io1 : Int32.ofInt 1 = 1 := by decide
theorem qS_16 {x : Int32} (h : qS x) : x.toInt16.toInt32 = x := by
  rw [← vp_nar_short]
  exact qS_id h
theorem q_fld {k : Nat} (hk : k < 2 ^ 31) (s m : Int32) (a b : Nat) (hs : (s.toBitVec.smod 32).toNat = a) (hm : m.toBitVec.toNat = 2 ^ b - 1) : (nI k >>> s) &&& m = nI (k / 2 ^ a % 2 ^ b) := by
  rw [pk_shrN hk s a hs, pk_andN _ b hm]
  exact Nat.lt_of_le_of_lt (Nat.div_le_self _ _) (by omega)
theorem q_wait {k : Nat} (hk : k < 2 ^ 31) : (nI k >>> ((10 : Int32) &&& 31)) &&& 31 = nI (k / 1024 % 32) := q_fld hk _ _ 10 5 (by decide) (by decide)
theorem q_time {k : Nat} (hk : k < 2 ^ 31) : (nI k >>> ((15 : Int32) &&& 31)) &&& 31 = nI (k / 32768 % 32) := q_fld hk _ _ 15 5 (by decide) (by decide)
theorem q_kind {k : Nat} (hk : k < 2 ^ 31) : (nI k >>> ((8 : Int32) &&& 31)) &&& 3 = nI (k / 256 % 4) := q_fld hk _ _ 8 2 (by decide) (by decide)
theorem q_dest {k : Nat} (hk : k < 2 ^ 31) : (nI k >>> ((4 : Int32) &&& 31)) &&& 15 = nI (k / 16 % 16) := q_fld hk _ _ 4 4 (by decide) (by decide)
theorem q_next {k : Nat} (hk : k < 2 ^ 31) : (nI k >>> ((20 : Int32) &&& 31)) &&& 1 = nI (k / 1048576 % 2) := q_fld hk _ _ 20 1 (by decide) (by decide)
theorem q_nextM {k : Nat} (hk : k < 2 ^ 31) : nI k >>> ((20 : Int32) &&& 31) = nI (k / 1048576) := pk_shrN hk _ 20 (by decide)
theorem q_src {k : Nat} (hk : k < 2 ^ 31) : nI k &&& 15 = nI (k % 16) := pk_andN (by omega) 4 (by decide)
theorem q_a31 {k : Nat} (hk : k < 2 ^ 31) : nI k &&& 31 = nI (k % 32) := pk_andN (by omega) 5 (by decide)
theorem q_r32 {k : Nat} (hk : k < 2 ^ 31) : nI k - nI k / 32 * 32 = nI (k % 32) := pk_rem (d := 32) hk (by decide) (by decide)
theorem q_r2 {k : Nat} (hk : k < 2 ^ 31) : nI k - nI k / 2 * 2 = nI (k % 2) := pk_rem (d := 2) hk (by decide) (by decide)
theorem q_r8 {k : Nat} (hk : k < 2 ^ 31) : nI k - nI k / 8 * 8 = nI (k % 8) := pk_rem (d := 8) hk (by decide) (by decide)
theorem q_d8 {k : Nat} (hk : k < 2 ^ 31) : nI k / 8 = nI (k / 8) := pk_div (d := 8) hk (by decide) (by decide)
theorem q_2 (n w : Nat) : nI n + 2 + nI w = nI (n + 2 + w) := by
  show nI n + nI 2 + nI w = _
  rw [nI_add, nI_add]
theorem q_e16 {s k : Nat} (hs : s < 16) (hk : k < 16) (e : nI s = nI k) : s = k := (nI_eq (by omega) (by omega)).mp e
/-- between the reading of an order and the end of the cycle n -/
def Mid (n : Nat) (σ : Nat → Int32) (α : Nat → Nat → Int32) (μ : Nat → Int32) (β : Nat → Nat → Int32) : Prop :=
  σ 9 = nI n ∧ μ 0 = nI n ∧ rGo (σ 7) (μ 1) ∧ σ 8 = μ 2 ∧ rLat (n + 1) (σ 12) (σ 13) (σ 14) (μ 5) (μ 6) (μ 7) ∧ rOrd (α 2) (β 1) ∧ rWrd (α 3) (β 2) ∧
  rDeck (σ 0) (σ 1) (α 5) (μ 17) (μ 18) (β 3) (β 4) ∧ rPun n (σ 5) (σ 6) (α 7) (μ 21) (μ 22) (β 5) ∧
  rProg (σ 28) (μ 23) (α 13) (α 14) (α 15) (α 16) (α 17) (β 6) (β 7) (β 8) (β 9) (β 10) ∧ rKept (α 22) (α 21) (μ 25) (β 20) (β 21) ∧
  (∃ d : Nat, rDue (n + 1) d (σ 11) (σ 10) (μ 3) (μ 4) ∧ rWins d (σ 18) (σ 19) (σ 20) (σ 21) (σ 22) (σ 23) (σ 24) (σ 25) (σ 26) (μ 8) (μ 9) (μ 10) (μ 11) (μ 12) (μ 13) (μ 14))
def qGap (w t : Nat) : Nat := if t < w then t + 32 else t
def qLast (c f v : Nat) : Nat := if c = 2 then v else if c = 1 then f + 1 else f
section PC
variable {σ μ : Nat → Int32} {α β : Nat → Nat → Int32} {n : Nat}
theorem x_open {post : gS → Prop} {k : Nat} (hk : k < 2097152) (hn : n < 2 ^ 29) (hp : post (va_up (va_up (va_up (va_up (va_up σ 18 (nI (k % 16))) 19 (nI (k / 16 % 16))) 20 (nI (n + 2 + k / 1024 % 32))) 22 (nI (n + 2 + qGap (k / 1024 % 32) (k / 32768 % 32)))) 21 (nI (qLast (k / 256 % 4) (n + 2 + k / 1024 % 32) (n + 2 + qGap (k / 1024 % 32) (k / 32768 % 32)))), α)) : wp_Wi_open_10 σ α (nI k) (nI n) post := by
  have hk31 : k < 2 ^ 31 := by omega
  have J : ∀ g : Nat, g = qGap (k / 1024 % 32) (k / 32768 % 32) → wp_Wi_open_10_J51 (va_up (va_up σ 18 (nI (k % 16))) 19 (nI (k / 16 % 16))) α (nI k) (nI n) (nI (k / 1024 % 32)) (nI g) post := by
    intro g hg
    unfold wp_Wi_open_10_J51 wp_Wi_lastOf_10 wp_Wi_lastOf_10_J28
    rw [q_2, q_2, q_kind hk31]
    rw [← hg] at hp
    unfold qLast at hp
    refine ⟨fun h => ⟨fun h2 => ?_, fun h2 => ?_⟩, fun h => ?_⟩
    · rw [if_neg (fun z => h (by rw [z]; rfl)), if_neg (fun z => h2 (by rw [z]; rfl))] at hp
      exact hp
    · have z : k / 256 % 4 = 1 := (nI_eq (b := 1) (by omega) (by decide)).mp h2
      rw [if_neg (by omega), if_pos z, ← nI_1] at hp
      exact hp
    · have z : k / 256 % 4 = 2 := (nI_eq (b := 2) (by omega) (by decide)).mp h
      rw [if_pos z] at hp
      exact hp
  unfold wp_Wi_open_10
  rw [q_wait hk31, q_time hk31, q_src hk31, q_dest hk31]
  refine ⟨fun h => J _ ?_, fun h => ?_⟩
  · have := (nI_leI (by omega) (by omega)).mp h
    exact (if_neg (by omega)).symm
  · have e : nI (k / 32768 % 32) + 32 = nI (k / 32768 % 32 + 32) := nI_add _ 32
    rw [e]
    refine J _ ?_
    have : ¬ k / 1024 % 32 ≤ k / 32768 % 32 := fun z => h (nI_le z (by omega))
    exact (if_pos (by omega)).symm
theorem m_gapOf {post : Int32 → gS → Prop} {k : Nat} (hk : k < 2097152) (hp : post (nI (qGap (k / 1024 % 32) (k / 32768 % 32))) (μ, β)) : wp_Md_gapOf μ β (nI k) post := by
  have hk31 : k < 2 ^ 31 := by omega
  unfold wp_Md_gapOf wp_Md_waitOf wp_Md_gapOf_J24
  rw [q_wait hk31, q_time hk31]
  unfold qGap at hp
  refine ⟨fun h => ?_, fun h => ?_⟩
  · have := (nI_leI (by omega) (by omega)).mp h
    rw [if_neg (by omega)] at hp
    exact hp
  · have : ¬ k / 1024 % 32 ≤ k / 32768 % 32 := fun z => h (nI_le z (by omega))
    rw [if_pos (by omega), ← nI_add] at hp
    exact hp
/-- the reading of an order, if one is due -/
theorem c_read {wc wb : Nat} (hn : n < 2 ^ 29) (h : Rel n σ α μ β) (g : μ 1 ≠ 0) : ∃ (wc' wb' : Nat) (σ' μ' : Nat → Int32), (∀ post, wp_Mc_goThroughCycle_J15 wc' wb' σ' α post → wp_Mc_goThroughCycle wc wb σ α post) ∧ (∀ post, wp_Md_cycle_J15 μ' β post → wp_Md_cycle μ β post) ∧ Mid n σ' α μ' β ∧ rMul (σ' 16) (σ' 17) (μ' 15) ∧ rFac (μ' 15) (σ' 15) (μ' 16) ∧ rCard n (σ' 2) (σ' 3) (σ' 4) (σ' 1) (α 5) (μ' 19) (μ' 20) (β 4) := by
  obtain ⟨hN, hM, hG, hF, hL, hO, hW, hD, hP, hU, hS, hK, hR⟩ := h
  obtain ⟨⟨d, ⟨d1, d2, d3, d4, l, hl, d5, d6⟩, hw⟩, hfac, hcard⟩ := hR g
  obtain ⟨eL, q, hq, e7, hz, hp⟩ := hL
  by_cases hnd : n = d
  · -- an order is read
    have hx : σ 9 = σ 11 := by rw [hN, d3, hnd]
    have hy : μ 0 = μ 3 := by rw [hM, d4, hnd]
    obtain ⟨k, hk, ek⟩ := hO.2 (32 * l + n % 32) (by omega)
    have i1 : σ 10 * 32 + (σ 9 &&& 31) = nI (32 * l + n % 32) := by rw [d5, hN, q_a31 (by omega), q_idx]
    have i2 : 32 * μ 4 + (μ 0 - μ 0 / 32 * 32) = nI (32 * l + n % 32) := by rw [d6, hM, q_r32 (by omega), q_idx']
    have ok : α 2 (nI (32 * l + n % 32)).toNatClampNeg = nI k := by rw [nI_clamp (by omega)]; exact ek
    have ok' : β 1 (nI (32 * l + n % 32)).toNatClampNeg = nI k := by rw [← hO.1]; exact ok
    have hk31 : k < 2 ^ 31 := by omega
    obtain ⟨w, hwd⟩ : ∃ w, w = k / 1024 % 32 := ⟨_, rfl⟩
    obtain ⟨gp, hgd⟩ : ∃ gp, gp = qGap w (k / 32768 % 32) := ⟨_, rfl⟩
    have hwg : w ≤ gp ∧ gp ≤ 63 := by
      rw [hgd]
      unfold qGap
      split <;> omega
    obtain ⟨L, hLd⟩ : ∃ L, L = qLast (k / 256 % 4) (n + 2 + w) (n + 2 + gp) := ⟨_, rfl⟩
    have hLb : L ≤ n + 2 + gp + 1 := by
      rw [hLd]
      unfold qLast
      split
      · omega
      · split <;> omega
    refine ⟨wb, wc, (va_up (va_up (va_up (va_up (va_up (va_up (va_up (va_up (va_up (va_up (va_up (va_up (va_up (va_up (va_up (va_up (va_up (va_up (va_up (va_up σ 12 (σ 10)) 13 (nI (n % 32))) 14 (σ 14 + 1)) 18 (σ 23)) 19 (σ 24)) 20 (σ 25)) 21 (σ 26)) 22 (σ 27)) 23 (σ 18)) 24 (σ 19)) 25 (σ 20)) 26 (σ 21)) 27 (σ 22)) 18 (nI (k % 16))) 19 (nI (k / 16 % 16))) 20 (nI (n + 2 + w))) 22 (nI (n + 2 + gp))) 21 (nI L)) 10 (nI (k / 1048576 % 2))) 11 (nI (n + 2 + gp))),
      (va_up (va_up (va_up (va_up (va_up (va_up (va_up (va_up (va_up (va_up (va_up (va_up μ 5 (μ 4)) 6 (nI (n % 32))) 7 (μ 7 + 1)) 8 (nI k)) 11 (μ 8)) 12 (μ 9)) 13 (μ 10)) 9 (nI (n + 2 + w))) 10 (nI L)) 3 (nI (n + 2 + gp))) 4 (nI (k / 1048576))) 14 0), ?_, ?_, ?_, hU, hfac, hcard⟩
    · intro post hpost
      unfold wp_Mc_goThroughCycle
      refine bs_t hx ?_
      unfold wp_Mc_takeOrder
      rw [i1, ok]
      refine ⟨vp_in_nI (by omega) (by decide), ?_⟩
      rw [hN, q_a31 (by omega)]
      refine x_open hk (by omega) ?_
      rw [q_next hk31, ← hwd, ← hgd, ← hLd]
      exact hpost
    · intro post hpost
      unfold wp_Md_cycle
      refine bs_t hy ?_
      have J : ∀ (t0 : Int32) (μ1 : Nat → Int32), t0 = nI L → μ1 0 = nI n → μ1 8 = nI k → (wp_Md_cycle_J15 (va_up (va_up (va_up (va_up μ1 10 (nI L)) 3 (nI (n + 2 + gp))) 4 (nI (k / 1048576))) 14 0) β post) → wp_Md_read_0_J143 μ1 β t0 (fun u12 => wp_Md_cycle_J15 u12.1 u12.2 post) := by
        intro t0 μ1 e1 e2 e3 hh
        unfold wp_Md_read_0_J143
        rw [e3, e1, e2]
        refine m_gapOf hk ?_
        rw [q_2, ← hwd, ← hgd]
        have e4 : (va_up μ1 10 (nI L)) 8 = nI k := e3
        show wp_Md_cycle_J15 (va_up (va_up (va_up (va_up μ1 10 (nI L)) 3 (nI (n + 2 + gp))) 4 ((va_up μ1 10 (nI L)) 8 >>> ((20 : Int32) &&& 31))) 14 0) β post
        rw [e4, q_nextM hk31]
        exact hh
      unfold wp_Md_read_0 wp_Md_waitOf
      rw [i2, ok']
      refine ⟨vp_in_nI (by omega) (by decide), ?_⟩
      rw [hM, q_r32 (by omega), q_wait hk31, q_kind hk31, ← hwd]
      dsimp only
      rw [q_2]
      refine ⟨fun h1 => ⟨fun h2 => ?_, fun h2 => ?_⟩, fun h1 => ?_⟩
      · refine J _ _ ?_ hM rfl hpost
        rw [hLd]
        unfold qLast
        rw [if_neg (fun z => h2 (by rw [z]; rfl)), if_neg (fun z => h1 (by rw [z]; rfl))]
      · have z : k / 256 % 4 = 2 := (nI_eq (b := 2) (by omega) (by decide)).mp h2
        refine m_gapOf (μ := _) hk ?_
        refine J _ _ ?_ hM rfl hpost
        show μ 0 + 2 + nI (qGap (k / 1024 % 32) (k / 32768 % 32)) = nI L
        rw [hM, q_2, ← hwd, ← hgd, hLd]
        unfold qLast
        rw [if_pos z]
      · have z : k / 256 % 4 = 1 := (nI_eq (b := 1) (by omega) (by decide)).mp h1
        refine J _ _ ?_ hM rfl hpost
        rw [hLd, nI_1]
        unfold qLast
        rw [if_neg (by omega), if_pos z]
    · refine ⟨hN, hM, hG, hF, ⟨?_, q + 1, by omega, ?_, fun z => absurd z (by omega), fun _ => ⟨?_, rfl⟩⟩, hO, hW, hD, hP, hS, hK, n + 2 + gp, ⟨by omega, by omega, rfl, rfl, k / 1048576, by omega, ?_, rfl⟩, Or.inr ⟨n + 2 + w, by omega, ⟨k, L, n + 2 + gp, hk, rfl, rfl, rfl, rfl, rfl, rfl, rfl, rfl, hLb, by omega, Or.inl ⟨rfl, rfl⟩⟩, ?_⟩⟩
      · show σ 14 + 1 = μ 7 + 1
        rw [eL]
      · show μ 7 + 1 = nI (q + 1)
        rw [e7, nI_1]
      · show σ 10 = μ 4
        rw [d5, d6]
      · show nI (k / 1048576 % 2) = nI (k / 1048576)
        rw [Nat.mod_eq_of_lt (by omega)]
      · rcases hw with ⟨-, hw⟩ | ⟨F, hF2, ⟨k0, L0, V0, a1, a2, a3, a4, a5, a6, a7, a8, a9, a10, a11, a12⟩, -⟩
        · exact Or.inl hw
        · refine Or.inr ⟨k0, F, L0, a1, a2, a3, a4, a5, a6, hF2, a7, a8, ?_⟩
          rcases a12 with ⟨-, z⟩ | ⟨-, z⟩ <;> omega
  · have hx : ¬ σ 9 = σ 11 := by
      rw [hN, d3]
      intro z
      exact hnd ((nI_eq (by omega) (by omega)).mp z)
    have hy : ¬ μ 0 = μ 3 := by
      rw [hM, d4]
      intro z
      exact hnd ((nI_eq (by omega) (by omega)).mp z)
    refine ⟨wc, wb, σ, μ, ?_, ?_, ?_, hU, hfac, hcard⟩
    · intro post hpost
      unfold wp_Mc_goThroughCycle
      exact bs_f hx hpost
    · intro post hpost
      unfold wp_Md_cycle
      exact bs_f hy hpost
    · exact ⟨hN, hM, hG, hF, ⟨eL, q, by omega, e7, hz, hp⟩, hO, hW, hD, hP, hS, hK, d, ⟨by omega, by omega, d3, d4, l, hl, d5, d6⟩, hw⟩
end PC
