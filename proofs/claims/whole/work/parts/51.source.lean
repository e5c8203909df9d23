-- pure rows: the reader's row, sources
def rNo (n : Nat) (ps fa rm ta : Int32) (a : Nat → Int32) (fe mo : Int32) (b : Nat → Int32) : Prop :=
  rm = 0 ∧ ((ps = 0 ∧ (fe = -1 ∨ ∃ f : Nat, fe = nI f ∧ f + 130 < n)) ∨
    ∃ f t : Nat, ps = 1 ∧ fa = nI f ∧ fe = nI f ∧ f ≤ n ∧ n < f + 130 ∧ (n < f + 40 ∨ 2 < (n - (f + 40)) % 8) ∧ ta = nI t ∧ 12 ≤ t ∧ t ≤ 48 ∧ (∀ i, i < 12 → b i = a (t - 12 + i)) ∧ (mo = 0 ∨ mo = 1))
def rIn (n : Nat) (ps fa rm ta : Int32) (a : Nat → Int32) (fe mo : Int32) (b : Nat → Int32) (a1 a2 : Int32) : Prop :=
  ∃ f t x : Nat, ps = 1 ∧ fa = nI f ∧ fe = nI f ∧ f + 40 + x = n ∧ x ≤ 90 ∧ x % 8 ≤ 2 ∧ ta = nI t ∧ 12 ≤ t ∧ t ≤ 48 ∧ (∀ i, i < 12 → b i = a (t - 12 + i)) ∧ rm = mo ∧ (mo = 0 ∨ mo = 1) ∧ a1 = nI (x / 8) ∧ a2 = nI x
def rCardM (n : Nat) (ps fa rm ta : Int32) (a : Nat → Int32) (fe mo : Int32) (b : Nat → Int32) (a1 a2 : Int32) : Prop := (a1 = -1 ∧ rNo n ps fa rm ta a fe mo b) ∨ rIn n ps fa rm ta a fe mo b a1 a2
section PD
variable {σ μ : Nat → Int32} {α β : Nat → Nat → Int32} {n : Nat}
theorem q_40 {f x : Nat} (h : f + 40 + x = n) : nI n - nI f - 40 = nI x := by
  show nI n - nI f - nI 40 = nI x
  rw [pk_sub (by omega), pk_sub (by omega)]
  congr 1
  omega
theorem q_40n {f : Nat} (h : n < f + 40) (hf : f ≤ n) : nI n - nI f - 40 < 0 := by
  show nI n - nI f - nI 40 < 0
  rw [pk_sub hf]
  exact pk_sneg (by decide) (by omega)
theorem m_row_x {post : Int32 → gS → Prop} {f x : Nat} (hM : μ 0 = nI n) (e19 : μ 19 = nI f) (hx : f + 40 + x = n) (hn : n < 2 ^ 29) (hy : x % 8 ≤ 2 ∧ x ≤ 95 → post (nI (x / 8)) (μ, β)) (hno : ¬ (x % 8 ≤ 2 ∧ x ≤ 95) → post (-1) (μ, β)) : wp_Md_row μ β post := by
  unfold wp_Md_row wp_Md_row_J41 wp_Md_row_J49
  rw [hM, e19, q_40 hx, q_r8 (by omega), q_d8 (by omega)]
  refine br_f (nI_pos (by omega)) (br_f (nI_pos (by omega)) ⟨fun h => ?_, fun h => ⟨fun h2 => ?_, fun h2 => ?_⟩⟩)
  · have := (nI_ltI (a := 2) (by decide) (by omega)).mp h
    exact hno (by omega)
  · have a : ¬ 2 < x % 8 := fun z => h (nI_lt (a := 2) z (by omega))
    have b := (nI_leI (b := 11) (by omega) (by decide)).mp h2
    exact hy (by omega)
  · have b : ¬ x / 8 ≤ 11 := fun z => h2 (nI_le (b := 11) z (by decide))
    exact hno (by omega)
theorem m_row_no {post : Int32 → gS → Prop} {ps fa rm ta mo : Int32} {a b : Nat → Int32} (hM : μ 0 = nI n) (hn : n < 2 ^ 29) (h : rNo n ps fa rm ta a (μ 19) mo b) (hp : post (-1) (μ, β)) : wp_Md_row μ β post := by
  have neg : ∀ f : Nat, μ 19 = nI f → n < f + 40 → f ≤ n → wp_Md_row μ β post := by
    intro f e z z2
    unfold wp_Md_row wp_Md_row_J41 wp_Md_row_J49
    refine br_f (by rw [e]; exact nI_pos (by omega)) (br_t ?_ hp)
    rw [hM, e]
    exact q_40n z z2
  obtain ⟨-, ⟨-, h | ⟨f, e, h⟩⟩ | ⟨f, t, -, -, e, h1, h2, h3, -⟩⟩ := h
  · unfold wp_Md_row wp_Md_row_J41 wp_Md_row_J49
    exact br_t (by rw [h]; decide) hp
  · exact m_row_x (x := n - (f + 40)) hM e (by omega) hn (fun z => absurd z (by omega)) (fun _ => hp)
  · rcases Nat.lt_or_ge n (f + 40) with z | z
    · exact neg f e z h1
    · exact m_row_x (x := n - (f + 40)) hM e (by omega) hn (fun y => absurd y (by omega)) (fun _ => hp)
theorem x_off_0 {post : Int32 → gS → Prop} {x1 : Int32} (h : σ 2 = 0) (hp : post (-1) (σ, α)) : wp_Rd_offset σ α x1 post := by
  unfold wp_Rd_offset wp_Rd_offset_J32 wp_Rd_offset_J33 wp_Rd_offset_J49 wp_Rd_offset_J50
  exact ⟨fun _ => br_t h hp, fun _ => ⟨fun _ => br_t h hp, fun _ => ⟨fun _ => br_t h hp, fun _ => br_t h hp⟩⟩⟩
theorem x_off_1 {post : Int32 → gS → Prop} {f : Nat} (h : σ 2 = 1) (e3 : σ 3 = nI f) (hf : f ≤ n) (hn : n < 2 ^ 29) (hno : n < f + 40 ∨ 90 < n - (f + 40) ∨ 2 < (n - (f + 40)) % 8 → post (-1) (σ, α)) (hy : ¬ (n < f + 40 ∨ 90 < n - (f + 40) ∨ 2 < (n - (f + 40)) % 8) → post (nI (n - (f + 40))) (σ, α)) : wp_Rd_offset σ α (nI n) post := by
  have h0 : ¬ σ 2 = 0 := by rw [h]; decide
  unfold wp_Rd_offset wp_Rd_offset_J32 wp_Rd_offset_J33 wp_Rd_offset_J49 wp_Rd_offset_J50
  rw [e3]
  rcases Nat.lt_or_ge n (f + 40) with z | z
  · exact br_t (q_40n z hf) (br_f h0 (br_t rfl (hno (Or.inl z))))
  · rw [q_40 (x := n - (f + 40)) (by omega), q_r8 (by omega)]
    refine br_f (nI_pos (by omega)) ⟨fun a => br_f h0 (br_t rfl (hno ?_)), fun a => ⟨fun b => br_f h0 (br_t rfl (hno ?_)), fun b => br_f h0 (br_f (by decide) (hy ?_))⟩⟩
    · exact Or.inr (Or.inl ((nI_ltI (a := 90) (by decide) (by omega)).mp a))
    · have := (nI_leI (a := 3) (by decide) (by omega)).mp b
      exact Or.inr (Or.inr (by omega))
    · have a' : ¬ 90 < n - (f + 40) := fun y => a (nI_lt (a := 90) y (by omega))
      have b' : ¬ 3 ≤ (n - (f + 40)) % 8 := fun y => b (nI_le (a := 3) y (by omega))
      omega
theorem x_off_no {post : Int32 → gS → Prop} {mo fe : Int32} {b : Nat → Int32} (hn : n < 2 ^ 29) (h : rNo n (σ 2) (σ 3) (σ 4) (σ 1) (α 5) fe mo b) (hp : post (-1) (σ, α)) : wp_Rd_offset σ α (nI n) post := by
  obtain ⟨-, ⟨h, -⟩ | ⟨f, t, h, e, -, h1, h2, h3, -⟩⟩ := h
  · exact x_off_0 h hp
  · refine x_off_1 h e h1 hn (fun _ => hp) (fun z => absurd ?_ z)
    rcases h3 with h3 | h3
    · exact Or.inl h3
    · exact Or.inr (Or.inr h3)
/-- the reader's row at the beginning of a cycle -/
theorem c_row (hn : n < 2 ^ 29) (hM : μ 0 = nI n) (hc : rCard n (σ 2) (σ 3) (σ 4) (σ 1) (α 5) (μ 19) (μ 20) (β 4)) : ∃ a1 a2 t0 : Int32, (∀ post, wp_Md_cycle_J57 μ β a1 a2 t0 post → wp_Md_cycle_J15 μ β post) ∧ (t0 = 0 ∨ t0 = 1) ∧ rCardM n (σ 2) (σ 3) (σ 4) (σ 1) (α 5) (μ 19) t0 (β 4) a1 a2 := by
  have NO : rNo n (σ 2) (σ 3) (σ 4) (σ 1) (α 5) (μ 19) (if μ 20 = 0 then 0 else 1) (β 4) → ∃ a1 a2 t0 : Int32, (∀ post, wp_Md_cycle_J57 μ β a1 a2 t0 post → wp_Md_cycle_J15 μ β post) ∧ (t0 = 0 ∨ t0 = 1) ∧ rCardM n (σ 2) (σ 3) (σ 4) (σ 1) (α 5) (μ 19) t0 (β 4) a1 a2 := by
    intro h
    refine ⟨-1, μ 0 - μ 19 - 40, if μ 20 = 0 then 0 else 1, ?_, ?_, Or.inl ⟨rfl, h⟩⟩
    · intro post hp
      unfold wp_Md_cycle_J15 wp_Md_cycle_J52 wp_Md_cycle_J56
      refine m_row_no hM hn h ?_
      refine ⟨fun z => ?_, fun z => br_t (by decide) ?_⟩
      · have z : μ 20 = 0 := z
        rw [if_pos z] at hp
        exact hp
      · have z : ¬ μ 20 = 0 := z
        rw [if_neg z] at hp
        exact hp
    · split
      · exact Or.inl rfl
      · exact Or.inr rfl
  rcases hc with ⟨h1, h2, h3⟩ | ⟨f, t, k1, k2, k3, k4, k5, k6, k7, k8, k9, k10, k11, k12, k13⟩
  · exact NO ⟨h2, Or.inl ⟨h1, h3⟩⟩
  · by_cases hin : f + 40 ≤ n ∧ (n - (f + 40)) % 8 ≤ 2
    · obtain ⟨x, hx⟩ : ∃ x, x = n - (f + 40) := ⟨_, rfl⟩
      rw [← hx] at hin
      refine ⟨nI (x / 8), nI x, if μ 20 = 0 then 0 else if x % 8 = 0 then 0 else 1, ?_, ?_, Or.inr ⟨f, t, x, k1, k2, k3, by omega, by omega, hin.2, k6, k7, k8, k9, ?_, ?_, rfl, rfl⟩⟩
      · intro post hp
        unfold wp_Md_cycle_J15 wp_Md_cycle_J52 wp_Md_cycle_J56
        refine m_row_x (x := x) hM k3 (by omega) hn (fun _ => ?_) (fun z => absurd ⟨hin.2, by omega⟩ z)
        have e : μ 0 - μ 19 - 40 = nI x := by rw [hM, k3]; exact q_40 (by omega)
        refine ⟨fun z => ?_, fun z => br_f (nI_pos (by omega)) ?_⟩
        · have z : μ 20 = 0 := z
          rw [if_pos z] at hp
          show wp_Md_cycle_J57 μ β (nI (x / 8)) (μ 0 - μ 19 - 40) 0 post
          rw [e]
          exact hp
        · have z : ¬ μ 20 = 0 := z
          rw [if_neg z] at hp
          show ((μ 0 - μ 19 - 40) - (μ 0 - μ 19 - 40) / 8 * 8 = 0 → wp_Md_cycle_J57 μ β (nI (x / 8)) (μ 0 - μ 19 - 40) 0 post) ∧ (¬ (μ 0 - μ 19 - 40) - (μ 0 - μ 19 - 40) / 8 * 8 = 0 → wp_Md_cycle_J57 μ β (nI (x / 8)) (μ 0 - μ 19 - 40) 1 post)
          rw [e, q_r8 (by omega)]
          refine ⟨fun y => ?_, fun y => ?_⟩
          · have y : x % 8 = 0 := (nI_eq (b := 0) (by omega) (by decide)).mp y
            rw [if_pos y] at hp
            exact hp
          · rw [if_neg (fun w => y (by rw [w]; rfl))] at hp
            exact hp
      · split
        · exact Or.inl rfl
        · split
          · exact Or.inl rfl
          · exact Or.inr rfl
      · by_cases z : x % 8 = 0
        · rw [k13 (fun q => by have := q.2; omega)]
          rw [if_pos z]
          split <;> rfl
        · rw [k12 ⟨by omega, by omega⟩, if_neg z]
          rcases k11 with e | e
          · rw [if_pos e, e]
          · rw [if_neg (by rw [e]; decide), e]
      · split
        · exact Or.inl rfl
        · split
          · exact Or.inl rfl
          · exact Or.inr rfl
    · refine NO ⟨k13 (fun q => by have := q.1; have := q.2; omega), Or.inr ⟨f, t, k1, k2, k3, by omega, by omega, by omega, k6, k7, k8, k9, ?_⟩⟩
      split
      · exact Or.inl rfl
      · exact Or.inr rfl
-- sources
def qSp (n s : Nat) : Nat := if s < 6 then 32 * (s - 2) + n % 32 else if s = 6 then 128 else if s = 7 then 129 else 130 + n % 2
theorem qSp_lt {s : Nat} (h2 : 2 ≤ s) (h8 : s ≤ 8) : qSp n s < 132 := by
  unfold qSp
  split
  · omega
  · split
    · omega
    · split <;> omega
theorem s_presentedSpot {post : Int32 → gS → Prop} {s : Nat} (h2 : 2 ≤ s) (h8 : s ≤ 8) (hn : n < 2 ^ 29) (hp : post (nI (qSp n s)) (σ, α)) : wp_St_presentedSpot σ α (nI s) (nI n) post := by
  unfold wp_St_presentedSpot
  refine s_firstSpot (s_placesOf ?_)
  have e : qF (nI s) + (nI n &&& (qP (nI s) - 1)) = nI (qSp n s) := by
    rcases (show s = 2 ∨ s = 3 ∨ s = 4 ∨ s = 5 ∨ s = 6 ∨ s = 7 ∨ s = 8 by omega) with rfl | rfl | rfl | rfl | rfl | rfl | rfl
    · rw [show qF (nI 2) = nI 0 by decide, show qP (nI 2) - 1 = 31 by decide, q_a31 (by omega), nI_add]
      rfl
    · rw [show qF (nI 3) = nI 32 by decide, show qP (nI 3) - 1 = 31 by decide, q_a31 (by omega), nI_add]
      rfl
    · rw [show qF (nI 4) = nI 64 by decide, show qP (nI 4) - 1 = 31 by decide, q_a31 (by omega), nI_add]
      rfl
    · rw [show qF (nI 5) = nI 96 by decide, show qP (nI 5) - 1 = 31 by decide, q_a31 (by omega), nI_add]
      rfl
    · rw [show qF (nI 6) = nI 128 by decide, show qP (nI 6) - 1 = 0 by decide, pk_andN (by omega) 0 (by decide), nI_add]
      rw [show n % 2 ^ 0 = 0 by omega]
      rfl
    · rw [show qF (nI 7) = nI 129 by decide, show qP (nI 7) - 1 = 0 by decide, pk_andN (by omega) 0 (by decide), nI_add]
      rw [show n % 2 ^ 0 = 0 by omega]
      rfl
    · rw [show qF (nI 8) = nI 130 by decide, show qP (nI 8) - 1 = 1 by decide, pk_andN (by omega) 1 (by decide), nI_add]
      rfl
  show post (qF (nI s) + (nI n &&& (qP (nI s) - 1))) (σ, α)
  rw [e]
  exact hp
def qSrc (w : Nat → Int32) (n s : Nat) : Int32 := if s = 0 then 0 else if s = 1 then 1 else if s < 9 then w (qSp n s) else if s = 9 then (w 128 &&& w 129).toInt16.toInt32 else if s = 10 then (w 128 ^^^ w 129).toInt16.toInt32 else if s = 11 then -1 else if s = 12 then (w 128 >>> ((1 : Int32) &&& 31)).toInt16.toInt32 else if s = 14 then (w 128 ^^^ (-1)).toInt16.toInt32 else (nI n).toInt16.toInt32
theorem qSrc_s {w : Nat → Int32} {s : Nat} (hw : ∀ j, qS (w j)) : qS (qSrc w n s) := by
  unfold qSrc
  split
  · exact qS_0
  · split
    · exact (show qS 1 from rfl)
    · split
      · exact hw _
      · split
        · exact qS_s _
        · split
          · exact qS_s _
          · split
            · exact (show qS (-1) from rfl)
            · split
              · exact qS_s _
              · split
                · exact qS_s _
                · exact qS_s _
theorem x_J148 {post : Int32 → gS → Prop} {s : Nat} (h2 : 2 ≤ s) (h8 : s ≤ 8) (hn : n < 2 ^ 29) (hN : σ 9 = nI n) (hw : ∀ j, qS (α 3 j)) (hp : post (α 3 (qSp n s)) (σ, α)) : wp_Mc_sourceWord_J148 σ α (nI s) post := by
  unfold wp_Mc_sourceWord_J148
  rw [hN]
  have := qSp_lt (n := n) h2 h8
  refine s_presentedSpot h2 h8 hn ⟨vp_in_nI this (by decide), hw _, ?_⟩
  rw [nI_clamp (by omega)]
  exact hp
theorem x_src {post : Int32 → gS → Prop} {s : Nat} (hs : s < 16) (h13 : s ≠ 13) (hn : n < 2 ^ 29) (hN : σ 9 = nI n) (hw : ∀ j, qS (α 3 j)) (hp : post (qSrc (α 3) n s) (σ, α)) : wp_Mc_sourceWord σ α (nI s) post := by
  unfold wp_Mc_sourceWord
  rw [c128, c129]
  refine ⟨fun e => ?_, fun e => ?_, fun e => ?_, fun e => ?_, fun e => ?_, fun e => ?_, fun e => ?_, fun e => ?_, fun e => ?_, fun e => ?_, fun e => ?_, fun e => ?_, fun e => ?_, fun e => ?_, fun e => ?_, fun e => ?_, fun e => ?_⟩
  · have e := q_e16 (k := 0) hs (by decide) e
    subst e
    exact hp
  · have e := q_e16 (k := 1) hs (by decide) e
    subst e
    exact hp
  · have e := q_e16 (k := 2) hs (by decide) e
    subst e
    exact x_J148 (by decide) (by decide) hn hN hw hp
  · have e := q_e16 (k := 3) hs (by decide) e
    subst e
    exact x_J148 (by decide) (by decide) hn hN hw hp
  · have e := q_e16 (k := 4) hs (by decide) e
    subst e
    exact x_J148 (by decide) (by decide) hn hN hw hp
  · have e := q_e16 (k := 5) hs (by decide) e
    subst e
    exact x_J148 (by decide) (by decide) hn hN hw hp
  · have e := q_e16 (k := 6) hs (by decide) e
    subst e
    exact x_J148 (by decide) (by decide) hn hN hw hp
  · have e := q_e16 (k := 7) hs (by decide) e
    subst e
    exact x_J148 (by decide) (by decide) hn hN hw hp
  · have e := q_e16 (k := 8) hs (by decide) e
    subst e
    exact x_J148 (by decide) (by decide) hn hN hw hp
  · have e := q_e16 (k := 9) hs (by decide) e
    subst e
    exact ⟨pk_ns _, hp⟩
  · have e := q_e16 (k := 10) hs (by decide) e
    subst e
    exact ⟨pk_ns _, hp⟩
  · have e := q_e16 (k := 11) hs (by decide) e
    subst e
    exact hp
  · have e := q_e16 (k := 12) hs (by decide) e
    subst e
    exact ⟨pk_ns _, hp⟩
  · exact absurd (q_e16 (k := 13) hs (by decide) e) h13
  · have e := q_e16 (k := 14) hs (by decide) e
    subst e
    exact ⟨pk_ns _, hp⟩
  · have e := q_e16 (k := 15) hs (by decide) e
    subst e
    rw [hN]
    exact ⟨pk_ns _, hp⟩
  · rw [nI_toInt (by omega)] at e
    omega
theorem m_J96 {post : Int32 → gS → Prop} {s : Nat} (h2 : 2 ≤ s) (h8 : s ≤ 5) (hn : n < 2 ^ 29) (hM : μ 0 = nI n) (hw : ∀ j, qS (β 2 j)) (hp : post (β 2 (32 * (s - 2) + n % 32)) (μ, β)) : wp_Md_get_J96 μ β (nI s) post := by
  unfold wp_Md_get_J96
  have e : 32 * (nI s - 2) + (μ 0 - μ 0 / 32 * 32) = nI (32 * (s - 2) + n % 32) := by
    rw [hM, q_r32 (by omega)]
    show 32 * (nI s - nI 2) + _ = _
    rw [pk_sub h2, q_idx']
  rw [e]
  refine ⟨vp_in_nI (by omega) (by decide), hw _, ?_⟩
  rw [nI_clamp (by omega)]
  exact hp
theorem m_get {post : Int32 → gS → Prop} {s : Nat} (hs : s < 16) (h13 : s ≠ 13) (hn : n < 2 ^ 29) (hM : μ 0 = nI n) (hw : ∀ j, qS (β 2 j)) (hp : post (qSrc (β 2) n s) (μ, β)) : wp_Md_get μ β (nI s) post := by
  unfold wp_Md_get
  rw [c128, c129]
  refine ⟨fun e => ?_, fun e => ?_, fun e => ?_, fun e => ?_, fun e => ?_, fun e => ?_, fun e => ?_, fun e => ?_, fun e => ?_, fun e => ?_, fun e => ?_, fun e => ?_, fun e => ?_, fun e => ?_, fun e => ?_, fun e => ?_⟩
  · have e := q_e16 (k := 0) hs (by decide) e
    subst e
    exact hp
  · have e := q_e16 (k := 1) hs (by decide) e
    subst e
    exact hp
  · have e := q_e16 (k := 2) hs (by decide) e
    subst e
    exact m_J96 (by decide) (by decide) hn hM hw hp
  · have e := q_e16 (k := 3) hs (by decide) e
    subst e
    exact m_J96 (by decide) (by decide) hn hM hw hp
  · have e := q_e16 (k := 4) hs (by decide) e
    subst e
    exact m_J96 (by decide) (by decide) hn hM hw hp
  · have e := q_e16 (k := 5) hs (by decide) e
    subst e
    exact m_J96 (by decide) (by decide) hn hM hw hp
  · have e := q_e16 (k := 6) hs (by decide) e
    subst e
    exact ⟨hw _, hp⟩
  · have e := q_e16 (k := 7) hs (by decide) e
    subst e
    exact ⟨hw _, hp⟩
  · have e := q_e16 (k := 8) hs (by decide) e
    subst e
    have e : 130 + (μ 0 - μ 0 / 2 * 2) = nI (130 + n % 2) := by
      rw [hM, q_r2 (by omega)]
      exact nI_add 130 _
    rw [e]
    refine ⟨vp_in_nI (by omega) (by decide), hw _, ?_⟩
    rw [nI_clamp (by omega)]
    exact hp
  · have e := q_e16 (k := 9) hs (by decide) e
    subst e
    exact ⟨pk_ns _, hp⟩
  · have e := q_e16 (k := 10) hs (by decide) e
    subst e
    exact ⟨pk_ns _, hp⟩
  · have e := q_e16 (k := 11) hs (by decide) e
    subst e
    exact hp
  · have e := q_e16 (k := 12) hs (by decide) e
    subst e
    exact ⟨pk_ns _, hp⟩
  · exact absurd (q_e16 (k := 13) hs (by decide) e) h13
  · have e := q_e16 (k := 14) hs (by decide) e
    subst e
    exact ⟨pk_ns _, hp⟩
  · rw [nI_toInt (by omega)] at e
    have e : s = 15 := by omega
    subst e
    rw [hM]
    exact ⟨pk_ns _, hp⟩
/-- the word of a source, and that a row was moved -/
theorem c_src {a1 a2 : Int32} {s : Nat} (hs : s < 16) (hn : n < 2 ^ 29) (hN : σ 9 = nI n) (hM : μ 0 = nI n) (hW : rWrd (α 3) (β 2)) (h5 : ∀ j, qS (α 5 j)) (hb : μ 20 = 0 ∨ μ 20 = 1) (hc : rCardM n (σ 2) (σ 3) (σ 4) (σ 1) (α 5) (μ 19) (μ 20) (β 4) a1 a2) : ∃ (v t1 : Int32) (σ' : Nat → Int32), qS v ∧ (∀ post, post v (σ', α) → wp_Mc_sourceWord σ α (nI s) post) ∧ (∀ post, post v (μ, β) → wp_Md_get μ β (nI s) post) ∧ (σ' = σ ∨ σ' = va_up σ 4 1) ∧ (t1 = 0 ∨ t1 = 1) ∧ (∀ A B : Prop, (t1 = 1 → A) → (t1 = 0 → B) → (¬ μ 20 = 0 → A) ∧ (μ 20 = 0 → (a1 < 0 → B) ∧ (¬ a1 < 0 → (¬ nI s = 13 → B) ∧ (nI s = 13 → A)))) ∧ rCardM n (σ' 2) (σ' 3) (σ' 4) (σ' 1) (α 5) (μ 19) t1 (β 4) a1 a2 := by
  have hw' : ∀ j, qS (β 2 j) := by rw [← hW.1]; exact hW.2
  have keep : (s ≠ 13 ∨ a1 < 0) → ∀ A B : Prop, (μ 20 = 1 → A) → (μ 20 = 0 → B) → (¬ μ 20 = 0 → A) ∧ (μ 20 = 0 → (a1 < 0 → B) ∧ (¬ a1 < 0 → (¬ nI s = 13 → B) ∧ (nI s = 13 → A))) := by
    intro h A B ha hb2
    refine ⟨fun z => ha (hb.resolve_left z), fun z => ⟨fun _ => hb2 z, fun y => ⟨fun _ => hb2 z, fun w => ?_⟩⟩⟩
    rcases h with h | h
    · exact absurd (q_e16 (k := 13) hs (by decide) w) h
    · exact absurd h y
  by_cases h13 : s = 13
  · subst h13
    rcases hc with ⟨e1, hno⟩ | hin
    · refine ⟨0, μ 20, σ, rfl, ?_, ?_, Or.inl rfl, hb, keep (Or.inr (by rw [e1]; decide)), Or.inl ⟨e1, hno⟩⟩
      · intro post hp
        unfold wp_Mc_sourceWord
        refine ⟨fun e => absurd e (by decide), fun e => absurd e (by decide), fun e => absurd e (by decide), fun e => absurd e (by decide), fun e => absurd e (by decide), fun e => absurd e (by decide), fun e => absurd e (by decide), fun e => absurd e (by decide), fun e => absurd e (by decide), fun e => absurd e (by decide), fun e => absurd e (by decide), fun e => absurd e (by decide), fun e => absurd e (by decide), fun _ => ?_, fun e => absurd e (by decide), fun e => absurd e (by decide), fun e => absurd e (by decide)⟩
        rw [hN]
        unfold wp_Rd_moveRow
        exact x_off_no hn hno (br_f (by decide) ⟨rfl, hp⟩)
      · intro post hp
        unfold wp_Md_get wp_Md_get_J187
        refine ⟨fun e => absurd e (by decide), fun e => absurd e (by decide), fun e => absurd e (by decide), fun e => absurd e (by decide), fun e => absurd e (by decide), fun e => absurd e (by decide), fun e => absurd e (by decide), fun e => absurd e (by decide), fun e => absurd e (by decide), fun e => absurd e (by decide), fun e => absurd e (by decide), fun e => absurd e (by decide), fun e => absurd e (by decide), fun _ => ?_, fun e => absurd e (by decide), fun e => absurd e (by decide)⟩
        exact m_row_no hM hn hno (br_f (by decide) ⟨rfl, hp⟩)
    · obtain ⟨f, t, x, k1, k2, k3, k4, k5, k6, k7, k8, k9, k10, k11, k12, k13, k14⟩ := hin
      have hv := k10 (x / 8) (by omega)
      refine ⟨α 5 (t - 12 + x / 8), 1, va_up σ 4 1, h5 _, ?_, ?_, Or.inr rfl, Or.inr rfl, ?_, Or.inr ⟨f, t, x, k1, k2, k3, k4, k5, k6, k7, k8, k9, k10, rfl, Or.inr rfl, k13, k14⟩⟩
      · intro post hp
        unfold wp_Mc_sourceWord
        refine ⟨fun e => absurd e (by decide), fun e => absurd e (by decide), fun e => absurd e (by decide), fun e => absurd e (by decide), fun e => absurd e (by decide), fun e => absurd e (by decide), fun e => absurd e (by decide), fun e => absurd e (by decide), fun e => absurd e (by decide), fun e => absurd e (by decide), fun e => absurd e (by decide), fun e => absurd e (by decide), fun e => absurd e (by decide), fun _ => ?_, fun e => absurd e (by decide), fun e => absurd e (by decide), fun e => absurd e (by decide)⟩
        rw [hN]
        unfold wp_Rd_moveRow
        refine x_off_1 k1 k2 (by omega) hn (fun z => absurd z (by omega)) (fun _ => ?_)
        rw [show n - (f + 40) = x by omega]
        refine br_t (nI_pos' (by omega)) ?_
        have e : σ 1 - 12 + nI x / 8 = nI (t - 12 + x / 8) := by
          rw [k7, q_d8 (by omega)]
          show nI t - nI 12 + _ = _
          rw [pk_sub k8, nI_add]
        show vp_in (σ 1 - 12 + nI x / 8) 48 ∧ (narrow .short (.int (α 5 (σ 1 - 12 + nI x / 8).toNatClampNeg)) = .int (α 5 (σ 1 - 12 + nI x / 8).toNatClampNeg) ∧ (narrow .short (.int (α 5 (σ 1 - 12 + nI x / 8).toNatClampNeg)) = .int (α 5 (σ 1 - 12 + nI x / 8).toNatClampNeg) ∧ post (α 5 (σ 1 - 12 + nI x / 8).toNatClampNeg) (va_up σ 4 1, α)))
        rw [e, nI_clamp (by omega)]
        exact ⟨vp_in_nI (by omega) (by decide), h5 _, h5 _, hp⟩
      · intro post hp
        unfold wp_Md_get wp_Md_get_J187
        refine ⟨fun e => absurd e (by decide), fun e => absurd e (by decide), fun e => absurd e (by decide), fun e => absurd e (by decide), fun e => absurd e (by decide), fun e => absurd e (by decide), fun e => absurd e (by decide), fun e => absurd e (by decide), fun e => absurd e (by decide), fun e => absurd e (by decide), fun e => absurd e (by decide), fun e => absurd e (by decide), fun e => absurd e (by decide), fun _ => ?_, fun e => absurd e (by decide), fun e => absurd e (by decide)⟩
        refine m_row_x (x := x) hM k3 k4 hn (fun _ => br_t (nI_pos' (by omega)) ?_) (fun z => absurd ⟨k6, by omega⟩ z)
        refine m_row_x (x := x) hM k3 k4 hn (fun _ => ?_) (fun z => absurd ⟨k6, by omega⟩ z)
        show vp_in (nI (x / 8)) 12 ∧ (narrow .short (.int (β 4 (nI (x / 8)).toNatClampNeg)) = .int (β 4 (nI (x / 8)).toNatClampNeg) ∧ post (β 4 (nI (x / 8)).toNatClampNeg) (μ, β))
        rw [nI_clamp (by omega), hv]
        exact ⟨vp_in_nI (by omega) (by decide), h5 _, hp⟩
      · intro A B ha _
        refine ⟨fun _ => ha rfl, fun _ => br_f (by rw [k13]; exact nI_pos (by omega)) ⟨fun z => absurd rfl z, fun _ => ha rfl⟩⟩
  · exact ⟨qSrc (α 3) n s, μ 20, σ, qSrc_s hW.2, fun post hp => x_src hs h13 hn hN hW.2 hp, fun post hp => m_get hs h13 hn hM hw' (by rw [← hW.1]; exact hp), Or.inl rfl, hb, keep (Or.inl h13), hc⟩
end PD
