-- pure rows: the beginning, and every script
def mOk (μ : Nat → Int32) (β : Nat → Nat → Int32) : Prop := μ = mS0 ∧ (∀ k, k ≠ 21 → β k = mA0 k) ∧ ∀ j, j < 16 → β 21 j = -1
theorem p_Md_loop {σ : Nat → Int32} {α : Nat → Nat → Int32} {post : gSA → Prop} {ad : Nat → Nat} (hp : ∀ f : Nat → Int32, (∀ j, j < 16 → f j = -1) → post (ad, σ, va_up α 21 f)) : ∀ (k i : Nat) (f : Nat → Int32), i + k = 16 → (∀ j, j < i → f j = -1) → wp_Md_init_L186 ad σ (va_up α 21 f) (nI i) post := by
  intro k i f hik h1 X hX
  induction k generalizing i f with
  | zero =>
    apply hX
    unfold wp_Md_init_B186
    exact br_t (nI_le (a := 16) (by omega) (by omega)) (hp f (fun j hj => h1 j (by omega)))
  | succ k ih =>
    apply hX
    unfold wp_Md_init_B186
    rw [io1]
    refine br_f (nI_ge (b := 16) (by omega) (by decide)) ⟨vp_in_nI (by omega) (by decide), ?_⟩
    rw [bx_uu, nI_clamp (by omega), nI_1]
    refine ih (i + 1) _ (by omega) (fun j hj => ?_)
    show upd f i (-1) j = -1
    by_cases z : j = i
    · rw [z, pk_us]
    · rw [pk_un z]
      exact h1 j (by omega)
theorem p_Md_init (ad : Nat → Nat) (h0 : Nat) (h : ad 0 = h0) : wp_Md_init ad mS0 mA0 (fun u => u.1 0 = h0 ∧ mOk u.2.1 u.2.2) := by
  unfold wp_Md_init
  have t := p_Md_loop (σ := mS0) (α := mA0) (ad := ad) (post := fun u => u.1 0 = h0 ∧ mOk u.2.1 u.2.2) (fun f hf => ⟨h, rfl, fun k hk => va_up_ne mA0 f hk, hf⟩) 16 0 (mA0 21) (by omega) (fun j hj => absurd hj (Nat.not_lt_zero j))
  rw [q_upself mA0 21] at t
  exact t
theorem p_begin {μ : Nat → Int32} {β : Nat → Nat → Int32} (h : mOk μ β) : Rel 0 xS0 xA0 μ β := by
  obtain ⟨rfl, hb, hv⟩ := h
  refine ⟨rfl, rfl, ⟨rfl, Or.inl rfl⟩, rfl, ⟨rfl, 0, Nat.le_refl 0, rfl, fun _ => ⟨rfl, rfl⟩, fun z => absurd z (Nat.lt_irrefl 0)⟩, ⟨?_, fun j _ => ⟨0, by decide, rfl⟩⟩, ⟨?_, fun j => rfl⟩, ⟨0, 0, by omega, by omega, rfl, rfl, rfl, rfl, fun j hj => absurd hj (by omega), fun j => rfl, ?_, ?_⟩, ⟨?_, fun j => rfl, 0, by omega, rfl, rfl, Or.inl ⟨rfl, rfl⟩⟩, ⟨rfl, 0, by omega, rfl, rfl⟩, ⟨?_, ?_, ?_, ?_, ?_, 0, by omega, rfl, rfl, fun j hj => absurd hj (Nat.not_lt_zero j)⟩, ⟨⟨0, by omega, rfl, fun j hj => ?_⟩, fun j hj => ?_⟩, fun z => absurd rfl z⟩
  · rw [hb 1 (by decide)]; rfl
  · rw [hb 2 (by decide)]; rfl
  · rw [hb 3 (by decide)]; exact fun j => rfl
  · rw [hb 4 (by decide)]; exact fun j => rfl
  · rw [hb 5 (by decide)]; rfl
  · rw [hb 6 (by decide)]; rfl
  · rw [hb 7 (by decide)]; rfl
  · rw [hb 8 (by decide)]; rfl
  · rw [hb 9 (by decide)]; rfl
  · rw [hb 10 (by decide)]; rfl
  · rw [if_neg (Nat.not_lt_zero j)]
    show gfill 12 (-1) (fun _ => 0) j = -1
    exact if_pos hj
  · rw [hv j hj]
    show gfill 16 (-1) (fun _ => 0) j = -1
    exact if_pos hj
theorem q_stop {L k : Nat} (hL : L ≤ 3072) (hk : k < 2 ^ 20) : (Int32.ofNat L - 6 < nI k) ↔ L < k + 6 := by
  show (nI L - nI 6 < nI k) ↔ _
  rw [Int32.lt_iff_toInt_lt, pk_sub_toInt (by omega) (by decide), nI_toInt (by omega)]
  omega
theorem io6 (k : Nat) : nI (6 * k) + Int32.ofInt 6 = nI (6 * (k + 1)) := by
  show nI (6 * k) + nI 6 = _
  rw [nI_add]
  congr 1
theorem c_law {L : Nat} {xs : Nat → Int32} (hL : L ≤ 3072) (X : Nat → Nat → (Nat → Nat) → (Nat → Nat) → (Nat → Int32) → (Nat → Nat → Int32) → (Nat → Int32) → (Nat → Nat → Int32) → Int32 → Prop) (hX : ∀ (wc : Nat) (wb : Nat) (kp : Nat → Nat) (tp : Nat → Nat) (σ : Nat → Int32) (α : Nat → Nat → Int32) (μ : Nat → Int32) (β : Nat → Nat → Int32) (a3 : Int32), wp_law_B18 X L xs wc wb kp tp σ α μ β a3 → X wc wb kp tp σ α μ β a3) : ∀ (m k : Nat), k + m = 513 → ∀ (n wc wb : Nat) (kp tp : Nat → Nat) (σ : Nat → Int32) (α : Nat → Nat → Int32) (μ : Nat → Int32) (β : Nat → Nat → Int32), n ≤ 2000 * k → Rel n σ α μ β → X wc wb kp tp σ α μ β (nI (6 * k)) := by
  intro m
  induction m with
  | zero =>
    intro k hk n wc wb kp tp σ α μ β hn h
    apply hX
    unfold wp_law_B18
    exact br_t ((q_stop hL (by omega)).mpr (by omega)) trivial
  | succ m ih =>
    intro k hk n wc wb kp tp σ α μ β hn h
    apply hX
    unfold wp_law_B18
    by_cases hend : L < 6 * k + 6
    · exact br_t ((q_stop hL (by omega)).mpr hend) trivial
    · refine br_f (fun z => hend ((q_stop hL (by omega)).mp z)) ⟨vp_in_nI (by omega) (by omega), ?_⟩
      have V : ∀ j, j < 6 → vp_in (nI (6 * k) + nI j) L := fun j hj => by rw [nI_add]; exact vp_in_nI (by omega) (by omega)
      have NXT : ∀ (n' wc wb : Nat) (kp tp : Nat → Nat) (σ : Nat → Int32) (α : Nat → Nat → Int32) (μ : Nat → Int32) (β : Nat → Nat → Int32), n' ≤ n + 2000 → Rel n' σ α μ β → wp_law_J518 X wc wb kp tp σ α μ β (nI (6 * k)) := by
        intro n' wc wb kp tp σ α μ β hn' h'
        unfold wp_law_J518
        rw [io6]
        exact ih (k + 1) (by omega) n' wc wb kp tp σ α μ β (by omega) h'
      have hQ : ∀ (r : Int32) (u : gS) (r' : Int32) (u' : gS), r = r' ∧ Rel n u.1 u.2 u'.1 u'.2 → (r = r' → wp_law_J518 X wc wb kp tp u.1 u.2 u'.1 u'.2 (nI (6 * k))) ∧ (¬ r = r' → False) := fun r u r' u' q => ⟨fun _ => NXT n wc wb kp tp _ _ _ _ (by omega) q.2, fun z => z q.1⟩
      refine ⟨fun _ => ?_, fun _ => ?_, fun _ => ?_, fun _ => ?_, fun _ => ?_, fun _ => ?_, fun _ => ?_, fun _ => ?_, fun _ => ?_, fun _ => ?_, fun _ => ?_, fun _ => ?_, fun _ => ?_, fun _ => ?_, fun _ => NXT n wc wb kp tp _ _ _ _ (by omega) h⟩
      · exact ⟨V 1 (by decide), V 2 (by decide), V 3 (by decide), p_order hQ h⟩
      · exact ⟨V 1 (by decide), V 2 (by decide), V 3 (by decide), p_word hQ h⟩
      · exact ⟨V 1 (by decide), p_card hQ h⟩
      · exact ⟨V 1 (by decide), V 2 (by decide), p_start hQ (by omega) h⟩
      · refine ⟨V 1 (by decide), p_run (fun r u r' u' q => ⟨fun _ => ?_, fun z => z q.1⟩) (by omega) h⟩
        obtain ⟨-, n', h1, h2⟩ := q
        exact NXT n' _ _ kp tp _ _ _ _ h1 h2
      · exact ⟨V 1 (by decide), p_look hQ (by omega) h⟩
      · exact ⟨V 1 (by decide), V 2 (by decide), p_peek hQ h⟩
      · exact ⟨V 1 (by decide), V 2 (by decide), p_read hQ h⟩
      · exact ⟨V 1 (by decide), p_punched hQ h⟩
      · exact ⟨V 1 (by decide), V 2 (by decide), V 3 (by decide), V 4 (by decide), V 5 (by decide), p_statement hQ h⟩
      · exact p_clear (fun u u' q => NXT n wc wb kp tp _ _ _ _ (by omega) q) h
      · exact p_assemble (fun r u r' u' q => ⟨fun _ => NXT n wc wb _ _ _ _ _ _ (by omega) q.2, fun z => z q.1⟩) h
      · exact ⟨V 1 (by decide), p_placed hQ h⟩
      · exact ⟨V 1 (by decide), p_variable hQ h⟩
theorem p_law {L : Nat} (hL : L ≤ 3072) (xs : Nat → Int32) (wc wb : Nat) (kp tp : Nat → Nat) (μ : Nat → Int32) (β : Nat → Nat → Int32) (h : mOk μ β) : wp_law_L18 L xs wc wb kp tp xS0 xA0 μ β 0 := by
  intro X hX
  exact c_law hL X hX 513 0 (by omega) 0 wc wb kp tp xS0 xA0 μ β (by omega) (p_begin h)
