-- pure rows: an order takes its spot, and the one before is led to it
def rWf (kd : Nat → Nat) (c : Nat) : Prop := (∀ i, i < c → kd i = 1 → i + 1 < c ∧ kd (i + 1) = 2) ∧ (∀ i, i < c → kd i = 2 → ∃ k, i = k + 1 ∧ kd k = 1)
theorem qCw_e {kd bb sp wt sp' wt' : Nat → Nat} {c e i : Nat} (he : c ≤ e) (hi : i < c) (ha : ∀ j, j < c → sp' j = sp j ∧ wt' j = wt j) (h : kd i = 3 ∨ kd i = 2 ∨ qNx kd i < c) : qCw kd bb sp wt c i = qCw kd bb sp' wt' e i := by
  unfold qCw
  by_cases h3 : kd i = 3
  · rw [if_pos h3, if_pos h3]
  · by_cases h2 : kd i = 2
    · rw [if_neg h3, if_neg h3, if_pos h2, if_pos h2]
    · have hn : qNx kd i < c := by
        rcases h with h | h | h
        · exact absurd h h3
        · exact absurd h h2
        · exact h
      rw [if_neg h3, if_neg h3, if_neg h2, if_neg h2, if_pos hn, if_pos (by omega), (ha i hi).1, (ha i hi).2, (ha _ hn).1]
section PL
variable {σ : Nat → Int32} {α : Nat → Nat → Int32} {fr : Nat → Bool} {kd bb sp wt : Nat → Nat}
theorem x_occupy {c q w : Nat} (hC : rCt kd bb sp wt c fr σ α) (hW : rWf kd c) (hc : c < 64) (hq : q < 64) (hfr : fr q = true) : ∃ F : Nat → Int32, (∀ post : gS → Prop, post (va_up (va_up σ 34 (nI q)) 35 (nI (c + 1)), va_up α 25 F) → wp_Pl_occupy σ α (nI q) (nI w) post) ∧ F q = nI w ∧ (∀ r, r ≠ q → (∀ i, i < c → r ≠ sp i) → F r = α 25 r) ∧ (∀ (sp' wt' : Nat → Nat) (e : Nat), c < e → (∀ i, i < c → sp' i = sp i ∧ wt' i = wt i) → sp' c = q → ∀ i, i < c → F (sp i) = qCw kd bb sp' wt' e i) := by
  obtain ⟨e34, e35, hcon, hinj, hfree, hnf⟩ := hC
  have hne : ∀ i, i < c → sp i ≠ q := fun i hi z => by
    have := hnf i hi
    rw [z, hfr] at this
    exact absurd this (by decide)
  have vq : vp_in (nI q) 64 := vp_in_nI hq (by decide)
  have e35' : σ 35 + 1 = nI (c + 1) := by rw [e35, nI_1]
  -- nobody is led
  have NO : σ 34 = -1 → (∀ i, i < c → kd i = 3 ∨ kd i = 2 ∨ qNx kd i < c) → ∃ F : Nat → Int32, (∀ post : gS → Prop, post (va_up (va_up σ 34 (nI q)) 35 (nI (c + 1)), va_up α 25 F) → wp_Pl_occupy σ α (nI q) (nI w) post) ∧ F q = nI w ∧ (∀ r, r ≠ q → (∀ i, i < c → r ≠ sp i) → F r = α 25 r) ∧ (∀ (sp' wt' : Nat → Nat) (e : Nat), c < e → (∀ i, i < c → sp' i = sp i ∧ wt' i = wt i) → sp' c = q → ∀ i, i < c → F (sp i) = qCw kd bb sp' wt' e i) := by
    intro h1 h2
    refine ⟨upd (α 25) q (nI w), ?_, pk_us, fun r hr _ => pk_un hr, ?_⟩
    · intro post hp
      unfold wp_Pl_occupy wp_Pl_occupy_J16
      refine br_t (by rw [h1]; decide) ?_
      rw [e35', nI_clamp (by omega)]
      exact ⟨vq, hp⟩
    · intro sp' wt' e he ha _ i hi
      rw [pk_un (hne i hi), (hcon i hi).2.2]
      exact qCw_e (by omega) hi ha (h2 i hi)
  -- the entry L is led
  have YES : ∀ L, L < c → σ 34 = nI (sp L) → ¬ kd L = 3 → ¬ kd L = 2 → qNx kd L = c → (∀ i, i < c → i ≠ L → kd i = 3 ∨ kd i = 2 ∨ qNx kd i < c) → ∃ F : Nat → Int32, (∀ post : gS → Prop, post (va_up (va_up σ 34 (nI q)) 35 (nI (c + 1)), va_up α 25 F) → wp_Pl_occupy σ α (nI q) (nI w) post) ∧ F q = nI w ∧ (∀ r, r ≠ q → (∀ i, i < c → r ≠ sp i) → F r = α 25 r) ∧ (∀ (sp' wt' : Nat → Nat) (e : Nat), c < e → (∀ i, i < c → sp' i = sp i ∧ wt' i = wt i) → sp' c = q → ∀ i, i < c → F (sp i) = qCw kd bb sp' wt' e i) := by
    intro L hL h1 h3 h2 hx hoth
    obtain ⟨hs, hb, hv⟩ := hcon L hL
    have hv2 : α 25 (sp L) = nI (bb L + 1024 * wt L) := by
      rw [hv]
      unfold qCw
      rw [if_neg h3, if_neg h2, if_neg (by omega), Nat.add_zero]
    have vL : vp_in (nI (sp L)) 64 := vp_in_nI hs (by decide)
    refine ⟨upd (upd (α 25) (sp L) (nI (bb L + 1024 * wt L + qLb (sp L) q))) q (nI w), ?_, pk_us, ?_, ?_⟩
    · intro post hp
      unfold wp_Pl_occupy wp_Pl_occupy_J16 wp_Pl_lead
      refine br_f (by rw [h1]; exact nI_pos (by omega)) ?_
      rw [h1, nI_clamp (n := sp L) (by omega), hv2, q_lead hb hs hq]
      refine ⟨vL, vL, ?_⟩
      refine ⟨vq, ?_⟩
      rw [nI_clamp (n := q) (by omega), bx_uu]
      show post (va_up (va_up σ 34 (nI q)) 35 (σ 35 + 1), va_up α 25 (upd (upd (α 25) (sp L) (nI (bb L + 1024 * wt L + qLb (sp L) q))) q (nI w)))
      rw [e35']
      exact hp
    · intro r hr hr2
      rw [pk_un hr, pk_un (hr2 L hL)]
    · intro sp' wt' e he ha hc2 i hi
      rw [pk_un (hne i hi)]
      by_cases z : i = L
      · subst z
        rw [pk_us]
        unfold qCw
        rw [if_neg h3, if_neg h2, if_pos (by omega), hx, (ha i hi).1, (ha i hi).2, hc2]
      · rw [pk_un (fun y => z (hinj i L hi hL y)), (hcon i hi).2.2]
        exact qCw_e (by omega) hi ha (hoth i hi z)
  have nx1 : ∀ i, i < c → i + 1 < c → ¬ kd i = 1 → qNx kd i < c := fun i hi h1 h2 => by
    unfold qNx
    rw [if_neg h2]
    omega
  by_cases c0 : c = 0
  · refine NO ?_ (fun i hi => absurd hi (by omega))
    rw [e34]
    exact if_pos c0
  · by_cases k3 : kd (c - 1) = 3
    · refine NO ?_ ?_
      · rw [e34]
        unfold qLd
        rw [if_neg c0, if_pos k3]
      · intro i hi
        by_cases z : i + 1 = c
        · rw [show i = c - 1 by omega]
          exact Or.inl k3
        · by_cases k1 : kd i = 1
          · right; right
            unfold qNx
            rw [if_pos k1]
            have := (hW.1 i hi k1).2
            by_cases y : i + 2 = c
            · rw [show c - 1 = i + 1 by omega, this] at k3
              exact absurd k3 (by decide)
            · omega
          · exact Or.inr (Or.inr (nx1 i hi (by omega) k1))
    · by_cases k2 : kd (c - 1) = 2
      · obtain ⟨k, hk1, hk2⟩ := hW.2 (c - 1) (by omega) k2
        have hk : k = c - 2 := by omega
        subst hk
        refine YES (c - 2) (by omega) ?_ (by rw [hk2]; decide) (by rw [hk2]; decide) ?_ ?_
        · rw [e34]
          unfold qLd
          rw [if_neg c0, if_neg k3, if_pos k2]
        · unfold qNx
          rw [if_pos hk2]
          omega
        · intro i hi hne2
          by_cases z : i + 1 = c
          · rw [show i = c - 1 by omega]
            exact Or.inr (Or.inl k2)
          · by_cases k1 : kd i = 1
            · right; right
              unfold qNx
              rw [if_pos k1]
              omega
            · exact Or.inr (Or.inr (nx1 i hi (by omega) k1))
      · have k1 : ¬ kd (c - 1) = 1 := fun z => by
          have := (hW.1 (c - 1) (by omega) z).1
          omega
        refine YES (c - 1) (by omega) ?_ k3 k2 ?_ ?_
        · rw [e34]
          unfold qLd
          rw [if_neg c0, if_neg k3, if_neg k2]
        · unfold qNx
          rw [if_neg k1]
          omega
        · intro i hi hne2
          by_cases y1 : kd i = 1
          · have := hW.1 i hi y1
            right; right
            unfold qNx
            rw [if_pos y1]
            by_cases y : i + 2 = c
            · rw [show i + 1 = c - 1 by omega] at this
              exact absurd this.2 k2
            · omega
          · exact Or.inr (Or.inr (nx1 i hi (by omega) y1))
end PL
