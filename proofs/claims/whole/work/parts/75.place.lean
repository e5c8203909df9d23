-- pure rows: the whole placing, on both sides
section PV
variable {σ μ : Nat → Int32} {α β : Nat → Nat → Int32} {es eg eo ew o a b cc g : Nat → Int32} {s tot : Nat}
theorem c_place (hs0 : 0 < s) (hs : s ≤ 12) (ht60 : tot < 60) (e24 : μ 24 = nI tot) (htot : (o (s - 1) = 6 ∧ tot = qOff o s) ∨ (¬ o (s - 1) = 6 ∧ tot = qOff o s + 1 ∧ qAt es eg eo ew (qOff o s) 0 1 (-1) (-1))) (hls : ∀ j, j < s → rLs o a b cc es eg eo ew j) (hval : ∀ j, j < s → (∃ k : Nat, k < 7 ∧ o j = nI k) ∧ (∃ k : Nat, k < 16 ∧ a j = nI k) ∧ (∃ k : Nat, k < 16 ∧ b j = nI k) ∧ (∃ k : Nat, k < 16 ∧ cc j = nI k)) (hg : ∀ j, j < s → o j = 4 → ∃ k : Nat, k < s ∧ g j = nI k) (e28 : σ 28 = nI s) (b11 : β 11 = es) (b12 : β 12 = eg) (b13 : β 13 = eo) (a13 : α 13 = o) (a14 : α 14 = a) (a15 : α 15 = b) (a16 : α 16 = cc) (a17 : α 17 = g) :
    (∃ (σ' : Nat → Int32) (α' β' : Nat → Nat → Int32), FrY σ α σ' α' ∧ FrM β β' ∧ (∀ post : Int32 → gS → Prop, post 0 (σ', α') → wp_Pl_placeAll σ α post) ∧ (∀ post : Int32 → gS → Prop, post 0 (μ, β') → wp_Md_place μ β post)) ∨
    (∃ (sp wt : Nat → Nat) (vp F : Nat → Int32) (σ' : Nat → Int32) (α' β' : Nat → Nat → Int32), FrY σ α σ' α' ∧ FrM β β' ∧ (∀ post : Int32 → gS → Prop, post 1 (σ', va_up α' 25 F) → wp_Pl_placeAll σ α post) ∧ (∀ post : Int32 → gS → Prop, post 1 (μ, β') → wp_Md_place μ β post) ∧ σ' 35 = nI tot ∧ (∀ i, i < tot → F (sp i) = qFw (qKd es eg) (qBb es eg) sp wt (qTg o g ew) tot i) ∧ (∀ q, q < 64 → (∀ i, i < tot → q ≠ sp i) → F q = 1015824) ∧ (∀ i, i < tot → sp i < 64 ∧ qBb es eg i + 1024 * wt i < 32768 ∧ (qKd es eg i = 2 → wt i = 0) ∧ β' 15 i = nI (sp i) ∧ β' 16 i = nI (wt i)) ∧ (∀ i j, i < tot → j < tot → sp i = sp j → i = j) ∧ (∀ v, v < 16 → α' 27 v = vp v ∧ β' 19 v = vp v) ∧ rFB o s sp α') := by
  have hop : ∀ j, j < s → ∃ k : Nat, k < 7 ∧ o j = nI k := fun j hj => (hval j hj).1
  have hos : qOff o s ≤ tot := by rcases htot with ⟨-, h⟩ | ⟨-, h, -⟩ <;> omega
  obtain ⟨σ0, hσ0⟩ : ∃ σ0, σ0 = va_up (va_up (va_up (va_up σ 33 0) 34 (-1)) 35 0) 36 1 := ⟨_, rfl⟩
  obtain ⟨α0, hα0⟩ : ∃ α0, α0 = va_up (va_up (va_up (va_up (va_up α 25 (gfill 64 (-1) (α 25))) 26 (gfill 32 (-1) (α 26))) 27 (gfill 16 (-1) (α 27))) 28 (gfill 12 (-1) (α 28))) 29 (gfill 12 (-1) (α 29)) := ⟨_, rfl⟩
  obtain ⟨β0, hβ0⟩ : ∃ β0, β0 = va_up (va_up (va_up β 17 (gfill 64 0 (β 17))) 18 (gfill 32 0 (β 18))) 19 (gfill 16 (-1) (β 19)) := ⟨_, rfl⟩
  have F0 : FrY σ α σ0 α0 := by
    refine ⟨fun i hi => ?_, fun k hk => ?_⟩
    · rw [hσ0, va_up_ne _ _ (by omega), va_up_ne _ _ (by omega), va_up_ne _ _ (by omega), va_up_ne _ _ (by omega)]
    · rw [hα0, va_up_ne _ _ (by omega), va_up_ne _ _ (by omega), va_up_ne _ _ (by omega), va_up_ne _ _ (by omega), va_up_ne _ _ (by omega)]
  have M0 : FrM β β0 := by
    intro k hk
    rw [hβ0, va_up_ne _ _ (by omega), va_up_ne _ _ (by omega), va_up_ne _ _ (by omega)]
  have P0 : PR (qKd es eg) (qBb es eg) (qOff o 0) (fun _ => true) (fun _ => false) (fun _ => -1) 0 (fun _ => 0) (fun _ => 0) σ0 α0 β0 := by
    rw [hσ0, hα0, hβ0]
    refine ⟨⟨rfl, rfl, by decide, fun q hq => ⟨fun _ => rfl, fun _ => if_pos hq⟩, fun p hp => ⟨fun _ => rfl, fun _ => if_pos hp⟩, fun v hv => if_pos hv⟩, ⟨fun q hq => ⟨fun _ => rfl, fun _ => if_pos hq⟩, fun p hp => ⟨fun _ => rfl, fun _ => if_pos hp⟩, fun v hv => if_pos hv⟩, ⟨fun v _ => Or.inl rfl, ?_⟩, ⟨rfl, rfl, fun i hi => absurd hi (Nat.not_lt_zero i), fun i j hi => absurd hi (Nat.not_lt_zero i), fun q _ h => (by cases h), fun i hi => absurd hi (Nat.not_lt_zero i)⟩, fun i hi => absurd hi (Nat.not_lt_zero i)⟩
    have : qCt (fun _ => false) 32 = 0 := by decide
    rw [this]
    exact Nat.zero_le _
  have W0 : rWf (qKd es eg) (qOff o 0) := ⟨fun i hi => absurd hi (Nat.not_lt_zero i), fun i hi => absurd hi (Nat.not_lt_zero i)⟩
  have B0 : rFB o 0 (fun _ => 0) α0 := by
    rw [hα0]
    refine ⟨fun i hi => absurd hi (Nat.not_lt_zero i), fun i _ hi => if_pos hi, fun i hi => absurd hi (Nat.not_lt_zero i), fun i hi _ => if_pos hi⟩
  have CL : ∀ post : Int32 → gS → Prop, wp_Pl_placeAll_L6 σ0 α0 (nI 0) post → wp_Pl_placeAll σ α post := by
    intro post hp
    unfold wp_Pl_placeAll wp_Pl_forget
    rw [hσ0, hα0] at hp
    exact hp
  have RF : ∀ post : Int32 → gS → Prop, wp_Md_place_L67 μ β0 (nI 0) (nI (qOff o 0)) post → wp_Md_place μ β post := by
    intro post hp
    rw [hβ0] at hp
    exact m_place0 hp
  rcases c_loop hs0 hs ht60 e24 hls hval htot s 0 (by omega) _ _ _ _ _ _ σ0 α0 β0 P0 W0 ((F0.1 28 (by decide)).trans e28) ((M0 11 (by decide)).trans b11) ((M0 12 (by decide)).trans b12) ((M0 13 (by decide)).trans b13) ((F0.2 13 (by decide)).trans a13) ((F0.2 14 (by decide)).trans a14) ((F0.2 15 (by decide)).trans a15) ((F0.2 16 (by decide)).trans a16) B0 with ⟨σ1, α1, β1, k1, k2, k3, k4⟩ | ⟨fr1, hb1, vp1, f1, sp, wt, σ1, α1, β1, k1, k2, k3, k4, k5, k6, k7⟩
  · exact Or.inl ⟨σ1, α1, β1, F0.tr k1, M0.tr k2, fun post hp => CL post (k3 post hp), fun post hp => RF post (k4 post hp)⟩
  · right
    obtain ⟨⟨x36, x33, xf, x25, x26, x27⟩, ⟨m17, m18, m19⟩, rA, ⟨l34, l35, hcon, hinj, hfree, hnf⟩, h15⟩ := k5
    have FY := F0.tr k1
    have hsp : ∀ i, i < tot → sp i < 64 := fun i hi => (hcon i hi).1
    obtain ⟨F1, r1, r2, r3⟩ := x_lead (σ := σ1) (α := α1) (sp := sp) (wt := wt) (ew := ew) hs hos ((FY.1 28 (by decide)).trans e28) hsp hinj hls hop hg ((FY.2 17 (by decide)).trans a17) k7.1 k7.2.2.1 (fun i hi h => k7.2.2.2 i hi (Or.inr h)) s 0 (α1 25) (by omega) (fun i hi => by
      rw [if_neg (fun z => absurd z.2 (Nat.not_lt_zero i))]
      exact (hcon i hi).2.2)
    have hFw : ∀ i, i < tot → F1 (sp i) = qFw (qKd es eg) (qBb es eg) sp wt (qTg o g ew) tot i := by
      intro i hi
      rw [r1 i hi]
      unfold qFw
      by_cases z : qKd es eg i = 2
      · rw [if_pos z]
        refine if_pos ⟨z, ?_⟩
        rcases htot with ⟨-, h⟩ | ⟨-, h, hat⟩
        · omega
        · refine Nat.lt_of_not_le (fun y => ?_)
          rw [show i = qOff o s by omega, qKd_3 hat.2.1] at z
          exact absurd z (by decide)
      · rw [if_neg z]
        exact if_neg (fun y => z y.1)
    have hne : ∀ i, i < tot → ¬ F1 (sp i) = -1 := by
      intro i hi
      rw [r1 i hi]
      split
      · rename_i z
        have h1 := hsp i hi
        -- the target's spot may be any number: it is an entry's
        obtain ⟨j, hj, q1, q2⟩ := ent_at s i z.2
        obtain ⟨h4, -⟩ := kd2 (hls j hj) (hop j hj) q1 q2 z.1
        obtain ⟨k, hk, ek⟩ := hg j hj h4
        have eo1 := (ent (hls j hj) (hop j hj) q1 q2).1
        have hT : qTg o g ew i = qOff o k := by
          unfold qTg
          rw [eo1, nI_clamp (n := j) (by omega), ek, nI_clamp (by omega)]
        have hmk := qOff_mono o (show k + 1 ≤ s by omega)
        have hlk : qOff o (k + 1) = qOff o k + qLn (o k) := rfl
        have hl1 := (qLn_in (o k)).1
        have h2 := hsp (qOff o k) (by omega)
        rw [hT]
        unfold qLb
        exact nI_m1 (by omega)
      · exact qCw_ne (hcon i hi).2.1 hsp
    refine ⟨sp, wt, vp1, qSf F1 64, σ1, α1, β1, FY, M0.tr k2, ?_, fun post hp => RF post (k4 post hp), l35, ?_, ?_, fun i hi => ⟨(hcon i hi).1, (hcon i hi).2.1, (h15 i hi).2.2, (h15 i hi).1, (h15 i hi).2.1⟩, hinj, fun v hv => ⟨x27 v hv, m19 v hv⟩, k7⟩
    · intro post hp
      refine CL post (k3 post ?_)
      unfold wp_Pl_placeAll_J47
      refine br_f (by rw [x36]; decide) ?_
      unfold wp_Pl_leadBranches
      have t := r3 (fun u56 => wp_Pl_fillWithStops u56.1 u56.2 (fun u60 => wp_Pl_placeAll_J63 u60.1 u60.2 post)) (by
        refine x_fill ?_
        show wp_Pl_placeAll_J63 σ1 (va_up α1 25 (qSf F1 64)) post
        unfold wp_Pl_placeAll_J63
        rw [x36]
        exact ⟨rfl, hp⟩)
      rw [q_upself α1 25] at t
      exact t
    · intro i hi
      show (if sp i < 64 ∧ F1 (sp i) = -1 then 1015824 else F1 (sp i)) = _
      rw [if_neg (fun z => hne i hi z.2)]
      exact hFw i hi
    · intro q hq hn
      refine if_pos ⟨hq, ?_⟩
      rw [r2 q hq hn, x25 q hq]
      cases hf : fr1 q
      · obtain ⟨i, hi, e⟩ := hfree q hq hf
        exact absurd e (hn i hi)
      · rfl
end PV
