-- pure rows: all statements are placed, on both sides
theorem PR.up28 {kd bb : Nat → Nat} {c : Nat} {fr hb : Nat → Bool} {vp : Nat → Int32} {f : Nat} {sp wt : Nat → Nat} {σ : Nat → Int32} {α β : Nat → Nat → Int32} {x : Nat → Int32} (h : PR kd bb c fr hb vp f sp wt σ α β) : PR kd bb c fr hb vp f sp wt σ (va_up α 28 x) β := h
/-- frames that leave room for the first spots -/
def FrY (σ : Nat → Int32) (α : Nat → Nat → Int32) (σ' : Nat → Int32) (α' : Nat → Nat → Int32) : Prop := (∀ i, i < 33 → σ' i = σ i) ∧ (∀ k, k < 25 → α' k = α k)
theorem FrY.rf {σ : Nat → Int32} {α : Nat → Nat → Int32} : FrY σ α σ α := ⟨fun _ _ => rfl, fun _ _ => rfl⟩
theorem FrY.tr {σ σ1 σ2 : Nat → Int32} {α α1 α2 : Nat → Nat → Int32} (h : FrY σ α σ1 α1) (k : FrY σ1 α1 σ2 α2) : FrY σ α σ2 α2 := ⟨fun i hi => (k.1 i hi).trans (h.1 i hi), fun i hi => (k.2 i hi).trans (h.2 i hi)⟩
theorem FrX.y {σ σ1 : Nat → Int32} {α α1 : Nat → Nat → Int32} {x : Nat → Int32} (h : FrX σ (va_up α 28 x) σ1 α1) : FrY σ α σ1 α1 := ⟨h.1, fun k hk => (h.2.1 k hk).trans (va_up_ne α x (by omega))⟩
theorem FrX.y0 {σ σ1 : Nat → Int32} {α α1 : Nat → Nat → Int32} (h : FrX σ α σ1 α1) : FrY σ α σ1 α1 := ⟨h.1, h.2.1⟩
/-- first spots and branches, up to the statement j -/
def rFB (o : Nat → Int32) (j : Nat) (sp : Nat → Nat) (α : Nat → Nat → Int32) : Prop := (∀ i, i < j → α 28 i = nI (sp (qOff o i))) ∧ (∀ i, j ≤ i → i < 12 → α 28 i = -1) ∧ (∀ i, i < j → o i = 4 → α 29 i = nI (sp (qOff o i + 2))) ∧ (∀ i, i < 12 → (j ≤ i ∨ ¬ o i = 4) → α 29 i = -1)
section PR1
variable {μ : Nat → Int32} {es eg eo ew o a b cc : Nat → Int32} {s tot : Nat}
/-- behind a failure: the rest of the loop -/
theorem x_deadStmt {σ : Nat → Int32} {α : Nat → Nat → Int32} {j : Nat} {post : gS → Prop} (hj : j < 12) (h : rDead σ) (hp : post (σ, α)) : wp_Pl_placeStatement σ α (nI j) post := by
  have vj : vp_in (nI j) 12 := vp_in_nI hj (by decide)
  unfold wp_Pl_placeStatement wp_Pl_placeStatement_J189
  refine ⟨vj, vj, vj, fun _ => ?_, fun _ => ?_, fun _ => ?_, fun _ => ?_, fun _ => ?_, fun _ => ?_, fun _ => ?_⟩
  · exact x_deadOrder h ⟨vj, x_deadOrder h (x_deadOrder h hp)⟩
  · exact x_deadOrder h ⟨vj, x_deadOrder h (x_deadOrder h hp)⟩
  · exact x_deadOrder h (x_deadOrder h hp)
  · exact x_deadOrder h hp
  · exact x_deadOrder h (x_deadForkP h hp)
  · exact x_deadOrder h hp
  · exact x_deadStop h hp
theorem x_halt {σ : Nat → Int32} {α : Nat → Nat → Int32} {P : Int32 → gS → Prop} (hs0 : 0 < s) (hs : s ≤ 12) (e28 : σ 28 = nI s) (h1 : α 13 (s - 1) = 6 → P 1 (σ, α)) (h0 : ¬ α 13 (s - 1) = 6 → P 0 (σ, α)) : wp_Pr_endsWithHalt σ α P := by
  unfold wp_Pr_endsWithHalt wp_Pr_endsWithHalt_J27 wp_Pr_endsWithHalt_J28
  have e : nI s - 1 = nI (s - 1) := pk_sub (b := 1) hs0
  rw [e28, e, nI_clamp (by omega)]
  exact br_f (nI_nle hs0 (by omega)) ⟨vp_in_nI (by omega) (by decide), fun z => ⟨rfl, h0 z⟩, fun z => ⟨rfl, h1 z⟩⟩
theorem x_deadLoop (hs0 : 0 < s) (hs : s ≤ 12) : ∀ (m j : Nat), j + m = s → ∀ (σ : Nat → Int32) (α : Nat → Nat → Int32), rDead σ → σ 28 = nI s → ∃ α' : Nat → Nat → Int32, (∀ k, k < 25 → α' k = α k) ∧ ∀ post : Int32 → gS → Prop, post 0 (σ, α') → wp_Pl_placeAll_L6 σ α (nI j) post := by
  intro m
  induction m with
  | zero =>
    intro j hj σ α hd e28
    refine ⟨α, fun _ _ => rfl, fun post hp X hX => hX _ _ _ ?_⟩
    unfold wp_Pl_placeAll_B6
    have J : wp_Pl_placeAll_J47 σ α post := by
      unfold wp_Pl_placeAll_J47 wp_Pl_placeAll_J63
      rw [hd.1]
      exact br_t rfl ⟨rfl, hp⟩
    refine br_t (by rw [e28]; exact nI_le (by omega) (by omega)) (x_halt hs0 hs e28 (fun _ => bs_f (by decide) J) (fun _ => bs_t rfl (x_deadStop hd J)))
  | succ m ih =>
    intro j hj σ α hd e28
    obtain ⟨f, hf, ef⟩ := hd.2
    obtain ⟨r, hr⟩ : ∃ r, r = qOp (qFs (fun q => decide (α 25 q = -1)) 32 f) := ⟨_, rfl⟩
    obtain ⟨α2, k1, k2⟩ := ih (j + 1) (by omega) σ (va_up α 28 (upd (α 28) j r)) hd e28
    refine ⟨α2, fun k hk => (k1 k hk).trans (va_up_ne α _ (by omega)), fun post hp X hX => hX _ _ _ ?_⟩
    unfold wp_Pl_placeAll_B6
    refine br_f (by rw [e28]; exact nI_ge (by omega) (by omega)) ?_
    refine x_freeSpot (fr := fun q => decide (α 25 q = -1)) (fun q _ => by simp) ef hf ?_
    rw [← hr, nI_clamp (by omega), io1, nI_1]
    exact ⟨vp_in_nI (by omega) (by decide), x_deadStmt (by omega) hd (k2 post hp X hX)⟩
/-- the loop over the statements -/
theorem c_loop (hs0 : 0 < s) (hs : s ≤ 12) (ht60 : tot < 60) (e24 : μ 24 = nI tot) (hls : ∀ j, j < s → rLs o a b cc es eg eo ew j) (hval : ∀ j, j < s → (∃ k : Nat, k < 7 ∧ o j = nI k) ∧ (∃ k : Nat, k < 16 ∧ a j = nI k) ∧ (∃ k : Nat, k < 16 ∧ b j = nI k) ∧ (∃ k : Nat, k < 16 ∧ cc j = nI k)) (htot : (o (s - 1) = 6 ∧ tot = qOff o s) ∨ (¬ o (s - 1) = 6 ∧ tot = qOff o s + 1 ∧ qAt es eg eo ew (qOff o s) 0 1 (-1) (-1))) :
    ∀ (m j : Nat), j + m = s → ∀ (fr hb : Nat → Bool) (vp : Nat → Int32) (f : Nat) (sp wt : Nat → Nat) (σ : Nat → Int32) (α β : Nat → Nat → Int32), PR (qKd es eg) (qBb es eg) (qOff o j) fr hb vp f sp wt σ α β → rWf (qKd es eg) (qOff o j) → σ 28 = nI s → β 11 = es → β 12 = eg → β 13 = eo → α 13 = o → α 14 = a → α 15 = b → α 16 = cc → rFB o j sp α →
    (∃ (σ' : Nat → Int32) (α' β' : Nat → Nat → Int32), FrY σ α σ' α' ∧ FrM β β' ∧ (∀ post : Int32 → gS → Prop, post 0 (σ', α') → wp_Pl_placeAll_L6 σ α (nI j) post) ∧ (∀ post : Int32 → gS → Prop, post 0 (μ, β') → wp_Md_place_L67 μ β (nI f) (nI (qOff o j)) post)) ∨
    (∃ (fr' hb' : Nat → Bool) (vp' : Nat → Int32) (f' : Nat) (sp' wt' : Nat → Nat) (σ' : Nat → Int32) (α' β' : Nat → Nat → Int32), FrY σ α σ' α' ∧ FrM β β' ∧ (∀ post : Int32 → gS → Prop, wp_Pl_placeAll_J47 σ' α' post → wp_Pl_placeAll_L6 σ α (nI j) post) ∧ (∀ post : Int32 → gS → Prop, post 1 (μ, β') → wp_Md_place_L67 μ β (nI f) (nI (qOff o j)) post) ∧ PR (qKd es eg) (qBb es eg) tot fr' hb' vp' f' sp' wt' σ' α' β' ∧ rWf (qKd es eg) tot ∧ rFB o s sp' α') := by
  intro m
  induction m with
  | zero =>
    intro j hj fr hb vp f sp wt σ α β hP hW e28 b11 b12 b13 a13 a14 a15 a16 hFB
    have hjs : j = s := by omega
    subst hjs
    have hle : σ 28 ≤ nI j := by rw [e28]; exact nI_le (Nat.le_refl j) (by omega)
    have RE : ∀ (β' : Nat → Nat → Int32) (f' : Int32) (post : Int32 → gS → Prop), post 1 (μ, β') → wp_Md_place_L67 μ β' f' (nI tot) post := by
      intro β' f' post hp X hX
      refine hX _ _ _ _ ?_
      unfold wp_Md_place_B67
      exact br_t (by rw [e24]; exact nI_le (Nat.le_refl tot) (by omega)) hp
    rcases htot with ⟨h6, ht⟩ | ⟨h6, ht, hat⟩
    · right
      rw [← ht] at hP hW ⊢
      refine ⟨fr, hb, vp, f, sp, wt, σ, α, β, FrY.rf, FrM.rf, ?_, fun post hp => RE _ _ _ hp, hP, hW, hFB⟩
      intro post hp X hX
      refine hX _ _ _ ?_
      unfold wp_Pl_placeAll_B6
      exact br_t hle (x_halt hs0 hs e28 (fun _ => bs_f (by decide) hp) (fun z => absurd (by rw [a13]; exact h6) z))
    · have HALT : ∀ (K : Int32 → gS → Prop), K 0 (σ, α) → wp_Pr_endsWithHalt σ α K := fun K hp => x_halt hs0 hs e28 (fun z => absurd (by rw [← a13]; exact z) h6) (fun _ => hp)
      rcases OC.stopAt (μ := μ) hP hW (by omega) hat b11 b12 b13 (by rw [e24]; exact nI_ge (by omega) (by omega)) with ⟨σ', α', β', d1, d2, d3, d4, d5⟩ | ⟨fr', hb', vp', f', sp', wt', σ', α', β', g1, g2, g3, g4, g5, g6, g7, g8⟩
      · left
        refine ⟨σ', α', β', d2.y0, d3, ?_, d5⟩
        intro post hp X hX
        refine hX _ _ _ ?_
        unfold wp_Pl_placeAll_B6
        refine br_t hle (HALT _ (bs_t rfl (d4 _ ?_)))
        show wp_Pl_placeAll_J47 σ' α' post
        unfold wp_Pl_placeAll_J47 wp_Pl_placeAll_J63
        rw [d1.1]
        exact br_t rfl ⟨rfl, hp⟩
      · right
        rw [← ht] at g3 g4 g5
        have hoff : ∀ i, i < j → sp' (qOff o i) = sp (qOff o i) ∧ (o i = 4 → sp' (qOff o i + 2) = sp (qOff o i + 2)) := by
          intro i hi
          have h1 := qOff_mono o (show i + 1 ≤ j by omega)
          have h2 : qOff o (i + 1) = qOff o i + qLn (o i) := rfl
          have h3 := qLn_in (o i)
          refine ⟨(g1 _ (by omega)).1, fun e => (g1 _ ?_).1⟩
          rw [e, show qLn 4 = 3 by decide] at h2
          omega
        refine ⟨fr', hb', vp', f', sp', wt', σ', α', β', g6.y0, g7, ?_, fun post hp => g3 _ (RE _ _ _ hp), g4, g5, ?_⟩
        · intro post hp X hX
          refine hX _ _ _ ?_
          unfold wp_Pl_placeAll_B6
          exact br_t hle (HALT _ (bs_t rfl (g2 _ hp)))
        · refine ⟨fun i hi => ?_, fun i h1 h2 => ?_, fun i hi e => ?_, fun i h1 h2 => ?_⟩
          · rw [g6.2.2, (hoff i hi).1]
            exact hFB.1 i hi
          · rw [g6.2.2]
            exact hFB.2.1 i h1 h2
          · rw [g8.2, (hoff i hi).2 e]
            exact hFB.2.2.1 i hi e
          · rw [g8.2]
            exact hFB.2.2.2 i h1 h2
  | succ m ih =>
    intro j hj fr hb vp f sp wt σ α β hP hW e28 b11 b12 b13 a13 a14 a15 a16 hFB
    have hjs : j < s := by omega
    have hnle : ¬ σ 28 ≤ nI j := by rw [e28]; exact nI_ge hjs (by omega)
    have htj : qOff o (j + 1) ≤ tot := by
      have := qOff_mono o (show j + 1 ≤ s by omega)
      rcases htot with ⟨-, h⟩ | ⟨-, h, -⟩ <;> omega
    obtain ⟨r, hr⟩ : ∃ r, r = qOp (qFs fr 32 f) := ⟨_, rfl⟩
    obtain ⟨α1, hα1⟩ : ∃ α1, α1 = va_up α 28 (upd (α 28) j r) := ⟨_, rfl⟩
    have aw : ∀ k, k < 28 → α1 k = α k := fun k hk => by rw [hα1]; exact va_up_ne α _ (by omega)
    have P1 : PR (qKd es eg) (qBb es eg) (qOff o j) fr hb vp f sp wt σ α1 β := by rw [hα1]; exact hP
    have B6 : ∀ (X : (Nat → Int32) → (Nat → Nat → Int32) → Int32 → Prop) (post : Int32 → gS → Prop), wp_Pl_placeStatement σ α1 (nI j) (fun u27 => X u27.1 u27.2 (nI (j + 1))) → wp_Pl_placeAll_B6 X σ α (nI j) post := by
      intro X post hp
      unfold wp_Pl_placeAll_B6
      refine br_f hnle (x_freeSpot hP.1.2.2.2.1 hP.1.2.1 hP.1.2.2.1 ?_)
      rw [← hr, nI_clamp (by omega), io1, nI_1]
      refine ⟨vp_in_nI (by omega) (by decide), ?_⟩
      rw [hα1] at hp
      exact hp
    have OCJ := c_stmt (μ := μ) (σ := σ) (α := α1) (β := β) (j := j) (tot := tot) (by omega) P1 hW b11 b12 b13 e24 htj ht60 ((aw 13 (by decide)).trans a13) ((aw 14 (by decide)).trans a14) ((aw 15 (by decide)).trans a15) ((aw 16 (by decide)).trans a16) (hls j hjs) (hval j hjs)
    rcases OCJ with ⟨σ', α', β', d1, d2, d3, d4, d5⟩ | ⟨fr', hb', vp', f', sp', wt', σ', α', β', g1, g2, g3, g4, g5, g6, g7, g8⟩
    · left
      rw [hα1] at d2
      have fy := d2.y
      obtain ⟨α2, k1, k2⟩ := x_deadLoop hs0 hs m (j + 1) (by omega) σ' α' d1 ((fy.1 28 (by decide)).trans e28)
      refine ⟨σ', α2, β', ⟨fy.1, fun k hk => (k1 k hk).trans (fy.2 k hk)⟩, d3, ?_, d5⟩
      intro post hp X hX
      exact hX _ _ _ (B6 X post (d4 _ (k2 post hp X hX)))
    · have fy : FrY σ α σ' α' := by
        rw [hα1] at g6
        exact g6.y
      have hoff : ∀ i, i < j → sp' (qOff o i) = sp (qOff o i) ∧ (o i = 4 → sp' (qOff o i + 2) = sp (qOff o i + 2)) := by
        intro i hi
        have h1 := qOff_mono o (show i + 1 ≤ j by omega)
        have h2 : qOff o (i + 1) = qOff o i + qLn (o i) := rfl
        have h3 := qLn_in (o i)
        refine ⟨(g1 _ (by omega)).1, fun e => (g1 _ ?_).1⟩
        rw [e, show qLn 4 = 3 by decide] at h2
        omega
      have e28' : α' 28 = upd (α 28) j r := by
        rw [g6.2.2, hα1]
        exact va_up_self α 28 _
      have e29 : α1 29 = α 29 := by rw [hα1]; exact va_up_ne α _ (by decide)
      obtain ⟨q1, q2, q3⟩ := g8
      have er : r = nI (sp' (qOff o j)) := by rw [hr, q1]; rfl
      have FB : rFB o (j + 1) sp' α' := by
        refine ⟨fun i hi => ?_, fun i h1 h2 => ?_, fun i hi e => ?_, fun i h1 h2 => ?_⟩
        · rw [e28']
          by_cases z : i = j
          · rw [z, pk_us]
            exact er
          · rw [pk_un z, (hoff i (by omega)).1]
            exact hFB.1 i (by omega)
        · rw [e28', pk_un (by omega)]
          exact hFB.2.1 i (by omega) h2
        · by_cases z : i = j
          · subst z
            rw [q2 e, pk_us]
          · by_cases w : o j = 4
            · rw [q2 w, pk_un z, e29, (hoff i (by omega)).2 e]
              exact hFB.2.2.1 i (by omega) e
            · rw [q3 w, e29, (hoff i (by omega)).2 e]
              exact hFB.2.2.1 i (by omega) e
        · by_cases w : o j = 4
          · by_cases z : i = j
            · subst z
              rcases h2 with h2 | h2
              · omega
              · exact absurd w h2
            · rw [q2 w, pk_un z, e29]
              exact hFB.2.2.2 i h1 (by
                rcases h2 with h2 | h2
                · exact Or.inl (by omega)
                · exact Or.inr h2)
          · rw [q3 w, e29]
            refine hFB.2.2.2 i h1 ?_
            rcases h2 with h2 | h2
            · exact Or.inl (by omega)
            · exact Or.inr h2
      rcases ih (j + 1) (by omega) fr' hb' vp' f' sp' wt' σ' α' β' g4 g5 ((fy.1 28 (by decide)).trans e28) ((g7 11 (by decide)).trans b11) ((g7 12 (by decide)).trans b12) ((g7 13 (by decide)).trans b13) ((fy.2 13 (by decide)).trans a13) ((fy.2 14 (by decide)).trans a14) ((fy.2 15 (by decide)).trans a15) ((fy.2 16 (by decide)).trans a16) FB with ⟨σ2, α2, β2, k1, k2, k3, k4⟩ | ⟨fr2, hb2, vp2, f2, sp2, wt2, σ2, α2, β2, k1, k2, k3, k4, k5, k6, k7⟩
      · left
        refine ⟨σ2, α2, β2, fy.tr k1, g7.tr k2, ?_, fun post hp => g3 _ (k4 post hp)⟩
        intro post hp X hX
        exact hX _ _ _ (B6 X post (g2 _ (k3 post hp X hX)))
      · right
        refine ⟨fr2, hb2, vp2, f2, sp2, wt2, σ2, α2, β2, fy.tr k1, g7.tr k2, ?_, fun post hp => g3 _ (k4 post hp), k5, k6, k7⟩
        intro post hp X hX
        exact hX _ _ _ (B6 X post (g2 _ (k3 post hp X hX)))
end PR1
