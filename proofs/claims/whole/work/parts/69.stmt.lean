-- pure rows: a statement is placed, on both sides
theorem FrX.rf {σ : Nat → Int32} {α : Nat → Nat → Int32} : FrX σ α σ α := ⟨fun _ _ => rfl, fun _ _ => rfl, rfl⟩
theorem FrX.tr {σ σ1 σ2 : Nat → Int32} {α α1 α2 : Nat → Nat → Int32} (h : FrX σ α σ1 α1) (k : FrX σ1 α1 σ2 α2) : FrX σ α σ2 α2 := ⟨fun i hi => (k.1 i hi).trans (h.1 i hi), fun i hi => (k.2.1 i hi).trans (h.2.1 i hi), k.2.2.trans h.2.2⟩
theorem FrM.rf {β : Nat → Nat → Int32} : FrM β β := fun _ _ => rfl
theorem FrM.tr {β β1 β2 : Nat → Nat → Int32} (h : FrM β β1) (k : FrM β1 β2) : FrM β β2 := fun i hi => (k i hi).trans (h i hi)
theorem FrX.dead {σ : Nat → Int32} {α : Nat → Nat → Int32} : FrX σ α (va_up σ 36 0) α := ⟨fun i hi => va_up_ne σ 0 (by omega), fun _ _ => rfl, rfl⟩
theorem rPX.dead {fr hb : Nat → Bool} {vp : Nat → Int32} {f : Nat} {σ : Nat → Int32} {α : Nat → Nat → Int32} (h : rPX fr hb vp f σ α) : rDead (va_up σ 36 0) := ⟨rfl, f, h.2.2.1, h.2.1⟩
theorem rWf.one {kd : Nat → Nat} {c : Nat} (h : rWf kd c) (h1 : ¬ kd c = 1) (h2 : ¬ kd c = 2) : rWf kd (c + 1) := by
  refine ⟨fun i hi e => ?_, fun i hi e => ?_⟩
  · by_cases z : i = c
    · rw [z] at e
      exact absurd e h1
    · have := h.1 i (by omega) e
      exact ⟨by omega, this.2⟩
  · by_cases z : i = c
    · rw [z] at e
      exact absurd e h2
    · exact h.2 i (by omega) e
theorem rWf.two {kd : Nat → Nat} {c : Nat} (h : rWf kd c) (h1 : kd c = 1) (h2 : kd (c + 1) = 2) : rWf kd (c + 2) := by
  refine ⟨fun i hi e => ?_, fun i hi e => ?_⟩
  · by_cases z : i = c
    · rw [z]
      exact ⟨by omega, h2⟩
    · by_cases y : i = c + 1
      · rw [y, h2] at e
        exact absurd e (by decide)
      · have := h.1 i (by omega) e
        exact ⟨by omega, this.2⟩
  · by_cases z : i = c
    · rw [z, h1] at e
      exact absurd e (by decide)
    · by_cases y : i = c + 1
      · exact ⟨c, y, h1⟩
      · exact h.2 i (by omega) e
/-- what an action K of the first side, and the second side's walk from the entry c on, come to -/
def OC (kd bb : Nat → Nat) (μ : Nat → Int32) (c c' f : Nat) (sp wt : Nat → Nat) (σ : Nat → Int32) (α β : Nat → Nat → Int32) (K : (gS → Prop) → Prop) (E : (Nat → Nat) → (Nat → Nat → Int32) → Prop) : Prop :=
  (∃ (σ' : Nat → Int32) (α' β' : Nat → Nat → Int32), rDead σ' ∧ FrX σ α σ' α' ∧ FrM β β' ∧ (∀ post : gS → Prop, post (σ', α') → K post) ∧ (∀ post : Int32 → gS → Prop, post 0 (μ, β') → wp_Md_place_L67 μ β (nI f) (nI c) post)) ∨
  (∃ (fr' hb' : Nat → Bool) (vp' : Nat → Int32) (f' : Nat) (sp' wt' : Nat → Nat) (σ' : Nat → Int32) (α' β' : Nat → Nat → Int32), (∀ i, i < c → sp' i = sp i ∧ wt' i = wt i) ∧ (∀ post : gS → Prop, post (σ', α') → K post) ∧ (∀ post : Int32 → gS → Prop, wp_Md_place_L67 μ β' (nI f') (nI c') post → wp_Md_place_L67 μ β (nI f) (nI c) post) ∧ PR kd bb c' fr' hb' vp' f' sp' wt' σ' α' β' ∧ rWf kd c' ∧ FrX σ α σ' α' ∧ FrM β β' ∧ E sp' α')
theorem L67_step {μ : Nat → Int32} {β β' : Nat → Nat → Int32} {f c f' c' : Int32} (h : ∀ X (post : Int32 → gS → Prop), X μ β' f' c' → wp_Md_place_B67 X μ β f c post) (post : Int32 → gS → Prop) (k : wp_Md_place_L67 μ β' f' c' post) : wp_Md_place_L67 μ β f c post := fun X hX => hX _ _ _ _ (h X post (k X hX))
theorem L67_end {μ : Nat → Int32} {β : Nat → Nat → Int32} {f c : Int32} (h : ∀ X (post : Int32 → gS → Prop), post 0 (μ, β) → wp_Md_place_B67 X μ β f c post) (post : Int32 → gS → Prop) (k : post 0 (μ, β)) : wp_Md_place_L67 μ β f c post := fun X hX => hX _ _ _ _ (h X post k)
section PP
variable {σ μ : Nat → Int32} {α β : Nat → Nat → Int32} {fr hb : Nat → Bool} {vp : Nat → Int32} {kd bb sp wt : Nat → Nat} {c c1 c2 f : Nat}
theorem OC.seq {K1 : (gS → Prop) → Prop} {K2 : (Nat → Int32) → (Nat → Nat → Int32) → (gS → Prop) → Prop} {E1 E2 : (Nat → Nat) → (Nat → Nat → Int32) → Prop} (hcc : c ≤ c1) (h1 : OC kd bb μ c c1 f sp wt σ α β K1 E1) (hd : ∀ (σ' : Nat → Int32) (α' : Nat → Nat → Int32) (post : gS → Prop), rDead σ' → FrX σ α σ' α' → post (σ', α') → K2 σ' α' post)
    (h2 : ∀ (fr' hb' : Nat → Bool) (vp' : Nat → Int32) (f' : Nat) (sp' wt' : Nat → Nat) (σ' : Nat → Int32) (α' β' : Nat → Nat → Int32), PR kd bb c1 fr' hb' vp' f' sp' wt' σ' α' β' → rWf kd c1 → FrX σ α σ' α' → FrM β β' → E1 sp' α' → OC kd bb μ c1 c2 f' sp' wt' σ' α' β' (K2 σ' α') E2) : OC kd bb μ c c2 f sp wt σ α β (fun post => K1 (fun u => K2 u.1 u.2 post)) E2 := by
  rcases h1 with ⟨σ', α', β', d1, d2, d3, d4, d5⟩ | ⟨fr', hb', vp', f', sp', wt', σ', α', β', g1, g2, g3, g4, g5, g6, g7, g8⟩
  · exact Or.inl ⟨σ', α', β', d1, d2, d3, fun post hp => d4 _ (hd σ' α' post d1 d2 hp), d5⟩
  · rcases h2 fr' hb' vp' f' sp' wt' σ' α' β' g4 g5 g6 g7 g8 with ⟨σ2, α2, β2, d1, d2, d3, d4, d5⟩ | ⟨fr2, hb2, vp2, f2, sp2, wt2, σ2, α2, β2, k1, k2, k3, k4, k5, k6, k7, k8⟩
    · exact Or.inl ⟨σ2, α2, β2, d1, g6.tr d2, g7.tr d3, fun post hp => g2 _ (d4 post hp), fun post hp => g3 _ (d5 post hp)⟩
    · exact Or.inr ⟨fr2, hb2, vp2, f2, sp2, wt2, σ2, α2, β2, fun i hi => ⟨(k1 i (by omega)).1.trans (g1 i hi).1, (k1 i (by omega)).2.trans (g1 i hi).2⟩, fun post hp => g2 _ (k2 post hp), fun post hp => g3 _ (k3 post hp), k4, k5, g6.tr k6, g7.tr k7, k8⟩
theorem OC.ord {s g v : Nat} (hP : PR kd bb c fr hb vp f sp wt σ α β) (hW : rWf kd c) (hc : c < 63) (hk : kd c = 0) (hbb : bb c = s + 16 * g) (hs : s < 16) (hg : g < 16) (hv : v < 16) (hs0 : 0 < s) (e11 : β 11 c = nI s) (e13 : β 13 c = nI v) (h24 : ¬ μ 24 ≤ nI c) : OC kd bb μ c (c + 1) f sp wt σ α β (wp_Pl_placeOrder σ α (nI s) (nI g) (nI v)) (fun sp' α' => qFs fr 32 f = some (sp' c) ∧ α' 29 = α 29) := by
  rcases c_ord hP hW hc hk hbb hs hg hv hs0 e11 e13 h24 with ⟨-, d1, d2⟩ | ⟨q, fr', hb', vp', f', sp', wt', σ', α', β', g1, g2, g3, g4, g5, g6, g7, g8, g9⟩
  · exact Or.inl ⟨_, α, β, hP.1.dead, FrX.dead, FrM.rf, d1, fun post hp => L67_end d2 post hp⟩
  · exact Or.inr ⟨fr', hb', vp', f', sp', wt', σ', α', β', g3, g4, fun post hp => L67_step g5 post hp, g6, hW.one (by rw [hk]; decide) (by rw [hk]; decide), g7, g9, by rw [g1, g2], g8⟩
theorem OC.stop (hP : PR kd bb c fr hb vp f sp wt σ α β) (hW : rWf kd c) (hc : c < 63) (hk : kd c = 3) (hbb : bb c = 16) (e11 : β 11 c = 0) (e12 : β 12 c = 1) (e13 : β 13 c = -1) (h24 : ¬ μ 24 ≤ nI c) : OC kd bb μ c (c + 1) f sp wt σ α β (wp_Pl_placeStop σ α) (fun sp' α' => qFs fr 32 f = some (sp' c) ∧ α' 29 = α 29) := by
  rcases c_stop hP hW hc hk hbb e11 e12 e13 h24 with ⟨-, d1, d2⟩ | ⟨q, fr', hb', vp', f', sp', wt', σ', α', β', g1, g2, g3, g4, g5, g6, g7, g8, g9⟩
  · exact Or.inl ⟨_, α, β, hP.1.dead, FrX.dead, FrM.rf, d1, fun post hp => L67_end d2 post hp⟩
  · exact Or.inr ⟨fr', hb', vp', f', sp', wt', σ', α', β', g3, g4, fun post hp => L67_step g5 post hp, g6, hW.one (by rw [hk]; decide) (by rw [hk]; decide), g7, g9, by rw [g1, g2], g8⟩
theorem OC.fork {j : Nat} (hP : PR kd bb c fr hb vp f sp wt σ α β) (hW : rWf kd c) (hc : c < 62) (hj : j < 12) (hk : kd c = 1) (hk1 : kd (c + 1) = 2) (hbb : bb c = 0) (hb1 : bb (c + 1) = 0) (e11 : β 11 c = 0) (e12 : β 12 c = 0) (h24 : ¬ μ 24 ≤ nI c) : OC kd bb μ c (c + 2) f sp wt σ α β (wp_Pl_placeFork σ α (nI j)) (fun sp' α' => α' 29 = upd (α 29) j (nI (sp' (c + 1)))) := by
  rcases c_fork hP hW hc hj hk hk1 hbb hb1 e11 e12 h24 with ⟨-, d1, d2⟩ | ⟨fr', hb', vp', f', sp', wt', σ', α', β', g3, g4, g5, g6, g7, g8, g9⟩
  · exact Or.inl ⟨_, α, β, hP.1.dead, FrX.dead, FrM.rf, d1, fun post hp => L67_end d2 post hp⟩
  · exact Or.inr ⟨fr', hb', vp', f', sp', wt', σ', α', β', g3, g4, fun post hp => L67_step g5 post hp, g6, hW.two hk hk1, g7, g9, g8⟩
/-- the same with what it says of the outcome weakened -/
theorem OC.weak {K : (gS → Prop) → Prop} {E E' : (Nat → Nat) → (Nat → Nat → Int32) → Prop} (h : OC kd bb μ c c2 f sp wt σ α β K E) (k : ∀ sp' α', (∀ i, i < c → sp' i = sp i) → E sp' α' → E' sp' α') : OC kd bb μ c c2 f sp wt σ α β K E' := by
  rcases h with h | ⟨fr', hb', vp', f', sp', wt', σ', α', β', g1, g2, g3, g4, g5, g6, g7, g8⟩
  · exact Or.inl h
  · exact Or.inr ⟨fr', hb', vp', f', sp', wt', σ', α', β', g1, g2, g3, g4, g5, g6, g7, k sp' α' (fun i hi => (g1 i hi).1) g8⟩
theorem OC.to {K K' : (gS → Prop) → Prop} {E : (Nat → Nat) → (Nat → Nat → Int32) → Prop} (h : OC kd bb μ c c2 f sp wt σ α β K E) (k : ∀ post, K post → K' post) : OC kd bb μ c c2 f sp wt σ α β K' E := by
  rcases h with ⟨σ', α', β', d1, d2, d3, d4, d5⟩ | ⟨fr', hb', vp', f', sp', wt', σ', α', β', g1, g2, g3, g4, g5, g6, g7, g8⟩
  · exact Or.inl ⟨σ', α', β', d1, d2, d3, fun post hp => k post (d4 post hp), d5⟩
  · exact Or.inr ⟨fr', hb', vp', f', sp', wt', σ', α', β', g1, fun post hp => k post (g2 post hp), g3, g4, g5, g6, g7, g8⟩
end PP
