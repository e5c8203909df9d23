-- pure rows: the search for free spots, on both sides
theorem q_or (a b : Nat) : nI a ||| nI b = nI (a ||| b) := by
  apply Int32.toBitVec_inj.1
  show BitVec.ofNat 32 a ||| BitVec.ofNat 32 b = BitVec.ofNat 32 (a ||| b)
  apply BitVec.eq_of_getLsbD_eq
  intro i hi
  simp [hi]
/-- the first free spot, m places from the place pos on; fr q: the spot q is free -/
def qFs (fr : Nat → Bool) : Nat → Nat → Option Nat
  | 0, _ => none
  | m + 1, pos => if fr (pos % 32) then some (pos % 32) else if fr (32 + pos % 32) then some (32 + pos % 32) else qFs fr m (pos + 1)
/-- the first place of a fork -/
def qFk (fr : Nat → Bool) : Nat → Nat → Option Nat
  | 0, _ => none
  | m + 1, pos => if fr (pos % 32) && fr ((pos % 32 + 1) % 32) then some (pos % 32) else if fr (32 + pos % 32) && fr (32 + (pos % 32 + 1) % 32) then some (32 + pos % 32) else qFk fr m (pos + 1)
def qOp (x : Option Nat) : Int32 := match x with | some q => nI q | none => -1
theorem qFs_lt {fr : Nat → Bool} : ∀ (m pos q : Nat), qFs fr m pos = some q → q < 64 ∧ fr q = true := by
  intro m
  induction m with
  | zero => intro pos q h; cases h
  | succ m ih =>
    intro pos q h
    unfold qFs at h
    split at h
    · rename_i z
      cases h
      exact ⟨by omega, z⟩
    · split at h
      · rename_i z
        cases h
        exact ⟨by omega, z⟩
      · exact ih _ _ h
theorem qFk_lt {fr : Nat → Bool} : ∀ (m pos q : Nat), qFk fr m pos = some q → q < 64 ∧ fr q = true ∧ fr (q / 32 * 32 + (q % 32 + 1) % 32) = true := by
  intro m
  induction m with
  | zero => intro pos q h; cases h
  | succ m ih =>
    intro pos q h
    unfold qFk at h
    split at h
    · rename_i z
      cases h
      have z := Bool.and_eq_true_iff.mp z
      refine ⟨by omega, z.1, ?_⟩
      rw [show pos % 32 / 32 * 32 + (pos % 32 % 32 + 1) % 32 = (pos % 32 + 1) % 32 by omega]
      exact z.2
    · split at h
      · rename_i z
        cases h
        have z := Bool.and_eq_true_iff.mp z
        refine ⟨by omega, z.1, ?_⟩
        rw [show (32 + pos % 32) / 32 * 32 + ((32 + pos % 32) % 32 + 1) % 32 = 32 + (pos % 32 + 1) % 32 by omega]
        exact z.2
      · exact ih _ _ h
section PH
variable {σ μ : Nat → Int32} {α β : Nat → Nat → Int32} {fr : Nat → Bool}
theorem q_pl (a b : Nat) (ha : a + b < 2 ^ 31) : (nI a + nI b) &&& 31 = nI ((a + b) % 32) := by rw [nI_add, q_a31 ha]
theorem x_isFree {post : Int32 → gS → Prop} {l p : Nat} (hf : ∀ q, q < 64 → (α 25 q = -1 ↔ fr q = true)) (hl : l < 2) (hp : p < 32) (h1 : fr (32 * l + p) = true → post 1 (σ, α)) (h0 : ¬ fr (32 * l + p) = true → post 0 (σ, α)) : wp_Pl_isFree σ α (nI l) (nI p) post := by
  unfold wp_Pl_isFree wp_Pl_isFree_J20
  rw [q_idx, nI_clamp (by omega)]
  refine ⟨vp_in_nI (by omega) (by decide), fun z => ⟨rfl, h0 (fun y => z ((hf _ (by omega)).mpr y))⟩, fun z => ⟨rfl, h1 ((hf _ (by omega)).mp z)⟩⟩
theorem x_freeSpot {post : Int32 → gS → Prop} {f : Nat} (hf : ∀ q, q < 64 → (α 25 q = -1 ↔ fr q = true)) (e33 : σ 33 = nI f) (h33 : f < 32) (hp : post (qOp (qFs fr 32 f)) (σ, α)) : wp_Pl_freeSpot σ α post := by
  unfold wp_Pl_freeSpot
  have key : ∀ (m st : Nat), st + m = 32 → post (qOp (qFs fr m (f + st))) (σ, α) → wp_Pl_freeSpot_L2 σ α (nI st) post := by
    intro m st hst hpost X hX
    induction m generalizing st with
    | zero =>
      apply hX
      unfold wp_Pl_freeSpot_B2
      exact br_t (nI_le (a := 32) (by omega) (by omega)) hpost
    | succ m ih =>
      apply hX
      unfold wp_Pl_freeSpot_B2
      refine br_f (nI_ge (b := 32) (by omega) (by decide)) ?_
      rw [e33, q_pl f st (by omega)]
      unfold qFs at hpost
      have nxt : ¬ fr ((f + st) % 32) = true → ¬ fr (32 + (f + st) % 32) = true → X σ α (nI (st + 1)) := by
        intro z0 z1
        rw [if_neg z0, if_neg z1] at hpost
        exact ih (st + 1) (by omega) hpost
      intro Y hY
      apply hY
      unfold wp_Pl_freeSpot_B20
      rw [io1]
      refine br_f (by decide) ?_
      refine x_isFree (l := 0) hf (by decide) (by omega) (fun z => ?_) (fun z0 => ?_)
      · rw [show 32 * 0 + (f + st) % 32 = (f + st) % 32 by omega] at z
        rw [if_pos z] at hpost
        refine br_f (by decide) ?_
        show post (nI 0 * 32 + nI ((f + st) % 32)) (σ, α)
        rw [q_idx, show 32 * 0 + (f + st) % 32 = (f + st) % 32 by omega]
        exact hpost
      · rw [show 32 * 0 + (f + st) % 32 = (f + st) % 32 by omega] at z0
        refine br_t rfl ?_
        apply hY
        unfold wp_Pl_freeSpot_B20
        rw [io1]
        refine br_f (by decide) ?_
        refine x_isFree (l := 1) hf (by decide) (by omega) (fun z => ?_) (fun z1 => ?_)
        · rw [show 32 * 1 + (f + st) % 32 = 32 + (f + st) % 32 by omega] at z
          rw [if_neg z0, if_pos z] at hpost
          refine br_f (by decide) ?_
          show post (nI 1 * 32 + nI ((f + st) % 32)) (σ, α)
          rw [q_idx, show 32 * 1 + (f + st) % 32 = 32 + (f + st) % 32 by omega]
          exact hpost
        · rw [show 32 * 1 + (f + st) % 32 = 32 + (f + st) % 32 by omega] at z1
          refine br_t rfl ?_
          apply hY
          unfold wp_Pl_freeSpot_B20
          rw [io1, nI_1]
          exact br_t (by decide) (nxt z0 z1)
  exact key 32 0 (by omega) hp
theorem x_forkSpot {post : Int32 → gS → Prop} {f : Nat} (hf : ∀ q, q < 64 → (α 25 q = -1 ↔ fr q = true)) (e33 : σ 33 = nI f) (h33 : f < 32) (hp : post (qOp (qFk fr 31 (f + 1))) (σ, α)) : wp_Pl_forkSpot σ α post := by
  unfold wp_Pl_forkSpot
  have key : ∀ (m st : Nat), st + m = 32 → post (qOp (qFk fr m (f + st))) (σ, α) → wp_Pl_forkSpot_L2 σ α (nI st) post := by
    intro m st hst hpost X hX
    induction m generalizing st with
    | zero =>
      apply hX
      unfold wp_Pl_forkSpot_B2
      exact br_t (nI_le (a := 32) (by omega) (by omega)) hpost
    | succ m ih =>
      apply hX
      unfold wp_Pl_forkSpot_B2
      refine br_f (nI_ge (b := 32) (by omega) (by decide)) ?_
      rw [e33, q_pl f st (by omega)]
      unfold qFk at hpost
      obtain ⟨p, hpd⟩ : ∃ p, p = (f + st) % 32 := ⟨_, rfl⟩
      rw [← hpd] at hpost ⊢
      have hp32 : p < 32 := by omega
      have e1 : (nI p + 1) &&& 31 = nI ((p + 1) % 32) := q_pl p 1 (by omega)
      have nxt : ¬ (fr p && fr ((p + 1) % 32)) = true → ¬ (fr (32 + p) && fr (32 + (p + 1) % 32)) = true → X σ α (nI (st + 1)) := by
        intro z0 z1
        rw [if_neg z0, if_neg z1] at hpost
        exact ih (st + 1) (by omega) hpost
      intro Y hY
      -- line 0
      apply hY
      unfold wp_Pl_forkSpot_B20 wp_Pl_forkSpot_J55
      rw [io1]
      refine br_f (by decide) ?_
      have L1 : ¬ (fr p && fr ((p + 1) % 32)) = true → Y σ α (nI st) (nI p) 1 := by
        intro z0
        apply hY
        unfold wp_Pl_forkSpot_B20 wp_Pl_forkSpot_J55
        rw [io1]
        refine br_f (by decide) ?_
        have L2 : ¬ (fr (32 + p) && fr (32 + (p + 1) % 32)) = true → Y σ α (nI st) (nI p) 2 := by
          intro z1
          apply hY
          unfold wp_Pl_forkSpot_B20 wp_Pl_forkSpot_J55
          rw [io1, nI_1]
          exact br_t (by decide) (nxt z0 z1)
        refine x_isFree (l := 1) hf (by decide) hp32 (fun z => ?_) (fun z => ?_)
        · refine br_f (by decide) ?_
          rw [e1]
          refine x_isFree (l := 1) hf (by decide) (by omega) (fun y => ?_) (fun y => ?_)
          · have zz : (fr (32 + p) && fr (32 + (p + 1) % 32)) = true := Bool.and_eq_true_iff.mpr ⟨z, y⟩
            rw [if_neg z0, if_pos zz] at hpost
            refine br_f (by decide) ?_
            show post (nI 1 * 32 + nI p) (σ, α)
            rw [q_idx, show 32 * 1 + p = 32 + p by omega]
            exact hpost
          · exact br_t rfl (L2 (fun w => y (Bool.and_eq_true_iff.mp w).2))
        · exact br_t rfl (L2 (fun w => z (Bool.and_eq_true_iff.mp w).1))
      refine x_isFree (l := 0) hf (by decide) hp32 (fun z => ?_) (fun z => ?_)
      · refine br_f (by decide) ?_
        rw [e1]
        rw [show 32 * 0 + p = p by omega] at z
        refine x_isFree (l := 0) hf (by decide) (by omega) (fun y => ?_) (fun y => ?_)
        · rw [show 32 * 0 + (p + 1) % 32 = (p + 1) % 32 by omega] at y
          have zz : (fr p && fr ((p + 1) % 32)) = true := Bool.and_eq_true_iff.mpr ⟨z, y⟩
          rw [if_pos zz] at hpost
          refine br_f (by decide) ?_
          show post (nI 0 * 32 + nI p) (σ, α)
          rw [q_idx, show 32 * 0 + p = p by omega]
          exact hpost
        · rw [show 32 * 0 + (p + 1) % 32 = (p + 1) % 32 by omega] at y
          exact br_t rfl (L1 (fun w => y (Bool.and_eq_true_iff.mp w).2))
      · rw [show 32 * 0 + p = p by omega] at z
        exact br_t rfl (L1 (fun w => z (Bool.and_eq_true_iff.mp w).1))
  exact key 31 1 (by omega) hp
theorem m_free {post : Int32 → gS → Prop} {f : Nat} (hf : ∀ q, q < 64 → (β 17 q = 0 ↔ fr q = true)) (h33 : f < 2 ^ 20) (hp : post (qOp (qFs fr 32 f)) (μ, β)) : wp_Md_free μ β (nI f) 0 post := by
  unfold wp_Md_free
  have key : ∀ (m st : Nat), st + m = 32 → post (qOp (qFs fr m (f + st))) (μ, β) → wp_Md_free_L2 μ β (nI f) 0 (nI st) post := by
    intro m st hst hpost X hX
    induction m generalizing st with
    | zero =>
      apply hX
      unfold wp_Md_free_B2 wp_Md_free_J14
      exact br_t rfl (br_t (nI_le (a := 32) (by omega) (by omega)) hpost)
    | succ m ih =>
      apply hX
      unfold wp_Md_free_B2 wp_Md_free_J14
      refine br_t rfl (br_f (nI_ge (b := 32) (by omega) (by decide)) (br_t rfl ?_))
      rw [q_pl f st (by omega)]
      unfold qFs at hpost
      obtain ⟨p, hpd⟩ : ∃ p, p = (f + st) % 32 := ⟨_, rfl⟩
      rw [← hpd] at hpost ⊢
      have hp32 : p < 32 := by omega
      have e32 : 32 + nI p = nI (32 + p) := nI_add 32 p
      unfold wp_Md_free_J41 wp_Md_free_J66 wp_Md_free_J98
      rw [e32, nI_clamp (by omega), nI_clamp (by omega), io1, nI_1]
      have v0 : vp_in (nI p) 64 := vp_in_nI (by omega) (by decide)
      have v1 : vp_in (nI (32 + p)) 64 := vp_in_nI (by omega) (by decide)
      by_cases z0 : fr p = true
      · rw [if_pos z0] at hpost
        have y0 := (hf p (by omega)).mpr z0
        exact ⟨v0, bs_t y0 ⟨v0, bs_t y0 hpost⟩⟩
      · have y0 : ¬ β 17 p = 0 := fun w => z0 ((hf p (by omega)).mp w)
        refine ⟨v0, bs_f y0 ?_⟩
        rw [if_neg z0] at hpost
        by_cases z1 : fr (32 + p) = true
        · rw [if_pos z1] at hpost
          have y1 := (hf (32 + p) (by omega)).mpr z1
          exact ⟨v1, bs_t y1 ⟨v1, bs_t y1 hpost⟩⟩
        · have y1 : ¬ β 17 (32 + p) = 0 := fun w => z1 ((hf (32 + p) (by omega)).mp w)
          rw [if_neg z1] at hpost
          exact ⟨v1, bs_f y1 (ih (st + 1) (by omega) hpost)⟩
  exact key 32 0 (by omega) hp
theorem m_fork {post : Int32 → gS → Prop} {f : Nat} (hf : ∀ q, q < 64 → (β 17 q = 0 ↔ fr q = true)) (h33 : f < 2 ^ 20) (hp : post (qOp (qFk fr 31 f)) (μ, β)) : wp_Md_free μ β (nI f) 1 post := by
  unfold wp_Md_free
  have key : ∀ (m st : Nat), st + m = 31 → post (qOp (qFk fr m (f + st))) (μ, β) → wp_Md_free_L2 μ β (nI f) 1 (nI st) post := by
    intro m st hst hpost X hX
    induction m generalizing st with
    | zero =>
      apply hX
      unfold wp_Md_free_B2 wp_Md_free_J14
      exact br_f (by decide) (br_t (nI_le (a := 31) (by omega) (by omega)) hpost)
    | succ m ih =>
      apply hX
      unfold wp_Md_free_B2 wp_Md_free_J14
      refine br_f (by decide) (br_f (nI_ge (b := 31) (by omega) (by decide)) (br_f (by decide) ?_))
      rw [q_pl f st (by omega)]
      unfold qFk at hpost
      obtain ⟨p, hpd⟩ : ∃ p, p = (f + st) % 32 := ⟨_, rfl⟩
      rw [← hpd] at hpost ⊢
      have hp32 : p < 32 := by omega
      obtain ⟨q, hqd⟩ : ∃ q, q = (p + 1) % 32 := ⟨_, rfl⟩
      have e1 : (nI p + 1) &&& 31 = nI q := by rw [hqd]; exact q_pl p 1 (by omega)
      rw [← hqd] at hpost
      have hq32 : q < 32 := by omega
      have e32 : 32 + nI p = nI (32 + p) := nI_add 32 p
      have e33 : 32 + nI q = nI (32 + q) := nI_add 32 q
      unfold wp_Md_free_J41 wp_Md_free_J66 wp_Md_free_J98
      rw [e1, e32, e33, nI_clamp (by omega), nI_clamp (by omega), nI_clamp (by omega), nI_clamp (by omega), io1, nI_1]
      have v0 : vp_in (nI p) 64 := vp_in_nI (by omega) (by decide)
      have w0 : vp_in (nI q) 64 := vp_in_nI (by omega) (by decide)
      have v1 : vp_in (nI (32 + p)) 64 := vp_in_nI (by omega) (by decide)
      have w1 : vp_in (nI (32 + q)) 64 := vp_in_nI (by omega) (by decide)
      have L1 : ¬ (fr p && fr q) = true → vp_in (nI (32 + p)) 64 ∧ ((¬ β 17 (32 + p) = 0 → X μ β (nI f) 1 (nI (st + 1))) ∧ (β 17 (32 + p) = 0 → vp_in (nI (32 + q)) 64 ∧ ((¬ β 17 (32 + q) = 0 → X μ β (nI f) 1 (nI (st + 1))) ∧ (β 17 (32 + q) = 0 → post (nI (32 + p)) (μ, β))))) := by
        intro z0
        rw [if_neg z0] at hpost
        refine ⟨v1, fun z => ?_, fun z => ⟨w1, fun y => ?_, fun y => ?_⟩⟩
        · rw [if_neg (fun w => z ((hf (32 + p) (by omega)).mpr (Bool.and_eq_true_iff.mp w).1))] at hpost
          exact ih (st + 1) (by omega) hpost
        · rw [if_neg (fun w => y ((hf (32 + q) (by omega)).mpr (Bool.and_eq_true_iff.mp w).2))] at hpost
          exact ih (st + 1) (by omega) hpost
        · rw [if_pos (Bool.and_eq_true_iff.mpr ⟨(hf (32 + p) (by omega)).mp z, (hf (32 + q) (by omega)).mp y⟩)] at hpost
          exact hpost
      refine ⟨v0, fun z => L1 (fun w => z ((hf p (by omega)).mpr (Bool.and_eq_true_iff.mp w).1)), fun z => ⟨w0, fun y => L1 (fun w => y ((hf q (by omega)).mpr (Bool.and_eq_true_iff.mp w).2)), fun y => ?_⟩⟩
      rw [if_pos (Bool.and_eq_true_iff.mpr ⟨(hf p (by omega)).mp z, (hf q (by omega)).mp y⟩)] at hpost
      exact hpost
  exact key 31 0 (by omega) hp
end PH
