-- pure rows: branches are led, free spots get stops
def qTg (o g ew : Nat → Int32) (i : Nat) : Nat := qOff o (g (ew i).toNatClampNeg).toNatClampNeg
def qFw (kd bb sp wt T : Nat → Nat) (tot i : Nat) : Int32 := if kd i = 2 then nI (qLb (sp i) (sp (T i))) else qCw kd bb sp wt tot i
theorem kd2 {o a b cc es eg eo ew : Nat → Int32} {i j : Nat} (hls : rLs o a b cc es eg eo ew j) (hop : ∃ k : Nat, k < 7 ∧ o j = nI k) (h1 : qOff o j ≤ i) (h2 : i < qOff o (j + 1)) (h : qKd es eg i = 2) : o j = 4 ∧ i = qOff o j + 2 := by
  obtain ⟨k, hk, ek⟩ := hop
  have hlen : qOff o (j + 1) = qOff o j + qLn (o j) := rfl
  obtain ⟨l0, l1, l2, l3, l4, l5, l6⟩ := hls
  have n0 : ∀ i s g x w, qAt es eg eo ew i (nI s) (nI g) x w → 0 < s → s < 16 → g ≠ 1 → g < 16 → ¬ qKd es eg i = 2 := fun i s g x w q a1 a2 a3 a4 z => by
    rw [qKd_0 q.1 q.2.1 a1 a2 a3 a4] at z
    exact absurd z (by decide)
  rcases (show k = 0 ∨ k = 1 ∨ k = 2 ∨ k = 3 ∨ k = 4 ∨ k = 5 ∨ k = 6 by omega) with rfl | rfl | rfl | rfl | rfl | rfl | rfl
  · have e : o j = 0 := ek
    rw [e, show qLn 0 = 3 by decide] at hlen
    obtain ⟨q1, q2, q3⟩ := l0 e
    rcases (show i = qOff o j ∨ i = qOff o j + 1 ∨ i = qOff o j + 2 by omega) with z | z | z
    · rw [z] at h
      exact absurd h (n0 _ 2 6 _ _ q1 (by decide) (by decide) (by decide) (by decide))
    · rw [z] at h
      exact absurd h (n0 _ 2 9 _ _ q2 (by decide) (by decide) (by decide) (by decide))
    · rw [z] at h
      exact absurd h (n0 _ 6 2 _ _ q3 (by decide) (by decide) (by decide) (by decide))
  · have e : o j = 1 := ek
    rw [e, show qLn 1 = 3 by decide] at hlen
    obtain ⟨q1, q2, q3⟩ := l1 e
    rcases (show i = qOff o j ∨ i = qOff o j + 1 ∨ i = qOff o j + 2 by omega) with z | z | z
    · rw [z] at h
      exact absurd h (n0 _ 2 6 _ _ q1 (by decide) (by decide) (by decide) (by decide))
    · rw [z] at h
      exact absurd h (n0 _ 2 10 _ _ q2 (by decide) (by decide) (by decide) (by decide))
    · rw [z] at h
      exact absurd h (n0 _ 6 2 _ _ q3 (by decide) (by decide) (by decide) (by decide))
  · have e : o j = 2 := ek
    rw [e, show qLn 2 = 2 by decide] at hlen
    obtain ⟨q1, q2⟩ := l2 e
    rcases (show i = qOff o j ∨ i = qOff o j + 1 by omega) with z | z
    · rw [z] at h
      exact absurd h (n0 _ 2 6 _ _ q1 (by decide) (by decide) (by decide) (by decide))
    · rw [z] at h
      exact absurd h (n0 _ 6 2 _ _ q2 (by decide) (by decide) (by decide) (by decide))
  · have e : o j = 3 := ek
    rw [e, show qLn 3 = 1 by decide] at hlen
    rw [show i = qOff o j by omega] at h
    exact absurd h (n0 _ 2 15 _ _ (l3 e) (by decide) (by decide) (by decide) (by decide))
  · have e : o j = 4 := ek
    rw [e, show qLn 4 = 3 by decide] at hlen
    obtain ⟨q1, q2, q3⟩ := l4 e
    rcases (show i = qOff o j ∨ i = qOff o j + 1 ∨ i = qOff o j + 2 by omega) with z | z | z
    · rw [z] at h
      exact absurd h (n0 _ 2 11 _ _ q1 (by decide) (by decide) (by decide) (by decide))
    · rw [z, qKd_1 q2.1 q2.2.1 (by rw [show qOff o j + 1 - 1 = qOff o j by omega, q1.1]; decide)] at h
      exact absurd h (by decide)
    · exact ⟨e, z⟩
  · have e : o j = 5 := ek
    rw [e, show qLn 5 = 1 by decide] at hlen
    rw [show i = qOff o j by omega] at h
    exact absurd h (n0 _ 13 2 _ _ (l5 e) (by decide) (by decide) (by decide) (by decide))
  · have e : o j = 6 := ek
    rw [e, show qLn 6 = 1 by decide] at hlen
    rw [show i = qOff o j by omega, qKd_3 (l6 e).2.1] at h
    exact absurd h (by decide)
section PS
variable {σ μ : Nat → Int32} {es eg eo ew o a b cc g : Nat → Int32} {s tot : Nat} {sp wt : Nat → Nat}
/-- what stands at the entries' spots when the branches of the statements ahead of j are led -/
def rBr (es eg o g ew : Nat → Int32) (sp wt : Nat → Nat) (tot j : Nat) (F : Nat → Int32) : Prop := ∀ i, i < tot → F (sp i) = if qKd es eg i = 2 ∧ i < qOff o j then nI (qLb (sp i) (sp (qTg o g ew i))) else qCw (qKd es eg) (qBb es eg) sp wt tot i
theorem x_lead {α : Nat → Nat → Int32} (hs : s ≤ 12) (htot : qOff o s ≤ tot) (e28 : σ 28 = nI s) (hsp : ∀ i, i < tot → sp i < 64) (hinj : ∀ i j, i < tot → j < tot → sp i = sp j → i = j) (hls : ∀ j, j < s → rLs o a b cc es eg eo ew j) (hop : ∀ j, j < s → ∃ k : Nat, k < 7 ∧ o j = nI k) (hg : ∀ j, j < s → o j = 4 → ∃ k : Nat, k < s ∧ g j = nI k) (a17 : α 17 = g) (h28 : ∀ i, i < s → α 28 i = nI (sp (qOff o i))) (h29 : ∀ i, i < s → o i = 4 → α 29 i = nI (sp (qOff o i + 2))) (h29n : ∀ i, i < 12 → ¬ o i = 4 → α 29 i = -1) :
    ∀ (m j : Nat) (F : Nat → Int32), j + m = s → rBr es eg o g ew sp wt tot j F → ∃ F' : Nat → Int32, rBr es eg o g ew sp wt tot s F' ∧ (∀ q, q < 64 → (∀ i, i < tot → q ≠ sp i) → F' q = F q) ∧ ∀ post : gS → Prop, post (σ, va_up α 25 F') → wp_Pl_leadBranches_L2 σ (va_up α 25 F) (nI j) post := by
  intro m
  induction m with
  | zero =>
    intro j F hj hF
    have hjs : j = s := by omega
    subst hjs
    refine ⟨F, hF, fun _ _ _ => rfl, fun post hp X hX => hX _ _ _ ?_⟩
    unfold wp_Pl_leadBranches_B2
    exact br_t (by rw [e28]; exact nI_le (Nat.le_refl j) (by omega)) hp
  | succ m ih =>
    intro j F hj hF
    have hjs : j < s := by omega
    have vj : vp_in (nI j) 12 := vp_in_nI (by omega) (by decide)
    have cl : (nI j).toNatClampNeg = j := nI_clamp (by omega)
    have hm1 := qOff_mono o (show j + 1 ≤ s by omega)
    have hnle : ¬ σ 28 ≤ nI j := by rw [e28]; exact nI_ge hjs (by omega)
    by_cases h4 : o j = 4
    · obtain ⟨k, hk, ek⟩ := hg j hjs h4
      obtain ⟨i0, hi0⟩ : ∃ i0, i0 = qOff o j + 2 := ⟨_, rfl⟩
      have hlen : qOff o (j + 1) = qOff o j + 3 := by
        show qOff o j + qLn (o j) = _
        rw [h4]
        rfl
      obtain ⟨-, -, -, -, l4, -, -⟩ := hls j hjs
      obtain ⟨q1, q2, q3⟩ := l4 h4
      have hk2 : qKd es eg i0 = 2 := by rw [hi0]; exact qKd_2 q3.1 q3.2.1 q2.1 q2.2.1
      have hmk := qOff_mono o (show k + 1 ≤ s by omega)
      have hlk : qOff o (k + 1) = qOff o k + qLn (o k) := rfl
      have hl1 := (qLn_in (o k)).1
      have hT : qTg o g ew i0 = qOff o k := by
        unfold qTg
        rw [hi0, q3.2.2.2, cl, ek, nI_clamp (by omega)]
      have hr : sp i0 < 64 := hsp i0 (by omega)
      have ht : sp (qOff o k) < 64 := hsp _ (by omega)
      have hF0 : F (sp i0) = nI 0 := by
        rw [hF i0 (by omega), if_neg (fun z => by have := z.2; omega)]
        unfold qCw
        rw [if_neg (by rw [hk2]; decide), if_pos hk2]
        rfl
      obtain ⟨F1, hF1⟩ : ∃ F1, F1 = upd F (sp i0) (nI (qLb (sp i0) (sp (qOff o k)))) := ⟨_, rfl⟩
      have hB1 : rBr es eg o g ew sp wt tot (j + 1) F1 := by
        intro i hi
        rw [hF1]
        by_cases z : i = i0
        · rw [z, pk_us, if_pos ⟨hk2, by omega⟩, hT]
        · rw [pk_un (fun y => z (hinj i i0 hi (by omega) y)), hF i hi]
          by_cases y : qKd es eg i = 2 ∧ i < qOff o j
          · rw [if_pos y, if_pos ⟨y.1, by omega⟩]
          · rw [if_neg y, if_neg (fun w => y ⟨w.1, Nat.lt_of_not_le (fun v => z (by rw [hi0]; exact (kd2 (hls j hjs) (hop j hjs) v w.2 w.1).2))⟩)]
      obtain ⟨F', g1, g2, g3⟩ := ih (j + 1) F1 (by omega) hB1
      refine ⟨F', g1, fun q hq hn => ?_, fun post hp X hX => hX _ _ _ ?_⟩
      · rw [g2 q hq hn, hF1, pk_un (hn i0 (by omega))]
      · unfold wp_Pl_leadBranches_B2 wp_Pl_leadBranches_J41 wp_Pl_lead
        rw [cl]
        have e29 : (va_up α 25 F) 29 j = nI (sp i0) := by
          show α 29 j = _
          rw [hi0]
          exact h29 j hjs h4
        have e17 : (va_up α 25 F) 17 j = nI k := by
          show α 17 j = _
          rw [a17, ek]
        rw [e29, e17, nI_clamp (n := k) (by omega)]
        have e28' : (va_up α 25 F) 28 k = nI (sp (qOff o k)) := h28 k hk
        have e25 : (va_up α 25 F) 25 (sp i0) = nI 0 := hF0
        rw [e28', nI_clamp (n := sp i0) (by omega), e25, q_lead (by decide) hr ht, io1, nI_1, Nat.zero_add]
        have vr : vp_in (nI (sp i0)) 64 := vp_in_nI hr (by decide)
        refine br_f hnle ⟨vj, br_f (nI_m1 (by omega)) ⟨vj, vj, vp_in_nI (by omega) (by decide), vr, vr, ?_⟩⟩
        have := g3 post hp X hX
        rw [hF1] at this
        show X σ (va_up (va_up α 25 F) 25 (upd F (sp i0) (nI (qLb (sp i0) (sp (qOff o k)))))) (nI (j + 1))
        rw [bx_uu]
        exact this
    · have hB1 : rBr es eg o g ew sp wt tot (j + 1) F := by
        intro i hi
        rw [hF i hi]
        by_cases y : qKd es eg i = 2 ∧ i < qOff o j
        · have := qOff_mono o (show j ≤ j + 1 by omega)
          rw [if_pos y, if_pos ⟨y.1, by omega⟩]
        · rw [if_neg y, if_neg (fun w => y ⟨w.1, Nat.lt_of_not_le (fun v => h4 (kd2 (hls j hjs) (hop j hjs) v w.2 w.1).1)⟩)]
      obtain ⟨F', g1, g2, g3⟩ := ih (j + 1) F (by omega) hB1
      refine ⟨F', g1, g2, fun post hp X hX => hX _ _ _ ?_⟩
      unfold wp_Pl_leadBranches_B2 wp_Pl_leadBranches_J41
      rw [cl, io1, nI_1]
      refine br_f hnle ⟨vj, br_t ?_ (g3 post hp X hX)⟩
      show α 29 j = -1
      exact h29n j (by omega) h4
def qSf (F : Nat → Int32) (i : Nat) : Nat → Int32 := fun q => if q < i ∧ F q = -1 then 1015824 else F q
theorem x_fill {α : Nat → Nat → Int32} {F : Nat → Int32} {post : gS → Prop} (hp : post (σ, va_up α 25 (qSf F 64))) : wp_Pl_fillWithStops σ (va_up α 25 F) post := by
  have key : ∀ (m i : Nat), i + m = 64 → wp_Pl_fillWithStops_L2 σ (va_up α 25 (qSf F i)) (nI i) post := by
    intro m i hi X hX
    induction m generalizing i with
    | zero =>
      refine hX _ _ _ ?_
      unfold wp_Pl_fillWithStops_B2
      refine br_t (nI_le (a := 64) (by omega) (by omega)) ?_
      rw [show i = 64 by omega]
      exact hp
    | succ m ih =>
      refine hX _ _ _ ?_
      unfold wp_Pl_fillWithStops_B2 wp_Pl_fillWithStops_J26
      rw [nI_clamp (by omega), io1, nI_1]
      have vi : vp_in (nI i) 64 := vp_in_nI (by omega) (by decide)
      have e : (va_up α 25 (qSf F i)) 25 i = F i := if_neg (fun z => absurd z.1 (Nat.lt_irrefl i))
      rw [e]
      have nx := ih (i + 1) (by omega)
      refine br_f (nI_ge (b := 64) (by omega) (by decide)) ⟨vi, fun z => ?_, fun z => ⟨vi, ?_⟩⟩
      · have ee : qSf F (i + 1) = qSf F i := by
          funext q
          unfold qSf
          by_cases y : q = i
          · rw [y, if_neg (fun w => z w.2), if_neg (fun w => z w.2)]
          · by_cases w : q < i ∧ F q = -1
            · rw [if_pos w, if_pos ⟨by omega, w.2⟩]
            · rw [if_neg w, if_neg (fun v => w ⟨by omega, v.2⟩)]
        rw [ee] at nx
        exact nx
      · have ee : upd (qSf F i) i 1015824 = qSf F (i + 1) := by
          funext q
          unfold upd qSf
          by_cases y : q = i
          · rw [if_pos y, if_pos ⟨by omega, by rw [y]; exact z⟩]
          · rw [if_neg y]
            by_cases w : q < i ∧ F q = -1
            · rw [if_pos w, if_pos ⟨by omega, w.2⟩]
            · rw [if_neg w, if_neg (fun v => w ⟨by omega, v.2⟩)]
        rw [bx_uu]
        show X σ (va_up α 25 (upd (qSf F i) i 1015824)) (nI (i + 1))
        rw [ee]
        exact nx
  have t := key 64 0 (by omega)
  have e0 : qSf F 0 = F := by
    funext q
    exact if_neg (fun z => absurd z.1 (Nat.not_lt_zero q))
  rw [e0] at t
  exact t
end PS
