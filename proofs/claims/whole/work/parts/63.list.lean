-- pure rows: the list of orders that the second side makes
def qLn (x : Int32) : Nat := if x = 0 ∨ x = 1 ∨ x = 4 then 3 else if x = 2 then 2 else 1
def qOff (o : Nat → Int32) : Nat → Nat
  | 0 => 0
  | j + 1 => qOff o j + qLn (o j)
theorem qLn_in (x : Int32) : 1 ≤ qLn x ∧ qLn x ≤ 3 := by
  unfold qLn
  split
  · omega
  · split <;> omega
theorem qOff_le (o : Nat → Int32) : ∀ j, qOff o j ≤ 3 * j ∧ j ≤ qOff o j := by
  intro j
  induction j with
  | zero => exact ⟨Nat.le_refl 0, Nat.le_refl 0⟩
  | succ j ih =>
    have := qLn_in (o j)
    unfold qOff
    omega
theorem qOff_mono (o : Nat → Int32) {i j : Nat} (h : i ≤ j) : qOff o i ≤ qOff o j := by
  induction h with
  | refl => exact Nat.le_refl _
  | step h ih =>
    refine Nat.le_trans ih ?_
    show _ ≤ qOff o _ + _
    exact Nat.le_add_right _ _
def qAt (es eg eo ew : Nat → Int32) (i : Nat) (s g v w : Int32) : Prop := es i = s ∧ eg i = g ∧ eo i = v ∧ ew i = w
def rLs (o a b c es eg eo ew : Nat → Int32) (j : Nat) : Prop :=
  (o j = 0 → qAt es eg eo ew (qOff o j) 2 6 (a j) (nI j) ∧ qAt es eg eo ew (qOff o j + 1) 2 9 (b j) (nI j) ∧ qAt es eg eo ew (qOff o j + 2) 6 2 (c j) (nI j)) ∧
  (o j = 1 → qAt es eg eo ew (qOff o j) 2 6 (a j) (nI j) ∧ qAt es eg eo ew (qOff o j + 1) 2 10 (b j) (nI j) ∧ qAt es eg eo ew (qOff o j + 2) 6 2 (c j) (nI j)) ∧
  (o j = 2 → qAt es eg eo ew (qOff o j) 2 6 (a j) (nI j) ∧ qAt es eg eo ew (qOff o j + 1) 6 2 (c j) (nI j)) ∧
  (o j = 3 → qAt es eg eo ew (qOff o j) 2 15 (a j) (nI j)) ∧
  (o j = 4 → qAt es eg eo ew (qOff o j) 2 11 (a j) (nI j) ∧ qAt es eg eo ew (qOff o j + 1) 0 0 (-1) (nI j) ∧ qAt es eg eo ew (qOff o j + 2) 0 0 (-1) (nI j)) ∧
  (o j = 5 → qAt es eg eo ew (qOff o j) 13 2 (c j) (nI j)) ∧
  (o j = 6 → qAt es eg eo ew (qOff o j) 0 1 (-1) (nI j))
def qB (β : Nat → Nat → Int32) (es eg eo ew : Nat → Int32) : Nat → Nat → Int32 := va_up (va_up (va_up (va_up β 11 es) 12 eg) 13 eo) 14 ew
theorem qB_up (β : Nat → Nat → Int32) (es eg eo ew es' eg' eo' ew' : Nat → Int32) : va_up (va_up (va_up (va_up (qB β es eg eo ew) 11 es') 12 eg') 13 eo') 14 ew' = qB β es' eg' eo' ew' := by
  funext k
  simp only [qB, va_up]
  repeat' split
  all_goals first | rfl | omega
theorem qB_id (β : Nat → Nat → Int32) : qB β (β 11) (β 12) (β 13) (β 14) = β := by
  funext k
  simp only [qB, va_up]
  repeat' split
  all_goals first | rfl | (rename_i h; rw [h])
theorem qAt_up {es eg eo ew : Nat → Int32} {i k : Nat} {s g v w s' g' v' w' : Int32} (h : qAt es eg eo ew i s g v w) (hi : i ≠ k) : qAt (upd es k s') (upd eg k g') (upd eo k v') (upd ew k w') i s g v w := by
  obtain ⟨h1, h2, h3, h4⟩ := h
  exact ⟨by rw [pk_un hi]; exact h1, by rw [pk_un hi]; exact h2, by rw [pk_un hi]; exact h3, by rw [pk_un hi]; exact h4⟩
theorem qAt_new (es eg eo ew : Nat → Int32) (k : Nat) (s g v w : Int32) : qAt (upd es k s) (upd eg k g) (upd eo k v) (upd ew k w) k s g v w := ⟨pk_us, pk_us, pk_us, pk_us⟩
section PJ
variable {μ : Nat → Int32} {β : Nat → Nat → Int32}
theorem m_list {post : gS → Prop} {es eg eo ew : Nat → Int32} {i : Nat} {s g v w : Int32} (hi : i < 64) (hp : post (va_up μ 24 (nI (i + 1)), qB β (upd es i s) (upd eg i g) (upd eo i v) (upd ew i w))) : wp_Md_list (va_up μ 24 (nI i)) (qB β es eg eo ew) s g v w post := by
  unfold wp_Md_list
  have vi : vp_in (nI i) 64 := vp_in_nI hi (by decide)
  refine ⟨vi, vi, vi, vi, ?_⟩
  show post (va_up (va_up μ 24 (nI i)) 24 (nI i + 1), va_up (va_up (va_up (va_up (qB β es eg eo ew) 11 (upd es (nI i).toNatClampNeg s)) 12 (upd eg (nI i).toNatClampNeg g)) 13 (upd eo (nI i).toNatClampNeg v)) 14 (upd ew (nI i).toNatClampNeg w))
  rw [bx_uu, nI_1, nI_clamp (by omega), qB_up]
  exact hp
/-- what stays when entries come behind -/
def qKeep (k : Nat) (es eg eo ew es' eg' eo' ew' : Nat → Int32) : Prop := ∀ i, i < k → ∀ s g v w, qAt es eg eo ew i s g v w → qAt es' eg' eo' ew' i s g v w
theorem rLs_keep {o a b c es eg eo ew es' eg' eo' ew' : Nat → Int32} {j k : Nat} (hk : qOff o (j + 1) ≤ k) (hq : qKeep k es eg eo ew es' eg' eo' ew') (h : rLs o a b c es eg eo ew j) : rLs o a b c es' eg' eo' ew' j := by
  have hl : ∀ x : Int32, o j = x → qOff o j + qLn x ≤ k := fun x e => by rw [← e]; exact hk
  obtain ⟨h0, h1, h2, h3, h4, h5, h6⟩ := h
  refine ⟨fun e => ?_, fun e => ?_, fun e => ?_, fun e => ?_, fun e => ?_, fun e => ?_, fun e => ?_⟩
  · have l := hl _ e
    rw [show qLn 0 = 3 by decide] at l
    obtain ⟨x, y, z⟩ := h0 e
    exact ⟨hq _ (by omega) _ _ _ _ x, hq _ (by omega) _ _ _ _ y, hq _ (by omega) _ _ _ _ z⟩
  · have l := hl _ e
    rw [show qLn 1 = 3 by decide] at l
    obtain ⟨x, y, z⟩ := h1 e
    exact ⟨hq _ (by omega) _ _ _ _ x, hq _ (by omega) _ _ _ _ y, hq _ (by omega) _ _ _ _ z⟩
  · have l := hl _ e
    rw [show qLn 2 = 2 by decide] at l
    obtain ⟨x, y⟩ := h2 e
    exact ⟨hq _ (by omega) _ _ _ _ x, hq _ (by omega) _ _ _ _ y⟩
  · have l := hl _ e
    rw [show qLn 3 = 1 by decide] at l
    exact hq _ (by omega) _ _ _ _ (h3 e)
  · have l := hl _ e
    rw [show qLn 4 = 3 by decide] at l
    obtain ⟨x, y, z⟩ := h4 e
    exact ⟨hq _ (by omega) _ _ _ _ x, hq _ (by omega) _ _ _ _ y, hq _ (by omega) _ _ _ _ z⟩
  · have l := hl _ e
    rw [show qLn 5 = 1 by decide] at l
    exact hq _ (by omega) _ _ _ _ (h5 e)
  · have l := hl _ e
    rw [show qLn 6 = 1 by decide] at l
    exact hq _ (by omega) _ _ _ _ (h6 e)
/-- one statement is listed -/
theorem m_listEx {s j : Nat} {es eg eo ew : Nat → Int32} (hs : s ≤ 12) (hj : j < s) (e23 : μ 23 = nI s) (hop : ∃ k : Nat, k < 7 ∧ β 6 j = nI k) : ∃ es1 eg1 eo1 ew1 : Nat → Int32, qKeep (qOff (β 6) j) es eg eo ew es1 eg1 eo1 ew1 ∧ rLs (β 6) (β 7) (β 8) (β 9) es1 eg1 eo1 ew1 j ∧ ∀ (XL : (Nat → Int32) → (Nat → Nat → Int32) → Int32 → Prop) (post : gS → Prop), XL (va_up μ 24 (nI (qOff (β 6) (j + 1)))) (qB β es1 eg1 eo1 ew1) (nI (j + 1)) → wp_Md_listAll_B7 XL (va_up μ 24 (nI (qOff (β 6) j))) (qB β es eg eo ew) (nI j) post := by
  obtain ⟨k, hk, ek⟩ := hop
  have ho := (qOff_le (β 6) j).1
  have vj : vp_in (nI j) 12 := vp_in_nI (by omega) (by decide)
  have hlen : qOff (β 6) (j + 1) = qOff (β 6) j + qLn (β 6 j) := rfl
  obtain ⟨i, hi⟩ : ∃ i, i = qOff (β 6) j := ⟨_, rfl⟩
  rw [← hi] at ho hlen ⊢
  have i60 : i < 60 := by omega
  have cl : (nI j).toNatClampNeg = j := nI_clamp (by omega)
  have n7 : (nI j + Int32.ofInt 1 : Int32) = nI (j + 1) := by rw [io1, nI_1]
  have H : ∀ (XL : (Nat → Int32) → (Nat → Nat → Int32) → Int32 → Prop) (post : gS → Prop), ((β 6 j = 0 → wp_Md_listAll_J80 XL (va_up μ 24 (nI i)) (qB β es eg eo ew) (nI j) (β 7 j) (β 8 j) (β 9 j) post) ∧ (β 6 j = 1 → wp_Md_listAll_J80 XL (va_up μ 24 (nI i)) (qB β es eg eo ew) (nI j) (β 7 j) (β 8 j) (β 9 j) post) ∧ (β 6 j = 2 → wp_Md_list (va_up μ 24 (nI i)) (qB β es eg eo ew) 2 6 (β 7 j) (nI j) (fun u131 => wp_Md_list u131.1 u131.2 6 2 (β 9 j) (nI j) (fun u141 => wp_Md_listAll_J208 XL u141.1 u141.2 (nI j) post))) ∧ (β 6 j = 3 → wp_Md_list (va_up μ 24 (nI i)) (qB β es eg eo ew) 2 15 (β 7 j) (nI j) (fun u153 => wp_Md_listAll_J208 XL u153.1 u153.2 (nI j) post)) ∧ (β 6 j = 4 → wp_Md_list (va_up μ 24 (nI i)) (qB β es eg eo ew) 2 11 (β 7 j) (nI j) (fun u165 => wp_Md_list u165.1 u165.2 0 0 (-1) (nI j) (fun u173 => wp_Md_list u173.1 u173.2 0 0 (-1) (nI j) (fun u181 => wp_Md_listAll_J208 XL u181.1 u181.2 (nI j) post)))) ∧ (β 6 j = 5 → wp_Md_list (va_up μ 24 (nI i)) (qB β es eg eo ew) 13 2 (β 9 j) (nI j) (fun u194 => wp_Md_listAll_J208 XL u194.1 u194.2 (nI j) post)) ∧ ((β 6 j).toInt < 0 ∨ 5 < (β 6 j).toInt → wp_Md_list (va_up μ 24 (nI i)) (qB β es eg eo ew) 0 1 (-1) (nI j) (fun u205 => wp_Md_listAll_J208 XL u205.1 u205.2 (nI j) post))) → wp_Md_listAll_B7 XL (va_up μ 24 (nI i)) (qB β es eg eo ew) (nI j) post := by
    intro XL post hp
    unfold wp_Md_listAll_B7
    rw [cl]
    refine br_f ?_ ⟨vj, vj, vj, vj, hp⟩
    show ¬ μ 23 ≤ nI j
    rw [e23]
    exact nI_ge hj (by omega)
  have no : ∀ (x y : Int32) (P : Prop), β 6 j = x → ¬ x = y → β 6 j = y → P := fun x y P h1 h2 h3 => absurd (h1.symm.trans h3) h2
  rcases (show k = 0 ∨ k = 1 ∨ k = 2 ∨ k = 3 ∨ k = 4 ∨ k = 5 ∨ k = 6 by omega) with rfl | rfl | rfl | rfl | rfl | rfl | rfl
  · have e : β 6 j = 0 := ek
    rw [e, show qLn 0 = 3 by decide] at hlen
    refine ⟨(upd (upd (upd es i 2) (i + 1) 2) (i + 2) 6), (upd (upd (upd eg i 6) (i + 1) 9) (i + 2) 2), (upd (upd (upd eo i (β 7 j)) (i + 1) (β 8 j)) (i + 2) (β 9 j)), (upd (upd (upd ew i (nI j)) (i + 1) (nI j)) (i + 2) (nI j)), fun a ha s g v w h => (qAt_up (qAt_up (qAt_up h (by omega)) (by omega)) (by omega)), ?_, ?_⟩
    · unfold rLs
      rw [← hi]
      exact ⟨fun _ => ⟨(qAt_up (qAt_up (qAt_new _ _ _ _ _ _ _ _ _) (by omega)) (by omega)), (qAt_up (qAt_new _ _ _ _ _ _ _ _ _) (by omega)), (qAt_new _ _ _ _ _ _ _ _ _)⟩, fun z => absurd (e.symm.trans z) (by decide), fun z => absurd (e.symm.trans z) (by decide), fun z => absurd (e.symm.trans z) (by decide), fun z => absurd (e.symm.trans z) (by decide), fun z => absurd (e.symm.trans z) (by decide), fun z => absurd (e.symm.trans z) (by decide)⟩
    · intro XL post K
      rw [hlen] at K
      refine H XL post ⟨fun _ => ?_, no 0 1 _ e (by decide), no 0 2 _ e (by decide), no 0 3 _ e (by decide), no 0 4 _ e (by decide), no 0 5 _ e (by decide), fun z => absurd z (by rw [e]; decide)⟩
      unfold wp_Md_listAll_J80
      refine m_list (i := i) (by omega) ?_
      refine ⟨vj, ?_⟩
      rw [cl]
      refine bs_t e ?_
      unfold wp_Md_listAll_J107
      refine m_list (i := i + 1) (by omega) ?_
      refine m_list (i := i + 2) (by omega) ?_
      unfold wp_Md_listAll_J208
      rw [n7]
      exact K
  · have e : β 6 j = 1 := ek
    rw [e, show qLn 1 = 3 by decide] at hlen
    refine ⟨(upd (upd (upd es i 2) (i + 1) 2) (i + 2) 6), (upd (upd (upd eg i 6) (i + 1) 10) (i + 2) 2), (upd (upd (upd eo i (β 7 j)) (i + 1) (β 8 j)) (i + 2) (β 9 j)), (upd (upd (upd ew i (nI j)) (i + 1) (nI j)) (i + 2) (nI j)), fun a ha s g v w h => (qAt_up (qAt_up (qAt_up h (by omega)) (by omega)) (by omega)), ?_, ?_⟩
    · unfold rLs
      rw [← hi]
      exact ⟨fun z => absurd (e.symm.trans z) (by decide), fun _ => ⟨(qAt_up (qAt_up (qAt_new _ _ _ _ _ _ _ _ _) (by omega)) (by omega)), (qAt_up (qAt_new _ _ _ _ _ _ _ _ _) (by omega)), (qAt_new _ _ _ _ _ _ _ _ _)⟩, fun z => absurd (e.symm.trans z) (by decide), fun z => absurd (e.symm.trans z) (by decide), fun z => absurd (e.symm.trans z) (by decide), fun z => absurd (e.symm.trans z) (by decide), fun z => absurd (e.symm.trans z) (by decide)⟩
    · intro XL post K
      rw [hlen] at K
      refine H XL post ⟨no 1 0 _ e (by decide), fun _ => ?_, no 1 2 _ e (by decide), no 1 3 _ e (by decide), no 1 4 _ e (by decide), no 1 5 _ e (by decide), fun z => absurd z (by rw [e]; decide)⟩
      unfold wp_Md_listAll_J80
      refine m_list (i := i) (by omega) ?_
      refine ⟨vj, ?_⟩
      rw [cl]
      refine bs_f (fun z => absurd (e.symm.trans z) (by decide)) ?_
      unfold wp_Md_listAll_J107
      refine m_list (i := i + 1) (by omega) ?_
      refine m_list (i := i + 2) (by omega) ?_
      unfold wp_Md_listAll_J208
      rw [n7]
      exact K
  · have e : β 6 j = 2 := ek
    rw [e, show qLn 2 = 2 by decide] at hlen
    refine ⟨(upd (upd es i 2) (i + 1) 6), (upd (upd eg i 6) (i + 1) 2), (upd (upd eo i (β 7 j)) (i + 1) (β 9 j)), (upd (upd ew i (nI j)) (i + 1) (nI j)), fun a ha s g v w h => (qAt_up (qAt_up h (by omega)) (by omega)), ?_, ?_⟩
    · unfold rLs
      rw [← hi]
      exact ⟨fun z => absurd (e.symm.trans z) (by decide), fun z => absurd (e.symm.trans z) (by decide), fun _ => ⟨(qAt_up (qAt_new _ _ _ _ _ _ _ _ _) (by omega)), (qAt_new _ _ _ _ _ _ _ _ _)⟩, fun z => absurd (e.symm.trans z) (by decide), fun z => absurd (e.symm.trans z) (by decide), fun z => absurd (e.symm.trans z) (by decide), fun z => absurd (e.symm.trans z) (by decide)⟩
    · intro XL post K
      rw [hlen] at K
      refine H XL post ⟨no 2 0 _ e (by decide), no 2 1 _ e (by decide), fun _ => ?_, no 2 3 _ e (by decide), no 2 4 _ e (by decide), no 2 5 _ e (by decide), fun z => absurd z (by rw [e]; decide)⟩
      refine m_list (i := i) (by omega) ?_
      refine m_list (i := i + 1) (by omega) ?_
      unfold wp_Md_listAll_J208
      rw [n7]
      exact K
  · have e : β 6 j = 3 := ek
    rw [e, show qLn 3 = 1 by decide] at hlen
    refine ⟨(upd es i 2), (upd eg i 15), (upd eo i (β 7 j)), (upd ew i (nI j)), fun a ha s g v w h => (qAt_up h (by omega)), ?_, ?_⟩
    · unfold rLs
      rw [← hi]
      exact ⟨fun z => absurd (e.symm.trans z) (by decide), fun z => absurd (e.symm.trans z) (by decide), fun z => absurd (e.symm.trans z) (by decide), fun _ => (qAt_new _ _ _ _ _ _ _ _ _), fun z => absurd (e.symm.trans z) (by decide), fun z => absurd (e.symm.trans z) (by decide), fun z => absurd (e.symm.trans z) (by decide)⟩
    · intro XL post K
      rw [hlen] at K
      refine H XL post ⟨no 3 0 _ e (by decide), no 3 1 _ e (by decide), no 3 2 _ e (by decide), fun _ => ?_, no 3 4 _ e (by decide), no 3 5 _ e (by decide), fun z => absurd z (by rw [e]; decide)⟩
      refine m_list (i := i) (by omega) ?_
      unfold wp_Md_listAll_J208
      rw [n7]
      exact K
  · have e : β 6 j = 4 := ek
    rw [e, show qLn 4 = 3 by decide] at hlen
    refine ⟨(upd (upd (upd es i 2) (i + 1) 0) (i + 2) 0), (upd (upd (upd eg i 11) (i + 1) 0) (i + 2) 0), (upd (upd (upd eo i (β 7 j)) (i + 1) (-1)) (i + 2) (-1)), (upd (upd (upd ew i (nI j)) (i + 1) (nI j)) (i + 2) (nI j)), fun a ha s g v w h => (qAt_up (qAt_up (qAt_up h (by omega)) (by omega)) (by omega)), ?_, ?_⟩
    · unfold rLs
      rw [← hi]
      exact ⟨fun z => absurd (e.symm.trans z) (by decide), fun z => absurd (e.symm.trans z) (by decide), fun z => absurd (e.symm.trans z) (by decide), fun z => absurd (e.symm.trans z) (by decide), fun _ => ⟨(qAt_up (qAt_up (qAt_new _ _ _ _ _ _ _ _ _) (by omega)) (by omega)), (qAt_up (qAt_new _ _ _ _ _ _ _ _ _) (by omega)), (qAt_new _ _ _ _ _ _ _ _ _)⟩, fun z => absurd (e.symm.trans z) (by decide), fun z => absurd (e.symm.trans z) (by decide)⟩
    · intro XL post K
      rw [hlen] at K
      refine H XL post ⟨no 4 0 _ e (by decide), no 4 1 _ e (by decide), no 4 2 _ e (by decide), no 4 3 _ e (by decide), fun _ => ?_, no 4 5 _ e (by decide), fun z => absurd z (by rw [e]; decide)⟩
      refine m_list (i := i) (by omega) ?_
      refine m_list (i := i + 1) (by omega) ?_
      refine m_list (i := i + 2) (by omega) ?_
      unfold wp_Md_listAll_J208
      rw [n7]
      exact K
  · have e : β 6 j = 5 := ek
    rw [e, show qLn 5 = 1 by decide] at hlen
    refine ⟨(upd es i 13), (upd eg i 2), (upd eo i (β 9 j)), (upd ew i (nI j)), fun a ha s g v w h => (qAt_up h (by omega)), ?_, ?_⟩
    · unfold rLs
      rw [← hi]
      exact ⟨fun z => absurd (e.symm.trans z) (by decide), fun z => absurd (e.symm.trans z) (by decide), fun z => absurd (e.symm.trans z) (by decide), fun z => absurd (e.symm.trans z) (by decide), fun z => absurd (e.symm.trans z) (by decide), fun _ => (qAt_new _ _ _ _ _ _ _ _ _), fun z => absurd (e.symm.trans z) (by decide)⟩
    · intro XL post K
      rw [hlen] at K
      refine H XL post ⟨no 5 0 _ e (by decide), no 5 1 _ e (by decide), no 5 2 _ e (by decide), no 5 3 _ e (by decide), no 5 4 _ e (by decide), fun _ => ?_, fun z => absurd z (by rw [e]; decide)⟩
      refine m_list (i := i) (by omega) ?_
      unfold wp_Md_listAll_J208
      rw [n7]
      exact K
  · have e : β 6 j = 6 := ek
    rw [e, show qLn 6 = 1 by decide] at hlen
    refine ⟨(upd es i 0), (upd eg i 1), (upd eo i (-1)), (upd ew i (nI j)), fun a ha s g v w h => (qAt_up h (by omega)), ?_, ?_⟩
    · unfold rLs
      rw [← hi]
      exact ⟨fun z => absurd (e.symm.trans z) (by decide), fun z => absurd (e.symm.trans z) (by decide), fun z => absurd (e.symm.trans z) (by decide), fun z => absurd (e.symm.trans z) (by decide), fun z => absurd (e.symm.trans z) (by decide), fun z => absurd (e.symm.trans z) (by decide), fun _ => (qAt_new _ _ _ _ _ _ _ _ _)⟩
    · intro XL post K
      rw [hlen] at K
      refine H XL post ⟨no 6 0 _ e (by decide), no 6 1 _ e (by decide), no 6 2 _ e (by decide), no 6 3 _ e (by decide), no 6 4 _ e (by decide), no 6 5 _ e (by decide), fun _ => ?_⟩
      refine m_list (i := i) (by omega) ?_
      unfold wp_Md_listAll_J208
      rw [n7]
      exact K
theorem m_listAll {s : Nat} (hs0 : 0 < s) (hs : s ≤ 12) (e23 : μ 23 = nI s) (hop : ∀ j, j < s → ∃ k : Nat, k < 7 ∧ β 6 j = nI k) : ∃ (tot : Nat) (es eg eo ew : Nat → Int32), (∀ post, post (va_up μ 24 (nI tot), qB β es eg eo ew) → wp_Md_listAll μ β post) ∧ (∀ j, j < s → rLs (β 6) (β 7) (β 8) (β 9) es eg eo ew j) ∧ ((β 6 (s - 1) = 6 ∧ tot = qOff (β 6) s) ∨ (¬ β 6 (s - 1) = 6 ∧ tot = qOff (β 6) s + 1 ∧ qAt es eg eo ew (qOff (β 6) s) 0 1 (-1) (-1))) := by
  have key : ∀ (m j : Nat) (es eg eo ew : Nat → Int32), j + m = s → (∀ j', j' < j → rLs (β 6) (β 7) (β 8) (β 9) es eg eo ew j') → ∃ (tot : Nat) (es' eg' eo' ew' : Nat → Int32), (∀ post, post (va_up μ 24 (nI tot), qB β es' eg' eo' ew') → wp_Md_listAll_L7 (va_up μ 24 (nI (qOff (β 6) j))) (qB β es eg eo ew) (nI j) post) ∧ (∀ j, j < s → rLs (β 6) (β 7) (β 8) (β 9) es' eg' eo' ew' j) ∧ ((β 6 (s - 1) = 6 ∧ tot = qOff (β 6) s) ∨ (¬ β 6 (s - 1) = 6 ∧ tot = qOff (β 6) s + 1 ∧ qAt es' eg' eo' ew' (qOff (β 6) s) 0 1 (-1) (-1))) := by
    intro m
    induction m with
    | zero =>
      intro j es eg eo ew hjs hls
      have hj : j = s := by omega
      subst hj
      have ho := (qOff_le (β 6) j).1
      have ep : nI j - 1 = nI (j - 1) := pk_sub (b := 1) hs0
      have B : ∀ (XL : (Nat → Int32) → (Nat → Nat → Int32) → Int32 → Prop) (post : gS → Prop), (β 6 (j - 1) = 6 → post (va_up μ 24 (nI (qOff (β 6) j)), qB β es eg eo ew)) → (¬ β 6 (j - 1) = 6 → wp_Md_list (va_up μ 24 (nI (qOff (β 6) j))) (qB β es eg eo ew) 0 1 (-1) (-1) (fun u235 => post (u235.1, u235.2))) → wp_Md_listAll_B7 XL (va_up μ 24 (nI (qOff (β 6) j))) (qB β es eg eo ew) (nI j) post := by
        intro XL post p1 p2
        unfold wp_Md_listAll_B7 wp_Md_listAll_J238
        refine br_t ?_ ?_
        · show μ 23 ≤ nI j
          rw [e23]
          exact nI_le (Nat.le_refl j) (by omega)
        · have e' : (va_up μ 24 (nI (qOff (β 6) j))) 23 - 1 = nI (j - 1) := by
            show μ 23 - 1 = _
            rw [e23, ep]
          rw [e', nI_clamp (by omega)]
          exact ⟨vp_in_nI (by omega) (by decide), p1, p2⟩
      by_cases z : β 6 (j - 1) = 6
      · refine ⟨qOff (β 6) j, es, eg, eo, ew, ?_, hls, Or.inl ⟨z, rfl⟩⟩
        intro post hp X hX
        exact hX _ _ _ (B X post (fun _ => hp) (fun y => absurd z y))
      · refine ⟨qOff (β 6) j + 1, upd es (qOff (β 6) j) 0, upd eg (qOff (β 6) j) 1, upd eo (qOff (β 6) j) (-1), upd ew (qOff (β 6) j) (-1), ?_, ?_, Or.inr ⟨z, rfl, qAt_new _ _ _ _ _ _ _ _ _⟩⟩
        · intro post hp X hX
          exact hX _ _ _ (B X post (fun y => absurd y z) (fun _ => m_list (by omega) hp))
        · intro j' hj'
          exact rLs_keep (qOff_mono (β 6) (show j' + 1 ≤ j by omega)) (fun a ha s g v w h => qAt_up h (by omega)) (hls j' hj')
    | succ m ih =>
      intro j es eg eo ew hjs hls
      -- the arrays behind this statement
      have ex : ∃ es1 eg1 eo1 ew1 : Nat → Int32, qKeep (qOff (β 6) j) es eg eo ew es1 eg1 eo1 ew1 ∧ rLs (β 6) (β 7) (β 8) (β 9) es1 eg1 eo1 ew1 j ∧ ∀ (XL : (Nat → Int32) → (Nat → Nat → Int32) → Int32 → Prop) (post : gS → Prop), XL (va_up μ 24 (nI (qOff (β 6) (j + 1)))) (qB β es1 eg1 eo1 ew1) (nI (j + 1)) → wp_Md_listAll_B7 XL (va_up μ 24 (nI (qOff (β 6) j))) (qB β es eg eo ew) (nI j) post := m_listEx hs (by omega) e23 (hop j (by omega))
      obtain ⟨es1, eg1, eo1, ew1, q1, q2, q3⟩ := ex
      obtain ⟨tot, es', eg', eo', ew', p1, p2, p3⟩ := ih (j + 1) es1 eg1 eo1 ew1 (by omega) (fun j' hj' => by
        by_cases z : j' = j
        · rw [z]; exact q2
        · exact rLs_keep (qOff_mono (β 6) (show j' + 1 ≤ j by omega)) q1 (hls j' (by omega)))
      refine ⟨tot, es', eg', eo', ew', ?_, p2, p3⟩
      intro post hp X hX
      exact hX _ _ _ (q3 X post (p1 post hp X hX))
  obtain ⟨tot, es, eg, eo, ew, p1, p2, p3⟩ := key s 0 (β 11) (β 12) (β 13) (β 14) (by omega) (fun j hj => absurd hj (Nat.not_lt_zero j))
  refine ⟨tot, es, eg, eo, ew, ?_, p2, p3⟩
  intro post hp
  have t := p1 post hp
  rw [qB_id] at t
  exact t
end PJ
