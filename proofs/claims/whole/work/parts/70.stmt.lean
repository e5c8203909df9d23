-- pure rows: each operation
def qKd (es eg : Nat → Int32) (i : Nat) : Nat := if eg i = 1 then 3 else if es i = 0 ∧ eg i = 0 then (if es (i - 1) = 0 ∧ eg (i - 1) = 0 then 2 else 1) else 0
def qBb (es eg : Nat → Int32) (i : Nat) : Nat := (es i).toNatClampNeg + 16 * (eg i).toNatClampNeg
theorem qKd_0 {es eg : Nat → Int32} {i s g : Nat} (h1 : es i = nI s) (h2 : eg i = nI g) (hs : 0 < s) (hs2 : s < 16) (hg : g ≠ 1) (hg2 : g < 16) : qKd es eg i = 0 := by
  have a : ¬ eg i = 1 := fun z => hg ((nI_eq (b := 1) (by omega) (by decide)).mp (h2.symm.trans z))
  have b : ¬ (es i = 0 ∧ eg i = 0) := fun z => nI_ne0 hs (by omega) (h1.symm.trans z.1)
  unfold qKd
  rw [if_neg a, if_neg b]
theorem qKd_3 {es eg : Nat → Int32} {i : Nat} (h2 : eg i = 1) : qKd es eg i = 3 := by
  unfold qKd
  rw [if_pos h2]
theorem qKd_1 {es eg : Nat → Int32} {i : Nat} (h1 : es i = 0) (h2 : eg i = 0) (h3 : ¬ es (i - 1) = 0) : qKd es eg i = 1 := by
  unfold qKd
  rw [if_neg (by rw [h2]; decide), if_pos ⟨h1, h2⟩, if_neg (fun z => h3 z.1)]
theorem qKd_2 {es eg : Nat → Int32} {i : Nat} (h1 : es i = 0) (h2 : eg i = 0) (h3 : es (i - 1) = 0) (h4 : eg (i - 1) = 0) : qKd es eg i = 2 := by
  unfold qKd
  rw [if_neg (by rw [h2]; decide), if_pos ⟨h1, h2⟩, if_pos ⟨h3, h4⟩]
theorem qBb_e {es eg : Nat → Int32} {i s g : Nat} (h1 : es i = nI s) (h2 : eg i = nI g) (hs2 : s < 16) (hg2 : g < 16) : qBb es eg i = s + 16 * g := by
  unfold qBb
  rw [h1, h2, nI_clamp (by omega), nI_clamp (by omega)]
section PQ
variable {σ μ : Nat → Int32} {α β : Nat → Nat → Int32} {fr hb : Nat → Bool} {vp : Nat → Int32} {sp wt : Nat → Nat} {f : Nat} {es eg eo ew o a b cc : Nat → Int32}
/-- an order at the entry c, as the list has it -/
theorem OC.at {c s g : Nat} {x w : Int32} (hP : PR (qKd es eg) (qBb es eg) c fr hb vp f sp wt σ α β) (hW : rWf (qKd es eg) c) (hc : c < 60) (hat : qAt es eg eo ew c (nI s) (nI g) x w) (hx : ∃ v : Nat, v < 16 ∧ x = nI v) (hs : 0 < s) (hs2 : s < 16) (hg : g ≠ 1) (hg2 : g < 16) (b11 : β 11 = es) (b13 : β 13 = eo) (h24 : ¬ μ 24 ≤ nI c) : OC (qKd es eg) (qBb es eg) μ c (c + 1) f sp wt σ α β (wp_Pl_placeOrder σ α (nI s) (nI g) x) (fun sp' α' => qFs fr 32 f = some (sp' c) ∧ α' 29 = α 29) := by
  obtain ⟨v, hv, rfl⟩ := hx
  exact OC.ord hP hW (by omega) (qKd_0 hat.1 hat.2.1 hs hs2 hg hg2) (qBb_e hat.1 hat.2.1 hs2 hg2) hs2 hg2 hv hs (by rw [b11]; exact hat.1) (by rw [b13]; exact hat.2.2.1) h24
theorem OC.stopAt {c : Nat} {w : Int32} (hP : PR (qKd es eg) (qBb es eg) c fr hb vp f sp wt σ α β) (hW : rWf (qKd es eg) c) (hc : c < 60) (hat : qAt es eg eo ew c 0 1 (-1) w) (b11 : β 11 = es) (b12 : β 12 = eg) (b13 : β 13 = eo) (h24 : ¬ μ 24 ≤ nI c) : OC (qKd es eg) (qBb es eg) μ c (c + 1) f sp wt σ α β (wp_Pl_placeStop σ α) (fun sp' α' => qFs fr 32 f = some (sp' c) ∧ α' 29 = α 29) :=
  OC.stop hP hW (by omega) (qKd_3 hat.2.1) (qBb_e (s := 0) (g := 1) hat.1 hat.2.1 (by decide) (by decide)) (by rw [b11]; exact hat.1) (by rw [b12]; exact hat.2.1) (by rw [b13]; exact hat.2.2.1) h24

theorem c_stmt {j tot : Nat} (hj : j < 12) (hP : PR (qKd es eg) (qBb es eg) (qOff o j) fr hb vp f sp wt σ α β) (hW : rWf (qKd es eg) (qOff o j)) (b11 : β 11 = es) (b12 : β 12 = eg) (b13 : β 13 = eo) (e24 : μ 24 = nI tot) (htot : qOff o (j + 1) ≤ tot) (ht60 : tot < 60) (a13 : α 13 = o) (a14 : α 14 = a) (a15 : α 15 = b) (a16 : α 16 = cc) (hls : rLs o a b cc es eg eo ew j) (hval : (∃ k : Nat, k < 7 ∧ o j = nI k) ∧ (∃ k : Nat, k < 16 ∧ a j = nI k) ∧ (∃ k : Nat, k < 16 ∧ b j = nI k) ∧ (∃ k : Nat, k < 16 ∧ cc j = nI k)) :
    OC (qKd es eg) (qBb es eg) μ (qOff o j) (qOff o (j + 1)) f sp wt σ α β (wp_Pl_placeStatement σ α (nI j)) (fun sp' α' => qFs fr 32 f = some (sp' (qOff o j)) ∧ (o j = 4 → α' 29 = upd (α 29) j (nI (sp' (qOff o j + 2)))) ∧ (¬ o j = 4 → α' 29 = α 29)) := by
  obtain ⟨⟨k, hk, ek⟩, va, vb, vcc⟩ := hval
  have vj : vp_in (nI j) 12 := vp_in_nI hj (by decide)
  have cl : (nI j).toNatClampNeg = j := nI_clamp (by omega)
  have hlen : qOff o (j + 1) = qOff o j + qLn (o j) := rfl
  obtain ⟨i, hi⟩ : ∃ i, i = qOff o j := ⟨_, rfl⟩
  obtain ⟨l0, l1, l2, l3, l4, l5, l6⟩ := hls
  rw [← hi] at hP hW hlen l0 l1 l2 l3 l4 l5 l6 ⊢
  have lt : ∀ c, c < tot → ¬ μ 24 ≤ nI c := fun c hc => by rw [e24]; exact nI_ge hc (by omega)
  -- the statement's own switch
  have SW : ∀ post : gS → Prop, ((o j = 0 → wp_Pl_placeOrder σ α 2 6 (a j) (fun u65 => vp_in (nI j) 12 ∧ wp_Pl_placeOrder u65.1 u65.2 2 9 (u65.2 15 j) (fun u78 => wp_Pl_placeOrder u78.1 u78.2 6 2 (cc j) (fun u87 => post (u87.1, u87.2))))) ∧ (o j = 1 → wp_Pl_placeOrder σ α 2 6 (a j) (fun u98 => vp_in (nI j) 12 ∧ wp_Pl_placeOrder u98.1 u98.2 2 10 (u98.2 15 j) (fun u111 => wp_Pl_placeOrder u111.1 u111.2 6 2 (cc j) (fun u120 => post (u120.1, u120.2))))) ∧ (o j = 2 → wp_Pl_placeOrder σ α 2 6 (a j) (fun u131 => wp_Pl_placeOrder u131.1 u131.2 6 2 (cc j) (fun u140 => post (u140.1, u140.2)))) ∧ (o j = 3 → wp_Pl_placeOrder σ α 2 15 (a j) (fun u151 => post (u151.1, u151.2))) ∧ (o j = 4 → wp_Pl_placeOrder σ α 2 11 (a j) (fun u162 => wp_Pl_placeFork u162.1 u162.2 (nI j) (fun u167 => post (u167.1, u167.2)))) ∧ (o j = 5 → wp_Pl_placeOrder σ α 13 2 (cc j) (fun u179 => post (u179.1, u179.2))) ∧ ((o j).toInt < 0 ∨ 5 < (o j).toInt → wp_Pl_placeStop σ α (fun u186 => post (u186.1, u186.2)))) → wp_Pl_placeStatement σ α (nI j) post := by
    intro post hp
    unfold wp_Pl_placeStatement wp_Pl_placeStatement_J189
    rw [cl, a13, a14, a16]
    exact ⟨vj, vj, vj, hp⟩
  have no : ∀ (x y : Int32) (P : Prop), o j = x → ¬ x = y → o j = y → P := fun x y P h1 h2 h3 => absurd (h1.symm.trans h3) h2
  rcases (show k = 0 ∨ k = 1 ∨ k = 2 ∨ k = 3 ∨ k = 4 ∨ k = 5 ∨ k = 6 by omega) with rfl | rfl | rfl | rfl | rfl | rfl | rfl
  · have e : o j = 0 := ek
    rw [e, show qLn 0 = 3 by decide] at hlen
    have n4 : ¬ o j = 4 := by rw [e]; decide
    rw [hlen] at htot ⊢
    obtain ⟨q1, q2, q3⟩ := l0 e
    refine OC.to (K := fun post => wp_Pl_placeOrder σ α 2 6 (a j) (fun u => vp_in (nI j) 12 ∧ wp_Pl_placeOrder u.1 u.2 2 9 (u.2 15 j) (fun u2 => wp_Pl_placeOrder u2.1 u2.2 6 2 (cc j) post))) ?_ (fun post hp => SW post ⟨fun _ => hp, no 0 1 _ e (by decide), no 0 2 _ e (by decide), no 0 3 _ e (by decide), no 0 4 _ e (by decide), no 0 5 _ e (by decide), fun z => absurd z (by rw [e]; decide)⟩)
    refine OC.seq (c1 := i + 1) (K1 := wp_Pl_placeOrder σ α 2 6 (a j)) (K2 := fun σ1 α1 post => vp_in (nI j) 12 ∧ wp_Pl_placeOrder σ1 α1 2 9 (α1 15 j) (fun u2 => wp_Pl_placeOrder u2.1 u2.2 6 2 (cc j) post)) (by omega) (OC.at (s := 2) (g := 6) hP hW (by omega) q1 va (by decide) (by decide) (by decide) (by decide) b11 b13 (lt i (by omega))) (fun σ1 α1 post d _ hp => ⟨vj, x_deadOrder d (x_deadOrder d hp)⟩) ?_
    intro fr1 hb1 vp1 f1 sp1 wt1 σ1 α1 β1 P1 W1 X1 M1 E1
    have x15 : α1 15 j = b j := by rw [X1.2.1 15 (by decide), a15]
    refine OC.to (K := fun post => wp_Pl_placeOrder σ1 α1 2 9 (b j) (fun u2 => wp_Pl_placeOrder u2.1 u2.2 6 2 (cc j) post)) ?_ (fun post hp => ⟨vj, by rw [x15]; exact hp⟩)
    refine OC.seq (c1 := i + 2) (K1 := wp_Pl_placeOrder σ1 α1 2 9 (b j)) (K2 := fun σ2 α2 => wp_Pl_placeOrder σ2 α2 6 2 (cc j)) (by omega) (OC.weak (E' := fun sp' α' => (True ∧ sp' i = sp1 i) ∧ α' 29 = α1 29) (OC.at (s := 2) (g := 9) P1 W1 (by omega) q2 vb (by decide) (by decide) (by decide) (by decide) ((M1 11 (by decide)).trans b11) ((M1 13 (by decide)).trans b13) (lt (i + 1) (by omega))) (fun sp' α' h0 h => ⟨⟨trivial, h0 i (by omega)⟩, h.2⟩)) (fun σ2 α2 post d _ hp => x_deadOrder d hp) ?_
    intro fr2 hb2 vp2 f2 sp2 wt2 σ2 α2 β2 P2 W2 X2 M2 E2
    have s2 : sp2 i = sp1 i := E2.1.2
    refine OC.weak (OC.at (s := 6) (g := 2) P2 W2 (by omega) q3 vcc (by decide) (by decide) (by decide) (by decide) ((M2 11 (by decide)).trans ((M1 11 (by decide)).trans b11)) ((M2 13 (by decide)).trans ((M1 13 (by decide)).trans b13)) (lt (i + 2) (by omega))) (fun sp3 α3 h0 h => ⟨by rw [h0 i (by omega), s2]; exact E1.1, fun z => absurd z n4, fun _ => h.2.trans (E2.2.trans E1.2)⟩)
  · have e : o j = 1 := ek
    rw [e, show qLn 1 = 3 by decide] at hlen
    have n4 : ¬ o j = 4 := by rw [e]; decide
    rw [hlen] at htot ⊢
    obtain ⟨q1, q2, q3⟩ := l1 e
    refine OC.to (K := fun post => wp_Pl_placeOrder σ α 2 6 (a j) (fun u => vp_in (nI j) 12 ∧ wp_Pl_placeOrder u.1 u.2 2 10 (u.2 15 j) (fun u2 => wp_Pl_placeOrder u2.1 u2.2 6 2 (cc j) post))) ?_ (fun post hp => SW post ⟨no 1 0 _ e (by decide), fun _ => hp, no 1 2 _ e (by decide), no 1 3 _ e (by decide), no 1 4 _ e (by decide), no 1 5 _ e (by decide), fun z => absurd z (by rw [e]; decide)⟩)
    refine OC.seq (c1 := i + 1) (K1 := wp_Pl_placeOrder σ α 2 6 (a j)) (K2 := fun σ1 α1 post => vp_in (nI j) 12 ∧ wp_Pl_placeOrder σ1 α1 2 10 (α1 15 j) (fun u2 => wp_Pl_placeOrder u2.1 u2.2 6 2 (cc j) post)) (by omega) (OC.at (s := 2) (g := 6) hP hW (by omega) q1 va (by decide) (by decide) (by decide) (by decide) b11 b13 (lt i (by omega))) (fun σ1 α1 post d _ hp => ⟨vj, x_deadOrder d (x_deadOrder d hp)⟩) ?_
    intro fr1 hb1 vp1 f1 sp1 wt1 σ1 α1 β1 P1 W1 X1 M1 E1
    have x15 : α1 15 j = b j := by rw [X1.2.1 15 (by decide), a15]
    refine OC.to (K := fun post => wp_Pl_placeOrder σ1 α1 2 10 (b j) (fun u2 => wp_Pl_placeOrder u2.1 u2.2 6 2 (cc j) post)) ?_ (fun post hp => ⟨vj, by rw [x15]; exact hp⟩)
    refine OC.seq (c1 := i + 2) (K1 := wp_Pl_placeOrder σ1 α1 2 10 (b j)) (K2 := fun σ2 α2 => wp_Pl_placeOrder σ2 α2 6 2 (cc j)) (by omega) (OC.weak (E' := fun sp' α' => (True ∧ sp' i = sp1 i) ∧ α' 29 = α1 29) (OC.at (s := 2) (g := 10) P1 W1 (by omega) q2 vb (by decide) (by decide) (by decide) (by decide) ((M1 11 (by decide)).trans b11) ((M1 13 (by decide)).trans b13) (lt (i + 1) (by omega))) (fun sp' α' h0 h => ⟨⟨trivial, h0 i (by omega)⟩, h.2⟩)) (fun σ2 α2 post d _ hp => x_deadOrder d hp) ?_
    intro fr2 hb2 vp2 f2 sp2 wt2 σ2 α2 β2 P2 W2 X2 M2 E2
    have s2 : sp2 i = sp1 i := E2.1.2
    refine OC.weak (OC.at (s := 6) (g := 2) P2 W2 (by omega) q3 vcc (by decide) (by decide) (by decide) (by decide) ((M2 11 (by decide)).trans ((M1 11 (by decide)).trans b11)) ((M2 13 (by decide)).trans ((M1 13 (by decide)).trans b13)) (lt (i + 2) (by omega))) (fun sp3 α3 h0 h => ⟨by rw [h0 i (by omega), s2]; exact E1.1, fun z => absurd z n4, fun _ => h.2.trans (E2.2.trans E1.2)⟩)
  · have e : o j = 2 := ek
    rw [e, show qLn 2 = 2 by decide] at hlen
    have n4 : ¬ o j = 4 := by rw [e]; decide
    rw [hlen] at htot ⊢
    obtain ⟨q1, q2⟩ := l2 e
    refine OC.to (K := fun post => wp_Pl_placeOrder σ α 2 6 (a j) (fun u => wp_Pl_placeOrder u.1 u.2 6 2 (cc j) post)) ?_ (fun post hp => SW post ⟨no 2 0 _ e (by decide), no 2 1 _ e (by decide), fun _ => hp, no 2 3 _ e (by decide), no 2 4 _ e (by decide), no 2 5 _ e (by decide), fun z => absurd z (by rw [e]; decide)⟩)
    refine OC.seq (c1 := i + 1) (K1 := wp_Pl_placeOrder σ α 2 6 (a j)) (K2 := fun σ1 α1 => wp_Pl_placeOrder σ1 α1 6 2 (cc j)) (by omega) (OC.at (s := 2) (g := 6) hP hW (by omega) q1 va (by decide) (by decide) (by decide) (by decide) b11 b13 (lt i (by omega))) (fun σ1 α1 post d _ hp => x_deadOrder d hp) ?_
    intro fr1 hb1 vp1 f1 sp1 wt1 σ1 α1 β1 P1 W1 X1 M1 E1
    refine OC.weak (OC.at (s := 6) (g := 2) P1 W1 (by omega) q2 vcc (by decide) (by decide) (by decide) (by decide) ((M1 11 (by decide)).trans b11) ((M1 13 (by decide)).trans b13) (lt (i + 1) (by omega))) (fun sp2 α2 h0 h => ⟨by rw [h0 i (by omega)]; exact E1.1, fun z => absurd z n4, fun _ => h.2.trans E1.2⟩)
  · have e : o j = 3 := ek
    rw [e, show qLn 3 = 1 by decide] at hlen
    have n4 : ¬ o j = 4 := by rw [e]; decide
    rw [hlen] at htot ⊢
    refine OC.to (K := wp_Pl_placeOrder σ α 2 15 (a j)) ?_ (fun post hp => SW post ⟨no 3 0 _ e (by decide), no 3 1 _ e (by decide), no 3 2 _ e (by decide), fun _ => hp, no 3 4 _ e (by decide), no 3 5 _ e (by decide), fun z => absurd z (by rw [e]; decide)⟩)
    refine OC.weak (OC.at (s := 2) (g := 15) hP hW (by omega) (l3 e) va (by decide) (by decide) (by decide) (by decide) b11 b13 (lt i (by omega))) (fun sp1 α1 _ h => ⟨h.1, fun z => absurd z n4, fun _ => h.2⟩)
  · have e : o j = 4 := ek
    rw [e, show qLn 4 = 3 by decide] at hlen
    have n4 : o j = 4 := e
    rw [hlen] at htot ⊢
    obtain ⟨q1, q2, q3⟩ := l4 e
    refine OC.to (K := fun post => wp_Pl_placeOrder σ α 2 11 (a j) (fun u => wp_Pl_placeFork u.1 u.2 (nI j) post)) ?_ (fun post hp => SW post ⟨no 4 0 _ e (by decide), no 4 1 _ e (by decide), no 4 2 _ e (by decide), no 4 3 _ e (by decide), fun _ => hp, no 4 5 _ e (by decide), fun z => absurd z (by rw [e]; decide)⟩)
    refine OC.seq (c1 := i + 1) (K1 := wp_Pl_placeOrder σ α 2 11 (a j)) (K2 := fun σ1 α1 => wp_Pl_placeFork σ1 α1 (nI j)) (by omega) (OC.at (s := 2) (g := 11) hP hW (by omega) q1 va (by decide) (by decide) (by decide) (by decide) b11 b13 (lt i (by omega))) (fun σ1 α1 post d _ hp => x_deadForkP d hp) ?_
    intro fr1 hb1 vp1 f1 sp1 wt1 σ1 α1 β1 P1 W1 X1 M1 E1
    have k1 : qKd es eg (i + 1) = 1 := qKd_1 q2.1 q2.2.1 (by rw [show i + 1 - 1 = i by omega, q1.1]; decide)
    have k2 : qKd es eg (i + 1 + 1) = 2 := qKd_2 q3.1 q3.2.1 q2.1 q2.2.1
    refine OC.weak (OC.fork (j := j) P1 W1 (by omega) hj k1 k2 (qBb_e (s := 0) (g := 0) q2.1 q2.2.1 (by decide) (by decide)) (qBb_e (s := 0) (g := 0) q3.1 q3.2.1 (by decide) (by decide)) (by rw [M1 11 (by decide), b11]; exact q2.1) (by rw [M1 12 (by decide), b12]; exact q2.2.1) (lt (i + 1) (by omega))) (fun sp2 α2 h0 h => ⟨by rw [h0 i (by omega)]; exact E1.1, fun _ => by rw [h, E1.2], fun z => absurd n4 z⟩)
  · have e : o j = 5 := ek
    rw [e, show qLn 5 = 1 by decide] at hlen
    have n4 : ¬ o j = 4 := by rw [e]; decide
    rw [hlen] at htot ⊢
    refine OC.to (K := wp_Pl_placeOrder σ α 13 2 (cc j)) ?_ (fun post hp => SW post ⟨no 5 0 _ e (by decide), no 5 1 _ e (by decide), no 5 2 _ e (by decide), no 5 3 _ e (by decide), no 5 4 _ e (by decide), fun _ => hp, fun z => absurd z (by rw [e]; decide)⟩)
    refine OC.weak (OC.at (s := 13) (g := 2) hP hW (by omega) (l5 e) vcc (by decide) (by decide) (by decide) (by decide) b11 b13 (lt i (by omega))) (fun sp1 α1 _ h => ⟨h.1, fun z => absurd z n4, fun _ => h.2⟩)
  · have e : o j = 6 := ek
    rw [e, show qLn 6 = 1 by decide] at hlen
    have n4 : ¬ o j = 4 := by rw [e]; decide
    rw [hlen] at htot ⊢
    refine OC.to (K := wp_Pl_placeStop σ α) ?_ (fun post hp => SW post ⟨no 6 0 _ e (by decide), no 6 1 _ e (by decide), no 6 2 _ e (by decide), no 6 3 _ e (by decide), no 6 4 _ e (by decide), no 6 5 _ e (by decide), fun _ => hp⟩)
    refine OC.weak (OC.stopAt hP hW (by omega) (l6 e) b11 b12 b13 (lt i (by omega))) (fun sp1 α1 _ h => ⟨h.1, fun z => absurd z n4, fun _ => h.2⟩)
end PQ
