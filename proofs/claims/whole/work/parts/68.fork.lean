-- pure rows: a stop, a fork on both sides
theorem q_other : ∀ q, q < 64 → (nI q &&& 32) ||| ((nI q + 1) &&& 31) = nI (q / 32 * 32 + (q % 32 + 1) % 32) := by decide +kernel
section PO
variable {σ μ : Nat → Int32} {α β : Nat → Nat → Int32} {fr hb : Nat → Bool} {vp : Nat → Int32} {kd bb sp wt : Nat → Nat} {c f : Nat}
theorem c_stop (hP : PR kd bb c fr hb vp f sp wt σ α β) (hW : rWf kd c) (hc : c < 63) (hk : kd c = 3) (hbb : bb c = 16) (e11 : β 11 c = 0) (e12 : β 12 c = 1) (e13 : β 13 c = -1) (h24 : ¬ μ 24 ≤ nI c) :
    (qFs fr 32 f = none ∧ (∀ post : gS → Prop, post (va_up σ 36 0, α) → wp_Pl_placeStop σ α post) ∧ (∀ X post, post 0 (μ, β) → wp_Md_place_B67 X μ β (nI f) (nI c) post)) ∨
    ∃ (q : Nat) (fr' hb' : Nat → Bool) (vp' : Nat → Int32) (f' : Nat) (sp' wt' : Nat → Nat) (σ' : Nat → Int32) (α' β' : Nat → Nat → Int32), qFs fr 32 f = some q ∧ sp' c = q ∧ (∀ i, i < c → sp' i = sp i ∧ wt' i = wt i) ∧ (∀ post : gS → Prop, post (σ', α') → wp_Pl_placeStop σ α post) ∧ (∀ X post, X μ β' (nI f') (nI (c + 1)) → wp_Md_place_B67 X μ β (nI f) (nI c) post) ∧ PR kd bb (c + 1) fr' hb' vp' f' sp' wt' σ' α' β' ∧ FrX σ α σ' α' ∧ α' 29 = α 29 ∧ FrM β β' := by
  obtain ⟨⟨x36, x33, xf, x25, x26, x27⟩, ⟨m17, m18, m19⟩, hA, hC, h15⟩ := hP
  have x36' : ¬ σ 36 = 0 := by rw [x36]; decide
  have vc : vp_in (nI c) 64 := vp_in_nI (by omega) (by decide)
  have cl : (nI c).toNatClampNeg = c := nI_clamp (by omega)
  have REF : ∀ (X : (Nat → Int32) → (Nat → Nat → Int32) → Int32 → Int32 → Prop) (post : Int32 → gS → Prop), wp_Md_place_J111 X μ β (nI c) 0 (nI f) post → wp_Md_place_B67 X μ β (nI f) (nI c) post := by
    intro X post hp
    unfold wp_Md_place_B67 wp_Md_place_J97 wp_Md_place_J98
    rw [cl]
    exact br_f h24 ⟨vc, bs_t e11 ⟨vc, bs_f (by rw [e12]; decide) (br_t rfl hp)⟩⟩
  cases hq : qFs fr 32 f with
  | none =>
    left
    refine ⟨rfl, ?_, ?_⟩
    · intro post hp
      unfold wp_Pl_placeStop wp_Pl_placeStop_J30 wp_Pl_placeOrder wp_Pl_placeOrder_J18
      refine x_freeSpot x25 x33 xf ?_
      rw [hq]
      exact br_f x36' (br_f (by decide) (br_t rfl hp))
    · intro X post hp
      refine REF X post ?_
      unfold wp_Md_place_J111
      refine m_free m17 (by omega) ?_
      rw [hq]
      exact br_f (by decide) hp
  | some q =>
    right
    obtain ⟨hq64, hfq⟩ := qFs_lt _ _ _ hq
    obtain ⟨f', hfd⟩ : ∃ f', f' = (q + 2) % 32 := ⟨_, rfl⟩
    obtain ⟨F, o1, o2, o3, o4⟩ := x_occupy (σ := σ) (α := α) (w := 16) hC hW (by omega) hq64 hfq
    have hnf := hC.2.2.2.2.2
    have hne : ∀ i, i < c → sp i ≠ q := fun i hi z => by
      have := hnf i hi
      rw [z, hfq] at this
      exact absurd this (by decide)
    have hbd : bb c + 1024 * 0 < 32768 := by rw [hbb]; decide
    have o4' := o4 (va_up sp c q) (va_up wt c 0) (c + 1) (by omega) (fun i hi => ⟨va_up_ne sp q (by omega), va_up_ne wt 0 (by omega)⟩) (va_up_self sp c q)
    obtain ⟨t1, t2, t3, t4, t5⟩ := ct_one (F := upd F q 1015824) (W := 0) hC x25 hq64 hfq hbd (fun r hr h => by rw [pk_un hr]; exact o3 r hr h) (fun i hi => by rw [pk_un (hne i hi)]; exact o4' i hi) (by
      rw [pk_us]
      unfold qCw
      rw [if_pos hk])
    refine ⟨q, va_up fr q false, hb, vp, f', va_up sp c q, va_up wt c 0, va_up (va_up (va_up (va_up σ 34 (nI q)) 35 (nI (c + 1))) 33 (nI f')) 34 (-1), va_up (va_up α 25 F) 25 (upd F q 1015824), va_up (va_up (va_up β 15 (upd (β 15) c (nI q))) 16 (upd (β 16) c 0)) 17 (upd (β 17) q (vp_nar .boolean 1)), rfl, va_up_self sp c q, fun i hi => ⟨va_up_ne sp q (by omega), va_up_ne wt 0 (by omega)⟩, ?_, ?_, ?_, ?_, rfl, ?_⟩
    · intro post hp
      unfold wp_Pl_placeStop wp_Pl_placeStop_J30 wp_Pl_placeOrder wp_Pl_placeOrder_J18
      refine x_freeSpot x25 x33 xf ?_
      rw [hq]
      have ew : (nI q + 2) &&& 31 = nI ((q + 2) % 32) := q_pl q 2 (by omega)
      have ef : (nI ((q + 2) % 32) + 0) &&& 31 = nI f' := by
        have := q_pl ((q + 2) % 32) 0 (by omega)
        rw [hfd]
        rw [show ((q + 2) % 32 + 0) % 32 = (q + 2) % 32 by omega] at this
        exact this
      refine br_f x36' (br_t (nI_pos' (n := q) (by omega)) (bs_t rfl ?_))
      show wp_Pl_placeOrder_J55 σ α 0 1 (nI q) ((nI q + 2) &&& 31) 0 _
      unfold wp_Pl_placeOrder_J55
      rw [ew, show (((0 : Int32) ||| ((1 : Int32) <<< ((4 : Int32) &&& 31))) ||| ((0 : Int32) <<< ((10 : Int32) &&& 31))) = nI 16 by decide]
      refine o1 _ ?_
      rw [ef]
      refine br_f x36' ?_
      show vp_in (nI q) 64 ∧ post (va_up (va_up (va_up (va_up σ 34 (nI q)) 35 (nI (c + 1))) 33 (nI f')) 34 (-1), va_up (va_up α 25 F) 25 (upd F (nI q).toNatClampNeg 1015824))
      rw [nI_clamp (by omega)]
      exact ⟨vp_in_nI hq64 (by decide), hp⟩
    · intro X post hp
      refine REF X post ?_
      unfold wp_Md_place_J111 wp_Md_place_J240 wp_Md_place_J255
      refine m_free m17 (by omega) ?_
      rw [hq]
      have vq : vp_in (nI q) 64 := vp_in_nI hq64 (by decide)
      refine br_t (nI_pos' (n := q) (by omega)) ?_
      rw [cl]
      refine ⟨vq, vc, vc, br_t rfl ⟨vc, ?_⟩⟩
      show (β 13 c < 0 → _) ∧ (¬ β 13 c < 0 → _)
      refine br_t (by rw [e13]; decide) ⟨vc, ?_⟩
      have e2 : nI q + 2 = nI (q + 2) := nI_add q 2
      show X μ (va_up (va_up (va_up β 15 (upd (β 15) c (nI q))) 16 (upd (β 16) c 0)) 17 (upd (β 17) (nI q).toNatClampNeg (vp_nar .boolean 1))) (((nI q + 2) + upd (β 16) c 0 c) &&& 31) (nI c + Int32.ofInt 1)
      have ef : ((nI q + 2) + 0) &&& 31 = nI f' := by
        have := q_pl (q + 2) 0 (by omega)
        rw [hfd, e2]
        exact this
      rw [pk_us, ef, io1, nI_1, nI_clamp (by omega)]
      exact hp
    · refine ⟨⟨x36, rfl, by omega, t5, x26, x27⟩, ⟨?_, m18, m19⟩, hA, ⟨?_, rfl, t1, t2, t3, t4⟩, ?_⟩
      · intro r hr
        show upd (β 17) q (vp_nar .boolean 1) r = 0 ↔ _
        by_cases z : r = q
        · rw [z, pk_us, va_up_self, q_b1]
          constructor
          · intro y
            exact absurd y (by decide)
          · intro y
            cases y
        · rw [pk_un z, va_up_ne fr false z]
          exact m17 r hr
      · show -1 = qLd kd (va_up sp c q) (c + 1)
        unfold qLd
        rw [if_neg (by omega), show c + 1 - 1 = c by omega, if_pos hk]
      · intro i hi
        show upd (β 15) c (nI q) i = _ ∧ upd (β 16) c 0 i = _ ∧ (kd i = 2 → va_up wt c 0 i = 0)
        by_cases z : i = c
        · subst z
          rw [pk_us, pk_us, va_up_self, va_up_self]
          exact ⟨rfl, rfl, fun _ => rfl⟩
        · rw [pk_un z, pk_un z, va_up_ne sp q z, va_up_ne wt 0 z]
          exact h15 i (by omega)
    · refine ⟨fun i hi => ?_, fun k hk2 => ?_, rfl⟩
      · rw [va_up_ne _ _ (by omega), va_up_ne _ _ (by omega), va_up_ne _ _ (by omega), va_up_ne _ _ (by omega)]
      · rw [va_up_ne _ _ (by omega), va_up_ne _ _ (by omega)]
    · intro k hk2
      rw [va_up_ne _ _ (by omega), va_up_ne _ _ (by omega), va_up_ne _ _ (by omega)]
theorem ct_two {F : Nat → Int32} {q r0 : Nat} {sp' wt' : Nat → Nat} {fr' : Nat → Bool} (hC : rCt kd bb sp wt c fr σ α) (x25 : ∀ r, r < 64 → (α 25 r = -1 ↔ fr r = true)) (hq : q < 64) (hr0 : r0 < 64) (hqr : q ≠ r0) (hfq : fr q = true) (hfr : fr r0 = true) (es : sp' = va_up (va_up sp c q) (c + 1) r0) (ew : wt' = va_up (va_up wt c 0) (c + 1) 0) (ef : fr' = va_up (va_up fr q false) r0 false) (hbd : bb c < 32768 ∧ bb (c + 1) < 32768) (h3 : ∀ r, r ≠ q → r ≠ r0 → (∀ i, i < c → r ≠ sp i) → F r = α 25 r) (h4 : ∀ i, i < c → F (sp i) = qCw kd bb sp' wt' (c + 2) i) (hFq : F q = qCw kd bb sp' wt' (c + 2) c) (hFr : F r0 = qCw kd bb sp' wt' (c + 2) (c + 1)) :
    (∀ i, i < c + 2 → sp' i < 64 ∧ bb i + 1024 * wt' i < 32768 ∧ F (sp' i) = qCw kd bb sp' wt' (c + 2) i) ∧ (∀ i j, i < c + 2 → j < c + 2 → sp' i = sp' j → i = j) ∧ (∀ r, r < 64 → fr' r = false → ∃ i, i < c + 2 ∧ r = sp' i) ∧ (∀ i, i < c + 2 → fr' (sp' i) = false) ∧ (∀ r, r < 64 → (F r = -1 ↔ fr' r = true)) := by
  obtain ⟨-, -, hcon, hinj, hfree, hnf⟩ := hC
  have so : ∀ i, i < c → sp' i = sp i := fun i hi => by rw [es, va_up_ne _ _ (by omega), va_up_ne _ _ (by omega)]
  have wo : ∀ i, i < c → wt' i = wt i := fun i hi => by rw [ew, va_up_ne _ _ (by omega), va_up_ne _ _ (by omega)]
  have sc : sp' c = q := by rw [es, va_up_ne _ _ (by omega), va_up_self]
  have sc1 : sp' (c + 1) = r0 := by rw [es, va_up_self]
  have wc0 : wt' c = 0 := by rw [ew, va_up_ne _ _ (by omega), va_up_self]
  have wc1 : wt' (c + 1) = 0 := by rw [ew, va_up_self]
  have hne : ∀ i, i < c → sp i ≠ q := fun i hi z => by
    have := hnf i hi
    rw [z, hfq] at this
    exact absurd this (by decide)
  have hne0 : ∀ i, i < c → sp i ≠ r0 := fun i hi z => by
    have := hnf i hi
    rw [z, hfr] at this
    exact absurd this (by decide)
  have fo : ∀ r, r ≠ q → r ≠ r0 → fr' r = fr r := fun r h1 h2 => by rw [ef, va_up_ne _ _ h2, va_up_ne _ _ h1]
  have fq : fr' q = false := by rw [ef, va_up_ne _ _ hqr, va_up_self]
  have fr0 : fr' r0 = false := by rw [ef, va_up_self]
  have cs : ∀ i, i < c + 2 → i < c ∨ i = c ∨ i = c + 1 := fun i hi => by omega
  have A1 : ∀ i, i < c + 2 → sp' i < 64 ∧ bb i + 1024 * wt' i < 32768 ∧ F (sp' i) = qCw kd bb sp' wt' (c + 2) i := by
    intro i hi
    rcases cs i hi with z | z | z
    · rw [wo i z, so i z]
      exact ⟨(hcon i z).1, (hcon i z).2.1, h4 i z⟩
    · rw [z, sc, wc0]
      exact ⟨hq, by omega, hFq⟩
    · rw [z, sc1, wc1]
      exact ⟨hr0, by omega, hFr⟩
  refine ⟨A1, ?_, ?_, ?_, ?_⟩
  · intro i j hi hj e
    rcases cs i hi with z | z | z <;> rcases cs j hj with y | y | y
    · rw [so i z, so j y] at e
      exact hinj i j z y e
    · rw [so i z, y, sc] at e
      exact absurd e (hne i z)
    · rw [so i z, y, sc1] at e
      exact absurd e (hne0 i z)
    · rw [so j y, z, sc] at e
      exact absurd e.symm (hne j y)
    · omega
    · rw [z, y, sc, sc1] at e
      exact absurd e hqr
    · rw [so j y, z, sc1] at e
      exact absurd e.symm (hne0 j y)
    · rw [z, y, sc, sc1] at e
      exact absurd e.symm hqr
    · omega
  · intro r hr h
    by_cases z : r = q
    · exact ⟨c, by omega, by rw [sc]; exact z⟩
    · by_cases y : r = r0
      · exact ⟨c + 1, by omega, by rw [sc1]; exact y⟩
      · rw [fo r z y] at h
        obtain ⟨i, hi, e⟩ := hfree r hr h
        exact ⟨i, by omega, by rw [so i hi]; exact e⟩
  · intro i hi
    rcases cs i hi with z | z | z
    · rw [so i z, fo _ (hne i z) (hne0 i z)]
      exact hnf i z
    · rw [z, sc]
      exact fq
    · rw [z, sc1]
      exact fr0
  · intro r hr
    have no : (∃ i, i < c + 2 ∧ r = sp' i) → (F r = -1 ↔ fr' r = true) := by
      rintro ⟨i, hi, e⟩
      have h1 : fr' r = false := by
        rw [e]
        rcases cs i hi with z | z | z
        · rw [so i z, fo _ (hne i z) (hne0 i z)]
          exact hnf i z
        · rw [z, sc]
          exact fq
        · rw [z, sc1]
          exact fr0
      rw [h1]
      constructor
      · intro y
        rw [e, (A1 i hi).2.2] at y
        exact absurd y (qCw_ne (A1 i hi).2.1 (fun j hj => (A1 j hj).1))
      · intro y
        cases y
    by_cases z : r = q
    · exact no ⟨c, by omega, by rw [sc]; exact z⟩
    · by_cases y : r = r0
      · exact no ⟨c + 1, by omega, by rw [sc1]; exact y⟩
      · cases hf : fr r
        · obtain ⟨i, hi, e⟩ := hfree r hr hf
          exact no ⟨i, by omega, by rw [so i hi]; exact e⟩
        · have : ∀ i, i < c → r ≠ sp i := fun i hi e => by
            have := hnf i hi
            rw [← e, hf] at this
            cases this
          rw [h3 r z y this, fo r z y, x25 r hr]
theorem c_fork {j : Nat} (hP : PR kd bb c fr hb vp f sp wt σ α β) (hW : rWf kd c) (hc : c < 62) (hj : j < 12) (hk : kd c = 1) (hk1 : kd (c + 1) = 2) (hbb : bb c = 0) (hb1 : bb (c + 1) = 0) (e11 : β 11 c = 0) (e12 : β 12 c = 0) (h24 : ¬ μ 24 ≤ nI c) :
    (qFk fr 31 (f + 1) = none ∧ (∀ post : gS → Prop, post (va_up σ 36 0, α) → wp_Pl_placeFork σ α (nI j) post) ∧ (∀ X post, post 0 (μ, β) → wp_Md_place_B67 X μ β (nI f) (nI c) post)) ∨
    ∃ (fr' hb' : Nat → Bool) (vp' : Nat → Int32) (f' : Nat) (sp' wt' : Nat → Nat) (σ' : Nat → Int32) (α' β' : Nat → Nat → Int32), (∀ i, i < c → sp' i = sp i ∧ wt' i = wt i) ∧ (∀ post : gS → Prop, post (σ', α') → wp_Pl_placeFork σ α (nI j) post) ∧ (∀ X post, X μ β' (nI f') (nI (c + 2)) → wp_Md_place_B67 X μ β (nI f) (nI c) post) ∧ PR kd bb (c + 2) fr' hb' vp' f' sp' wt' σ' α' β' ∧ FrX σ α σ' α' ∧ α' 29 = upd (α 29) j (nI (sp' (c + 1))) ∧ FrM β β' := by
  obtain ⟨⟨x36, x33, xf, x25, x26, x27⟩, ⟨m17, m18, m19⟩, hA, hC, h15⟩ := hP
  have x36' : ¬ σ 36 = 0 := by rw [x36]; decide
  have vc : vp_in (nI c) 64 := vp_in_nI (by omega) (by decide)
  have vc1 : vp_in (nI (c + 1)) 64 := vp_in_nI (by omega) (by decide)
  have cl : (nI c).toNatClampNeg = c := nI_clamp (by omega)
  have cl1 : (nI (c + 1)).toNatClampNeg = c + 1 := nI_clamp (by omega)
  have ef1 : nI f + 1 = nI (f + 1) := nI_1 f
  have REF : ∀ (X : (Nat → Int32) → (Nat → Nat → Int32) → Int32 → Int32 → Prop) (post : Int32 → gS → Prop), wp_Md_place_J111 X μ β (nI c) 1 (nI (f + 1)) post → wp_Md_place_B67 X μ β (nI f) (nI c) post := by
    intro X post hp
    unfold wp_Md_place_B67 wp_Md_place_J97 wp_Md_place_J98
    rw [cl, ef1]
    exact br_f h24 ⟨vc, bs_t e11 ⟨vc, bs_t e12 (br_f (by decide) hp)⟩⟩
  cases hq : qFk fr 31 (f + 1) with
  | none =>
    left
    refine ⟨rfl, ?_, ?_⟩
    · intro post hp
      unfold wp_Pl_placeFork wp_Pl_placeFork_J16
      refine x_forkSpot x25 x33 xf ?_
      rw [hq]
      exact br_f x36' (br_f (by decide) hp)
    · intro X post hp
      refine REF X post ?_
      unfold wp_Md_place_J111
      refine m_fork m17 (by omega) ?_
      rw [hq]
      exact br_f (by decide) hp
  | some q =>
    right
    obtain ⟨hq64, hfq, hfr⟩ := qFk_lt _ _ _ hq
    obtain ⟨r0, hr0d⟩ : ∃ r0, r0 = q / 32 * 32 + (q % 32 + 1) % 32 := ⟨_, rfl⟩
    rw [← hr0d] at hfr
    have hr0 : r0 < 64 := by omega
    have hqr : q ≠ r0 := by omega
    have eo : (nI q &&& 32) ||| ((nI q + 1) &&& 31) = nI r0 := by rw [hr0d]; exact q_other q hq64
    obtain ⟨f', hfd⟩ : ∃ f', f' = (q + 2) % 32 := ⟨_, rfl⟩
    have ew : (nI q + 2) &&& 31 = nI f' := by rw [hfd]; exact q_pl q 2 (by omega)
    obtain ⟨F, o1, o2, o3, o4⟩ := x_occupy (σ := σ) (α := α) (w := 0) hC hW (by omega) hq64 hfq
    obtain ⟨sp', es⟩ : ∃ sp', sp' = va_up (va_up sp c q) (c + 1) r0 := ⟨_, rfl⟩
    obtain ⟨wt', ewt⟩ : ∃ wt', wt' = va_up (va_up wt c 0) (c + 1) 0 := ⟨_, rfl⟩
    obtain ⟨fr', efr⟩ : ∃ fr', fr' = va_up (va_up fr q false) r0 false := ⟨_, rfl⟩
    have so : ∀ i, i < c → sp' i = sp i ∧ wt' i = wt i := fun i hi => ⟨by rw [es, va_up_ne _ _ (by omega), va_up_ne _ _ (by omega)], by rw [ewt, va_up_ne _ _ (by omega), va_up_ne _ _ (by omega)]⟩
    have sc : sp' c = q := by rw [es, va_up_ne _ _ (by omega), va_up_self]
    have sc1 : sp' (c + 1) = r0 := by rw [es, va_up_self]
    have wc0 : wt' c = 0 := by rw [ewt, va_up_ne _ _ (by omega), va_up_self]
    have hnf := hC.2.2.2.2.2
    have hne0 : ∀ i, i < c → sp i ≠ r0 := fun i hi z => by
      have := hnf i hi
      rw [z, hfr] at this
      exact absurd this (by decide)
    have o4' := o4 sp' wt' (c + 2) (by omega) so sc
    obtain ⟨t1, t2, t3, t4, t5⟩ := ct_two (F := upd F r0 0) hC x25 hq64 hr0 hqr hfq hfr es ewt efr ⟨by rw [hbb]; decide, by rw [hb1]; decide⟩ (fun r h1 h2 h => by rw [pk_un h2]; exact o3 r h1 h) (fun i hi => by rw [pk_un (hne0 i hi)]; exact o4' i hi) (by
      have hx : qNx kd c = c + 2 := if_pos hk
      rw [pk_un hqr, o2]
      unfold qCw
      rw [if_neg (by rw [hk]; decide), if_neg (by rw [hk]; decide), if_neg (by rw [hx]; omega), hbb, wc0]) (by
      rw [pk_us]
      unfold qCw
      rw [if_neg (by rw [hk1]; decide), if_pos hk1])
    refine ⟨fr', hb, vp, f', sp', wt', va_up (va_up (va_up (va_up σ 34 (nI q)) 35 (nI (c + 1))) 33 (nI f')) 35 (nI (c + 1) + 1), va_up (va_up (va_up α 25 F) 25 (upd F r0 0)) 29 (upd (α 29) j (nI r0)), va_up (va_up (va_up β 15 (upd (upd (β 15) c (nI q)) (c + 1) (nI r0))) 16 (upd (upd (β 16) c 0) (c + 1) 0)) 17 (upd (upd (β 17) q (vp_nar .boolean 1)) r0 (vp_nar .boolean 1)), so, ?_, ?_, ?_, ?_, by rw [sc1]; rfl, ?_⟩
    · intro post hp
      unfold wp_Pl_placeFork wp_Pl_placeFork_J16
      refine x_forkSpot x25 x33 xf ?_
      rw [hq]
      refine br_f x36' (br_t (nI_pos' (n := q) (by omega)) ?_)
      refine o1 _ ?_
      show vp_in ((nI q &&& 32) ||| ((nI q + 1) &&& 31)) 64 ∧ (vp_in (nI j) 12 ∧ post (va_up (va_up (va_up (va_up σ 34 (nI q)) 35 (nI (c + 1))) 33 ((nI q + 2) &&& 31)) 35 (nI (c + 1) + 1), va_up (va_up (va_up α 25 F) 25 (upd F ((nI q &&& 32) ||| ((nI q + 1) &&& 31)).toNatClampNeg 0)) 29 (upd (α 29) (nI j).toNatClampNeg ((nI q &&& 32) ||| ((nI q + 1) &&& 31)))))
      rw [eo, ew, nI_clamp (by omega), nI_clamp (by omega)]
      exact ⟨vp_in_nI hr0 (by decide), vp_in_nI hj (by decide), hp⟩
    · intro X post hp
      refine REF X post ?_
      unfold wp_Md_place_J111 wp_Md_place_J255
      refine m_fork m17 (by omega) ?_
      rw [hq]
      have vq : vp_in (nI q) 64 := vp_in_nI hq64 (by decide)
      refine br_t (nI_pos' (n := q) (by omega)) ?_
      show vp_in (nI q) 64 ∧ (vp_in (nI c) 64 ∧ (vp_in (nI c) 64 ∧ (((1 : Int32) = 0 → _) ∧ (¬ (1 : Int32) = 0 → vp_in (nI c + Int32.ofInt 1) 64 ∧ (vp_in (nI c + Int32.ofInt 1) 64 ∧ (vp_in (upd (upd (β 15) (nI c).toNatClampNeg (nI q)) (nI c + Int32.ofInt 1).toNatClampNeg ((nI q &&& 32) ||| ((nI q + 1) &&& 31)) (nI c + Int32.ofInt 1).toNatClampNeg) 64 ∧ (vp_in (nI c + Int32.ofInt 1) 64 ∧ X μ (va_up (va_up (va_up β 15 (upd (upd (β 15) (nI c).toNatClampNeg (nI q)) (nI c + Int32.ofInt 1).toNatClampNeg ((nI q &&& 32) ||| ((nI q + 1) &&& 31)))) 16 (upd (upd (β 16) (nI c).toNatClampNeg 0) (nI c + Int32.ofInt 1).toNatClampNeg 0)) 17 (upd (upd (β 17) (nI q).toNatClampNeg (vp_nar .boolean 1)) (upd (upd (β 15) (nI c).toNatClampNeg (nI q)) (nI c + Int32.ofInt 1).toNatClampNeg ((nI q &&& 32) ||| ((nI q + 1) &&& 31)) (nI c + Int32.ofInt 1).toNatClampNeg).toNatClampNeg (vp_nar .boolean 1))) ((nI q + 2) &&& 31) (nI c + Int32.ofInt 1 + Int32.ofInt 1)))))))) 
      rw [eo, io1, nI_1 c, nI_1 (c + 1), cl, cl1, pk_us, ew, nI_clamp (n := q) (by omega), nI_clamp (n := r0) (by omega)]
      exact ⟨vq, vc, vc, br_f (by decide) ⟨vc1, vc1, vp_in_nI hr0 (by decide), vc1, hp⟩⟩
    · refine ⟨⟨x36, rfl, by omega, t5, x26, x27⟩, ⟨?_, m18, m19⟩, hA, ⟨?_, ?_, t1, t2, t3, t4⟩, ?_⟩
      · intro r hr
        show upd (upd (β 17) q (vp_nar .boolean 1)) r0 (vp_nar .boolean 1) r = 0 ↔ _
        rw [efr, q_b1]
        by_cases y : r = r0
        · rw [y, pk_us, va_up_self]
          constructor
          · intro w
            exact absurd w (by decide)
          · intro w
            cases w
        · rw [pk_un y, va_up_ne _ _ y]
          by_cases z : r = q
          · rw [z, pk_us, va_up_self]
            constructor
            · intro w
              exact absurd w (by decide)
            · intro w
              cases w
          · rw [pk_un z, va_up_ne fr false z]
            exact m17 r hr
      · show nI q = qLd kd sp' (c + 2)
        unfold qLd
        rw [if_neg (by omega), show c + 2 - 1 = c + 1 by omega, if_neg (by rw [hk1]; decide), if_pos hk1, show c + 2 - 2 = c by omega, sc]
      · show nI (c + 1) + 1 = nI (c + 2)
        rw [nI_1]
      · intro i hi
        show upd (upd (β 15) c (nI q)) (c + 1) (nI r0) i = _ ∧ upd (upd (β 16) c 0) (c + 1) 0 i = _ ∧ (kd i = 2 → wt' i = 0)
        by_cases y : i = c + 1
        · rw [y, pk_us, pk_us, sc1, ewt, va_up_self]
          exact ⟨rfl, rfl, fun _ => rfl⟩
        · by_cases z : i = c
          · rw [pk_un y, pk_un y, z, pk_us, pk_us, sc, wc0]
            exact ⟨rfl, rfl, fun _ => rfl⟩
          · rw [pk_un y, pk_un y, pk_un z, pk_un z, (so i (by omega)).1, (so i (by omega)).2]
            exact h15 i (by omega)
    · refine ⟨fun i hi => ?_, fun k hk2 => ?_, rfl⟩
      · rw [va_up_ne _ _ (by omega), va_up_ne _ _ (by omega), va_up_ne _ _ (by omega), va_up_ne _ _ (by omega)]
      · rw [va_up_ne _ _ (by omega), va_up_ne _ _ (by omega), va_up_ne _ _ (by omega)]
    · intro k hk2
      rw [va_up_ne _ _ (by omega), va_up_ne _ _ (by omega), va_up_ne _ _ (by omega)]
end PO
