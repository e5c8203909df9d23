-- pure rows: an order with a variable, and a stop, on both sides
section PN
variable {σ μ : Nat → Int32} {α β : Nat → Nat → Int32} {fr hb : Nat → Bool} {vp : Nat → Int32} {kd bb sp wt : Nat → Nat} {c f : Nat}
theorem ct_one {F : Nat → Int32} {q W : Nat} (hC : rCt kd bb sp wt c fr σ α) (x25 : ∀ r, r < 64 → (α 25 r = -1 ↔ fr r = true)) (hq : q < 64) (hfq : fr q = true) (hbd : bb c + 1024 * W < 32768) (h3 : ∀ r, r ≠ q → (∀ i, i < c → r ≠ sp i) → F r = α 25 r) (h4 : ∀ i, i < c → F (sp i) = qCw kd bb (va_up sp c q) (va_up wt c W) (c + 1) i) (hFq : F q = qCw kd bb (va_up sp c q) (va_up wt c W) (c + 1) c) :
    (∀ i, i < c + 1 → va_up sp c q i < 64 ∧ bb i + 1024 * va_up wt c W i < 32768 ∧ F (va_up sp c q i) = qCw kd bb (va_up sp c q) (va_up wt c W) (c + 1) i) ∧ (∀ i j, i < c + 1 → j < c + 1 → va_up sp c q i = va_up sp c q j → i = j) ∧ (∀ r, r < 64 → va_up fr q false r = false → ∃ i, i < c + 1 ∧ r = va_up sp c q i) ∧ (∀ i, i < c + 1 → va_up fr q false (va_up sp c q i) = false) ∧ (∀ r, r < 64 → (F r = -1 ↔ va_up fr q false r = true)) := by
  obtain ⟨-, -, hcon, hinj, hfree, hnf⟩ := hC
  have hne : ∀ i, i < c → sp i ≠ q := fun i hi z => by
    have := hnf i hi
    rw [z, hfq] at this
    exact absurd this (by decide)
  have so : ∀ i, i < c → va_up sp c q i = sp i := fun i hi => va_up_ne sp q (by omega)
  have wo : ∀ i, i < c → va_up wt c W i = wt i := fun i hi => va_up_ne wt W (by omega)
  have A1 : ∀ i, i < c + 1 → va_up sp c q i < 64 ∧ bb i + 1024 * va_up wt c W i < 32768 ∧ F (va_up sp c q i) = qCw kd bb (va_up sp c q) (va_up wt c W) (c + 1) i := by
    intro i hi
    by_cases z : i = c
    · subst z
      rw [va_up_self, va_up_self]
      exact ⟨hq, hbd, hFq⟩
    · have hi' : i < c := by omega
      rw [wo i hi', so i hi']
      exact ⟨(hcon i hi').1, (hcon i hi').2.1, h4 i hi'⟩
  have A4 : ∀ i, i < c + 1 → va_up fr q false (va_up sp c q i) = false := by
    intro i hi
    by_cases z : i = c
    · subst z
      rw [va_up_self, va_up_self]
    · have hi' : i < c := by omega
      rw [so i hi', va_up_ne fr false (hne i hi')]
      exact hnf i hi'
  refine ⟨A1, ?_, ?_, A4, ?_⟩
  · intro i j hi hj e
    by_cases z : i = c
    · by_cases y : j = c
      · omega
      · subst z
        rw [va_up_self, so j (by omega)] at e
        exact absurd e.symm (hne j (by omega))
    · by_cases y : j = c
      · subst y
        rw [va_up_self, so i (by omega)] at e
        exact absurd e (hne i (by omega))
      · rw [so i (by omega), so j (by omega)] at e
        exact hinj i j (by omega) (by omega) e
  · intro r hr h
    by_cases z : r = q
    · exact ⟨c, by omega, by rw [va_up_self]; exact z⟩
    · rw [va_up_ne fr false z] at h
      obtain ⟨i, hi, e⟩ := hfree r hr h
      exact ⟨i, by omega, by rw [so i hi]; exact e⟩
  · intro r hr
    by_cases z : r = q
    · rw [z, va_up_self]
      constructor
      · intro y
        rw [hFq] at y
        exfalso
        refine qCw_ne (i := c) ?_ (fun j hj => (A1 j hj).1) y
        rw [va_up_self]
        exact hbd
      · intro y
        cases y
    · rw [va_up_ne fr false z]
      cases hf : fr r
      · obtain ⟨i, hi, e⟩ := hfree r hr hf
        constructor
        · intro y
          rw [e, h4 i hi] at y
          exact absurd y (qCw_ne (A1 i (by omega)).2.1 (fun j hj => (A1 j hj).1))
        · intro y
          cases y
      · have : ∀ i, i < c → r ≠ sp i := fun i hi e => by
          have := hnf i hi
          rw [← e, hf] at this
          cases this
        rw [h3 r z this, x25 r hr, hf]
theorem c_ord {s g v : Nat} (hP : PR kd bb c fr hb vp f sp wt σ α β) (hW : rWf kd c) (hc : c < 63) (hk : kd c = 0) (hbb : bb c = s + 16 * g) (hs : s < 16) (hg : g < 16) (hv : v < 16) (hs0 : 0 < s) (e11 : β 11 c = nI s) (e13 : β 13 c = nI v) (h24 : ¬ μ 24 ≤ nI c) :
    (qFs fr 32 f = none ∧ (∀ post : gS → Prop, post (va_up σ 36 0, α) → wp_Pl_placeOrder σ α (nI s) (nI g) (nI v) post) ∧ (∀ X post, post 0 (μ, β) → wp_Md_place_B67 X μ β (nI f) (nI c) post)) ∨
    ∃ (q : Nat) (fr' hb' : Nat → Bool) (vp' : Nat → Int32) (f' : Nat) (sp' wt' : Nat → Nat) (σ' : Nat → Int32) (α' β' : Nat → Nat → Int32), qFs fr 32 f = some q ∧ sp' c = q ∧ (∀ i, i < c → sp' i = sp i ∧ wt' i = wt i) ∧ (∀ post : gS → Prop, post (σ', α') → wp_Pl_placeOrder σ α (nI s) (nI g) (nI v) post) ∧ (∀ X post, X μ β' (nI f') (nI (c + 1)) → wp_Md_place_B67 X μ β (nI f) (nI c) post) ∧ PR kd bb (c + 1) fr' hb' vp' f' sp' wt' σ' α' β' ∧ FrX σ α σ' α' ∧ α' 29 = α 29 ∧ FrM β β' := by
  obtain ⟨⟨x36, x33, xf, x25, x26, x27⟩, ⟨m17, m18, m19⟩, hA, hC, h15⟩ := hP
  have x36' : ¬ σ 36 = 0 := by rw [x36]; decide
  have vc : vp_in (nI c) 64 := vp_in_nI (by omega) (by decide)
  have es0 : ¬ β 11 c = 0 := by rw [e11]; exact nI_ne0 hs0 (by omega)
  have cl : (nI c).toNatClampNeg = c := nI_clamp (by omega)
  have REF : ∀ (X : (Nat → Int32) → (Nat → Nat → Int32) → Int32 → Int32 → Prop) (post : Int32 → gS → Prop), wp_Md_place_J111 X μ β (nI c) 0 (nI f) post → wp_Md_place_B67 X μ β (nI f) (nI c) post := by
    intro X post hp
    unfold wp_Md_place_B67 wp_Md_place_J97 wp_Md_place_J98
    rw [cl]
    exact br_f h24 ⟨vc, bs_f es0 (br_t rfl hp)⟩
  cases hq : qFs fr 32 f with
  | none =>
    left
    refine ⟨rfl, ?_, ?_⟩
    · intro post hp
      unfold wp_Pl_placeOrder wp_Pl_placeOrder_J18
      refine x_freeSpot x25 x33 xf ?_
      rw [hq]
      exact br_f x36' (br_f (by decide) hp)
    · intro X post hp
      refine REF X post ?_
      unfold wp_Md_place_J111
      refine m_free m17 (by omega) ?_
      rw [hq]
      exact br_f (by decide) hp
  | some q =>
    right
    obtain ⟨hq64, hfq⟩ := qFs_lt _ _ _ hq
    obtain ⟨p, hb', vp', a26, a27, b18, b19, hp32, g1, g2, r26, r27, r18, r19, rA⟩ := c_var (σ := σ) (μ := μ) (α := α) (β := va_up (va_up (va_up β 15 (upd (β 15) c (nI q))) 16 (upd (β 16) c 0)) 17 (upd (β 17) q (vp_nar .boolean 1))) (w := q + 2) hv (by omega) x26 x27 m18 m19 hA
    obtain ⟨W, hWd⟩ : ∃ W, W = (p + 126 - q) % 32 := ⟨_, rfl⟩
    obtain ⟨f', hfd⟩ : ∃ f', f' = (q + 2 + W) % 32 := ⟨_, rfl⟩
    obtain ⟨F, o1, o2, o3, o4⟩ := x_occupy (σ := σ) (α := va_up (va_up α 26 a26) 27 a27) (w := s + 16 * g + 1024 * W) hC hW (by omega) hq64 hfq
    have hbd : bb c + 1024 * W < 32768 := by rw [hbb]; omega
    have hFq : F q = qCw kd bb (va_up sp c q) (va_up wt c W) (c + 1) c := by
      have hx : qNx kd c = c + 1 := if_neg (by rw [hk]; decide)
      rw [o2]
      unfold qCw
      rw [if_neg (by rw [hk]; decide), if_neg (by rw [hk]; decide), if_neg (by rw [hx]; omega), va_up_self, hbb, Nat.add_zero]
    obtain ⟨t1, t2, t3, t4, t5⟩ := ct_one (F := F) (W := W) hC x25 hq64 hfq hbd o3 (o4 _ _ (c + 1) (by omega) (fun i hi => ⟨va_up_ne sp q (by omega), va_up_ne wt W (by omega)⟩) (va_up_self sp c q)) hFq
    refine ⟨q, va_up fr q false, hb', vp', f', va_up sp c q, va_up wt c W, va_up (va_up (va_up σ 34 (nI q)) 35 (nI (c + 1))) 33 (nI f'), va_up (va_up (va_up α 26 a26) 27 a27) 25 F, va_up (va_up (va_up (va_up (va_up (va_up β 15 (upd (β 15) c (nI q))) 16 (upd (β 16) c 0)) 17 (upd (β 17) q (vp_nar .boolean 1))) 19 b19) 18 b18) 16 (upd (upd (β 16) c 0) c (nI W)), rfl, va_up_self sp c q, fun i hi => ⟨va_up_ne sp q (by omega), va_up_ne wt W (by omega)⟩, ?_, ?_, ?_, ?_, rfl, ?_⟩
    · intro post hp
      unfold wp_Pl_placeOrder wp_Pl_placeOrder_J18
      refine x_freeSpot x25 x33 xf ?_
      rw [hq]
      have ew : (nI q + 2) &&& 31 = nI ((q + 2) % 32) := q_pl q 2 (by omega)
      have et : (nI p - nI ((q + 2) % 32)) &&& 31 = nI W := by
        rw [q_sub31 _ _ (by omega) (by omega), hWd]
        congr 1
        omega
      have ef : (nI ((q + 2) % 32) + nI W) &&& 31 = nI f' := by
        rw [q_pl _ _ (by omega), hfd]
        congr 1
        omega
      refine br_f x36' (br_t (nI_pos' (n := q) (by omega)) (bs_f (nI_m1 (by omega)) ?_))
      show wp_Pl_variablePlace σ α (nI v) ((nI q + 2) &&& 31) (fun r46 u46 => wp_Pl_placeOrder_J55 u46.1 u46.2 (nI s) (nI g) (nI q) ((nI q + 2) &&& 31) ((r46 - ((nI q + 2) &&& 31)) &&& 31) post)
      rw [ew]
      refine g1 _ ?_
      unfold wp_Pl_placeOrder_J55
      rw [et, q_word hs hg (by omega)]
      refine o1 _ ?_
      rw [ef]
      exact hp
    · intro X post hp
      refine REF X post ?_
      unfold wp_Md_place_J111 wp_Md_place_J240 wp_Md_place_J255
      refine m_free m17 (by omega) ?_
      rw [hq]
      have vq : vp_in (nI q) 64 := vp_in_nI hq64 (by decide)
      refine br_t (nI_pos' (n := q) (by omega)) ?_
      rw [cl]
      refine ⟨vq, vc, vc, br_t rfl ⟨vc, ?_⟩⟩
      show (β 13 c < 0 → _) ∧ (¬ β 13 c < 0 → _)
      refine br_f (by rw [e13]; exact nI_pos (by omega)) ?_
      have e2 : nI q + 2 = nI (q + 2) := nI_add q 2
      show wp_Md_variableFrom μ (va_up (va_up (va_up β 15 (upd (β 15) c (nI q))) 16 (upd (β 16) c 0)) 17 (upd (β 17) (nI q).toNatClampNeg (vp_nar .boolean 1))) (β 13 c) (nI q + 2) _
      rw [e13, e2, nI_clamp (by omega)]
      refine g2 _ ⟨vc, vc, ?_⟩
      have et : ((nI p - nI q) - 2) &&& 31 = nI W := by rw [hWd]; exact q_tim hq64 (by omega)
      have ef : ((nI q + 2) + nI W) &&& 31 = nI f' := by
        rw [e2, q_pl _ _ (by omega), hfd]
      show X μ (va_up (va_up (va_up (va_up (va_up (va_up β 15 (upd (β 15) c (nI q))) 16 (upd (β 16) c 0)) 17 (upd (β 17) q (vp_nar .boolean 1))) 19 b19) 18 b18) 16 (upd (upd (β 16) c 0) c (((nI p - nI q) - 2) &&& 31))) (((nI q + 2) + upd (upd (β 16) c 0) c (((nI p - nI q) - 2) &&& 31) c) &&& 31) (nI c + Int32.ofInt 1)
      rw [pk_us, et, ef, io1, nI_1]
      exact hp
    · refine ⟨⟨x36, rfl, by omega, t5, r26, r27⟩, ⟨?_, r18, r19⟩, rA, ⟨?_, rfl, t1, t2, t3, t4⟩, ?_⟩
      · intro r hr
        show upd (β 17) q (vp_nar .boolean 1) r = 0 ↔ _
        by_cases z : r = q
        · rw [z, pk_us, va_up_self, q_b1]
          constructor
          · intro y
            exact absurd y (by decide)
          · intro y
            cases y
        · rw [pk_un z, va_up_ne fr false z]
          exact m17 r hr
      · show nI q = qLd kd (va_up sp c q) (c + 1)
        unfold qLd
        rw [if_neg (by omega), show c + 1 - 1 = c by omega, if_neg (by rw [hk]; decide), if_neg (by rw [hk]; decide), va_up_self]
      · intro i hi
        show upd (β 15) c (nI q) i = _ ∧ upd (upd (β 16) c 0) c (nI W) i = _ ∧ (kd i = 2 → va_up wt c W i = 0)
        by_cases z : i = c
        · subst z
          rw [pk_us, pk_us, va_up_self, va_up_self]
          exact ⟨rfl, rfl, fun y => absurd y (by rw [hk]; decide)⟩
        · rw [pk_un z, pk_un z, pk_un z, va_up_ne sp q z, va_up_ne wt W z]
          exact h15 i (by omega)
    · refine ⟨fun i hi => ?_, fun k hk2 => ?_, rfl⟩
      · rw [va_up_ne _ _ (by omega), va_up_ne _ _ (by omega), va_up_ne _ _ (by omega)]
      · rw [va_up_ne _ _ (by omega), va_up_ne _ _ (by omega), va_up_ne _ _ (by omega)]
    · intro k hk2
      rw [va_up_ne _ _ (by omega), va_up_ne _ _ (by omega), va_up_ne _ _ (by omega), va_up_ne _ _ (by omega), va_up_ne _ _ (by omega), va_up_ne _ _ (by omega)]
end PN
