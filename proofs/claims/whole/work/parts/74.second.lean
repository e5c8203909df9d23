-- pure rows: loops of the second side's assembling
section PU
variable {μ : Nat → Int32} {β : Nat → Nat → Int32}
theorem g_up {i : Nat} (hi : i < 2 ^ 31) (v : Int32) (f : Nat → Int32) : upd (gfill i v f) i v = gfill (i + 1) v f := by
  have := gfill_succ hi v f
  rw [nI_clamp hi] at this
  exact this
theorem m_L44 {post : Int32 → gS → Prop} (hp : wp_Md_place_L67 μ (va_up β 19 (gfill 16 (-1) (β 19))) 0 0 post) : wp_Md_place_L44 μ β 0 post := by
  have key : ∀ (m i : Nat), i + m = 16 → wp_Md_place_L44 μ (va_up β 19 (gfill i (-1) (β 19))) (nI i) post := by
    intro m i hi X hX
    induction m generalizing i with
    | zero =>
      refine hX _ _ _ ?_
      unfold wp_Md_place_B44
      refine br_t (nI_le (a := 16) (by omega) (by omega)) ?_
      rw [show i = 16 by omega]
      exact hp
    | succ m ih =>
      refine hX _ _ _ ?_
      unfold wp_Md_place_B44
      rw [nI_clamp (by omega), io1, nI_1, bx_uu]
      refine br_f (nI_ge (b := 16) (by omega) (by decide)) ⟨vp_in_nI (by omega) (by decide), ?_⟩
      show X μ (va_up β 19 (upd (gfill i (-1) (β 19)) i (-1))) (nI (i + 1))
      rw [g_up (by omega)]
      exact ih (i + 1) (by omega)
  have t := key 16 0 (by omega)
  rw [gfill_0, q_upself β 19] at t
  exact t
theorem m_L23 {post : Int32 → gS → Prop} (hp : wp_Md_place_L44 μ (va_up β 18 (gfill 32 0 (β 18))) 0 post) : wp_Md_place_L23 μ β 0 post := by
  have key : ∀ (m i : Nat), i + m = 32 → wp_Md_place_L23 μ (va_up β 18 (gfill i 0 (β 18))) (nI i) post := by
    intro m i hi X hX
    induction m generalizing i with
    | zero =>
      refine hX _ _ _ ?_
      unfold wp_Md_place_B23
      refine br_t (nI_le (a := 32) (by omega) (by omega)) ?_
      rw [show i = 32 by omega]
      exact hp
    | succ m ih =>
      refine hX _ _ _ ?_
      unfold wp_Md_place_B23
      rw [nI_clamp (by omega), io1, nI_1, bx_uu, q_b0]
      refine br_f (nI_ge (b := 32) (by omega) (by decide)) ⟨vp_in_nI (by omega) (by decide), ?_⟩
      show X μ (va_up β 18 (upd (gfill i 0 (β 18)) i 0)) (nI (i + 1))
      rw [g_up (by omega)]
      exact ih (i + 1) (by omega)
  have t := key 32 0 (by omega)
  rw [gfill_0, q_upself β 18] at t
  exact t
theorem m_place0 {post : Int32 → gS → Prop} (hp : wp_Md_place_L67 μ (va_up (va_up (va_up β 17 (gfill 64 0 (β 17))) 18 (gfill 32 0 (β 18))) 19 (gfill 16 (-1) (β 19))) 0 0 post) : wp_Md_place μ β post := by
  unfold wp_Md_place
  have key : ∀ (m i : Nat), i + m = 64 → wp_Md_place_L2 μ (va_up β 17 (gfill i 0 (β 17))) (nI i) post := by
    intro m i hi X hX
    induction m generalizing i with
    | zero =>
      refine hX _ _ _ ?_
      unfold wp_Md_place_B2
      refine br_t (nI_le (a := 64) (by omega) (by omega)) ?_
      rw [show i = 64 by omega]
      exact m_L23 (m_L44 hp)
    | succ m ih =>
      refine hX _ _ _ ?_
      unfold wp_Md_place_B2
      rw [nI_clamp (by omega), io1, nI_1, bx_uu, q_b0]
      refine br_f (nI_ge (b := 64) (by omega) (by decide)) ⟨vp_in_nI (by omega) (by decide), ?_⟩
      show X μ (va_up β 17 (upd (gfill i 0 (β 17)) i 0)) (nI (i + 1))
      rw [g_up (by omega)]
      exact ih (i + 1) (by omega)
  have t := key 64 0 (by omega)
  rw [gfill_0, q_upself β 17] at t
  exact t
theorem m_L99 {post : Int32 → gS → Prop} (hp : wp_Md_assemble_L121 μ (va_up β 1 (gfill 64 1015824 (β 1))) 0 post) : wp_Md_assemble_L99 μ β 0 post := by
  have key : ∀ (m i : Nat), i + m = 64 → wp_Md_assemble_L99 μ (va_up β 1 (gfill i 1015824 (β 1))) (nI i) post := by
    intro m i hi X hX
    induction m generalizing i with
    | zero =>
      refine hX _ _ _ ?_
      unfold wp_Md_assemble_B99
      refine br_t (nI_le (a := 64) (by omega) (by omega)) ?_
      rw [show i = 64 by omega]
      exact hp
    | succ m ih =>
      refine hX _ _ _ ?_
      unfold wp_Md_assemble_B99
      rw [nI_clamp (by omega), io1, nI_1, bx_uu]
      refine br_f (nI_ge (b := 64) (by omega) (by decide)) ⟨vp_in_nI (by omega) (by decide), ?_⟩
      show X μ (va_up β 1 (upd (gfill i 1015824 (β 1)) i 1015824)) (nI (i + 1))
      rw [g_up (by omega)]
      exact ih (i + 1) (by omega)
  have t := key 64 0 (by omega)
  rw [gfill_0, q_upself β 1] at t
  exact t
theorem m_L182 {post : Int32 → gS → Prop} (hp : ∀ B : Nat → Int32, (∀ v, v < 16 → B v = β 19 v) → post (μ 24) (μ, va_up β 21 B)) : wp_Md_assemble_L182 μ β 0 post := by
  have key : ∀ (m i : Nat) (B : Nat → Int32), i + m = 16 → (∀ v, v < i → B v = β 19 v) → wp_Md_assemble_L182 μ (va_up β 21 B) (nI i) post := by
    intro m i B hi hB X hX
    induction m generalizing i B with
    | zero =>
      refine hX _ _ _ ?_
      unfold wp_Md_assemble_B182
      exact br_t (nI_le (a := 16) (by omega) (by omega)) (hp B (fun v hv => hB v (by omega)))
    | succ m ih =>
      refine hX _ _ _ ?_
      unfold wp_Md_assemble_B182
      rw [nI_clamp (by omega), io1, nI_1, bx_uu]
      refine br_f (nI_ge (b := 16) (by omega) (by decide)) ⟨vp_in_nI (by omega) (by decide), vp_in_nI (by omega) (by decide), ?_⟩
      show X μ (va_up β 21 (upd B i (β 19 i))) (nI (i + 1))
      refine ih (i + 1) _ (by omega) (fun v hv => ?_)
      by_cases z : v = i
      · rw [z, pk_us]
      · rw [pk_un z]
        exact hB v (by omega)
  have t := key 16 0 (β 21) (by omega) (fun v hv => absurd hv (Nat.not_lt_zero v))
  rw [q_upself β 21] at t
  exact t
variable {es eg eo ew o a b cc g : Nat → Int32} {s tot : Nat} {sp wt : Nat → Nat}
theorem m_L150 {post : Int32 → gS → Prop} (hs : s ≤ 12) (ht60 : tot < 60) (htot : qOff o s ≤ tot) (e23 : μ 23 = nI s) (hls : ∀ j, j < s → rLs o a b cc es eg eo ew j) (hop : ∀ j, j < s → ∃ k : Nat, k < 7 ∧ o j = nI k) (b14 : β 14 = ew) (b15 : ∀ i, i < tot → β 15 i = nI (sp i)) (hp : ∀ B : Nat → Int32, (∀ j, j < s → B j = nI (sp (qOff o j))) → wp_Md_assemble_L182 μ (va_up β 20 B) 0 post) : wp_Md_assemble_L150 μ β 0 post := by
  have key : ∀ (m j : Nat) (B : Nat → Int32), j + m = s → (∀ i, i < j → B i = nI (sp (qOff o i))) → wp_Md_assemble_L150 μ (va_up β 20 B) (nI j) post := by
    intro m j B hj hB X hX
    induction m generalizing j B with
    | zero =>
      refine hX _ _ _ ?_
      unfold wp_Md_assemble_B150
      refine br_t ?_ (hp B (fun i hi => hB i (by omega)))
      show μ 23 ≤ nI j
      rw [e23]
      exact nI_le (by omega) (by omega)
    | succ m ih =>
      refine hX _ _ _ ?_
      unfold wp_Md_assemble_B150
      refine br_f ?_ ?_
      · show ¬ μ 23 ≤ nI j
        rw [e23]
        exact nI_ge (by omega) (by omega)
      · have hm := qOff_mono o (show j + 1 ≤ s by omega)
        have hl : qOff o (j + 1) = qOff o j + qLn (o j) := rfl
        have hl1 := (qLn_in (o j)).1
        refine m_firstOf (k := j) (by omega) hs hls hop b14 ⟨vp_in_nI (by omega) (by decide), vp_in_nI (by omega) (by decide), ?_⟩
        rw [nI_clamp (by omega), nI_clamp (by omega), io1, nI_1, bx_uu]
        show X μ (va_up β 20 (upd B j (β 15 (qOff o j)))) (nI (j + 1))
        rw [b15 _ (by omega)]
        refine ih (j + 1) _ (by omega) (fun i hi => ?_)
        by_cases z : i = j
        · rw [z, pk_us]
        · rw [pk_un z]
          exact hB i (by omega)
  have t := key s 0 (β 20) (by omega) (fun v hv => absurd hv (Nat.not_lt_zero v))
  rw [q_upself β 20] at t
  exact t
theorem m_L121 {post : Int32 → gS → Prop} (hs0 : 0 < s) (hs : s ≤ 12) (ht60 : tot < 60) (e24 : μ 24 = nI tot) (htot : (o (s - 1) = 6 ∧ tot = qOff o s) ∨ (¬ o (s - 1) = 6 ∧ tot = qOff o s + 1 ∧ qAt es eg eo ew (qOff o s) 0 1 (-1) (-1))) (hls : ∀ j, j < s → rLs o a b cc es eg eo ew j) (hop : ∀ j, j < s → ∃ k : Nat, k < 7 ∧ o j = nI k) (hg : ∀ j, j < s → o j = 4 → ∃ k : Nat, k < s ∧ g j = nI k) (hsp : ∀ i, i < tot → sp i < 64) (hinj : ∀ i j, i < tot → j < tot → sp i = sp j → i = j) (hbw : ∀ i, i < tot → qBb es eg i + 1024 * wt i < 32768) (hw0 : ∀ i, i < tot → qKd es eg i = 2 → wt i = 0) (b10 : β 10 = g) (b11 : β 11 = es) (b12 : β 12 = eg) (b14 : β 14 = ew) (b15 : ∀ i, i < tot → β 15 i = nI (sp i)) (b16 : ∀ i, i < tot → β 16 i = nI (wt i)) {B : Nat → Int32}
    (hp : ∀ G : Nat → Int32, (∀ i, i < tot → G (sp i) = qFw (qKd es eg) (qBb es eg) sp wt (qTg o g ew) tot i) → (∀ q, (∀ i, i < tot → q ≠ sp i) → G q = B q) → wp_Md_assemble_L150 (va_up μ 25 (μ 23)) (va_up β 1 G) 0 post) : wp_Md_assemble_L121 μ (va_up β 1 B) 0 post := by
  have key : ∀ (m i : Nat) (G : Nat → Int32), i + m = tot → (∀ k, k < i → G (sp k) = qFw (qKd es eg) (qBb es eg) sp wt (qTg o g ew) tot k) → (∀ q, (∀ k, k < tot → q ≠ sp k) → G q = B q) → wp_Md_assemble_L121 μ (va_up β 1 G) (nI i) post := by
    intro m i G hi h1 h2 X hX
    induction m generalizing i G with
    | zero =>
      refine hX _ _ _ ?_
      unfold wp_Md_assemble_B121
      refine br_t ?_ (hp G (fun k hk => h1 k (by omega)) h2)
      rw [e24]
      exact nI_le (by omega) (by omega)
    | succ m ih =>
      refine hX _ _ _ ?_
      unfold wp_Md_assemble_B121
      refine br_f (by rw [e24]; exact nI_ge (by omega) (by omega)) ?_
      rw [io1, nI_1]
      refine m_write hs ht60 e24 (by omega) htot hs0 hls hop hg hsp hbw hw0 b10 b11 b12 b14 b15 b16 ?_
      refine ih (i + 1) _ (by omega) (fun k hk => ?_) (fun q hq => ?_)
      · by_cases z : k = i
        · rw [z, pk_us]
        · rw [pk_un (fun y => z (hinj k i (by omega) (by omega) y))]
          exact h1 k (by omega)
      · rw [pk_un (hq i (by omega))]
        exact h2 q hq
  exact key tot 0 B (by omega) (fun k hk => absurd hk (Nat.not_lt_zero k)) (fun _ _ => rfl)
end PU
