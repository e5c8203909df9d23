-- pure rows: the second side writes the orders
/-- what an entry of the list is -/
theorem ent {o a b cc es eg eo ew : Nat → Int32} {i j : Nat} (hls : rLs o a b cc es eg eo ew j) (hop : ∃ k : Nat, k < 7 ∧ o j = nI k) (h1 : qOff o j ≤ i) (h2 : i < qOff o (j + 1)) : ew i = nI j ∧ ((∃ s g : Nat, 0 < s ∧ s < 16 ∧ g ≠ 1 ∧ g < 16 ∧ es i = nI s ∧ eg i = nI g) ∨ (o j = 4 ∧ i = qOff o j + 1 ∧ es i = 0 ∧ eg i = 0) ∨ (o j = 4 ∧ i = qOff o j + 2 ∧ es i = 0 ∧ eg i = 0) ∨ (es i = 0 ∧ eg i = 1)) := by
  obtain ⟨k, hk, ek⟩ := hop
  have hlen : qOff o (j + 1) = qOff o j + qLn (o j) := rfl
  obtain ⟨l0, l1, l2, l3, l4, l5, l6⟩ := hls
  have nn : ∀ i s g x, qAt es eg eo ew i (nI s) (nI g) x (nI j) → 0 < s → s < 16 → g ≠ 1 → g < 16 → ew i = nI j ∧ ((∃ s g : Nat, 0 < s ∧ s < 16 ∧ g ≠ 1 ∧ g < 16 ∧ es i = nI s ∧ eg i = nI g) ∨ (o j = 4 ∧ i = qOff o j + 1 ∧ es i = 0 ∧ eg i = 0) ∨ (o j = 4 ∧ i = qOff o j + 2 ∧ es i = 0 ∧ eg i = 0) ∨ (es i = 0 ∧ eg i = 1)) := fun i s g x q a1 a2 a3 a4 => ⟨q.2.2.2, Or.inl ⟨s, g, a1, a2, a3, a4, q.1, q.2.1⟩⟩
  rcases (show k = 0 ∨ k = 1 ∨ k = 2 ∨ k = 3 ∨ k = 4 ∨ k = 5 ∨ k = 6 by omega) with rfl | rfl | rfl | rfl | rfl | rfl | rfl
  · have e : o j = 0 := ek
    rw [e, show qLn 0 = 3 by decide] at hlen
    obtain ⟨q0, q1, q2⟩ := l0 e
    rcases (show i = qOff o j ∨ i = qOff o j + 1 ∨ i = qOff o j + 2 by omega) with z | z | z
    · rw [z]
      exact nn _ 2 6 _ q0 (by decide) (by decide) (by decide) (by decide)
    · rw [z]
      exact nn _ 2 9 _ q1 (by decide) (by decide) (by decide) (by decide)
    · rw [z]
      exact nn _ 6 2 _ q2 (by decide) (by decide) (by decide) (by decide)
  · have e : o j = 1 := ek
    rw [e, show qLn 1 = 3 by decide] at hlen
    obtain ⟨q0, q1, q2⟩ := l1 e
    rcases (show i = qOff o j ∨ i = qOff o j + 1 ∨ i = qOff o j + 2 by omega) with z | z | z
    · rw [z]
      exact nn _ 2 6 _ q0 (by decide) (by decide) (by decide) (by decide)
    · rw [z]
      exact nn _ 2 10 _ q1 (by decide) (by decide) (by decide) (by decide)
    · rw [z]
      exact nn _ 6 2 _ q2 (by decide) (by decide) (by decide) (by decide)
  · have e : o j = 2 := ek
    rw [e, show qLn 2 = 2 by decide] at hlen
    obtain ⟨q0, q1⟩ := l2 e
    rcases (show i = qOff o j ∨ i = qOff o j + 1 by omega) with z | z
    · rw [z]
      exact nn _ 2 6 _ q0 (by decide) (by decide) (by decide) (by decide)
    · rw [z]
      exact nn _ 6 2 _ q1 (by decide) (by decide) (by decide) (by decide)
  · have e : o j = 3 := ek
    rw [e, show qLn 3 = 1 by decide] at hlen
    rw [show i = qOff o j by omega]
    exact nn _ 2 15 _ (l3 e) (by decide) (by decide) (by decide) (by decide)
  · have e : o j = 4 := ek
    rw [e, show qLn 4 = 3 by decide] at hlen
    obtain ⟨q0, q1, q2⟩ := l4 e
    rcases (show i = qOff o j ∨ i = qOff o j + 1 ∨ i = qOff o j + 2 by omega) with z | z | z
    · rw [z]
      exact nn _ 2 11 _ q0 (by decide) (by decide) (by decide) (by decide)
    · rw [z]
      exact ⟨q1.2.2.2, Or.inr (Or.inl ⟨e, rfl, q1.1, q1.2.1⟩)⟩
    · rw [z]
      exact ⟨q2.2.2.2, Or.inr (Or.inr (Or.inl ⟨e, rfl, q2.1, q2.2.1⟩))⟩
  · have e : o j = 5 := ek
    rw [e, show qLn 5 = 1 by decide] at hlen
    rw [show i = qOff o j by omega]
    exact nn _ 13 2 _ (l5 e) (by decide) (by decide) (by decide) (by decide)
  · have e : o j = 6 := ek
    rw [e, show qLn 6 = 1 by decide] at hlen
    rw [show i = qOff o j by omega]
    exact ⟨(l6 e).2.2.2, Or.inr (Or.inr (Or.inr ⟨(l6 e).1, (l6 e).2.1⟩))⟩
theorem ent_at {o : Nat → Int32} : ∀ s i, i < qOff o s → ∃ j, j < s ∧ qOff o j ≤ i ∧ i < qOff o (j + 1) := by
  intro s
  induction s with
  | zero => intro i hi; exact absurd hi (Nat.not_lt_zero i)
  | succ s ih =>
    intro i hi
    by_cases h : i < qOff o s
    · obtain ⟨j, h1, h2, h3⟩ := ih i h
      exact ⟨j, by omega, h2, h3⟩
    · exact ⟨s, by omega, by omega, hi⟩
section PT
variable {μ : Nat → Int32} {es eg eo ew o a b cc g : Nat → Int32} {s tot : Nat} {sp wt : Nat → Nat}
theorem m_firstOf {β : Nat → Nat → Int32} {post : Int32 → gS → Prop} {k : Nat} (hk : k < s) (hs : s ≤ 12) (hls : ∀ j, j < s → rLs o a b cc es eg eo ew j) (hop : ∀ j, j < s → ∃ k : Nat, k < 7 ∧ o j = nI k) (b14 : β 14 = ew) (hp : post (nI (qOff o k)) (μ, β)) : wp_Md_firstOf μ β (nI k) post := by
  have hok := (qOff_le o k).1
  have hlk : qOff o (k + 1) = qOff o k + qLn (o k) := rfl
  have hl1 := (qLn_in (o k)).1
  have key : ∀ (m i : Nat), i + m = qOff o k → wp_Md_firstOf_L2 μ β (nI k) (nI i) post := by
    intro m i hi X hX
    induction m generalizing i with
    | zero =>
      refine hX _ _ _ _ ?_
      unfold wp_Md_firstOf_B2
      rw [nI_clamp (by omega), b14]
      have ei : i = qOff o k := by omega
      have := (ent (hls k hk) (hop k hk) (i := i) (by omega) (by omega)).1
      refine ⟨vp_in_nI (by omega) (by decide), br_t this ?_⟩
      rw [ei]
      exact hp
    | succ m ih =>
      refine hX _ _ _ _ ?_
      unfold wp_Md_firstOf_B2
      rw [nI_clamp (by omega), b14, io1, nI_1]
      obtain ⟨j, h1, h2, h3⟩ := ent_at (o := o) k i (by omega)
      have := (ent (hls j (by omega)) (hop j (by omega)) h2 h3).1
      refine ⟨vp_in_nI (by omega) (by decide), br_f ?_ (ih (i + 1) (by omega))⟩
      rw [this]
      intro z
      have := (nI_eq (by omega) (by omega)).mp z
      omega
  exact key (qOff o k) 0 (by omega)
/-- the order of an entry -/
theorem m_write {β : Nat → Nat → Int32} {G : Nat → Int32} {post : gS → Prop} {i : Nat} (hs : s ≤ 12) (ht60 : tot < 60) (e24 : μ 24 = nI tot) (hi : i < tot) (htot : (o (s - 1) = 6 ∧ tot = qOff o s) ∨ (¬ o (s - 1) = 6 ∧ tot = qOff o s + 1 ∧ qAt es eg eo ew (qOff o s) 0 1 (-1) (-1))) (hs0 : 0 < s) (hls : ∀ j, j < s → rLs o a b cc es eg eo ew j) (hop : ∀ j, j < s → ∃ k : Nat, k < 7 ∧ o j = nI k) (hg : ∀ j, j < s → o j = 4 → ∃ k : Nat, k < s ∧ g j = nI k) (hsp : ∀ i, i < tot → sp i < 64) (hbw : ∀ i, i < tot → qBb es eg i + 1024 * wt i < 32768) (hw0 : ∀ i, i < tot → qKd es eg i = 2 → wt i = 0) (b10 : β 10 = g) (b11 : β 11 = es) (b12 : β 12 = eg) (b14 : β 14 = ew) (b15 : ∀ i, i < tot → β 15 i = nI (sp i)) (b16 : ∀ i, i < tot → β 16 i = nI (wt i))
    (hp : post (μ, va_up β 1 (upd G (sp i) (qFw (qKd es eg) (qBb es eg) sp wt (qTg o g ew) tot i)))) : wp_Md_write μ (va_up β 1 G) (nI i) post := by
  have cl : (nI i).toNatClampNeg = i := nI_clamp (by omega)
  have vi : vp_in (nI i) 64 := vp_in_nI (by omega) (by decide)
  have vs : vp_in (nI (sp i)) 64 := vp_in_nI (hsp i hi) (by decide)
  have e15 : (va_up β 1 G) 15 i = nI (sp i) := b15 i hi
  have e16 : (va_up β 1 G) 16 i = nI (wt i) := b16 i hi
  have e11 : (va_up β 1 G) 11 i = es i := by show β 11 i = _; rw [b11]
  have e12 : (va_up β 1 G) 12 i = eg i := by show β 12 i = _; rw [b12]
  -- the end: what is written
  have END : ∀ (w q : Nat) (t0 : Int32), ¬ eg i = 1 → w < 32768 → q < 64 → t0 = nI q → post (μ, va_up β 1 (upd G (sp i) (nI (w + qLb (sp i) q)))) → wp_Md_write_J170 μ (va_up β 1 G) (nI i) (nI (sp i)) (nI w) t0 post := by
    intro w q t0 h1 hw hq ht hp'
    unfold wp_Md_write_J170 wp_Md_write_J221
    rw [cl, e12, ht, nI_clamp (n := sp i) (by have := hsp i hi; omega), q_leadM hw (hsp i hi) hq, bx_uu]
    exact ⟨vi, bs_f h1 ⟨vs, hp'⟩⟩
  have STP : ∀ (w t0 : Int32), eg i = 1 → post (μ, va_up β 1 (upd G (sp i) 1015824)) → wp_Md_write_J170 μ (va_up β 1 G) (nI i) (nI (sp i)) w t0 post := by
    intro w t0 h1 hp'
    unfold wp_Md_write_J170 wp_Md_write_J221
    rw [cl, e12, nI_clamp (n := sp i) (by have := hsp i hi; omega), bx_uu, bx_uu]
    exact ⟨vi, bs_t h1 ⟨vs, hp'⟩⟩
  have BEG : ((¬ es i = 0 → wp_Md_write_J55 μ (va_up β 1 G) (nI i) (nI (sp i)) ((es i ||| (eg i <<< ((4 : Int32) &&& 31))) ||| (nI (wt i) <<< ((10 : Int32) &&& 31))) post) ∧ (es i = 0 → vp_in (nI i) 64 ∧ ((¬ eg i = 0 → wp_Md_write_J55 μ (va_up β 1 G) (nI i) (nI (sp i)) ((es i ||| (eg i <<< ((4 : Int32) &&& 31))) ||| (nI (wt i) <<< ((10 : Int32) &&& 31))) post) ∧ (eg i = 0 → wp_Md_write_J56 μ (va_up β 1 G) (nI i) (nI (sp i)) ((es i ||| (eg i <<< ((4 : Int32) &&& 31))) ||| (nI (wt i) <<< ((10 : Int32) &&& 31))) 1 post)))) → wp_Md_write μ (va_up β 1 G) (nI i) post := by
    intro h
    unfold wp_Md_write
    rw [cl, e11, e12, e15, e16]
    exact ⟨vi, vi, vi, vi, vi, h⟩
  have ep : ∀ n : Nat, nI i + nI n = nI (i + n) := fun n => nI_add i n
  -- a stop
  have STOP : es i = 0 → eg i = 1 → wp_Md_write μ (va_up β 1 G) (nI i) post := by
    intro h1 h2
    have hp' : post (μ, va_up β 1 (upd G (sp i) 1015824)) := by
      have e : qFw (qKd es eg) (qBb es eg) sp wt (qTg o g ew) tot i = 1015824 := by
        unfold qFw qCw
        rw [qKd_3 h2]
        rfl
      rw [e] at hp
      exact hp
    refine BEG ⟨fun z => absurd h1 z, fun _ => ⟨vi, bs_f (by rw [h2]; decide) ?_⟩⟩
    unfold wp_Md_write_J55 wp_Md_write_J56 wp_Md_write_J101 wp_Md_write_J102
    refine br_t rfl (br_t rfl ⟨fun _ => STP _ _ h2 hp', fun z => ⟨?_, STP _ _ h2 hp'⟩⟩)
    have e1 : nI i + 1 = nI (i + 1) := nI_1 i
    rw [e1]
    exact vp_in_nI (by omega) (by decide)
  by_cases hlast : i < qOff o s
  · obtain ⟨j, hj, h1, h2⟩ := ent_at s i hlast
    have hos : qOff o s ≤ tot := by rcases htot with ⟨-, h⟩ | ⟨-, h, -⟩ <;> omega
    have hmj := qOff_mono o (show j + 1 ≤ s by omega)
    obtain ⟨eo1, hcase⟩ := ent (hls j hj) (hop j hj) h1 h2
    rcases hcase with ⟨s1, g1, c1, c2, c3, c4, c5, c6⟩ | ⟨h4, hi4, c5, c6⟩ | ⟨h4, hi4, c5, c6⟩ | ⟨c5, c6⟩
    · -- an order
      have hk0 := qKd_0 c5 c6 c1 c2 c3 c4
      have hnext : i + 1 < tot := by
        -- the last entry is a stop
        rcases htot with ⟨h6, ht⟩ | ⟨-, ht, -⟩
        · by_cases z : i + 1 = tot
          · exfalso
            have hl : qOff o s = qOff o (s - 1) + qLn (o (s - 1)) := by
              have : qOff o (s - 1 + 1) = qOff o (s - 1) + qLn (o (s - 1)) := rfl
              rw [show s - 1 + 1 = s by omega] at this
              exact this
            rw [h6, show qLn 6 = 1 by decide] at hl
            obtain ⟨-, -, -, -, -, -, l6⟩ := hls (s - 1) (by omega)
            have := (l6 h6).2.1
            rw [show qOff o (s - 1) = i by omega, c6] at this
            exact c3 ((nI_eq (b := 1) (by omega) (by decide)).mp this)
          · omega
        · omega
      have hwt : wt i < 32 := by
        have := hbw i hi
        omega
      have hp' : post (μ, va_up β 1 (upd G (sp i) (nI (s1 + 16 * g1 + 1024 * wt i + qLb (sp i) (sp (i + 1)))))) := by
        have e : qFw (qKd es eg) (qBb es eg) sp wt (qTg o g ew) tot i = nI (s1 + 16 * g1 + 1024 * wt i + qLb (sp i) (sp (i + 1))) := by
          have hx : qNx (qKd es eg) i = i + 1 := if_neg (by rw [hk0]; decide)
          unfold qFw qCw
          rw [if_neg (by rw [hk0]; decide), if_neg (by rw [hk0]; decide), if_neg (by rw [hk0]; decide), hx, if_pos hnext, qBb_e c5 c6 c2 c4]
        rw [e] at hp
        exact hp
      refine BEG (bs_f (by rw [c5]; exact nI_ne0 c1 (by omega)) ?_)
      rw [c5, c6, q_word c2 c4 hwt]
      unfold wp_Md_write_J55 wp_Md_write_J56 wp_Md_write_J101 wp_Md_write_J102
      have e1 : nI i + 1 = nI (i + 1) := nI_1 i
      rw [e1]
      refine br_t rfl (br_t rfl (br_f (by rw [e24]; exact nI_ge hnext (by omega)) ⟨vp_in_nI (by omega) (by decide), ?_⟩))
      have hb1 := hbw i hi
      rw [qBb_e c5 c6 c2 c4] at hb1
      exact END _ (sp (i + 1)) _ (by rw [c6]; intro z; exact c3 ((nI_eq (b := 1) (by omega) (by decide)).mp z)) hb1 (hsp _ hnext) (by rw [nI_clamp (by omega)]; exact b15 _ hnext) hp'
    · -- the first of a fork
      obtain ⟨-, -, -, -, l4, -, -⟩ := hls j hj
      obtain ⟨q1, q2, q3⟩ := l4 h4
      have hlen : qOff o (j + 1) = qOff o j + 3 := by
        show qOff o j + qLn (o j) = _
        rw [h4]
        rfl
      have hprev : es (i - 1) = 2 ∧ eg (i - 1) = 11 := by rw [hi4, show qOff o j + 1 - 1 = qOff o j by omega]; exact ⟨q1.1, q1.2.1⟩
      have hk1 : qKd es eg i = 1 := qKd_1 c5 c6 (by rw [hprev.1]; decide)
      have hnext : i + 2 < tot := by
        -- something is listed behind a fork
        have hne : qOff o (j + 1) < tot := by
          rcases htot with ⟨h6, ht⟩ | ⟨-, ht, -⟩
          · by_cases z : j + 1 = s
            · exfalso
              rw [show j = s - 1 by omega, h6] at h4
              exact absurd h4 (by decide)
            · have a1 := qOff_mono o (show j + 2 ≤ s by omega)
              have a2 : qOff o (j + 2) = qOff o (j + 1) + qLn (o (j + 1)) := rfl
              have a3 := (qLn_in (o (j + 1))).1
              omega
          · omega
        omega
      have hwt : wt i < 32 := by
        have := hbw i hi
        omega
      have hb0 : qBb es eg i = 0 := qBb_e (s := 0) (g := 0) c5 c6 (by decide) (by decide)
      have hp' : post (μ, va_up β 1 (upd G (sp i) (nI (0 + 16 * 0 + 1024 * wt i + qLb (sp i) (sp (i + 2)))))) := by
        have e : qFw (qKd es eg) (qBb es eg) sp wt (qTg o g ew) tot i = nI (0 + 16 * 0 + 1024 * wt i + qLb (sp i) (sp (i + 2))) := by
          have hx : qNx (qKd es eg) i = i + 2 := if_pos hk1
          unfold qFw qCw
          rw [if_neg (by rw [hk1]; decide), if_neg (by rw [hk1]; decide), if_neg (by rw [hk1]; decide), hx, if_pos hnext, hb0]
        rw [e] at hp
        exact hp
      refine BEG ⟨fun z => absurd c5 z, fun _ => ⟨vi, bs_t c6 ?_⟩⟩
      rw [c5, c6, show ((0 : Int32) ||| ((0 : Int32) <<< ((4 : Int32) &&& 31))) ||| (nI (wt i) <<< ((10 : Int32) &&& 31)) = nI (0 + 16 * 0 + 1024 * wt i) from q_word (s := 0) (g := 0) (by decide) (by decide) hwt]
      unfold wp_Md_write_J56 wp_Md_write_J101 wp_Md_write_J102
      have em : nI i - 1 = nI (i - 1) := pk_sub (b := 1) (by omega)
      have e2 : nI i + 2 = nI (i + 2) := nI_add i 2
      rw [em, e2, nI_clamp (n := i - 1) (by omega), nI_clamp (n := i + 2) (by omega)]
      refine br_f (by decide) (br_f (nI_nle (by omega) (by omega)) ⟨vp_in_nI (by omega) (by decide), bs_f ?_ ?_⟩)
      · show ¬ β 12 (i - 1) = 0
        rw [b12, hprev.2]
        decide
      · refine br_f (by decide) (br_t rfl ⟨vp_in_nI (by omega) (by decide), ?_⟩)
        have hb1 := hbw i hi
        rw [hb0] at hb1
        exact END _ (sp (i + 2)) _ (by rw [c6]; decide) (by omega) (hsp _ hnext) (b15 _ hnext) hp'
    · -- the second of a fork
      obtain ⟨-, -, -, -, l4, -, -⟩ := hls j hj
      obtain ⟨q1, q2, q3⟩ := l4 h4
      have hlen : qOff o (j + 1) = qOff o j + 3 := by
        show qOff o j + qLn (o j) = _
        rw [h4]
        rfl
      have hprev : es (i - 1) = 0 ∧ eg (i - 1) = 0 := by rw [hi4, show qOff o j + 2 - 1 = qOff o j + 1 by omega]; exact ⟨q2.1, q2.2.1⟩
      have hpp : ew (i - 2) = nI j ∧ eg (i - 2) = 11 := by rw [hi4, show qOff o j + 2 - 2 = qOff o j by omega]; exact ⟨q1.2.2.2, q1.2.1⟩
      have hk2 : qKd es eg i = 2 := qKd_2 c5 c6 hprev.1 hprev.2
      obtain ⟨k, hk, ek⟩ := hg j hj h4
      have hmk := qOff_mono o (show k + 1 ≤ s by omega)
      have hlk : qOff o (k + 1) = qOff o k + qLn (o k) := rfl
      have hl1 := (qLn_in (o k)).1
      have hT : qTg o g ew i = qOff o k := by
        unfold qTg
        rw [eo1, nI_clamp (n := j) (by omega), ek, nI_clamp (by omega)]
      have hp' : post (μ, va_up β 1 (upd G (sp i) (nI (0 + 16 * 0 + 1024 * wt i + qLb (sp i) (sp (qOff o k)))))) := by
        have e : qFw (qKd es eg) (qBb es eg) sp wt (qTg o g ew) tot i = nI (0 + 16 * 0 + 1024 * wt i + qLb (sp i) (sp (qOff o k))) := by
          unfold qFw
          rw [if_pos hk2, hT, hw0 i hi hk2]
          congr 1
          omega
        rw [e] at hp
        exact hp
      have hwt : wt i < 32 := by rw [hw0 i hi hk2]; decide
      refine BEG ⟨fun z => absurd c5 z, fun _ => ⟨vi, bs_t c6 ?_⟩⟩
      rw [c5, c6, show ((0 : Int32) ||| ((0 : Int32) <<< ((4 : Int32) &&& 31))) ||| (nI (wt i) <<< ((10 : Int32) &&& 31)) = nI (0 + 16 * 0 + 1024 * wt i) from q_word (s := 0) (g := 0) (by decide) (by decide) hwt]
      have em : nI i - 1 = nI (i - 1) := pk_sub (b := 1) (by omega)
      have em2 : nI i - 2 = nI (i - 2) := pk_sub (b := 2) (by omega)
      have vm1 : vp_in (nI (i - 1)) 64 := vp_in_nI (by omega) (by decide)
      have vm2 : vp_in (nI (i - 2)) 64 := vp_in_nI (by omega) (by decide)
      unfold wp_Md_write_J56 wp_Md_isSecond wp_Md_isSecond_J34 wp_Md_isSecond_J35
      rw [em, em2, cl, nI_clamp (n := i - 1) (by omega), nI_clamp (n := i - 2) (by omega)]
      have f12 : (va_up β 1 G) 12 (i - 1) = 0 := by show β 12 (i - 1) = 0; rw [b12]; exact hprev.2
      have f11 : (va_up β 1 G) 11 (i - 1) = 0 := by show β 11 (i - 1) = 0; rw [b11]; exact hprev.1
      have f14 : (va_up β 1 G) 14 i = nI j := by show β 14 i = _; rw [b14]; exact eo1
      have f14' : (va_up β 1 G) 14 (i - 2) = nI j := by show β 14 (i - 2) = _; rw [b14]; exact hpp.1
      have f12' : (va_up β 1 G) 12 (i - 2) = 11 := by show β 12 (i - 2) = 11; rw [b12]; exact hpp.2
      have f10 : (va_up β 1 G) 10 j = nI k := by show β 10 j = _; rw [b10]; exact ek
      refine br_f (by decide) (br_f (nI_nle (by omega) (by omega)) ⟨vm1, bs_t f12 ⟨vm1, bs_t f11 ⟨vi, vm2, bs_t (f14.trans f14'.symm) ⟨vm2, bs_t f12' ⟨rfl, br_f (by decide) ?_⟩⟩⟩⟩⟩)
      show wp_Md_write_J102 μ (va_up β 1 G) (nI i) (nI (sp i)) (nI (0 + 16 * 0 + 1024 * wt i)) 1 1 post
      unfold wp_Md_write_J102
      rw [cl, f14, nI_clamp (n := j) (by omega), f10]
      refine br_f (by decide) (br_f (by decide) ⟨vi, vp_in_nI (by omega) (by decide), ?_⟩)
      refine m_firstOf hk hs hls hop b14 ⟨vp_in_nI (by omega) (by decide), ?_⟩
      have hb1 := hw0 i hi hk2
      exact END _ (sp (qOff o k)) _ (by rw [c6]; decide) (by rw [hb1]; decide) (hsp _ (by omega)) (by rw [nI_clamp (by omega)]; exact b15 _ (by omega)) hp'
    · exact STOP c5 c6
  · rcases htot with ⟨-, ht⟩ | ⟨-, ht, hat⟩
    · omega
    · have : i = qOff o s := by omega
      subst this
      exact STOP hat.1 hat.2.1
end PT
