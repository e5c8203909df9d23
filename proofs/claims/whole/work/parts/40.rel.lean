-- pure rows: what relates the two states (σ, α) and (μ, β)
theorem bs_t {c A B : Prop} (h : c) (b : B) : (¬ c → A) ∧ (c → B) := ⟨fun x => absurd h x, fun _ => b⟩
theorem bs_f {c A B : Prop} (h : ¬ c) (a : A) : (¬ c → A) ∧ (c → B) := ⟨fun _ => a, fun x => absurd x h⟩
/-- a value that a short keeps -/
def qS (x : Int32) : Prop := narrow .short (.int x) = .int x
theorem qS_nar (x : Int32) : qS (vp_nar .short x) := by
  unfold qS
  rw [vp_nar_short]
  exact pk_ns x
theorem qS_s (x : Int32) : qS x.toInt16.toInt32 := pk_ns x
theorem qS_0 : qS 0 := rfl
theorem qS_id {x : Int32} (h : qS x) : vp_nar .short x = x := by
  have h : narrow .short (.int x) = .int x := h
  simp only [vp_nar, h]
theorem qS_upd {f : Nat → Int32} {k : Nat} {x : Int32} (h : ∀ j, qS (f j)) (hx : qS x) : ∀ j, qS (upd f k x j) := by
  intro j
  unfold upd
  split
  · exact hx
  · exact h j
theorem q_idx (i j : Nat) : nI i * 32 + nI j = nI (32 * i + j) := by
  show nI i * nI 32 + nI j = _
  rw [pk_mul, nI_add, Nat.mul_comm]
theorem q_idx' (i j : Nat) : 32 * nI i + nI j = nI (32 * i + j) := by
  show nI 32 * nI i + nI j = _
  rw [pk_mul, nI_add]
theorem q_sw {x : Int32} {lo hi : Int} (A B : Int32) (ha : A.toInt = lo) (hb : B.toInt = hi) (h : x.toInt < lo ∨ hi < x.toInt) : x < A ∨ B < x := by
  rw [← ha, ← hb] at h
  rcases h with h | h
  · exact Or.inl (Int32.lt_iff_toInt_lt.mpr h)
  · exact Or.inr (Int32.lt_iff_toInt_lt.mpr h)
def rGo (g m : Int32) : Prop := g = m ∧ (m = 0 ∨ m = 1)
def rLat (n : Nat) (l p c ml mp mc : Int32) : Prop := c = mc ∧ ∃ k : Nat, k ≤ n ∧ mc = nI k ∧ (k = 0 → l = -1 ∧ p = -1) ∧ (0 < k → l = ml ∧ p = mp)
def rOrd (a b : Nat → Int32) : Prop := a = b ∧ ∀ j, j < 64 → ∃ o : Nat, o < 2097152 ∧ a j = nI o
def rWrd (a b : Nat → Int32) : Prop := a = b ∧ ∀ j, qS (a j)
def rDeck (ca ta : Int32) (a : Nat → Int32) (ma mc : Int32) (b b4 : Nat → Int32) : Prop := ∃ c t : Nat, t ≤ c ∧ c ≤ 48 ∧ ca = nI c ∧ ta = nI t ∧ ma = nI (c - t) ∧ mc = nI c ∧ (∀ j, j < c - t → b j = a (t + j)) ∧ (∀ j, qS (a j)) ∧ (∀ j, qS (b j)) ∧ (∀ j, qS (b4 j))
def rPun (n : Nat) (k0 q0 : Int32) (a : Nat → Int32) (k1 q1 : Int32) (b : Nat → Int32) : Prop := a = b ∧ (∀ j, qS (a j)) ∧ ∃ k : Nat, k ≤ 60 ∧ k0 = nI k ∧ k1 = nI k ∧ ((k = 0 ∧ q1 = -6) ∨ (0 < k ∧ ∃ q : Nat, q ≤ n ∧ q0 = nI q ∧ q1 = nI q))
def rMul (l fr w : Int32) : Prop := fr = 0 ∧ ∃ k : Nat, k ≤ 16 ∧ l = nI k ∧ w = nI k
def rProg (s0 s1 : Int32) (o a b c g o' a' b' c' g' : Nat → Int32) : Prop := o = o' ∧ a = a' ∧ b = b' ∧ c = c' ∧ g = g' ∧ ∃ s : Nat, s ≤ 12 ∧ s0 = nI s ∧ s1 = nI s ∧ ∀ j, j < s → (∃ k : Nat, k < 7 ∧ o j = nI k) ∧ (∃ k : Nat, k < 16 ∧ a j = nI k) ∧ (∃ k : Nat, k < 16 ∧ b j = nI k) ∧ (∃ k : Nat, k < 16 ∧ c j = nI k) ∧ (o j = 4 → ∃ k : Nat, k < 12 ∧ g j = nI k)
def rKept (f v : Nat → Int32) (kn : Int32) (bg vs : Nat → Int32) : Prop := (∃ k : Nat, k ≤ 12 ∧ kn = nI k ∧ ∀ j, j < 12 → f j = if j < k then bg j else -1) ∧ ∀ j, j < 16 → v j = vs j
def rDue (n d : Nat) (d0 l0 d1 l1 : Int32) : Prop := n ≤ d ∧ d < 2 ^ 29 + 200 ∧ d0 = nI d ∧ d1 = nI d ∧ ∃ l : Nat, l < 2 ∧ l0 = nI l ∧ l1 = nI l
def rShut (f l mf ml : Int32) : Prop := f = 1 ∧ l = 0 ∧ mf = 0 ∧ ml = -1
def rCur (d F : Nat) (s t f l v o mf ml tu : Int32) : Prop := ∃ k L V : Nat, k < 2097152 ∧ o = nI k ∧ s = nI (k % 16) ∧ t = nI (k / 16 % 16) ∧ f = nI F ∧ mf = nI F ∧ l = nI L ∧ ml = nI L ∧ v = nI V ∧ L ≤ V + 1 ∧ V < 2 ^ 29 + 100 ∧ ((tu = 0 ∧ d = V) ∨ (tu = 1 ∧ d = V + 1))
def rBef (F : Nat) (s t f l o mf ml : Int32) : Prop := ∃ k G L : Nat, k < 2097152 ∧ o = nI k ∧ s = nI (k % 16) ∧ t = nI (k / 16 % 16) ∧ f = nI G ∧ mf = nI G ∧ G < 2 ^ 30 ∧ l = nI L ∧ ml = nI L ∧ L < F
def rWins (d : Nat) (s t f l v s' t' f' l' o mf ml o' mf' ml' tu : Int32) : Prop := (rShut f' l' mf' ml' ∧ rShut f l mf ml) ∨ ∃ F : Nat, F < 2 ^ 30 ∧ rCur d F s t f l v o mf ml tu ∧ (rShut f' l' mf' ml' ∨ rBef F s' t' f' l' o' mf' ml')
def rFac (w fx fm : Int32) : Prop := w = 0 ∨ (fx.toInt16.toInt32 = fm ∧ qS fm)
def qM (n f : Nat) : Prop := f + 40 < n ∧ ((n - (f + 40)) % 8 = 1 ∨ (n - (f + 40)) % 8 = 2)
def rCard (n : Nat) (ps fa rm ta : Int32) (a : Nat → Int32) (fe mo : Int32) (b : Nat → Int32) : Prop :=
  (ps = 0 ∧ rm = 0 ∧ (fe = -1 ∨ ∃ f : Nat, fe = nI f ∧ f + 130 < n)) ∨
  ∃ f t : Nat, ps = 1 ∧ fa = nI f ∧ fe = nI f ∧ f < n ∧ n ≤ f + 130 ∧ ta = nI t ∧ 12 ≤ t ∧ t ≤ 48 ∧ (∀ i, i < 12 → b i = a (t - 12 + i)) ∧ (rm = 0 ∨ rm = 1) ∧ (mo = 0 ∨ mo = 1) ∧ (qM n f → rm = mo) ∧ (¬ qM n f → rm = 0)
/-- what stands between two calls -/
def Rel (n : Nat) (σ : Nat → Int32) (α : Nat → Nat → Int32) (μ : Nat → Int32) (β : Nat → Nat → Int32) : Prop :=
  σ 9 = nI n ∧ μ 0 = nI n ∧ rGo (σ 7) (μ 1) ∧ σ 8 = μ 2 ∧ rLat n (σ 12) (σ 13) (σ 14) (μ 5) (μ 6) (μ 7) ∧ rOrd (α 2) (β 1) ∧ rWrd (α 3) (β 2) ∧
  rDeck (σ 0) (σ 1) (α 5) (μ 17) (μ 18) (β 3) (β 4) ∧ rPun n (σ 5) (σ 6) (α 7) (μ 21) (μ 22) (β 5) ∧ rMul (σ 16) (σ 17) (μ 15) ∧
  rProg (σ 28) (μ 23) (α 13) (α 14) (α 15) (α 16) (α 17) (β 6) (β 7) (β 8) (β 9) (β 10) ∧ rKept (α 22) (α 21) (μ 25) (β 20) (β 21) ∧
  (μ 1 ≠ 0 → (∃ d : Nat, rDue n d (σ 11) (σ 10) (μ 3) (μ 4) ∧ rWins d (σ 18) (σ 19) (σ 20) (σ 21) (σ 22) (σ 23) (σ 24) (σ 25) (σ 26) (μ 8) (μ 9) (μ 10) (μ 11) (μ 12) (μ 13) (μ 14)) ∧
    rFac (μ 15) (σ 15) (μ 16) ∧ rCard n (σ 2) (σ 3) (σ 4) (σ 1) (α 5) (μ 19) (μ 20) (β 4))
-- places of orders
def qO (l p : Int32) : Prop := ¬ l < 0 ∧ ¬ 2 ≤ l ∧ ¬ p < 0 ∧ ¬ 32 ≤ p
theorem qO_nI {l p : Int32} (h : qO l p) : ∃ i j : Nat, i < 2 ∧ j < 32 ∧ l = nI i ∧ p = nI j := by
  obtain ⟨h1, h2, h3, h4⟩ := h
  obtain ⟨i, hi, rfl⟩ := nI_of h1
  obtain ⟨j, hj, rfl⟩ := nI_of h3
  refine ⟨i, j, ?_, ?_, rfl, rfl⟩
  · exact Nat.lt_of_not_le (fun h => h2 (nI_le h hi))
  · exact Nat.lt_of_not_le (fun h => h4 (nI_le h hj))
section PA
variable {σ μ : Nat → Int32} {α β : Nat → Nat → Int32} {n : Nat} {l p x1 x2 x3 : Int32}
theorem s_orderSpot {post : Int32 → gS → Prop} (hn : ¬ qO l p → post (-1) (σ, α)) (hy : qO l p → post (l * 32 + p) (σ, α)) : wp_St_orderSpot σ α l p post := by
  unfold wp_St_orderSpot wp_St_orderSpot_J23 wp_St_orderSpot_J24 wp_St_orderSpot_J39
  have N : ¬ qO l p → ((0 : Int32) = 0 → post (-1) (σ, α)) ∧ (¬ (0 : Int32) = 0 → post (l * 32 + p) (σ, α)) := fun q => br_t rfl (hn q)
  exact ⟨fun h => N (fun q => q.1 h), fun h1 => ⟨fun h => N (fun q => q.2.1 h), fun h2 => ⟨fun h => N (fun q => q.2.2.1 h), fun h3 => ⟨fun h => N (fun q => q.2.2.2 h), fun h4 => br_f (by decide) (hy ⟨h1, h2, h3, h4⟩)⟩⟩⟩⟩
theorem s_isOrder {post : Int32 → gS → Prop} (hn : ¬ qO l p → post 0 (μ, β)) (hy : qO l p → post 1 (μ, β)) : wp_Md_isOrder μ β l p post := by
  unfold wp_Md_isOrder wp_Md_isOrder_J9 wp_Md_isOrder_J23 wp_Md_isOrder_J24
  have K : ¬ l < 0 → ¬ 2 ≤ l → (p < 0 → narrow .boolean (.int (0 : Int32)) = .int (0 : Int32) ∧ post 0 (μ, β)) ∧ (¬ p < 0 → ((32 : Int32) ≤ p → narrow .boolean (.int (0 : Int32)) = .int (0 : Int32) ∧ post 0 (μ, β)) ∧ (¬ (32 : Int32) ≤ p → narrow .boolean (.int (1 : Int32)) = .int (1 : Int32) ∧ post 1 (μ, β))) :=
    fun a b => ⟨fun h => ⟨rfl, hn (fun q => q.2.2.1 h)⟩, fun h => ⟨fun h2 => ⟨rfl, hn (fun q => q.2.2.2 h2)⟩, fun h2 => ⟨rfl, hy ⟨a, b, h, h2⟩⟩⟩⟩
  refine ⟨fun h => K (by rw [h]; decide) (by rw [h]; decide), fun h0 => ⟨fun h1 => ⟨rfl, hn (fun q => ?_)⟩, fun h => K (by rw [h]; decide) (by rw [h]; decide)⟩⟩
  have a := q.1
  have b := q.2.1
  grind
theorem x_order {post : Int32 → gS → Prop} (hn : ¬ (qO x1 x2 ∧ ¬ x3 < 0 ∧ x3 ≤ 2097151) → post 0 (σ, α)) (hy : qO x1 x2 → ¬ x3 < 0 → x3 ≤ 2097151 → vp_in (x1 * 32 + x2) 64 ∧ post 1 (σ, va_up α 2 (upd (α 2) (x1 * 32 + x2).toNatClampNeg x3))) : wp_Dm_order σ α x1 x2 x3 post := by
  unfold wp_Dm_order wp_Dm_order_J22
  refine s_orderSpot (fun q => br_t (by decide) (hn (fun z => q z.1))) (fun q => ?_)
  refine br_f ?_ ⟨fun h => hn (fun z => z.2.1 h), fun h => ⟨fun h2 => hy q h h2, fun h2 => hn (fun z => h2 z.2.2)⟩⟩
  obtain ⟨i, j, hi, hj, rfl, rfl⟩ := qO_nI q
  rw [q_idx]
  exact nI_pos (by omega)
theorem m_order {post : Int32 → gS → Prop} (hn : ¬ (qO x1 x2 ∧ ¬ x3 < 0 ∧ x3 ≤ 2097151) → post 0 (μ, β)) (hy : qO x1 x2 → ¬ x3 < 0 → x3 ≤ 2097151 → vp_in (32 * x1 + x2) 64 ∧ post 1 (μ, va_up β 1 (upd (β 1) (32 * x1 + x2).toNatClampNeg x3))) : wp_Md_order μ β x1 x2 x3 post := by
  unfold wp_Md_order wp_Md_order_J18
  refine s_isOrder (fun q => br_t rfl (hn (fun z => q z.1))) (fun q => ?_)
  exact br_f (by decide) ⟨fun h => hn (fun z => z.2.1 h), fun h => ⟨fun h2 => hy q h h2, fun h2 => hn (fun z => h2 z.2.2)⟩⟩
theorem p_order {Q : Int32 → gS → Int32 → gS → Prop} (hQ : ∀ r u r' u', r = r' ∧ Rel n u.1 u.2 u'.1 u'.2 → Q r u r' u') (h : Rel n σ α μ β) : wp_Dm_order σ α x1 x2 x3 (fun r u => wp_Md_order μ β x1 x2 x3 (Q r u)) := by
  refine x_order (fun q => m_order (fun _ => hQ _ _ _ _ ⟨rfl, h⟩) (fun a b c => absurd ⟨a, b, c⟩ q)) (fun q a b => ?_)
  obtain ⟨hN, hM, hG, hF, hL, hO, hW, hD, hP, hU, hS, hK, hR⟩ := h
  obtain ⟨i, j, hi, hj, rfl, rfl⟩ := qO_nI q
  rw [q_idx]
  refine ⟨vp_in_nI (by omega) (by decide), m_order (fun z => absurd ⟨q, a, b⟩ z) (fun _ _ _ => ?_)⟩
  rw [q_idx']
  refine ⟨vp_in_nI (by omega) (by decide), hQ _ _ _ _ ⟨rfl, hN, hM, hG, hF, hL, ?_, hW, hD, hP, hU, hS, hK, hR⟩⟩
  show rOrd (upd (α 2) (nI (32 * i + j)).toNatClampNeg x3) (upd (β 1) (nI (32 * i + j)).toNatClampNeg x3)
  obtain ⟨e, hb⟩ := hO
  refine ⟨by rw [e], fun k hk => ?_⟩
  unfold upd
  split
  · obtain ⟨o, ho, rfl⟩ := nI_of2 (x := x3) (M := 2097151) (n := 2097151) (by decide) a b
    exact ⟨o, by omega, rfl⟩
  · exact hb k hk
theorem p_read {Q : Int32 → gS → Int32 → gS → Prop} (hQ : ∀ r u r' u', r = r' ∧ Rel n u.1 u.2 u'.1 u'.2 → Q r u r' u') (h : Rel n σ α μ β) : wp_Dm_read σ α x1 x2 (fun r u => wp_Md_read_II μ β x1 x2 (Q r u)) := by
  unfold wp_Dm_read wp_Dm_read_J23 wp_Md_read_II wp_Md_read_II_J23
  refine s_orderSpot (fun q => br_f (by decide) (s_isOrder (fun _ => br_t rfl (hQ _ _ _ _ ⟨rfl, h⟩)) (fun a => absurd a q))) (fun q => ?_)
  obtain ⟨i, j, hi, hj, rfl, rfl⟩ := qO_nI q
  rw [q_idx]
  refine br_t (nI_pos' (by omega)) ⟨vp_in_nI (by omega) (by decide), s_isOrder (fun z => absurd q z) (fun _ => br_f (by decide) ?_)⟩
  rw [q_idx']
  refine ⟨vp_in_nI (by omega) (by decide), hQ _ _ _ _ ⟨?_, h⟩⟩
  show α 2 _ = β 1 _
  rw [h.2.2.2.2.2.1.1]
theorem p_clear {Q : gS → gS → Prop} (hQ : ∀ u u', Rel n u.1 u.2 u'.1 u'.2 → Q u u') (h : Rel n σ α μ β) : wp_Dm_clear σ α (fun u => wp_Md_clear μ β (Q u)) := by
  unfold wp_Dm_clear wp_Md_clear
  obtain ⟨hN, hM, hG, hF, hL, hO, hW, hD, hP, hU, hS, hK, hR⟩ := h
  refine hQ _ _ ⟨hN, hM, hG, hF, hL, hO, hW, hD, hP, hU, ?_, hK, hR⟩
  obtain ⟨e1, e2, e3, e4, e5, s, hs, -, -, -⟩ := hS
  exact ⟨e1, e2, e3, e4, e5, 0, by omega, rfl, rfl, fun j hj => absurd hj (Nat.not_lt_zero j)⟩
end PA
