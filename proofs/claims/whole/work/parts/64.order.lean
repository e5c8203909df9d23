-- pure rows: one order is placed, on both sides
def qLb (p q : Nat) : Nat := 32768 * ((q + 126 - p) % 32) + 1048576 * (q / 32)
theorem q_or15 {b t l : Nat} (hb : b < 32768) (ht : t < 32) (hl : l < 2) : b ||| (t * 32768 ||| l * 1048576) = b + 32768 * t + 1048576 * l := by
  have p15 : (2 : Nat) ^ 15 = 32768 := by decide
  have p20 : (2 : Nat) ^ 20 = 1048576 := by decide
  have h1 : t * 32768 ||| l * 1048576 = (l * 32 + t) * 32768 := by
    have h := Nat.shiftLeft_add_eq_or_of_lt (b := t * 32768) (i := 20) (by omega) l
    rw [Nat.shiftLeft_eq, p20] at h
    rw [Nat.or_comm, ← h]
    omega
  have h2 : b ||| (l * 32 + t) * 32768 = (l * 32 + t) * 32768 + b := by
    have h := Nat.shiftLeft_add_eq_or_of_lt (b := b) (i := 15) (by omega) (l * 32 + t)
    rw [Nat.shiftLeft_eq, p15] at h
    rw [Nat.or_comm, ← h]
  rw [h1, h2]
  omega
/-- (q - p - 2) round -/
theorem q_tim {p q : Nat} (hp : p < 64) (hq : q < 64) : (nI q - nI p - 2) &&& 31 = nI ((q + 126 - p) % 32) := by
  have e : nI q - nI p - 2 = nI q - nI (p + 2) := by
    have : nI (p + 2) = nI p + 2 := (nI_add p 2).symm
    rw [this]
    grind
  rw [e, q_sub31 q (p + 2) (by omega) (by omega)]
  congr 1
  omega
theorem q_lead {b p q : Nat} (hb : b < 32768) (hp : p < 64) (hq : q < 64) : nI b ||| ((((nI q - nI p) - 2) &&& 31) <<< ((15 : Int32) &&& 31) ||| (nI q / 32) <<< ((20 : Int32) &&& 31)) = nI (b + qLb p q) := by
  have e1 : nI q / 32 = nI (q / 32) := pk_div (d := 32) (by omega) (by decide) (by decide)
  have hm : (q + 126 - p) % 32 < 32 := Nat.mod_lt _ (by decide)
  have hd : q / 32 < 2 := by omega
  rw [q_tim hp hq, e1, pk_shlN _ 15 (by decide) (by omega), pk_shlN _ 20 (by decide) (by omega), q_or, q_or]
  unfold qLb
  congr 1
  have := q_or15 hb hm hd
  rw [show (2 : Nat) ^ 15 = 32768 by decide, show (2 : Nat) ^ 20 = 1048576 by decide, this]
  omega
/-- the same as the second side spells it -/
theorem q_leadM {b p q : Nat} (hb : b < 32768) (hp : p < 64) (hq : q < 64) : (nI b ||| ((((nI q - nI p) - 2) &&& 31) <<< ((15 : Int32) &&& 31))) ||| ((nI q >>> ((5 : Int32) &&& 31)) <<< ((20 : Int32) &&& 31)) = nI (b + qLb p q) := by
  have e1 : nI q >>> ((5 : Int32) &&& 31) = nI q / 32 := by
    have a : nI q / 32 = nI (q / 32) := pk_div (d := 32) (by omega) (by decide) (by decide)
    rw [a]
    exact pk_shrN (by omega) _ 5 (by decide)
  rw [e1, Int32.or_assoc]
  exact q_lead hb hp hq
theorem q_word {s g w : Nat} (hs : s < 16) (hg : g < 16) (hw : w < 32) : (nI s ||| (nI g <<< ((4 : Int32) &&& 31))) ||| (nI w <<< ((10 : Int32) &&& 31)) = nI (s + 16 * g + 1024 * w) := by
  rw [pk_shlN _ 4 (by decide) (by omega), pk_shlN _ 10 (by decide) (by omega), q_or, q_or]
  congr 1
  have h1 : s ||| g * 2 ^ 4 = g * 16 + s := by
    have := Nat.shiftLeft_add_eq_or_of_lt (a := g) (b := s) (i := 4) (by omega)
    rw [Nat.shiftLeft_eq] at this
    rw [Nat.or_comm, ← this]
  have h2 : (g * 16 + s) ||| w * 2 ^ 10 = w * 1024 + (g * 16 + s) := by
    have := Nat.shiftLeft_add_eq_or_of_lt (a := w) (b := g * 16 + s) (i := 10) (by omega)
    rw [Nat.shiftLeft_eq] at this
    rw [Nat.or_comm, ← this]
  rw [h1, h2]
  omega
def qNx (kd : Nat → Nat) (i : Nat) : Nat := if kd i = 1 then i + 2 else i + 1
def qCw (kd bb sp wt : Nat → Nat) (c i : Nat) : Int32 := if kd i = 3 then 1015824 else if kd i = 2 then 0 else nI (bb i + 1024 * wt i + (if qNx kd i < c then qLb (sp i) (sp (qNx kd i)) else 0))
def qLd (kd sp : Nat → Nat) (c : Nat) : Int32 := if c = 0 then -1 else if kd (c - 1) = 3 then -1 else if kd (c - 1) = 2 then nI (sp (c - 2)) else nI (sp (c - 1))
def rPX (fr hb : Nat → Bool) (vp : Nat → Int32) (f : Nat) (σ : Nat → Int32) (α : Nat → Nat → Int32) : Prop := σ 36 = 1 ∧ σ 33 = nI f ∧ f < 32 ∧ (∀ q, q < 64 → (α 25 q = -1 ↔ fr q = true)) ∧ (∀ p, p < 32 → (α 26 p = -1 ↔ hb p = false)) ∧ (∀ v, v < 16 → α 27 v = vp v)
def rPM (fr hb : Nat → Bool) (vp : Nat → Int32) (β : Nat → Nat → Int32) : Prop := (∀ q, q < 64 → (β 17 q = 0 ↔ fr q = true)) ∧ (∀ p, p < 32 → (β 18 p = 0 ↔ hb p = false)) ∧ (∀ v, v < 16 → β 19 v = vp v)
def rAb (hb : Nat → Bool) (vp : Nat → Int32) : Prop := (∀ v, v < 16 → vp v = -1 ∨ ∃ p : Nat, p < 32 ∧ vp v = nI p ∧ hb p = true) ∧ qCt hb 32 ≤ qCt (fun v => decide (vp v ≠ -1)) 16
def rCt (kd bb sp wt : Nat → Nat) (c : Nat) (fr : Nat → Bool) (σ : Nat → Int32) (α : Nat → Nat → Int32) : Prop := σ 34 = qLd kd sp c ∧ σ 35 = nI c ∧ (∀ i, i < c → sp i < 64 ∧ bb i + 1024 * wt i < 32768 ∧ α 25 (sp i) = qCw kd bb sp wt c i) ∧ (∀ i j, i < c → j < c → sp i = sp j → i = j) ∧ (∀ q, q < 64 → fr q = false → ∃ i, i < c ∧ q = sp i) ∧ (∀ i, i < c → fr (sp i) = false)
section PK
variable {σ μ : Nat → Int32} {α β : Nat → Nat → Int32} {fr : Nat → Bool}
-- behind a failure nothing more is placed
def rDead (σ : Nat → Int32) : Prop := σ 36 = 0 ∧ ∃ f : Nat, f < 32 ∧ σ 33 = nI f
theorem x_deadFree {P : Int32 → gS → Prop} (h : rDead σ) (hp : ∀ r, P r (σ, α)) : wp_Pl_freeSpot σ α P := by
  obtain ⟨-, f, hf, e⟩ := h
  exact x_freeSpot (fr := fun q => decide (α 25 q = -1)) (fun q _ => by simp) e hf (hp _)
theorem x_deadFork {P : Int32 → gS → Prop} (h : rDead σ) (hp : ∀ r, P r (σ, α)) : wp_Pl_forkSpot σ α P := by
  obtain ⟨-, f, hf, e⟩ := h
  exact x_forkSpot (fr := fun q => decide (α 25 q = -1)) (fun q _ => by simp) e hf (hp _)
theorem x_deadOrder {post : gS → Prop} {s g v : Int32} (h : rDead σ) (hp : post (σ, α)) : wp_Pl_placeOrder σ α s g v post := by
  unfold wp_Pl_placeOrder wp_Pl_placeOrder_J18
  refine x_deadFree h (fun r => br_t h.1 ?_)
  have e : va_up σ 36 0 = σ := by rw [← h.1]; exact q_upself σ 36
  show post (va_up σ 36 0, α)
  rw [e]
  exact hp
theorem x_deadStop {post : gS → Prop} (h : rDead σ) (hp : post (σ, α)) : wp_Pl_placeStop σ α post := by
  unfold wp_Pl_placeStop wp_Pl_placeStop_J30
  exact x_deadOrder h (br_t h.1 hp)
theorem x_deadForkP {post : gS → Prop} {j : Int32} (h : rDead σ) (hp : post (σ, α)) : wp_Pl_placeFork σ α j post := by
  unfold wp_Pl_placeFork wp_Pl_placeFork_J16
  refine x_deadFork h (fun r => br_t h.1 ?_)
  have e : va_up σ 36 0 = σ := by rw [← h.1]; exact q_upself σ 36
  show post (va_up σ 36 0, α)
  rw [e]
  exact hp
end PK
