abbrev rm_St_orderSpot : Room := { frames := 0, cells := 0, slots := 0, locals := 0 }
set_option maxHeartbeats 4000000 in
set_option maxRecDepth 100000 in
theorem c_St_orderSpot (l : Launch) (D : va_G) (cI cS cZ : ClassId) (ad : Nat → Nat) (wc wb : Nat) (kp tp : Nat → Nat) (σ : Nat → Int32) (α : Nat → Nat → Int32) (x0 : Int32) (x1 : Int32) (post : Int32 → gS → Prop) (hw : wp_St_orderSpot σ α x0 x1 post) : gMi l y_St_orderSpot b_St_orderSpot 3 .int rm_St_orderSpot D (gT cI cS cZ) (fun u : gS => xW cI cS cZ ad wc wb kp tp u.1 u.2) [.int x0, .int x1] (σ, α) post := by
  refine gMi.of (by decide) (Nat.le_of_ble_eq_true rfl) ?_
  intro p e s m below meth c Q A hx hb hml hown hts hK hN hA hS hP hD hret ls hl
  have hl : lv_has ls 3 [(0, .int x0), (1, .int x1)] := hl
  have J39 : ∀ (σ : Nat → Int32) (α : Nat → Nat → Int32) (t0 : Int32) (ls : Array Slot) (H : Heap) (locs : List Loc), lv_has ls 3 [] → va_P D gCl (xW cI cS cZ ad wc wb kp tp σ α) H → va_D A (xW cI cS cZ ad wc wb kp tp σ α) → va_S A s.heap H locs → wp_St_orderSpot_J39 σ α t0 post → W p l e rm_St_orderSpot s m ([.int x0, .int x1] : List Value).toArray below meth c H locs 0 0 Q (F0 m 39 ls [.int t0]) := by
    intro σ α t0 ls H locs hl hP hD hS hw
    unfold wp_St_orderSpot_J39 at hw
    exact hret H locs 39 ls t0 (σ, α) d_St_orderSpot_39 hP hD hS (vp_nar_int _) hw
  have J24 : ∀ (σ : Nat → Int32) (α : Nat → Nat → Int32) (a0 : Int32) (a1 : Int32) (t0 : Int32) (ls : Array Slot) (H : Heap) (locs : List Loc), lv_has ls 3 [(0, .int a0), (1, .int a1)] → va_P D gCl (xW cI cS cZ ad wc wb kp tp σ α) H → va_D A (xW cI cS cZ ad wc wb kp tp σ α) → va_S A s.heap H locs → wp_St_orderSpot_J24 σ α a0 a1 t0 post → W p l e rm_St_orderSpot s m ([.int x0, .int x1] : List Value).toArray below meth c H locs 0 0 Q (F0 m 24 ls [.int t0]) := by
    intro σ α a0 a1 t0 ls H locs hl hP hD hS hw
    unfold wp_St_orderSpot_J24 at hw
    refine lv_istore_n hx hb d_St_orderSpot_24 rfl hl (by decide) rfl (fun ls hl => ?_)
    have hl : lv_has ls 3 [(2, .int t0), (0, .int a0), (1, .int a1)] := hl
    refine lv_iload_n hx hb d_St_orderSpot_25 rfl (lv_at hl 0 rfl) ?_
    refine lv_if_eq (tgt := 38) hx hb d_St_orderSpot_26 (by decide) (fun h => ?_) (fun h => ?_)
    · have hw := hw.1 h
      refine lv_iconst (v := (-1)) hx hb d_St_orderSpot_38 (by decide) ?_
      exact J39 σ α (-1 : Int32) ls H locs (lv_sub hl [] rfl) hP hD hS hw
    · have hw := hw.2 h
      refine lv_iload_n hx hb d_St_orderSpot_29 rfl (lv_at hl 1 rfl) ?_
      refine lv_bipush (v := 32) hx hb d_St_orderSpot_30 (by decide) ?_
      refine lv_imul hx hb d_St_orderSpot_32 ?_
      refine lv_iload_n hx hb d_St_orderSpot_33 rfl (lv_at hl 2 rfl) ?_
      refine lv_iadd hx hb d_St_orderSpot_34 ?_
      refine lv_goto (tgt := 39) hx hb d_St_orderSpot_35 (by decide) ?_
      exact J39 σ α ((a0 * (32 : Int32)) + a1) ls H locs (lv_sub hl [] rfl) hP hD hS hw
  have J23 : ∀ (σ : Nat → Int32) (α : Nat → Nat → Int32) (a0 : Int32) (a1 : Int32) (ls : Array Slot) (H : Heap) (locs : List Loc), lv_has ls 3 [(0, .int a0), (1, .int a1)] → va_P D gCl (xW cI cS cZ ad wc wb kp tp σ α) H → va_D A (xW cI cS cZ ad wc wb kp tp σ α) → va_S A s.heap H locs → wp_St_orderSpot_J23 σ α a0 a1 post → W p l e rm_St_orderSpot s m ([.int x0, .int x1] : List Value).toArray below meth c H locs 0 0 Q (F0 m 23 ls []) := by
    intro σ α a0 a1 ls H locs hl hP hD hS hw
    unfold wp_St_orderSpot_J23 at hw
    refine lv_iconst (v := 0) hx hb d_St_orderSpot_23 (by decide) ?_
    exact J24 σ α a0 a1 (0 : Int32) ls H locs (lv_sub hl [0, 1] rfl) hP hD hS hw
  unfold wp_St_orderSpot at hw
  have hP : va_P D gCl (xW cI cS cZ ad wc wb kp tp σ α) s.heap := hP
  have hD : va_D A (xW cI cS cZ ad wc wb kp tp σ α) := hD
  obtain ⟨H, hH⟩ : ∃ H, H = s.heap := ⟨_, rfl⟩
  obtain ⟨locs, hlocs⟩ : ∃ locs : List Loc, locs = [] := ⟨_, rfl⟩
  have hP : va_P D gCl (xW cI cS cZ ad wc wb kp tp σ α) H := by rw [hH]; exact hP
  have hS : va_S A s.heap H locs := by rw [hH, hlocs]; exact hS
  suffices K : W p l e rm_St_orderSpot s m ([.int x0, .int x1] : List Value).toArray below meth c H locs 0 0 Q (F0 m 0 ls []) by rw [hH, hlocs] at K; exact K
  clear hH hlocs
  refine lv_iload_n hx hb d_St_orderSpot_0 rfl (lv_at hl 0 rfl) ?_
  refine lv_if_lt (tgt := 23) hx hb d_St_orderSpot_1 (by decide) (fun h => ?_) (fun h => ?_)
  · have hw := hw.1 h
    exact J23 σ α x0 x1 ls H locs (lv_sub hl [0, 1] rfl) hP hD hS hw
  · have hw := hw.2 h
    refine lv_iload_n hx hb d_St_orderSpot_4 rfl (lv_at hl 0 rfl) ?_
    refine lv_iconst (v := 2) hx hb d_St_orderSpot_5 (by decide) ?_
    refine lv_icmp_ge (tgt := 23) hx hb d_St_orderSpot_6 (by decide) (fun h => ?_) (fun h => ?_)
    · have hw := hw.1 h
      exact J23 σ α x0 x1 ls H locs (lv_sub hl [0, 1] rfl) hP hD hS hw
    · have hw := hw.2 h
      refine lv_iload_n hx hb d_St_orderSpot_9 rfl (lv_at hl 1 rfl) ?_
      refine lv_if_lt (tgt := 23) hx hb d_St_orderSpot_10 (by decide) (fun h => ?_) (fun h => ?_)
      · have hw := hw.1 h
        exact J23 σ α x0 x1 ls H locs (lv_sub hl [0, 1] rfl) hP hD hS hw
      · have hw := hw.2 h
        refine lv_iload_n hx hb d_St_orderSpot_13 rfl (lv_at hl 1 rfl) ?_
        refine lv_bipush (v := 32) hx hb d_St_orderSpot_14 (by decide) ?_
        refine lv_icmp_ge (tgt := 23) hx hb d_St_orderSpot_16 (by decide) (fun h => ?_) (fun h => ?_)
        · have hw := hw.1 h
          exact J23 σ α x0 x1 ls H locs (lv_sub hl [0, 1] rfl) hP hD hS hw
        · have hw := hw.2 h
          refine lv_iconst (v := 1) hx hb d_St_orderSpot_19 (by decide) ?_
          refine lv_goto (tgt := 24) hx hb d_St_orderSpot_20 (by decide) ?_
          exact J24 σ α x0 x1 (1 : Int32) ls H locs (lv_sub hl [0, 1] rfl) hP hD hS hw
abbrev rm_Dm_order : Room := { frames := 1, cells := 0, slots := 0, locals := 22 }
set_option maxHeartbeats 4000000 in
set_option maxRecDepth 100000 in
theorem c_Dm_order (l : Launch) (D : va_G) (cI cS cZ : ClassId) (ad : Nat → Nat) (wc wb : Nat) (kp tp : Nat → Nat) (σ : Nat → Int32) (α : Nat → Nat → Int32) (x1 : Int32) (x2 : Int32) (x3 : Int32) (post : Int32 → gS → Prop) (hw : wp_Dm_order σ α x1 x2 x3 post) : gMi l y_Dm_order b_Dm_order 5 .boolean rm_Dm_order D (gT cI cS cZ) (fun u : gS => xW cI cS cZ ad wc wb kp tp u.1 u.2) [.ref (ad 0), .int x1, .int x2, .int x3] (σ, α) post := by
  refine gMi.of (by decide) (Nat.le_of_ble_eq_true rfl) ?_
  intro p e s m below meth c Q A hx hb hml hown hts hK hN hA hS hP hD hret ls hl
  have hl : lv_has ls 5 [(0, .ref (ad 0)), (1, .int x1), (2, .int x2), (3, .int x3)] := hl
  have J22 : ∀ (σ : Nat → Int32) (α : Nat → Nat → Int32) (ls : Array Slot) (H : Heap) (locs : List Loc), lv_has ls 5 [] → va_P D gCl (xW cI cS cZ ad wc wb kp tp σ α) H → va_D A (xW cI cS cZ ad wc wb kp tp σ α) → va_S A s.heap H locs → wp_Dm_order_J22 σ α post → W p l e rm_Dm_order s m ([.ref (ad 0), .int x1, .int x2, .int x3] : List Value).toArray below meth c H locs 0 0 Q (F0 m 22 ls []) := by
    intro σ α ls H locs hl hP hD hS hw
    unfold wp_Dm_order_J22 at hw
    refine lv_iconst (v := 0) hx hb d_Dm_order_22 (by decide) ?_
    exact hret H locs 23 ls (0 : Int32) (σ, α) d_Dm_order_23 hP hD hS rfl hw
  unfold wp_Dm_order at hw
  have hP : va_P D gCl (xW cI cS cZ ad wc wb kp tp σ α) s.heap := hP
  have hD : va_D A (xW cI cS cZ ad wc wb kp tp σ α) := hD
  obtain ⟨H, hH⟩ : ∃ H, H = s.heap := ⟨_, rfl⟩
  obtain ⟨locs, hlocs⟩ : ∃ locs : List Loc, locs = [] := ⟨_, rfl⟩
  have hP : va_P D gCl (xW cI cS cZ ad wc wb kp tp σ α) H := by rw [hH]; exact hP
  have hS : va_S A s.heap H locs := by rw [hH, hlocs]; exact hS
  suffices K : W p l e rm_Dm_order s m ([.ref (ad 0), .int x1, .int x2, .int x3] : List Value).toArray below meth c H locs 0 0 Q (F0 m 0 ls []) by rw [hH, hlocs] at K; exact K
  clear hH hlocs
  refine lv_iload_n hx hb d_Dm_order_0 rfl (lv_at hl 1 rfl) ?_
  refine lv_iload_n hx hb d_Dm_order_1 rfl (lv_at hl 2 rfl) ?_
  refine gCallSi (As := [.int x1, .int x2]) (rest := []) (c_St_orderSpot l D cI cS cZ ad wc wb kp tp σ α x1 x2 _ hw) hx hb hml hown hts hK hN hA hS hP hD (va_cwS 2 hts (gGS tw_281 tw_282 tw_2 tw_283) rfl rfl rfl ⟨by decide, by decide, by decide +kernel⟩ ⟨Nat.le_of_ble_eq_true rfl, Nat.le_of_ble_eq_true rfl⟩) rfl hl.1 rfl (Nat.le_of_ble_eq_true rfl) d_Dm_order_2 (fun r2 u2 H locs hw hP hD hS => ?_)
  have hP : va_P D gCl (xW cI cS cZ ad wc wb kp tp u2.1 u2.2) H := hP
  have hD : va_D A (xW cI cS cZ ad wc wb kp tp u2.1 u2.2) := hD
  refine lv_istore hx hb d_Dm_order_5 hl (by decide) rfl (fun ls hl => ?_)
  have hl : lv_has ls 5 [(4, .int r2), (0, .ref (ad 0)), (1, .int x1), (2, .int x2), (3, .int x3)] := hl
  refine lv_iload hx hb d_Dm_order_7 (lv_at hl 0 rfl) ?_
  refine lv_if_lt (tgt := 22) hx hb d_Dm_order_9 (by decide) (fun h => ?_) (fun h => ?_)
  · have hw := hw.1 h
    exact J22 u2.1 u2.2 ls H locs (lv_sub hl [] rfl) hP hD hS hw
  · have hw := hw.2 h
    refine lv_iload_n hx hb d_Dm_order_12 rfl (lv_at hl 4 rfl) ?_
    refine lv_if_lt (tgt := 22) hx hb d_Dm_order_13 (by decide) (fun h => ?_) (fun h => ?_)
    · have hw := hw.1 h
      exact J22 u2.1 u2.2 ls H locs (lv_sub hl [] rfl) hP hD hS hw
    · have hw := hw.2 h
      refine lv_iload_n hx hb d_Dm_order_16 rfl (lv_at hl 4 rfl) ?_
      refine lv_ldc hx hb hown (hts _ tw_284) d_Dm_order_17 ?_
      refine lv_icmp_le (tgt := 24) hx hb d_Dm_order_19 (by decide) (fun h => ?_) (fun h => ?_)
      · have hw := hw.1 h
        refine lv_aload_n hx hb d_Dm_order_24 rfl (lv_at hl 1 rfl) ?_
        refine va_get (D := D) (ci := 0) (v := .ref (ad 1)) (C := R_Dm) (T := T_Dm) (N := 7) hx hb hts i_Dm hown hK hP 0 rfl rfl 0 (by decide) (hts _ tw_255) (fun _ h9 => h9) rfl d_Dm_order_25 ?_
        refine va_getN (D := D) (ci := 1) (v := .ref (ad 2)) (C := R_St) (T := T_St) (N := 2) hx hb hts i_St hown hK hP 1 rfl rfl 0 (by decide) (va_Nw.use rfl (hN _ tn_28)) (fun _ h9 => h9) rfl d_Dm_order_28 ?_
        refine lv_iload hx hb d_Dm_order_31 (lv_at hl 0 rfl) ?_
        refine lv_iload_n hx hb d_Dm_order_33 rfl (lv_at hl 4 rfl) ?_
        obtain ⟨hin, hw⟩ := hw
        refine va_iast (f := u2.2 2) (i := r2) (x := x3) hx hb hK hP hD hS 2 0 rfl rfl hin d_Dm_order_34 (fun H locs hP hD hS => ?_)
        rw [xW_s2] at hP hD
        have hP : va_P D gCl (xW cI cS cZ ad wc wb kp tp u2.1 (va_up u2.2 2 (upd (u2.2 2) r2.toNatClampNeg x3))) H := hP
        have hD : va_D A (xW cI cS cZ ad wc wb kp tp u2.1 (va_up u2.2 2 (upd (u2.2 2) r2.toNatClampNeg x3))) := hD
        refine lv_iconst (v := 1) hx hb d_Dm_order_35 (by decide) ?_
        exact hret H locs 36 ls (1 : Int32) (u2.1, (va_up u2.2 2 (upd (u2.2 2) r2.toNatClampNeg x3))) d_Dm_order_36 hP hD hS rfl hw
      · have hw := hw.2 h
        exact J22 u2.1 u2.2 ls H locs (lv_sub hl [] rfl) hP hD hS hw
abbrev rm_St_placesOf : Room := { frames := 0, cells := 0, slots := 0, locals := 0 }
set_option maxHeartbeats 4000000 in
set_option maxRecDepth 100000 in
theorem c_St_placesOf (l : Launch) (D : va_G) (cI cS cZ : ClassId) (ad : Nat → Nat) (wc wb : Nat) (kp tp : Nat → Nat) (σ : Nat → Int32) (α : Nat → Nat → Int32) (x0 : Int32) (post : Int32 → gS → Prop) (hw : wp_St_placesOf σ α x0 post) : gMi l y_St_placesOf b_St_placesOf 1 .int rm_St_placesOf D (gT cI cS cZ) (fun u : gS => xW cI cS cZ ad wc wb kp tp u.1 u.2) [.int x0] (σ, α) post := by
  refine gMi.of (by decide) (Nat.le_of_ble_eq_true rfl) ?_
  intro p e s m below meth c Q A hx hb hml hown hts hK hN hA hS hP hD hret ls hl
  have hl : lv_has ls 1 [(0, .int x0)] := hl
  have J38 : ∀ (σ : Nat → Int32) (α : Nat → Nat → Int32) (t0 : Int32) (ls : Array Slot) (H : Heap) (locs : List Loc), lv_has ls 1 [] → va_P D gCl (xW cI cS cZ ad wc wb kp tp σ α) H → va_D A (xW cI cS cZ ad wc wb kp tp σ α) → va_S A s.heap H locs → wp_St_placesOf_J38 σ α t0 post → W p l e rm_St_placesOf s m ([.int x0] : List Value).toArray below meth c H locs 0 0 Q (F0 m 38 ls [.int t0]) := by
    intro σ α t0 ls H locs hl hP hD hS hw
    unfold wp_St_placesOf_J38 at hw
    exact hret H locs 38 ls t0 (σ, α) d_St_placesOf_38 hP hD hS (vp_nar_int _) hw
  have J25 : ∀ (σ : Nat → Int32) (α : Nat → Nat → Int32) (ls : Array Slot) (H : Heap) (locs : List Loc), lv_has ls 1 [] → va_P D gCl (xW cI cS cZ ad wc wb kp tp σ α) H → va_D A (xW cI cS cZ ad wc wb kp tp σ α) → va_S A s.heap H locs → wp_St_placesOf_J25 σ α post → W p l e rm_St_placesOf s m ([.int x0] : List Value).toArray below meth c H locs 0 0 Q (F0 m 25 ls []) := by
    intro σ α ls H locs hl hP hD hS hw
    unfold wp_St_placesOf_J25 at hw
    refine lv_iconst (v := 1) hx hb d_St_placesOf_25 (by decide) ?_
    exact hret H locs 26 ls (1 : Int32) (σ, α) d_St_placesOf_26 hP hD hS (vp_nar_int _) hw
  have J13 : ∀ (σ : Nat → Int32) (α : Nat → Nat → Int32) (a0 : Int32) (ls : Array Slot) (H : Heap) (locs : List Loc), lv_has ls 1 [(0, .int a0)] → va_P D gCl (xW cI cS cZ ad wc wb kp tp σ α) H → va_D A (xW cI cS cZ ad wc wb kp tp σ α) → va_S A s.heap H locs → wp_St_placesOf_J13 σ α a0 post → W p l e rm_St_placesOf s m ([.int x0] : List Value).toArray below meth c H locs 0 0 Q (F0 m 13 ls []) := by
    intro σ α a0 ls H locs hl hP hD hS hw
    unfold wp_St_placesOf_J13 at hw
    refine lv_iload_n hx hb d_St_placesOf_13 rfl (lv_at hl 0 rfl) ?_
    refine lv_bipush (v := 6) hx hb d_St_placesOf_14 (by decide) ?_
    refine lv_icmp_eq (tgt := 25) hx hb d_St_placesOf_16 (by decide) (fun h => ?_) (fun h => ?_)
    · have hw := hw.1 h
      exact J25 σ α ls H locs (lv_sub hl [] rfl) hP hD hS hw
    · have hw := hw.2 h
      refine lv_iload_n hx hb d_St_placesOf_19 rfl (lv_at hl 0 rfl) ?_
      refine lv_bipush (v := 7) hx hb d_St_placesOf_20 (by decide) ?_
      refine lv_icmp_ne (tgt := 27) hx hb d_St_placesOf_22 (by decide) (fun h => ?_) (fun h => ?_)
      · have hw := hw.1 h
        refine lv_iload_n hx hb d_St_placesOf_27 rfl (lv_at hl 0 rfl) ?_
        refine lv_bipush (v := 8) hx hb d_St_placesOf_28 (by decide) ?_
        refine lv_icmp_ne (tgt := 37) hx hb d_St_placesOf_30 (by decide) (fun h => ?_) (fun h => ?_)
        · have hw := hw.1 h
          refine lv_iconst (v := 0) hx hb d_St_placesOf_37 (by decide) ?_
          exact J38 σ α (0 : Int32) ls H locs (lv_sub hl [] rfl) hP hD hS hw
        · have hw := hw.2 h
          refine lv_iconst (v := 2) hx hb d_St_placesOf_33 (by decide) ?_
          refine lv_goto (tgt := 38) hx hb d_St_placesOf_34 (by decide) ?_
          exact J38 σ α (2 : Int32) ls H locs (lv_sub hl [] rfl) hP hD hS hw
      · have hw := hw.2 h
        exact J25 σ α ls H locs (lv_sub hl [] rfl) hP hD hS hw
  unfold wp_St_placesOf at hw
  have hP : va_P D gCl (xW cI cS cZ ad wc wb kp tp σ α) s.heap := hP
  have hD : va_D A (xW cI cS cZ ad wc wb kp tp σ α) := hD
  obtain ⟨H, hH⟩ : ∃ H, H = s.heap := ⟨_, rfl⟩
  obtain ⟨locs, hlocs⟩ : ∃ locs : List Loc, locs = [] := ⟨_, rfl⟩
  have hP : va_P D gCl (xW cI cS cZ ad wc wb kp tp σ α) H := by rw [hH]; exact hP
  have hS : va_S A s.heap H locs := by rw [hH, hlocs]; exact hS
  suffices K : W p l e rm_St_placesOf s m ([.int x0] : List Value).toArray below meth c H locs 0 0 Q (F0 m 0 ls []) by rw [hH, hlocs] at K; exact K
  clear hH hlocs
  refine lv_iload_n hx hb d_St_placesOf_0 rfl (lv_at hl 0 rfl) ?_
  refine lv_iconst (v := 2) hx hb d_St_placesOf_1 (by decide) ?_
  refine lv_icmp_lt (tgt := 13) hx hb d_St_placesOf_2 (by decide) (fun h => ?_) (fun h => ?_)
  · have hw := hw.1 h
    exact J13 σ α x0 ls H locs (lv_sub hl [0] rfl) hP hD hS hw
  · have hw := hw.2 h
    refine lv_iload_n hx hb d_St_placesOf_5 rfl (lv_at hl 0 rfl) ?_
    refine lv_iconst (v := 5) hx hb d_St_placesOf_6 (by decide) ?_
    refine lv_icmp_gt (tgt := 13) hx hb d_St_placesOf_7 (by decide) (fun h => ?_) (fun h => ?_)
    · have hw := hw.1 h
      exact J13 σ α x0 ls H locs (lv_sub hl [0] rfl) hP hD hS hw
    · have hw := hw.2 h
      refine lv_bipush (v := 32) hx hb d_St_placesOf_10 (by decide) ?_
      exact hret H locs 12 ls (32 : Int32) (σ, α) d_St_placesOf_12 hP hD hS (vp_nar_int _) hw
abbrev rm_St_firstSpot : Room := { frames := 0, cells := 0, slots := 0, locals := 0 }
set_option maxHeartbeats 4000000 in
set_option maxRecDepth 100000 in
theorem c_St_firstSpot (l : Launch) (D : va_G) (cI cS cZ : ClassId) (ad : Nat → Nat) (wc wb : Nat) (kp tp : Nat → Nat) (σ : Nat → Int32) (α : Nat → Nat → Int32) (x0 : Int32) (post : Int32 → gS → Prop) (hw : wp_St_firstSpot σ α x0 post) : gMi l y_St_firstSpot b_St_firstSpot 1 .int rm_St_firstSpot D (gT cI cS cZ) (fun u : gS => xW cI cS cZ ad wc wb kp tp u.1 u.2) [.int x0] (σ, α) post := by
  refine gMi.of (by decide) (Nat.le_of_ble_eq_true rfl) ?_
  intro p e s m below meth c Q A hx hb hml hown hts hK hN hA hS hP hD hret ls hl
  have hl : lv_has ls 1 [(0, .int x0)] := hl
  unfold wp_St_firstSpot at hw
  have hP : va_P D gCl (xW cI cS cZ ad wc wb kp tp σ α) s.heap := hP
  have hD : va_D A (xW cI cS cZ ad wc wb kp tp σ α) := hD
  obtain ⟨H, hH⟩ : ∃ H, H = s.heap := ⟨_, rfl⟩
  obtain ⟨locs, hlocs⟩ : ∃ locs : List Loc, locs = [] := ⟨_, rfl⟩
  have hP : va_P D gCl (xW cI cS cZ ad wc wb kp tp σ α) H := by rw [hH]; exact hP
  have hS : va_S A s.heap H locs := by rw [hH, hlocs]; exact hS
  suffices K : W p l e rm_St_firstSpot s m ([.int x0] : List Value).toArray below meth c H locs 0 0 Q (F0 m 0 ls []) by rw [hH, hlocs] at K; exact K
  clear hH hlocs
  refine lv_iload_n hx hb d_St_firstSpot_0 rfl (lv_at hl 0 rfl) ?_
  have hw := hw
  by_cases h1_0 : x0 = 6
  · have hw := hw.1 h1_0
    refine W.eq (g2 := F0 m 1 ls [.int (6 : Int32)]) (by rw [h1_0]) ?_
    refine lv_tableIn (off := 27) (tgt := 28) hx hb d_St_firstSpot_1 (by decide) (by decide) (by decide) (by decide) ?_
    refine lv_sipush (v := 128) hx hb d_St_firstSpot_28 (by decide) ?_
    exact hret H locs 31 ls (128 : Int32) (σ, α) d_St_firstSpot_31 hP hD hS (vp_nar_int _) hw
  by_cases h1_1 : x0 = 7
  · have hw := hw.2.1 h1_1
    refine W.eq (g2 := F0 m 1 ls [.int (7 : Int32)]) (by rw [h1_1]) ?_
    refine lv_tableIn (off := 31) (tgt := 32) hx hb d_St_firstSpot_1 (by decide) (by decide) (by decide) (by decide) ?_
    refine lv_sipush (v := 129) hx hb d_St_firstSpot_32 (by decide) ?_
    exact hret H locs 35 ls (129 : Int32) (σ, α) d_St_firstSpot_35 hP hD hS (vp_nar_int _) hw
  by_cases h1_2 : x0 = 8
  · have hw := hw.2.2.1 h1_2
    refine W.eq (g2 := F0 m 1 ls [.int (8 : Int32)]) (by rw [h1_2]) ?_
    refine lv_tableIn (off := 35) (tgt := 36) hx hb d_St_firstSpot_1 (by decide) (by decide) (by decide) (by decide) ?_
    refine lv_sipush (v := 130) hx hb d_St_firstSpot_36 (by decide) ?_
    exact hret H locs 39 ls (130 : Int32) (σ, α) d_St_firstSpot_39 hP hD hS (vp_nar_int _) hw
  have hw := hw.2.2.2
  have hd : x0.toInt < 6 ∨ 8 < x0.toInt := by
    have a0 := lv_neT h1_0 (show (6 : Int32).toInt = 6 from by decide)
    have a1 := lv_neT h1_1 (show (7 : Int32).toInt = 7 from by decide)
    have a2 := lv_neT h1_2 (show (8 : Int32).toInt = 8 from by decide)
    omega
  have hw := hw hd
  refine lv_tableOut (tgt := 40) hx hb d_St_firstSpot_1 hd (by decide) ?_
  refine lv_iload_n hx hb d_St_firstSpot_40 rfl (lv_at hl 0 rfl) ?_
  refine lv_iconst (v := 2) hx hb d_St_firstSpot_41 (by decide) ?_
  refine lv_isub hx hb d_St_firstSpot_42 ?_
  refine lv_bipush (v := 32) hx hb d_St_firstSpot_43 (by decide) ?_
  refine lv_imul hx hb d_St_firstSpot_45 ?_
  exact hret H locs 46 ls ((x0 - (2 : Int32)) * (32 : Int32)) (σ, α) d_St_firstSpot_46 hP hD hS (vp_nar_int _) hw
abbrev rm_St_wordSpot : Room := { frames := 1, cells := 0, slots := 0, locals := 20 }
set_option maxHeartbeats 4000000 in
set_option maxRecDepth 100000 in
theorem c_St_wordSpot (l : Launch) (D : va_G) (cI cS cZ : ClassId) (ad : Nat → Nat) (wc wb : Nat) (kp tp : Nat → Nat) (σ : Nat → Int32) (α : Nat → Nat → Int32) (x0 : Int32) (x1 : Int32) (post : Int32 → gS → Prop) (hw : wp_St_wordSpot σ α x0 x1 post) : gMi l y_St_wordSpot b_St_wordSpot 2 .int rm_St_wordSpot D (gT cI cS cZ) (fun u : gS => xW cI cS cZ ad wc wb kp tp u.1 u.2) [.int x0, .int x1] (σ, α) post := by
  refine gMi.of (by decide) (Nat.le_of_ble_eq_true rfl) ?_
  intro p e s m below meth c Q A hx hb hml hown hts hK hN hA hS hP hD hret ls hl
  have hl : lv_has ls 2 [(0, .int x0), (1, .int x1)] := hl
  have J22 : ∀ (σ : Nat → Int32) (α : Nat → Nat → Int32) (t0 : Int32) (ls : Array Slot) (H : Heap) (locs : List Loc), lv_has ls 2 [] → va_P D gCl (xW cI cS cZ ad wc wb kp tp σ α) H → va_D A (xW cI cS cZ ad wc wb kp tp σ α) → va_S A s.heap H locs → wp_St_wordSpot_J22 σ α t0 post → W p l e rm_St_wordSpot s m ([.int x0, .int x1] : List Value).toArray below meth c H locs 0 0 Q (F0 m 22 ls [.int t0]) := by
    intro σ α t0 ls H locs hl hP hD hS hw
    unfold wp_St_wordSpot_J22 at hw
    exact hret H locs 22 ls t0 (σ, α) d_St_wordSpot_22 hP hD hS (vp_nar_int _) hw
  have J21 : ∀ (σ : Nat → Int32) (α : Nat → Nat → Int32) (ls : Array Slot) (H : Heap) (locs : List Loc), lv_has ls 2 [] → va_P D gCl (xW cI cS cZ ad wc wb kp tp σ α) H → va_D A (xW cI cS cZ ad wc wb kp tp σ α) → va_S A s.heap H locs → wp_St_wordSpot_J21 σ α post → W p l e rm_St_wordSpot s m ([.int x0, .int x1] : List Value).toArray below meth c H locs 0 0 Q (F0 m 21 ls []) := by
    intro σ α ls H locs hl hP hD hS hw
    unfold wp_St_wordSpot_J21 at hw
    refine lv_iconst (v := (-1)) hx hb d_St_wordSpot_21 (by decide) ?_
    exact J22 σ α (-1 : Int32) ls H locs (lv_sub hl [] rfl) hP hD hS hw
  unfold wp_St_wordSpot at hw
  have hP : va_P D gCl (xW cI cS cZ ad wc wb kp tp σ α) s.heap := hP
  have hD : va_D A (xW cI cS cZ ad wc wb kp tp σ α) := hD
  obtain ⟨H, hH⟩ : ∃ H, H = s.heap := ⟨_, rfl⟩
  obtain ⟨locs, hlocs⟩ : ∃ locs : List Loc, locs = [] := ⟨_, rfl⟩
  have hP : va_P D gCl (xW cI cS cZ ad wc wb kp tp σ α) H := by rw [hH]; exact hP
  have hS : va_S A s.heap H locs := by rw [hH, hlocs]; exact hS
  suffices K : W p l e rm_St_wordSpot s m ([.int x0, .int x1] : List Value).toArray below meth c H locs 0 0 Q (F0 m 0 ls []) by rw [hH, hlocs] at K; exact K
  clear hH hlocs
  refine lv_iload_n hx hb d_St_wordSpot_0 rfl (lv_at hl 1 rfl) ?_
  refine lv_if_lt (tgt := 21) hx hb d_St_wordSpot_1 (by decide) (fun h => ?_) (fun h => ?_)
  · have hw := hw.1 h
    exact J21 σ α ls H locs (lv_sub hl [] rfl) hP hD hS hw
  · have hw := hw.2 h
    refine lv_iload_n hx hb d_St_wordSpot_4 rfl (lv_at hl 1 rfl) ?_
    refine lv_iload_n hx hb d_St_wordSpot_5 rfl (lv_at hl 0 rfl) ?_
    refine gCallSi (As := [.int x0]) (rest := [.int x1]) (c_St_placesOf l D cI cS cZ ad wc wb kp tp σ α x0 _ hw) hx hb hml hown hts hK hN hA hS hP hD (va_cwS 1 hts (gGS tw_292 tw_293 tw_2 tw_294) rfl rfl rfl ⟨by decide, by decide, by decide +kernel⟩ ⟨Nat.le_of_ble_eq_true rfl, Nat.le_of_ble_eq_true rfl⟩) rfl hl.1 rfl (Nat.le_of_ble_eq_true rfl) d_St_wordSpot_6 (fun r6 u6 H locs hw hP hD hS => ?_)
    have hP : va_P D gCl (xW cI cS cZ ad wc wb kp tp u6.1 u6.2) H := hP
    have hD : va_D A (xW cI cS cZ ad wc wb kp tp u6.1 u6.2) := hD
    refine lv_icmp_ge (tgt := 21) hx hb d_St_wordSpot_9 (by decide) (fun h => ?_) (fun h => ?_)
    · have hw := hw.1 h
      exact J21 u6.1 u6.2 ls H locs (lv_sub hl [] rfl) hP hD hS hw
    · have hw := hw.2 h
      refine lv_iload_n hx hb d_St_wordSpot_12 rfl (lv_at hl 0 rfl) ?_
      refine gCallSi (As := [.int x0]) (rest := []) (c_St_firstSpot l D cI cS cZ ad wc wb kp tp u6.1 u6.2 x0 _ hw) hx hb hml hown hts hK hN hA hS hP hD (va_cwS 1 hts (gGS tw_295 tw_296 tw_2 tw_297) rfl rfl rfl ⟨by decide, by decide, by decide +kernel⟩ ⟨Nat.le_of_ble_eq_true rfl, Nat.le_of_ble_eq_true rfl⟩) rfl hl.1 rfl (Nat.le_of_ble_eq_true rfl) d_St_wordSpot_13 (fun r13 u13 H locs hw hP hD hS => ?_)
      have hP : va_P D gCl (xW cI cS cZ ad wc wb kp tp u13.1 u13.2) H := hP
      have hD : va_D A (xW cI cS cZ ad wc wb kp tp u13.1 u13.2) := hD
      refine lv_iload_n hx hb d_St_wordSpot_16 rfl (lv_at hl 1 rfl) ?_
      refine lv_iadd hx hb d_St_wordSpot_17 ?_
      refine lv_goto (tgt := 22) hx hb d_St_wordSpot_18 (by decide) ?_
      exact J22 u13.1 u13.2 (r13 + x1) ls H locs (lv_sub hl [] rfl) hP hD hS hw
abbrev rm_Dm_word : Room := { frames := 2, cells := 0, slots := 0, locals := 41 }
set_option maxHeartbeats 4000000 in
set_option maxRecDepth 100000 in
theorem c_Dm_word (l : Launch) (D : va_G) (cI cS cZ : ClassId) (ad : Nat → Nat) (wc wb : Nat) (kp tp : Nat → Nat) (σ : Nat → Int32) (α : Nat → Nat → Int32) (x1 : Int32) (x2 : Int32) (x3 : Int32) (post : Int32 → gS → Prop) (hw : wp_Dm_word σ α x1 x2 x3 post) : gMi l y_Dm_word b_Dm_word 5 .boolean rm_Dm_word D (gT cI cS cZ) (fun u : gS => xW cI cS cZ ad wc wb kp tp u.1 u.2) [.ref (ad 0), .int x1, .int x2, .int x3] (σ, α) post := by
  refine gMi.of (by decide) (Nat.le_of_ble_eq_true rfl) ?_
  intro p e s m below meth c Q A hx hb hml hown hts hK hN hA hS hP hD hret ls hl
  have hl : lv_has ls 5 [(0, .ref (ad 0)), (1, .int x1), (2, .int x2), (3, .int x3)] := hl
  unfold wp_Dm_word at hw
  have hP : va_P D gCl (xW cI cS cZ ad wc wb kp tp σ α) s.heap := hP
  have hD : va_D A (xW cI cS cZ ad wc wb kp tp σ α) := hD
  obtain ⟨H, hH⟩ : ∃ H, H = s.heap := ⟨_, rfl⟩
  obtain ⟨locs, hlocs⟩ : ∃ locs : List Loc, locs = [] := ⟨_, rfl⟩
  have hP : va_P D gCl (xW cI cS cZ ad wc wb kp tp σ α) H := by rw [hH]; exact hP
  have hS : va_S A s.heap H locs := by rw [hH, hlocs]; exact hS
  suffices K : W p l e rm_Dm_word s m ([.ref (ad 0), .int x1, .int x2, .int x3] : List Value).toArray below meth c H locs 0 0 Q (F0 m 0 ls []) by rw [hH, hlocs] at K; exact K
  clear hH hlocs
  refine lv_iload_n hx hb d_Dm_word_0 rfl (lv_at hl 1 rfl) ?_
  refine lv_iload_n hx hb d_Dm_word_1 rfl (lv_at hl 2 rfl) ?_
  refine gCallSi (As := [.int x1, .int x2]) (rest := []) (c_St_wordSpot l D cI cS cZ ad wc wb kp tp σ α x1 x2 _ hw) hx hb hml hown hts hK hN hA hS hP hD (va_cwS 2 hts (gGS tw_289 tw_290 tw_2 tw_291) rfl rfl rfl ⟨by decide, by decide, by decide +kernel⟩ ⟨Nat.le_of_ble_eq_true rfl, Nat.le_of_ble_eq_true rfl⟩) rfl hl.1 rfl (Nat.le_of_ble_eq_true rfl) d_Dm_word_2 (fun r2 u2 H locs hw hP hD hS => ?_)
  have hP : va_P D gCl (xW cI cS cZ ad wc wb kp tp u2.1 u2.2) H := hP
  have hD : va_D A (xW cI cS cZ ad wc wb kp tp u2.1 u2.2) := hD
  refine lv_istore hx hb d_Dm_word_5 hl (by decide) rfl (fun ls hl => ?_)
  have hl : lv_has ls 5 [(4, .int r2), (0, .ref (ad 0)), (1, .int x1), (2, .int x2), (3, .int x3)] := hl
  refine lv_iload hx hb d_Dm_word_7 (lv_at hl 0 rfl) ?_
  refine lv_if_ge (tgt := 14) hx hb d_Dm_word_9 (by decide) (fun h => ?_) (fun h => ?_)
  · have hw := hw.1 h
    refine lv_aload_n hx hb d_Dm_word_14 rfl (lv_at hl 1 rfl) ?_
    refine va_get (D := D) (ci := 0) (v := .ref (ad 1)) (C := R_Dm) (T := T_Dm) (N := 7) hx hb hts i_Dm hown hK hP 0 rfl rfl 0 (by decide) (hts _ tw_255) (fun _ h9 => h9) rfl d_Dm_word_15 ?_
    refine va_getN (D := D) (ci := 1) (v := .ref (ad 3)) (C := R_St) (T := T_St) (N := 2) hx hb hts i_St hown hK hP 1 rfl rfl 1 (by decide) (va_Nw.use rfl (hN _ tn_31)) (fun _ h9 => h9) rfl d_Dm_word_18 ?_
    refine lv_iload hx hb d_Dm_word_21 (lv_at hl 0 rfl) ?_
    refine lv_iload_n hx hb d_Dm_word_23 rfl (lv_at hl 4 rfl) ?_
    obtain ⟨hin, hw⟩ := hw
    refine va_sast (f := u2.2 3) (i := r2) (x := x3) hx hb hK hP hD hS 3 1 rfl rfl hin d_Dm_word_24 (fun H locs hP hD hS => ?_)
    rw [xW_s3] at hP hD
    have hP : va_P D gCl (xW cI cS cZ ad wc wb kp tp u2.1 (va_up u2.2 3 (upd (u2.2 3) r2.toNatClampNeg (vp_nar .short x3)))) H := hP
    have hD : va_D A (xW cI cS cZ ad wc wb kp tp u2.1 (va_up u2.2 3 (upd (u2.2 3) r2.toNatClampNeg (vp_nar .short x3)))) := hD
    refine lv_iconst (v := 1) hx hb d_Dm_word_25 (by decide) ?_
    exact hret H locs 26 ls (1 : Int32) (u2.1, (va_up u2.2 3 (upd (u2.2 3) r2.toNatClampNeg (vp_nar .short x3)))) d_Dm_word_26 hP hD hS rfl hw
  · have hw := hw.2 h
    refine lv_iconst (v := 0) hx hb d_Dm_word_12 (by decide) ?_
    exact hret H locs 13 ls (0 : Int32) (u2.1, u2.2) d_Dm_word_13 hP hD hS rfl hw
abbrev rm_Rd_addRow : Room := { frames := 0, cells := 0, slots := 0, locals := 0 }
set_option maxHeartbeats 4000000 in
set_option maxRecDepth 100000 in
theorem c_Rd_addRow (l : Launch) (D : va_G) (cI cS cZ : ClassId) (ad : Nat → Nat) (wc wb : Nat) (kp tp : Nat → Nat) (σ : Nat → Int32) (α : Nat → Nat → Int32) (x1 : Int32) (post : Int32 → gS → Prop) (hw : wp_Rd_addRow σ α x1 post) : gMi l y_Rd_addRow b_Rd_addRow 2 .boolean rm_Rd_addRow D (gT cI cS cZ) (fun u : gS => xW cI cS cZ ad wc wb kp tp u.1 u.2) [.ref (ad 4), .int x1] (σ, α) post := by
  refine gMi.of (by decide) (Nat.le_of_ble_eq_true rfl) ?_
  intro p e s m below meth c Q A hx hb hml hown hts hK hN hA hS hP hD hret ls hl
  have hl : lv_has ls 2 [(0, .ref (ad 4)), (1, .int x1)] := hl
  unfold wp_Rd_addRow at hw
  have hP : va_P D gCl (xW cI cS cZ ad wc wb kp tp σ α) s.heap := hP
  have hD : va_D A (xW cI cS cZ ad wc wb kp tp σ α) := hD
  obtain ⟨H, hH⟩ : ∃ H, H = s.heap := ⟨_, rfl⟩
  obtain ⟨locs, hlocs⟩ : ∃ locs : List Loc, locs = [] := ⟨_, rfl⟩
  have hP : va_P D gCl (xW cI cS cZ ad wc wb kp tp σ α) H := by rw [hH]; exact hP
  have hS : va_S A s.heap H locs := by rw [hH, hlocs]; exact hS
  suffices K : W p l e rm_Rd_addRow s m ([.ref (ad 4), .int x1] : List Value).toArray below meth c H locs 0 0 Q (F0 m 0 ls []) by rw [hH, hlocs] at K; exact K
  clear hH hlocs
  refine lv_aload_n hx hb d_Rd_addRow_0 rfl (lv_at hl 0 rfl) ?_
  refine va_get (D := D) (ci := 2) (v := .int (σ 0)) (C := R_Rd) (T := T_Rd) (N := 6) hx hb hts i_Rd hown hK hP 4 rfl rfl 1 (by decide) (hts _ tw_48) (fun _ h9 => h9) rfl d_Rd_addRow_1 ?_
  refine lv_bipush (v := 48) hx hb d_Rd_addRow_4 (by decide) ?_
  refine lv_icmp_lt (tgt := 11) hx hb d_Rd_addRow_6 (by decide) (fun h => ?_) (fun h => ?_)
  · have hw := hw.1 h
    refine lv_aload_n hx hb d_Rd_addRow_11 rfl (lv_at hl 0 rfl) ?_
    refine va_get (D := D) (ci := 2) (v := .ref (ad 5)) (C := R_Rd) (T := T_Rd) (N := 6) hx hb hts i_Rd hown hK hP 4 rfl rfl 0 (by decide) (hts _ tw_47) (fun _ h9 => h9) rfl d_Rd_addRow_12 ?_
    refine lv_aload_n hx hb d_Rd_addRow_15 rfl (lv_at hl 0 rfl) ?_
    refine va_get (D := D) (ci := 2) (v := .int (σ 0)) (C := R_Rd) (T := T_Rd) (N := 6) hx hb hts i_Rd hown hK hP 4 rfl rfl 1 (by decide) (hts _ tw_48) (fun _ h9 => h9) rfl d_Rd_addRow_16 ?_
    refine lv_iload_n hx hb d_Rd_addRow_19 rfl (lv_at hl 1 rfl) ?_
    obtain ⟨hin, hw⟩ := hw
    refine va_sast (f := α 5) (i := σ 0) (x := x1) hx hb hK hP hD hS 5 1 rfl rfl hin d_Rd_addRow_20 (fun H locs hP hD hS => ?_)
    rw [xW_s5] at hP hD
    have hP : va_P D gCl (xW cI cS cZ ad wc wb kp tp σ (va_up α 5 (upd (α 5) (σ 0).toNatClampNeg (vp_nar .short x1)))) H := hP
    have hD : va_D A (xW cI cS cZ ad wc wb kp tp σ (va_up α 5 (upd (α 5) (σ 0).toNatClampNeg (vp_nar .short x1)))) := hD
    refine lv_aload_n hx hb d_Rd_addRow_21 rfl (lv_at hl 0 rfl) ?_
    refine lv_dup hx hb d_Rd_addRow_22 rfl ?_
    refine va_get (D := D) (ci := 2) (v := .int (σ 0)) (C := R_Rd) (T := T_Rd) (N := 6) hx hb hts i_Rd hown hK hP 4 rfl rfl 1 (by decide) (hts _ tw_48) (fun _ h9 => h9) rfl d_Rd_addRow_23 ?_
    refine lv_iconst (v := 1) hx hb d_Rd_addRow_26 (by decide) ?_
    refine lv_iadd hx hb d_Rd_addRow_27 ?_
    refine va_put (D := D) (ci := 2) (v := .int ((σ 0) + (1 : Int32))) (ty := .int) (C := R_Rd) (T := T_Rd) (N := 6) hx hb hts i_Rd t_Rd o_Rd n_Rd hown hK hP hD hS 4 rfl rfl 1 (by decide) (hts _ tw_48) (fun _ h9 => h9) rfl (by decide +kernel) rfl rfl (Nat.le_of_ble_eq_true rfl) d_Rd_addRow_28 (fun H locs hP hD hS => ?_)
    have hP : va_P D gCl (xW cI cS cZ ad wc wb kp tp (va_up σ 0 ((σ 0) + (1 : Int32))) (va_up α 5 (upd (α 5) (σ 0).toNatClampNeg (vp_nar .short x1)))) H := hP
    have hD : va_D A (xW cI cS cZ ad wc wb kp tp (va_up σ 0 ((σ 0) + (1 : Int32))) (va_up α 5 (upd (α 5) (σ 0).toNatClampNeg (vp_nar .short x1)))) := hD
    refine lv_iconst (v := 1) hx hb d_Rd_addRow_31 (by decide) ?_
    exact hret H locs 32 ls (1 : Int32) ((va_up σ 0 ((σ 0) + (1 : Int32))), (va_up α 5 (upd (α 5) (σ 0).toNatClampNeg (vp_nar .short x1)))) d_Rd_addRow_32 hP hD hS rfl hw
  · have hw := hw.2 h
    refine lv_iconst (v := 0) hx hb d_Rd_addRow_9 (by decide) ?_
    exact hret H locs 10 ls (0 : Int32) (σ, α) d_Rd_addRow_10 hP hD hS rfl hw
abbrev rm_Dm_card : Room := { frames := 1, cells := 0, slots := 0, locals := 21 }
set_option maxHeartbeats 4000000 in
set_option maxRecDepth 100000 in
theorem c_Dm_card (l : Launch) (D : va_G) (cI cS cZ : ClassId) (ad : Nat → Nat) (wc wb : Nat) (kp tp : Nat → Nat) (σ : Nat → Int32) (α : Nat → Nat → Int32) (x1 : Int32) (post : Int32 → gS → Prop) (hw : wp_Dm_card σ α x1 post) : gMi l y_Dm_card b_Dm_card 2 .boolean rm_Dm_card D (gT cI cS cZ) (fun u : gS => xW cI cS cZ ad wc wb kp tp u.1 u.2) [.ref (ad 0), .int x1] (σ, α) post := by
  refine gMi.of (by decide) (Nat.le_of_ble_eq_true rfl) ?_
  intro p e s m below meth c Q A hx hb hml hown hts hK hN hA hS hP hD hret ls hl
  have hl : lv_has ls 2 [(0, .ref (ad 0)), (1, .int x1)] := hl
  unfold wp_Dm_card at hw
  have hP : va_P D gCl (xW cI cS cZ ad wc wb kp tp σ α) s.heap := hP
  have hD : va_D A (xW cI cS cZ ad wc wb kp tp σ α) := hD
  obtain ⟨H, hH⟩ : ∃ H, H = s.heap := ⟨_, rfl⟩
  obtain ⟨locs, hlocs⟩ : ∃ locs : List Loc, locs = [] := ⟨_, rfl⟩
  have hP : va_P D gCl (xW cI cS cZ ad wc wb kp tp σ α) H := by rw [hH]; exact hP
  have hS : va_S A s.heap H locs := by rw [hH, hlocs]; exact hS
  suffices K : W p l e rm_Dm_card s m ([.ref (ad 0), .int x1] : List Value).toArray below meth c H locs 0 0 Q (F0 m 0 ls []) by rw [hH, hlocs] at K; exact K
  clear hH hlocs
  refine lv_aload_n hx hb d_Dm_card_0 rfl (lv_at hl 0 rfl) ?_
  refine va_get (D := D) (ci := 0) (v := .ref (ad 4)) (C := R_Dm) (T := T_Dm) (N := 7) hx hb hts i_Dm hown hK hP 0 rfl rfl 1 (by decide) (hts _ tw_256) (fun _ h9 => h9) rfl d_Dm_card_1 ?_
  refine lv_iload_n hx hb d_Dm_card_4 rfl (lv_at hl 1 rfl) ?_
  refine gCallVi (b := ad 4) (As := [.int x1]) (rest := []) (c_Rd_addRow l D cI cS cZ ad wc wb kp tp σ α x1 _ hw) hx hb hml hown hts hK hN hA hS hP hD (cwV 1 hts (gGV tw_302 tw_303 tw_304 tw_3 tw_305) rfl rfl rfl ⟨rfl, by decide, by decide, by decide +kernel⟩ ⟨Nat.le_of_ble_eq_true rfl, Nat.le_of_ble_eq_true rfl⟩) (va_recv (ci := 2) (q0 := 4) hK hP rfl rfl) rfl hl.1 rfl (Nat.le_of_ble_eq_true rfl) d_Dm_card_5 (fun r5 u5 H locs hw hP hD hS => ?_)
  have hP : va_P D gCl (xW cI cS cZ ad wc wb kp tp u5.1 u5.2) H := hP
  have hD : va_D A (xW cI cS cZ ad wc wb kp tp u5.1 u5.2) := hD
  obtain ⟨hn, hw⟩ := hw
  exact hret H locs 8 ls r5 (u5.1, u5.2) d_Dm_card_8 hP hD hS hn hw
abbrev rm_Wi_close_10 : Room := { frames := 0, cells := 0, slots := 0, locals := 0 }
set_option maxHeartbeats 4000000 in
set_option maxRecDepth 100000 in
theorem c_Wi_close_10 (l : Launch) (D : va_G) (cI cS cZ : ClassId) (ad : Nat → Nat) (wc wb : Nat) (kp tp : Nat → Nat) (σ : Nat → Int32) (α : Nat → Nat → Int32) (post : gS → Prop) (hw : wp_Wi_close_10 σ α post) : gMv l y_Wi_close b_Wi_close 1 rm_Wi_close_10 D (gT cI cS cZ) (fun u : gS => xW cI cS cZ ad wc wb kp tp u.1 u.2) [.ref (wc)] (σ, α) post := by
  refine gMv.of (by decide) (Nat.le_of_ble_eq_true rfl) ?_
  intro p e s m below meth c Q A hx hb hml hown hts hK hN hA hS hP hD hret ls hl
  have hl : lv_has ls 1 [(0, .ref (wc))] := hl
  unfold wp_Wi_close_10 at hw
  have hP : va_P D gCl (xW cI cS cZ ad wc wb kp tp σ α) s.heap := hP
  have hD : va_D A (xW cI cS cZ ad wc wb kp tp σ α) := hD
  obtain ⟨H, hH⟩ : ∃ H, H = s.heap := ⟨_, rfl⟩
  obtain ⟨locs, hlocs⟩ : ∃ locs : List Loc, locs = [] := ⟨_, rfl⟩
  have hP : va_P D gCl (xW cI cS cZ ad wc wb kp tp σ α) H := by rw [hH]; exact hP
  have hS : va_S A s.heap H locs := by rw [hH, hlocs]; exact hS
  suffices K : W p l e rm_Wi_close_10 s m ([.ref (wc)] : List Value).toArray below meth c H locs 0 0 Q (F0 m 0 ls []) by rw [hH, hlocs] at K; exact K
  clear hH hlocs
  refine lv_aload_n hx hb d_Wi_close_0 rfl (lv_at hl 0 rfl) ?_
  refine lv_iconst (v := 1) hx hb d_Wi_close_1 (by decide) ?_
  refine va_put (D := D) (ci := 6) (v := .int (1 : Int32)) (ty := .int) (C := R_Wi) (T := T_Wi) (N := 5) hx hb hts i_Wi t_Wi o_Wi n_Wi hown hK hP hD hS 10 rfl rfl 2 (by decide) (hts _ tw_117) (fun _ h9 => h9) rfl (by decide +kernel) rfl rfl (Nat.le_of_ble_eq_true rfl) d_Wi_close_2 (fun H locs hP hD hS => ?_)
  have hP : va_P D gCl (xW cI cS cZ ad wc wb kp tp (va_up σ 20 (1 : Int32)) α) H := hP
  have hD : va_D A (xW cI cS cZ ad wc wb kp tp (va_up σ 20 (1 : Int32)) α) := hD
  refine lv_aload_n hx hb d_Wi_close_5 rfl (lv_at hl 0 rfl) ?_
  refine lv_iconst (v := 0) hx hb d_Wi_close_6 (by decide) ?_
  refine va_put (D := D) (ci := 6) (v := .int (0 : Int32)) (ty := .int) (C := R_Wi) (T := T_Wi) (N := 5) hx hb hts i_Wi t_Wi o_Wi n_Wi hown hK hP hD hS 10 rfl rfl 3 (by decide) (hts _ tw_118) (fun _ h9 => h9) rfl (by decide +kernel) rfl rfl (Nat.le_of_ble_eq_true rfl) d_Wi_close_7 (fun H locs hP hD hS => ?_)
  have hP : va_P D gCl (xW cI cS cZ ad wc wb kp tp (va_up (va_up σ 20 (1 : Int32)) 21 (0 : Int32)) α) H := hP
  have hD : va_D A (xW cI cS cZ ad wc wb kp tp (va_up (va_up σ 20 (1 : Int32)) 21 (0 : Int32)) α) := hD
  exact hret H locs 10 ls ((va_up (va_up σ 20 (1 : Int32)) 21 (0 : Int32)), α) d_Wi_close_10 hP hD hS hw
abbrev rm_Wi_close_11 : Room := { frames := 0, cells := 0, slots := 0, locals := 0 }
set_option maxHeartbeats 4000000 in
set_option maxRecDepth 100000 in
theorem c_Wi_close_11 (l : Launch) (D : va_G) (cI cS cZ : ClassId) (ad : Nat → Nat) (wc wb : Nat) (kp tp : Nat → Nat) (σ : Nat → Int32) (α : Nat → Nat → Int32) (post : gS → Prop) (hw : wp_Wi_close_11 σ α post) : gMv l y_Wi_close b_Wi_close 1 rm_Wi_close_11 D (gT cI cS cZ) (fun u : gS => xW cI cS cZ ad wc wb kp tp u.1 u.2) [.ref (wb)] (σ, α) post := by
  refine gMv.of (by decide) (Nat.le_of_ble_eq_true rfl) ?_
  intro p e s m below meth c Q A hx hb hml hown hts hK hN hA hS hP hD hret ls hl
  have hl : lv_has ls 1 [(0, .ref (wb))] := hl
  unfold wp_Wi_close_11 at hw
  have hP : va_P D gCl (xW cI cS cZ ad wc wb kp tp σ α) s.heap := hP
  have hD : va_D A (xW cI cS cZ ad wc wb kp tp σ α) := hD
  obtain ⟨H, hH⟩ : ∃ H, H = s.heap := ⟨_, rfl⟩
  obtain ⟨locs, hlocs⟩ : ∃ locs : List Loc, locs = [] := ⟨_, rfl⟩
  have hP : va_P D gCl (xW cI cS cZ ad wc wb kp tp σ α) H := by rw [hH]; exact hP
  have hS : va_S A s.heap H locs := by rw [hH, hlocs]; exact hS
  suffices K : W p l e rm_Wi_close_11 s m ([.ref (wb)] : List Value).toArray below meth c H locs 0 0 Q (F0 m 0 ls []) by rw [hH, hlocs] at K; exact K
  clear hH hlocs
  refine lv_aload_n hx hb d_Wi_close_0 rfl (lv_at hl 0 rfl) ?_
  refine lv_iconst (v := 1) hx hb d_Wi_close_1 (by decide) ?_
  refine va_put (D := D) (ci := 6) (v := .int (1 : Int32)) (ty := .int) (C := R_Wi) (T := T_Wi) (N := 5) hx hb hts i_Wi t_Wi o_Wi n_Wi hown hK hP hD hS 11 rfl rfl 2 (by decide) (hts _ tw_117) (fun _ h9 => h9) rfl (by decide +kernel) rfl rfl (Nat.le_of_ble_eq_true rfl) d_Wi_close_2 (fun H locs hP hD hS => ?_)
  have hP : va_P D gCl (xW cI cS cZ ad wc wb kp tp (va_up σ 25 (1 : Int32)) α) H := hP
  have hD : va_D A (xW cI cS cZ ad wc wb kp tp (va_up σ 25 (1 : Int32)) α) := hD
  refine lv_aload_n hx hb d_Wi_close_5 rfl (lv_at hl 0 rfl) ?_
  refine lv_iconst (v := 0) hx hb d_Wi_close_6 (by decide) ?_
  refine va_put (D := D) (ci := 6) (v := .int (0 : Int32)) (ty := .int) (C := R_Wi) (T := T_Wi) (N := 5) hx hb hts i_Wi t_Wi o_Wi n_Wi hown hK hP hD hS 11 rfl rfl 3 (by decide) (hts _ tw_118) (fun _ h9 => h9) rfl (by decide +kernel) rfl rfl (Nat.le_of_ble_eq_true rfl) d_Wi_close_7 (fun H locs hP hD hS => ?_)
  have hP : va_P D gCl (xW cI cS cZ ad wc wb kp tp (va_up (va_up σ 25 (1 : Int32)) 26 (0 : Int32)) α) H := hP
  have hD : va_D A (xW cI cS cZ ad wc wb kp tp (va_up (va_up σ 25 (1 : Int32)) 26 (0 : Int32)) α) := hD
  exact hret H locs 10 ls ((va_up (va_up σ 25 (1 : Int32)) 26 (0 : Int32)), α) d_Wi_close_10 hP hD hS hw
abbrev rm_Mu_rest : Room := { frames := 0, cells := 0, slots := 0, locals := 0 }
set_option maxHeartbeats 4000000 in
set_option maxRecDepth 100000 in
theorem c_Mu_rest (l : Launch) (D : va_G) (cI cS cZ : ClassId) (ad : Nat → Nat) (wc wb : Nat) (kp tp : Nat → Nat) (σ : Nat → Int32) (α : Nat → Nat → Int32) (post : gS → Prop) (hw : wp_Mu_rest σ α post) : gMv l y_Mu_rest b_Mu_rest 1 rm_Mu_rest D (gT cI cS cZ) (fun u : gS => xW cI cS cZ ad wc wb kp tp u.1 u.2) [.ref (ad 9)] (σ, α) post := by
  refine gMv.of (by decide) (Nat.le_of_ble_eq_true rfl) ?_
  intro p e s m below meth c Q A hx hb hml hown hts hK hN hA hS hP hD hret ls hl
  have hl : lv_has ls 1 [(0, .ref (ad 9))] := hl
  unfold wp_Mu_rest at hw
  have hP : va_P D gCl (xW cI cS cZ ad wc wb kp tp σ α) s.heap := hP
  have hD : va_D A (xW cI cS cZ ad wc wb kp tp σ α) := hD
  obtain ⟨H, hH⟩ : ∃ H, H = s.heap := ⟨_, rfl⟩
  obtain ⟨locs, hlocs⟩ : ∃ locs : List Loc, locs = [] := ⟨_, rfl⟩
  have hP : va_P D gCl (xW cI cS cZ ad wc wb kp tp σ α) H := by rw [hH]; exact hP
  have hS : va_S A s.heap H locs := by rw [hH, hlocs]; exact hS
  suffices K : W p l e rm_Mu_rest s m ([.ref (ad 9)] : List Value).toArray below meth c H locs 0 0 Q (F0 m 0 ls []) by rw [hH, hlocs] at K; exact K
  clear hH hlocs
  refine lv_aload_n hx hb d_Mu_rest_0 rfl (lv_at hl 0 rfl) ?_
  refine lv_iconst (v := 0) hx hb d_Mu_rest_1 (by decide) ?_
  refine va_put (D := D) (ci := 5) (v := .int (0 : Int32)) (ty := .int) (C := R_Mu) (T := T_Mu) (N := 3) hx hb hts i_Mu t_Mu o_Mu n_Mu hown hK hP hD hS 9 rfl rfl 1 (by decide) (hts _ tw_97) (fun _ h9 => h9) rfl (by decide +kernel) rfl rfl (Nat.le_of_ble_eq_true rfl) d_Mu_rest_2 (fun H locs hP hD hS => ?_)
  have hP : va_P D gCl (xW cI cS cZ ad wc wb kp tp (va_up σ 16 (0 : Int32)) α) H := hP
  have hD : va_D A (xW cI cS cZ ad wc wb kp tp (va_up σ 16 (0 : Int32)) α) := hD
  exact hret H locs 5 ls ((va_up σ 16 (0 : Int32)), α) d_Mu_rest_5 hP hD hS hw
abbrev rm_Rd_rest : Room := { frames := 0, cells := 0, slots := 0, locals := 0 }
set_option maxHeartbeats 4000000 in
set_option maxRecDepth 100000 in
theorem c_Rd_rest (l : Launch) (D : va_G) (cI cS cZ : ClassId) (ad : Nat → Nat) (wc wb : Nat) (kp tp : Nat → Nat) (σ : Nat → Int32) (α : Nat → Nat → Int32) (post : gS → Prop) (hw : wp_Rd_rest σ α post) : gMv l y_Rd_rest b_Rd_rest 1 rm_Rd_rest D (gT cI cS cZ) (fun u : gS => xW cI cS cZ ad wc wb kp tp u.1 u.2) [.ref (ad 4)] (σ, α) post := by
  refine gMv.of (by decide) (Nat.le_of_ble_eq_true rfl) ?_
  intro p e s m below meth c Q A hx hb hml hown hts hK hN hA hS hP hD hret ls hl
  have hl : lv_has ls 1 [(0, .ref (ad 4))] := hl
  unfold wp_Rd_rest at hw
  have hP : va_P D gCl (xW cI cS cZ ad wc wb kp tp σ α) s.heap := hP
  have hD : va_D A (xW cI cS cZ ad wc wb kp tp σ α) := hD
  obtain ⟨H, hH⟩ : ∃ H, H = s.heap := ⟨_, rfl⟩
  obtain ⟨locs, hlocs⟩ : ∃ locs : List Loc, locs = [] := ⟨_, rfl⟩
  have hP : va_P D gCl (xW cI cS cZ ad wc wb kp tp σ α) H := by rw [hH]; exact hP
  have hS : va_S A s.heap H locs := by rw [hH, hlocs]; exact hS
  suffices K : W p l e rm_Rd_rest s m ([.ref (ad 4)] : List Value).toArray below meth c H locs 0 0 Q (F0 m 0 ls []) by rw [hH, hlocs] at K; exact K
  clear hH hlocs
  refine lv_aload_n hx hb d_Rd_rest_0 rfl (lv_at hl 0 rfl) ?_
  refine lv_iconst (v := 0) hx hb d_Rd_rest_1 (by decide) ?_
  refine va_put (D := D) (ci := 2) (v := .int (0 : Int32)) (ty := .boolean) (C := R_Rd) (T := T_Rd) (N := 6) hx hb hts i_Rd t_Rd o_Rd n_Rd hown hK hP hD hS 4 rfl rfl 3 (by decide) (hts _ tw_50) (fun _ h9 => h9) rfl (by decide +kernel) rfl rfl (Nat.le_of_ble_eq_true rfl) d_Rd_rest_2 (fun H locs hP hD hS => ?_)
  have hP : va_P D gCl (xW cI cS cZ ad wc wb kp tp (va_up σ 2 (0 : Int32)) α) H := hP
  have hD : va_D A (xW cI cS cZ ad wc wb kp tp (va_up σ 2 (0 : Int32)) α) := hD
  refine lv_aload_n hx hb d_Rd_rest_5 rfl (lv_at hl 0 rfl) ?_
  refine lv_iconst (v := 0) hx hb d_Rd_rest_6 (by decide) ?_
  refine va_put (D := D) (ci := 2) (v := .int (0 : Int32)) (ty := .boolean) (C := R_Rd) (T := T_Rd) (N := 6) hx hb hts i_Rd t_Rd o_Rd n_Rd hown hK hP hD hS 4 rfl rfl 5 (by decide) (hts _ tw_52) (fun _ h9 => h9) rfl (by decide +kernel) rfl rfl (Nat.le_of_ble_eq_true rfl) d_Rd_rest_7 (fun H locs hP hD hS => ?_)
  have hP : va_P D gCl (xW cI cS cZ ad wc wb kp tp (va_up (va_up σ 2 (0 : Int32)) 4 (0 : Int32)) α) H := hP
  have hD : va_D A (xW cI cS cZ ad wc wb kp tp (va_up (va_up σ 2 (0 : Int32)) 4 (0 : Int32)) α) := hD
  exact hret H locs 10 ls ((va_up (va_up σ 2 (0 : Int32)) 4 (0 : Int32)), α) d_Rd_rest_10 hP hD hS hw
abbrev rm_Mc_begin : Room := { frames := 1, cells := 0, slots := 0, locals := 20 }
set_option maxHeartbeats 4000000 in
set_option maxRecDepth 100000 in
theorem c_Mc_begin (l : Launch) (D : va_G) (cI cS cZ : ClassId) (ad : Nat → Nat) (wc wb : Nat) (kp tp : Nat → Nat) (σ : Nat → Int32) (α : Nat → Nat → Int32) (x1 : Int32) (x2 : Int32) (post : gS → Prop) (hw : wp_Mc_begin σ α x1 x2 post) : gMv l y_Mc_begin b_Mc_begin 3 rm_Mc_begin D (gT cI cS cZ) (fun u : gS => xW cI cS cZ ad wc wb kp tp u.1 u.2) [.ref (ad 8), .int x1, .int x2] (σ, α) post := by
  refine gMv.of (by decide) (Nat.le_of_ble_eq_true rfl) ?_
  intro p e s m below meth c Q A hx hb hml hown hts hK hN hA hS hP hD hret ls hl
  have hl : lv_has ls 3 [(0, .ref (ad 8)), (1, .int x1), (2, .int x2)] := hl
  unfold wp_Mc_begin at hw
  have hP : va_P D gCl (xW cI cS cZ ad wc wb kp tp σ α) s.heap := hP
  have hD : va_D A (xW cI cS cZ ad wc wb kp tp σ α) := hD
  obtain ⟨H, hH⟩ : ∃ H, H = s.heap := ⟨_, rfl⟩
  obtain ⟨locs, hlocs⟩ : ∃ locs : List Loc, locs = [] := ⟨_, rfl⟩
  have hP : va_P D gCl (xW cI cS cZ ad wc wb kp tp σ α) H := by rw [hH]; exact hP
  have hS : va_S A s.heap H locs := by rw [hH, hlocs]; exact hS
  suffices K : W p l e rm_Mc_begin s m ([.ref (ad 8), .int x1, .int x2] : List Value).toArray below meth c H locs 0 0 Q (F0 m 0 ls []) by rw [hH, hlocs] at K; exact K
  clear hH hlocs
  refine lv_aload_n hx hb d_Mc_begin_0 rfl (lv_at hl 0 rfl) ?_
  refine lv_iconst (v := 1) hx hb d_Mc_begin_1 (by decide) ?_
  refine va_put (D := D) (ci := 4) (v := .int (1 : Int32)) (ty := .boolean) (C := R_Mc) (T := T_Mc) (N := 14) hx hb hts i_Mc t_Mc o_Mc n_Mc hown hK hP hD hS 8 rfl rfl 6 (by decide) (hts _ tw_139) (fun _ h9 => h9) rfl (by decide +kernel) rfl rfl (Nat.le_of_ble_eq_true rfl) d_Mc_begin_2 (fun H locs hP hD hS => ?_)
  have hP : va_P D gCl (xW cI cS cZ ad wc wb kp tp (va_up σ 7 (1 : Int32)) α) H := hP
  have hD : va_D A (xW cI cS cZ ad wc wb kp tp (va_up σ 7 (1 : Int32)) α) := hD
  refine lv_aload_n hx hb d_Mc_begin_5 rfl (lv_at hl 0 rfl) ?_
  refine lv_iconst (v := 0) hx hb d_Mc_begin_6 (by decide) ?_
  refine va_put (D := D) (ci := 4) (v := .int (0 : Int32)) (ty := .int) (C := R_Mc) (T := T_Mc) (N := 14) hx hb hts i_Mc t_Mc o_Mc n_Mc hown hK hP hD hS 8 rfl rfl 7 (by decide) (hts _ tw_141) (fun _ h9 => h9) rfl (by decide +kernel) rfl rfl (Nat.le_of_ble_eq_true rfl) d_Mc_begin_7 (fun H locs hP hD hS => ?_)
  have hP : va_P D gCl (xW cI cS cZ ad wc wb kp tp (va_up (va_up σ 7 (1 : Int32)) 8 (0 : Int32)) α) H := hP
  have hD : va_D A (xW cI cS cZ ad wc wb kp tp (va_up (va_up σ 7 (1 : Int32)) 8 (0 : Int32)) α) := hD
  refine lv_aload_n hx hb d_Mc_begin_10 rfl (lv_at hl 0 rfl) ?_
  refine lv_iload_n hx hb d_Mc_begin_11 rfl (lv_at hl 1 rfl) ?_
  refine va_put (D := D) (ci := 4) (v := .int x1) (ty := .int) (C := R_Mc) (T := T_Mc) (N := 14) hx hb hts i_Mc t_Mc o_Mc n_Mc hown hK hP hD hS 8 rfl rfl 9 (by decide) (hts _ tw_145) (fun _ h9 => h9) rfl (by decide +kernel) rfl rfl (Nat.le_of_ble_eq_true rfl) d_Mc_begin_12 (fun H locs hP hD hS => ?_)
  have hP : va_P D gCl (xW cI cS cZ ad wc wb kp tp (va_up (va_up (va_up σ 7 (1 : Int32)) 8 (0 : Int32)) 10 x1) α) H := hP
  have hD : va_D A (xW cI cS cZ ad wc wb kp tp (va_up (va_up (va_up σ 7 (1 : Int32)) 8 (0 : Int32)) 10 x1) α) := hD
  refine lv_aload_n hx hb d_Mc_begin_15 rfl (lv_at hl 0 rfl) ?_
  refine lv_aload_n hx hb d_Mc_begin_16 rfl (lv_at hl 0 rfl) ?_
  refine va_get (D := D) (ci := 4) (v := .int (σ 9)) (C := R_Mc) (T := T_Mc) (N := 14) hx hb hts i_Mc hown hK hP 8 rfl rfl 8 (by decide) (hts _ tw_143) (fun _ h9 => h9) rfl d_Mc_begin_17 ?_
  refine lv_iload_n hx hb d_Mc_begin_20 rfl (lv_at hl 2 rfl) ?_
  refine lv_aload_n hx hb d_Mc_begin_21 rfl (lv_at hl 0 rfl) ?_
  refine va_get (D := D) (ci := 4) (v := .int (σ 9)) (C := R_Mc) (T := T_Mc) (N := 14) hx hb hts i_Mc hown hK hP 8 rfl rfl 8 (by decide) (hts _ tw_143) (fun _ h9 => h9) rfl d_Mc_begin_22 ?_
  refine lv_isub hx hb d_Mc_begin_25 ?_
  refine lv_bipush (v := 31) hx hb d_Mc_begin_26 (by decide) ?_
  refine lv_iand hx hb d_Mc_begin_28 ?_
  refine lv_iadd hx hb d_Mc_begin_29 ?_
  refine va_put (D := D) (ci := 4) (v := .int ((σ 9) + ((x2 - (σ 9)) &&& (31 : Int32)))) (ty := .int) (C := R_Mc) (T := T_Mc) (N := 14) hx hb hts i_Mc t_Mc o_Mc n_Mc hown hK hP hD hS 8 rfl rfl 10 (by decide) (hts _ tw_146) (fun _ h9 => h9) rfl (by decide +kernel) rfl rfl (Nat.le_of_ble_eq_true rfl) d_Mc_begin_30 (fun H locs hP hD hS => ?_)
  have hP : va_P D gCl (xW cI cS cZ ad wc wb kp tp (va_up (va_up (va_up (va_up σ 7 (1 : Int32)) 8 (0 : Int32)) 10 x1) 11 ((σ 9) + ((x2 - (σ 9)) &&& (31 : Int32)))) α) H := hP
  have hD : va_D A (xW cI cS cZ ad wc wb kp tp (va_up (va_up (va_up (va_up σ 7 (1 : Int32)) 8 (0 : Int32)) 10 x1) 11 ((σ 9) + ((x2 - (σ 9)) &&& (31 : Int32)))) α) := hD
  refine lv_aload_n hx hb d_Mc_begin_33 rfl (lv_at hl 0 rfl) ?_
  refine lv_iconst (v := (-1)) hx hb d_Mc_begin_34 (by decide) ?_
  refine va_put (D := D) (ci := 4) (v := .int (-1 : Int32)) (ty := .int) (C := R_Mc) (T := T_Mc) (N := 14) hx hb hts i_Mc t_Mc o_Mc n_Mc hown hK hP hD hS 8 rfl rfl 11 (by decide) (hts _ tw_147) (fun _ h9 => h9) rfl (by decide +kernel) rfl rfl (Nat.le_of_ble_eq_true rfl) d_Mc_begin_35 (fun H locs hP hD hS => ?_)
  have hP : va_P D gCl (xW cI cS cZ ad wc wb kp tp (va_up (va_up (va_up (va_up (va_up σ 7 (1 : Int32)) 8 (0 : Int32)) 10 x1) 11 ((σ 9) + ((x2 - (σ 9)) &&& (31 : Int32)))) 12 (-1 : Int32)) α) H := hP
  have hD : va_D A (xW cI cS cZ ad wc wb kp tp (va_up (va_up (va_up (va_up (va_up σ 7 (1 : Int32)) 8 (0 : Int32)) 10 x1) 11 ((σ 9) + ((x2 - (σ 9)) &&& (31 : Int32)))) 12 (-1 : Int32)) α) := hD
  refine lv_aload_n hx hb d_Mc_begin_38 rfl (lv_at hl 0 rfl) ?_
  refine lv_iconst (v := (-1)) hx hb d_Mc_begin_39 (by decide) ?_
  refine va_put (D := D) (ci := 4) (v := .int (-1 : Int32)) (ty := .int) (C := R_Mc) (T := T_Mc) (N := 14) hx hb hts i_Mc t_Mc o_Mc n_Mc hown hK hP hD hS 8 rfl rfl 12 (by decide) (hts _ tw_149) (fun _ h9 => h9) rfl (by decide +kernel) rfl rfl (Nat.le_of_ble_eq_true rfl) d_Mc_begin_40 (fun H locs hP hD hS => ?_)
  have hP : va_P D gCl (xW cI cS cZ ad wc wb kp tp (va_up (va_up (va_up (va_up (va_up (va_up σ 7 (1 : Int32)) 8 (0 : Int32)) 10 x1) 11 ((σ 9) + ((x2 - (σ 9)) &&& (31 : Int32)))) 12 (-1 : Int32)) 13 (-1 : Int32)) α) H := hP
  have hD : va_D A (xW cI cS cZ ad wc wb kp tp (va_up (va_up (va_up (va_up (va_up (va_up σ 7 (1 : Int32)) 8 (0 : Int32)) 10 x1) 11 ((σ 9) + ((x2 - (σ 9)) &&& (31 : Int32)))) 12 (-1 : Int32)) 13 (-1 : Int32)) α) := hD
  refine lv_aload_n hx hb d_Mc_begin_43 rfl (lv_at hl 0 rfl) ?_
  refine lv_iconst (v := 0) hx hb d_Mc_begin_44 (by decide) ?_
  refine va_put (D := D) (ci := 4) (v := .int (0 : Int32)) (ty := .int) (C := R_Mc) (T := T_Mc) (N := 14) hx hb hts i_Mc t_Mc o_Mc n_Mc hown hK hP hD hS 8 rfl rfl 13 (by decide) (hts _ tw_151) (fun _ h9 => h9) rfl (by decide +kernel) rfl rfl (Nat.le_of_ble_eq_true rfl) d_Mc_begin_45 (fun H locs hP hD hS => ?_)
  have hP : va_P D gCl (xW cI cS cZ ad wc wb kp tp (va_up (va_up (va_up (va_up (va_up (va_up (va_up σ 7 (1 : Int32)) 8 (0 : Int32)) 10 x1) 11 ((σ 9) + ((x2 - (σ 9)) &&& (31 : Int32)))) 12 (-1 : Int32)) 13 (-1 : Int32)) 14 (0 : Int32)) α) H := hP
  have hD : va_D A (xW cI cS cZ ad wc wb kp tp (va_up (va_up (va_up (va_up (va_up (va_up (va_up σ 7 (1 : Int32)) 8 (0 : Int32)) 10 x1) 11 ((σ 9) + ((x2 - (σ 9)) &&& (31 : Int32)))) 12 (-1 : Int32)) 13 (-1 : Int32)) 14 (0 : Int32)) α) := hD
  refine lv_aload_n hx hb d_Mc_begin_48 rfl (lv_at hl 0 rfl) ?_
  refine va_get (D := D) (ci := 4) (v := .ref (wc)) (C := R_Mc) (T := T_Mc) (N := 14) hx hb hts i_Mc hown hK hP 8 rfl rfl 4 (by decide) (hts _ tw_137) (fun _ h9 => h9) rfl d_Mc_begin_49 ?_
  refine gCallVv (b := wc) (As := []) (rest := []) (c_Wi_close_10 l D cI cS cZ ad wc wb kp tp (va_up (va_up (va_up (va_up (va_up (va_up (va_up σ 7 (1 : Int32)) 8 (0 : Int32)) 10 x1) 11 ((σ 9) + ((x2 - (σ 9)) &&& (31 : Int32)))) 12 (-1 : Int32)) 13 (-1 : Int32)) 14 (0 : Int32)) α _ hw) hx hb hml hown hts hK hN hA hS hP hD (cwV 0 hts (gGV tw_314 tw_315 tw_316 tw_7 tw_317) rfl rfl rfl ⟨rfl, by decide, by decide, by decide +kernel⟩ ⟨Nat.le_of_ble_eq_true rfl, Nat.le_of_ble_eq_true rfl⟩) (va_recv (ci := 6) (q0 := 10) hK hP rfl rfl) rfl hl.1 rfl (Nat.le_of_ble_eq_true rfl) d_Mc_begin_52 (fun u52 H locs hw hP hD hS => ?_)
  have hP : va_P D gCl (xW cI cS cZ ad wc wb kp tp u52.1 u52.2) H := hP
  have hD : va_D A (xW cI cS cZ ad wc wb kp tp u52.1 u52.2) := hD
  refine lv_aload_n hx hb d_Mc_begin_55 rfl (lv_at hl 0 rfl) ?_
  refine va_get (D := D) (ci := 4) (v := .ref (wb)) (C := R_Mc) (T := T_Mc) (N := 14) hx hb hts i_Mc hown hK hP 8 rfl rfl 5 (by decide) (hts _ tw_138) (fun _ h9 => h9) rfl d_Mc_begin_56 ?_
  refine gCallVv (b := wb) (As := []) (rest := []) (c_Wi_close_11 l D cI cS cZ ad wc wb kp tp u52.1 u52.2 _ hw) hx hb hml hown hts hK hN hA hS hP hD (cwV 0 hts (gGV tw_314 tw_315 tw_316 tw_7 tw_317) rfl rfl rfl ⟨rfl, by decide, by decide, by decide +kernel⟩ ⟨Nat.le_of_ble_eq_true rfl, Nat.le_of_ble_eq_true rfl⟩) (va_recv (ci := 6) (q0 := 11) hK hP rfl rfl) rfl hl.1 rfl (Nat.le_of_ble_eq_true rfl) d_Mc_begin_59 (fun u59 H locs hw hP hD hS => ?_)
  have hP : va_P D gCl (xW cI cS cZ ad wc wb kp tp u59.1 u59.2) H := hP
  have hD : va_D A (xW cI cS cZ ad wc wb kp tp u59.1 u59.2) := hD
  refine lv_aload_n hx hb d_Mc_begin_62 rfl (lv_at hl 0 rfl) ?_
  refine va_get (D := D) (ci := 4) (v := .ref (ad 9)) (C := R_Mc) (T := T_Mc) (N := 14) hx hb hts i_Mc hown hK hP 8 rfl rfl 3 (by decide) (hts _ tw_135) (fun _ h9 => h9) rfl d_Mc_begin_63 ?_
  refine gCallVv (b := ad 9) (As := []) (rest := []) (c_Mu_rest l D cI cS cZ ad wc wb kp tp u59.1 u59.2 _ hw) hx hb hml hown hts hK hN hA hS hP hD (cwV 0 hts (gGV tw_318 tw_319 tw_320 tw_6 tw_321) rfl rfl rfl ⟨rfl, by decide, by decide, by decide +kernel⟩ ⟨Nat.le_of_ble_eq_true rfl, Nat.le_of_ble_eq_true rfl⟩) (va_recv (ci := 5) (q0 := 9) hK hP rfl rfl) rfl hl.1 rfl (Nat.le_of_ble_eq_true rfl) d_Mc_begin_66 (fun u66 H locs hw hP hD hS => ?_)
  have hP : va_P D gCl (xW cI cS cZ ad wc wb kp tp u66.1 u66.2) H := hP
  have hD : va_D A (xW cI cS cZ ad wc wb kp tp u66.1 u66.2) := hD
  refine lv_aload_n hx hb d_Mc_begin_69 rfl (lv_at hl 0 rfl) ?_
  refine va_get (D := D) (ci := 4) (v := .ref (ad 4)) (C := R_Mc) (T := T_Mc) (N := 14) hx hb hts i_Mc hown hK hP 8 rfl rfl 1 (by decide) (hts _ tw_133) (fun _ h9 => h9) rfl d_Mc_begin_70 ?_
  refine gCallVv (b := ad 4) (As := []) (rest := []) (c_Rd_rest l D cI cS cZ ad wc wb kp tp u66.1 u66.2 _ hw) hx hb hml hown hts hK hN hA hS hP hD (cwV 0 hts (gGV tw_322 tw_323 tw_324 tw_3 tw_325) rfl rfl rfl ⟨rfl, by decide, by decide, by decide +kernel⟩ ⟨Nat.le_of_ble_eq_true rfl, Nat.le_of_ble_eq_true rfl⟩) (va_recv (ci := 2) (q0 := 4) hK hP rfl rfl) rfl hl.1 rfl (Nat.le_of_ble_eq_true rfl) d_Mc_begin_73 (fun u73 H locs hw hP hD hS => ?_)
  have hP : va_P D gCl (xW cI cS cZ ad wc wb kp tp u73.1 u73.2) H := hP
  have hD : va_D A (xW cI cS cZ ad wc wb kp tp u73.1 u73.2) := hD
  exact hret H locs 76 ls (u73.1, u73.2) d_Mc_begin_76 hP hD hS hw
abbrev rm_Dm_start : Room := { frames := 2, cells := 0, slots := 0, locals := 42 }
set_option maxHeartbeats 4000000 in
set_option maxRecDepth 100000 in
theorem c_Dm_start (l : Launch) (D : va_G) (cI cS cZ : ClassId) (ad : Nat → Nat) (wc wb : Nat) (kp tp : Nat → Nat) (σ : Nat → Int32) (α : Nat → Nat → Int32) (x1 : Int32) (x2 : Int32) (post : Int32 → gS → Prop) (hw : wp_Dm_start σ α x1 x2 post) : gMi l y_Dm_start b_Dm_start 3 .boolean rm_Dm_start D (gT cI cS cZ) (fun u : gS => xW cI cS cZ ad wc wb kp tp u.1 u.2) [.ref (ad 0), .int x1, .int x2] (σ, α) post := by
  refine gMi.of (by decide) (Nat.le_of_ble_eq_true rfl) ?_
  intro p e s m below meth c Q A hx hb hml hown hts hK hN hA hS hP hD hret ls hl
  have hl : lv_has ls 3 [(0, .ref (ad 0)), (1, .int x1), (2, .int x2)] := hl
  unfold wp_Dm_start at hw
  have hP : va_P D gCl (xW cI cS cZ ad wc wb kp tp σ α) s.heap := hP
  have hD : va_D A (xW cI cS cZ ad wc wb kp tp σ α) := hD
  obtain ⟨H, hH⟩ : ∃ H, H = s.heap := ⟨_, rfl⟩
  obtain ⟨locs, hlocs⟩ : ∃ locs : List Loc, locs = [] := ⟨_, rfl⟩
  have hP : va_P D gCl (xW cI cS cZ ad wc wb kp tp σ α) H := by rw [hH]; exact hP
  have hS : va_S A s.heap H locs := by rw [hH, hlocs]; exact hS
  suffices K : W p l e rm_Dm_start s m ([.ref (ad 0), .int x1, .int x2] : List Value).toArray below meth c H locs 0 0 Q (F0 m 0 ls []) by rw [hH, hlocs] at K; exact K
  clear hH hlocs
  refine lv_iload_n hx hb d_Dm_start_0 rfl (lv_at hl 1 rfl) ?_
  refine lv_iload_n hx hb d_Dm_start_1 rfl (lv_at hl 2 rfl) ?_
  refine gCallSi (As := [.int x1, .int x2]) (rest := []) (c_St_orderSpot l D cI cS cZ ad wc wb kp tp σ α x1 x2 _ hw) hx hb hml hown hts hK hN hA hS hP hD (va_cwS 2 hts (gGS tw_281 tw_282 tw_2 tw_283) rfl rfl rfl ⟨by decide, by decide, by decide +kernel⟩ ⟨Nat.le_of_ble_eq_true rfl, Nat.le_of_ble_eq_true rfl⟩) rfl hl.1 rfl (Nat.le_of_ble_eq_true rfl) d_Dm_start_2 (fun r2 u2 H locs hw hP hD hS => ?_)
  have hP : va_P D gCl (xW cI cS cZ ad wc wb kp tp u2.1 u2.2) H := hP
  have hD : va_D A (xW cI cS cZ ad wc wb kp tp u2.1 u2.2) := hD
  refine lv_if_ge (tgt := 10) hx hb d_Dm_start_5 (by decide) (fun h => ?_) (fun h => ?_)
  · have hw := hw.1 h
    refine lv_aload_n hx hb d_Dm_start_10 rfl (lv_at hl 0 rfl) ?_
    refine va_get (D := D) (ci := 0) (v := .ref (ad 8)) (C := R_Dm) (T := T_Dm) (N := 7) hx hb hts i_Dm hown hK hP 0 rfl rfl 3 (by decide) (hts _ tw_258) (fun _ h9 => h9) rfl d_Dm_start_11 ?_
    refine lv_iload_n hx hb d_Dm_start_14 rfl (lv_at hl 1 rfl) ?_
    refine lv_iload_n hx hb d_Dm_start_15 rfl (lv_at hl 2 rfl) ?_
    refine gCallVv (b := ad 8) (As := [.int x1, .int x2]) (rest := []) (c_Mc_begin l D cI cS cZ ad wc wb kp tp u2.1 u2.2 x1 x2 _ hw) hx hb hml hown hts hK hN hA hS hP hD (cwV 2 hts (gGV tw_310 tw_311 tw_312 tw_5 tw_313) rfl rfl rfl ⟨rfl, by decide, by decide, by decide +kernel⟩ ⟨Nat.le_of_ble_eq_true rfl, Nat.le_of_ble_eq_true rfl⟩) (va_recv (ci := 4) (q0 := 8) hK hP rfl rfl) rfl hl.1 rfl (Nat.le_of_ble_eq_true rfl) d_Dm_start_16 (fun u16 H locs hw hP hD hS => ?_)
    have hP : va_P D gCl (xW cI cS cZ ad wc wb kp tp u16.1 u16.2) H := hP
    have hD : va_D A (xW cI cS cZ ad wc wb kp tp u16.1 u16.2) := hD
    refine lv_iconst (v := 1) hx hb d_Dm_start_19 (by decide) ?_
    exact hret H locs 20 ls (1 : Int32) (u16.1, u16.2) d_Dm_start_20 hP hD hS rfl hw
  · have hw := hw.2 h
    refine lv_iconst (v := 0) hx hb d_Dm_start_8 (by decide) ?_
    exact hret H locs 9 ls (0 : Int32) (u2.1, u2.2) d_Dm_start_9 hP hD hS rfl hw
abbrev rm_Wi_lastOf_10 : Room := { frames := 0, cells := 0, slots := 0, locals := 0 }
set_option maxHeartbeats 4000000 in
set_option maxRecDepth 100000 in
theorem c_Wi_lastOf_10 (l : Launch) (D : va_G) (cI cS cZ : ClassId) (ad : Nat → Nat) (wc wb : Nat) (kp tp : Nat → Nat) (σ : Nat → Int32) (α : Nat → Nat → Int32) (x1 : Int32) (post : Int32 → gS → Prop) (hw : wp_Wi_lastOf_10 σ α x1 post) : gMi l y_Wi_lastOf b_Wi_lastOf 2 .int rm_Wi_lastOf_10 D (gT cI cS cZ) (fun u : gS => xW cI cS cZ ad wc wb kp tp u.1 u.2) [.ref (wc), .int x1] (σ, α) post := by
  refine gMi.of (by decide) (Nat.le_of_ble_eq_true rfl) ?_
  intro p e s m below meth c Q A hx hb hml hown hts hK hN hA hS hP hD hret ls hl
  have hl : lv_has ls 2 [(0, .ref (wc)), (1, .int x1)] := hl
  have J28 : ∀ (σ : Nat → Int32) (α : Nat → Nat → Int32) (t0 : Int32) (ls : Array Slot) (H : Heap) (locs : List Loc), lv_has ls 2 [] → va_P D gCl (xW cI cS cZ ad wc wb kp tp σ α) H → va_D A (xW cI cS cZ ad wc wb kp tp σ α) → va_S A s.heap H locs → wp_Wi_lastOf_10_J28 σ α t0 post → W p l e rm_Wi_lastOf_10 s m ([.ref (wc), .int x1] : List Value).toArray below meth c H locs 0 0 Q (F0 m 28 ls [.int t0]) := by
    intro σ α t0 ls H locs hl hP hD hS hw
    unfold wp_Wi_lastOf_10_J28 at hw
    exact hret H locs 28 ls t0 (σ, α) d_Wi_lastOf_28 hP hD hS (vp_nar_int _) hw
  unfold wp_Wi_lastOf_10 at hw
  have hP : va_P D gCl (xW cI cS cZ ad wc wb kp tp σ α) s.heap := hP
  have hD : va_D A (xW cI cS cZ ad wc wb kp tp σ α) := hD
  obtain ⟨H, hH⟩ : ∃ H, H = s.heap := ⟨_, rfl⟩
  obtain ⟨locs, hlocs⟩ : ∃ locs : List Loc, locs = [] := ⟨_, rfl⟩
  have hP : va_P D gCl (xW cI cS cZ ad wc wb kp tp σ α) H := by rw [hH]; exact hP
  have hS : va_S A s.heap H locs := by rw [hH, hlocs]; exact hS
  suffices K : W p l e rm_Wi_lastOf_10 s m ([.ref (wc), .int x1] : List Value).toArray below meth c H locs 0 0 Q (F0 m 0 ls []) by rw [hH, hlocs] at K; exact K
  clear hH hlocs
  refine lv_iload_n hx hb d_Wi_lastOf_0 rfl (lv_at hl 1 rfl) ?_
  refine lv_iconst (v := 2) hx hb d_Wi_lastOf_1 (by decide) ?_
  refine lv_icmp_ne (tgt := 10) hx hb d_Wi_lastOf_2 (by decide) (fun h => ?_) (fun h => ?_)
  · have hw := hw.1 h
    refine lv_iload_n hx hb d_Wi_lastOf_10 rfl (lv_at hl 1 rfl) ?_
    refine lv_iconst (v := 1) hx hb d_Wi_lastOf_11 (by decide) ?_
    refine lv_icmp_ne (tgt := 24) hx hb d_Wi_lastOf_12 (by decide) (fun h => ?_) (fun h => ?_)
    · have hw := hw.1 h
      refine lv_aload_n hx hb d_Wi_lastOf_24 rfl (lv_at hl 0 rfl) ?_
      refine va_get (D := D) (ci := 6) (v := .int (σ 20)) (C := R_Wi) (T := T_Wi) (N := 5) hx hb hts i_Wi hown hK hP 10 rfl rfl 2 (by decide) (hts _ tw_117) (fun _ h9 => h9) rfl d_Wi_lastOf_25 ?_
      exact J28 σ α (σ 20) ls H locs (lv_sub hl [] rfl) hP hD hS hw
    · have hw := hw.2 h
      refine lv_aload_n hx hb d_Wi_lastOf_15 rfl (lv_at hl 0 rfl) ?_
      refine va_get (D := D) (ci := 6) (v := .int (σ 20)) (C := R_Wi) (T := T_Wi) (N := 5) hx hb hts i_Wi hown hK hP 10 rfl rfl 2 (by decide) (hts _ tw_117) (fun _ h9 => h9) rfl d_Wi_lastOf_16 ?_
      refine lv_iconst (v := 1) hx hb d_Wi_lastOf_19 (by decide) ?_
      refine lv_iadd hx hb d_Wi_lastOf_20 ?_
      refine lv_goto (tgt := 28) hx hb d_Wi_lastOf_21 (by decide) ?_
      exact J28 σ α ((σ 20) + (1 : Int32)) ls H locs (lv_sub hl [] rfl) hP hD hS hw
  · have hw := hw.2 h
    refine lv_aload_n hx hb d_Wi_lastOf_5 rfl (lv_at hl 0 rfl) ?_
    refine va_get (D := D) (ci := 6) (v := .int (σ 22)) (C := R_Wi) (T := T_Wi) (N := 5) hx hb hts i_Wi hown hK hP 10 rfl rfl 4 (by decide) (hts _ tw_119) (fun _ h9 => h9) rfl d_Wi_lastOf_6 ?_
    exact hret H locs 9 ls (σ 22) (σ, α) d_Wi_lastOf_9 hP hD hS (vp_nar_int _) hw
abbrev rm_Wi_open_10 : Room := { frames := 1, cells := 0, slots := 0, locals := 21 }
set_option maxHeartbeats 4000000 in
set_option maxRecDepth 100000 in
theorem c_Wi_open_10 (l : Launch) (D : va_G) (cI cS cZ : ClassId) (ad : Nat → Nat) (wc wb : Nat) (kp tp : Nat → Nat) (σ : Nat → Int32) (α : Nat → Nat → Int32) (x1 : Int32) (x2 : Int32) (post : gS → Prop) (hw : wp_Wi_open_10 σ α x1 x2 post) : gMv l y_Wi_open b_Wi_open 6 rm_Wi_open_10 D (gT cI cS cZ) (fun u : gS => xW cI cS cZ ad wc wb kp tp u.1 u.2) [.ref (wc), .int x1, .int x2] (σ, α) post := by
  refine gMv.of (by decide) (Nat.le_of_ble_eq_true rfl) ?_
  intro p e s m below meth c Q A hx hb hml hown hts hK hN hA hS hP hD hret ls hl
  have hl : lv_has ls 6 [(0, .ref (wc)), (1, .int x1), (2, .int x2)] := hl
  have J51 : ∀ (σ : Nat → Int32) (α : Nat → Nat → Int32) (a1 : Int32) (a2 : Int32) (a3 : Int32) (t0 : Int32) (ls : Array Slot) (H : Heap) (locs : List Loc), lv_has ls 6 [(0, .ref (wc)), (1, .int a1), (2, .int a2), (3, .int a3)] → va_P D gCl (xW cI cS cZ ad wc wb kp tp σ α) H → va_D A (xW cI cS cZ ad wc wb kp tp σ α) → va_S A s.heap H locs → wp_Wi_open_10_J51 σ α a1 a2 a3 t0 post → W p l e rm_Wi_open_10 s m ([.ref (wc), .int x1, .int x2] : List Value).toArray below meth c H locs 0 0 Q (F0 m 51 ls [.int t0]) := by
    intro σ α a1 a2 a3 t0 ls H locs hl hP hD hS hw
    unfold wp_Wi_open_10_J51 at hw
    refine lv_istore hx hb d_Wi_open_51 hl (by decide) rfl (fun ls hl => ?_)
    have hl : lv_has ls 6 [(5, .int t0), (0, .ref (wc)), (1, .int a1), (2, .int a2), (3, .int a3)] := hl
    refine lv_aload_n hx hb d_Wi_open_53 rfl (lv_at hl 1 rfl) ?_
    refine lv_iload_n hx hb d_Wi_open_54 rfl (lv_at hl 3 rfl) ?_
    refine lv_iconst (v := 2) hx hb d_Wi_open_55 (by decide) ?_
    refine lv_iadd hx hb d_Wi_open_56 ?_
    refine lv_iload_n hx hb d_Wi_open_57 rfl (lv_at hl 4 rfl) ?_
    refine lv_iadd hx hb d_Wi_open_58 ?_
    refine va_put (D := D) (ci := 6) (v := .int ((a2 + (2 : Int32)) + a3)) (ty := .int) (C := R_Wi) (T := T_Wi) (N := 5) hx hb hts i_Wi t_Wi o_Wi n_Wi hown hK hP hD hS 10 rfl rfl 2 (by decide) (hts _ tw_117) (fun _ h9 => h9) rfl (by decide +kernel) rfl rfl (Nat.le_of_ble_eq_true rfl) d_Wi_open_59 (fun H locs hP hD hS => ?_)
    have hP : va_P D gCl (xW cI cS cZ ad wc wb kp tp (va_up σ 20 ((a2 + (2 : Int32)) + a3)) α) H := hP
    have hD : va_D A (xW cI cS cZ ad wc wb kp tp (va_up σ 20 ((a2 + (2 : Int32)) + a3)) α) := hD
    refine lv_aload_n hx hb d_Wi_open_62 rfl (lv_at hl 1 rfl) ?_
    refine lv_iload_n hx hb d_Wi_open_63 rfl (lv_at hl 3 rfl) ?_
    refine lv_iconst (v := 2) hx hb d_Wi_open_64 (by decide) ?_
    refine lv_iadd hx hb d_Wi_open_65 ?_
    refine lv_iload hx hb d_Wi_open_66 (lv_at hl 0 rfl) ?_
    refine lv_iadd hx hb d_Wi_open_68 ?_
    refine va_put (D := D) (ci := 6) (v := .int ((a2 + (2 : Int32)) + t0)) (ty := .int) (C := R_Wi) (T := T_Wi) (N := 5) hx hb hts i_Wi t_Wi o_Wi n_Wi hown hK hP hD hS 10 rfl rfl 4 (by decide) (hts _ tw_119) (fun _ h9 => h9) rfl (by decide +kernel) rfl rfl (Nat.le_of_ble_eq_true rfl) d_Wi_open_69 (fun H locs hP hD hS => ?_)
    have hP : va_P D gCl (xW cI cS cZ ad wc wb kp tp (va_up (va_up σ 20 ((a2 + (2 : Int32)) + a3)) 22 ((a2 + (2 : Int32)) + t0)) α) H := hP
    have hD : va_D A (xW cI cS cZ ad wc wb kp tp (va_up (va_up σ 20 ((a2 + (2 : Int32)) + a3)) 22 ((a2 + (2 : Int32)) + t0)) α) := hD
    refine lv_aload_n hx hb d_Wi_open_72 rfl (lv_at hl 1 rfl) ?_
    refine lv_aload_n hx hb d_Wi_open_73 rfl (lv_at hl 1 rfl) ?_
    refine lv_iload_n hx hb d_Wi_open_74 rfl (lv_at hl 2 rfl) ?_
    refine lv_bipush (v := 8) hx hb d_Wi_open_75 (by decide) ?_
    refine lv_ishr hx hb d_Wi_open_77 ?_
    refine lv_iconst (v := 3) hx hb d_Wi_open_78 (by decide) ?_
    refine lv_iand hx hb d_Wi_open_79 ?_
    refine gCallVi (b := wc) (As := [.int ((a1 >>> ((8 : Int32) &&& 31)) &&& (3 : Int32))]) (rest := [.ref (wc)]) (c_Wi_lastOf_10 l D cI cS cZ ad wc wb kp tp (va_up (va_up σ 20 ((a2 + (2 : Int32)) + a3)) 22 ((a2 + (2 : Int32)) + t0)) α ((a1 >>> ((8 : Int32) &&& 31)) &&& (3 : Int32)) _ hw) hx hb hml hown hts hK hN hA hS hP hD (cwV 1 hts (gGV tw_342 tw_344 ts_1 tw_7 tw_345) rfl rfl rfl ⟨rfl, by decide, by decide, by decide +kernel⟩ ⟨Nat.le_of_ble_eq_true rfl, Nat.le_of_ble_eq_true rfl⟩) (va_recv (ci := 6) (q0 := 10) hK hP rfl rfl) rfl hl.1 rfl (Nat.le_of_ble_eq_true rfl) d_Wi_open_80 (fun r80 u80 H locs hw hP hD hS => ?_)
    have hP : va_P D gCl (xW cI cS cZ ad wc wb kp tp u80.1 u80.2) H := hP
    have hD : va_D A (xW cI cS cZ ad wc wb kp tp u80.1 u80.2) := hD
    refine va_put (D := D) (ci := 6) (v := .int r80) (ty := .int) (C := R_Wi) (T := T_Wi) (N := 5) hx hb hts i_Wi t_Wi o_Wi n_Wi hown hK hP hD hS 10 rfl rfl 3 (by decide) (hts _ tw_118) (fun _ h9 => h9) rfl (by decide +kernel) rfl rfl (Nat.le_of_ble_eq_true rfl) d_Wi_open_83 (fun H locs hP hD hS => ?_)
    have hP : va_P D gCl (xW cI cS cZ ad wc wb kp tp (va_up u80.1 21 r80) u80.2) H := hP
    have hD : va_D A (xW cI cS cZ ad wc wb kp tp (va_up u80.1 21 r80) u80.2) := hD
    exact hret H locs 86 ls ((va_up u80.1 21 r80), u80.2) d_Wi_open_86 hP hD hS hw
  unfold wp_Wi_open_10 at hw
  have hP : va_P D gCl (xW cI cS cZ ad wc wb kp tp σ α) s.heap := hP
  have hD : va_D A (xW cI cS cZ ad wc wb kp tp σ α) := hD
  obtain ⟨H, hH⟩ : ∃ H, H = s.heap := ⟨_, rfl⟩
  obtain ⟨locs, hlocs⟩ : ∃ locs : List Loc, locs = [] := ⟨_, rfl⟩
  have hP : va_P D gCl (xW cI cS cZ ad wc wb kp tp σ α) H := by rw [hH]; exact hP
  have hS : va_S A s.heap H locs := by rw [hH, hlocs]; exact hS
  suffices K : W p l e rm_Wi_open_10 s m ([.ref (wc), .int x1, .int x2] : List Value).toArray below meth c H locs 0 0 Q (F0 m 0 ls []) by rw [hH, hlocs] at K; exact K
  clear hH hlocs
  refine lv_aload_n hx hb d_Wi_open_0 rfl (lv_at hl 0 rfl) ?_
  refine lv_iload_n hx hb d_Wi_open_1 rfl (lv_at hl 1 rfl) ?_
  refine lv_bipush (v := 15) hx hb d_Wi_open_2 (by decide) ?_
  refine lv_iand hx hb d_Wi_open_4 ?_
  refine va_put (D := D) (ci := 6) (v := .int (x1 &&& (15 : Int32))) (ty := .int) (C := R_Wi) (T := T_Wi) (N := 5) hx hb hts i_Wi t_Wi o_Wi n_Wi hown hK hP hD hS 10 rfl rfl 0 (by decide) (hts _ tw_113) (fun _ h9 => h9) rfl (by decide +kernel) rfl rfl (Nat.le_of_ble_eq_true rfl) d_Wi_open_5 (fun H locs hP hD hS => ?_)
  have hP : va_P D gCl (xW cI cS cZ ad wc wb kp tp (va_up σ 18 (x1 &&& (15 : Int32))) α) H := hP
  have hD : va_D A (xW cI cS cZ ad wc wb kp tp (va_up σ 18 (x1 &&& (15 : Int32))) α) := hD
  refine lv_aload_n hx hb d_Wi_open_8 rfl (lv_at hl 0 rfl) ?_
  refine lv_iload_n hx hb d_Wi_open_9 rfl (lv_at hl 1 rfl) ?_
  refine lv_iconst (v := 4) hx hb d_Wi_open_10 (by decide) ?_
  refine lv_ishr hx hb d_Wi_open_11 ?_
  refine lv_bipush (v := 15) hx hb d_Wi_open_12 (by decide) ?_
  refine lv_iand hx hb d_Wi_open_14 ?_
  refine va_put (D := D) (ci := 6) (v := .int ((x1 >>> ((4 : Int32) &&& 31)) &&& (15 : Int32))) (ty := .int) (C := R_Wi) (T := T_Wi) (N := 5) hx hb hts i_Wi t_Wi o_Wi n_Wi hown hK hP hD hS 10 rfl rfl 1 (by decide) (hts _ tw_115) (fun _ h9 => h9) rfl (by decide +kernel) rfl rfl (Nat.le_of_ble_eq_true rfl) d_Wi_open_15 (fun H locs hP hD hS => ?_)
  have hP : va_P D gCl (xW cI cS cZ ad wc wb kp tp (va_up (va_up σ 18 (x1 &&& (15 : Int32))) 19 ((x1 >>> ((4 : Int32) &&& 31)) &&& (15 : Int32))) α) H := hP
  have hD : va_D A (xW cI cS cZ ad wc wb kp tp (va_up (va_up σ 18 (x1 &&& (15 : Int32))) 19 ((x1 >>> ((4 : Int32) &&& 31)) &&& (15 : Int32))) α) := hD
  refine lv_iload_n hx hb d_Wi_open_18 rfl (lv_at hl 1 rfl) ?_
  refine lv_bipush (v := 10) hx hb d_Wi_open_19 (by decide) ?_
  refine lv_ishr hx hb d_Wi_open_21 ?_
  refine lv_bipush (v := 31) hx hb d_Wi_open_22 (by decide) ?_
  refine lv_iand hx hb d_Wi_open_24 ?_
  refine lv_istore_n hx hb d_Wi_open_25 rfl hl (by decide) rfl (fun ls hl => ?_)
  have hl : lv_has ls 6 [(3, .int ((x1 >>> ((10 : Int32) &&& 31)) &&& (31 : Int32))), (0, .ref (wc)), (1, .int x1), (2, .int x2)] := hl
  refine lv_iload_n hx hb d_Wi_open_26 rfl (lv_at hl 2 rfl) ?_
  refine lv_bipush (v := 15) hx hb d_Wi_open_27 (by decide) ?_
  refine lv_ishr hx hb d_Wi_open_29 ?_
  refine lv_bipush (v := 31) hx hb d_Wi_open_30 (by decide) ?_
  refine lv_iand hx hb d_Wi_open_32 ?_
  refine lv_istore hx hb d_Wi_open_33 hl (by decide) rfl (fun ls hl => ?_)
  have hl : lv_has ls 6 [(4, .int ((x1 >>> ((15 : Int32) &&& 31)) &&& (31 : Int32))), (3, .int ((x1 >>> ((10 : Int32) &&& 31)) &&& (31 : Int32))), (0, .ref (wc)), (1, .int x1), (2, .int x2)] := hl
  refine lv_iload hx hb d_Wi_open_35 (lv_at hl 0 rfl) ?_
  refine lv_iload_n hx hb d_Wi_open_37 rfl (lv_at hl 1 rfl) ?_
  refine lv_icmp_ge (tgt := 49) hx hb d_Wi_open_38 (by decide) (fun h => ?_) (fun h => ?_)
  · have hw := hw.1 h
    refine lv_iload hx hb d_Wi_open_49 (lv_at hl 0 rfl) ?_
    exact J51 (va_up (va_up σ 18 (x1 &&& (15 : Int32))) 19 ((x1 >>> ((4 : Int32) &&& 31)) &&& (15 : Int32))) α x1 x2 ((x1 >>> ((10 : Int32) &&& 31)) &&& (31 : Int32)) ((x1 >>> ((15 : Int32) &&& 31)) &&& (31 : Int32)) ls H locs (lv_sub hl [2, 3, 4, 1] rfl) hP hD hS hw
  · have hw := hw.2 h
    refine lv_iload hx hb d_Wi_open_41 (lv_at hl 0 rfl) ?_
    refine lv_bipush (v := 32) hx hb d_Wi_open_43 (by decide) ?_
    refine lv_iadd hx hb d_Wi_open_45 ?_
    refine lv_goto (tgt := 51) hx hb d_Wi_open_46 (by decide) ?_
    exact J51 (va_up (va_up σ 18 (x1 &&& (15 : Int32))) 19 ((x1 >>> ((4 : Int32) &&& 31)) &&& (15 : Int32))) α x1 x2 ((x1 >>> ((10 : Int32) &&& 31)) &&& (31 : Int32)) (((x1 >>> ((15 : Int32) &&& 31)) &&& (31 : Int32)) + (32 : Int32)) ls H locs (lv_sub hl [2, 3, 4, 1] rfl) hP hD hS hw
