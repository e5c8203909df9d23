abbrev rm_Md_isOrder : Room := { frames := 0, cells := 0, slots := 0, locals := 0 }
set_option maxHeartbeats 4000000 in
set_option maxRecDepth 100000 in
theorem c_Md_isOrder (l : Launch) (D : va_G) (cI cS cZ : ClassId) (ad : Nat → Nat) (σ : Nat → Int32) (α : Nat → Nat → Int32) (x0 : Int32) (x1 : Int32) (post : Int32 → gS → Prop) (hw : wp_Md_isOrder σ α x0 x1 post) : gMi l y_Md_isOrder b_Md_isOrder 2 .boolean rm_Md_isOrder D (gT cI cS cZ) (fun u : gS => mW cI cS cZ ad u.1 u.2) [.int x0, .int x1] (σ, α) post := by
  refine gMi.of (by decide) (Nat.le_of_ble_eq_true rfl) ?_
  intro p e s m below meth c Q A hx hb hml hown hts hK hN hA hS hP hD hret ls hl
  have hl : lv_has ls 2 [(0, .int x0), (1, .int x1)] := hl
  have J24 : ∀ (σ : Nat → Int32) (α : Nat → Nat → Int32) (t0 : Int32) (ls : Array Slot) (H : Heap) (locs : List Loc), lv_has ls 2 [] → va_P D gCl (mW cI cS cZ ad σ α) H → va_D A (mW cI cS cZ ad σ α) → va_S A s.heap H locs → wp_Md_isOrder_J24 σ α t0 post → W p l e rm_Md_isOrder s m ([.int x0, .int x1] : List Value).toArray below meth c H locs 0 0 Q (F0 m 24 ls [.int t0]) := by
    intro σ α t0 ls H locs hl hP hD hS hw
    unfold wp_Md_isOrder_J24 at hw
    obtain ⟨hn, hw⟩ := hw
    exact hret H locs 24 ls t0 (σ, α) d_Md_isOrder_24 hP hD hS hn hw
  have J23 : ∀ (σ : Nat → Int32) (α : Nat → Nat → Int32) (ls : Array Slot) (H : Heap) (locs : List Loc), lv_has ls 2 [] → va_P D gCl (mW cI cS cZ ad σ α) H → va_D A (mW cI cS cZ ad σ α) → va_S A s.heap H locs → wp_Md_isOrder_J23 σ α post → W p l e rm_Md_isOrder s m ([.int x0, .int x1] : List Value).toArray below meth c H locs 0 0 Q (F0 m 23 ls []) := by
    intro σ α ls H locs hl hP hD hS hw
    unfold wp_Md_isOrder_J23 at hw
    refine lv_iconst (v := 0) hx hb d_Md_isOrder_23 (by decide) ?_
    exact J24 σ α (0 : Int32) ls H locs (lv_sub hl [] rfl) hP hD hS hw
  have J9 : ∀ (σ : Nat → Int32) (α : Nat → Nat → Int32) (a1 : Int32) (ls : Array Slot) (H : Heap) (locs : List Loc), lv_has ls 2 [(1, .int a1)] → va_P D gCl (mW cI cS cZ ad σ α) H → va_D A (mW cI cS cZ ad σ α) → va_S A s.heap H locs → wp_Md_isOrder_J9 σ α a1 post → W p l e rm_Md_isOrder s m ([.int x0, .int x1] : List Value).toArray below meth c H locs 0 0 Q (F0 m 9 ls []) := by
    intro σ α a1 ls H locs hl hP hD hS hw
    unfold wp_Md_isOrder_J9 at hw
    refine lv_iload_n hx hb d_Md_isOrder_9 rfl (lv_at hl 0 rfl) ?_
    refine lv_if_lt (tgt := 23) hx hb d_Md_isOrder_10 (by decide) (fun h => ?_) (fun h => ?_)
    · have hw := hw.1 h
      exact J23 σ α ls H locs (lv_sub hl [] rfl) hP hD hS hw
    · have hw := hw.2 h
      refine lv_iload_n hx hb d_Md_isOrder_13 rfl (lv_at hl 0 rfl) ?_
      refine lv_bipush (v := 32) hx hb d_Md_isOrder_14 (by decide) ?_
      refine lv_icmp_ge (tgt := 23) hx hb d_Md_isOrder_16 (by decide) (fun h => ?_) (fun h => ?_)
      · have hw := hw.1 h
        exact J23 σ α ls H locs (lv_sub hl [] rfl) hP hD hS hw
      · have hw := hw.2 h
        refine lv_iconst (v := 1) hx hb d_Md_isOrder_19 (by decide) ?_
        refine lv_goto (tgt := 24) hx hb d_Md_isOrder_20 (by decide) ?_
        exact J24 σ α (1 : Int32) ls H locs (lv_sub hl [] rfl) hP hD hS hw
  unfold wp_Md_isOrder at hw
  have hP : va_P D gCl (mW cI cS cZ ad σ α) s.heap := hP
  have hD : va_D A (mW cI cS cZ ad σ α) := hD
  obtain ⟨H, hH⟩ : ∃ H, H = s.heap := ⟨_, rfl⟩
  obtain ⟨locs, hlocs⟩ : ∃ locs : List Loc, locs = [] := ⟨_, rfl⟩
  have hP : va_P D gCl (mW cI cS cZ ad σ α) H := by rw [hH]; exact hP
  have hS : va_S A s.heap H locs := by rw [hH, hlocs]; exact hS
  suffices K : W p l e rm_Md_isOrder s m ([.int x0, .int x1] : List Value).toArray below meth c H locs 0 0 Q (F0 m 0 ls []) by rw [hH, hlocs] at K; exact K
  clear hH hlocs
  refine lv_iload_n hx hb d_Md_isOrder_0 rfl (lv_at hl 0 rfl) ?_
  refine lv_if_eq (tgt := 9) hx hb d_Md_isOrder_1 (by decide) (fun h => ?_) (fun h => ?_)
  · have hw := hw.1 h
    exact J9 σ α x1 ls H locs (lv_sub hl [1] rfl) hP hD hS hw
  · have hw := hw.2 h
    refine lv_iload_n hx hb d_Md_isOrder_4 rfl (lv_at hl 0 rfl) ?_
    refine lv_iconst (v := 1) hx hb d_Md_isOrder_5 (by decide) ?_
    refine lv_icmp_ne (tgt := 23) hx hb d_Md_isOrder_6 (by decide) (fun h => ?_) (fun h => ?_)
    · have hw := hw.1 h
      exact J23 σ α ls H locs (lv_sub hl [] rfl) hP hD hS hw
    · have hw := hw.2 h
      exact J9 σ α x1 ls H locs (lv_sub hl [1] rfl) hP hD hS hw
abbrev rm_Md_order : Room := { frames := 1, cells := 0, slots := 0, locals := 21 }
set_option maxHeartbeats 4000000 in
set_option maxRecDepth 100000 in
theorem c_Md_order (l : Launch) (D : va_G) (cI cS cZ : ClassId) (ad : Nat → Nat) (σ : Nat → Int32) (α : Nat → Nat → Int32) (x1 : Int32) (x2 : Int32) (x3 : Int32) (post : Int32 → gS → Prop) (hw : wp_Md_order σ α x1 x2 x3 post) : gMi l y_Md_order b_Md_order 4 .boolean rm_Md_order D (gT cI cS cZ) (fun u : gS => mW cI cS cZ ad u.1 u.2) [.ref (ad 0), .int x1, .int x2, .int x3] (σ, α) post := by
  refine gMi.of (by decide) (Nat.le_of_ble_eq_true rfl) ?_
  intro p e s m below meth c Q A hx hb hml hown hts hK hN hA hS hP hD hret ls hl
  have hl : lv_has ls 4 [(0, .ref (ad 0)), (1, .int x1), (2, .int x2), (3, .int x3)] := hl
  have J18 : ∀ (σ : Nat → Int32) (α : Nat → Nat → Int32) (ls : Array Slot) (H : Heap) (locs : List Loc), lv_has ls 4 [] → va_P D gCl (mW cI cS cZ ad σ α) H → va_D A (mW cI cS cZ ad σ α) → va_S A s.heap H locs → wp_Md_order_J18 σ α post → W p l e rm_Md_order s m ([.ref (ad 0), .int x1, .int x2, .int x3] : List Value).toArray below meth c H locs 0 0 Q (F0 m 18 ls []) := by
    intro σ α ls H locs hl hP hD hS hw
    unfold wp_Md_order_J18 at hw
    refine lv_iconst (v := 0) hx hb d_Md_order_18 (by decide) ?_
    exact hret H locs 19 ls (0 : Int32) (σ, α) d_Md_order_19 hP hD hS rfl hw
  unfold wp_Md_order at hw
  have hP : va_P D gCl (mW cI cS cZ ad σ α) s.heap := hP
  have hD : va_D A (mW cI cS cZ ad σ α) := hD
  obtain ⟨H, hH⟩ : ∃ H, H = s.heap := ⟨_, rfl⟩
  obtain ⟨locs, hlocs⟩ : ∃ locs : List Loc, locs = [] := ⟨_, rfl⟩
  have hP : va_P D gCl (mW cI cS cZ ad σ α) H := by rw [hH]; exact hP
  have hS : va_S A s.heap H locs := by rw [hH, hlocs]; exact hS
  suffices K : W p l e rm_Md_order s m ([.ref (ad 0), .int x1, .int x2, .int x3] : List Value).toArray below meth c H locs 0 0 Q (F0 m 0 ls []) by rw [hH, hlocs] at K; exact K
  clear hH hlocs
  refine lv_iload_n hx hb d_Md_order_0 rfl (lv_at hl 1 rfl) ?_
  refine lv_iload_n hx hb d_Md_order_1 rfl (lv_at hl 2 rfl) ?_
  refine gCallSi (As := [.int x1, .int x2]) (rest := []) (c_Md_isOrder l D cI cS cZ ad  σ α x1 x2 _ hw) hx hb hml hown hts hK hN hA hS hP hD (va_cwS 2 hts (gGS tw_681 tw_682 tw_11 tw_683) rfl rfl rfl ⟨by decide, by decide, by decide +kernel⟩ ⟨Nat.le_of_ble_eq_true rfl, Nat.le_of_ble_eq_true rfl⟩) rfl hl.1 rfl (Nat.le_of_ble_eq_true rfl) d_Md_order_2 (fun r2 u2 H locs hw hP hD hS => ?_)
  have hP : va_P D gCl (mW cI cS cZ ad u2.1 u2.2) H := hP
  have hD : va_D A (mW cI cS cZ ad u2.1 u2.2) := hD
  refine lv_if_eq (tgt := 18) hx hb d_Md_order_5 (by decide) (fun h => ?_) (fun h => ?_)
  · have hw := hw.1 h
    exact J18 u2.1 u2.2 ls H locs (lv_sub hl [] rfl) hP hD hS hw
  · have hw := hw.2 h
    refine lv_iload_n hx hb d_Md_order_8 rfl (lv_at hl 3 rfl) ?_
    refine lv_if_lt (tgt := 18) hx hb d_Md_order_9 (by decide) (fun h => ?_) (fun h => ?_)
    · have hw := hw.1 h
      exact J18 u2.1 u2.2 ls H locs (lv_sub hl [] rfl) hP hD hS hw
    · have hw := hw.2 h
      refine lv_iload_n hx hb d_Md_order_12 rfl (lv_at hl 3 rfl) ?_
      refine lv_ldc hx hb hown (hts _ tw_684) d_Md_order_13 ?_
      refine lv_icmp_le (tgt := 20) hx hb d_Md_order_15 (by decide) (fun h => ?_) (fun h => ?_)
      · have hw := hw.1 h
        refine lv_aload_n hx hb d_Md_order_20 rfl (lv_at hl 0 rfl) ?_
        refine va_get (D := D) (ci := 9) (v := .ref (ad 1)) (C := R_Md) (T := T_Md) (N := 47) hx hb hts i_Md hown hK hP 0 rfl rfl 0 (by decide) (hts _ tw_534) (fun _ h9 => h9) rfl d_Md_order_21 ?_
        refine lv_bipush (v := 32) hx hb d_Md_order_24 (by decide) ?_
        refine lv_iload_n hx hb d_Md_order_26 rfl (lv_at hl 1 rfl) ?_
        refine lv_imul hx hb d_Md_order_27 ?_
        refine lv_iload_n hx hb d_Md_order_28 rfl (lv_at hl 2 rfl) ?_
        refine lv_iadd hx hb d_Md_order_29 ?_
        refine lv_iload_n hx hb d_Md_order_30 rfl (lv_at hl 3 rfl) ?_
        obtain ⟨hin, hw⟩ := hw
        refine va_iast (f := u2.2 1) (i := ((32 : Int32) * x1) + x2) (x := x3) hx hb hK hP hD hS 1 0 rfl rfl hin d_Md_order_31 (fun H locs hP hD hS => ?_)
        rw [mW_s1] at hP hD
        have hP : va_P D gCl (mW cI cS cZ ad u2.1 (va_up u2.2 1 (upd (u2.2 1) (((32 : Int32) * x1) + x2).toNatClampNeg x3))) H := hP
        have hD : va_D A (mW cI cS cZ ad u2.1 (va_up u2.2 1 (upd (u2.2 1) (((32 : Int32) * x1) + x2).toNatClampNeg x3))) := hD
        refine lv_iconst (v := 1) hx hb d_Md_order_32 (by decide) ?_
        exact hret H locs 33 ls (1 : Int32) (u2.1, (va_up u2.2 1 (upd (u2.2 1) (((32 : Int32) * x1) + x2).toNatClampNeg x3))) d_Md_order_33 hP hD hS rfl hw
      · have hw := hw.2 h
        exact J18 u2.1 u2.2 ls H locs (lv_sub hl [] rfl) hP hD hS hw
abbrev rm_Md_wordAt : Room := { frames := 0, cells := 0, slots := 0, locals := 0 }
set_option maxHeartbeats 4000000 in
set_option maxRecDepth 100000 in
theorem c_Md_wordAt (l : Launch) (D : va_G) (cI cS cZ : ClassId) (ad : Nat → Nat) (σ : Nat → Int32) (α : Nat → Nat → Int32) (x0 : Int32) (x1 : Int32) (post : Int32 → gS → Prop) (hw : wp_Md_wordAt σ α x0 x1 post) : gMi l y_Md_wordAt b_Md_wordAt 2 .int rm_Md_wordAt D (gT cI cS cZ) (fun u : gS => mW cI cS cZ ad u.1 u.2) [.int x0, .int x1] (σ, α) post := by
  refine gMi.of (by decide) (Nat.le_of_ble_eq_true rfl) ?_
  intro p e s m below meth c Q A hx hb hml hown hts hK hN hA hS hP hD hret ls hl
  have hl : lv_has ls 2 [(0, .int x0), (1, .int x1)] := hl
  have J87 : ∀ (σ : Nat → Int32) (α : Nat → Nat → Int32) (t0 : Int32) (ls : Array Slot) (H : Heap) (locs : List Loc), lv_has ls 2 [] → va_P D gCl (mW cI cS cZ ad σ α) H → va_D A (mW cI cS cZ ad σ α) → va_S A s.heap H locs → wp_Md_wordAt_J87 σ α t0 post → W p l e rm_Md_wordAt s m ([.int x0, .int x1] : List Value).toArray below meth c H locs 0 0 Q (F0 m 87 ls [.int t0]) := by
    intro σ α t0 ls H locs hl hP hD hS hw
    unfold wp_Md_wordAt_J87 at hw
    exact hret H locs 87 ls t0 (σ, α) d_Md_wordAt_87 hP hD hS (vp_nar_int _) hw
  have J86 : ∀ (σ : Nat → Int32) (α : Nat → Nat → Int32) (ls : Array Slot) (H : Heap) (locs : List Loc), lv_has ls 2 [] → va_P D gCl (mW cI cS cZ ad σ α) H → va_D A (mW cI cS cZ ad σ α) → va_S A s.heap H locs → wp_Md_wordAt_J86 σ α post → W p l e rm_Md_wordAt s m ([.int x0, .int x1] : List Value).toArray below meth c H locs 0 0 Q (F0 m 86 ls []) := by
    intro σ α ls H locs hl hP hD hS hw
    unfold wp_Md_wordAt_J86 at hw
    refine lv_iconst (v := (-1)) hx hb d_Md_wordAt_86 (by decide) ?_
    exact J87 σ α (-1 : Int32) ls H locs (lv_sub hl [] rfl) hP hD hS hw
  have J78 : ∀ (σ : Nat → Int32) (α : Nat → Nat → Int32) (a1 : Int32) (ls : Array Slot) (H : Heap) (locs : List Loc), lv_has ls 2 [(1, .int a1)] → va_P D gCl (mW cI cS cZ ad σ α) H → va_D A (mW cI cS cZ ad σ α) → va_S A s.heap H locs → wp_Md_wordAt_J78 σ α a1 post → W p l e rm_Md_wordAt s m ([.int x0, .int x1] : List Value).toArray below meth c H locs 0 0 Q (F0 m 78 ls []) := by
    intro σ α a1 ls H locs hl hP hD hS hw
    unfold wp_Md_wordAt_J78 at hw
    refine lv_sipush (v := 130) hx hb d_Md_wordAt_78 (by decide) ?_
    refine lv_iload_n hx hb d_Md_wordAt_81 rfl (lv_at hl 0 rfl) ?_
    refine lv_iadd hx hb d_Md_wordAt_82 ?_
    refine lv_goto (tgt := 87) hx hb d_Md_wordAt_83 (by decide) ?_
    exact J87 σ α ((130 : Int32) + a1) ls H locs (lv_sub hl [] rfl) hP hD hS hw
  have J62 : ∀ (σ : Nat → Int32) (α : Nat → Nat → Int32) (t0 : Int32) (ls : Array Slot) (H : Heap) (locs : List Loc), lv_has ls 2 [] → va_P D gCl (mW cI cS cZ ad σ α) H → va_D A (mW cI cS cZ ad σ α) → va_S A s.heap H locs → wp_Md_wordAt_J62 σ α t0 post → W p l e rm_Md_wordAt s m ([.int x0, .int x1] : List Value).toArray below meth c H locs 0 0 Q (F0 m 62 ls [.int t0]) := by
    intro σ α t0 ls H locs hl hP hD hS hw
    unfold wp_Md_wordAt_J62 at hw
    exact hret H locs 62 ls t0 (σ, α) d_Md_wordAt_62 hP hD hS (vp_nar_int _) hw
  have J46 : ∀ (σ : Nat → Int32) (α : Nat → Nat → Int32) (a0 : Int32) (a1 : Int32) (ls : Array Slot) (H : Heap) (locs : List Loc), lv_has ls 2 [(0, .int a0), (1, .int a1)] → va_P D gCl (mW cI cS cZ ad σ α) H → va_D A (mW cI cS cZ ad σ α) → va_S A s.heap H locs → wp_Md_wordAt_J46 σ α a0 a1 post → W p l e rm_Md_wordAt s m ([.int x0, .int x1] : List Value).toArray below meth c H locs 0 0 Q (F0 m 46 ls []) := by
    intro σ α a0 a1 ls H locs hl hP hD hS hw
    unfold wp_Md_wordAt_J46 at hw
    refine lv_iload_n hx hb d_Md_wordAt_46 rfl (lv_at hl 1 rfl) ?_
    refine lv_if_ne (tgt := 61) hx hb d_Md_wordAt_47 (by decide) (fun h => ?_) (fun h => ?_)
    · have hw := hw.1 h
      refine lv_iconst (v := (-1)) hx hb d_Md_wordAt_61 (by decide) ?_
      exact J62 σ α (-1 : Int32) ls H locs (lv_sub hl [] rfl) hP hD hS hw
    · have hw := hw.2 h
      refine lv_sipush (v := 128) hx hb d_Md_wordAt_50 (by decide) ?_
      refine lv_iload_n hx hb d_Md_wordAt_53 rfl (lv_at hl 0 rfl) ?_
      refine lv_iadd hx hb d_Md_wordAt_54 ?_
      refine lv_bipush (v := 6) hx hb d_Md_wordAt_55 (by decide) ?_
      refine lv_isub hx hb d_Md_wordAt_57 ?_
      refine lv_goto (tgt := 62) hx hb d_Md_wordAt_58 (by decide) ?_
      exact J62 σ α (((128 : Int32) + a0) - (6 : Int32)) ls H locs (lv_sub hl [] rfl) hP hD hS hw
  have J34 : ∀ (σ : Nat → Int32) (α : Nat → Nat → Int32) (a0 : Int32) (a1 : Int32) (ls : Array Slot) (H : Heap) (locs : List Loc), lv_has ls 2 [(0, .int a0), (1, .int a1)] → va_P D gCl (mW cI cS cZ ad σ α) H → va_D A (mW cI cS cZ ad σ α) → va_S A s.heap H locs → wp_Md_wordAt_J34 σ α a0 a1 post → W p l e rm_Md_wordAt s m ([.int x0, .int x1] : List Value).toArray below meth c H locs 0 0 Q (F0 m 34 ls []) := by
    intro σ α a0 a1 ls H locs hl hP hD hS hw
    unfold wp_Md_wordAt_J34 at hw
    refine lv_iload_n hx hb d_Md_wordAt_34 rfl (lv_at hl 0 rfl) ?_
    refine lv_bipush (v := 6) hx hb d_Md_wordAt_35 (by decide) ?_
    refine lv_icmp_eq (tgt := 46) hx hb d_Md_wordAt_37 (by decide) (fun h => ?_) (fun h => ?_)
    · have hw := hw.1 h
      exact J46 σ α a0 a1 ls H locs (lv_sub hl [0, 1] rfl) hP hD hS hw
    · have hw := hw.2 h
      refine lv_iload_n hx hb d_Md_wordAt_40 rfl (lv_at hl 0 rfl) ?_
      refine lv_bipush (v := 7) hx hb d_Md_wordAt_41 (by decide) ?_
      refine lv_icmp_ne (tgt := 63) hx hb d_Md_wordAt_43 (by decide) (fun h => ?_) (fun h => ?_)
      · have hw := hw.1 h
        refine lv_iload_n hx hb d_Md_wordAt_63 rfl (lv_at hl 0 rfl) ?_
        refine lv_bipush (v := 8) hx hb d_Md_wordAt_64 (by decide) ?_
        refine lv_icmp_ne (tgt := 86) hx hb d_Md_wordAt_66 (by decide) (fun h => ?_) (fun h => ?_)
        · have hw := hw.1 h
          exact J86 σ α ls H locs (lv_sub hl [] rfl) hP hD hS hw
        · have hw := hw.2 h
          refine lv_iload_n hx hb d_Md_wordAt_69 rfl (lv_at hl 1 rfl) ?_
          refine lv_if_eq (tgt := 78) hx hb d_Md_wordAt_70 (by decide) (fun h => ?_) (fun h => ?_)
          · have hw := hw.1 h
            exact J78 σ α a1 ls H locs (lv_sub hl [1] rfl) hP hD hS hw
          · have hw := hw.2 h
            refine lv_iload_n hx hb d_Md_wordAt_73 rfl (lv_at hl 1 rfl) ?_
            refine lv_iconst (v := 1) hx hb d_Md_wordAt_74 (by decide) ?_
            refine lv_icmp_ne (tgt := 86) hx hb d_Md_wordAt_75 (by decide) (fun h => ?_) (fun h => ?_)
            · have hw := hw.1 h
              exact J86 σ α ls H locs (lv_sub hl [] rfl) hP hD hS hw
            · have hw := hw.2 h
              exact J78 σ α a1 ls H locs (lv_sub hl [1] rfl) hP hD hS hw
      · have hw := hw.2 h
        exact J46 σ α a0 a1 ls H locs (lv_sub hl [0, 1] rfl) hP hD hS hw
  have J33 : ∀ (σ : Nat → Int32) (α : Nat → Nat → Int32) (t0 : Int32) (ls : Array Slot) (H : Heap) (locs : List Loc), lv_has ls 2 [] → va_P D gCl (mW cI cS cZ ad σ α) H → va_D A (mW cI cS cZ ad σ α) → va_S A s.heap H locs → wp_Md_wordAt_J33 σ α t0 post → W p l e rm_Md_wordAt s m ([.int x0, .int x1] : List Value).toArray below meth c H locs 0 0 Q (F0 m 33 ls [.int t0]) := by
    intro σ α t0 ls H locs hl hP hD hS hw
    unfold wp_Md_wordAt_J33 at hw
    exact hret H locs 33 ls t0 (σ, α) d_Md_wordAt_33 hP hD hS (vp_nar_int _) hw
  have J32 : ∀ (σ : Nat → Int32) (α : Nat → Nat → Int32) (ls : Array Slot) (H : Heap) (locs : List Loc), lv_has ls 2 [] → va_P D gCl (mW cI cS cZ ad σ α) H → va_D A (mW cI cS cZ ad σ α) → va_S A s.heap H locs → wp_Md_wordAt_J32 σ α post → W p l e rm_Md_wordAt s m ([.int x0, .int x1] : List Value).toArray below meth c H locs 0 0 Q (F0 m 32 ls []) := by
    intro σ α ls H locs hl hP hD hS hw
    unfold wp_Md_wordAt_J32 at hw
    refine lv_iconst (v := (-1)) hx hb d_Md_wordAt_32 (by decide) ?_
    exact J33 σ α (-1 : Int32) ls H locs (lv_sub hl [] rfl) hP hD hS hw
  unfold wp_Md_wordAt at hw
  have hP : va_P D gCl (mW cI cS cZ ad σ α) s.heap := hP
  have hD : va_D A (mW cI cS cZ ad σ α) := hD
  obtain ⟨H, hH⟩ : ∃ H, H = s.heap := ⟨_, rfl⟩
  obtain ⟨locs, hlocs⟩ : ∃ locs : List Loc, locs = [] := ⟨_, rfl⟩
  have hP : va_P D gCl (mW cI cS cZ ad σ α) H := by rw [hH]; exact hP
  have hS : va_S A s.heap H locs := by rw [hH, hlocs]; exact hS
  suffices K : W p l e rm_Md_wordAt s m ([.int x0, .int x1] : List Value).toArray below meth c H locs 0 0 Q (F0 m 0 ls []) by rw [hH, hlocs] at K; exact K
  clear hH hlocs
  refine lv_iload_n hx hb d_Md_wordAt_0 rfl (lv_at hl 0 rfl) ?_
  refine lv_iconst (v := 1) hx hb d_Md_wordAt_1 (by decide) ?_
  refine lv_icmp_le (tgt := 34) hx hb d_Md_wordAt_2 (by decide) (fun h => ?_) (fun h => ?_)
  · have hw := hw.1 h
    exact J34 σ α x0 x1 ls H locs (lv_sub hl [0, 1] rfl) hP hD hS hw
  · have hw := hw.2 h
    refine lv_iload_n hx hb d_Md_wordAt_5 rfl (lv_at hl 0 rfl) ?_
    refine lv_bipush (v := 6) hx hb d_Md_wordAt_6 (by decide) ?_
    refine lv_icmp_ge (tgt := 34) hx hb d_Md_wordAt_8 (by decide) (fun h => ?_) (fun h => ?_)
    · have hw := hw.1 h
      exact J34 σ α x0 x1 ls H locs (lv_sub hl [0, 1] rfl) hP hD hS hw
    · have hw := hw.2 h
      refine lv_iload_n hx hb d_Md_wordAt_11 rfl (lv_at hl 1 rfl) ?_
      refine lv_if_lt (tgt := 32) hx hb d_Md_wordAt_12 (by decide) (fun h => ?_) (fun h => ?_)
      · have hw := hw.1 h
        exact J32 σ α ls H locs (lv_sub hl [] rfl) hP hD hS hw
      · have hw := hw.2 h
        refine lv_iload_n hx hb d_Md_wordAt_15 rfl (lv_at hl 1 rfl) ?_
        refine lv_bipush (v := 32) hx hb d_Md_wordAt_16 (by decide) ?_
        refine lv_icmp_ge (tgt := 32) hx hb d_Md_wordAt_18 (by decide) (fun h => ?_) (fun h => ?_)
        · have hw := hw.1 h
          exact J32 σ α ls H locs (lv_sub hl [] rfl) hP hD hS hw
        · have hw := hw.2 h
          refine lv_bipush (v := 32) hx hb d_Md_wordAt_21 (by decide) ?_
          refine lv_iload_n hx hb d_Md_wordAt_23 rfl (lv_at hl 0 rfl) ?_
          refine lv_iconst (v := 2) hx hb d_Md_wordAt_24 (by decide) ?_
          refine lv_isub hx hb d_Md_wordAt_25 ?_
          refine lv_imul hx hb d_Md_wordAt_26 ?_
          refine lv_iload_n hx hb d_Md_wordAt_27 rfl (lv_at hl 1 rfl) ?_
          refine lv_iadd hx hb d_Md_wordAt_28 ?_
          refine lv_goto (tgt := 33) hx hb d_Md_wordAt_29 (by decide) ?_
          exact J33 σ α (((32 : Int32) * (x0 - (2 : Int32))) + x1) ls H locs (lv_sub hl [] rfl) hP hD hS hw
abbrev rm_Md_word : Room := { frames := 1, cells := 0, slots := 0, locals := 21 }
set_option maxHeartbeats 4000000 in
set_option maxRecDepth 100000 in
theorem c_Md_word (l : Launch) (D : va_G) (cI cS cZ : ClassId) (ad : Nat → Nat) (σ : Nat → Int32) (α : Nat → Nat → Int32) (x1 : Int32) (x2 : Int32) (x3 : Int32) (post : Int32 → gS → Prop) (hw : wp_Md_word σ α x1 x2 x3 post) : gMi l y_Md_word b_Md_word 5 .boolean rm_Md_word D (gT cI cS cZ) (fun u : gS => mW cI cS cZ ad u.1 u.2) [.ref (ad 0), .int x1, .int x2, .int x3] (σ, α) post := by
  refine gMi.of (by decide) (Nat.le_of_ble_eq_true rfl) ?_
  intro p e s m below meth c Q A hx hb hml hown hts hK hN hA hS hP hD hret ls hl
  have hl : lv_has ls 5 [(0, .ref (ad 0)), (1, .int x1), (2, .int x2), (3, .int x3)] := hl
  have J30 : ∀ (σ : Nat → Int32) (α : Nat → Nat → Int32) (t0 : Int32) (ls : Array Slot) (H : Heap) (locs : List Loc), lv_has ls 5 [] → va_P D gCl (mW cI cS cZ ad σ α) H → va_D A (mW cI cS cZ ad σ α) → va_S A s.heap H locs → wp_Md_word_J30 σ α t0 post → W p l e rm_Md_word s m ([.ref (ad 0), .int x1, .int x2, .int x3] : List Value).toArray below meth c H locs 0 0 Q (F0 m 30 ls [.int t0]) := by
    intro σ α t0 ls H locs hl hP hD hS hw
    unfold wp_Md_word_J30 at hw
    obtain ⟨hn, hw⟩ := hw
    exact hret H locs 30 ls t0 (σ, α) d_Md_word_30 hP hD hS hn hw
  have J20 : ∀ (σ : Nat → Int32) (α : Nat → Nat → Int32) (a4 : Int32) (ls : Array Slot) (H : Heap) (locs : List Loc), lv_has ls 5 [(4, .int a4)] → va_P D gCl (mW cI cS cZ ad σ α) H → va_D A (mW cI cS cZ ad σ α) → va_S A s.heap H locs → wp_Md_word_J20 σ α a4 post → W p l e rm_Md_word s m ([.ref (ad 0), .int x1, .int x2, .int x3] : List Value).toArray below meth c H locs 0 0 Q (F0 m 20 ls []) := by
    intro σ α a4 ls H locs hl hP hD hS hw
    unfold wp_Md_word_J20 at hw
    refine lv_iload hx hb d_Md_word_20 (lv_at hl 0 rfl) ?_
    refine lv_if_lt (tgt := 29) hx hb d_Md_word_22 (by decide) (fun h => ?_) (fun h => ?_)
    · have hw := hw.1 h
      refine lv_iconst (v := 0) hx hb d_Md_word_29 (by decide) ?_
      exact J30 σ α (0 : Int32) ls H locs (lv_sub hl [] rfl) hP hD hS hw
    · have hw := hw.2 h
      refine lv_iconst (v := 1) hx hb d_Md_word_25 (by decide) ?_
      refine lv_goto (tgt := 30) hx hb d_Md_word_26 (by decide) ?_
      exact J30 σ α (1 : Int32) ls H locs (lv_sub hl [] rfl) hP hD hS hw
  unfold wp_Md_word at hw
  have hP : va_P D gCl (mW cI cS cZ ad σ α) s.heap := hP
  have hD : va_D A (mW cI cS cZ ad σ α) := hD
  obtain ⟨H, hH⟩ : ∃ H, H = s.heap := ⟨_, rfl⟩
  obtain ⟨locs, hlocs⟩ : ∃ locs : List Loc, locs = [] := ⟨_, rfl⟩
  have hP : va_P D gCl (mW cI cS cZ ad σ α) H := by rw [hH]; exact hP
  have hS : va_S A s.heap H locs := by rw [hH, hlocs]; exact hS
  suffices K : W p l e rm_Md_word s m ([.ref (ad 0), .int x1, .int x2, .int x3] : List Value).toArray below meth c H locs 0 0 Q (F0 m 0 ls []) by rw [hH, hlocs] at K; exact K
  clear hH hlocs
  refine lv_iload_n hx hb d_Md_word_0 rfl (lv_at hl 1 rfl) ?_
  refine lv_iload_n hx hb d_Md_word_1 rfl (lv_at hl 2 rfl) ?_
  refine gCallSi (As := [.int x1, .int x2]) (rest := []) (c_Md_wordAt l D cI cS cZ ad  σ α x1 x2 _ hw) hx hb hml hown hts hK hN hA hS hP hD (va_cwS 2 hts (gGS tw_689 tw_690 tw_11 tw_691) rfl rfl rfl ⟨by decide, by decide, by decide +kernel⟩ ⟨Nat.le_of_ble_eq_true rfl, Nat.le_of_ble_eq_true rfl⟩) rfl hl.1 rfl (Nat.le_of_ble_eq_true rfl) d_Md_word_2 (fun r2 u2 H locs hw hP hD hS => ?_)
  have hP : va_P D gCl (mW cI cS cZ ad u2.1 u2.2) H := hP
  have hD : va_D A (mW cI cS cZ ad u2.1 u2.2) := hD
  refine lv_istore hx hb d_Md_word_5 hl (by decide) rfl (fun ls hl => ?_)
  have hl : lv_has ls 5 [(4, .int r2), (0, .ref (ad 0)), (1, .int x1), (2, .int x2), (3, .int x3)] := hl
  refine lv_iload hx hb d_Md_word_7 (lv_at hl 0 rfl) ?_
  refine lv_if_lt (tgt := 20) hx hb d_Md_word_9 (by decide) (fun h => ?_) (fun h => ?_)
  · have hw := hw.1 h
    exact J20 u2.1 u2.2 r2 ls H locs (lv_sub hl [0] rfl) hP hD hS hw
  · have hw := hw.2 h
    refine lv_aload_n hx hb d_Md_word_12 rfl (lv_at hl 1 rfl) ?_
    refine va_get (D := D) (ci := 9) (v := .ref (ad 2)) (C := R_Md) (T := T_Md) (N := 47) hx hb hts i_Md hown hK hP 0 rfl rfl 1 (by decide) (hts _ tw_535) (fun _ h9 => h9) rfl d_Md_word_13 ?_
    refine lv_iload hx hb d_Md_word_16 (lv_at hl 0 rfl) ?_
    refine lv_iload_n hx hb d_Md_word_18 rfl (lv_at hl 4 rfl) ?_
    obtain ⟨hin, hw⟩ := hw
    refine va_sast (f := u2.2 2) (i := r2) (x := x3) hx hb hK hP hD hS 2 1 rfl rfl hin d_Md_word_19 (fun H locs hP hD hS => ?_)
    rw [mW_s2] at hP hD
    have hP : va_P D gCl (mW cI cS cZ ad u2.1 (va_up u2.2 2 (upd (u2.2 2) r2.toNatClampNeg (vp_nar .short x3)))) H := hP
    have hD : va_D A (mW cI cS cZ ad u2.1 (va_up u2.2 2 (upd (u2.2 2) r2.toNatClampNeg (vp_nar .short x3)))) := hD
    exact J20 u2.1 (va_up u2.2 2 (upd (u2.2 2) r2.toNatClampNeg (vp_nar .short x3))) r2 ls H locs (lv_sub hl [0] rfl) hP hD hS hw
abbrev rm_Md_card : Room := { frames := 0, cells := 0, slots := 0, locals := 0 }
set_option maxHeartbeats 4000000 in
set_option maxRecDepth 100000 in
theorem c_Md_card (l : Launch) (D : va_G) (cI cS cZ : ClassId) (ad : Nat → Nat) (σ : Nat → Int32) (α : Nat → Nat → Int32) (x1 : Int32) (post : Int32 → gS → Prop) (hw : wp_Md_card σ α x1 post) : gMi l y_Md_card b_Md_card 2 .boolean rm_Md_card D (gT cI cS cZ) (fun u : gS => mW cI cS cZ ad u.1 u.2) [.ref (ad 0), .int x1] (σ, α) post := by
  refine gMi.of (by decide) (Nat.le_of_ble_eq_true rfl) ?_
  intro p e s m below meth c Q A hx hb hml hown hts hK hN hA hS hP hD hret ls hl
  have hl : lv_has ls 2 [(0, .ref (ad 0)), (1, .int x1)] := hl
  unfold wp_Md_card at hw
  have hP : va_P D gCl (mW cI cS cZ ad σ α) s.heap := hP
  have hD : va_D A (mW cI cS cZ ad σ α) := hD
  obtain ⟨H, hH⟩ : ∃ H, H = s.heap := ⟨_, rfl⟩
  obtain ⟨locs, hlocs⟩ : ∃ locs : List Loc, locs = [] := ⟨_, rfl⟩
  have hP : va_P D gCl (mW cI cS cZ ad σ α) H := by rw [hH]; exact hP
  have hS : va_S A s.heap H locs := by rw [hH, hlocs]; exact hS
  suffices K : W p l e rm_Md_card s m ([.ref (ad 0), .int x1] : List Value).toArray below meth c H locs 0 0 Q (F0 m 0 ls []) by rw [hH, hlocs] at K; exact K
  clear hH hlocs
  refine lv_aload_n hx hb d_Md_card_0 rfl (lv_at hl 0 rfl) ?_
  refine va_get (D := D) (ci := 9) (v := .int (σ 18)) (C := R_Md) (T := T_Md) (N := 47) hx hb hts i_Md hown hK hP 0 rfl rfl 20 (by decide) (hts _ tw_554) (fun _ h9 => h9) rfl d_Md_card_1 ?_
  refine lv_bipush (v := 48) hx hb d_Md_card_4 (by decide) ?_
  refine lv_icmp_ne (tgt := 11) hx hb d_Md_card_6 (by decide) (fun h => ?_) (fun h => ?_)
  · have hw := hw.1 h
    refine lv_aload_n hx hb d_Md_card_11 rfl (lv_at hl 0 rfl) ?_
    refine lv_dup hx hb d_Md_card_12 rfl ?_
    refine va_get (D := D) (ci := 9) (v := .int (σ 18)) (C := R_Md) (T := T_Md) (N := 47) hx hb hts i_Md hown hK hP 0 rfl rfl 20 (by decide) (hts _ tw_554) (fun _ h9 => h9) rfl d_Md_card_13 ?_
    refine lv_iconst (v := 1) hx hb d_Md_card_16 (by decide) ?_
    refine lv_iadd hx hb d_Md_card_17 ?_
    refine va_put (D := D) (ci := 9) (v := .int ((σ 18) + (1 : Int32))) (ty := .int) (C := R_Md) (T := T_Md) (N := 47) hx hb hts i_Md t_Md o_Md n_Md hown hK hP hD hS 0 rfl rfl 20 (by decide) (hts _ tw_554) (fun _ h9 => h9) rfl (by decide +kernel) rfl rfl (Nat.le_of_ble_eq_true rfl) d_Md_card_18 (fun H locs hP hD hS => ?_)
    have hP : va_P D gCl (mW cI cS cZ ad (va_up σ 18 ((σ 18) + (1 : Int32))) α) H := hP
    have hD : va_D A (mW cI cS cZ ad (va_up σ 18 ((σ 18) + (1 : Int32))) α) := hD
    refine lv_aload_n hx hb d_Md_card_21 rfl (lv_at hl 0 rfl) ?_
    refine va_get (D := D) (ci := 9) (v := .ref (ad 3)) (C := R_Md) (T := T_Md) (N := 47) hx hb hts i_Md hown hK hP 0 rfl rfl 21 (by decide) (hts _ tw_555) (fun _ h9 => h9) rfl d_Md_card_22 ?_
    refine lv_aload_n hx hb d_Md_card_25 rfl (lv_at hl 0 rfl) ?_
    refine va_get (D := D) (ci := 9) (v := .int (σ 17)) (C := R_Md) (T := T_Md) (N := 47) hx hb hts i_Md hown hK hP 0 rfl rfl 19 (by decide) (hts _ tw_553) (fun _ h9 => h9) rfl d_Md_card_26 ?_
    refine lv_iload_n hx hb d_Md_card_29 rfl (lv_at hl 1 rfl) ?_
    obtain ⟨hin, hw⟩ := hw
    refine va_sast (f := α 3) (i := σ 17) (x := x1) hx hb hK hP hD hS 3 1 rfl rfl hin d_Md_card_30 (fun H locs hP hD hS => ?_)
    rw [mW_s3] at hP hD
    have hP : va_P D gCl (mW cI cS cZ ad (va_up σ 18 ((σ 18) + (1 : Int32))) (va_up α 3 (upd (α 3) (σ 17).toNatClampNeg (vp_nar .short x1)))) H := hP
    have hD : va_D A (mW cI cS cZ ad (va_up σ 18 ((σ 18) + (1 : Int32))) (va_up α 3 (upd (α 3) (σ 17).toNatClampNeg (vp_nar .short x1)))) := hD
    refine lv_aload_n hx hb d_Md_card_31 rfl (lv_at hl 0 rfl) ?_
    refine lv_dup hx hb d_Md_card_32 rfl ?_
    refine va_get (D := D) (ci := 9) (v := .int (σ 17)) (C := R_Md) (T := T_Md) (N := 47) hx hb hts i_Md hown hK hP 0 rfl rfl 19 (by decide) (hts _ tw_553) (fun _ h9 => h9) rfl d_Md_card_33 ?_
    refine lv_iconst (v := 1) hx hb d_Md_card_36 (by decide) ?_
    refine lv_iadd hx hb d_Md_card_37 ?_
    refine va_put (D := D) (ci := 9) (v := .int ((σ 17) + (1 : Int32))) (ty := .int) (C := R_Md) (T := T_Md) (N := 47) hx hb hts i_Md t_Md o_Md n_Md hown hK hP hD hS 0 rfl rfl 19 (by decide) (hts _ tw_553) (fun _ h9 => h9) rfl (by decide +kernel) rfl rfl (Nat.le_of_ble_eq_true rfl) d_Md_card_38 (fun H locs hP hD hS => ?_)
    have hP : va_P D gCl (mW cI cS cZ ad (va_up (va_up σ 17 ((σ 17) + (1 : Int32))) 18 ((σ 18) + (1 : Int32))) (va_up α 3 (upd (α 3) (σ 17).toNatClampNeg (vp_nar .short x1)))) H := hP
    have hD : va_D A (mW cI cS cZ ad (va_up (va_up σ 17 ((σ 17) + (1 : Int32))) 18 ((σ 18) + (1 : Int32))) (va_up α 3 (upd (α 3) (σ 17).toNatClampNeg (vp_nar .short x1)))) := hD
    refine lv_iconst (v := 1) hx hb d_Md_card_41 (by decide) ?_
    exact hret H locs 42 ls (1 : Int32) ((va_up (va_up σ 17 ((σ 17) + (1 : Int32))) 18 ((σ 18) + (1 : Int32))), (va_up α 3 (upd (α 3) (σ 17).toNatClampNeg (vp_nar .short x1)))) d_Md_card_42 hP hD hS rfl hw
  · have hw := hw.2 h
    refine lv_iconst (v := 0) hx hb d_Md_card_9 (by decide) ?_
    exact hret H locs 10 ls (0 : Int32) (σ, α) d_Md_card_10 hP hD hS rfl hw
abbrev rm_Md_start : Room := { frames := 1, cells := 0, slots := 0, locals := 21 }
set_option maxHeartbeats 4000000 in
set_option maxRecDepth 100000 in
theorem c_Md_start (l : Launch) (D : va_G) (cI cS cZ : ClassId) (ad : Nat → Nat) (σ : Nat → Int32) (α : Nat → Nat → Int32) (x1 : Int32) (x2 : Int32) (post : Int32 → gS → Prop) (hw : wp_Md_start σ α x1 x2 post) : gMi l y_Md_start b_Md_start 3 .boolean rm_Md_start D (gT cI cS cZ) (fun u : gS => mW cI cS cZ ad u.1 u.2) [.ref (ad 0), .int x1, .int x2] (σ, α) post := by
  refine gMi.of (by decide) (Nat.le_of_ble_eq_true rfl) ?_
  intro p e s m below meth c Q A hx hb hml hown hts hK hN hA hS hP hD hret ls hl
  have hl : lv_has ls 3 [(0, .ref (ad 0)), (1, .int x1), (2, .int x2)] := hl
  have L73 : ∀ (σ : Nat → Int32) (α : Nat → Nat → Int32) (a1 : Int32) (a2 : Int32) (ls : Array Slot) (H : Heap) (locs : List Loc), lv_has ls 3 [(0, .ref (ad 0)), (1, .int a1), (2, .int a2)] → va_P D gCl (mW cI cS cZ ad σ α) H → va_D A (mW cI cS cZ ad σ α) → va_S A s.heap H locs → wp_Md_start_L73 σ α a1 a2 post → W p l e rm_Md_start s m ([.ref (ad 0), .int x1, .int x2] : List Value).toArray below meth c H locs 0 0 Q (F0 m 73 ls []) := by
    intro σ α a1 a2 ls H locs hl hP hD hS hw
    let XL73 : (Nat → Int32) → (Nat → Nat → Int32) → Int32 → Int32 → Prop := fun σ α a1 a2 => ∀ (ls : Array Slot) (H : Heap) (locs : List Loc), lv_has ls 3 [(0, .ref (ad 0)), (1, .int a1), (2, .int a2)] → va_P D gCl (mW cI cS cZ ad σ α) H → va_D A (mW cI cS cZ ad σ α) → va_S A s.heap H locs → W p l e rm_Md_start s m ([.ref (ad 0), .int x1, .int x2] : List Value).toArray below meth c H locs 0 0 Q (F0 m 73 ls [])
    have hX73 : ∀ (σ : Nat → Int32) (α : Nat → Nat → Int32) (a1 : Int32) (a2 : Int32) (ls : Array Slot) (H : Heap) (locs : List Loc), lv_has ls 3 [(0, .ref (ad 0)), (1, .int a1), (2, .int a2)] → va_P D gCl (mW cI cS cZ ad σ α) H → va_D A (mW cI cS cZ ad σ α) → va_S A s.heap H locs → XL73 σ α a1 a2 → W p l e rm_Md_start s m ([.ref (ad 0), .int x1, .int x2] : List Value).toArray below meth c H locs 0 0 Q (F0 m 73 ls []) := fun σ α a1 a2 ls H locs hl hP hD hS hw => hw ls H locs hl hP hD hS
    refine hw XL73 ?_ ls H locs hl hP hD hS
    clear hw hl hP hD hS
    intro σ α a1 a2 hw ls H locs hl hP hD hS
    unfold wp_Md_start_B73 at hw
    refine lv_aload_n hx hb d_Md_start_73 rfl (lv_at hl 0 rfl) ?_
    refine va_get (D := D) (ci := 9) (v := .int (σ 3)) (C := R_Md) (T := T_Md) (N := 47) hx hb hts i_Md hown hK hP 0 rfl rfl 5 (by decide) (hts _ tw_539) (fun _ h9 => h9) rfl d_Md_start_74 ?_
    refine lv_bipush (v := 32) hx hb d_Md_start_77 (by decide) ?_
    refine lv_irem hx hb d_Md_start_79 (by decide) ?_
    refine lv_iload_n hx hb d_Md_start_80 rfl (lv_at hl 2 rfl) ?_
    refine lv_icmp_eq (tgt := 97) hx hb d_Md_start_81 (by decide) (fun h => ?_) (fun h => ?_)
    · have hw := hw.1 h
      refine lv_aload_n hx hb d_Md_start_97 rfl (lv_at hl 0 rfl) ?_
      refine lv_iload_n hx hb d_Md_start_98 rfl (lv_at hl 1 rfl) ?_
      refine va_put (D := D) (ci := 9) (v := .int a1) (ty := .int) (C := R_Md) (T := T_Md) (N := 47) hx hb hts i_Md t_Md o_Md n_Md hown hK hP hD hS 0 rfl rfl 6 (by decide) (hts _ tw_540) (fun _ h9 => h9) rfl (by decide +kernel) rfl rfl (Nat.le_of_ble_eq_true rfl) d_Md_start_99 (fun H locs hP hD hS => ?_)
      have hP : va_P D gCl (mW cI cS cZ ad (va_up σ 4 a1) α) H := hP
      have hD : va_D A (mW cI cS cZ ad (va_up σ 4 a1) α) := hD
      refine lv_iconst (v := 1) hx hb d_Md_start_102 (by decide) ?_
      exact hret H locs 103 ls (1 : Int32) ((va_up σ 4 a1), α) d_Md_start_103 hP hD hS rfl hw
    · have hw := hw.2 h
      refine lv_aload_n hx hb d_Md_start_84 rfl (lv_at hl 0 rfl) ?_
      refine lv_dup hx hb d_Md_start_85 rfl ?_
      refine va_get (D := D) (ci := 9) (v := .int (σ 3)) (C := R_Md) (T := T_Md) (N := 47) hx hb hts i_Md hown hK hP 0 rfl rfl 5 (by decide) (hts _ tw_539) (fun _ h9 => h9) rfl d_Md_start_86 ?_
      refine lv_iconst (v := 1) hx hb d_Md_start_89 (by decide) ?_
      refine lv_iadd hx hb d_Md_start_90 ?_
      refine va_put (D := D) (ci := 9) (v := .int ((σ 3) + (1 : Int32))) (ty := .int) (C := R_Md) (T := T_Md) (N := 47) hx hb hts i_Md t_Md o_Md n_Md hown hK hP hD hS 0 rfl rfl 5 (by decide) (hts _ tw_539) (fun _ h9 => h9) rfl (by decide +kernel) rfl rfl (Nat.le_of_ble_eq_true rfl) d_Md_start_91 (fun H locs hP hD hS => ?_)
      have hP : va_P D gCl (mW cI cS cZ ad (va_up σ 3 ((σ 3) + (1 : Int32))) α) H := hP
      have hD : va_D A (mW cI cS cZ ad (va_up σ 3 ((σ 3) + (1 : Int32))) α) := hD
      refine lv_goto (tgt := 73) hx hb d_Md_start_94 (by decide) ?_
      exact hX73 (va_up σ 3 ((σ 3) + (1 : Int32))) α a1 a2 ls H locs (lv_sub hl [0, 1, 2] rfl) hP hD hS hw
  unfold wp_Md_start at hw
  have hP : va_P D gCl (mW cI cS cZ ad σ α) s.heap := hP
  have hD : va_D A (mW cI cS cZ ad σ α) := hD
  obtain ⟨H, hH⟩ : ∃ H, H = s.heap := ⟨_, rfl⟩
  obtain ⟨locs, hlocs⟩ : ∃ locs : List Loc, locs = [] := ⟨_, rfl⟩
  have hP : va_P D gCl (mW cI cS cZ ad σ α) H := by rw [hH]; exact hP
  have hS : va_S A s.heap H locs := by rw [hH, hlocs]; exact hS
  suffices K : W p l e rm_Md_start s m ([.ref (ad 0), .int x1, .int x2] : List Value).toArray below meth c H locs 0 0 Q (F0 m 0 ls []) by rw [hH, hlocs] at K; exact K
  clear hH hlocs
  refine lv_iload_n hx hb d_Md_start_0 rfl (lv_at hl 1 rfl) ?_
  refine lv_iload_n hx hb d_Md_start_1 rfl (lv_at hl 2 rfl) ?_
  refine gCallSi (As := [.int x1, .int x2]) (rest := []) (c_Md_isOrder l D cI cS cZ ad  σ α x1 x2 _ hw) hx hb hml hown hts hK hN hA hS hP hD (va_cwS 2 hts (gGS tw_681 tw_682 tw_11 tw_683) rfl rfl rfl ⟨by decide, by decide, by decide +kernel⟩ ⟨Nat.le_of_ble_eq_true rfl, Nat.le_of_ble_eq_true rfl⟩) rfl hl.1 rfl (Nat.le_of_ble_eq_true rfl) d_Md_start_2 (fun r2 u2 H locs hw hP hD hS => ?_)
  have hP : va_P D gCl (mW cI cS cZ ad u2.1 u2.2) H := hP
  have hD : va_D A (mW cI cS cZ ad u2.1 u2.2) := hD
  refine lv_if_ne (tgt := 10) hx hb d_Md_start_5 (by decide) (fun h => ?_) (fun h => ?_)
  · have hw := hw.1 h
    refine lv_aload_n hx hb d_Md_start_10 rfl (lv_at hl 0 rfl) ?_
    refine lv_iconst (v := 1) hx hb d_Md_start_11 (by decide) ?_
    refine va_put (D := D) (ci := 9) (v := .int (1 : Int32)) (ty := .boolean) (C := R_Md) (T := T_Md) (N := 47) hx hb hts i_Md t_Md o_Md n_Md hown hK hP hD hS 0 rfl rfl 3 (by decide) (hts _ tw_537) (fun _ h9 => h9) rfl (by decide +kernel) rfl rfl (Nat.le_of_ble_eq_true rfl) d_Md_start_12 (fun H locs hP hD hS => ?_)
    have hP : va_P D gCl (mW cI cS cZ ad (va_up u2.1 1 (1 : Int32)) u2.2) H := hP
    have hD : va_D A (mW cI cS cZ ad (va_up u2.1 1 (1 : Int32)) u2.2) := hD
    refine lv_aload_n hx hb d_Md_start_15 rfl (lv_at hl 0 rfl) ?_
    refine lv_iconst (v := 0) hx hb d_Md_start_16 (by decide) ?_
    refine va_put (D := D) (ci := 9) (v := .int (0 : Int32)) (ty := .int) (C := R_Md) (T := T_Md) (N := 47) hx hb hts i_Md t_Md o_Md n_Md hown hK hP hD hS 0 rfl rfl 4 (by decide) (hts _ tw_538) (fun _ h9 => h9) rfl (by decide +kernel) rfl rfl (Nat.le_of_ble_eq_true rfl) d_Md_start_17 (fun H locs hP hD hS => ?_)
    have hP : va_P D gCl (mW cI cS cZ ad (va_up (va_up u2.1 1 (1 : Int32)) 2 (0 : Int32)) u2.2) H := hP
    have hD : va_D A (mW cI cS cZ ad (va_up (va_up u2.1 1 (1 : Int32)) 2 (0 : Int32)) u2.2) := hD
    refine lv_aload_n hx hb d_Md_start_20 rfl (lv_at hl 0 rfl) ?_
    refine lv_iconst (v := 0) hx hb d_Md_start_21 (by decide) ?_
    refine va_put (D := D) (ci := 9) (v := .int (0 : Int32)) (ty := .int) (C := R_Md) (T := T_Md) (N := 47) hx hb hts i_Md t_Md o_Md n_Md hown hK hP hD hS 0 rfl rfl 17 (by decide) (hts _ tw_551) (fun _ h9 => h9) rfl (by decide +kernel) rfl rfl (Nat.le_of_ble_eq_true rfl) d_Md_start_22 (fun H locs hP hD hS => ?_)
    have hP : va_P D gCl (mW cI cS cZ ad (va_up (va_up (va_up u2.1 1 (1 : Int32)) 2 (0 : Int32)) 15 (0 : Int32)) u2.2) H := hP
    have hD : va_D A (mW cI cS cZ ad (va_up (va_up (va_up u2.1 1 (1 : Int32)) 2 (0 : Int32)) 15 (0 : Int32)) u2.2) := hD
    refine lv_aload_n hx hb d_Md_start_25 rfl (lv_at hl 0 rfl) ?_
    refine lv_iconst (v := (-1)) hx hb d_Md_start_26 (by decide) ?_
    refine va_put (D := D) (ci := 9) (v := .int (-1 : Int32)) (ty := .int) (C := R_Md) (T := T_Md) (N := 47) hx hb hts i_Md t_Md o_Md n_Md hown hK hP hD hS 0 rfl rfl 23 (by decide) (hts _ tw_557) (fun _ h9 => h9) rfl (by decide +kernel) rfl rfl (Nat.le_of_ble_eq_true rfl) d_Md_start_27 (fun H locs hP hD hS => ?_)
    have hP : va_P D gCl (mW cI cS cZ ad (va_up (va_up (va_up (va_up u2.1 1 (1 : Int32)) 2 (0 : Int32)) 15 (0 : Int32)) 19 (-1 : Int32)) u2.2) H := hP
    have hD : va_D A (mW cI cS cZ ad (va_up (va_up (va_up (va_up u2.1 1 (1 : Int32)) 2 (0 : Int32)) 15 (0 : Int32)) 19 (-1 : Int32)) u2.2) := hD
    refine lv_aload_n hx hb d_Md_start_30 rfl (lv_at hl 0 rfl) ?_
    refine lv_iconst (v := 0) hx hb d_Md_start_31 (by decide) ?_
    refine va_put (D := D) (ci := 9) (v := .int (0 : Int32)) (ty := .int) (C := R_Md) (T := T_Md) (N := 47) hx hb hts i_Md t_Md o_Md n_Md hown hK hP hD hS 0 rfl rfl 9 (by decide) (hts _ tw_543) (fun _ h9 => h9) rfl (by decide +kernel) rfl rfl (Nat.le_of_ble_eq_true rfl) d_Md_start_32 (fun H locs hP hD hS => ?_)
    have hP : va_P D gCl (mW cI cS cZ ad (va_up (va_up (va_up (va_up (va_up u2.1 1 (1 : Int32)) 2 (0 : Int32)) 7 (0 : Int32)) 15 (0 : Int32)) 19 (-1 : Int32)) u2.2) H := hP
    have hD : va_D A (mW cI cS cZ ad (va_up (va_up (va_up (va_up (va_up u2.1 1 (1 : Int32)) 2 (0 : Int32)) 7 (0 : Int32)) 15 (0 : Int32)) 19 (-1 : Int32)) u2.2) := hD
    refine lv_aload_n hx hb d_Md_start_35 rfl (lv_at hl 0 rfl) ?_
    refine lv_iconst (v := (-1)) hx hb d_Md_start_36 (by decide) ?_
    refine va_put (D := D) (ci := 9) (v := .int (-1 : Int32)) (ty := .int) (C := R_Md) (T := T_Md) (N := 47) hx hb hts i_Md t_Md o_Md n_Md hown hK hP hD hS 0 rfl rfl 7 (by decide) (hts _ tw_541) (fun _ h9 => h9) rfl (by decide +kernel) rfl rfl (Nat.le_of_ble_eq_true rfl) d_Md_start_37 (fun H locs hP hD hS => ?_)
    have hP : va_P D gCl (mW cI cS cZ ad (va_up (va_up (va_up (va_up (va_up (va_up u2.1 1 (1 : Int32)) 2 (0 : Int32)) 5 (-1 : Int32)) 7 (0 : Int32)) 15 (0 : Int32)) 19 (-1 : Int32)) u2.2) H := hP
    have hD : va_D A (mW cI cS cZ ad (va_up (va_up (va_up (va_up (va_up (va_up u2.1 1 (1 : Int32)) 2 (0 : Int32)) 5 (-1 : Int32)) 7 (0 : Int32)) 15 (0 : Int32)) 19 (-1 : Int32)) u2.2) := hD
    refine lv_aload_n hx hb d_Md_start_40 rfl (lv_at hl 0 rfl) ?_
    refine lv_iconst (v := (-1)) hx hb d_Md_start_41 (by decide) ?_
    refine va_put (D := D) (ci := 9) (v := .int (-1 : Int32)) (ty := .int) (C := R_Md) (T := T_Md) (N := 47) hx hb hts i_Md t_Md o_Md n_Md hown hK hP hD hS 0 rfl rfl 8 (by decide) (hts _ tw_542) (fun _ h9 => h9) rfl (by decide +kernel) rfl rfl (Nat.le_of_ble_eq_true rfl) d_Md_start_42 (fun H locs hP hD hS => ?_)
    have hP : va_P D gCl (mW cI cS cZ ad (va_up (va_up (va_up (va_up (va_up (va_up (va_up u2.1 1 (1 : Int32)) 2 (0 : Int32)) 5 (-1 : Int32)) 6 (-1 : Int32)) 7 (0 : Int32)) 15 (0 : Int32)) 19 (-1 : Int32)) u2.2) H := hP
    have hD : va_D A (mW cI cS cZ ad (va_up (va_up (va_up (va_up (va_up (va_up (va_up u2.1 1 (1 : Int32)) 2 (0 : Int32)) 5 (-1 : Int32)) 6 (-1 : Int32)) 7 (0 : Int32)) 15 (0 : Int32)) 19 (-1 : Int32)) u2.2) := hD
    refine lv_aload_n hx hb d_Md_start_45 rfl (lv_at hl 0 rfl) ?_
    refine lv_iconst (v := 0) hx hb d_Md_start_46 (by decide) ?_
    refine va_put (D := D) (ci := 9) (v := .int (0 : Int32)) (ty := .int) (C := R_Md) (T := T_Md) (N := 47) hx hb hts i_Md t_Md o_Md n_Md hown hK hP hD hS 0 rfl rfl 11 (by decide) (hts _ tw_545) (fun _ h9 => h9) rfl (by decide +kernel) rfl rfl (Nat.le_of_ble_eq_true rfl) d_Md_start_47 (fun H locs hP hD hS => ?_)
    have hP : va_P D gCl (mW cI cS cZ ad (va_up (va_up (va_up (va_up (va_up (va_up (va_up (va_up u2.1 1 (1 : Int32)) 2 (0 : Int32)) 5 (-1 : Int32)) 6 (-1 : Int32)) 7 (0 : Int32)) 9 (0 : Int32)) 15 (0 : Int32)) 19 (-1 : Int32)) u2.2) H := hP
    have hD : va_D A (mW cI cS cZ ad (va_up (va_up (va_up (va_up (va_up (va_up (va_up (va_up u2.1 1 (1 : Int32)) 2 (0 : Int32)) 5 (-1 : Int32)) 6 (-1 : Int32)) 7 (0 : Int32)) 9 (0 : Int32)) 15 (0 : Int32)) 19 (-1 : Int32)) u2.2) := hD
    refine lv_aload_n hx hb d_Md_start_50 rfl (lv_at hl 0 rfl) ?_
    refine lv_iconst (v := (-1)) hx hb d_Md_start_51 (by decide) ?_
    refine va_put (D := D) (ci := 9) (v := .int (-1 : Int32)) (ty := .int) (C := R_Md) (T := T_Md) (N := 47) hx hb hts i_Md t_Md o_Md n_Md hown hK hP hD hS 0 rfl rfl 12 (by decide) (hts _ tw_546) (fun _ h9 => h9) rfl (by decide +kernel) rfl rfl (Nat.le_of_ble_eq_true rfl) d_Md_start_52 (fun H locs hP hD hS => ?_)
    have hP : va_P D gCl (mW cI cS cZ ad (va_up (va_up (va_up (va_up (va_up (va_up (va_up (va_up (va_up u2.1 1 (1 : Int32)) 2 (0 : Int32)) 5 (-1 : Int32)) 6 (-1 : Int32)) 7 (0 : Int32)) 9 (0 : Int32)) 10 (-1 : Int32)) 15 (0 : Int32)) 19 (-1 : Int32)) u2.2) H := hP
    have hD : va_D A (mW cI cS cZ ad (va_up (va_up (va_up (va_up (va_up (va_up (va_up (va_up (va_up u2.1 1 (1 : Int32)) 2 (0 : Int32)) 5 (-1 : Int32)) 6 (-1 : Int32)) 7 (0 : Int32)) 9 (0 : Int32)) 10 (-1 : Int32)) 15 (0 : Int32)) 19 (-1 : Int32)) u2.2) := hD
    refine lv_aload_n hx hb d_Md_start_55 rfl (lv_at hl 0 rfl) ?_
    refine lv_iconst (v := 0) hx hb d_Md_start_56 (by decide) ?_
    refine va_put (D := D) (ci := 9) (v := .int (0 : Int32)) (ty := .int) (C := R_Md) (T := T_Md) (N := 47) hx hb hts i_Md t_Md o_Md n_Md hown hK hP hD hS 0 rfl rfl 14 (by decide) (hts _ tw_548) (fun _ h9 => h9) rfl (by decide +kernel) rfl rfl (Nat.le_of_ble_eq_true rfl) d_Md_start_57 (fun H locs hP hD hS => ?_)
    have hP : va_P D gCl (mW cI cS cZ ad (va_up (va_up (va_up (va_up (va_up (va_up (va_up (va_up (va_up (va_up u2.1 1 (1 : Int32)) 2 (0 : Int32)) 5 (-1 : Int32)) 6 (-1 : Int32)) 7 (0 : Int32)) 9 (0 : Int32)) 10 (-1 : Int32)) 12 (0 : Int32)) 15 (0 : Int32)) 19 (-1 : Int32)) u2.2) H := hP
    have hD : va_D A (mW cI cS cZ ad (va_up (va_up (va_up (va_up (va_up (va_up (va_up (va_up (va_up (va_up u2.1 1 (1 : Int32)) 2 (0 : Int32)) 5 (-1 : Int32)) 6 (-1 : Int32)) 7 (0 : Int32)) 9 (0 : Int32)) 10 (-1 : Int32)) 12 (0 : Int32)) 15 (0 : Int32)) 19 (-1 : Int32)) u2.2) := hD
    refine lv_aload_n hx hb d_Md_start_60 rfl (lv_at hl 0 rfl) ?_
    refine lv_iconst (v := (-1)) hx hb d_Md_start_61 (by decide) ?_
    refine va_put (D := D) (ci := 9) (v := .int (-1 : Int32)) (ty := .int) (C := R_Md) (T := T_Md) (N := 47) hx hb hts i_Md t_Md o_Md n_Md hown hK hP hD hS 0 rfl rfl 15 (by decide) (hts _ tw_549) (fun _ h9 => h9) rfl (by decide +kernel) rfl rfl (Nat.le_of_ble_eq_true rfl) d_Md_start_62 (fun H locs hP hD hS => ?_)
    have hP : va_P D gCl (mW cI cS cZ ad (va_up (va_up (va_up (va_up (va_up (va_up (va_up (va_up (va_up (va_up (va_up u2.1 1 (1 : Int32)) 2 (0 : Int32)) 5 (-1 : Int32)) 6 (-1 : Int32)) 7 (0 : Int32)) 9 (0 : Int32)) 10 (-1 : Int32)) 12 (0 : Int32)) 13 (-1 : Int32)) 15 (0 : Int32)) 19 (-1 : Int32)) u2.2) H := hP
    have hD : va_D A (mW cI cS cZ ad (va_up (va_up (va_up (va_up (va_up (va_up (va_up (va_up (va_up (va_up (va_up u2.1 1 (1 : Int32)) 2 (0 : Int32)) 5 (-1 : Int32)) 6 (-1 : Int32)) 7 (0 : Int32)) 9 (0 : Int32)) 10 (-1 : Int32)) 12 (0 : Int32)) 13 (-1 : Int32)) 15 (0 : Int32)) 19 (-1 : Int32)) u2.2) := hD
    refine lv_aload_n hx hb d_Md_start_65 rfl (lv_at hl 0 rfl) ?_
    refine lv_aload_n hx hb d_Md_start_66 rfl (lv_at hl 0 rfl) ?_
    refine va_get (D := D) (ci := 9) (v := .int (u2.1 0)) (C := R_Md) (T := T_Md) (N := 47) hx hb hts i_Md hown hK hP 0 rfl rfl 2 (by decide) (hts _ tw_536) (fun _ h9 => h9) rfl d_Md_start_67 ?_
    refine va_put (D := D) (ci := 9) (v := .int (u2.1 0)) (ty := .int) (C := R_Md) (T := T_Md) (N := 47) hx hb hts i_Md t_Md o_Md n_Md hown hK hP hD hS 0 rfl rfl 5 (by decide) (hts _ tw_539) (fun _ h9 => h9) rfl (by decide +kernel) rfl rfl (Nat.le_of_ble_eq_true rfl) d_Md_start_70 (fun H locs hP hD hS => ?_)
    have hP : va_P D gCl (mW cI cS cZ ad (va_up (va_up (va_up (va_up (va_up (va_up (va_up (va_up (va_up (va_up (va_up (va_up u2.1 1 (1 : Int32)) 2 (0 : Int32)) 3 (u2.1 0)) 5 (-1 : Int32)) 6 (-1 : Int32)) 7 (0 : Int32)) 9 (0 : Int32)) 10 (-1 : Int32)) 12 (0 : Int32)) 13 (-1 : Int32)) 15 (0 : Int32)) 19 (-1 : Int32)) u2.2) H := hP
    have hD : va_D A (mW cI cS cZ ad (va_up (va_up (va_up (va_up (va_up (va_up (va_up (va_up (va_up (va_up (va_up (va_up u2.1 1 (1 : Int32)) 2 (0 : Int32)) 3 (u2.1 0)) 5 (-1 : Int32)) 6 (-1 : Int32)) 7 (0 : Int32)) 9 (0 : Int32)) 10 (-1 : Int32)) 12 (0 : Int32)) 13 (-1 : Int32)) 15 (0 : Int32)) 19 (-1 : Int32)) u2.2) := hD
    exact L73 (va_up (va_up (va_up (va_up (va_up (va_up (va_up (va_up (va_up (va_up (va_up (va_up u2.1 1 (1 : Int32)) 2 (0 : Int32)) 3 (u2.1 0)) 5 (-1 : Int32)) 6 (-1 : Int32)) 7 (0 : Int32)) 9 (0 : Int32)) 10 (-1 : Int32)) 12 (0 : Int32)) 13 (-1 : Int32)) 15 (0 : Int32)) 19 (-1 : Int32)) u2.2 x1 x2 ls H locs (lv_sub hl [0, 1, 2] rfl) hP hD hS hw
  · have hw := hw.2 h
    refine lv_iconst (v := 0) hx hb d_Md_start_8 (by decide) ?_
    exact hret H locs 9 ls (0 : Int32) (u2.1, u2.2) d_Md_start_9 hP hD hS rfl hw
abbrev rm_Md_waitOf : Room := { frames := 0, cells := 0, slots := 0, locals := 0 }
set_option maxHeartbeats 4000000 in
set_option maxRecDepth 100000 in
theorem c_Md_waitOf (l : Launch) (D : va_G) (cI cS cZ : ClassId) (ad : Nat → Nat) (σ : Nat → Int32) (α : Nat → Nat → Int32) (x0 : Int32) (post : Int32 → gS → Prop) (hw : wp_Md_waitOf σ α x0 post) : gMi l y_Md_waitOf b_Md_waitOf 1 .int rm_Md_waitOf D (gT cI cS cZ) (fun u : gS => mW cI cS cZ ad u.1 u.2) [.int x0] (σ, α) post := by
  refine gMi.of (by decide) (Nat.le_of_ble_eq_true rfl) ?_
  intro p e s m below meth c Q A hx hb hml hown hts hK hN hA hS hP hD hret ls hl
  have hl : lv_has ls 1 [(0, .int x0)] := hl
  unfold wp_Md_waitOf at hw
  have hP : va_P D gCl (mW cI cS cZ ad σ α) s.heap := hP
  have hD : va_D A (mW cI cS cZ ad σ α) := hD
  obtain ⟨H, hH⟩ : ∃ H, H = s.heap := ⟨_, rfl⟩
  obtain ⟨locs, hlocs⟩ : ∃ locs : List Loc, locs = [] := ⟨_, rfl⟩
  have hP : va_P D gCl (mW cI cS cZ ad σ α) H := by rw [hH]; exact hP
  have hS : va_S A s.heap H locs := by rw [hH, hlocs]; exact hS
  suffices K : W p l e rm_Md_waitOf s m ([.int x0] : List Value).toArray below meth c H locs 0 0 Q (F0 m 0 ls []) by rw [hH, hlocs] at K; exact K
  clear hH hlocs
  refine lv_iload_n hx hb d_Md_waitOf_0 rfl (lv_at hl 0 rfl) ?_
  refine lv_bipush (v := 10) hx hb d_Md_waitOf_1 (by decide) ?_
  refine lv_ishr hx hb d_Md_waitOf_3 ?_
  refine lv_bipush (v := 31) hx hb d_Md_waitOf_4 (by decide) ?_
  refine lv_iand hx hb d_Md_waitOf_6 ?_
  exact hret H locs 7 ls ((x0 >>> ((10 : Int32) &&& 31)) &&& (31 : Int32)) (σ, α) d_Md_waitOf_7 hP hD hS (vp_nar_int _) hw
abbrev rm_Md_gapOf : Room := { frames := 1, cells := 0, slots := 0, locals := 20 }
set_option maxHeartbeats 4000000 in
set_option maxRecDepth 100000 in
theorem c_Md_gapOf (l : Launch) (D : va_G) (cI cS cZ : ClassId) (ad : Nat → Nat) (σ : Nat → Int32) (α : Nat → Nat → Int32) (x0 : Int32) (post : Int32 → gS → Prop) (hw : wp_Md_gapOf σ α x0 post) : gMi l y_Md_gapOf b_Md_gapOf 2 .int rm_Md_gapOf D (gT cI cS cZ) (fun u : gS => mW cI cS cZ ad u.1 u.2) [.int x0] (σ, α) post := by
  refine gMi.of (by decide) (Nat.le_of_ble_eq_true rfl) ?_
  intro p e s m below meth c Q A hx hb hml hown hts hK hN hA hS hP hD hret ls hl
  have hl : lv_has ls 2 [(0, .int x0)] := hl
  have J24 : ∀ (σ : Nat → Int32) (α : Nat → Nat → Int32) (t0 : Int32) (ls : Array Slot) (H : Heap) (locs : List Loc), lv_has ls 2 [] → va_P D gCl (mW cI cS cZ ad σ α) H → va_D A (mW cI cS cZ ad σ α) → va_S A s.heap H locs → wp_Md_gapOf_J24 σ α t0 post → W p l e rm_Md_gapOf s m ([.int x0] : List Value).toArray below meth c H locs 0 0 Q (F0 m 24 ls [.int t0]) := by
    intro σ α t0 ls H locs hl hP hD hS hw
    unfold wp_Md_gapOf_J24 at hw
    exact hret H locs 24 ls t0 (σ, α) d_Md_gapOf_24 hP hD hS (vp_nar_int _) hw
  unfold wp_Md_gapOf at hw
  have hP : va_P D gCl (mW cI cS cZ ad σ α) s.heap := hP
  have hD : va_D A (mW cI cS cZ ad σ α) := hD
  obtain ⟨H, hH⟩ : ∃ H, H = s.heap := ⟨_, rfl⟩
  obtain ⟨locs, hlocs⟩ : ∃ locs : List Loc, locs = [] := ⟨_, rfl⟩
  have hP : va_P D gCl (mW cI cS cZ ad σ α) H := by rw [hH]; exact hP
  have hS : va_S A s.heap H locs := by rw [hH, hlocs]; exact hS
  suffices K : W p l e rm_Md_gapOf s m ([.int x0] : List Value).toArray below meth c H locs 0 0 Q (F0 m 0 ls []) by rw [hH, hlocs] at K; exact K
  clear hH hlocs
  refine lv_iload_n hx hb d_Md_gapOf_0 rfl (lv_at hl 0 rfl) ?_
  refine lv_bipush (v := 15) hx hb d_Md_gapOf_1 (by decide) ?_
  refine lv_ishr hx hb d_Md_gapOf_3 ?_
  refine lv_bipush (v := 31) hx hb d_Md_gapOf_4 (by decide) ?_
  refine lv_iand hx hb d_Md_gapOf_6 ?_
  refine lv_istore_n hx hb d_Md_gapOf_7 rfl hl (by decide) rfl (fun ls hl => ?_)
  have hl : lv_has ls 2 [(1, .int ((x0 >>> ((15 : Int32) &&& 31)) &&& (31 : Int32))), (0, .int x0)] := hl
  refine lv_iload_n hx hb d_Md_gapOf_8 rfl (lv_at hl 0 rfl) ?_
  refine lv_iload_n hx hb d_Md_gapOf_9 rfl (lv_at hl 1 rfl) ?_
  refine gCallSi (As := [.int x0]) (rest := [.int ((x0 >>> ((15 : Int32) &&& 31)) &&& (31 : Int32))]) (c_Md_waitOf l D cI cS cZ ad  σ α x0 _ hw) hx hb hml hown hts hK hN hA hS hP hD (va_cwS 1 hts (gGS tw_712 tw_713 tw_11 tw_714) rfl rfl rfl ⟨by decide, by decide, by decide +kernel⟩ ⟨Nat.le_of_ble_eq_true rfl, Nat.le_of_ble_eq_true rfl⟩) rfl hl.1 rfl (Nat.le_of_ble_eq_true rfl) d_Md_gapOf_10 (fun r10 u10 H locs hw hP hD hS => ?_)
  have hP : va_P D gCl (mW cI cS cZ ad u10.1 u10.2) H := hP
  have hD : va_D A (mW cI cS cZ ad u10.1 u10.2) := hD
  refine lv_icmp_ge (tgt := 23) hx hb d_Md_gapOf_13 (by decide) (fun h => ?_) (fun h => ?_)
  · have hw := hw.1 h
    refine lv_iload_n hx hb d_Md_gapOf_23 rfl (lv_at hl 0 rfl) ?_
    exact J24 u10.1 u10.2 ((x0 >>> ((15 : Int32) &&& 31)) &&& (31 : Int32)) ls H locs (lv_sub hl [] rfl) hP hD hS hw
  · have hw := hw.2 h
    refine lv_iload_n hx hb d_Md_gapOf_16 rfl (lv_at hl 0 rfl) ?_
    refine lv_bipush (v := 32) hx hb d_Md_gapOf_17 (by decide) ?_
    refine lv_iadd hx hb d_Md_gapOf_19 ?_
    refine lv_goto (tgt := 24) hx hb d_Md_gapOf_20 (by decide) ?_
    exact J24 u10.1 u10.2 (((x0 >>> ((15 : Int32) &&& 31)) &&& (31 : Int32)) + (32 : Int32)) ls H locs (lv_sub hl [] rfl) hP hD hS hw
abbrev rm_Md_read_0 : Room := { frames := 2, cells := 0, slots := 0, locals := 41 }
set_option maxHeartbeats 4000000 in
set_option maxRecDepth 100000 in
theorem c_Md_read_0 (l : Launch) (D : va_G) (cI cS cZ : ClassId) (ad : Nat → Nat) (σ : Nat → Int32) (α : Nat → Nat → Int32) (post : gS → Prop) (hw : wp_Md_read_0 σ α post) : gMv l y_Md_read_0 b_Md_read_0 2 rm_Md_read_0 D (gT cI cS cZ) (fun u : gS => mW cI cS cZ ad u.1 u.2) [.ref (ad 0)] (σ, α) post := by
  refine gMv.of (by decide) (Nat.le_of_ble_eq_true rfl) ?_
  intro p e s m below meth c Q A hx hb hml hown hts hK hN hA hS hP hD hret ls hl
  have hl : lv_has ls 2 [(0, .ref (ad 0))] := hl
  have J143 : ∀ (σ : Nat → Int32) (α : Nat → Nat → Int32) (t0 : Int32) (ls : Array Slot) (H : Heap) (locs : List Loc), lv_has ls 2 [(0, .ref (ad 0))] → va_P D gCl (mW cI cS cZ ad σ α) H → va_D A (mW cI cS cZ ad σ α) → va_S A s.heap H locs → wp_Md_read_0_J143 σ α t0 post → W p l e rm_Md_read_0 s m ([.ref (ad 0)] : List Value).toArray below meth c H locs 0 0 Q (F0 m 143 ls [.int t0, .ref (ad 0)]) := by
    intro σ α t0 ls H locs hl hP hD hS hw
    unfold wp_Md_read_0_J143 at hw
    refine va_put (D := D) (ci := 9) (v := .int t0) (ty := .int) (C := R_Md) (T := T_Md) (N := 47) hx hb hts i_Md t_Md o_Md n_Md hown hK hP hD hS 0 rfl rfl 12 (by decide) (hts _ tw_546) (fun _ h9 => h9) rfl (by decide +kernel) rfl rfl (Nat.le_of_ble_eq_true rfl) d_Md_read_0_143 (fun H locs hP hD hS => ?_)
    have hP : va_P D gCl (mW cI cS cZ ad (va_up σ 10 t0) α) H := hP
    have hD : va_D A (mW cI cS cZ ad (va_up σ 10 t0) α) := hD
    refine lv_aload_n hx hb d_Md_read_0_146 rfl (lv_at hl 0 rfl) ?_
    refine lv_aload_n hx hb d_Md_read_0_147 rfl (lv_at hl 0 rfl) ?_
    refine va_get (D := D) (ci := 9) (v := .int (σ 0)) (C := R_Md) (T := T_Md) (N := 47) hx hb hts i_Md hown hK hP 0 rfl rfl 2 (by decide) (hts _ tw_536) (fun _ h9 => h9) rfl d_Md_read_0_148 ?_
    refine lv_iconst (v := 2) hx hb d_Md_read_0_151 (by decide) ?_
    refine lv_iadd hx hb d_Md_read_0_152 ?_
    refine lv_aload_n hx hb d_Md_read_0_153 rfl (lv_at hl 0 rfl) ?_
    refine va_get (D := D) (ci := 9) (v := .int (σ 8)) (C := R_Md) (T := T_Md) (N := 47) hx hb hts i_Md hown hK hP 0 rfl rfl 10 (by decide) (hts _ tw_544) (fun _ h9 => h9) rfl d_Md_read_0_154 ?_
    refine gCallSi (As := [.int (σ 8)]) (rest := [.int ((σ 0) + (2 : Int32)), .ref (ad 0)]) (c_Md_gapOf l D cI cS cZ ad  (va_up σ 10 t0) α (σ 8) _ hw) hx hb hml hown hts hK hN hA hS hP hD (va_cwS 1 hts (gGS tw_715 tw_716 tw_11 tw_717) rfl rfl rfl ⟨by decide, by decide, by decide +kernel⟩ ⟨Nat.le_of_ble_eq_true rfl, Nat.le_of_ble_eq_true rfl⟩) rfl hl.1 rfl (Nat.le_of_ble_eq_true rfl) d_Md_read_0_157 (fun r157 u157 H locs hw hP hD hS => ?_)
    have hP : va_P D gCl (mW cI cS cZ ad u157.1 u157.2) H := hP
    have hD : va_D A (mW cI cS cZ ad u157.1 u157.2) := hD
    refine lv_iadd hx hb d_Md_read_0_160 ?_
    refine va_put (D := D) (ci := 9) (v := .int (((σ 0) + (2 : Int32)) + r157)) (ty := .int) (C := R_Md) (T := T_Md) (N := 47) hx hb hts i_Md t_Md o_Md n_Md hown hK hP hD hS 0 rfl rfl 5 (by decide) (hts _ tw_539) (fun _ h9 => h9) rfl (by decide +kernel) rfl rfl (Nat.le_of_ble_eq_true rfl) d_Md_read_0_161 (fun H locs hP hD hS => ?_)
    have hP : va_P D gCl (mW cI cS cZ ad (va_up u157.1 3 (((σ 0) + (2 : Int32)) + r157)) u157.2) H := hP
    have hD : va_D A (mW cI cS cZ ad (va_up u157.1 3 (((σ 0) + (2 : Int32)) + r157)) u157.2) := hD
    refine lv_aload_n hx hb d_Md_read_0_164 rfl (lv_at hl 0 rfl) ?_
    refine lv_aload_n hx hb d_Md_read_0_165 rfl (lv_at hl 0 rfl) ?_
    refine va_get (D := D) (ci := 9) (v := .int (u157.1 8)) (C := R_Md) (T := T_Md) (N := 47) hx hb hts i_Md hown hK hP 0 rfl rfl 10 (by decide) (hts _ tw_544) (fun _ h9 => h9) rfl d_Md_read_0_166 ?_
    refine lv_bipush (v := 20) hx hb d_Md_read_0_169 (by decide) ?_
    refine lv_ishr hx hb d_Md_read_0_171 ?_
    refine va_put (D := D) (ci := 9) (v := .int ((u157.1 8) >>> ((20 : Int32) &&& 31))) (ty := .int) (C := R_Md) (T := T_Md) (N := 47) hx hb hts i_Md t_Md o_Md n_Md hown hK hP hD hS 0 rfl rfl 6 (by decide) (hts _ tw_540) (fun _ h9 => h9) rfl (by decide +kernel) rfl rfl (Nat.le_of_ble_eq_true rfl) d_Md_read_0_172 (fun H locs hP hD hS => ?_)
    have hP : va_P D gCl (mW cI cS cZ ad (va_up (va_up u157.1 3 (((σ 0) + (2 : Int32)) + r157)) 4 ((u157.1 8) >>> ((20 : Int32) &&& 31))) u157.2) H := hP
    have hD : va_D A (mW cI cS cZ ad (va_up (va_up u157.1 3 (((σ 0) + (2 : Int32)) + r157)) 4 ((u157.1 8) >>> ((20 : Int32) &&& 31))) u157.2) := hD
    refine lv_aload_n hx hb d_Md_read_0_175 rfl (lv_at hl 0 rfl) ?_
    refine lv_iconst (v := 0) hx hb d_Md_read_0_176 (by decide) ?_
    refine va_put (D := D) (ci := 9) (v := .int (0 : Int32)) (ty := .boolean) (C := R_Md) (T := T_Md) (N := 47) hx hb hts i_Md t_Md o_Md n_Md hown hK hP hD hS 0 rfl rfl 16 (by decide) (hts _ tw_550) (fun _ h9 => h9) rfl (by decide +kernel) rfl rfl (Nat.le_of_ble_eq_true rfl) d_Md_read_0_177 (fun H locs hP hD hS => ?_)
    have hP : va_P D gCl (mW cI cS cZ ad (va_up (va_up (va_up u157.1 3 (((σ 0) + (2 : Int32)) + r157)) 4 ((u157.1 8) >>> ((20 : Int32) &&& 31))) 14 (0 : Int32)) u157.2) H := hP
    have hD : va_D A (mW cI cS cZ ad (va_up (va_up (va_up u157.1 3 (((σ 0) + (2 : Int32)) + r157)) 4 ((u157.1 8) >>> ((20 : Int32) &&& 31))) 14 (0 : Int32)) u157.2) := hD
    exact hret H locs 180 ls ((va_up (va_up (va_up u157.1 3 (((σ 0) + (2 : Int32)) + r157)) 4 ((u157.1 8) >>> ((20 : Int32) &&& 31))) 14 (0 : Int32)), u157.2) d_Md_read_0_180 hP hD hS hw
  unfold wp_Md_read_0 at hw
  have hP : va_P D gCl (mW cI cS cZ ad σ α) s.heap := hP
  have hD : va_D A (mW cI cS cZ ad σ α) := hD
  obtain ⟨H, hH⟩ : ∃ H, H = s.heap := ⟨_, rfl⟩
  obtain ⟨locs, hlocs⟩ : ∃ locs : List Loc, locs = [] := ⟨_, rfl⟩
  have hP : va_P D gCl (mW cI cS cZ ad σ α) H := by rw [hH]; exact hP
  have hS : va_S A s.heap H locs := by rw [hH, hlocs]; exact hS
  suffices K : W p l e rm_Md_read_0 s m ([.ref (ad 0)] : List Value).toArray below meth c H locs 0 0 Q (F0 m 0 ls []) by rw [hH, hlocs] at K; exact K
  clear hH hlocs
  refine lv_aload_n hx hb d_Md_read_0_0 rfl (lv_at hl 0 rfl) ?_
  refine lv_aload_n hx hb d_Md_read_0_1 rfl (lv_at hl 0 rfl) ?_
  refine va_get (D := D) (ci := 9) (v := .int (σ 8)) (C := R_Md) (T := T_Md) (N := 47) hx hb hts i_Md hown hK hP 0 rfl rfl 10 (by decide) (hts _ tw_544) (fun _ h9 => h9) rfl d_Md_read_0_2 ?_
  refine va_put (D := D) (ci := 9) (v := .int (σ 8)) (ty := .int) (C := R_Md) (T := T_Md) (N := 47) hx hb hts i_Md t_Md o_Md n_Md hown hK hP hD hS 0 rfl rfl 13 (by decide) (hts _ tw_547) (fun _ h9 => h9) rfl (by decide +kernel) rfl rfl (Nat.le_of_ble_eq_true rfl) d_Md_read_0_5 (fun H locs hP hD hS => ?_)
  have hP : va_P D gCl (mW cI cS cZ ad (va_up σ 11 (σ 8)) α) H := hP
  have hD : va_D A (mW cI cS cZ ad (va_up σ 11 (σ 8)) α) := hD
  refine lv_aload_n hx hb d_Md_read_0_8 rfl (lv_at hl 0 rfl) ?_
  refine lv_aload_n hx hb d_Md_read_0_9 rfl (lv_at hl 0 rfl) ?_
  refine va_get (D := D) (ci := 9) (v := .int (σ 9)) (C := R_Md) (T := T_Md) (N := 47) hx hb hts i_Md hown hK hP 0 rfl rfl 11 (by decide) (hts _ tw_545) (fun _ h9 => h9) rfl d_Md_read_0_10 ?_
  refine va_put (D := D) (ci := 9) (v := .int (σ 9)) (ty := .int) (C := R_Md) (T := T_Md) (N := 47) hx hb hts i_Md t_Md o_Md n_Md hown hK hP hD hS 0 rfl rfl 14 (by decide) (hts _ tw_548) (fun _ h9 => h9) rfl (by decide +kernel) rfl rfl (Nat.le_of_ble_eq_true rfl) d_Md_read_0_13 (fun H locs hP hD hS => ?_)
  have hP : va_P D gCl (mW cI cS cZ ad (va_up (va_up σ 11 (σ 8)) 12 (σ 9)) α) H := hP
  have hD : va_D A (mW cI cS cZ ad (va_up (va_up σ 11 (σ 8)) 12 (σ 9)) α) := hD
  refine lv_aload_n hx hb d_Md_read_0_16 rfl (lv_at hl 0 rfl) ?_
  refine lv_aload_n hx hb d_Md_read_0_17 rfl (lv_at hl 0 rfl) ?_
  refine va_get (D := D) (ci := 9) (v := .int (σ 10)) (C := R_Md) (T := T_Md) (N := 47) hx hb hts i_Md hown hK hP 0 rfl rfl 12 (by decide) (hts _ tw_546) (fun _ h9 => h9) rfl d_Md_read_0_18 ?_
  refine va_put (D := D) (ci := 9) (v := .int (σ 10)) (ty := .int) (C := R_Md) (T := T_Md) (N := 47) hx hb hts i_Md t_Md o_Md n_Md hown hK hP hD hS 0 rfl rfl 15 (by decide) (hts _ tw_549) (fun _ h9 => h9) rfl (by decide +kernel) rfl rfl (Nat.le_of_ble_eq_true rfl) d_Md_read_0_21 (fun H locs hP hD hS => ?_)
  have hP : va_P D gCl (mW cI cS cZ ad (va_up (va_up (va_up σ 11 (σ 8)) 12 (σ 9)) 13 (σ 10)) α) H := hP
  have hD : va_D A (mW cI cS cZ ad (va_up (va_up (va_up σ 11 (σ 8)) 12 (σ 9)) 13 (σ 10)) α) := hD
  refine lv_aload_n hx hb d_Md_read_0_24 rfl (lv_at hl 0 rfl) ?_
  refine lv_aload_n hx hb d_Md_read_0_25 rfl (lv_at hl 0 rfl) ?_
  refine va_get (D := D) (ci := 9) (v := .int (σ 4)) (C := R_Md) (T := T_Md) (N := 47) hx hb hts i_Md hown hK hP 0 rfl rfl 6 (by decide) (hts _ tw_540) (fun _ h9 => h9) rfl d_Md_read_0_26 ?_
  refine va_put (D := D) (ci := 9) (v := .int (σ 4)) (ty := .int) (C := R_Md) (T := T_Md) (N := 47) hx hb hts i_Md t_Md o_Md n_Md hown hK hP hD hS 0 rfl rfl 7 (by decide) (hts _ tw_541) (fun _ h9 => h9) rfl (by decide +kernel) rfl rfl (Nat.le_of_ble_eq_true rfl) d_Md_read_0_29 (fun H locs hP hD hS => ?_)
  have hP : va_P D gCl (mW cI cS cZ ad (va_up (va_up (va_up (va_up σ 5 (σ 4)) 11 (σ 8)) 12 (σ 9)) 13 (σ 10)) α) H := hP
  have hD : va_D A (mW cI cS cZ ad (va_up (va_up (va_up (va_up σ 5 (σ 4)) 11 (σ 8)) 12 (σ 9)) 13 (σ 10)) α) := hD
  refine lv_aload_n hx hb d_Md_read_0_32 rfl (lv_at hl 0 rfl) ?_
  refine lv_aload_n hx hb d_Md_read_0_33 rfl (lv_at hl 0 rfl) ?_
  refine va_get (D := D) (ci := 9) (v := .int (σ 0)) (C := R_Md) (T := T_Md) (N := 47) hx hb hts i_Md hown hK hP 0 rfl rfl 2 (by decide) (hts _ tw_536) (fun _ h9 => h9) rfl d_Md_read_0_34 ?_
  refine lv_bipush (v := 32) hx hb d_Md_read_0_37 (by decide) ?_
  refine lv_irem hx hb d_Md_read_0_39 (by decide) ?_
  refine va_put (D := D) (ci := 9) (v := .int ((σ 0) - (σ 0) / (32 : Int32) * (32 : Int32))) (ty := .int) (C := R_Md) (T := T_Md) (N := 47) hx hb hts i_Md t_Md o_Md n_Md hown hK hP hD hS 0 rfl rfl 8 (by decide) (hts _ tw_542) (fun _ h9 => h9) rfl (by decide +kernel) rfl rfl (Nat.le_of_ble_eq_true rfl) d_Md_read_0_40 (fun H locs hP hD hS => ?_)
  have hP : va_P D gCl (mW cI cS cZ ad (va_up (va_up (va_up (va_up (va_up σ 5 (σ 4)) 6 ((σ 0) - (σ 0) / (32 : Int32) * (32 : Int32))) 11 (σ 8)) 12 (σ 9)) 13 (σ 10)) α) H := hP
  have hD : va_D A (mW cI cS cZ ad (va_up (va_up (va_up (va_up (va_up σ 5 (σ 4)) 6 ((σ 0) - (σ 0) / (32 : Int32) * (32 : Int32))) 11 (σ 8)) 12 (σ 9)) 13 (σ 10)) α) := hD
  refine lv_aload_n hx hb d_Md_read_0_43 rfl (lv_at hl 0 rfl) ?_
  refine lv_dup hx hb d_Md_read_0_44 rfl ?_
  refine va_get (D := D) (ci := 9) (v := .int (σ 7)) (C := R_Md) (T := T_Md) (N := 47) hx hb hts i_Md hown hK hP 0 rfl rfl 9 (by decide) (hts _ tw_543) (fun _ h9 => h9) rfl d_Md_read_0_45 ?_
  refine lv_iconst (v := 1) hx hb d_Md_read_0_48 (by decide) ?_
  refine lv_iadd hx hb d_Md_read_0_49 ?_
  refine va_put (D := D) (ci := 9) (v := .int ((σ 7) + (1 : Int32))) (ty := .int) (C := R_Md) (T := T_Md) (N := 47) hx hb hts i_Md t_Md o_Md n_Md hown hK hP hD hS 0 rfl rfl 9 (by decide) (hts _ tw_543) (fun _ h9 => h9) rfl (by decide +kernel) rfl rfl (Nat.le_of_ble_eq_true rfl) d_Md_read_0_50 (fun H locs hP hD hS => ?_)
  have hP : va_P D gCl (mW cI cS cZ ad (va_up (va_up (va_up (va_up (va_up (va_up σ 5 (σ 4)) 6 ((σ 0) - (σ 0) / (32 : Int32) * (32 : Int32))) 7 ((σ 7) + (1 : Int32))) 11 (σ 8)) 12 (σ 9)) 13 (σ 10)) α) H := hP
  have hD : va_D A (mW cI cS cZ ad (va_up (va_up (va_up (va_up (va_up (va_up σ 5 (σ 4)) 6 ((σ 0) - (σ 0) / (32 : Int32) * (32 : Int32))) 7 ((σ 7) + (1 : Int32))) 11 (σ 8)) 12 (σ 9)) 13 (σ 10)) α) := hD
  refine lv_aload_n hx hb d_Md_read_0_53 rfl (lv_at hl 0 rfl) ?_
  refine lv_aload_n hx hb d_Md_read_0_54 rfl (lv_at hl 0 rfl) ?_
  refine va_get (D := D) (ci := 9) (v := .ref (ad 1)) (C := R_Md) (T := T_Md) (N := 47) hx hb hts i_Md hown hK hP 0 rfl rfl 0 (by decide) (hts _ tw_534) (fun _ h9 => h9) rfl d_Md_read_0_55 ?_
  refine lv_bipush (v := 32) hx hb d_Md_read_0_58 (by decide) ?_
  refine lv_aload_n hx hb d_Md_read_0_60 rfl (lv_at hl 0 rfl) ?_
  refine va_get (D := D) (ci := 9) (v := .int (σ 4)) (C := R_Md) (T := T_Md) (N := 47) hx hb hts i_Md hown hK hP 0 rfl rfl 7 (by decide) (hts _ tw_541) (fun _ h9 => h9) rfl d_Md_read_0_61 ?_
  refine lv_imul hx hb d_Md_read_0_64 ?_
  refine lv_aload_n hx hb d_Md_read_0_65 rfl (lv_at hl 0 rfl) ?_
  refine va_get (D := D) (ci := 9) (v := .int ((σ 0) - (σ 0) / (32 : Int32) * (32 : Int32))) (C := R_Md) (T := T_Md) (N := 47) hx hb hts i_Md hown hK hP 0 rfl rfl 8 (by decide) (hts _ tw_542) (fun _ h9 => h9) rfl d_Md_read_0_66 ?_
  refine lv_iadd hx hb d_Md_read_0_69 ?_
  obtain ⟨hin, hw⟩ := hw
  refine va_iald (f := α 1) hx hb hK hP 1 0 rfl rfl hin d_Md_read_0_70 ?_
  refine va_put (D := D) (ci := 9) (v := .int (α 1 (((32 : Int32) * (σ 4)) + ((σ 0) - (σ 0) / (32 : Int32) * (32 : Int32))).toNatClampNeg)) (ty := .int) (C := R_Md) (T := T_Md) (N := 47) hx hb hts i_Md t_Md o_Md n_Md hown hK hP hD hS 0 rfl rfl 10 (by decide) (hts _ tw_544) (fun _ h9 => h9) rfl (by decide +kernel) rfl rfl (Nat.le_of_ble_eq_true rfl) d_Md_read_0_71 (fun H locs hP hD hS => ?_)
  have hP : va_P D gCl (mW cI cS cZ ad (va_up (va_up (va_up (va_up (va_up (va_up (va_up σ 5 (σ 4)) 6 ((σ 0) - (σ 0) / (32 : Int32) * (32 : Int32))) 7 ((σ 7) + (1 : Int32))) 8 (α 1 (((32 : Int32) * (σ 4)) + ((σ 0) - (σ 0) / (32 : Int32) * (32 : Int32))).toNatClampNeg)) 11 (σ 8)) 12 (σ 9)) 13 (σ 10)) α) H := hP
  have hD : va_D A (mW cI cS cZ ad (va_up (va_up (va_up (va_up (va_up (va_up (va_up σ 5 (σ 4)) 6 ((σ 0) - (σ 0) / (32 : Int32) * (32 : Int32))) 7 ((σ 7) + (1 : Int32))) 8 (α 1 (((32 : Int32) * (σ 4)) + ((σ 0) - (σ 0) / (32 : Int32) * (32 : Int32))).toNatClampNeg)) 11 (σ 8)) 12 (σ 9)) 13 (σ 10)) α) := hD
  refine lv_aload_n hx hb d_Md_read_0_74 rfl (lv_at hl 0 rfl) ?_
  refine va_get (D := D) (ci := 9) (v := .int (α 1 (((32 : Int32) * (σ 4)) + ((σ 0) - (σ 0) / (32 : Int32) * (32 : Int32))).toNatClampNeg)) (C := R_Md) (T := T_Md) (N := 47) hx hb hts i_Md hown hK hP 0 rfl rfl 10 (by decide) (hts _ tw_544) (fun _ h9 => h9) rfl d_Md_read_0_75 ?_
  refine lv_bipush (v := 8) hx hb d_Md_read_0_78 (by decide) ?_
  refine lv_ishr hx hb d_Md_read_0_80 ?_
  refine lv_iconst (v := 3) hx hb d_Md_read_0_81 (by decide) ?_
  refine lv_iand hx hb d_Md_read_0_82 ?_
  refine lv_istore_n hx hb d_Md_read_0_83 rfl hl (by decide) rfl (fun ls hl => ?_)
  have hl : lv_has ls 2 [(1, .int (((α 1 (((32 : Int32) * (σ 4)) + ((σ 0) - (σ 0) / (32 : Int32) * (32 : Int32))).toNatClampNeg) >>> ((8 : Int32) &&& 31)) &&& (3 : Int32))), (0, .ref (ad 0))] := hl
  refine lv_aload_n hx hb d_Md_read_0_84 rfl (lv_at hl 1 rfl) ?_
  refine lv_aload_n hx hb d_Md_read_0_85 rfl (lv_at hl 1 rfl) ?_
  refine va_get (D := D) (ci := 9) (v := .int (σ 0)) (C := R_Md) (T := T_Md) (N := 47) hx hb hts i_Md hown hK hP 0 rfl rfl 2 (by decide) (hts _ tw_536) (fun _ h9 => h9) rfl d_Md_read_0_86 ?_
  refine lv_iconst (v := 2) hx hb d_Md_read_0_89 (by decide) ?_
  refine lv_iadd hx hb d_Md_read_0_90 ?_
  refine lv_aload_n hx hb d_Md_read_0_91 rfl (lv_at hl 1 rfl) ?_
  refine va_get (D := D) (ci := 9) (v := .int (α 1 (((32 : Int32) * (σ 4)) + ((σ 0) - (σ 0) / (32 : Int32) * (32 : Int32))).toNatClampNeg)) (C := R_Md) (T := T_Md) (N := 47) hx hb hts i_Md hown hK hP 0 rfl rfl 10 (by decide) (hts _ tw_544) (fun _ h9 => h9) rfl d_Md_read_0_92 ?_
  refine gCallSi (As := [.int (α 1 (((32 : Int32) * (σ 4)) + ((σ 0) - (σ 0) / (32 : Int32) * (32 : Int32))).toNatClampNeg)]) (rest := [.int ((σ 0) + (2 : Int32)), .ref (ad 0)]) (c_Md_waitOf l D cI cS cZ ad  (va_up (va_up (va_up (va_up (va_up (va_up (va_up σ 5 (σ 4)) 6 ((σ 0) - (σ 0) / (32 : Int32) * (32 : Int32))) 7 ((σ 7) + (1 : Int32))) 8 (α 1 (((32 : Int32) * (σ 4)) + ((σ 0) - (σ 0) / (32 : Int32) * (32 : Int32))).toNatClampNeg)) 11 (σ 8)) 12 (σ 9)) 13 (σ 10)) α (α 1 (((32 : Int32) * (σ 4)) + ((σ 0) - (σ 0) / (32 : Int32) * (32 : Int32))).toNatClampNeg) _ hw) hx hb hml hown hts hK hN hA hS hP hD (va_cwS 1 hts (gGS tw_712 tw_713 tw_11 tw_714) rfl rfl rfl ⟨by decide, by decide, by decide +kernel⟩ ⟨Nat.le_of_ble_eq_true rfl, Nat.le_of_ble_eq_true rfl⟩) rfl hl.1 rfl (Nat.le_of_ble_eq_true rfl) d_Md_read_0_95 (fun r95 u95 H locs hw hP hD hS => ?_)
  have hP : va_P D gCl (mW cI cS cZ ad u95.1 u95.2) H := hP
  have hD : va_D A (mW cI cS cZ ad u95.1 u95.2) := hD
  refine lv_iadd hx hb d_Md_read_0_98 ?_
  refine va_put (D := D) (ci := 9) (v := .int (((σ 0) + (2 : Int32)) + r95)) (ty := .int) (C := R_Md) (T := T_Md) (N := 47) hx hb hts i_Md t_Md o_Md n_Md hown hK hP hD hS 0 rfl rfl 11 (by decide) (hts _ tw_545) (fun _ h9 => h9) rfl (by decide +kernel) rfl rfl (Nat.le_of_ble_eq_true rfl) d_Md_read_0_99 (fun H locs hP hD hS => ?_)
  have hP : va_P D gCl (mW cI cS cZ ad (va_up u95.1 9 (((σ 0) + (2 : Int32)) + r95)) u95.2) H := hP
  have hD : va_D A (mW cI cS cZ ad (va_up u95.1 9 (((σ 0) + (2 : Int32)) + r95)) u95.2) := hD
  refine lv_aload_n hx hb d_Md_read_0_102 rfl (lv_at hl 1 rfl) ?_
  refine lv_iload_n hx hb d_Md_read_0_103 rfl (lv_at hl 0 rfl) ?_
  refine lv_iconst (v := 1) hx hb d_Md_read_0_104 (by decide) ?_
  refine lv_icmp_ne (tgt := 117) hx hb d_Md_read_0_105 (by decide) (fun h => ?_) (fun h => ?_)
  · have hw := hw.1 h
    refine lv_iload_n hx hb d_Md_read_0_117 rfl (lv_at hl 0 rfl) ?_
    refine lv_iconst (v := 2) hx hb d_Md_read_0_118 (by decide) ?_
    refine lv_icmp_ne (tgt := 139) hx hb d_Md_read_0_119 (by decide) (fun h => ?_) (fun h => ?_)
    · have hw := hw.1 h
      refine lv_aload_n hx hb d_Md_read_0_139 rfl (lv_at hl 1 rfl) ?_
      refine va_get (D := D) (ci := 9) (v := .int (((σ 0) + (2 : Int32)) + r95)) (C := R_Md) (T := T_Md) (N := 47) hx hb hts i_Md hown hK hP 0 rfl rfl 11 (by decide) (hts _ tw_545) (fun _ h9 => h9) rfl d_Md_read_0_140 ?_
      exact J143 (va_up u95.1 9 (((σ 0) + (2 : Int32)) + r95)) u95.2 (((σ 0) + (2 : Int32)) + r95) ls H locs (lv_sub hl [1] rfl) hP hD hS hw
    · have hw := hw.2 h
      refine lv_aload_n hx hb d_Md_read_0_122 rfl (lv_at hl 1 rfl) ?_
      refine va_get (D := D) (ci := 9) (v := .int (u95.1 0)) (C := R_Md) (T := T_Md) (N := 47) hx hb hts i_Md hown hK hP 0 rfl rfl 2 (by decide) (hts _ tw_536) (fun _ h9 => h9) rfl d_Md_read_0_123 ?_
      refine lv_iconst (v := 2) hx hb d_Md_read_0_126 (by decide) ?_
      refine lv_iadd hx hb d_Md_read_0_127 ?_
      refine lv_aload_n hx hb d_Md_read_0_128 rfl (lv_at hl 1 rfl) ?_
      refine va_get (D := D) (ci := 9) (v := .int (u95.1 8)) (C := R_Md) (T := T_Md) (N := 47) hx hb hts i_Md hown hK hP 0 rfl rfl 10 (by decide) (hts _ tw_544) (fun _ h9 => h9) rfl d_Md_read_0_129 ?_
      refine gCallSi (As := [.int (u95.1 8)]) (rest := [.int ((u95.1 0) + (2 : Int32)), .ref (ad 0)]) (c_Md_gapOf l D cI cS cZ ad  (va_up u95.1 9 (((σ 0) + (2 : Int32)) + r95)) u95.2 (u95.1 8) _ hw) hx hb hml hown hts hK hN hA hS hP hD (va_cwS 1 hts (gGS tw_715 tw_716 tw_11 tw_717) rfl rfl rfl ⟨by decide, by decide, by decide +kernel⟩ ⟨Nat.le_of_ble_eq_true rfl, Nat.le_of_ble_eq_true rfl⟩) rfl hl.1 rfl (Nat.le_of_ble_eq_true rfl) d_Md_read_0_132 (fun r132 u132 H locs hw hP hD hS => ?_)
      have hP : va_P D gCl (mW cI cS cZ ad u132.1 u132.2) H := hP
      have hD : va_D A (mW cI cS cZ ad u132.1 u132.2) := hD
      refine lv_iadd hx hb d_Md_read_0_135 ?_
      refine lv_goto (tgt := 143) hx hb d_Md_read_0_136 (by decide) ?_
      exact J143 u132.1 u132.2 (((u95.1 0) + (2 : Int32)) + r132) ls H locs (lv_sub hl [1] rfl) hP hD hS hw
  · have hw := hw.2 h
    refine lv_aload_n hx hb d_Md_read_0_108 rfl (lv_at hl 1 rfl) ?_
    refine va_get (D := D) (ci := 9) (v := .int (((σ 0) + (2 : Int32)) + r95)) (C := R_Md) (T := T_Md) (N := 47) hx hb hts i_Md hown hK hP 0 rfl rfl 11 (by decide) (hts _ tw_545) (fun _ h9 => h9) rfl d_Md_read_0_109 ?_
    refine lv_iconst (v := 1) hx hb d_Md_read_0_112 (by decide) ?_
    refine lv_iadd hx hb d_Md_read_0_113 ?_
    refine lv_goto (tgt := 143) hx hb d_Md_read_0_114 (by decide) ?_
    exact J143 (va_up u95.1 9 (((σ 0) + (2 : Int32)) + r95)) u95.2 ((((σ 0) + (2 : Int32)) + r95) + (1 : Int32)) ls H locs (lv_sub hl [1] rfl) hP hD hS hw
abbrev rm_Md_row : Room := { frames := 0, cells := 0, slots := 0, locals := 0 }
set_option maxHeartbeats 4000000 in
set_option maxRecDepth 100000 in
theorem c_Md_row (l : Launch) (D : va_G) (cI cS cZ : ClassId) (ad : Nat → Nat) (σ : Nat → Int32) (α : Nat → Nat → Int32) (post : Int32 → gS → Prop) (hw : wp_Md_row σ α post) : gMi l y_Md_row b_Md_row 2 .int rm_Md_row D (gT cI cS cZ) (fun u : gS => mW cI cS cZ ad u.1 u.2) [.ref (ad 0)] (σ, α) post := by
  refine gMi.of (by decide) (Nat.le_of_ble_eq_true rfl) ?_
  intro p e s m below meth c Q A hx hb hml hown hts hK hN hA hS hP hD hret ls hl
  have hl : lv_has ls 2 [(0, .ref (ad 0))] := hl
  have J49 : ∀ (σ : Nat → Int32) (α : Nat → Nat → Int32) (t0 : Int32) (ls : Array Slot) (H : Heap) (locs : List Loc), lv_has ls 2 [] → va_P D gCl (mW cI cS cZ ad σ α) H → va_D A (mW cI cS cZ ad σ α) → va_S A s.heap H locs → wp_Md_row_J49 σ α t0 post → W p l e rm_Md_row s m ([.ref (ad 0)] : List Value).toArray below meth c H locs 0 0 Q (F0 m 49 ls [.int t0]) := by
    intro σ α t0 ls H locs hl hP hD hS hw
    unfold wp_Md_row_J49 at hw
    exact hret H locs 49 ls t0 (σ, α) d_Md_row_49 hP hD hS (vp_nar_int _) hw
  have J41 : ∀ (σ : Nat → Int32) (α : Nat → Nat → Int32) (ls : Array Slot) (H : Heap) (locs : List Loc), lv_has ls 2 [] → va_P D gCl (mW cI cS cZ ad σ α) H → va_D A (mW cI cS cZ ad σ α) → va_S A s.heap H locs → wp_Md_row_J41 σ α post → W p l e rm_Md_row s m ([.ref (ad 0)] : List Value).toArray below meth c H locs 0 0 Q (F0 m 41 ls []) := by
    intro σ α ls H locs hl hP hD hS hw
    unfold wp_Md_row_J41 at hw
    refine lv_iconst (v := (-1)) hx hb d_Md_row_41 (by decide) ?_
    refine lv_goto (tgt := 49) hx hb d_Md_row_42 (by decide) ?_
    exact J49 σ α (-1 : Int32) ls H locs (lv_sub hl [] rfl) hP hD hS hw
  unfold wp_Md_row at hw
  have hP : va_P D gCl (mW cI cS cZ ad σ α) s.heap := hP
  have hD : va_D A (mW cI cS cZ ad σ α) := hD
  obtain ⟨H, hH⟩ : ∃ H, H = s.heap := ⟨_, rfl⟩
  obtain ⟨locs, hlocs⟩ : ∃ locs : List Loc, locs = [] := ⟨_, rfl⟩
  have hP : va_P D gCl (mW cI cS cZ ad σ α) H := by rw [hH]; exact hP
  have hS : va_S A s.heap H locs := by rw [hH, hlocs]; exact hS
  suffices K : W p l e rm_Md_row s m ([.ref (ad 0)] : List Value).toArray below meth c H locs 0 0 Q (F0 m 0 ls []) by rw [hH, hlocs] at K; exact K
  clear hH hlocs
  refine lv_aload_n hx hb d_Md_row_0 rfl (lv_at hl 0 rfl) ?_
  refine va_get (D := D) (ci := 9) (v := .int (σ 0)) (C := R_Md) (T := T_Md) (N := 47) hx hb hts i_Md hown hK hP 0 rfl rfl 2 (by decide) (hts _ tw_536) (fun _ h9 => h9) rfl d_Md_row_1 ?_
  refine lv_aload_n hx hb d_Md_row_4 rfl (lv_at hl 0 rfl) ?_
  refine va_get (D := D) (ci := 9) (v := .int (σ 19)) (C := R_Md) (T := T_Md) (N := 47) hx hb hts i_Md hown hK hP 0 rfl rfl 23 (by decide) (hts _ tw_557) (fun _ h9 => h9) rfl d_Md_row_5 ?_
  refine lv_isub hx hb d_Md_row_8 ?_
  refine lv_bipush (v := 40) hx hb d_Md_row_9 (by decide) ?_
  refine lv_isub hx hb d_Md_row_11 ?_
  refine lv_istore_n hx hb d_Md_row_12 rfl hl (by decide) rfl (fun ls hl => ?_)
  have hl : lv_has ls 2 [(1, .int (((σ 0) - (σ 19)) - (40 : Int32))), (0, .ref (ad 0))] := hl
  refine lv_aload_n hx hb d_Md_row_13 rfl (lv_at hl 1 rfl) ?_
  refine va_get (D := D) (ci := 9) (v := .int (σ 19)) (C := R_Md) (T := T_Md) (N := 47) hx hb hts i_Md hown hK hP 0 rfl rfl 23 (by decide) (hts _ tw_557) (fun _ h9 => h9) rfl d_Md_row_14 ?_
  refine lv_if_lt (tgt := 41) hx hb d_Md_row_17 (by decide) (fun h => ?_) (fun h => ?_)
  · have hw := hw.1 h
    exact J41 σ α ls H locs (lv_sub hl [] rfl) hP hD hS hw
  · have hw := hw.2 h
    refine lv_iload_n hx hb d_Md_row_20 rfl (lv_at hl 0 rfl) ?_
    refine lv_if_lt (tgt := 41) hx hb d_Md_row_21 (by decide) (fun h => ?_) (fun h => ?_)
    · have hw := hw.1 h
      exact J41 σ α ls H locs (lv_sub hl [] rfl) hP hD hS hw
    · have hw := hw.2 h
      refine lv_iload_n hx hb d_Md_row_24 rfl (lv_at hl 0 rfl) ?_
      refine lv_bipush (v := 8) hx hb d_Md_row_25 (by decide) ?_
      refine lv_irem hx hb d_Md_row_27 (by decide) ?_
      refine lv_iconst (v := 2) hx hb d_Md_row_28 (by decide) ?_
      refine lv_icmp_gt (tgt := 41) hx hb d_Md_row_29 (by decide) (fun h => ?_) (fun h => ?_)
      · have hw := hw.1 h
        exact J41 σ α ls H locs (lv_sub hl [] rfl) hP hD hS hw
      · have hw := hw.2 h
        refine lv_iload_n hx hb d_Md_row_32 rfl (lv_at hl 0 rfl) ?_
        refine lv_bipush (v := 8) hx hb d_Md_row_33 (by decide) ?_
        refine lv_idiv hx hb d_Md_row_35 (by decide) ?_
        refine lv_bipush (v := 11) hx hb d_Md_row_36 (by decide) ?_
        refine lv_icmp_le (tgt := 45) hx hb d_Md_row_38 (by decide) (fun h => ?_) (fun h => ?_)
        · have hw := hw.1 h
          refine lv_iload_n hx hb d_Md_row_45 rfl (lv_at hl 0 rfl) ?_
          refine lv_bipush (v := 8) hx hb d_Md_row_46 (by decide) ?_
          refine lv_idiv hx hb d_Md_row_48 (by decide) ?_
          exact J49 σ α ((((σ 0) - (σ 19)) - (40 : Int32)) / (8 : Int32)) ls H locs (lv_sub hl [] rfl) hP hD hS hw
        · have hw := hw.2 h
          exact J41 σ α ls H locs (lv_sub hl [] rfl) hP hD hS hw
