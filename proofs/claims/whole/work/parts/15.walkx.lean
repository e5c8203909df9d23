abbrev rm_Pl_leadBranches : Room := { frames := 1, cells := 0, slots := 0, locals := 23 }
set_option maxHeartbeats 4000000 in
set_option maxRecDepth 100000 in
theorem c_Pl_leadBranches (l : Launch) (D : va_G) (cI cS cZ : ClassId) (ad : Nat → Nat) (wc wb : Nat) (kp tp : Nat → Nat) (σ : Nat → Int32) (α : Nat → Nat → Int32) (post : gS → Prop) (hw : wp_Pl_leadBranches σ α post) : gMv l y_Pl_leadBranches b_Pl_leadBranches 3 rm_Pl_leadBranches D (gT cI cS cZ) (fun u : gS => xW cI cS cZ ad wc wb kp tp u.1 u.2) [.ref (tp 0), .ref (ad 12)] (σ, α) post := by
  refine gMv.of (by decide) (Nat.le_of_ble_eq_true rfl) ?_
  intro p e s m below meth c Q A hx hb hml hown hts hK hN hA hS hP hD hret ls hl
  have hl : lv_has ls 3 [(0, .ref (tp 0)), (1, .ref (ad 12))] := hl
  have L2 : ∀ (σ : Nat → Int32) (α : Nat → Nat → Int32) (a2 : Int32) (ls : Array Slot) (H : Heap) (locs : List Loc), lv_has ls 3 [(0, .ref (tp 0)), (1, .ref (ad 12)), (2, .int a2)] → va_P D gCl (xW cI cS cZ ad wc wb kp tp σ α) H → va_D A (xW cI cS cZ ad wc wb kp tp σ α) → va_S A s.heap H locs → wp_Pl_leadBranches_L2 σ α a2 post → W p l e rm_Pl_leadBranches s m ([.ref (tp 0), .ref (ad 12)] : List Value).toArray below meth c H locs 0 0 Q (F0 m 2 ls []) := by
    intro σ α a2 ls H locs hl hP hD hS hw
    let XL2 : (Nat → Int32) → (Nat → Nat → Int32) → Int32 → Prop := fun σ α a2 => ∀ (ls : Array Slot) (H : Heap) (locs : List Loc), lv_has ls 3 [(0, .ref (tp 0)), (1, .ref (ad 12)), (2, .int a2)] → va_P D gCl (xW cI cS cZ ad wc wb kp tp σ α) H → va_D A (xW cI cS cZ ad wc wb kp tp σ α) → va_S A s.heap H locs → W p l e rm_Pl_leadBranches s m ([.ref (tp 0), .ref (ad 12)] : List Value).toArray below meth c H locs 0 0 Q (F0 m 2 ls [])
    have hX2 : ∀ (σ : Nat → Int32) (α : Nat → Nat → Int32) (a2 : Int32) (ls : Array Slot) (H : Heap) (locs : List Loc), lv_has ls 3 [(0, .ref (tp 0)), (1, .ref (ad 12)), (2, .int a2)] → va_P D gCl (xW cI cS cZ ad wc wb kp tp σ α) H → va_D A (xW cI cS cZ ad wc wb kp tp σ α) → va_S A s.heap H locs → XL2 σ α a2 → W p l e rm_Pl_leadBranches s m ([.ref (tp 0), .ref (ad 12)] : List Value).toArray below meth c H locs 0 0 Q (F0 m 2 ls []) := fun σ α a2 ls H locs hl hP hD hS hw => hw ls H locs hl hP hD hS
    refine hw XL2 ?_ ls H locs hl hP hD hS
    clear hw hl hP hD hS
    intro σ α a2 hw ls H locs hl hP hD hS
    unfold wp_Pl_leadBranches_B2 at hw
    have J41 : ∀ (σ : Nat → Int32) (α : Nat → Nat → Int32) (a2 : Int32) (ls : Array Slot) (H : Heap) (locs : List Loc), lv_has ls 3 [(0, .ref (tp 0)), (1, .ref (ad 12)), (2, .int a2)] → va_P D gCl (xW cI cS cZ ad wc wb kp tp σ α) H → va_D A (xW cI cS cZ ad wc wb kp tp σ α) → va_S A s.heap H locs → wp_Pl_leadBranches_J41 XL2 σ α a2 post → W p l e rm_Pl_leadBranches s m ([.ref (tp 0), .ref (ad 12)] : List Value).toArray below meth c H locs 0 0 Q (F0 m 41 ls []) := by
      intro σ α a2 ls H locs hl hP hD hS hw
      unfold wp_Pl_leadBranches_J41 at hw
      refine lv_iinc (k := 2) hx hb d_Pl_leadBranches_41 hl rfl rfl (by decide) rfl (fun ls hl => ?_)
      have hl : lv_has ls 3 [(2, .int (a2 + Int32.ofInt 1)), (0, .ref (tp 0)), (1, .ref (ad 12))] := hl
      refine lv_goto (tgt := 2) hx hb d_Pl_leadBranches_44 (by decide) ?_
      exact hX2 σ α (a2 + Int32.ofInt 1) ls H locs (lv_sub hl [1, 2, 0] rfl) hP hD hS hw
    refine lv_iload_n hx hb d_Pl_leadBranches_2 rfl (lv_at hl 2 rfl) ?_
    refine lv_aload_n hx hb d_Pl_leadBranches_3 rfl (lv_at hl 1 rfl) ?_
    refine va_getN (D := D) (ci := 7) (v := .int (σ 28)) (C := R_Pr) (T := T_Pr) (N := 6) hx hb hts i_Pr hown hK hP 12 rfl rfl 5 (by decide) (va_Nw.use rfl (hN _ tn_198)) (fun _ h9 => h9) rfl d_Pl_leadBranches_4 ?_
    refine lv_icmp_ge (tgt := 47) hx hb d_Pl_leadBranches_7 (by decide) (fun h => ?_) (fun h => ?_)
    · have hw := hw.1 h
      exact hret H locs 47 ls (σ, α) d_Pl_leadBranches_47 hP hD hS hw
    · have hw := hw.2 h
      refine lv_aload_n hx hb d_Pl_leadBranches_10 rfl (lv_at hl 0 rfl) ?_
      refine va_get (D := D) (ci := 8) (v := .ref (tp 5)) (C := R_Pl) (T := T_Pl) (N := 9) hx hb hts i_Pl hown hK hP 24 rfl rfl 4 (by decide) (hts _ tw_230) (fun _ h9 => h9) rfl d_Pl_leadBranches_11 ?_
      refine lv_iload_n hx hb d_Pl_leadBranches_14 rfl (lv_at hl 2 rfl) ?_
      obtain ⟨hin, hw⟩ := hw
      refine va_iald (f := α 29) hx hb hK hP 29 0 rfl rfl hin d_Pl_leadBranches_15 ?_
      refine lv_iconst (v := (-1)) hx hb d_Pl_leadBranches_16 (by decide) ?_
      refine lv_icmp_eq (tgt := 41) hx hb d_Pl_leadBranches_17 (by decide) (fun h => ?_) (fun h => ?_)
      · have hw := hw.1 h
        exact J41 σ α a2 ls H locs (lv_sub hl [0, 1, 2] rfl) hP hD hS hw
      · have hw := hw.2 h
        refine lv_aload_n hx hb d_Pl_leadBranches_20 rfl (lv_at hl 0 rfl) ?_
        refine lv_aload_n hx hb d_Pl_leadBranches_21 rfl (lv_at hl 0 rfl) ?_
        refine va_get (D := D) (ci := 8) (v := .ref (tp 5)) (C := R_Pl) (T := T_Pl) (N := 9) hx hb hts i_Pl hown hK hP 24 rfl rfl 4 (by decide) (hts _ tw_230) (fun _ h9 => h9) rfl d_Pl_leadBranches_22 ?_
        refine lv_iload_n hx hb d_Pl_leadBranches_25 rfl (lv_at hl 2 rfl) ?_
        obtain ⟨hin, hw⟩ := hw
        refine va_iald (f := α 29) hx hb hK hP 29 0 rfl rfl hin d_Pl_leadBranches_26 ?_
        refine lv_aload_n hx hb d_Pl_leadBranches_27 rfl (lv_at hl 0 rfl) ?_
        refine va_get (D := D) (ci := 8) (v := .ref (tp 4)) (C := R_Pl) (T := T_Pl) (N := 9) hx hb hts i_Pl hown hK hP 24 rfl rfl 3 (by decide) (hts _ tw_228) (fun _ h9 => h9) rfl d_Pl_leadBranches_28 ?_
        refine lv_aload_n hx hb d_Pl_leadBranches_31 rfl (lv_at hl 1 rfl) ?_
        refine va_getN (D := D) (ci := 7) (v := .ref (ad 17)) (C := R_Pr) (T := T_Pr) (N := 6) hx hb hts i_Pr hown hK hP 12 rfl rfl 4 (by decide) (va_Nw.use rfl (hN _ tn_197)) (fun _ h9 => h9) rfl d_Pl_leadBranches_32 ?_
        refine lv_iload_n hx hb d_Pl_leadBranches_35 rfl (lv_at hl 2 rfl) ?_
        obtain ⟨hin, hw⟩ := hw
        refine va_iald (f := α 17) hx hb hK hP 17 0 rfl rfl hin d_Pl_leadBranches_36 ?_
        obtain ⟨hin, hw⟩ := hw
        refine va_iald (f := α 28) hx hb hK hP 28 0 rfl rfl hin d_Pl_leadBranches_37 ?_
        refine gCallVv (b := tp 0) (As := [.int (α 29 a2.toNatClampNeg), .int (α 28 (α 17 a2.toNatClampNeg).toNatClampNeg)]) (rest := []) (c_Pl_lead l D cI cS cZ ad wc wb kp tp σ α (α 29 a2.toNatClampNeg) (α 28 (α 17 a2.toNatClampNeg).toNatClampNeg) _ hw) hx hb hml hown hts hK hN hA hS hP hD (cwV 2 hts (gGV tw_487 tw_489 ts_15 tw_9 tw_490) rfl rfl rfl ⟨rfl, by decide, by decide, by decide +kernel⟩ ⟨Nat.le_of_ble_eq_true rfl, Nat.le_of_ble_eq_true rfl⟩) (va_recv (ci := 8) (q0 := 24) hK hP rfl rfl) rfl hl.1 rfl (Nat.le_of_ble_eq_true rfl) d_Pl_leadBranches_38 (fun u38 H locs hw hP hD hS => ?_)
        have hP : va_P D gCl (xW cI cS cZ ad wc wb kp tp u38.1 u38.2) H := hP
        have hD : va_D A (xW cI cS cZ ad wc wb kp tp u38.1 u38.2) := hD
        exact J41 u38.1 u38.2 a2 ls H locs (lv_sub hl [0, 1, 2] rfl) hP hD hS hw
  unfold wp_Pl_leadBranches at hw
  have hP : va_P D gCl (xW cI cS cZ ad wc wb kp tp σ α) s.heap := hP
  have hD : va_D A (xW cI cS cZ ad wc wb kp tp σ α) := hD
  obtain ⟨H, hH⟩ : ∃ H, H = s.heap := ⟨_, rfl⟩
  obtain ⟨locs, hlocs⟩ : ∃ locs : List Loc, locs = [] := ⟨_, rfl⟩
  have hP : va_P D gCl (xW cI cS cZ ad wc wb kp tp σ α) H := by rw [hH]; exact hP
  have hS : va_S A s.heap H locs := by rw [hH, hlocs]; exact hS
  suffices K : W p l e rm_Pl_leadBranches s m ([.ref (tp 0), .ref (ad 12)] : List Value).toArray below meth c H locs 0 0 Q (F0 m 0 ls []) by rw [hH, hlocs] at K; exact K
  clear hH hlocs
  refine lv_iconst (v := 0) hx hb d_Pl_leadBranches_0 (by decide) ?_
  refine lv_istore_n hx hb d_Pl_leadBranches_1 rfl hl (by decide) rfl (fun ls hl => ?_)
  have hl : lv_has ls 3 [(2, .int (0 : Int32)), (0, .ref (tp 0)), (1, .ref (ad 12))] := hl
  exact L2 σ α (0 : Int32) ls H locs (lv_sub hl [1, 2, 0] rfl) hP hD hS hw
abbrev rm_Pl_fillWithStops : Room := { frames := 0, cells := 0, slots := 0, locals := 0 }
set_option maxHeartbeats 4000000 in
set_option maxRecDepth 100000 in
theorem c_Pl_fillWithStops (l : Launch) (D : va_G) (cI cS cZ : ClassId) (ad : Nat → Nat) (wc wb : Nat) (kp tp : Nat → Nat) (σ : Nat → Int32) (α : Nat → Nat → Int32) (post : gS → Prop) (hw : wp_Pl_fillWithStops σ α post) : gMv l y_Pl_fillWithStops b_Pl_fillWithStops 2 rm_Pl_fillWithStops D (gT cI cS cZ) (fun u : gS => xW cI cS cZ ad wc wb kp tp u.1 u.2) [.ref (tp 0)] (σ, α) post := by
  refine gMv.of (by decide) (Nat.le_of_ble_eq_true rfl) ?_
  intro p e s m below meth c Q A hx hb hml hown hts hK hN hA hS hP hD hret ls hl
  have hl : lv_has ls 2 [(0, .ref (tp 0))] := hl
  have L2 : ∀ (σ : Nat → Int32) (α : Nat → Nat → Int32) (a1 : Int32) (ls : Array Slot) (H : Heap) (locs : List Loc), lv_has ls 2 [(0, .ref (tp 0)), (1, .int a1)] → va_P D gCl (xW cI cS cZ ad wc wb kp tp σ α) H → va_D A (xW cI cS cZ ad wc wb kp tp σ α) → va_S A s.heap H locs → wp_Pl_fillWithStops_L2 σ α a1 post → W p l e rm_Pl_fillWithStops s m ([.ref (tp 0)] : List Value).toArray below meth c H locs 0 0 Q (F0 m 2 ls []) := by
    intro σ α a1 ls H locs hl hP hD hS hw
    let XL2 : (Nat → Int32) → (Nat → Nat → Int32) → Int32 → Prop := fun σ α a1 => ∀ (ls : Array Slot) (H : Heap) (locs : List Loc), lv_has ls 2 [(0, .ref (tp 0)), (1, .int a1)] → va_P D gCl (xW cI cS cZ ad wc wb kp tp σ α) H → va_D A (xW cI cS cZ ad wc wb kp tp σ α) → va_S A s.heap H locs → W p l e rm_Pl_fillWithStops s m ([.ref (tp 0)] : List Value).toArray below meth c H locs 0 0 Q (F0 m 2 ls [])
    have hX2 : ∀ (σ : Nat → Int32) (α : Nat → Nat → Int32) (a1 : Int32) (ls : Array Slot) (H : Heap) (locs : List Loc), lv_has ls 2 [(0, .ref (tp 0)), (1, .int a1)] → va_P D gCl (xW cI cS cZ ad wc wb kp tp σ α) H → va_D A (xW cI cS cZ ad wc wb kp tp σ α) → va_S A s.heap H locs → XL2 σ α a1 → W p l e rm_Pl_fillWithStops s m ([.ref (tp 0)] : List Value).toArray below meth c H locs 0 0 Q (F0 m 2 ls []) := fun σ α a1 ls H locs hl hP hD hS hw => hw ls H locs hl hP hD hS
    refine hw XL2 ?_ ls H locs hl hP hD hS
    clear hw hl hP hD hS
    intro σ α a1 hw ls H locs hl hP hD hS
    unfold wp_Pl_fillWithStops_B2 at hw
    have J26 : ∀ (σ : Nat → Int32) (α : Nat → Nat → Int32) (a1 : Int32) (ls : Array Slot) (H : Heap) (locs : List Loc), lv_has ls 2 [(0, .ref (tp 0)), (1, .int a1)] → va_P D gCl (xW cI cS cZ ad wc wb kp tp σ α) H → va_D A (xW cI cS cZ ad wc wb kp tp σ α) → va_S A s.heap H locs → wp_Pl_fillWithStops_J26 XL2 σ α a1 post → W p l e rm_Pl_fillWithStops s m ([.ref (tp 0)] : List Value).toArray below meth c H locs 0 0 Q (F0 m 26 ls []) := by
      intro σ α a1 ls H locs hl hP hD hS hw
      unfold wp_Pl_fillWithStops_J26 at hw
      refine lv_iinc (k := 1) hx hb d_Pl_fillWithStops_26 hl rfl rfl (by decide) rfl (fun ls hl => ?_)
      have hl : lv_has ls 2 [(1, .int (a1 + Int32.ofInt 1)), (0, .ref (tp 0))] := hl
      refine lv_goto (tgt := 2) hx hb d_Pl_fillWithStops_29 (by decide) ?_
      exact hX2 σ α (a1 + Int32.ofInt 1) ls H locs (lv_sub hl [1, 0] rfl) hP hD hS hw
    refine lv_iload_n hx hb d_Pl_fillWithStops_2 rfl (lv_at hl 1 rfl) ?_
    refine lv_bipush (v := 64) hx hb d_Pl_fillWithStops_3 (by decide) ?_
    refine lv_icmp_ge (tgt := 32) hx hb d_Pl_fillWithStops_5 (by decide) (fun h => ?_) (fun h => ?_)
    · have hw := hw.1 h
      exact hret H locs 32 ls (σ, α) d_Pl_fillWithStops_32 hP hD hS hw
    · have hw := hw.2 h
      refine lv_aload_n hx hb d_Pl_fillWithStops_8 rfl (lv_at hl 0 rfl) ?_
      refine va_get (D := D) (ci := 8) (v := .ref (tp 1)) (C := R_Pl) (T := T_Pl) (N := 9) hx hb hts i_Pl hown hK hP 24 rfl rfl 0 (by decide) (hts _ tw_223) (fun _ h9 => h9) rfl d_Pl_fillWithStops_9 ?_
      refine lv_iload_n hx hb d_Pl_fillWithStops_12 rfl (lv_at hl 1 rfl) ?_
      obtain ⟨hin, hw⟩ := hw
      refine va_iald (f := α 25) hx hb hK hP 25 0 rfl rfl hin d_Pl_fillWithStops_13 ?_
      refine lv_iconst (v := (-1)) hx hb d_Pl_fillWithStops_14 (by decide) ?_
      refine lv_icmp_ne (tgt := 26) hx hb d_Pl_fillWithStops_15 (by decide) (fun h => ?_) (fun h => ?_)
      · have hw := hw.1 h
        exact J26 σ α a1 ls H locs (lv_sub hl [0, 1] rfl) hP hD hS hw
      · have hw := hw.2 h
        refine lv_aload_n hx hb d_Pl_fillWithStops_18 rfl (lv_at hl 0 rfl) ?_
        refine va_get (D := D) (ci := 8) (v := .ref (tp 1)) (C := R_Pl) (T := T_Pl) (N := 9) hx hb hts i_Pl hown hK hP 24 rfl rfl 0 (by decide) (hts _ tw_223) (fun _ h9 => h9) rfl d_Pl_fillWithStops_19 ?_
        refine lv_iload_n hx hb d_Pl_fillWithStops_22 rfl (lv_at hl 1 rfl) ?_
        refine lv_ldc hx hb hown (hts _ tw_503) d_Pl_fillWithStops_23 ?_
        obtain ⟨hin, hw⟩ := hw
        refine va_iast (f := α 25) (i := a1) (x := (1015824 : Int32)) hx hb hK hP hD hS 25 0 rfl rfl hin d_Pl_fillWithStops_25 (fun H locs hP hD hS => ?_)
        rw [xW_s25] at hP hD
        have hP : va_P D gCl (xW cI cS cZ ad wc wb kp tp σ (va_up α 25 (upd (α 25) a1.toNatClampNeg (1015824 : Int32)))) H := hP
        have hD : va_D A (xW cI cS cZ ad wc wb kp tp σ (va_up α 25 (upd (α 25) a1.toNatClampNeg (1015824 : Int32)))) := hD
        exact J26 σ (va_up α 25 (upd (α 25) a1.toNatClampNeg (1015824 : Int32))) a1 ls H locs (lv_sub hl [0, 1] rfl) hP hD hS hw
  unfold wp_Pl_fillWithStops at hw
  have hP : va_P D gCl (xW cI cS cZ ad wc wb kp tp σ α) s.heap := hP
  have hD : va_D A (xW cI cS cZ ad wc wb kp tp σ α) := hD
  obtain ⟨H, hH⟩ : ∃ H, H = s.heap := ⟨_, rfl⟩
  obtain ⟨locs, hlocs⟩ : ∃ locs : List Loc, locs = [] := ⟨_, rfl⟩
  have hP : va_P D gCl (xW cI cS cZ ad wc wb kp tp σ α) H := by rw [hH]; exact hP
  have hS : va_S A s.heap H locs := by rw [hH, hlocs]; exact hS
  suffices K : W p l e rm_Pl_fillWithStops s m ([.ref (tp 0)] : List Value).toArray below meth c H locs 0 0 Q (F0 m 0 ls []) by rw [hH, hlocs] at K; exact K
  clear hH hlocs
  refine lv_iconst (v := 0) hx hb d_Pl_fillWithStops_0 (by decide) ?_
  refine lv_istore_n hx hb d_Pl_fillWithStops_1 rfl hl (by decide) rfl (fun ls hl => ?_)
  have hl : lv_has ls 2 [(1, .int (0 : Int32)), (0, .ref (tp 0))] := hl
  exact L2 σ α (0 : Int32) ls H locs (lv_sub hl [1, 0] rfl) hP hD hS hw
abbrev rm_Pl_placeAll : Room := { frames := 5, cells := 0, slots := 0, locals := 115 }
set_option maxHeartbeats 4000000 in
set_option maxRecDepth 100000 in
theorem c_Pl_placeAll (l : Launch) (D : va_G) (cI cS cZ : ClassId) (ad : Nat → Nat) (wc wb : Nat) (kp tp : Nat → Nat) (σ : Nat → Int32) (α : Nat → Nat → Int32) (post : Int32 → gS → Prop) (hw : wp_Pl_placeAll σ α post) : gMi l y_Pl_placeAll b_Pl_placeAll 3 .boolean rm_Pl_placeAll D (gT cI cS cZ) (fun u : gS => xW cI cS cZ ad wc wb kp tp u.1 u.2) [.ref (tp 0), .ref (ad 12)] (σ, α) post := by
  refine gMi.of (by decide) (Nat.le_of_ble_eq_true rfl) ?_
  intro p e s m below meth c Q A hx hb hml hown hts hK hN hA hS hP hD hret ls hl
  have hl : lv_has ls 3 [(0, .ref (tp 0)), (1, .ref (ad 12))] := hl
  have J63 : ∀ (σ : Nat → Int32) (α : Nat → Nat → Int32) (ls : Array Slot) (H : Heap) (locs : List Loc), lv_has ls 3 [(0, .ref (tp 0))] → va_P D gCl (xW cI cS cZ ad wc wb kp tp σ α) H → va_D A (xW cI cS cZ ad wc wb kp tp σ α) → va_S A s.heap H locs → wp_Pl_placeAll_J63 σ α post → W p l e rm_Pl_placeAll s m ([.ref (tp 0), .ref (ad 12)] : List Value).toArray below meth c H locs 0 0 Q (F0 m 63 ls []) := by
    intro σ α ls H locs hl hP hD hS hw
    unfold wp_Pl_placeAll_J63 at hw
    refine lv_aload_n hx hb d_Pl_placeAll_63 rfl (lv_at hl 0 rfl) ?_
    refine va_get (D := D) (ci := 8) (v := .int (σ 36)) (C := R_Pl) (T := T_Pl) (N := 9) hx hb hts i_Pl hown hK hP 24 rfl rfl 8 (by decide) (hts _ tw_235) (fun _ h9 => h9) rfl d_Pl_placeAll_64 ?_
    obtain ⟨hn, hw⟩ := hw
    exact hret H locs 67 ls (σ 36) (σ, α) d_Pl_placeAll_67 hP hD hS hn hw
  have J47 : ∀ (σ : Nat → Int32) (α : Nat → Nat → Int32) (ls : Array Slot) (H : Heap) (locs : List Loc), lv_has ls 3 [(0, .ref (tp 0)), (1, .ref (ad 12))] → va_P D gCl (xW cI cS cZ ad wc wb kp tp σ α) H → va_D A (xW cI cS cZ ad wc wb kp tp σ α) → va_S A s.heap H locs → wp_Pl_placeAll_J47 σ α post → W p l e rm_Pl_placeAll s m ([.ref (tp 0), .ref (ad 12)] : List Value).toArray below meth c H locs 0 0 Q (F0 m 47 ls []) := by
    intro σ α ls H locs hl hP hD hS hw
    unfold wp_Pl_placeAll_J47 at hw
    refine lv_aload_n hx hb d_Pl_placeAll_47 rfl (lv_at hl 0 rfl) ?_
    refine va_get (D := D) (ci := 8) (v := .int (σ 36)) (C := R_Pl) (T := T_Pl) (N := 9) hx hb hts i_Pl hown hK hP 24 rfl rfl 8 (by decide) (hts _ tw_235) (fun _ h9 => h9) rfl d_Pl_placeAll_48 ?_
    refine lv_if_eq (tgt := 63) hx hb d_Pl_placeAll_51 (by decide) (fun h => ?_) (fun h => ?_)
    · have hw := hw.1 h
      exact J63 σ α ls H locs (lv_sub hl [0] rfl) hP hD hS hw
    · have hw := hw.2 h
      refine lv_aload_n hx hb d_Pl_placeAll_54 rfl (lv_at hl 0 rfl) ?_
      refine lv_aload_n hx hb d_Pl_placeAll_55 rfl (lv_at hl 1 rfl) ?_
      refine gCallVv (b := tp 0) (As := [.ref (ad 12)]) (rest := []) (c_Pl_leadBranches l D cI cS cZ ad wc wb kp tp σ α _ hw) hx hb hml hown hts hK hN hA hS hP hD (cwV 1 hts (gGV tw_508 tw_510 ts_19 tw_9 tw_511) rfl rfl rfl ⟨rfl, by decide, by decide, by decide +kernel⟩ ⟨Nat.le_of_ble_eq_true rfl, Nat.le_of_ble_eq_true rfl⟩) (va_recv (ci := 8) (q0 := 24) hK hP rfl rfl) rfl hl.1 rfl (Nat.le_of_ble_eq_true rfl) d_Pl_placeAll_56 (fun u56 H locs hw hP hD hS => ?_)
      have hP : va_P D gCl (xW cI cS cZ ad wc wb kp tp u56.1 u56.2) H := hP
      have hD : va_D A (xW cI cS cZ ad wc wb kp tp u56.1 u56.2) := hD
      refine lv_aload_n hx hb d_Pl_placeAll_59 rfl (lv_at hl 0 rfl) ?_
      refine gCallVv (b := tp 0) (As := []) (rest := []) (c_Pl_fillWithStops l D cI cS cZ ad wc wb kp tp u56.1 u56.2 _ hw) hx hb hml hown hts hK hN hA hS hP hD (cwV 0 hts (gGV tw_512 tw_514 ts_20 tw_9 tw_515) rfl rfl rfl ⟨rfl, by decide, by decide, by decide +kernel⟩ ⟨Nat.le_of_ble_eq_true rfl, Nat.le_of_ble_eq_true rfl⟩) (va_recv (ci := 8) (q0 := 24) hK hP rfl rfl) rfl hl.1 rfl (Nat.le_of_ble_eq_true rfl) d_Pl_placeAll_60 (fun u60 H locs hw hP hD hS => ?_)
      have hP : va_P D gCl (xW cI cS cZ ad wc wb kp tp u60.1 u60.2) H := hP
      have hD : va_D A (xW cI cS cZ ad wc wb kp tp u60.1 u60.2) := hD
      exact J63 u60.1 u60.2 ls H locs (lv_sub hl [0] rfl) hP hD hS hw
  have L6 : ∀ (σ : Nat → Int32) (α : Nat → Nat → Int32) (a2 : Int32) (ls : Array Slot) (H : Heap) (locs : List Loc), lv_has ls 3 [(0, .ref (tp 0)), (1, .ref (ad 12)), (2, .int a2)] → va_P D gCl (xW cI cS cZ ad wc wb kp tp σ α) H → va_D A (xW cI cS cZ ad wc wb kp tp σ α) → va_S A s.heap H locs → wp_Pl_placeAll_L6 σ α a2 post → W p l e rm_Pl_placeAll s m ([.ref (tp 0), .ref (ad 12)] : List Value).toArray below meth c H locs 0 0 Q (F0 m 6 ls []) := by
    intro σ α a2 ls H locs hl hP hD hS hw
    let XL6 : (Nat → Int32) → (Nat → Nat → Int32) → Int32 → Prop := fun σ α a2 => ∀ (ls : Array Slot) (H : Heap) (locs : List Loc), lv_has ls 3 [(0, .ref (tp 0)), (1, .ref (ad 12)), (2, .int a2)] → va_P D gCl (xW cI cS cZ ad wc wb kp tp σ α) H → va_D A (xW cI cS cZ ad wc wb kp tp σ α) → va_S A s.heap H locs → W p l e rm_Pl_placeAll s m ([.ref (tp 0), .ref (ad 12)] : List Value).toArray below meth c H locs 0 0 Q (F0 m 6 ls [])
    have hX6 : ∀ (σ : Nat → Int32) (α : Nat → Nat → Int32) (a2 : Int32) (ls : Array Slot) (H : Heap) (locs : List Loc), lv_has ls 3 [(0, .ref (tp 0)), (1, .ref (ad 12)), (2, .int a2)] → va_P D gCl (xW cI cS cZ ad wc wb kp tp σ α) H → va_D A (xW cI cS cZ ad wc wb kp tp σ α) → va_S A s.heap H locs → XL6 σ α a2 → W p l e rm_Pl_placeAll s m ([.ref (tp 0), .ref (ad 12)] : List Value).toArray below meth c H locs 0 0 Q (F0 m 6 ls []) := fun σ α a2 ls H locs hl hP hD hS hw => hw ls H locs hl hP hD hS
    refine hw XL6 ?_ ls H locs hl hP hD hS
    clear hw hl hP hD hS
    intro σ α a2 hw ls H locs hl hP hD hS
    unfold wp_Pl_placeAll_B6 at hw
    refine lv_iload_n hx hb d_Pl_placeAll_6 rfl (lv_at hl 2 rfl) ?_
    refine lv_aload_n hx hb d_Pl_placeAll_7 rfl (lv_at hl 1 rfl) ?_
    refine va_getN (D := D) (ci := 7) (v := .int (σ 28)) (C := R_Pr) (T := T_Pr) (N := 6) hx hb hts i_Pr hown hK hP 12 rfl rfl 5 (by decide) (va_Nw.use rfl (hN _ tn_198)) (fun _ h9 => h9) rfl d_Pl_placeAll_8 ?_
    refine lv_icmp_ge (tgt := 36) hx hb d_Pl_placeAll_11 (by decide) (fun h => ?_) (fun h => ?_)
    · have hw := hw.1 h
      refine lv_aload_n hx hb d_Pl_placeAll_36 rfl (lv_at hl 1 rfl) ?_
      refine gCallVi (b := ad 12) (As := []) (rest := []) (c_Pr_endsWithHalt l D cI cS cZ ad wc wb kp tp σ α _ hw) hx hb hml hown hts hK hN hA hS hP hD (cwV 0 hts (gGV tw_504 tw_505 tw_506 tw_8 tw_507) rfl rfl rfl ⟨rfl, by decide, by decide, by decide +kernel⟩ ⟨Nat.le_of_ble_eq_true rfl, Nat.le_of_ble_eq_true rfl⟩) (va_recv (ci := 7) (q0 := 12) hK hP rfl rfl) rfl hl.1 rfl (Nat.le_of_ble_eq_true rfl) d_Pl_placeAll_37 (fun r37 u37 H locs hw hP hD hS => ?_)
      have hP : va_P D gCl (xW cI cS cZ ad wc wb kp tp u37.1 u37.2) H := hP
      have hD : va_D A (xW cI cS cZ ad wc wb kp tp u37.1 u37.2) := hD
      refine lv_if_ne (tgt := 47) hx hb d_Pl_placeAll_40 (by decide) (fun h => ?_) (fun h => ?_)
      · have hw := hw.1 h
        exact J47 u37.1 u37.2 ls H locs (lv_sub hl [0, 1] rfl) hP hD hS hw
      · have hw := hw.2 h
        refine lv_aload_n hx hb d_Pl_placeAll_43 rfl (lv_at hl 0 rfl) ?_
        refine gCallVv (b := tp 0) (As := []) (rest := []) (c_Pl_placeStop l D cI cS cZ ad wc wb kp tp u37.1 u37.2 _ hw) hx hb hml hown hts hK hN hA hS hP hD (cwV 0 hts (gGV tw_499 tw_501 ts_18 tw_9 tw_502) rfl rfl rfl ⟨rfl, by decide, by decide, by decide +kernel⟩ ⟨Nat.le_of_ble_eq_true rfl, Nat.le_of_ble_eq_true rfl⟩) (va_recv (ci := 8) (q0 := 24) hK hP rfl rfl) rfl hl.1 rfl (Nat.le_of_ble_eq_true rfl) d_Pl_placeAll_44 (fun u44 H locs hw hP hD hS => ?_)
        have hP : va_P D gCl (xW cI cS cZ ad wc wb kp tp u44.1 u44.2) H := hP
        have hD : va_D A (xW cI cS cZ ad wc wb kp tp u44.1 u44.2) := hD
        exact J47 u44.1 u44.2 ls H locs (lv_sub hl [0, 1] rfl) hP hD hS hw
    · have hw := hw.2 h
      refine lv_aload_n hx hb d_Pl_placeAll_14 rfl (lv_at hl 0 rfl) ?_
      refine va_get (D := D) (ci := 8) (v := .ref (tp 4)) (C := R_Pl) (T := T_Pl) (N := 9) hx hb hts i_Pl hown hK hP 24 rfl rfl 3 (by decide) (hts _ tw_228) (fun _ h9 => h9) rfl d_Pl_placeAll_15 ?_
      refine lv_iload_n hx hb d_Pl_placeAll_18 rfl (lv_at hl 2 rfl) ?_
      refine lv_aload_n hx hb d_Pl_placeAll_19 rfl (lv_at hl 0 rfl) ?_
      refine gCallVi (b := tp 0) (As := []) (rest := [.int a2, .ref (tp 4)]) (c_Pl_freeSpot l D cI cS cZ ad wc wb kp tp σ α _ hw) hx hb hml hown hts hK hN hA hS hP hD (cwV 0 hts (gGV tw_463 tw_465 ts_9 tw_9 tw_466) rfl rfl rfl ⟨rfl, by decide, by decide, by decide +kernel⟩ ⟨Nat.le_of_ble_eq_true rfl, Nat.le_of_ble_eq_true rfl⟩) (va_recv (ci := 8) (q0 := 24) hK hP rfl rfl) rfl hl.1 rfl (Nat.le_of_ble_eq_true rfl) d_Pl_placeAll_20 (fun r20 u20 H locs hw hP hD hS => ?_)
      have hP : va_P D gCl (xW cI cS cZ ad wc wb kp tp u20.1 u20.2) H := hP
      have hD : va_D A (xW cI cS cZ ad wc wb kp tp u20.1 u20.2) := hD
      obtain ⟨hin, hw⟩ := hw
      refine va_iast (f := u20.2 28) (i := a2) (x := r20) hx hb hK hP hD hS 28 0 rfl rfl hin d_Pl_placeAll_23 (fun H locs hP hD hS => ?_)
      rw [xW_s28] at hP hD
      have hP : va_P D gCl (xW cI cS cZ ad wc wb kp tp u20.1 (va_up u20.2 28 (upd (u20.2 28) a2.toNatClampNeg r20))) H := hP
      have hD : va_D A (xW cI cS cZ ad wc wb kp tp u20.1 (va_up u20.2 28 (upd (u20.2 28) a2.toNatClampNeg r20))) := hD
      refine lv_aload_n hx hb d_Pl_placeAll_24 rfl (lv_at hl 0 rfl) ?_
      refine lv_aload_n hx hb d_Pl_placeAll_25 rfl (lv_at hl 1 rfl) ?_
      refine lv_iload_n hx hb d_Pl_placeAll_26 rfl (lv_at hl 2 rfl) ?_
      refine gCallVv (b := tp 0) (As := [.ref (ad 12), .int a2]) (rest := []) (c_Pl_placeStatement l D cI cS cZ ad wc wb kp tp u20.1 (va_up u20.2 28 (upd (u20.2 28) a2.toNatClampNeg r20)) a2 _ hw) hx hb hml hown hts hK hN hA hS hP hD (cwV 2 hts (gGV tw_471 tw_473 ts_11 tw_9 tw_474) rfl rfl rfl ⟨rfl, by decide, by decide, by decide +kernel⟩ ⟨Nat.le_of_ble_eq_true rfl, Nat.le_of_ble_eq_true rfl⟩) (va_recv (ci := 8) (q0 := 24) hK hP rfl rfl) rfl hl.1 rfl (Nat.le_of_ble_eq_true rfl) d_Pl_placeAll_27 (fun u27 H locs hw hP hD hS => ?_)
      have hP : va_P D gCl (xW cI cS cZ ad wc wb kp tp u27.1 u27.2) H := hP
      have hD : va_D A (xW cI cS cZ ad wc wb kp tp u27.1 u27.2) := hD
      refine lv_iinc (k := 2) hx hb d_Pl_placeAll_30 hl rfl rfl (by decide) rfl (fun ls hl => ?_)
      have hl : lv_has ls 3 [(2, .int (a2 + Int32.ofInt 1)), (0, .ref (tp 0)), (1, .ref (ad 12))] := hl
      refine lv_goto (tgt := 6) hx hb d_Pl_placeAll_33 (by decide) ?_
      exact hX6 u27.1 u27.2 (a2 + Int32.ofInt 1) ls H locs (lv_sub hl [1, 2, 0] rfl) hP hD hS hw
  unfold wp_Pl_placeAll at hw
  have hP : va_P D gCl (xW cI cS cZ ad wc wb kp tp σ α) s.heap := hP
  have hD : va_D A (xW cI cS cZ ad wc wb kp tp σ α) := hD
  obtain ⟨H, hH⟩ : ∃ H, H = s.heap := ⟨_, rfl⟩
  obtain ⟨locs, hlocs⟩ : ∃ locs : List Loc, locs = [] := ⟨_, rfl⟩
  have hP : va_P D gCl (xW cI cS cZ ad wc wb kp tp σ α) H := by rw [hH]; exact hP
  have hS : va_S A s.heap H locs := by rw [hH, hlocs]; exact hS
  suffices K : W p l e rm_Pl_placeAll s m ([.ref (tp 0), .ref (ad 12)] : List Value).toArray below meth c H locs 0 0 Q (F0 m 0 ls []) by rw [hH, hlocs] at K; exact K
  clear hH hlocs
  refine lv_aload_n hx hb d_Pl_placeAll_0 rfl (lv_at hl 0 rfl) ?_
  refine gCallVv (b := tp 0) (As := []) (rest := []) (c_Pl_forget l D cI cS cZ ad wc wb kp tp σ α _ hw) hx hb hml hown hts hK hN hA hS hP hD (cwV 0 hts (gGV tw_459 tw_461 ts_8 tw_9 tw_462) rfl rfl rfl ⟨rfl, by decide, by decide, by decide +kernel⟩ ⟨Nat.le_of_ble_eq_true rfl, Nat.le_of_ble_eq_true rfl⟩) (va_recv (ci := 8) (q0 := 24) hK hP rfl rfl) rfl hl.1 rfl (Nat.le_of_ble_eq_true rfl) d_Pl_placeAll_1 (fun u1 H locs hw hP hD hS => ?_)
  have hP : va_P D gCl (xW cI cS cZ ad wc wb kp tp u1.1 u1.2) H := hP
  have hD : va_D A (xW cI cS cZ ad wc wb kp tp u1.1 u1.2) := hD
  refine lv_iconst (v := 0) hx hb d_Pl_placeAll_4 (by decide) ?_
  refine lv_istore_n hx hb d_Pl_placeAll_5 rfl hl (by decide) rfl (fun ls hl => ?_)
  have hl : lv_has ls 3 [(2, .int (0 : Int32)), (0, .ref (tp 0)), (1, .ref (ad 12))] := hl
  exact L6 u1.1 u1.2 (0 : Int32) ls H locs (lv_sub hl [1, 2, 0] rfl) hP hD hS hw
abbrev rm_Dm_assemble : Room := { frames := 6, cells := 0, slots := 0, locals := 137 }
set_option maxHeartbeats 4000000 in
set_option maxRecDepth 100000 in
theorem c_Dm_assemble (l : Launch) (D : va_G) (cI cS cZ : ClassId) (ad : Nat → Nat) (wc wb : Nat) (kp : Nat → Nat) (tp : Nat → Nat) (σ : Nat → Int32) (α : Nat → Nat → Int32) (post : Int32 → gSP → Prop) (hw : wp_Dm_assemble kp tp σ α post) : gMi l y_Dm_assemble b_Dm_assemble 2 .int rm_Dm_assemble D (gT cI cS cZ) (fun u : gSP => xW cI cS cZ ad wc wb u.1 u.2.1 u.2.2.1 u.2.2.2) [.ref (ad 0)] (kp, tp, σ, α) post := by
  refine gMi.of (by decide) (Nat.le_of_ble_eq_true rfl) ?_
  intro p e s m below meth c Q A hx hb hml hown hts hK hN hA hS hP hD hret ls hl
  have hl : lv_has ls 2 [(0, .ref (ad 0))] := hl
  have J30 : ∀ (kp : Nat → Nat) (tp : Nat → Nat) (σ : Nat → Int32) (α : Nat → Nat → Int32) (ls : Array Slot) (H : Heap) (locs : List Loc), lv_has ls 2 [] → va_P D gCl (xW cI cS cZ ad wc wb kp tp σ α) H → va_D A (xW cI cS cZ ad wc wb kp tp σ α) → va_S A s.heap H locs → wp_Dm_assemble_J30 kp tp σ α post → W p l e rm_Dm_assemble s m ([.ref (ad 0)] : List Value).toArray below meth c H locs 0 0 Q (F0 m 30 ls []) := by
    intro kp tp σ α ls H locs hl hP hD hS hw
    unfold wp_Dm_assemble_J30 at hw
    refine lv_iconst (v := (-1)) hx hb d_Dm_assemble_30 (by decide) ?_
    exact hret H locs 31 ls (-1 : Int32) (kp, tp, σ, α) d_Dm_assemble_31 hP hD hS (vp_nar_int _) hw
  unfold wp_Dm_assemble at hw
  have hP : va_P D gCl (xW cI cS cZ ad wc wb kp tp σ α) s.heap := hP
  have hD : va_D A (xW cI cS cZ ad wc wb kp tp σ α) := hD
  obtain ⟨H, hH⟩ : ∃ H, H = s.heap := ⟨_, rfl⟩
  obtain ⟨locs, hlocs⟩ : ∃ locs : List Loc, locs = [] := ⟨_, rfl⟩
  have hP : va_P D gCl (xW cI cS cZ ad wc wb kp tp σ α) H := by rw [hH]; exact hP
  have hS : va_S A s.heap H locs := by rw [hH, hlocs]; exact hS
  suffices K : W p l e rm_Dm_assemble s m ([.ref (ad 0)] : List Value).toArray below meth c H locs 0 0 Q (F0 m 0 ls []) by rw [hH, hlocs] at K; exact K
  clear hH hlocs
  refine lv_aload_n hx hb d_Dm_assemble_0 rfl (lv_at hl 0 rfl) ?_
  refine va_get (D := D) (ci := 0) (v := .ref (ad 8)) (C := R_Dm) (T := T_Dm) (N := 7) hx hb hts i_Dm hown hK hP 0 rfl rfl 3 (by decide) (hts _ tw_258) (fun _ h9 => h9) rfl d_Dm_assemble_1 ?_
  refine va_getN (D := D) (ci := 4) (v := .int (σ 7)) (C := R_Mc) (T := T_Mc) (N := 14) hx hb hts i_Mc hown hK hP 8 rfl rfl 6 (by decide) (va_Nw.use rfl (hN _ tn_140)) (fun _ h9 => h9) rfl d_Dm_assemble_4 ?_
  refine lv_if_ne (tgt := 30) hx hb d_Dm_assemble_7 (by decide) (fun h => ?_) (fun h => ?_)
  · have hw := hw.1 h
    exact J30 kp tp σ α ls H locs (lv_sub hl [] rfl) hP hD hS hw
  · have hw := hw.2 h
    refine lv_aload_n hx hb d_Dm_assemble_10 rfl (lv_at hl 0 rfl) ?_
    refine va_get (D := D) (ci := 0) (v := .ref (ad 12)) (C := R_Dm) (T := T_Dm) (N := 7) hx hb hts i_Dm hown hK hP 0 rfl rfl 4 (by decide) (hts _ tw_259) (fun _ h9 => h9) rfl d_Dm_assemble_11 ?_
    refine va_getN (D := D) (ci := 7) (v := .int (σ 28)) (C := R_Pr) (T := T_Pr) (N := 6) hx hb hts i_Pr hown hK hP 12 rfl rfl 5 (by decide) (va_Nw.use rfl (hN _ tn_200)) (fun _ h9 => h9) rfl d_Dm_assemble_14 ?_
    refine lv_if_eq (tgt := 30) hx hb d_Dm_assemble_17 (by decide) (fun h => ?_) (fun h => ?_)
    · have hw := hw.1 h
      exact J30 kp tp σ α ls H locs (lv_sub hl [] rfl) hP hD hS hw
    · have hw := hw.2 h
      refine lv_aload_n hx hb d_Dm_assemble_20 rfl (lv_at hl 0 rfl) ?_
      refine va_get (D := D) (ci := 0) (v := .ref (ad 12)) (C := R_Dm) (T := T_Dm) (N := 7) hx hb hts i_Dm hown hK hP 0 rfl rfl 4 (by decide) (hts _ tw_259) (fun _ h9 => h9) rfl d_Dm_assemble_21 ?_
      refine gCallVi (b := ad 12) (As := []) (rest := []) (c_Pr_allGotosLead l D cI cS cZ ad wc wb kp tp σ α _ hw) hx hb hml hown hts hK hN hA hS hP hD (cwV 0 hts (gGV tw_451 tw_452 tw_453 tw_8 tw_454) rfl rfl rfl ⟨rfl, by decide, by decide, by decide +kernel⟩ ⟨Nat.le_of_ble_eq_true rfl, Nat.le_of_ble_eq_true rfl⟩) (va_recv (ci := 7) (q0 := 12) hK hP rfl rfl) rfl hl.1 rfl (Nat.le_of_ble_eq_true rfl) d_Dm_assemble_24 (fun r24 u24 H locs hw hP hD hS => ?_)
      have hP : va_P D gCl (xW cI cS cZ ad wc wb kp tp u24.1 u24.2) H := hP
      have hD : va_D A (xW cI cS cZ ad wc wb kp tp u24.1 u24.2) := hD
      refine lv_if_ne (tgt := 32) hx hb d_Dm_assemble_27 (by decide) (fun h => ?_) (fun h => ?_)
      · have hw := hw.1 h
        refine lv_aload_n hx hb d_Dm_assemble_32 rfl (lv_at hl 0 rfl) ?_
        refine va_get (D := D) (ci := 0) (v := .ref (tp 0)) (C := R_Dm) (T := T_Dm) (N := 7) hx hb hts i_Dm hown hK hP 0 rfl rfl 6 (by decide) (hts _ tw_261) (fun _ h9 => h9) rfl d_Dm_assemble_33 ?_
        refine lv_aload_n hx hb d_Dm_assemble_36 rfl (lv_at hl 0 rfl) ?_
        refine va_get (D := D) (ci := 0) (v := .ref (ad 12)) (C := R_Dm) (T := T_Dm) (N := 7) hx hb hts i_Dm hown hK hP 0 rfl rfl 4 (by decide) (hts _ tw_259) (fun _ h9 => h9) rfl d_Dm_assemble_37 ?_
        refine gCallVi (b := tp 0) (As := [.ref (ad 12)]) (rest := []) (c_Pl_placeAll l D cI cS cZ ad wc wb kp tp u24.1 u24.2 _ hw) hx hb hml hown hts hK hN hA hS hP hD (cwV 1 hts (gGV tw_455 tw_456 tw_457 tw_9 tw_458) rfl rfl rfl ⟨rfl, by decide, by decide, by decide +kernel⟩ ⟨Nat.le_of_ble_eq_true rfl, Nat.le_of_ble_eq_true rfl⟩) (va_recv (ci := 8) (q0 := 24) hK hP rfl rfl) rfl hl.1 rfl (Nat.le_of_ble_eq_true rfl) d_Dm_assemble_40 (fun r40 u40 H locs hw hP hD hS => ?_)
        have hP : va_P D gCl (xW cI cS cZ ad wc wb kp tp u40.1 u40.2) H := hP
        have hD : va_D A (xW cI cS cZ ad wc wb kp tp u40.1 u40.2) := hD
        refine lv_if_ne (tgt := 48) hx hb d_Dm_assemble_43 (by decide) (fun h => ?_) (fun h => ?_)
        · have hw := hw.1 h
          refine lv_aload_n hx hb d_Dm_assemble_48 rfl (lv_at hl 0 rfl) ?_
          refine va_get (D := D) (ci := 0) (v := .ref (kp 0)) (C := R_Dm) (T := T_Dm) (N := 7) hx hb hts i_Dm hown hK hP 0 rfl rfl 5 (by decide) (hts _ tw_260) (fun _ h9 => h9) rfl d_Dm_assemble_49 ?_
          refine lv_astore_n hx hb d_Dm_assemble_52 rfl hl (by decide) rfl (fun ls hl => ?_)
          have hl : lv_has ls 2 [(1, .ref (kp 0)), (0, .ref (ad 0))] := hl
          refine lv_aload_n hx hb d_Dm_assemble_53 rfl (lv_at hl 1 rfl) ?_
          refine lv_aload_n hx hb d_Dm_assemble_54 rfl (lv_at hl 1 rfl) ?_
          refine va_get (D := D) (ci := 0) (v := .ref (tp 0)) (C := R_Dm) (T := T_Dm) (N := 7) hx hb hts i_Dm hown hK hP 0 rfl rfl 6 (by decide) (hts _ tw_261) (fun _ h9 => h9) rfl d_Dm_assemble_55 ?_
          refine va_put (D := D) (ci := 0) (v := .ref (tp 0)) (ty := .object "DelayMachine$Placing") (C := R_Dm) (T := T_Dm) (N := 7) hx hb hts i_Dm t_Dm o_Dm n_Dm hown hK hP hD hS 0 rfl rfl 5 (by decide) (hts _ tw_260) (fun _ h9 => h9) rfl (by decide +kernel) rfl rfl (Nat.le_of_ble_eq_true rfl) d_Dm_assemble_58 (fun H locs hP hD hS => ?_)
          have hP : va_P D gCl ([(ad 0, .inr (0, [.ref (ad 1), .ref (ad 4), .ref (ad 6), .ref (ad 8), .ref (ad 12), .ref (tp 0), .ref (tp 0)])), (ad 1, .inr (1, [.ref (ad 2), .ref (ad 3)])), (ad 2, .inl (cI, 64, .inl (u40.2 2))), (ad 3, .inl (cS, 132, .inl (u40.2 3))), (ad 4, .inr (2, [.ref (ad 5), .int (u40.1 0), .int (u40.1 1), .int (u40.1 2), .int (u40.1 3), .int (u40.1 4)])), (ad 5, .inl (cS, 48, .inl (u40.2 5))), (ad 6, .inr (3, [.ref (ad 7), .int (u40.1 5), .int (u40.1 6)])), (ad 7, .inl (cS, 60, .inl (u40.2 7))), (ad 8, .inr (4, [.ref (ad 1), .ref (ad 4), .ref (ad 6), .ref (ad 9), .ref (wc), .ref (wb), .int (u40.1 7), .int (u40.1 8), .int (u40.1 9), .int (u40.1 10), .int (u40.1 11), .int (u40.1 12), .int (u40.1 13), .int (u40.1 14)])), (ad 9, .inr (5, [.int (u40.1 15), .int (u40.1 16), .int (u40.1 17)])), (wc, .inr (6, [.int (u40.1 18), .int (u40.1 19), .int (u40.1 20), .int (u40.1 21), .int (u40.1 22)])), (wb, .inr (6, [.int (u40.1 23), .int (u40.1 24), .int (u40.1 25), .int (u40.1 26), .int (u40.1 27)])), (ad 12, .inr (7, [.ref (ad 13), .ref (ad 14), .ref (ad 15), .ref (ad 16), .ref (ad 17), .int (u40.1 28)])), (ad 13, .inl (cI, 12, .inl (u40.2 13))), (ad 14, .inl (cI, 12, .inl (u40.2 14))), (ad 15, .inl (cI, 12, .inl (u40.2 15))), (ad 16, .inl (cI, 12, .inl (u40.2 16))), (ad 17, .inl (cI, 12, .inl (u40.2 17))), (kp 0, .inr (8, [.ref (kp 1), .ref (kp 2), .ref (kp 3), .ref (kp 4), .ref (kp 5), .int (u40.1 29), .int (u40.1 30), .int (u40.1 31), .int (u40.1 32)])), (kp 1, .inl (cI, 64, .inl (u40.2 19))), (kp 2, .inl (cI, 32, .inl (u40.2 20))), (kp 3, .inl (cI, 16, .inl (u40.2 21))), (kp 4, .inl (cI, 12, .inl (u40.2 22))), (kp 5, .inl (cI, 12, .inl (u40.2 23))), (tp 0, .inr (8, [.ref (tp 1), .ref (tp 2), .ref (tp 3), .ref (tp 4), .ref (tp 5), .int (u40.1 33), .int (u40.1 34), .int (u40.1 35), .int (u40.1 36)])), (tp 1, .inl (cI, 64, .inl (u40.2 25))), (tp 2, .inl (cI, 32, .inl (u40.2 26))), (tp 3, .inl (cI, 16, .inl (u40.2 27))), (tp 4, .inl (cI, 12, .inl (u40.2 28))), (tp 5, .inl (cI, 12, .inl (u40.2 29)))] : va_W) H := hP
          have hD : va_D A ([(ad 0, .inr (0, [.ref (ad 1), .ref (ad 4), .ref (ad 6), .ref (ad 8), .ref (ad 12), .ref (tp 0), .ref (tp 0)])), (ad 1, .inr (1, [.ref (ad 2), .ref (ad 3)])), (ad 2, .inl (cI, 64, .inl (u40.2 2))), (ad 3, .inl (cS, 132, .inl (u40.2 3))), (ad 4, .inr (2, [.ref (ad 5), .int (u40.1 0), .int (u40.1 1), .int (u40.1 2), .int (u40.1 3), .int (u40.1 4)])), (ad 5, .inl (cS, 48, .inl (u40.2 5))), (ad 6, .inr (3, [.ref (ad 7), .int (u40.1 5), .int (u40.1 6)])), (ad 7, .inl (cS, 60, .inl (u40.2 7))), (ad 8, .inr (4, [.ref (ad 1), .ref (ad 4), .ref (ad 6), .ref (ad 9), .ref (wc), .ref (wb), .int (u40.1 7), .int (u40.1 8), .int (u40.1 9), .int (u40.1 10), .int (u40.1 11), .int (u40.1 12), .int (u40.1 13), .int (u40.1 14)])), (ad 9, .inr (5, [.int (u40.1 15), .int (u40.1 16), .int (u40.1 17)])), (wc, .inr (6, [.int (u40.1 18), .int (u40.1 19), .int (u40.1 20), .int (u40.1 21), .int (u40.1 22)])), (wb, .inr (6, [.int (u40.1 23), .int (u40.1 24), .int (u40.1 25), .int (u40.1 26), .int (u40.1 27)])), (ad 12, .inr (7, [.ref (ad 13), .ref (ad 14), .ref (ad 15), .ref (ad 16), .ref (ad 17), .int (u40.1 28)])), (ad 13, .inl (cI, 12, .inl (u40.2 13))), (ad 14, .inl (cI, 12, .inl (u40.2 14))), (ad 15, .inl (cI, 12, .inl (u40.2 15))), (ad 16, .inl (cI, 12, .inl (u40.2 16))), (ad 17, .inl (cI, 12, .inl (u40.2 17))), (kp 0, .inr (8, [.ref (kp 1), .ref (kp 2), .ref (kp 3), .ref (kp 4), .ref (kp 5), .int (u40.1 29), .int (u40.1 30), .int (u40.1 31), .int (u40.1 32)])), (kp 1, .inl (cI, 64, .inl (u40.2 19))), (kp 2, .inl (cI, 32, .inl (u40.2 20))), (kp 3, .inl (cI, 16, .inl (u40.2 21))), (kp 4, .inl (cI, 12, .inl (u40.2 22))), (kp 5, .inl (cI, 12, .inl (u40.2 23))), (tp 0, .inr (8, [.ref (tp 1), .ref (tp 2), .ref (tp 3), .ref (tp 4), .ref (tp 5), .int (u40.1 33), .int (u40.1 34), .int (u40.1 35), .int (u40.1 36)])), (tp 1, .inl (cI, 64, .inl (u40.2 25))), (tp 2, .inl (cI, 32, .inl (u40.2 26))), (tp 3, .inl (cI, 16, .inl (u40.2 27))), (tp 4, .inl (cI, 12, .inl (u40.2 28))), (tp 5, .inl (cI, 12, .inl (u40.2 29)))] : va_W) := hD
          refine lv_aload_n hx hb d_Dm_assemble_61 rfl (lv_at hl 1 rfl) ?_
          refine lv_aload_n hx hb d_Dm_assemble_62 rfl (lv_at hl 0 rfl) ?_
          refine va_put (D := D) (ci := 0) (v := .ref (kp 0)) (ty := .object "DelayMachine$Placing") (C := R_Dm) (T := T_Dm) (N := 7) hx hb hts i_Dm t_Dm o_Dm n_Dm hown hK hP hD hS 0 rfl rfl 6 (by decide) (hts _ tw_261) (fun _ h9 => h9) rfl (by decide +kernel) rfl rfl (Nat.le_of_ble_eq_true rfl) d_Dm_assemble_63 (fun H locs hP hD hS => ?_)
          have hP : va_P D gCl ([(ad 0, .inr (0, [.ref (ad 1), .ref (ad 4), .ref (ad 6), .ref (ad 8), .ref (ad 12), .ref (tp 0), .ref (kp 0)])), (ad 1, .inr (1, [.ref (ad 2), .ref (ad 3)])), (ad 2, .inl (cI, 64, .inl (u40.2 2))), (ad 3, .inl (cS, 132, .inl (u40.2 3))), (ad 4, .inr (2, [.ref (ad 5), .int (u40.1 0), .int (u40.1 1), .int (u40.1 2), .int (u40.1 3), .int (u40.1 4)])), (ad 5, .inl (cS, 48, .inl (u40.2 5))), (ad 6, .inr (3, [.ref (ad 7), .int (u40.1 5), .int (u40.1 6)])), (ad 7, .inl (cS, 60, .inl (u40.2 7))), (ad 8, .inr (4, [.ref (ad 1), .ref (ad 4), .ref (ad 6), .ref (ad 9), .ref (wc), .ref (wb), .int (u40.1 7), .int (u40.1 8), .int (u40.1 9), .int (u40.1 10), .int (u40.1 11), .int (u40.1 12), .int (u40.1 13), .int (u40.1 14)])), (ad 9, .inr (5, [.int (u40.1 15), .int (u40.1 16), .int (u40.1 17)])), (wc, .inr (6, [.int (u40.1 18), .int (u40.1 19), .int (u40.1 20), .int (u40.1 21), .int (u40.1 22)])), (wb, .inr (6, [.int (u40.1 23), .int (u40.1 24), .int (u40.1 25), .int (u40.1 26), .int (u40.1 27)])), (ad 12, .inr (7, [.ref (ad 13), .ref (ad 14), .ref (ad 15), .ref (ad 16), .ref (ad 17), .int (u40.1 28)])), (ad 13, .inl (cI, 12, .inl (u40.2 13))), (ad 14, .inl (cI, 12, .inl (u40.2 14))), (ad 15, .inl (cI, 12, .inl (u40.2 15))), (ad 16, .inl (cI, 12, .inl (u40.2 16))), (ad 17, .inl (cI, 12, .inl (u40.2 17))), (kp 0, .inr (8, [.ref (kp 1), .ref (kp 2), .ref (kp 3), .ref (kp 4), .ref (kp 5), .int (u40.1 29), .int (u40.1 30), .int (u40.1 31), .int (u40.1 32)])), (kp 1, .inl (cI, 64, .inl (u40.2 19))), (kp 2, .inl (cI, 32, .inl (u40.2 20))), (kp 3, .inl (cI, 16, .inl (u40.2 21))), (kp 4, .inl (cI, 12, .inl (u40.2 22))), (kp 5, .inl (cI, 12, .inl (u40.2 23))), (tp 0, .inr (8, [.ref (tp 1), .ref (tp 2), .ref (tp 3), .ref (tp 4), .ref (tp 5), .int (u40.1 33), .int (u40.1 34), .int (u40.1 35), .int (u40.1 36)])), (tp 1, .inl (cI, 64, .inl (u40.2 25))), (tp 2, .inl (cI, 32, .inl (u40.2 26))), (tp 3, .inl (cI, 16, .inl (u40.2 27))), (tp 4, .inl (cI, 12, .inl (u40.2 28))), (tp 5, .inl (cI, 12, .inl (u40.2 29)))] : va_W) H := hP
          have hD : va_D A ([(ad 0, .inr (0, [.ref (ad 1), .ref (ad 4), .ref (ad 6), .ref (ad 8), .ref (ad 12), .ref (tp 0), .ref (kp 0)])), (ad 1, .inr (1, [.ref (ad 2), .ref (ad 3)])), (ad 2, .inl (cI, 64, .inl (u40.2 2))), (ad 3, .inl (cS, 132, .inl (u40.2 3))), (ad 4, .inr (2, [.ref (ad 5), .int (u40.1 0), .int (u40.1 1), .int (u40.1 2), .int (u40.1 3), .int (u40.1 4)])), (ad 5, .inl (cS, 48, .inl (u40.2 5))), (ad 6, .inr (3, [.ref (ad 7), .int (u40.1 5), .int (u40.1 6)])), (ad 7, .inl (cS, 60, .inl (u40.2 7))), (ad 8, .inr (4, [.ref (ad 1), .ref (ad 4), .ref (ad 6), .ref (ad 9), .ref (wc), .ref (wb), .int (u40.1 7), .int (u40.1 8), .int (u40.1 9), .int (u40.1 10), .int (u40.1 11), .int (u40.1 12), .int (u40.1 13), .int (u40.1 14)])), (ad 9, .inr (5, [.int (u40.1 15), .int (u40.1 16), .int (u40.1 17)])), (wc, .inr (6, [.int (u40.1 18), .int (u40.1 19), .int (u40.1 20), .int (u40.1 21), .int (u40.1 22)])), (wb, .inr (6, [.int (u40.1 23), .int (u40.1 24), .int (u40.1 25), .int (u40.1 26), .int (u40.1 27)])), (ad 12, .inr (7, [.ref (ad 13), .ref (ad 14), .ref (ad 15), .ref (ad 16), .ref (ad 17), .int (u40.1 28)])), (ad 13, .inl (cI, 12, .inl (u40.2 13))), (ad 14, .inl (cI, 12, .inl (u40.2 14))), (ad 15, .inl (cI, 12, .inl (u40.2 15))), (ad 16, .inl (cI, 12, .inl (u40.2 16))), (ad 17, .inl (cI, 12, .inl (u40.2 17))), (kp 0, .inr (8, [.ref (kp 1), .ref (kp 2), .ref (kp 3), .ref (kp 4), .ref (kp 5), .int (u40.1 29), .int (u40.1 30), .int (u40.1 31), .int (u40.1 32)])), (kp 1, .inl (cI, 64, .inl (u40.2 19))), (kp 2, .inl (cI, 32, .inl (u40.2 20))), (kp 3, .inl (cI, 16, .inl (u40.2 21))), (kp 4, .inl (cI, 12, .inl (u40.2 22))), (kp 5, .inl (cI, 12, .inl (u40.2 23))), (tp 0, .inr (8, [.ref (tp 1), .ref (tp 2), .ref (tp 3), .ref (tp 4), .ref (tp 5), .int (u40.1 33), .int (u40.1 34), .int (u40.1 35), .int (u40.1 36)])), (tp 1, .inl (cI, 64, .inl (u40.2 25))), (tp 2, .inl (cI, 32, .inl (u40.2 26))), (tp 3, .inl (cI, 16, .inl (u40.2 27))), (tp 4, .inl (cI, 12, .inl (u40.2 28))), (tp 5, .inl (cI, 12, .inl (u40.2 29)))] : va_W) := hD
          have hP := hP.sub (ws' := (xW cI cS cZ ad wc wb tp kp (va_up (va_up (va_up (va_up (va_up (va_up (va_up (va_up u40.1 29 (u40.1 33)) 30 (u40.1 34)) 31 (u40.1 35)) 32 (u40.1 36)) 33 (u40.1 29)) 34 (u40.1 30)) 35 (u40.1 31)) 36 (u40.1 32)) (va_up (va_up (va_up (va_up (va_up (va_up (va_up (va_up (va_up (va_up u40.2 19 (u40.2 25)) 20 (u40.2 26)) 21 (u40.2 27)) 22 (u40.2 28)) 23 (u40.2 29)) 25 (u40.2 19)) 26 (u40.2 20)) 27 (u40.2 21)) 28 (u40.2 22)) 29 (u40.2 23)))) [0, 1, 2, 3, 4, 5, 6, 7, 8, 9, 10, 11, 12, 13, 14, 15, 16, 17, 24, 25, 26, 27, 28, 29, 18, 19, 20, 21, 22, 23] rfl
          have hD := hD.sub (ws' := (xW cI cS cZ ad wc wb tp kp (va_up (va_up (va_up (va_up (va_up (va_up (va_up (va_up u40.1 29 (u40.1 33)) 30 (u40.1 34)) 31 (u40.1 35)) 32 (u40.1 36)) 33 (u40.1 29)) 34 (u40.1 30)) 35 (u40.1 31)) 36 (u40.1 32)) (va_up (va_up (va_up (va_up (va_up (va_up (va_up (va_up (va_up (va_up u40.2 19 (u40.2 25)) 20 (u40.2 26)) 21 (u40.2 27)) 22 (u40.2 28)) 23 (u40.2 29)) 25 (u40.2 19)) 26 (u40.2 20)) 27 (u40.2 21)) 28 (u40.2 22)) 29 (u40.2 23)))) [0, 1, 2, 3, 4, 5, 6, 7, 8, 9, 10, 11, 12, 13, 14, 15, 16, 17, 24, 25, 26, 27, 28, 29, 18, 19, 20, 21, 22, 23] (by decide) rfl
          refine lv_aload_n hx hb d_Dm_assemble_66 rfl (lv_at hl 1 rfl) ?_
          refine va_get (D := D) (ci := 0) (v := .ref (tp 0)) (C := R_Dm) (T := T_Dm) (N := 7) hx hb hts i_Dm hown hK hP 0 rfl rfl 5 (by decide) (hts _ tw_260) (fun _ h9 => h9) rfl d_Dm_assemble_67 ?_
          refine va_getN (D := D) (ci := 8) (v := .ref (tp 1)) (C := R_Pl) (T := T_Pl) (N := 9) hx hb hts i_Pl hown hK hP 18 rfl rfl 0 (by decide) (va_Nw.use rfl (hN _ tn_224)) (fun _ h9 => h9) rfl d_Dm_assemble_70 ?_
          refine lv_iconst (v := 0) hx hb d_Dm_assemble_73 (by decide) ?_
          refine lv_aload_n hx hb d_Dm_assemble_74 rfl (lv_at hl 1 rfl) ?_
          refine va_get (D := D) (ci := 0) (v := .ref (ad 1)) (C := R_Dm) (T := T_Dm) (N := 7) hx hb hts i_Dm hown hK hP 0 rfl rfl 0 (by decide) (hts _ tw_255) (fun _ h9 => h9) rfl d_Dm_assemble_75 ?_
          refine va_getN (D := D) (ci := 1) (v := .ref (ad 2)) (C := R_St) (T := T_St) (N := 2) hx hb hts i_St hown hK hP 1 rfl rfl 0 (by decide) (va_Nw.use rfl (hN _ tn_28)) (fun _ h9 => h9) rfl d_Dm_assemble_78 ?_
          refine lv_iconst (v := 0) hx hb d_Dm_assemble_81 (by decide) ?_
          refine lv_bipush (v := 64) hx hb d_Dm_assemble_82 (by decide) ?_
          refine va_copyi (ty := .int) (f := u40.2 25) (g := u40.2 2) hx hb (hml.trans hl.1.symm) hown (hts _ tw_516) (hts _ tw_518) (hts _ tw_517) (hts _ tw_12) hK hP hD hS 19 2 0 0 rfl rfl rfl rfl rfl (by decide) (by decide) (by decide) (by decide) (by decide) (fun _ _ => rfl) (Nat.le_of_ble_eq_true rfl) (Nat.le_of_ble_eq_true rfl) d_Dm_assemble_84 (fun H locs hP hD hS => ?_)
          rw [xW_s2] at hP hD
          have e9 : va_up (va_up (va_up (va_up (va_up (va_up (va_up (va_up (va_up (va_up (va_up u40.2 19 (u40.2 25)) 20 (u40.2 26)) 21 (u40.2 27)) 22 (u40.2 28)) 23 (u40.2 29)) 25 (u40.2 19)) 26 (u40.2 20)) 27 (u40.2 21)) 28 (u40.2 22)) 29 (u40.2 23)) 2 (va_cpy (u40.2 25) (u40.2 2) (0 : Int32).toNatClampNeg (0 : Int32).toNatClampNeg (64 : Int32).toNatClampNeg) = (va_up (va_up (va_up (va_up (va_up (va_up (va_up (va_up (va_up (va_up (va_up u40.2 2 (va_cpy (u40.2 25) (u40.2 2) (0 : Int32).toNatClampNeg (0 : Int32).toNatClampNeg (64 : Int32).toNatClampNeg)) 19 (u40.2 25)) 20 (u40.2 26)) 21 (u40.2 27)) 22 (u40.2 28)) 23 (u40.2 29)) 25 (u40.2 19)) 26 (u40.2 20)) 27 (u40.2 21)) 28 (u40.2 22)) 29 (u40.2 23)) := by
            funext k9
            by_cases h9 : k9 = 2
            · subst h9
              rfl
            · simp only [va_up, if_neg h9]
          rw [e9] at hP hD
          clear e9
          have hP : va_P D gCl (xW cI cS cZ ad wc wb tp kp (va_up (va_up (va_up (va_up (va_up (va_up (va_up (va_up u40.1 29 (u40.1 33)) 30 (u40.1 34)) 31 (u40.1 35)) 32 (u40.1 36)) 33 (u40.1 29)) 34 (u40.1 30)) 35 (u40.1 31)) 36 (u40.1 32)) (va_up (va_up (va_up (va_up (va_up (va_up (va_up (va_up (va_up (va_up (va_up u40.2 2 (va_cpy (u40.2 25) (u40.2 2) (0 : Int32).toNatClampNeg (0 : Int32).toNatClampNeg (64 : Int32).toNatClampNeg)) 19 (u40.2 25)) 20 (u40.2 26)) 21 (u40.2 27)) 22 (u40.2 28)) 23 (u40.2 29)) 25 (u40.2 19)) 26 (u40.2 20)) 27 (u40.2 21)) 28 (u40.2 22)) 29 (u40.2 23))) H := hP
          have hD : va_D A (xW cI cS cZ ad wc wb tp kp (va_up (va_up (va_up (va_up (va_up (va_up (va_up (va_up u40.1 29 (u40.1 33)) 30 (u40.1 34)) 31 (u40.1 35)) 32 (u40.1 36)) 33 (u40.1 29)) 34 (u40.1 30)) 35 (u40.1 31)) 36 (u40.1 32)) (va_up (va_up (va_up (va_up (va_up (va_up (va_up (va_up (va_up (va_up (va_up u40.2 2 (va_cpy (u40.2 25) (u40.2 2) (0 : Int32).toNatClampNeg (0 : Int32).toNatClampNeg (64 : Int32).toNatClampNeg)) 19 (u40.2 25)) 20 (u40.2 26)) 21 (u40.2 27)) 22 (u40.2 28)) 23 (u40.2 29)) 25 (u40.2 19)) 26 (u40.2 20)) 27 (u40.2 21)) 28 (u40.2 22)) 29 (u40.2 23))) := hD
          refine lv_aload_n hx hb d_Dm_assemble_87 rfl (lv_at hl 1 rfl) ?_
          refine va_get (D := D) (ci := 0) (v := .ref (tp 0)) (C := R_Dm) (T := T_Dm) (N := 7) hx hb hts i_Dm hown hK hP 0 rfl rfl 5 (by decide) (hts _ tw_260) (fun _ h9 => h9) rfl d_Dm_assemble_88 ?_
          refine va_getN (D := D) (ci := 8) (v := .int (u40.1 35)) (C := R_Pl) (T := T_Pl) (N := 9) hx hb hts i_Pl hown hK hP 18 rfl rfl 7 (by decide) (va_Nw.use rfl (hN _ tn_234)) (fun _ h9 => h9) rfl d_Dm_assemble_91 ?_
          exact hret H locs 94 ls (u40.1 35) (tp, kp, (va_up (va_up (va_up (va_up (va_up (va_up (va_up (va_up u40.1 29 (u40.1 33)) 30 (u40.1 34)) 31 (u40.1 35)) 32 (u40.1 36)) 33 (u40.1 29)) 34 (u40.1 30)) 35 (u40.1 31)) 36 (u40.1 32)), (va_up (va_up (va_up (va_up (va_up (va_up (va_up (va_up (va_up (va_up (va_up u40.2 2 (va_cpy (u40.2 25) (u40.2 2) (0 : Int32).toNatClampNeg (0 : Int32).toNatClampNeg (64 : Int32).toNatClampNeg)) 19 (u40.2 25)) 20 (u40.2 26)) 21 (u40.2 27)) 22 (u40.2 28)) 23 (u40.2 29)) 25 (u40.2 19)) 26 (u40.2 20)) 27 (u40.2 21)) 28 (u40.2 22)) 29 (u40.2 23))) d_Dm_assemble_94 hP hD hS (vp_nar_int _) hw
        · have hw := hw.2 h
          refine lv_iconst (v := (-1)) hx hb d_Dm_assemble_46 (by decide) ?_
          exact hret H locs 47 ls (-1 : Int32) (kp, tp, u40.1, u40.2) d_Dm_assemble_47 hP hD hS (vp_nar_int _) hw
      · have hw := hw.2 h
        exact J30 kp tp u24.1 u24.2 ls H locs (lv_sub hl [] rfl) hP hD hS hw
abbrev rm_Dm_placed : Room := { frames := 0, cells := 0, slots := 0, locals := 0 }
set_option maxHeartbeats 4000000 in
set_option maxRecDepth 100000 in
theorem c_Dm_placed (l : Launch) (D : va_G) (cI cS cZ : ClassId) (ad : Nat → Nat) (wc wb : Nat) (kp tp : Nat → Nat) (σ : Nat → Int32) (α : Nat → Nat → Int32) (x1 : Int32) (post : Int32 → gS → Prop) (hw : wp_Dm_placed σ α x1 post) : gMi l y_Dm_placed b_Dm_placed 2 .int rm_Dm_placed D (gT cI cS cZ) (fun u : gS => xW cI cS cZ ad wc wb kp tp u.1 u.2) [.ref (ad 0), .int x1] (σ, α) post := by
  refine gMi.of (by decide) (Nat.le_of_ble_eq_true rfl) ?_
  intro p e s m below meth c Q A hx hb hml hown hts hK hN hA hS hP hD hret ls hl
  have hl : lv_has ls 2 [(0, .ref (ad 0)), (1, .int x1)] := hl
  have J23 : ∀ (σ : Nat → Int32) (α : Nat → Nat → Int32) (t0 : Int32) (ls : Array Slot) (H : Heap) (locs : List Loc), lv_has ls 2 [] → va_P D gCl (xW cI cS cZ ad wc wb kp tp σ α) H → va_D A (xW cI cS cZ ad wc wb kp tp σ α) → va_S A s.heap H locs → wp_Dm_placed_J23 σ α t0 post → W p l e rm_Dm_placed s m ([.ref (ad 0), .int x1] : List Value).toArray below meth c H locs 0 0 Q (F0 m 23 ls [.int t0]) := by
    intro σ α t0 ls H locs hl hP hD hS hw
    unfold wp_Dm_placed_J23 at hw
    exact hret H locs 23 ls t0 (σ, α) d_Dm_placed_23 hP hD hS (vp_nar_int _) hw
  have J10 : ∀ (σ : Nat → Int32) (α : Nat → Nat → Int32) (ls : Array Slot) (H : Heap) (locs : List Loc), lv_has ls 2 [] → va_P D gCl (xW cI cS cZ ad wc wb kp tp σ α) H → va_D A (xW cI cS cZ ad wc wb kp tp σ α) → va_S A s.heap H locs → wp_Dm_placed_J10 σ α post → W p l e rm_Dm_placed s m ([.ref (ad 0), .int x1] : List Value).toArray below meth c H locs 0 0 Q (F0 m 10 ls []) := by
    intro σ α ls H locs hl hP hD hS hw
    unfold wp_Dm_placed_J10 at hw
    refine lv_iconst (v := (-1)) hx hb d_Dm_placed_10 (by decide) ?_
    refine lv_goto (tgt := 23) hx hb d_Dm_placed_11 (by decide) ?_
    exact J23 σ α (-1 : Int32) ls H locs (lv_sub hl [] rfl) hP hD hS hw
  unfold wp_Dm_placed at hw
  have hP : va_P D gCl (xW cI cS cZ ad wc wb kp tp σ α) s.heap := hP
  have hD : va_D A (xW cI cS cZ ad wc wb kp tp σ α) := hD
  obtain ⟨H, hH⟩ : ∃ H, H = s.heap := ⟨_, rfl⟩
  obtain ⟨locs, hlocs⟩ : ∃ locs : List Loc, locs = [] := ⟨_, rfl⟩
  have hP : va_P D gCl (xW cI cS cZ ad wc wb kp tp σ α) H := by rw [hH]; exact hP
  have hS : va_S A s.heap H locs := by rw [hH, hlocs]; exact hS
  suffices K : W p l e rm_Dm_placed s m ([.ref (ad 0), .int x1] : List Value).toArray below meth c H locs 0 0 Q (F0 m 0 ls []) by rw [hH, hlocs] at K; exact K
  clear hH hlocs
  refine lv_iload_n hx hb d_Dm_placed_0 rfl (lv_at hl 1 rfl) ?_
  refine lv_if_lt (tgt := 10) hx hb d_Dm_placed_1 (by decide) (fun h => ?_) (fun h => ?_)
  · have hw := hw.1 h
    exact J10 σ α ls H locs (lv_sub hl [] rfl) hP hD hS hw
  · have hw := hw.2 h
    refine lv_iload_n hx hb d_Dm_placed_4 rfl (lv_at hl 1 rfl) ?_
    refine lv_bipush (v := 12) hx hb d_Dm_placed_5 (by decide) ?_
    refine lv_icmp_lt (tgt := 14) hx hb d_Dm_placed_7 (by decide) (fun h => ?_) (fun h => ?_)
    · have hw := hw.1 h
      refine lv_aload_n hx hb d_Dm_placed_14 rfl (lv_at hl 0 rfl) ?_
      refine va_get (D := D) (ci := 0) (v := .ref (kp 0)) (C := R_Dm) (T := T_Dm) (N := 7) hx hb hts i_Dm hown hK hP 0 rfl rfl 5 (by decide) (hts _ tw_260) (fun _ h9 => h9) rfl d_Dm_placed_15 ?_
      refine va_getN (D := D) (ci := 8) (v := .ref (kp 4)) (C := R_Pl) (T := T_Pl) (N := 9) hx hb hts i_Pl hown hK hP 18 rfl rfl 3 (by decide) (va_Nw.use rfl (hN _ tn_229)) (fun _ h9 => h9) rfl d_Dm_placed_18 ?_
      refine lv_iload_n hx hb d_Dm_placed_21 rfl (lv_at hl 1 rfl) ?_
      obtain ⟨hin, hw⟩ := hw
      refine va_iald (f := α 22) hx hb hK hP 22 0 rfl rfl hin d_Dm_placed_22 ?_
      exact J23 σ α (α 22 x1.toNatClampNeg) ls H locs (lv_sub hl [] rfl) hP hD hS hw
    · have hw := hw.2 h
      exact J10 σ α ls H locs (lv_sub hl [] rfl) hP hD hS hw
abbrev rm_Dm_variable : Room := { frames := 1, cells := 0, slots := 0, locals := 20 }
set_option maxHeartbeats 4000000 in
set_option maxRecDepth 100000 in
theorem c_Dm_variable (l : Launch) (D : va_G) (cI cS cZ : ClassId) (ad : Nat → Nat) (wc wb : Nat) (kp tp : Nat → Nat) (σ : Nat → Int32) (α : Nat → Nat → Int32) (x1 : Int32) (post : Int32 → gS → Prop) (hw : wp_Dm_variable σ α x1 post) : gMi l y_Dm_variable b_Dm_variable 2 .int rm_Dm_variable D (gT cI cS cZ) (fun u : gS => xW cI cS cZ ad wc wb kp tp u.1 u.2) [.ref (ad 0), .int x1] (σ, α) post := by
  refine gMi.of (by decide) (Nat.le_of_ble_eq_true rfl) ?_
  intro p e s m below meth c Q A hx hb hml hown hts hK hN hA hS hP hD hret ls hl
  have hl : lv_has ls 2 [(0, .ref (ad 0)), (1, .int x1)] := hl
  have J20 : ∀ (σ : Nat → Int32) (α : Nat → Nat → Int32) (t0 : Int32) (ls : Array Slot) (H : Heap) (locs : List Loc), lv_has ls 2 [] → va_P D gCl (xW cI cS cZ ad wc wb kp tp σ α) H → va_D A (xW cI cS cZ ad wc wb kp tp σ α) → va_S A s.heap H locs → wp_Dm_variable_J20 σ α t0 post → W p l e rm_Dm_variable s m ([.ref (ad 0), .int x1] : List Value).toArray below meth c H locs 0 0 Q (F0 m 20 ls [.int t0]) := by
    intro σ α t0 ls H locs hl hP hD hS hw
    unfold wp_Dm_variable_J20 at hw
    exact hret H locs 20 ls t0 (σ, α) d_Dm_variable_20 hP hD hS (vp_nar_int _) hw
  unfold wp_Dm_variable at hw
  have hP : va_P D gCl (xW cI cS cZ ad wc wb kp tp σ α) s.heap := hP
  have hD : va_D A (xW cI cS cZ ad wc wb kp tp σ α) := hD
  obtain ⟨H, hH⟩ : ∃ H, H = s.heap := ⟨_, rfl⟩
  obtain ⟨locs, hlocs⟩ : ∃ locs : List Loc, locs = [] := ⟨_, rfl⟩
  have hP : va_P D gCl (xW cI cS cZ ad wc wb kp tp σ α) H := by rw [hH]; exact hP
  have hS : va_S A s.heap H locs := by rw [hH, hlocs]; exact hS
  suffices K : W p l e rm_Dm_variable s m ([.ref (ad 0), .int x1] : List Value).toArray below meth c H locs 0 0 Q (F0 m 0 ls []) by rw [hH, hlocs] at K; exact K
  clear hH hlocs
  refine lv_iload_n hx hb d_Dm_variable_0 rfl (lv_at hl 1 rfl) ?_
  refine gCallSi (As := [.int x1]) (rest := []) (c_Pr_isVariable l D cI cS cZ ad wc wb kp tp σ α x1 _ hw) hx hb hml hown hts hK hN hA hS hP hD (va_cwS 1 hts (gGS tw_527 tw_441 tw_8 tw_442) rfl rfl rfl ⟨by decide, by decide, by decide +kernel⟩ ⟨Nat.le_of_ble_eq_true rfl, Nat.le_of_ble_eq_true rfl⟩) rfl hl.1 rfl (Nat.le_of_ble_eq_true rfl) d_Dm_variable_1 (fun r1 u1 H locs hw hP hD hS => ?_)
  have hP : va_P D gCl (xW cI cS cZ ad wc wb kp tp u1.1 u1.2) H := hP
  have hD : va_D A (xW cI cS cZ ad wc wb kp tp u1.1 u1.2) := hD
  refine lv_if_eq (tgt := 19) hx hb d_Dm_variable_4 (by decide) (fun h => ?_) (fun h => ?_)
  · have hw := hw.1 h
    refine lv_iconst (v := (-1)) hx hb d_Dm_variable_19 (by decide) ?_
    exact J20 u1.1 u1.2 (-1 : Int32) ls H locs (lv_sub hl [] rfl) hP hD hS hw
  · have hw := hw.2 h
    refine lv_aload_n hx hb d_Dm_variable_7 rfl (lv_at hl 0 rfl) ?_
    refine va_get (D := D) (ci := 0) (v := .ref (kp 0)) (C := R_Dm) (T := T_Dm) (N := 7) hx hb hts i_Dm hown hK hP 0 rfl rfl 5 (by decide) (hts _ tw_260) (fun _ h9 => h9) rfl d_Dm_variable_8 ?_
    refine va_getN (D := D) (ci := 8) (v := .ref (kp 3)) (C := R_Pl) (T := T_Pl) (N := 9) hx hb hts i_Pl hown hK hP 18 rfl rfl 2 (by decide) (va_Nw.use rfl (hN _ tn_227)) (fun _ h9 => h9) rfl d_Dm_variable_11 ?_
    refine lv_iload_n hx hb d_Dm_variable_14 rfl (lv_at hl 1 rfl) ?_
    obtain ⟨hin, hw⟩ := hw
    refine va_iald (f := u1.2 21) hx hb hK hP 21 0 rfl rfl hin d_Dm_variable_15 ?_
    refine lv_goto (tgt := 20) hx hb d_Dm_variable_16 (by decide) ?_
    exact J20 u1.1 u1.2 (u1.2 21 x1.toNatClampNeg) ls H locs (lv_sub hl [] rfl) hP hD hS hw
