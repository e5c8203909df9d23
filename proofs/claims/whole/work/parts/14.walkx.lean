abbrev rm_Pl_freeSpot : Room := { frames := 1, cells := 0, slots := 0, locals := 22 }
set_option maxHeartbeats 4000000 in
set_option maxRecDepth 100000 in
theorem c_Pl_freeSpot (l : Launch) (D : va_G) (cI cS cZ : ClassId) (ad : Nat → Nat) (wc wb : Nat) (kp tp : Nat → Nat) (σ : Nat → Int32) (α : Nat → Nat → Int32) (post : Int32 → gS → Prop) (hw : wp_Pl_freeSpot σ α post) : gMi l y_Pl_freeSpot b_Pl_freeSpot 4 .int rm_Pl_freeSpot D (gT cI cS cZ) (fun u : gS => xW cI cS cZ ad wc wb kp tp u.1 u.2) [.ref (tp 0)] (σ, α) post := by
  refine gMi.of (by decide) (Nat.le_of_ble_eq_true rfl) ?_
  intro p e s m below meth c Q A hx hb hml hown hts hK hN hA hS hP hD hret ls hl
  have hl : lv_has ls 4 [(0, .ref (tp 0))] := hl
  have L2 : ∀ (σ : Nat → Int32) (α : Nat → Nat → Int32) (a1 : Int32) (ls : Array Slot) (H : Heap) (locs : List Loc), lv_has ls 4 [(0, .ref (tp 0)), (1, .int a1)] → va_P D gCl (xW cI cS cZ ad wc wb kp tp σ α) H → va_D A (xW cI cS cZ ad wc wb kp tp σ α) → va_S A s.heap H locs → wp_Pl_freeSpot_L2 σ α a1 post → W p l e rm_Pl_freeSpot s m ([.ref (tp 0)] : List Value).toArray below meth c H locs 0 0 Q (F0 m 2 ls []) := by
    intro σ α a1 ls H locs hl hP hD hS hw
    let XL2 : (Nat → Int32) → (Nat → Nat → Int32) → Int32 → Prop := fun σ α a1 => ∀ (ls : Array Slot) (H : Heap) (locs : List Loc), lv_has ls 4 [(0, .ref (tp 0)), (1, .int a1)] → va_P D gCl (xW cI cS cZ ad wc wb kp tp σ α) H → va_D A (xW cI cS cZ ad wc wb kp tp σ α) → va_S A s.heap H locs → W p l e rm_Pl_freeSpot s m ([.ref (tp 0)] : List Value).toArray below meth c H locs 0 0 Q (F0 m 2 ls [])
    have hX2 : ∀ (σ : Nat → Int32) (α : Nat → Nat → Int32) (a1 : Int32) (ls : Array Slot) (H : Heap) (locs : List Loc), lv_has ls 4 [(0, .ref (tp 0)), (1, .int a1)] → va_P D gCl (xW cI cS cZ ad wc wb kp tp σ α) H → va_D A (xW cI cS cZ ad wc wb kp tp σ α) → va_S A s.heap H locs → XL2 σ α a1 → W p l e rm_Pl_freeSpot s m ([.ref (tp 0)] : List Value).toArray below meth c H locs 0 0 Q (F0 m 2 ls []) := fun σ α a1 ls H locs hl hP hD hS hw => hw ls H locs hl hP hD hS
    refine hw XL2 ?_ ls H locs hl hP hD hS
    clear hw hl hP hD hS
    intro σ α a1 hw ls H locs hl hP hD hS
    unfold wp_Pl_freeSpot_B2 at hw
    have L20 : ∀ (σ : Nat → Int32) (α : Nat → Nat → Int32) (a1 : Int32) (a2 : Int32) (a3 : Int32) (ls : Array Slot) (H : Heap) (locs : List Loc), lv_has ls 4 [(0, .ref (tp 0)), (1, .int a1), (2, .int a2), (3, .int a3)] → va_P D gCl (xW cI cS cZ ad wc wb kp tp σ α) H → va_D A (xW cI cS cZ ad wc wb kp tp σ α) → va_S A s.heap H locs → wp_Pl_freeSpot_L20 XL2 σ α a1 a2 a3 post → W p l e rm_Pl_freeSpot s m ([.ref (tp 0)] : List Value).toArray below meth c H locs 0 0 Q (F0 m 20 ls []) := by
      intro σ α a1 a2 a3 ls H locs hl hP hD hS hw
      let XL20 : (Nat → Int32) → (Nat → Nat → Int32) → Int32 → Int32 → Int32 → Prop := fun σ α a1 a2 a3 => ∀ (ls : Array Slot) (H : Heap) (locs : List Loc), lv_has ls 4 [(0, .ref (tp 0)), (1, .int a1), (2, .int a2), (3, .int a3)] → va_P D gCl (xW cI cS cZ ad wc wb kp tp σ α) H → va_D A (xW cI cS cZ ad wc wb kp tp σ α) → va_S A s.heap H locs → W p l e rm_Pl_freeSpot s m ([.ref (tp 0)] : List Value).toArray below meth c H locs 0 0 Q (F0 m 20 ls [])
      have hX20 : ∀ (σ : Nat → Int32) (α : Nat → Nat → Int32) (a1 : Int32) (a2 : Int32) (a3 : Int32) (ls : Array Slot) (H : Heap) (locs : List Loc), lv_has ls 4 [(0, .ref (tp 0)), (1, .int a1), (2, .int a2), (3, .int a3)] → va_P D gCl (xW cI cS cZ ad wc wb kp tp σ α) H → va_D A (xW cI cS cZ ad wc wb kp tp σ α) → va_S A s.heap H locs → XL20 σ α a1 a2 a3 → W p l e rm_Pl_freeSpot s m ([.ref (tp 0)] : List Value).toArray below meth c H locs 0 0 Q (F0 m 20 ls []) := fun σ α a1 a2 a3 ls H locs hl hP hD hS hw => hw ls H locs hl hP hD hS
      refine hw XL20 ?_ ls H locs hl hP hD hS
      clear hw hl hP hD hS
      intro σ α a1 a2 a3 hw ls H locs hl hP hD hS
      unfold wp_Pl_freeSpot_B20 at hw
      refine lv_iload_n hx hb d_Pl_freeSpot_20 rfl (lv_at hl 3 rfl) ?_
      refine lv_iconst (v := 2) hx hb d_Pl_freeSpot_21 (by decide) ?_
      refine lv_icmp_ge (tgt := 47) hx hb d_Pl_freeSpot_22 (by decide) (fun h => ?_) (fun h => ?_)
      · have hw := hw.1 h
        refine lv_iinc (k := 1) hx hb d_Pl_freeSpot_47 hl rfl rfl (by decide) rfl (fun ls hl => ?_)
        have hl : lv_has ls 4 [(1, .int (a1 + Int32.ofInt 1)), (0, .ref (tp 0)), (2, .int a2), (3, .int a3)] := hl
        refine lv_goto (tgt := 2) hx hb d_Pl_freeSpot_50 (by decide) ?_
        exact hX2 σ α (a1 + Int32.ofInt 1) ls H locs (lv_sub hl [1, 0] rfl) hP hD hS hw
      · have hw := hw.2 h
        refine lv_aload_n hx hb d_Pl_freeSpot_25 rfl (lv_at hl 0 rfl) ?_
        refine lv_iload_n hx hb d_Pl_freeSpot_26 rfl (lv_at hl 3 rfl) ?_
        refine lv_iload_n hx hb d_Pl_freeSpot_27 rfl (lv_at hl 2 rfl) ?_
        refine gCallVi (b := tp 0) (As := [.int a3, .int a2]) (rest := []) (c_Pl_isFree l D cI cS cZ ad wc wb kp tp σ α a3 a2 _ hw) hx hb hml hown hts hK hN hA hS hP hD (cwV 2 hts (gGV tw_467 tw_469 ts_10 tw_9 tw_470) rfl rfl rfl ⟨rfl, by decide, by decide, by decide +kernel⟩ ⟨Nat.le_of_ble_eq_true rfl, Nat.le_of_ble_eq_true rfl⟩) (va_recv (ci := 8) (q0 := 24) hK hP rfl rfl) rfl hl.1 rfl (Nat.le_of_ble_eq_true rfl) d_Pl_freeSpot_28 (fun r28 u28 H locs hw hP hD hS => ?_)
        have hP : va_P D gCl (xW cI cS cZ ad wc wb kp tp u28.1 u28.2) H := hP
        have hD : va_D A (xW cI cS cZ ad wc wb kp tp u28.1 u28.2) := hD
        refine lv_if_eq (tgt := 41) hx hb d_Pl_freeSpot_31 (by decide) (fun h => ?_) (fun h => ?_)
        · have hw := hw.1 h
          refine lv_iinc (k := 3) hx hb d_Pl_freeSpot_41 hl rfl rfl (by decide) rfl (fun ls hl => ?_)
          have hl : lv_has ls 4 [(3, .int (a3 + Int32.ofInt 1)), (0, .ref (tp 0)), (1, .int a1), (2, .int a2)] := hl
          refine lv_goto (tgt := 20) hx hb d_Pl_freeSpot_44 (by decide) ?_
          exact hX20 u28.1 u28.2 a1 a2 (a3 + Int32.ofInt 1) ls H locs (lv_sub hl [1, 2, 3, 0] rfl) hP hD hS hw
        · have hw := hw.2 h
          refine lv_iload_n hx hb d_Pl_freeSpot_34 rfl (lv_at hl 3 rfl) ?_
          refine lv_bipush (v := 32) hx hb d_Pl_freeSpot_35 (by decide) ?_
          refine lv_imul hx hb d_Pl_freeSpot_37 ?_
          refine lv_iload_n hx hb d_Pl_freeSpot_38 rfl (lv_at hl 2 rfl) ?_
          refine lv_iadd hx hb d_Pl_freeSpot_39 ?_
          exact hret H locs 40 ls ((a3 * (32 : Int32)) + a2) (u28.1, u28.2) d_Pl_freeSpot_40 hP hD hS (vp_nar_int _) hw
    refine lv_iload_n hx hb d_Pl_freeSpot_2 rfl (lv_at hl 1 rfl) ?_
    refine lv_bipush (v := 32) hx hb d_Pl_freeSpot_3 (by decide) ?_
    refine lv_icmp_ge (tgt := 53) hx hb d_Pl_freeSpot_5 (by decide) (fun h => ?_) (fun h => ?_)
    · have hw := hw.1 h
      refine lv_iconst (v := (-1)) hx hb d_Pl_freeSpot_53 (by decide) ?_
      exact hret H locs 54 ls (-1 : Int32) (σ, α) d_Pl_freeSpot_54 hP hD hS (vp_nar_int _) hw
    · have hw := hw.2 h
      refine lv_aload_n hx hb d_Pl_freeSpot_8 rfl (lv_at hl 0 rfl) ?_
      refine va_get (D := D) (ci := 8) (v := .int (σ 33)) (C := R_Pl) (T := T_Pl) (N := 9) hx hb hts i_Pl hown hK hP 24 rfl rfl 5 (by decide) (hts _ tw_231) (fun _ h9 => h9) rfl d_Pl_freeSpot_9 ?_
      refine lv_iload_n hx hb d_Pl_freeSpot_12 rfl (lv_at hl 1 rfl) ?_
      refine lv_iadd hx hb d_Pl_freeSpot_13 ?_
      refine lv_bipush (v := 31) hx hb d_Pl_freeSpot_14 (by decide) ?_
      refine lv_iand hx hb d_Pl_freeSpot_16 ?_
      refine lv_istore_n hx hb d_Pl_freeSpot_17 rfl hl (by decide) rfl (fun ls hl => ?_)
      have hl : lv_has ls 4 [(2, .int (((σ 33) + a1) &&& (31 : Int32))), (0, .ref (tp 0)), (1, .int a1)] := hl
      refine lv_iconst (v := 0) hx hb d_Pl_freeSpot_18 (by decide) ?_
      refine lv_istore_n hx hb d_Pl_freeSpot_19 rfl hl (by decide) rfl (fun ls hl => ?_)
      have hl : lv_has ls 4 [(3, .int (0 : Int32)), (2, .int (((σ 33) + a1) &&& (31 : Int32))), (0, .ref (tp 0)), (1, .int a1)] := hl
      exact L20 σ α a1 (((σ 33) + a1) &&& (31 : Int32)) (0 : Int32) ls H locs (lv_sub hl [2, 3, 1, 0] rfl) hP hD hS hw
  unfold wp_Pl_freeSpot at hw
  have hP : va_P D gCl (xW cI cS cZ ad wc wb kp tp σ α) s.heap := hP
  have hD : va_D A (xW cI cS cZ ad wc wb kp tp σ α) := hD
  obtain ⟨H, hH⟩ : ∃ H, H = s.heap := ⟨_, rfl⟩
  obtain ⟨locs, hlocs⟩ : ∃ locs : List Loc, locs = [] := ⟨_, rfl⟩
  have hP : va_P D gCl (xW cI cS cZ ad wc wb kp tp σ α) H := by rw [hH]; exact hP
  have hS : va_S A s.heap H locs := by rw [hH, hlocs]; exact hS
  suffices K : W p l e rm_Pl_freeSpot s m ([.ref (tp 0)] : List Value).toArray below meth c H locs 0 0 Q (F0 m 0 ls []) by rw [hH, hlocs] at K; exact K
  clear hH hlocs
  refine lv_iconst (v := 0) hx hb d_Pl_freeSpot_0 (by decide) ?_
  refine lv_istore_n hx hb d_Pl_freeSpot_1 rfl hl (by decide) rfl (fun ls hl => ?_)
  have hl : lv_has ls 4 [(1, .int (0 : Int32)), (0, .ref (tp 0))] := hl
  exact L2 σ α (0 : Int32) ls H locs (lv_sub hl [1, 0] rfl) hP hD hS hw
abbrev rm_Pl_variablePlace : Room := { frames := 0, cells := 0, slots := 0, locals := 0 }
set_option maxHeartbeats 4000000 in
set_option maxRecDepth 100000 in
theorem c_Pl_variablePlace (l : Launch) (D : va_G) (cI cS cZ : ClassId) (ad : Nat → Nat) (wc wb : Nat) (kp tp : Nat → Nat) (σ : Nat → Int32) (α : Nat → Nat → Int32) (x1 : Int32) (x2 : Int32) (post : Int32 → gS → Prop) (hw : wp_Pl_variablePlace σ α x1 x2 post) : gMi l y_Pl_variablePlace b_Pl_variablePlace 5 .int rm_Pl_variablePlace D (gT cI cS cZ) (fun u : gS => xW cI cS cZ ad wc wb kp tp u.1 u.2) [.ref (tp 0), .int x1, .int x2] (σ, α) post := by
  refine gMi.of (by decide) (Nat.le_of_ble_eq_true rfl) ?_
  intro p e s m below meth c Q A hx hb hml hown hts hK hN hA hS hP hD hret ls hl
  have hl : lv_has ls 5 [(0, .ref (tp 0)), (1, .int x1), (2, .int x2)] := hl
  have J59 : ∀ (σ : Nat → Int32) (α : Nat → Nat → Int32) (a1 : Int32) (ls : Array Slot) (H : Heap) (locs : List Loc), lv_has ls 5 [(0, .ref (tp 0)), (1, .int a1)] → va_P D gCl (xW cI cS cZ ad wc wb kp tp σ α) H → va_D A (xW cI cS cZ ad wc wb kp tp σ α) → va_S A s.heap H locs → wp_Pl_variablePlace_J59 σ α a1 post → W p l e rm_Pl_variablePlace s m ([.ref (tp 0), .int x1, .int x2] : List Value).toArray below meth c H locs 0 0 Q (F0 m 59 ls []) := by
    intro σ α a1 ls H locs hl hP hD hS hw
    unfold wp_Pl_variablePlace_J59 at hw
    refine lv_aload_n hx hb d_Pl_variablePlace_59 rfl (lv_at hl 0 rfl) ?_
    refine va_get (D := D) (ci := 8) (v := .ref (tp 3)) (C := R_Pl) (T := T_Pl) (N := 9) hx hb hts i_Pl hown hK hP 24 rfl rfl 2 (by decide) (hts _ tw_226) (fun _ h9 => h9) rfl d_Pl_variablePlace_60 ?_
    refine lv_iload_n hx hb d_Pl_variablePlace_63 rfl (lv_at hl 1 rfl) ?_
    obtain ⟨hin, hw⟩ := hw
    refine va_iald (f := α 27) hx hb hK hP 27 0 rfl rfl hin d_Pl_variablePlace_64 ?_
    exact hret H locs 65 ls (α 27 a1.toNatClampNeg) (σ, α) d_Pl_variablePlace_65 hP hD hS (vp_nar_int _) hw
  have L2 : ∀ (σ : Nat → Int32) (α : Nat → Nat → Int32) (a1 : Int32) (a2 : Int32) (a3 : Int32) (ls : Array Slot) (H : Heap) (locs : List Loc), lv_has ls 5 [(0, .ref (tp 0)), (1, .int a1), (2, .int a2), (3, .int a3)] → va_P D gCl (xW cI cS cZ ad wc wb kp tp σ α) H → va_D A (xW cI cS cZ ad wc wb kp tp σ α) → va_S A s.heap H locs → wp_Pl_variablePlace_L2 σ α a1 a2 a3 post → W p l e rm_Pl_variablePlace s m ([.ref (tp 0), .int x1, .int x2] : List Value).toArray below meth c H locs 0 0 Q (F0 m 2 ls []) := by
    intro σ α a1 a2 a3 ls H locs hl hP hD hS hw
    let XL2 : (Nat → Int32) → (Nat → Nat → Int32) → Int32 → Int32 → Int32 → Prop := fun σ α a1 a2 a3 => ∀ (ls : Array Slot) (H : Heap) (locs : List Loc), lv_has ls 5 [(0, .ref (tp 0)), (1, .int a1), (2, .int a2), (3, .int a3)] → va_P D gCl (xW cI cS cZ ad wc wb kp tp σ α) H → va_D A (xW cI cS cZ ad wc wb kp tp σ α) → va_S A s.heap H locs → W p l e rm_Pl_variablePlace s m ([.ref (tp 0), .int x1, .int x2] : List Value).toArray below meth c H locs 0 0 Q (F0 m 2 ls [])
    have hX2 : ∀ (σ : Nat → Int32) (α : Nat → Nat → Int32) (a1 : Int32) (a2 : Int32) (a3 : Int32) (ls : Array Slot) (H : Heap) (locs : List Loc), lv_has ls 5 [(0, .ref (tp 0)), (1, .int a1), (2, .int a2), (3, .int a3)] → va_P D gCl (xW cI cS cZ ad wc wb kp tp σ α) H → va_D A (xW cI cS cZ ad wc wb kp tp σ α) → va_S A s.heap H locs → XL2 σ α a1 a2 a3 → W p l e rm_Pl_variablePlace s m ([.ref (tp 0), .int x1, .int x2] : List Value).toArray below meth c H locs 0 0 Q (F0 m 2 ls []) := fun σ α a1 a2 a3 ls H locs hl hP hD hS hw => hw ls H locs hl hP hD hS
    refine hw XL2 ?_ ls H locs hl hP hD hS
    clear hw hl hP hD hS
    intro σ α a1 a2 a3 hw ls H locs hl hP hD hS
    unfold wp_Pl_variablePlace_B2 at hw
    have J53 : ∀ (σ : Nat → Int32) (α : Nat → Nat → Int32) (a1 : Int32) (a2 : Int32) (a3 : Int32) (ls : Array Slot) (H : Heap) (locs : List Loc), lv_has ls 5 [(0, .ref (tp 0)), (1, .int a1), (2, .int a2), (3, .int a3)] → va_P D gCl (xW cI cS cZ ad wc wb kp tp σ α) H → va_D A (xW cI cS cZ ad wc wb kp tp σ α) → va_S A s.heap H locs → wp_Pl_variablePlace_J53 XL2 σ α a1 a2 a3 post → W p l e rm_Pl_variablePlace s m ([.ref (tp 0), .int x1, .int x2] : List Value).toArray below meth c H locs 0 0 Q (F0 m 53 ls []) := by
      intro σ α a1 a2 a3 ls H locs hl hP hD hS hw
      unfold wp_Pl_variablePlace_J53 at hw
      refine lv_iinc (k := 3) hx hb d_Pl_variablePlace_53 hl rfl rfl (by decide) rfl (fun ls hl => ?_)
      have hl : lv_has ls 5 [(3, .int (a3 + Int32.ofInt 1)), (0, .ref (tp 0)), (1, .int a1), (2, .int a2)] := hl
      refine lv_goto (tgt := 2) hx hb d_Pl_variablePlace_56 (by decide) ?_
      exact hX2 σ α a1 a2 (a3 + Int32.ofInt 1) ls H locs (lv_sub hl [1, 2, 3, 0] rfl) hP hD hS hw
    refine lv_iload_n hx hb d_Pl_variablePlace_2 rfl (lv_at hl 3 rfl) ?_
    refine lv_bipush (v := 32) hx hb d_Pl_variablePlace_3 (by decide) ?_
    refine lv_icmp_ge (tgt := 59) hx hb d_Pl_variablePlace_5 (by decide) (fun h => ?_) (fun h => ?_)
    · have hw := hw.1 h
      exact J59 σ α a1 ls H locs (lv_sub hl [0, 1] rfl) hP hD hS hw
    · have hw := hw.2 h
      refine lv_aload_n hx hb d_Pl_variablePlace_8 rfl (lv_at hl 0 rfl) ?_
      refine va_get (D := D) (ci := 8) (v := .ref (tp 3)) (C := R_Pl) (T := T_Pl) (N := 9) hx hb hts i_Pl hown hK hP 24 rfl rfl 2 (by decide) (hts _ tw_226) (fun _ h9 => h9) rfl d_Pl_variablePlace_9 ?_
      refine lv_iload_n hx hb d_Pl_variablePlace_12 rfl (lv_at hl 1 rfl) ?_
      obtain ⟨hin, hw⟩ := hw
      refine va_iald (f := α 27) hx hb hK hP 27 0 rfl rfl hin d_Pl_variablePlace_13 ?_
      refine lv_iconst (v := (-1)) hx hb d_Pl_variablePlace_14 (by decide) ?_
      refine lv_icmp_ne (tgt := 59) hx hb d_Pl_variablePlace_15 (by decide) (fun h => ?_) (fun h => ?_)
      · have hw := hw.1 h
        exact J59 σ α a1 ls H locs (lv_sub hl [0, 1] rfl) hP hD hS hw
      · have hw := hw.2 h
        refine lv_iload_n hx hb d_Pl_variablePlace_18 rfl (lv_at hl 2 rfl) ?_
        refine lv_iload_n hx hb d_Pl_variablePlace_19 rfl (lv_at hl 3 rfl) ?_
        refine lv_iadd hx hb d_Pl_variablePlace_20 ?_
        refine lv_bipush (v := 31) hx hb d_Pl_variablePlace_21 (by decide) ?_
        refine lv_iand hx hb d_Pl_variablePlace_23 ?_
        refine lv_istore hx hb d_Pl_variablePlace_24 hl (by decide) rfl (fun ls hl => ?_)
        have hl : lv_has ls 5 [(4, .int ((a2 + a3) &&& (31 : Int32))), (0, .ref (tp 0)), (1, .int a1), (2, .int a2), (3, .int a3)] := hl
        refine lv_aload_n hx hb d_Pl_variablePlace_26 rfl (lv_at hl 1 rfl) ?_
        refine va_get (D := D) (ci := 8) (v := .ref (tp 2)) (C := R_Pl) (T := T_Pl) (N := 9) hx hb hts i_Pl hown hK hP 24 rfl rfl 1 (by decide) (hts _ tw_225) (fun _ h9 => h9) rfl d_Pl_variablePlace_27 ?_
        refine lv_iload hx hb d_Pl_variablePlace_30 (lv_at hl 0 rfl) ?_
        obtain ⟨hin, hw⟩ := hw
        refine va_iald (f := α 26) hx hb hK hP 26 0 rfl rfl hin d_Pl_variablePlace_32 ?_
        refine lv_iconst (v := (-1)) hx hb d_Pl_variablePlace_33 (by decide) ?_
        refine lv_icmp_ne (tgt := 53) hx hb d_Pl_variablePlace_34 (by decide) (fun h => ?_) (fun h => ?_)
        · have hw := hw.1 h
          exact J53 σ α a1 a2 a3 ls H locs (lv_sub hl [1, 2, 3, 4] rfl) hP hD hS hw
        · have hw := hw.2 h
          refine lv_aload_n hx hb d_Pl_variablePlace_37 rfl (lv_at hl 1 rfl) ?_
          refine va_get (D := D) (ci := 8) (v := .ref (tp 2)) (C := R_Pl) (T := T_Pl) (N := 9) hx hb hts i_Pl hown hK hP 24 rfl rfl 1 (by decide) (hts _ tw_225) (fun _ h9 => h9) rfl d_Pl_variablePlace_38 ?_
          refine lv_iload hx hb d_Pl_variablePlace_41 (lv_at hl 0 rfl) ?_
          refine lv_iload_n hx hb d_Pl_variablePlace_43 rfl (lv_at hl 2 rfl) ?_
          obtain ⟨hin, hw⟩ := hw
          refine va_iast (f := α 26) (i := (a2 + a3) &&& (31 : Int32)) (x := a1) hx hb hK hP hD hS 26 0 rfl rfl hin d_Pl_variablePlace_44 (fun H locs hP hD hS => ?_)
          rw [xW_s26] at hP hD
          have hP : va_P D gCl (xW cI cS cZ ad wc wb kp tp σ (va_up α 26 (upd (α 26) ((a2 + a3) &&& (31 : Int32)).toNatClampNeg a1))) H := hP
          have hD : va_D A (xW cI cS cZ ad wc wb kp tp σ (va_up α 26 (upd (α 26) ((a2 + a3) &&& (31 : Int32)).toNatClampNeg a1))) := hD
          refine lv_aload_n hx hb d_Pl_variablePlace_45 rfl (lv_at hl 1 rfl) ?_
          refine va_get (D := D) (ci := 8) (v := .ref (tp 3)) (C := R_Pl) (T := T_Pl) (N := 9) hx hb hts i_Pl hown hK hP 24 rfl rfl 2 (by decide) (hts _ tw_226) (fun _ h9 => h9) rfl d_Pl_variablePlace_46 ?_
          refine lv_iload_n hx hb d_Pl_variablePlace_49 rfl (lv_at hl 2 rfl) ?_
          refine lv_iload hx hb d_Pl_variablePlace_50 (lv_at hl 0 rfl) ?_
          obtain ⟨hin, hw⟩ := hw
          refine va_iast (f := α 27) (i := a1) (x := (a2 + a3) &&& (31 : Int32)) hx hb hK hP hD hS 27 0 rfl rfl hin d_Pl_variablePlace_52 (fun H locs hP hD hS => ?_)
          rw [xW_s27] at hP hD
          have hP : va_P D gCl (xW cI cS cZ ad wc wb kp tp σ (va_up (va_up α 26 (upd (α 26) ((a2 + a3) &&& (31 : Int32)).toNatClampNeg a1)) 27 (upd (α 27) a1.toNatClampNeg ((a2 + a3) &&& (31 : Int32))))) H := hP
          have hD : va_D A (xW cI cS cZ ad wc wb kp tp σ (va_up (va_up α 26 (upd (α 26) ((a2 + a3) &&& (31 : Int32)).toNatClampNeg a1)) 27 (upd (α 27) a1.toNatClampNeg ((a2 + a3) &&& (31 : Int32))))) := hD
          exact J53 σ (va_up (va_up α 26 (upd (α 26) ((a2 + a3) &&& (31 : Int32)).toNatClampNeg a1)) 27 (upd (α 27) a1.toNatClampNeg ((a2 + a3) &&& (31 : Int32)))) a1 a2 a3 ls H locs (lv_sub hl [1, 2, 3, 4] rfl) hP hD hS hw
  unfold wp_Pl_variablePlace at hw
  have hP : va_P D gCl (xW cI cS cZ ad wc wb kp tp σ α) s.heap := hP
  have hD : va_D A (xW cI cS cZ ad wc wb kp tp σ α) := hD
  obtain ⟨H, hH⟩ : ∃ H, H = s.heap := ⟨_, rfl⟩
  obtain ⟨locs, hlocs⟩ : ∃ locs : List Loc, locs = [] := ⟨_, rfl⟩
  have hP : va_P D gCl (xW cI cS cZ ad wc wb kp tp σ α) H := by rw [hH]; exact hP
  have hS : va_S A s.heap H locs := by rw [hH, hlocs]; exact hS
  suffices K : W p l e rm_Pl_variablePlace s m ([.ref (tp 0), .int x1, .int x2] : List Value).toArray below meth c H locs 0 0 Q (F0 m 0 ls []) by rw [hH, hlocs] at K; exact K
  clear hH hlocs
  refine lv_iconst (v := 0) hx hb d_Pl_variablePlace_0 (by decide) ?_
  refine lv_istore_n hx hb d_Pl_variablePlace_1 rfl hl (by decide) rfl (fun ls hl => ?_)
  have hl : lv_has ls 5 [(3, .int (0 : Int32)), (0, .ref (tp 0)), (1, .int x1), (2, .int x2)] := hl
  exact L2 σ α x1 x2 (0 : Int32) ls H locs (lv_sub hl [1, 2, 3, 0] rfl) hP hD hS hw
abbrev rm_Pl_lead : Room := { frames := 0, cells := 0, slots := 0, locals := 0 }
set_option maxHeartbeats 4000000 in
set_option maxRecDepth 100000 in
theorem c_Pl_lead (l : Launch) (D : va_G) (cI cS cZ : ClassId) (ad : Nat → Nat) (wc wb : Nat) (kp tp : Nat → Nat) (σ : Nat → Int32) (α : Nat → Nat → Int32) (x1 : Int32) (x2 : Int32) (post : gS → Prop) (hw : wp_Pl_lead σ α x1 x2 post) : gMv l y_Pl_lead b_Pl_lead 4 rm_Pl_lead D (gT cI cS cZ) (fun u : gS => xW cI cS cZ ad wc wb kp tp u.1 u.2) [.ref (tp 0), .int x1, .int x2] (σ, α) post := by
  refine gMv.of (by decide) (Nat.le_of_ble_eq_true rfl) ?_
  intro p e s m below meth c Q A hx hb hml hown hts hK hN hA hS hP hD hret ls hl
  have hl : lv_has ls 4 [(0, .ref (tp 0)), (1, .int x1), (2, .int x2)] := hl
  unfold wp_Pl_lead at hw
  have hP : va_P D gCl (xW cI cS cZ ad wc wb kp tp σ α) s.heap := hP
  have hD : va_D A (xW cI cS cZ ad wc wb kp tp σ α) := hD
  obtain ⟨H, hH⟩ : ∃ H, H = s.heap := ⟨_, rfl⟩
  obtain ⟨locs, hlocs⟩ : ∃ locs : List Loc, locs = [] := ⟨_, rfl⟩
  have hP : va_P D gCl (xW cI cS cZ ad wc wb kp tp σ α) H := by rw [hH]; exact hP
  have hS : va_S A s.heap H locs := by rw [hH, hlocs]; exact hS
  suffices K : W p l e rm_Pl_lead s m ([.ref (tp 0), .int x1, .int x2] : List Value).toArray below meth c H locs 0 0 Q (F0 m 0 ls []) by rw [hH, hlocs] at K; exact K
  clear hH hlocs
  refine lv_iload_n hx hb d_Pl_lead_0 rfl (lv_at hl 2 rfl) ?_
  refine lv_iload_n hx hb d_Pl_lead_1 rfl (lv_at hl 1 rfl) ?_
  refine lv_isub hx hb d_Pl_lead_2 ?_
  refine lv_iconst (v := 2) hx hb d_Pl_lead_3 (by decide) ?_
  refine lv_isub hx hb d_Pl_lead_4 ?_
  refine lv_bipush (v := 31) hx hb d_Pl_lead_5 (by decide) ?_
  refine lv_iand hx hb d_Pl_lead_7 ?_
  refine lv_istore_n hx hb d_Pl_lead_8 rfl hl (by decide) rfl (fun ls hl => ?_)
  have hl : lv_has ls 4 [(3, .int (((x2 - x1) - (2 : Int32)) &&& (31 : Int32))), (0, .ref (tp 0)), (1, .int x1), (2, .int x2)] := hl
  refine lv_aload_n hx hb d_Pl_lead_9 rfl (lv_at hl 1 rfl) ?_
  refine va_get (D := D) (ci := 8) (v := .ref (tp 1)) (C := R_Pl) (T := T_Pl) (N := 9) hx hb hts i_Pl hown hK hP 24 rfl rfl 0 (by decide) (hts _ tw_223) (fun _ h9 => h9) rfl d_Pl_lead_10 ?_
  refine lv_iload_n hx hb d_Pl_lead_13 rfl (lv_at hl 2 rfl) ?_
  refine lv_dup2_11 hx hb d_Pl_lead_14 rfl rfl ?_
  obtain ⟨hin, hw⟩ := hw
  refine va_iald (f := α 25) hx hb hK hP 25 0 rfl rfl hin d_Pl_lead_15 ?_
  refine lv_iload_n hx hb d_Pl_lead_16 rfl (lv_at hl 0 rfl) ?_
  refine lv_bipush (v := 15) hx hb d_Pl_lead_17 (by decide) ?_
  refine lv_ishl hx hb d_Pl_lead_19 ?_
  refine lv_iload_n hx hb d_Pl_lead_20 rfl (lv_at hl 3 rfl) ?_
  refine lv_bipush (v := 32) hx hb d_Pl_lead_21 (by decide) ?_
  refine lv_idiv hx hb d_Pl_lead_23 (by decide) ?_
  refine lv_bipush (v := 20) hx hb d_Pl_lead_24 (by decide) ?_
  refine lv_ishl hx hb d_Pl_lead_26 ?_
  refine lv_ior hx hb d_Pl_lead_27 ?_
  refine lv_ior hx hb d_Pl_lead_28 ?_
  obtain ⟨hin, hw⟩ := hw
  refine va_iast (f := α 25) (i := x1) (x := (α 25 x1.toNatClampNeg) ||| (((((x2 - x1) - (2 : Int32)) &&& (31 : Int32)) <<< ((15 : Int32) &&& 31)) ||| ((x2 / (32 : Int32)) <<< ((20 : Int32) &&& 31)))) hx hb hK hP hD hS 25 0 rfl rfl hin d_Pl_lead_29 (fun H locs hP hD hS => ?_)
  rw [xW_s25] at hP hD
  have hP : va_P D gCl (xW cI cS cZ ad wc wb kp tp σ (va_up α 25 (upd (α 25) x1.toNatClampNeg ((α 25 x1.toNatClampNeg) ||| (((((x2 - x1) - (2 : Int32)) &&& (31 : Int32)) <<< ((15 : Int32) &&& 31)) ||| ((x2 / (32 : Int32)) <<< ((20 : Int32) &&& 31))))))) H := hP
  have hD : va_D A (xW cI cS cZ ad wc wb kp tp σ (va_up α 25 (upd (α 25) x1.toNatClampNeg ((α 25 x1.toNatClampNeg) ||| (((((x2 - x1) - (2 : Int32)) &&& (31 : Int32)) <<< ((15 : Int32) &&& 31)) ||| ((x2 / (32 : Int32)) <<< ((20 : Int32) &&& 31))))))) := hD
  exact hret H locs 30 ls (σ, (va_up α 25 (upd (α 25) x1.toNatClampNeg ((α 25 x1.toNatClampNeg) ||| (((((x2 - x1) - (2 : Int32)) &&& (31 : Int32)) <<< ((15 : Int32) &&& 31)) ||| ((x2 / (32 : Int32)) <<< ((20 : Int32) &&& 31))))))) d_Pl_lead_30 hP hD hS hw
abbrev rm_Pl_occupy : Room := { frames := 1, cells := 0, slots := 0, locals := 23 }
set_option maxHeartbeats 4000000 in
set_option maxRecDepth 100000 in
theorem c_Pl_occupy (l : Launch) (D : va_G) (cI cS cZ : ClassId) (ad : Nat → Nat) (wc wb : Nat) (kp tp : Nat → Nat) (σ : Nat → Int32) (α : Nat → Nat → Int32) (x1 : Int32) (x2 : Int32) (post : gS → Prop) (hw : wp_Pl_occupy σ α x1 x2 post) : gMv l y_Pl_occupy b_Pl_occupy 3 rm_Pl_occupy D (gT cI cS cZ) (fun u : gS => xW cI cS cZ ad wc wb kp tp u.1 u.2) [.ref (tp 0), .int x1, .int x2] (σ, α) post := by
  refine gMv.of (by decide) (Nat.le_of_ble_eq_true rfl) ?_
  intro p e s m below meth c Q A hx hb hml hown hts hK hN hA hS hP hD hret ls hl
  have hl : lv_has ls 3 [(0, .ref (tp 0)), (1, .int x1), (2, .int x2)] := hl
  have J16 : ∀ (σ : Nat → Int32) (α : Nat → Nat → Int32) (a1 : Int32) (a2 : Int32) (ls : Array Slot) (H : Heap) (locs : List Loc), lv_has ls 3 [(0, .ref (tp 0)), (1, .int a1), (2, .int a2)] → va_P D gCl (xW cI cS cZ ad wc wb kp tp σ α) H → va_D A (xW cI cS cZ ad wc wb kp tp σ α) → va_S A s.heap H locs → wp_Pl_occupy_J16 σ α a1 a2 post → W p l e rm_Pl_occupy s m ([.ref (tp 0), .int x1, .int x2] : List Value).toArray below meth c H locs 0 0 Q (F0 m 16 ls []) := by
    intro σ α a1 a2 ls H locs hl hP hD hS hw
    unfold wp_Pl_occupy_J16 at hw
    refine lv_aload_n hx hb d_Pl_occupy_16 rfl (lv_at hl 0 rfl) ?_
    refine va_get (D := D) (ci := 8) (v := .ref (tp 1)) (C := R_Pl) (T := T_Pl) (N := 9) hx hb hts i_Pl hown hK hP 24 rfl rfl 0 (by decide) (hts _ tw_223) (fun _ h9 => h9) rfl d_Pl_occupy_17 ?_
    refine lv_iload_n hx hb d_Pl_occupy_20 rfl (lv_at hl 1 rfl) ?_
    refine lv_iload_n hx hb d_Pl_occupy_21 rfl (lv_at hl 2 rfl) ?_
    obtain ⟨hin, hw⟩ := hw
    refine va_iast (f := α 25) (i := a1) (x := a2) hx hb hK hP hD hS 25 0 rfl rfl hin d_Pl_occupy_22 (fun H locs hP hD hS => ?_)
    rw [xW_s25] at hP hD
    have hP : va_P D gCl (xW cI cS cZ ad wc wb kp tp σ (va_up α 25 (upd (α 25) a1.toNatClampNeg a2))) H := hP
    have hD : va_D A (xW cI cS cZ ad wc wb kp tp σ (va_up α 25 (upd (α 25) a1.toNatClampNeg a2))) := hD
    refine lv_aload_n hx hb d_Pl_occupy_23 rfl (lv_at hl 0 rfl) ?_
    refine lv_iload_n hx hb d_Pl_occupy_24 rfl (lv_at hl 1 rfl) ?_
    refine va_put (D := D) (ci := 8) (v := .int a1) (ty := .int) (C := R_Pl) (T := T_Pl) (N := 9) hx hb hts i_Pl t_Pl o_Pl n_Pl hown hK hP hD hS 24 rfl rfl 6 (by decide) (hts _ tw_232) (fun _ h9 => h9) rfl (by decide +kernel) rfl rfl (Nat.le_of_ble_eq_true rfl) d_Pl_occupy_25 (fun H locs hP hD hS => ?_)
    have hP : va_P D gCl (xW cI cS cZ ad wc wb kp tp (va_up σ 34 a1) (va_up α 25 (upd (α 25) a1.toNatClampNeg a2))) H := hP
    have hD : va_D A (xW cI cS cZ ad wc wb kp tp (va_up σ 34 a1) (va_up α 25 (upd (α 25) a1.toNatClampNeg a2))) := hD
    refine lv_aload_n hx hb d_Pl_occupy_28 rfl (lv_at hl 0 rfl) ?_
    refine lv_dup hx hb d_Pl_occupy_29 rfl ?_
    refine va_get (D := D) (ci := 8) (v := .int (σ 35)) (C := R_Pl) (T := T_Pl) (N := 9) hx hb hts i_Pl hown hK hP 24 rfl rfl 7 (by decide) (hts _ tw_233) (fun _ h9 => h9) rfl d_Pl_occupy_30 ?_
    refine lv_iconst (v := 1) hx hb d_Pl_occupy_33 (by decide) ?_
    refine lv_iadd hx hb d_Pl_occupy_34 ?_
    refine va_put (D := D) (ci := 8) (v := .int ((σ 35) + (1 : Int32))) (ty := .int) (C := R_Pl) (T := T_Pl) (N := 9) hx hb hts i_Pl t_Pl o_Pl n_Pl hown hK hP hD hS 24 rfl rfl 7 (by decide) (hts _ tw_233) (fun _ h9 => h9) rfl (by decide +kernel) rfl rfl (Nat.le_of_ble_eq_true rfl) d_Pl_occupy_35 (fun H locs hP hD hS => ?_)
    have hP : va_P D gCl (xW cI cS cZ ad wc wb kp tp (va_up (va_up σ 34 a1) 35 ((σ 35) + (1 : Int32))) (va_up α 25 (upd (α 25) a1.toNatClampNeg a2))) H := hP
    have hD : va_D A (xW cI cS cZ ad wc wb kp tp (va_up (va_up σ 34 a1) 35 ((σ 35) + (1 : Int32))) (va_up α 25 (upd (α 25) a1.toNatClampNeg a2))) := hD
    exact hret H locs 38 ls ((va_up (va_up σ 34 a1) 35 ((σ 35) + (1 : Int32))), (va_up α 25 (upd (α 25) a1.toNatClampNeg a2))) d_Pl_occupy_38 hP hD hS hw
  unfold wp_Pl_occupy at hw
  have hP : va_P D gCl (xW cI cS cZ ad wc wb kp tp σ α) s.heap := hP
  have hD : va_D A (xW cI cS cZ ad wc wb kp tp σ α) := hD
  obtain ⟨H, hH⟩ : ∃ H, H = s.heap := ⟨_, rfl⟩
  obtain ⟨locs, hlocs⟩ : ∃ locs : List Loc, locs = [] := ⟨_, rfl⟩
  have hP : va_P D gCl (xW cI cS cZ ad wc wb kp tp σ α) H := by rw [hH]; exact hP
  have hS : va_S A s.heap H locs := by rw [hH, hlocs]; exact hS
  suffices K : W p l e rm_Pl_occupy s m ([.ref (tp 0), .int x1, .int x2] : List Value).toArray below meth c H locs 0 0 Q (F0 m 0 ls []) by rw [hH, hlocs] at K; exact K
  clear hH hlocs
  refine lv_aload_n hx hb d_Pl_occupy_0 rfl (lv_at hl 0 rfl) ?_
  refine va_get (D := D) (ci := 8) (v := .int (σ 34)) (C := R_Pl) (T := T_Pl) (N := 9) hx hb hts i_Pl hown hK hP 24 rfl rfl 6 (by decide) (hts _ tw_232) (fun _ h9 => h9) rfl d_Pl_occupy_1 ?_
  refine lv_if_lt (tgt := 16) hx hb d_Pl_occupy_4 (by decide) (fun h => ?_) (fun h => ?_)
  · have hw := hw.1 h
    exact J16 σ α x1 x2 ls H locs (lv_sub hl [0, 1, 2] rfl) hP hD hS hw
  · have hw := hw.2 h
    refine lv_aload_n hx hb d_Pl_occupy_7 rfl (lv_at hl 0 rfl) ?_
    refine lv_aload_n hx hb d_Pl_occupy_8 rfl (lv_at hl 0 rfl) ?_
    refine va_get (D := D) (ci := 8) (v := .int (σ 34)) (C := R_Pl) (T := T_Pl) (N := 9) hx hb hts i_Pl hown hK hP 24 rfl rfl 6 (by decide) (hts _ tw_232) (fun _ h9 => h9) rfl d_Pl_occupy_9 ?_
    refine lv_iload_n hx hb d_Pl_occupy_12 rfl (lv_at hl 1 rfl) ?_
    refine gCallVv (b := tp 0) (As := [.int (σ 34), .int x1]) (rest := []) (c_Pl_lead l D cI cS cZ ad wc wb kp tp σ α (σ 34) x1 _ hw) hx hb hml hown hts hK hN hA hS hP hD (cwV 2 hts (gGV tw_487 tw_489 ts_15 tw_9 tw_490) rfl rfl rfl ⟨rfl, by decide, by decide, by decide +kernel⟩ ⟨Nat.le_of_ble_eq_true rfl, Nat.le_of_ble_eq_true rfl⟩) (va_recv (ci := 8) (q0 := 24) hK hP rfl rfl) rfl hl.1 rfl (Nat.le_of_ble_eq_true rfl) d_Pl_occupy_13 (fun u13 H locs hw hP hD hS => ?_)
    have hP : va_P D gCl (xW cI cS cZ ad wc wb kp tp u13.1 u13.2) H := hP
    have hD : va_D A (xW cI cS cZ ad wc wb kp tp u13.1 u13.2) := hD
    exact J16 u13.1 u13.2 x1 x2 ls H locs (lv_sub hl [0, 1, 2] rfl) hP hD hS hw
abbrev rm_Pl_placeOrder : Room := { frames := 2, cells := 0, slots := 0, locals := 45 }
set_option maxHeartbeats 4000000 in
set_option maxRecDepth 100000 in
theorem c_Pl_placeOrder (l : Launch) (D : va_G) (cI cS cZ : ClassId) (ad : Nat → Nat) (wc wb : Nat) (kp tp : Nat → Nat) (σ : Nat → Int32) (α : Nat → Nat → Int32) (x1 : Int32) (x2 : Int32) (x3 : Int32) (post : gS → Prop) (hw : wp_Pl_placeOrder σ α x1 x2 x3 post) : gMv l y_Pl_placeOrder b_Pl_placeOrder 7 rm_Pl_placeOrder D (gT cI cS cZ) (fun u : gS => xW cI cS cZ ad wc wb kp tp u.1 u.2) [.ref (tp 0), .int x1, .int x2, .int x3] (σ, α) post := by
  refine gMv.of (by decide) (Nat.le_of_ble_eq_true rfl) ?_
  intro p e s m below meth c Q A hx hb hml hown hts hK hN hA hS hP hD hret ls hl
  have hl : lv_has ls 7 [(0, .ref (tp 0)), (1, .int x1), (2, .int x2), (3, .int x3)] := hl
  have J55 : ∀ (σ : Nat → Int32) (α : Nat → Nat → Int32) (a1 : Int32) (a2 : Int32) (a4 : Int32) (a5 : Int32) (t0 : Int32) (ls : Array Slot) (H : Heap) (locs : List Loc), lv_has ls 7 [(0, .ref (tp 0)), (1, .int a1), (2, .int a2), (4, .int a4), (5, .int a5)] → va_P D gCl (xW cI cS cZ ad wc wb kp tp σ α) H → va_D A (xW cI cS cZ ad wc wb kp tp σ α) → va_S A s.heap H locs → wp_Pl_placeOrder_J55 σ α a1 a2 a4 a5 t0 post → W p l e rm_Pl_placeOrder s m ([.ref (tp 0), .int x1, .int x2, .int x3] : List Value).toArray below meth c H locs 0 0 Q (F0 m 55 ls [.int t0]) := by
    intro σ α a1 a2 a4 a5 t0 ls H locs hl hP hD hS hw
    unfold wp_Pl_placeOrder_J55 at hw
    refine lv_istore hx hb d_Pl_placeOrder_55 hl (by decide) rfl (fun ls hl => ?_)
    have hl : lv_has ls 7 [(6, .int t0), (0, .ref (tp 0)), (1, .int a1), (2, .int a2), (4, .int a4), (5, .int a5)] := hl
    refine lv_aload_n hx hb d_Pl_placeOrder_57 rfl (lv_at hl 1 rfl) ?_
    refine lv_iload hx hb d_Pl_placeOrder_58 (lv_at hl 4 rfl) ?_
    refine lv_iload_n hx hb d_Pl_placeOrder_60 rfl (lv_at hl 2 rfl) ?_
    refine lv_iload_n hx hb d_Pl_placeOrder_61 rfl (lv_at hl 3 rfl) ?_
    refine lv_iconst (v := 4) hx hb d_Pl_placeOrder_62 (by decide) ?_
    refine lv_ishl hx hb d_Pl_placeOrder_63 ?_
    refine lv_ior hx hb d_Pl_placeOrder_64 ?_
    refine lv_iload hx hb d_Pl_placeOrder_65 (lv_at hl 0 rfl) ?_
    refine lv_bipush (v := 10) hx hb d_Pl_placeOrder_67 (by decide) ?_
    refine lv_ishl hx hb d_Pl_placeOrder_69 ?_
    refine lv_ior hx hb d_Pl_placeOrder_70 ?_
    refine gCallVv (b := tp 0) (As := [.int a4, .int ((a1 ||| (a2 <<< ((4 : Int32) &&& 31))) ||| (t0 <<< ((10 : Int32) &&& 31)))]) (rest := []) (c_Pl_occupy l D cI cS cZ ad wc wb kp tp σ α a4 ((a1 ||| (a2 <<< ((4 : Int32) &&& 31))) ||| (t0 <<< ((10 : Int32) &&& 31))) _ hw) hx hb hml hown hts hK hN hA hS hP hD (cwV 2 hts (gGV tw_483 tw_485 ts_14 tw_9 tw_486) rfl rfl rfl ⟨rfl, by decide, by decide, by decide +kernel⟩ ⟨Nat.le_of_ble_eq_true rfl, Nat.le_of_ble_eq_true rfl⟩) (va_recv (ci := 8) (q0 := 24) hK hP rfl rfl) rfl hl.1 rfl (Nat.le_of_ble_eq_true rfl) d_Pl_placeOrder_71 (fun u71 H locs hw hP hD hS => ?_)
    have hP : va_P D gCl (xW cI cS cZ ad wc wb kp tp u71.1 u71.2) H := hP
    have hD : va_D A (xW cI cS cZ ad wc wb kp tp u71.1 u71.2) := hD
    refine lv_aload_n hx hb d_Pl_placeOrder_74 rfl (lv_at hl 1 rfl) ?_
    refine lv_iload hx hb d_Pl_placeOrder_75 (lv_at hl 5 rfl) ?_
    refine lv_iload hx hb d_Pl_placeOrder_77 (lv_at hl 0 rfl) ?_
    refine lv_iadd hx hb d_Pl_placeOrder_79 ?_
    refine lv_bipush (v := 31) hx hb d_Pl_placeOrder_80 (by decide) ?_
    refine lv_iand hx hb d_Pl_placeOrder_82 ?_
    refine va_put (D := D) (ci := 8) (v := .int ((a5 + t0) &&& (31 : Int32))) (ty := .int) (C := R_Pl) (T := T_Pl) (N := 9) hx hb hts i_Pl t_Pl o_Pl n_Pl hown hK hP hD hS 24 rfl rfl 5 (by decide) (hts _ tw_231) (fun _ h9 => h9) rfl (by decide +kernel) rfl rfl (Nat.le_of_ble_eq_true rfl) d_Pl_placeOrder_83 (fun H locs hP hD hS => ?_)
    have hP : va_P D gCl (xW cI cS cZ ad wc wb kp tp (va_up u71.1 33 ((a5 + t0) &&& (31 : Int32))) u71.2) H := hP
    have hD : va_D A (xW cI cS cZ ad wc wb kp tp (va_up u71.1 33 ((a5 + t0) &&& (31 : Int32))) u71.2) := hD
    exact hret H locs 86 ls ((va_up u71.1 33 ((a5 + t0) &&& (31 : Int32))), u71.2) d_Pl_placeOrder_86 hP hD hS hw
  have J18 : ∀ (σ : Nat → Int32) (α : Nat → Nat → Int32) (ls : Array Slot) (H : Heap) (locs : List Loc), lv_has ls 7 [(0, .ref (tp 0))] → va_P D gCl (xW cI cS cZ ad wc wb kp tp σ α) H → va_D A (xW cI cS cZ ad wc wb kp tp σ α) → va_S A s.heap H locs → wp_Pl_placeOrder_J18 σ α post → W p l e rm_Pl_placeOrder s m ([.ref (tp 0), .int x1, .int x2, .int x3] : List Value).toArray below meth c H locs 0 0 Q (F0 m 18 ls []) := by
    intro σ α ls H locs hl hP hD hS hw
    unfold wp_Pl_placeOrder_J18 at hw
    refine lv_aload_n hx hb d_Pl_placeOrder_18 rfl (lv_at hl 0 rfl) ?_
    refine lv_iconst (v := 0) hx hb d_Pl_placeOrder_19 (by decide) ?_
    refine va_put (D := D) (ci := 8) (v := .int (0 : Int32)) (ty := .boolean) (C := R_Pl) (T := T_Pl) (N := 9) hx hb hts i_Pl t_Pl o_Pl n_Pl hown hK hP hD hS 24 rfl rfl 8 (by decide) (hts _ tw_235) (fun _ h9 => h9) rfl (by decide +kernel) rfl rfl (Nat.le_of_ble_eq_true rfl) d_Pl_placeOrder_20 (fun H locs hP hD hS => ?_)
    have hP : va_P D gCl (xW cI cS cZ ad wc wb kp tp (va_up σ 36 (0 : Int32)) α) H := hP
    have hD : va_D A (xW cI cS cZ ad wc wb kp tp (va_up σ 36 (0 : Int32)) α) := hD
    exact hret H locs 23 ls ((va_up σ 36 (0 : Int32)), α) d_Pl_placeOrder_23 hP hD hS hw
  unfold wp_Pl_placeOrder at hw
  have hP : va_P D gCl (xW cI cS cZ ad wc wb kp tp σ α) s.heap := hP
  have hD : va_D A (xW cI cS cZ ad wc wb kp tp σ α) := hD
  obtain ⟨H, hH⟩ : ∃ H, H = s.heap := ⟨_, rfl⟩
  obtain ⟨locs, hlocs⟩ : ∃ locs : List Loc, locs = [] := ⟨_, rfl⟩
  have hP : va_P D gCl (xW cI cS cZ ad wc wb kp tp σ α) H := by rw [hH]; exact hP
  have hS : va_S A s.heap H locs := by rw [hH, hlocs]; exact hS
  suffices K : W p l e rm_Pl_placeOrder s m ([.ref (tp 0), .int x1, .int x2, .int x3] : List Value).toArray below meth c H locs 0 0 Q (F0 m 0 ls []) by rw [hH, hlocs] at K; exact K
  clear hH hlocs
  refine lv_aload_n hx hb d_Pl_placeOrder_0 rfl (lv_at hl 0 rfl) ?_
  refine gCallVi (b := tp 0) (As := []) (rest := []) (c_Pl_freeSpot l D cI cS cZ ad wc wb kp tp σ α _ hw) hx hb hml hown hts hK hN hA hS hP hD (cwV 0 hts (gGV tw_463 tw_465 ts_9 tw_9 tw_466) rfl rfl rfl ⟨rfl, by decide, by decide, by decide +kernel⟩ ⟨Nat.le_of_ble_eq_true rfl, Nat.le_of_ble_eq_true rfl⟩) (va_recv (ci := 8) (q0 := 24) hK hP rfl rfl) rfl hl.1 rfl (Nat.le_of_ble_eq_true rfl) d_Pl_placeOrder_1 (fun r1 u1 H locs hw hP hD hS => ?_)
  have hP : va_P D gCl (xW cI cS cZ ad wc wb kp tp u1.1 u1.2) H := hP
  have hD : va_D A (xW cI cS cZ ad wc wb kp tp u1.1 u1.2) := hD
  refine lv_istore hx hb d_Pl_placeOrder_4 hl (by decide) rfl (fun ls hl => ?_)
  have hl : lv_has ls 7 [(4, .int r1), (0, .ref (tp 0)), (1, .int x1), (2, .int x2), (3, .int x3)] := hl
  refine lv_aload_n hx hb d_Pl_placeOrder_6 rfl (lv_at hl 1 rfl) ?_
  refine va_get (D := D) (ci := 8) (v := .int (u1.1 36)) (C := R_Pl) (T := T_Pl) (N := 9) hx hb hts i_Pl hown hK hP 24 rfl rfl 8 (by decide) (hts _ tw_235) (fun _ h9 => h9) rfl d_Pl_placeOrder_7 ?_
  refine lv_if_eq (tgt := 18) hx hb d_Pl_placeOrder_10 (by decide) (fun h => ?_) (fun h => ?_)
  · have hw := hw.1 h
    exact J18 u1.1 u1.2 ls H locs (lv_sub hl [1] rfl) hP hD hS hw
  · have hw := hw.2 h
    refine lv_iload hx hb d_Pl_placeOrder_13 (lv_at hl 0 rfl) ?_
    refine lv_if_ge (tgt := 24) hx hb d_Pl_placeOrder_15 (by decide) (fun h => ?_) (fun h => ?_)
    · have hw := hw.1 h
      refine lv_iload hx hb d_Pl_placeOrder_24 (lv_at hl 0 rfl) ?_
      refine lv_iconst (v := 2) hx hb d_Pl_placeOrder_26 (by decide) ?_
      refine lv_iadd hx hb d_Pl_placeOrder_27 ?_
      refine lv_bipush (v := 31) hx hb d_Pl_placeOrder_28 (by decide) ?_
      refine lv_iand hx hb d_Pl_placeOrder_30 ?_
      refine lv_istore hx hb d_Pl_placeOrder_31 hl (by decide) rfl (fun ls hl => ?_)
      have hl : lv_has ls 7 [(5, .int ((r1 + (2 : Int32)) &&& (31 : Int32))), (4, .int r1), (0, .ref (tp 0)), (1, .int x1), (2, .int x2), (3, .int x3)] := hl
      refine lv_iload_n hx hb d_Pl_placeOrder_33 rfl (lv_at hl 5 rfl) ?_
      refine lv_iconst (v := (-1)) hx hb d_Pl_placeOrder_34 (by decide) ?_
      refine lv_icmp_ne (tgt := 42) hx hb d_Pl_placeOrder_35 (by decide) (fun h => ?_) (fun h => ?_)
      · have hw := hw.1 h
        refine lv_aload_n hx hb d_Pl_placeOrder_42 rfl (lv_at hl 2 rfl) ?_
        refine lv_iload_n hx hb d_Pl_placeOrder_43 rfl (lv_at hl 5 rfl) ?_
        refine lv_iload hx hb d_Pl_placeOrder_44 (lv_at hl 0 rfl) ?_
        refine gCallVi (b := tp 0) (As := [.int x3, .int ((r1 + (2 : Int32)) &&& (31 : Int32))]) (rest := []) (c_Pl_variablePlace l D cI cS cZ ad wc wb kp tp u1.1 u1.2 x3 ((r1 + (2 : Int32)) &&& (31 : Int32)) _ hw) hx hb hml hown hts hK hN hA hS hP hD (cwV 2 hts (gGV tw_479 tw_481 ts_13 tw_9 tw_482) rfl rfl rfl ⟨rfl, by decide, by decide, by decide +kernel⟩ ⟨Nat.le_of_ble_eq_true rfl, Nat.le_of_ble_eq_true rfl⟩) (va_recv (ci := 8) (q0 := 24) hK hP rfl rfl) rfl hl.1 rfl (Nat.le_of_ble_eq_true rfl) d_Pl_placeOrder_46 (fun r46 u46 H locs hw hP hD hS => ?_)
        have hP : va_P D gCl (xW cI cS cZ ad wc wb kp tp u46.1 u46.2) H := hP
        have hD : va_D A (xW cI cS cZ ad wc wb kp tp u46.1 u46.2) := hD
        refine lv_iload hx hb d_Pl_placeOrder_49 (lv_at hl 0 rfl) ?_
        refine lv_isub hx hb d_Pl_placeOrder_51 ?_
        refine lv_bipush (v := 31) hx hb d_Pl_placeOrder_52 (by decide) ?_
        refine lv_iand hx hb d_Pl_placeOrder_54 ?_
        exact J55 u46.1 u46.2 x1 x2 r1 ((r1 + (2 : Int32)) &&& (31 : Int32)) ((r46 - ((r1 + (2 : Int32)) &&& (31 : Int32))) &&& (31 : Int32)) ls H locs (lv_sub hl [2, 3, 4, 1, 0] rfl) hP hD hS hw
      · have hw := hw.2 h
        refine lv_iconst (v := 0) hx hb d_Pl_placeOrder_38 (by decide) ?_
        refine lv_goto (tgt := 55) hx hb d_Pl_placeOrder_39 (by decide) ?_
        exact J55 u1.1 u1.2 x1 x2 r1 ((r1 + (2 : Int32)) &&& (31 : Int32)) (0 : Int32) ls H locs (lv_sub hl [2, 3, 4, 1, 0] rfl) hP hD hS hw
    · have hw := hw.2 h
      exact J18 u1.1 u1.2 ls H locs (lv_sub hl [1] rfl) hP hD hS hw
abbrev rm_Pl_placeStop : Room := { frames := 3, cells := 0, slots := 0, locals := 71 }
set_option maxHeartbeats 4000000 in
set_option maxRecDepth 100000 in
theorem c_Pl_placeStop (l : Launch) (D : va_G) (cI cS cZ : ClassId) (ad : Nat → Nat) (wc wb : Nat) (kp tp : Nat → Nat) (σ : Nat → Int32) (α : Nat → Nat → Int32) (post : gS → Prop) (hw : wp_Pl_placeStop σ α post) : gMv l y_Pl_placeStop b_Pl_placeStop 1 rm_Pl_placeStop D (gT cI cS cZ) (fun u : gS => xW cI cS cZ ad wc wb kp tp u.1 u.2) [.ref (tp 0)] (σ, α) post := by
  refine gMv.of (by decide) (Nat.le_of_ble_eq_true rfl) ?_
  intro p e s m below meth c Q A hx hb hml hown hts hK hN hA hS hP hD hret ls hl
  have hl : lv_has ls 1 [(0, .ref (tp 0))] := hl
  have J30 : ∀ (σ : Nat → Int32) (α : Nat → Nat → Int32) (ls : Array Slot) (H : Heap) (locs : List Loc), lv_has ls 1 [] → va_P D gCl (xW cI cS cZ ad wc wb kp tp σ α) H → va_D A (xW cI cS cZ ad wc wb kp tp σ α) → va_S A s.heap H locs → wp_Pl_placeStop_J30 σ α post → W p l e rm_Pl_placeStop s m ([.ref (tp 0)] : List Value).toArray below meth c H locs 0 0 Q (F0 m 30 ls []) := by
    intro σ α ls H locs hl hP hD hS hw
    unfold wp_Pl_placeStop_J30 at hw
    exact hret H locs 30 ls (σ, α) d_Pl_placeStop_30 hP hD hS hw
  unfold wp_Pl_placeStop at hw
  have hP : va_P D gCl (xW cI cS cZ ad wc wb kp tp σ α) s.heap := hP
  have hD : va_D A (xW cI cS cZ ad wc wb kp tp σ α) := hD
  obtain ⟨H, hH⟩ : ∃ H, H = s.heap := ⟨_, rfl⟩
  obtain ⟨locs, hlocs⟩ : ∃ locs : List Loc, locs = [] := ⟨_, rfl⟩
  have hP : va_P D gCl (xW cI cS cZ ad wc wb kp tp σ α) H := by rw [hH]; exact hP
  have hS : va_S A s.heap H locs := by rw [hH, hlocs]; exact hS
  suffices K : W p l e rm_Pl_placeStop s m ([.ref (tp 0)] : List Value).toArray below meth c H locs 0 0 Q (F0 m 0 ls []) by rw [hH, hlocs] at K; exact K
  clear hH hlocs
  refine lv_aload_n hx hb d_Pl_placeStop_0 rfl (lv_at hl 0 rfl) ?_
  refine lv_iconst (v := 0) hx hb d_Pl_placeStop_1 (by decide) ?_
  refine lv_iconst (v := 1) hx hb d_Pl_placeStop_2 (by decide) ?_
  refine lv_iconst (v := (-1)) hx hb d_Pl_placeStop_3 (by decide) ?_
  refine gCallVv (b := tp 0) (As := [.int (0 : Int32), .int (1 : Int32), .int (-1 : Int32)]) (rest := []) (c_Pl_placeOrder l D cI cS cZ ad wc wb kp tp σ α (0 : Int32) (1 : Int32) (-1 : Int32) _ hw) hx hb hml hown hts hK hN hA hS hP hD (cwV 3 hts (gGV tw_475 tw_477 ts_12 tw_9 tw_478) rfl rfl rfl ⟨rfl, by decide, by decide, by decide +kernel⟩ ⟨Nat.le_of_ble_eq_true rfl, Nat.le_of_ble_eq_true rfl⟩) (va_recv (ci := 8) (q0 := 24) hK hP rfl rfl) rfl hl.1 rfl (Nat.le_of_ble_eq_true rfl) d_Pl_placeStop_4 (fun u4 H locs hw hP hD hS => ?_)
  have hP : va_P D gCl (xW cI cS cZ ad wc wb kp tp u4.1 u4.2) H := hP
  have hD : va_D A (xW cI cS cZ ad wc wb kp tp u4.1 u4.2) := hD
  refine lv_aload_n hx hb d_Pl_placeStop_7 rfl (lv_at hl 0 rfl) ?_
  refine va_get (D := D) (ci := 8) (v := .int (u4.1 36)) (C := R_Pl) (T := T_Pl) (N := 9) hx hb hts i_Pl hown hK hP 24 rfl rfl 8 (by decide) (hts _ tw_235) (fun _ h9 => h9) rfl d_Pl_placeStop_8 ?_
  refine lv_if_eq (tgt := 30) hx hb d_Pl_placeStop_11 (by decide) (fun h => ?_) (fun h => ?_)
  · have hw := hw.1 h
    exact J30 u4.1 u4.2 ls H locs (lv_sub hl [] rfl) hP hD hS hw
  · have hw := hw.2 h
    refine lv_aload_n hx hb d_Pl_placeStop_14 rfl (lv_at hl 0 rfl) ?_
    refine va_get (D := D) (ci := 8) (v := .ref (tp 1)) (C := R_Pl) (T := T_Pl) (N := 9) hx hb hts i_Pl hown hK hP 24 rfl rfl 0 (by decide) (hts _ tw_223) (fun _ h9 => h9) rfl d_Pl_placeStop_15 ?_
    refine lv_aload_n hx hb d_Pl_placeStop_18 rfl (lv_at hl 0 rfl) ?_
    refine va_get (D := D) (ci := 8) (v := .int (u4.1 34)) (C := R_Pl) (T := T_Pl) (N := 9) hx hb hts i_Pl hown hK hP 24 rfl rfl 6 (by decide) (hts _ tw_232) (fun _ h9 => h9) rfl d_Pl_placeStop_19 ?_
    refine lv_ldc hx hb hown (hts _ tw_503) d_Pl_placeStop_22 ?_
    obtain ⟨hin, hw⟩ := hw
    refine va_iast (f := u4.2 25) (i := u4.1 34) (x := (1015824 : Int32)) hx hb hK hP hD hS 25 0 rfl rfl hin d_Pl_placeStop_24 (fun H locs hP hD hS => ?_)
    rw [xW_s25] at hP hD
    have hP : va_P D gCl (xW cI cS cZ ad wc wb kp tp u4.1 (va_up u4.2 25 (upd (u4.2 25) (u4.1 34).toNatClampNeg (1015824 : Int32)))) H := hP
    have hD : va_D A (xW cI cS cZ ad wc wb kp tp u4.1 (va_up u4.2 25 (upd (u4.2 25) (u4.1 34).toNatClampNeg (1015824 : Int32)))) := hD
    refine lv_aload_n hx hb d_Pl_placeStop_25 rfl (lv_at hl 0 rfl) ?_
    refine lv_iconst (v := (-1)) hx hb d_Pl_placeStop_26 (by decide) ?_
    refine va_put (D := D) (ci := 8) (v := .int (-1 : Int32)) (ty := .int) (C := R_Pl) (T := T_Pl) (N := 9) hx hb hts i_Pl t_Pl o_Pl n_Pl hown hK hP hD hS 24 rfl rfl 6 (by decide) (hts _ tw_232) (fun _ h9 => h9) rfl (by decide +kernel) rfl rfl (Nat.le_of_ble_eq_true rfl) d_Pl_placeStop_27 (fun H locs hP hD hS => ?_)
    have hP : va_P D gCl (xW cI cS cZ ad wc wb kp tp (va_up u4.1 34 (-1 : Int32)) (va_up u4.2 25 (upd (u4.2 25) (u4.1 34).toNatClampNeg (1015824 : Int32)))) H := hP
    have hD : va_D A (xW cI cS cZ ad wc wb kp tp (va_up u4.1 34 (-1 : Int32)) (va_up u4.2 25 (upd (u4.2 25) (u4.1 34).toNatClampNeg (1015824 : Int32)))) := hD
    exact J30 (va_up u4.1 34 (-1 : Int32)) (va_up u4.2 25 (upd (u4.2 25) (u4.1 34).toNatClampNeg (1015824 : Int32))) ls H locs (lv_sub hl [] rfl) hP hD hS hw
abbrev rm_Pl_forkSpot : Room := { frames := 1, cells := 0, slots := 0, locals := 22 }
set_option maxHeartbeats 4000000 in
set_option maxRecDepth 100000 in
theorem c_Pl_forkSpot (l : Launch) (D : va_G) (cI cS cZ : ClassId) (ad : Nat → Nat) (wc wb : Nat) (kp tp : Nat → Nat) (σ : Nat → Int32) (α : Nat → Nat → Int32) (post : Int32 → gS → Prop) (hw : wp_Pl_forkSpot σ α post) : gMi l y_Pl_forkSpot b_Pl_forkSpot 4 .int rm_Pl_forkSpot D (gT cI cS cZ) (fun u : gS => xW cI cS cZ ad wc wb kp tp u.1 u.2) [.ref (tp 0)] (σ, α) post := by
  refine gMi.of (by decide) (Nat.le_of_ble_eq_true rfl) ?_
  intro p e s m below meth c Q A hx hb hml hown hts hK hN hA hS hP hD hret ls hl
  have hl : lv_has ls 4 [(0, .ref (tp 0))] := hl
  have L2 : ∀ (σ : Nat → Int32) (α : Nat → Nat → Int32) (a1 : Int32) (ls : Array Slot) (H : Heap) (locs : List Loc), lv_has ls 4 [(0, .ref (tp 0)), (1, .int a1)] → va_P D gCl (xW cI cS cZ ad wc wb kp tp σ α) H → va_D A (xW cI cS cZ ad wc wb kp tp σ α) → va_S A s.heap H locs → wp_Pl_forkSpot_L2 σ α a1 post → W p l e rm_Pl_forkSpot s m ([.ref (tp 0)] : List Value).toArray below meth c H locs 0 0 Q (F0 m 2 ls []) := by
    intro σ α a1 ls H locs hl hP hD hS hw
    let XL2 : (Nat → Int32) → (Nat → Nat → Int32) → Int32 → Prop := fun σ α a1 => ∀ (ls : Array Slot) (H : Heap) (locs : List Loc), lv_has ls 4 [(0, .ref (tp 0)), (1, .int a1)] → va_P D gCl (xW cI cS cZ ad wc wb kp tp σ α) H → va_D A (xW cI cS cZ ad wc wb kp tp σ α) → va_S A s.heap H locs → W p l e rm_Pl_forkSpot s m ([.ref (tp 0)] : List Value).toArray below meth c H locs 0 0 Q (F0 m 2 ls [])
    have hX2 : ∀ (σ : Nat → Int32) (α : Nat → Nat → Int32) (a1 : Int32) (ls : Array Slot) (H : Heap) (locs : List Loc), lv_has ls 4 [(0, .ref (tp 0)), (1, .int a1)] → va_P D gCl (xW cI cS cZ ad wc wb kp tp σ α) H → va_D A (xW cI cS cZ ad wc wb kp tp σ α) → va_S A s.heap H locs → XL2 σ α a1 → W p l e rm_Pl_forkSpot s m ([.ref (tp 0)] : List Value).toArray below meth c H locs 0 0 Q (F0 m 2 ls []) := fun σ α a1 ls H locs hl hP hD hS hw => hw ls H locs hl hP hD hS
    refine hw XL2 ?_ ls H locs hl hP hD hS
    clear hw hl hP hD hS
    intro σ α a1 hw ls H locs hl hP hD hS
    unfold wp_Pl_forkSpot_B2 at hw
    have L20 : ∀ (σ : Nat → Int32) (α : Nat → Nat → Int32) (a1 : Int32) (a2 : Int32) (a3 : Int32) (ls : Array Slot) (H : Heap) (locs : List Loc), lv_has ls 4 [(0, .ref (tp 0)), (1, .int a1), (2, .int a2), (3, .int a3)] → va_P D gCl (xW cI cS cZ ad wc wb kp tp σ α) H → va_D A (xW cI cS cZ ad wc wb kp tp σ α) → va_S A s.heap H locs → wp_Pl_forkSpot_L20 XL2 σ α a1 a2 a3 post → W p l e rm_Pl_forkSpot s m ([.ref (tp 0)] : List Value).toArray below meth c H locs 0 0 Q (F0 m 20 ls []) := by
      intro σ α a1 a2 a3 ls H locs hl hP hD hS hw
      let XL20 : (Nat → Int32) → (Nat → Nat → Int32) → Int32 → Int32 → Int32 → Prop := fun σ α a1 a2 a3 => ∀ (ls : Array Slot) (H : Heap) (locs : List Loc), lv_has ls 4 [(0, .ref (tp 0)), (1, .int a1), (2, .int a2), (3, .int a3)] → va_P D gCl (xW cI cS cZ ad wc wb kp tp σ α) H → va_D A (xW cI cS cZ ad wc wb kp tp σ α) → va_S A s.heap H locs → W p l e rm_Pl_forkSpot s m ([.ref (tp 0)] : List Value).toArray below meth c H locs 0 0 Q (F0 m 20 ls [])
      have hX20 : ∀ (σ : Nat → Int32) (α : Nat → Nat → Int32) (a1 : Int32) (a2 : Int32) (a3 : Int32) (ls : Array Slot) (H : Heap) (locs : List Loc), lv_has ls 4 [(0, .ref (tp 0)), (1, .int a1), (2, .int a2), (3, .int a3)] → va_P D gCl (xW cI cS cZ ad wc wb kp tp σ α) H → va_D A (xW cI cS cZ ad wc wb kp tp σ α) → va_S A s.heap H locs → XL20 σ α a1 a2 a3 → W p l e rm_Pl_forkSpot s m ([.ref (tp 0)] : List Value).toArray below meth c H locs 0 0 Q (F0 m 20 ls []) := fun σ α a1 a2 a3 ls H locs hl hP hD hS hw => hw ls H locs hl hP hD hS
      refine hw XL20 ?_ ls H locs hl hP hD hS
      clear hw hl hP hD hS
      intro σ α a1 a2 a3 hw ls H locs hl hP hD hS
      unfold wp_Pl_forkSpot_B20 at hw
      have J55 : ∀ (σ : Nat → Int32) (α : Nat → Nat → Int32) (a1 : Int32) (a2 : Int32) (a3 : Int32) (ls : Array Slot) (H : Heap) (locs : List Loc), lv_has ls 4 [(0, .ref (tp 0)), (1, .int a1), (2, .int a2), (3, .int a3)] → va_P D gCl (xW cI cS cZ ad wc wb kp tp σ α) H → va_D A (xW cI cS cZ ad wc wb kp tp σ α) → va_S A s.heap H locs → wp_Pl_forkSpot_J55 XL2 XL20 σ α a1 a2 a3 post → W p l e rm_Pl_forkSpot s m ([.ref (tp 0)] : List Value).toArray below meth c H locs 0 0 Q (F0 m 55 ls []) := by
        intro σ α a1 a2 a3 ls H locs hl hP hD hS hw
        unfold wp_Pl_forkSpot_J55 at hw
        refine lv_iinc (k := 3) hx hb d_Pl_forkSpot_55 hl rfl rfl (by decide) rfl (fun ls hl => ?_)
        have hl : lv_has ls 4 [(3, .int (a3 + Int32.ofInt 1)), (0, .ref (tp 0)), (1, .int a1), (2, .int a2)] := hl
        refine lv_goto (tgt := 20) hx hb d_Pl_forkSpot_58 (by decide) ?_
        exact hX20 σ α a1 a2 (a3 + Int32.ofInt 1) ls H locs (lv_sub hl [1, 2, 3, 0] rfl) hP hD hS hw
      refine lv_iload_n hx hb d_Pl_forkSpot_20 rfl (lv_at hl 3 rfl) ?_
      refine lv_iconst (v := 2) hx hb d_Pl_forkSpot_21 (by decide) ?_
      refine lv_icmp_ge (tgt := 61) hx hb d_Pl_forkSpot_22 (by decide) (fun h => ?_) (fun h => ?_)
      · have hw := hw.1 h
        refine lv_iinc (k := 1) hx hb d_Pl_forkSpot_61 hl rfl rfl (by decide) rfl (fun ls hl => ?_)
        have hl : lv_has ls 4 [(1, .int (a1 + Int32.ofInt 1)), (0, .ref (tp 0)), (2, .int a2), (3, .int a3)] := hl
        refine lv_goto (tgt := 2) hx hb d_Pl_forkSpot_64 (by decide) ?_
        exact hX2 σ α (a1 + Int32.ofInt 1) ls H locs (lv_sub hl [1, 0] rfl) hP hD hS hw
      · have hw := hw.2 h
        refine lv_aload_n hx hb d_Pl_forkSpot_25 rfl (lv_at hl 0 rfl) ?_
        refine lv_iload_n hx hb d_Pl_forkSpot_26 rfl (lv_at hl 3 rfl) ?_
        refine lv_iload_n hx hb d_Pl_forkSpot_27 rfl (lv_at hl 2 rfl) ?_
        refine gCallVi (b := tp 0) (As := [.int a3, .int a2]) (rest := []) (c_Pl_isFree l D cI cS cZ ad wc wb kp tp σ α a3 a2 _ hw) hx hb hml hown hts hK hN hA hS hP hD (cwV 2 hts (gGV tw_467 tw_469 ts_10 tw_9 tw_470) rfl rfl rfl ⟨rfl, by decide, by decide, by decide +kernel⟩ ⟨Nat.le_of_ble_eq_true rfl, Nat.le_of_ble_eq_true rfl⟩) (va_recv (ci := 8) (q0 := 24) hK hP rfl rfl) rfl hl.1 rfl (Nat.le_of_ble_eq_true rfl) d_Pl_forkSpot_28 (fun r28 u28 H locs hw hP hD hS => ?_)
        have hP : va_P D gCl (xW cI cS cZ ad wc wb kp tp u28.1 u28.2) H := hP
        have hD : va_D A (xW cI cS cZ ad wc wb kp tp u28.1 u28.2) := hD
        refine lv_if_eq (tgt := 55) hx hb d_Pl_forkSpot_31 (by decide) (fun h => ?_) (fun h => ?_)
        · have hw := hw.1 h
          exact J55 u28.1 u28.2 a1 a2 a3 ls H locs (lv_sub hl [0, 1, 2, 3] rfl) hP hD hS hw
        · have hw := hw.2 h
          refine lv_aload_n hx hb d_Pl_forkSpot_34 rfl (lv_at hl 0 rfl) ?_
          refine lv_iload_n hx hb d_Pl_forkSpot_35 rfl (lv_at hl 3 rfl) ?_
          refine lv_iload_n hx hb d_Pl_forkSpot_36 rfl (lv_at hl 2 rfl) ?_
          refine lv_iconst (v := 1) hx hb d_Pl_forkSpot_37 (by decide) ?_
          refine lv_iadd hx hb d_Pl_forkSpot_38 ?_
          refine lv_bipush (v := 31) hx hb d_Pl_forkSpot_39 (by decide) ?_
          refine lv_iand hx hb d_Pl_forkSpot_41 ?_
          refine gCallVi (b := tp 0) (As := [.int a3, .int ((a2 + (1 : Int32)) &&& (31 : Int32))]) (rest := []) (c_Pl_isFree l D cI cS cZ ad wc wb kp tp u28.1 u28.2 a3 ((a2 + (1 : Int32)) &&& (31 : Int32)) _ hw) hx hb hml hown hts hK hN hA hS hP hD (cwV 2 hts (gGV tw_467 tw_469 ts_10 tw_9 tw_470) rfl rfl rfl ⟨rfl, by decide, by decide, by decide +kernel⟩ ⟨Nat.le_of_ble_eq_true rfl, Nat.le_of_ble_eq_true rfl⟩) (va_recv (ci := 8) (q0 := 24) hK hP rfl rfl) rfl hl.1 rfl (Nat.le_of_ble_eq_true rfl) d_Pl_forkSpot_42 (fun r42 u42 H locs hw hP hD hS => ?_)
          have hP : va_P D gCl (xW cI cS cZ ad wc wb kp tp u42.1 u42.2) H := hP
          have hD : va_D A (xW cI cS cZ ad wc wb kp tp u42.1 u42.2) := hD
          refine lv_if_eq (tgt := 55) hx hb d_Pl_forkSpot_45 (by decide) (fun h => ?_) (fun h => ?_)
          · have hw := hw.1 h
            exact J55 u42.1 u42.2 a1 a2 a3 ls H locs (lv_sub hl [0, 1, 2, 3] rfl) hP hD hS hw
          · have hw := hw.2 h
            refine lv_iload_n hx hb d_Pl_forkSpot_48 rfl (lv_at hl 3 rfl) ?_
            refine lv_bipush (v := 32) hx hb d_Pl_forkSpot_49 (by decide) ?_
            refine lv_imul hx hb d_Pl_forkSpot_51 ?_
            refine lv_iload_n hx hb d_Pl_forkSpot_52 rfl (lv_at hl 2 rfl) ?_
            refine lv_iadd hx hb d_Pl_forkSpot_53 ?_
            exact hret H locs 54 ls ((a3 * (32 : Int32)) + a2) (u42.1, u42.2) d_Pl_forkSpot_54 hP hD hS (vp_nar_int _) hw
    refine lv_iload_n hx hb d_Pl_forkSpot_2 rfl (lv_at hl 1 rfl) ?_
    refine lv_bipush (v := 32) hx hb d_Pl_forkSpot_3 (by decide) ?_
    refine lv_icmp_ge (tgt := 67) hx hb d_Pl_forkSpot_5 (by decide) (fun h => ?_) (fun h => ?_)
    · have hw := hw.1 h
      refine lv_iconst (v := (-1)) hx hb d_Pl_forkSpot_67 (by decide) ?_
      exact hret H locs 68 ls (-1 : Int32) (σ, α) d_Pl_forkSpot_68 hP hD hS (vp_nar_int _) hw
    · have hw := hw.2 h
      refine lv_aload_n hx hb d_Pl_forkSpot_8 rfl (lv_at hl 0 rfl) ?_
      refine va_get (D := D) (ci := 8) (v := .int (σ 33)) (C := R_Pl) (T := T_Pl) (N := 9) hx hb hts i_Pl hown hK hP 24 rfl rfl 5 (by decide) (hts _ tw_231) (fun _ h9 => h9) rfl d_Pl_forkSpot_9 ?_
      refine lv_iload_n hx hb d_Pl_forkSpot_12 rfl (lv_at hl 1 rfl) ?_
      refine lv_iadd hx hb d_Pl_forkSpot_13 ?_
      refine lv_bipush (v := 31) hx hb d_Pl_forkSpot_14 (by decide) ?_
      refine lv_iand hx hb d_Pl_forkSpot_16 ?_
      refine lv_istore_n hx hb d_Pl_forkSpot_17 rfl hl (by decide) rfl (fun ls hl => ?_)
      have hl : lv_has ls 4 [(2, .int (((σ 33) + a1) &&& (31 : Int32))), (0, .ref (tp 0)), (1, .int a1)] := hl
      refine lv_iconst (v := 0) hx hb d_Pl_forkSpot_18 (by decide) ?_
      refine lv_istore_n hx hb d_Pl_forkSpot_19 rfl hl (by decide) rfl (fun ls hl => ?_)
      have hl : lv_has ls 4 [(3, .int (0 : Int32)), (2, .int (((σ 33) + a1) &&& (31 : Int32))), (0, .ref (tp 0)), (1, .int a1)] := hl
      exact L20 σ α a1 (((σ 33) + a1) &&& (31 : Int32)) (0 : Int32) ls H locs (lv_sub hl [2, 3, 1, 0] rfl) hP hD hS hw
  unfold wp_Pl_forkSpot at hw
  have hP : va_P D gCl (xW cI cS cZ ad wc wb kp tp σ α) s.heap := hP
  have hD : va_D A (xW cI cS cZ ad wc wb kp tp σ α) := hD
  obtain ⟨H, hH⟩ : ∃ H, H = s.heap := ⟨_, rfl⟩
  obtain ⟨locs, hlocs⟩ : ∃ locs : List Loc, locs = [] := ⟨_, rfl⟩
  have hP : va_P D gCl (xW cI cS cZ ad wc wb kp tp σ α) H := by rw [hH]; exact hP
  have hS : va_S A s.heap H locs := by rw [hH, hlocs]; exact hS
  suffices K : W p l e rm_Pl_forkSpot s m ([.ref (tp 0)] : List Value).toArray below meth c H locs 0 0 Q (F0 m 0 ls []) by rw [hH, hlocs] at K; exact K
  clear hH hlocs
  refine lv_iconst (v := 1) hx hb d_Pl_forkSpot_0 (by decide) ?_
  refine lv_istore_n hx hb d_Pl_forkSpot_1 rfl hl (by decide) rfl (fun ls hl => ?_)
  have hl : lv_has ls 4 [(1, .int (1 : Int32)), (0, .ref (tp 0))] := hl
  exact L2 σ α (1 : Int32) ls H locs (lv_sub hl [1, 0] rfl) hP hD hS hw
abbrev rm_Pl_placeFork : Room := { frames := 2, cells := 0, slots := 0, locals := 45 }
set_option maxHeartbeats 4000000 in
set_option maxRecDepth 100000 in
theorem c_Pl_placeFork (l : Launch) (D : va_G) (cI cS cZ : ClassId) (ad : Nat → Nat) (wc wb : Nat) (kp tp : Nat → Nat) (σ : Nat → Int32) (α : Nat → Nat → Int32) (x1 : Int32) (post : gS → Prop) (hw : wp_Pl_placeFork σ α x1 post) : gMv l y_Pl_placeFork b_Pl_placeFork 4 rm_Pl_placeFork D (gT cI cS cZ) (fun u : gS => xW cI cS cZ ad wc wb kp tp u.1 u.2) [.ref (tp 0), .int x1] (σ, α) post := by
  refine gMv.of (by decide) (Nat.le_of_ble_eq_true rfl) ?_
  intro p e s m below meth c Q A hx hb hml hown hts hK hN hA hS hP hD hret ls hl
  have hl : lv_has ls 4 [(0, .ref (tp 0)), (1, .int x1)] := hl
  have J16 : ∀ (σ : Nat → Int32) (α : Nat → Nat → Int32) (ls : Array Slot) (H : Heap) (locs : List Loc), lv_has ls 4 [(0, .ref (tp 0))] → va_P D gCl (xW cI cS cZ ad wc wb kp tp σ α) H → va_D A (xW cI cS cZ ad wc wb kp tp σ α) → va_S A s.heap H locs → wp_Pl_placeFork_J16 σ α post → W p l e rm_Pl_placeFork s m ([.ref (tp 0), .int x1] : List Value).toArray below meth c H locs 0 0 Q (F0 m 16 ls []) := by
    intro σ α ls H locs hl hP hD hS hw
    unfold wp_Pl_placeFork_J16 at hw
    refine lv_aload_n hx hb d_Pl_placeFork_16 rfl (lv_at hl 0 rfl) ?_
    refine lv_iconst (v := 0) hx hb d_Pl_placeFork_17 (by decide) ?_
    refine va_put (D := D) (ci := 8) (v := .int (0 : Int32)) (ty := .boolean) (C := R_Pl) (T := T_Pl) (N := 9) hx hb hts i_Pl t_Pl o_Pl n_Pl hown hK hP hD hS 24 rfl rfl 8 (by decide) (hts _ tw_235) (fun _ h9 => h9) rfl (by decide +kernel) rfl rfl (Nat.le_of_ble_eq_true rfl) d_Pl_placeFork_18 (fun H locs hP hD hS => ?_)
    have hP : va_P D gCl (xW cI cS cZ ad wc wb kp tp (va_up σ 36 (0 : Int32)) α) H := hP
    have hD : va_D A (xW cI cS cZ ad wc wb kp tp (va_up σ 36 (0 : Int32)) α) := hD
    exact hret H locs 21 ls ((va_up σ 36 (0 : Int32)), α) d_Pl_placeFork_21 hP hD hS hw
  unfold wp_Pl_placeFork at hw
  have hP : va_P D gCl (xW cI cS cZ ad wc wb kp tp σ α) s.heap := hP
  have hD : va_D A (xW cI cS cZ ad wc wb kp tp σ α) := hD
  obtain ⟨H, hH⟩ : ∃ H, H = s.heap := ⟨_, rfl⟩
  obtain ⟨locs, hlocs⟩ : ∃ locs : List Loc, locs = [] := ⟨_, rfl⟩
  have hP : va_P D gCl (xW cI cS cZ ad wc wb kp tp σ α) H := by rw [hH]; exact hP
  have hS : va_S A s.heap H locs := by rw [hH, hlocs]; exact hS
  suffices K : W p l e rm_Pl_placeFork s m ([.ref (tp 0), .int x1] : List Value).toArray below meth c H locs 0 0 Q (F0 m 0 ls []) by rw [hH, hlocs] at K; exact K
  clear hH hlocs
  refine lv_aload_n hx hb d_Pl_placeFork_0 rfl (lv_at hl 0 rfl) ?_
  refine gCallVi (b := tp 0) (As := []) (rest := []) (c_Pl_forkSpot l D cI cS cZ ad wc wb kp tp σ α _ hw) hx hb hml hown hts hK hN hA hS hP hD (cwV 0 hts (gGV tw_495 tw_497 ts_17 tw_9 tw_498) rfl rfl rfl ⟨rfl, by decide, by decide, by decide +kernel⟩ ⟨Nat.le_of_ble_eq_true rfl, Nat.le_of_ble_eq_true rfl⟩) (va_recv (ci := 8) (q0 := 24) hK hP rfl rfl) rfl hl.1 rfl (Nat.le_of_ble_eq_true rfl) d_Pl_placeFork_1 (fun r1 u1 H locs hw hP hD hS => ?_)
  have hP : va_P D gCl (xW cI cS cZ ad wc wb kp tp u1.1 u1.2) H := hP
  have hD : va_D A (xW cI cS cZ ad wc wb kp tp u1.1 u1.2) := hD
  refine lv_istore_n hx hb d_Pl_placeFork_4 rfl hl (by decide) rfl (fun ls hl => ?_)
  have hl : lv_has ls 4 [(2, .int r1), (0, .ref (tp 0)), (1, .int x1)] := hl
  refine lv_aload_n hx hb d_Pl_placeFork_5 rfl (lv_at hl 1 rfl) ?_
  refine va_get (D := D) (ci := 8) (v := .int (u1.1 36)) (C := R_Pl) (T := T_Pl) (N := 9) hx hb hts i_Pl hown hK hP 24 rfl rfl 8 (by decide) (hts _ tw_235) (fun _ h9 => h9) rfl d_Pl_placeFork_6 ?_
  refine lv_if_eq (tgt := 16) hx hb d_Pl_placeFork_9 (by decide) (fun h => ?_) (fun h => ?_)
  · have hw := hw.1 h
    exact J16 u1.1 u1.2 ls H locs (lv_sub hl [1] rfl) hP hD hS hw
  · have hw := hw.2 h
    refine lv_iload_n hx hb d_Pl_placeFork_12 rfl (lv_at hl 0 rfl) ?_
    refine lv_if_ge (tgt := 22) hx hb d_Pl_placeFork_13 (by decide) (fun h => ?_) (fun h => ?_)
    · have hw := hw.1 h
      refine lv_iload_n hx hb d_Pl_placeFork_22 rfl (lv_at hl 0 rfl) ?_
      refine lv_bipush (v := 32) hx hb d_Pl_placeFork_23 (by decide) ?_
      refine lv_iand hx hb d_Pl_placeFork_25 ?_
      refine lv_iload_n hx hb d_Pl_placeFork_26 rfl (lv_at hl 0 rfl) ?_
      refine lv_iconst (v := 1) hx hb d_Pl_placeFork_27 (by decide) ?_
      refine lv_iadd hx hb d_Pl_placeFork_28 ?_
      refine lv_bipush (v := 31) hx hb d_Pl_placeFork_29 (by decide) ?_
      refine lv_iand hx hb d_Pl_placeFork_31 ?_
      refine lv_ior hx hb d_Pl_placeFork_32 ?_
      refine lv_istore_n hx hb d_Pl_placeFork_33 rfl hl (by decide) rfl (fun ls hl => ?_)
      have hl : lv_has ls 4 [(3, .int ((r1 &&& (32 : Int32)) ||| ((r1 + (1 : Int32)) &&& (31 : Int32)))), (2, .int r1), (0, .ref (tp 0)), (1, .int x1)] := hl
      refine lv_aload_n hx hb d_Pl_placeFork_34 rfl (lv_at hl 2 rfl) ?_
      refine lv_iload_n hx hb d_Pl_placeFork_35 rfl (lv_at hl 1 rfl) ?_
      refine lv_iconst (v := 0) hx hb d_Pl_placeFork_36 (by decide) ?_
      refine gCallVv (b := tp 0) (As := [.int r1, .int (0 : Int32)]) (rest := []) (c_Pl_occupy l D cI cS cZ ad wc wb kp tp u1.1 u1.2 r1 (0 : Int32) _ hw) hx hb hml hown hts hK hN hA hS hP hD (cwV 2 hts (gGV tw_483 tw_485 ts_14 tw_9 tw_486) rfl rfl rfl ⟨rfl, by decide, by decide, by decide +kernel⟩ ⟨Nat.le_of_ble_eq_true rfl, Nat.le_of_ble_eq_true rfl⟩) (va_recv (ci := 8) (q0 := 24) hK hP rfl rfl) rfl hl.1 rfl (Nat.le_of_ble_eq_true rfl) d_Pl_placeFork_37 (fun u37 H locs hw hP hD hS => ?_)
      have hP : va_P D gCl (xW cI cS cZ ad wc wb kp tp u37.1 u37.2) H := hP
      have hD : va_D A (xW cI cS cZ ad wc wb kp tp u37.1 u37.2) := hD
      refine lv_aload_n hx hb d_Pl_placeFork_40 rfl (lv_at hl 2 rfl) ?_
      refine va_get (D := D) (ci := 8) (v := .ref (tp 1)) (C := R_Pl) (T := T_Pl) (N := 9) hx hb hts i_Pl hown hK hP 24 rfl rfl 0 (by decide) (hts _ tw_223) (fun _ h9 => h9) rfl d_Pl_placeFork_41 ?_
      refine lv_iload_n hx hb d_Pl_placeFork_44 rfl (lv_at hl 0 rfl) ?_
      refine lv_iconst (v := 0) hx hb d_Pl_placeFork_45 (by decide) ?_
      obtain ⟨hin, hw⟩ := hw
      refine va_iast (f := u37.2 25) (i := (r1 &&& (32 : Int32)) ||| ((r1 + (1 : Int32)) &&& (31 : Int32))) (x := (0 : Int32)) hx hb hK hP hD hS 25 0 rfl rfl hin d_Pl_placeFork_46 (fun H locs hP hD hS => ?_)
      rw [xW_s25] at hP hD
      have hP : va_P D gCl (xW cI cS cZ ad wc wb kp tp u37.1 (va_up u37.2 25 (upd (u37.2 25) ((r1 &&& (32 : Int32)) ||| ((r1 + (1 : Int32)) &&& (31 : Int32))).toNatClampNeg (0 : Int32)))) H := hP
      have hD : va_D A (xW cI cS cZ ad wc wb kp tp u37.1 (va_up u37.2 25 (upd (u37.2 25) ((r1 &&& (32 : Int32)) ||| ((r1 + (1 : Int32)) &&& (31 : Int32))).toNatClampNeg (0 : Int32)))) := hD
      refine lv_aload_n hx hb d_Pl_placeFork_47 rfl (lv_at hl 2 rfl) ?_
      refine lv_dup hx hb d_Pl_placeFork_48 rfl ?_
      refine va_get (D := D) (ci := 8) (v := .int (u37.1 35)) (C := R_Pl) (T := T_Pl) (N := 9) hx hb hts i_Pl hown hK hP 24 rfl rfl 7 (by decide) (hts _ tw_233) (fun _ h9 => h9) rfl d_Pl_placeFork_49 ?_
      refine lv_iconst (v := 1) hx hb d_Pl_placeFork_52 (by decide) ?_
      refine lv_iadd hx hb d_Pl_placeFork_53 ?_
      refine va_put (D := D) (ci := 8) (v := .int ((u37.1 35) + (1 : Int32))) (ty := .int) (C := R_Pl) (T := T_Pl) (N := 9) hx hb hts i_Pl t_Pl o_Pl n_Pl hown hK hP hD hS 24 rfl rfl 7 (by decide) (hts _ tw_233) (fun _ h9 => h9) rfl (by decide +kernel) rfl rfl (Nat.le_of_ble_eq_true rfl) d_Pl_placeFork_54 (fun H locs hP hD hS => ?_)
      have hP : va_P D gCl (xW cI cS cZ ad wc wb kp tp (va_up u37.1 35 ((u37.1 35) + (1 : Int32))) (va_up u37.2 25 (upd (u37.2 25) ((r1 &&& (32 : Int32)) ||| ((r1 + (1 : Int32)) &&& (31 : Int32))).toNatClampNeg (0 : Int32)))) H := hP
      have hD : va_D A (xW cI cS cZ ad wc wb kp tp (va_up u37.1 35 ((u37.1 35) + (1 : Int32))) (va_up u37.2 25 (upd (u37.2 25) ((r1 &&& (32 : Int32)) ||| ((r1 + (1 : Int32)) &&& (31 : Int32))).toNatClampNeg (0 : Int32)))) := hD
      refine lv_aload_n hx hb d_Pl_placeFork_57 rfl (lv_at hl 2 rfl) ?_
      refine va_get (D := D) (ci := 8) (v := .ref (tp 5)) (C := R_Pl) (T := T_Pl) (N := 9) hx hb hts i_Pl hown hK hP 24 rfl rfl 4 (by decide) (hts _ tw_230) (fun _ h9 => h9) rfl d_Pl_placeFork_58 ?_
      refine lv_iload_n hx hb d_Pl_placeFork_61 rfl (lv_at hl 3 rfl) ?_
      refine lv_iload_n hx hb d_Pl_placeFork_62 rfl (lv_at hl 0 rfl) ?_
      obtain ⟨hin, hw⟩ := hw
      refine va_iast (f := u37.2 29) (i := x1) (x := (r1 &&& (32 : Int32)) ||| ((r1 + (1 : Int32)) &&& (31 : Int32))) hx hb hK hP hD hS 29 0 rfl rfl hin d_Pl_placeFork_63 (fun H locs hP hD hS => ?_)
      rw [xW_s29] at hP hD
      have hP : va_P D gCl (xW cI cS cZ ad wc wb kp tp (va_up u37.1 35 ((u37.1 35) + (1 : Int32))) (va_up (va_up u37.2 25 (upd (u37.2 25) ((r1 &&& (32 : Int32)) ||| ((r1 + (1 : Int32)) &&& (31 : Int32))).toNatClampNeg (0 : Int32))) 29 (upd (u37.2 29) x1.toNatClampNeg ((r1 &&& (32 : Int32)) ||| ((r1 + (1 : Int32)) &&& (31 : Int32)))))) H := hP
      have hD : va_D A (xW cI cS cZ ad wc wb kp tp (va_up u37.1 35 ((u37.1 35) + (1 : Int32))) (va_up (va_up u37.2 25 (upd (u37.2 25) ((r1 &&& (32 : Int32)) ||| ((r1 + (1 : Int32)) &&& (31 : Int32))).toNatClampNeg (0 : Int32))) 29 (upd (u37.2 29) x1.toNatClampNeg ((r1 &&& (32 : Int32)) ||| ((r1 + (1 : Int32)) &&& (31 : Int32)))))) := hD
      refine lv_aload_n hx hb d_Pl_placeFork_64 rfl (lv_at hl 2 rfl) ?_
      refine lv_iload_n hx hb d_Pl_placeFork_65 rfl (lv_at hl 1 rfl) ?_
      refine lv_iconst (v := 2) hx hb d_Pl_placeFork_66 (by decide) ?_
      refine lv_iadd hx hb d_Pl_placeFork_67 ?_
      refine lv_bipush (v := 31) hx hb d_Pl_placeFork_68 (by decide) ?_
      refine lv_iand hx hb d_Pl_placeFork_70 ?_
      refine va_put (D := D) (ci := 8) (v := .int ((r1 + (2 : Int32)) &&& (31 : Int32))) (ty := .int) (C := R_Pl) (T := T_Pl) (N := 9) hx hb hts i_Pl t_Pl o_Pl n_Pl hown hK hP hD hS 24 rfl rfl 5 (by decide) (hts _ tw_231) (fun _ h9 => h9) rfl (by decide +kernel) rfl rfl (Nat.le_of_ble_eq_true rfl) d_Pl_placeFork_71 (fun H locs hP hD hS => ?_)
      have hP : va_P D gCl (xW cI cS cZ ad wc wb kp tp (va_up (va_up u37.1 33 ((r1 + (2 : Int32)) &&& (31 : Int32))) 35 ((u37.1 35) + (1 : Int32))) (va_up (va_up u37.2 25 (upd (u37.2 25) ((r1 &&& (32 : Int32)) ||| ((r1 + (1 : Int32)) &&& (31 : Int32))).toNatClampNeg (0 : Int32))) 29 (upd (u37.2 29) x1.toNatClampNeg ((r1 &&& (32 : Int32)) ||| ((r1 + (1 : Int32)) &&& (31 : Int32)))))) H := hP
      have hD : va_D A (xW cI cS cZ ad wc wb kp tp (va_up (va_up u37.1 33 ((r1 + (2 : Int32)) &&& (31 : Int32))) 35 ((u37.1 35) + (1 : Int32))) (va_up (va_up u37.2 25 (upd (u37.2 25) ((r1 &&& (32 : Int32)) ||| ((r1 + (1 : Int32)) &&& (31 : Int32))).toNatClampNeg (0 : Int32))) 29 (upd (u37.2 29) x1.toNatClampNeg ((r1 &&& (32 : Int32)) ||| ((r1 + (1 : Int32)) &&& (31 : Int32)))))) := hD
      exact hret H locs 74 ls ((va_up (va_up u37.1 33 ((r1 + (2 : Int32)) &&& (31 : Int32))) 35 ((u37.1 35) + (1 : Int32))), (va_up (va_up u37.2 25 (upd (u37.2 25) ((r1 &&& (32 : Int32)) ||| ((r1 + (1 : Int32)) &&& (31 : Int32))).toNatClampNeg (0 : Int32))) 29 (upd (u37.2 29) x1.toNatClampNeg ((r1 &&& (32 : Int32)) ||| ((r1 + (1 : Int32)) &&& (31 : Int32)))))) d_Pl_placeFork_74 hP hD hS hw
    · have hw := hw.2 h
      exact J16 u1.1 u1.2 ls H locs (lv_sub hl [1] rfl) hP hD hS hw
abbrev rm_Pl_placeStatement : Room := { frames := 4, cells := 0, slots := 0, locals := 91 }
set_option maxHeartbeats 4000000 in
set_option maxRecDepth 100000 in
theorem c_Pl_placeStatement (l : Launch) (D : va_G) (cI cS cZ : ClassId) (ad : Nat → Nat) (wc wb : Nat) (kp tp : Nat → Nat) (σ : Nat → Int32) (α : Nat → Nat → Int32) (x2 : Int32) (post : gS → Prop) (hw : wp_Pl_placeStatement σ α x2 post) : gMv l y_Pl_placeStatement b_Pl_placeStatement 5 rm_Pl_placeStatement D (gT cI cS cZ) (fun u : gS => xW cI cS cZ ad wc wb kp tp u.1 u.2) [.ref (tp 0), .ref (ad 12), .int x2] (σ, α) post := by
  refine gMv.of (by decide) (Nat.le_of_ble_eq_true rfl) ?_
  intro p e s m below meth c Q A hx hb hml hown hts hK hN hA hS hP hD hret ls hl
  have hl : lv_has ls 5 [(0, .ref (tp 0)), (1, .ref (ad 12)), (2, .int x2)] := hl
  have J189 : ∀ (σ : Nat → Int32) (α : Nat → Nat → Int32) (ls : Array Slot) (H : Heap) (locs : List Loc), lv_has ls 5 [] → va_P D gCl (xW cI cS cZ ad wc wb kp tp σ α) H → va_D A (xW cI cS cZ ad wc wb kp tp σ α) → va_S A s.heap H locs → wp_Pl_placeStatement_J189 σ α post → W p l e rm_Pl_placeStatement s m ([.ref (tp 0), .ref (ad 12), .int x2] : List Value).toArray below meth c H locs 0 0 Q (F0 m 189 ls []) := by
    intro σ α ls H locs hl hP hD hS hw
    unfold wp_Pl_placeStatement_J189 at hw
    exact hret H locs 189 ls (σ, α) d_Pl_placeStatement_189 hP hD hS hw
  unfold wp_Pl_placeStatement at hw
  have hP : va_P D gCl (xW cI cS cZ ad wc wb kp tp σ α) s.heap := hP
  have hD : va_D A (xW cI cS cZ ad wc wb kp tp σ α) := hD
  obtain ⟨H, hH⟩ : ∃ H, H = s.heap := ⟨_, rfl⟩
  obtain ⟨locs, hlocs⟩ : ∃ locs : List Loc, locs = [] := ⟨_, rfl⟩
  have hP : va_P D gCl (xW cI cS cZ ad wc wb kp tp σ α) H := by rw [hH]; exact hP
  have hS : va_S A s.heap H locs := by rw [hH, hlocs]; exact hS
  suffices K : W p l e rm_Pl_placeStatement s m ([.ref (tp 0), .ref (ad 12), .int x2] : List Value).toArray below meth c H locs 0 0 Q (F0 m 0 ls []) by rw [hH, hlocs] at K; exact K
  clear hH hlocs
  refine lv_aload_n hx hb d_Pl_placeStatement_0 rfl (lv_at hl 1 rfl) ?_
  refine va_getN (D := D) (ci := 7) (v := .ref (ad 14)) (C := R_Pr) (T := T_Pr) (N := 6) hx hb hts i_Pr hown hK hP 12 rfl rfl 1 (by decide) (va_Nw.use rfl (hN _ tn_191)) (fun _ h9 => h9) rfl d_Pl_placeStatement_1 ?_
  refine lv_iload_n hx hb d_Pl_placeStatement_4 rfl (lv_at hl 2 rfl) ?_
  obtain ⟨hin, hw⟩ := hw
  refine va_iald (f := α 14) hx hb hK hP 14 0 rfl rfl hin d_Pl_placeStatement_5 ?_
  refine lv_istore_n hx hb d_Pl_placeStatement_6 rfl hl (by decide) rfl (fun ls hl => ?_)
  have hl : lv_has ls 5 [(3, .int (α 14 x2.toNatClampNeg)), (0, .ref (tp 0)), (1, .ref (ad 12)), (2, .int x2)] := hl
  refine lv_aload_n hx hb d_Pl_placeStatement_7 rfl (lv_at hl 2 rfl) ?_
  refine va_getN (D := D) (ci := 7) (v := .ref (ad 16)) (C := R_Pr) (T := T_Pr) (N := 6) hx hb hts i_Pr hown hK hP 12 rfl rfl 3 (by decide) (va_Nw.use rfl (hN _ tn_195)) (fun _ h9 => h9) rfl d_Pl_placeStatement_8 ?_
  refine lv_iload_n hx hb d_Pl_placeStatement_11 rfl (lv_at hl 3 rfl) ?_
  obtain ⟨hin, hw⟩ := hw
  refine va_iald (f := α 16) hx hb hK hP 16 0 rfl rfl hin d_Pl_placeStatement_12 ?_
  refine lv_istore hx hb d_Pl_placeStatement_13 hl (by decide) rfl (fun ls hl => ?_)
  have hl : lv_has ls 5 [(4, .int (α 16 x2.toNatClampNeg)), (3, .int (α 14 x2.toNatClampNeg)), (0, .ref (tp 0)), (1, .ref (ad 12)), (2, .int x2)] := hl
  refine lv_aload_n hx hb d_Pl_placeStatement_15 rfl (lv_at hl 3 rfl) ?_
  refine va_getN (D := D) (ci := 7) (v := .ref (ad 13)) (C := R_Pr) (T := T_Pr) (N := 6) hx hb hts i_Pr hown hK hP 12 rfl rfl 0 (by decide) (va_Nw.use rfl (hN _ tn_189)) (fun _ h9 => h9) rfl d_Pl_placeStatement_16 ?_
  refine lv_iload_n hx hb d_Pl_placeStatement_19 rfl (lv_at hl 4 rfl) ?_
  obtain ⟨hin, hw⟩ := hw
  refine va_iald (f := α 13) hx hb hK hP 13 0 rfl rfl hin d_Pl_placeStatement_20 ?_
  have hw := hw
  by_cases h21_0 : (α 13 x2.toNatClampNeg) = 0
  · have hw := hw.1 h21_0
    refine W.eq (g2 := F0 m 21 ls [.int (0 : Int32)]) (by rw [h21_0]) ?_
    refine lv_tableIn (off := 39) (tgt := 60) hx hb d_Pl_placeStatement_21 (by decide) (by decide) (by decide) (by decide) ?_
    refine lv_aload_n hx hb d_Pl_placeStatement_60 rfl (lv_at hl 2 rfl) ?_
    refine lv_iconst (v := 2) hx hb d_Pl_placeStatement_61 (by decide) ?_
    refine lv_bipush (v := 6) hx hb d_Pl_placeStatement_62 (by decide) ?_
    refine lv_iload_n hx hb d_Pl_placeStatement_64 rfl (lv_at hl 1 rfl) ?_
    refine gCallVv (b := tp 0) (As := [.int (2 : Int32), .int (6 : Int32), .int (α 14 x2.toNatClampNeg)]) (rest := []) (c_Pl_placeOrder l D cI cS cZ ad wc wb kp tp σ α (2 : Int32) (6 : Int32) (α 14 x2.toNatClampNeg) _ hw) hx hb hml hown hts hK hN hA hS hP hD (cwV 3 hts (gGV tw_475 tw_477 ts_12 tw_9 tw_478) rfl rfl rfl ⟨rfl, by decide, by decide, by decide +kernel⟩ ⟨Nat.le_of_ble_eq_true rfl, Nat.le_of_ble_eq_true rfl⟩) (va_recv (ci := 8) (q0 := 24) hK hP rfl rfl) rfl hl.1 rfl (Nat.le_of_ble_eq_true rfl) d_Pl_placeStatement_65 (fun u65 H locs hw hP hD hS => ?_)
    have hP : va_P D gCl (xW cI cS cZ ad wc wb kp tp u65.1 u65.2) H := hP
    have hD : va_D A (xW cI cS cZ ad wc wb kp tp u65.1 u65.2) := hD
    refine lv_aload_n hx hb d_Pl_placeStatement_68 rfl (lv_at hl 2 rfl) ?_
    refine lv_iconst (v := 2) hx hb d_Pl_placeStatement_69 (by decide) ?_
    refine lv_bipush (v := 9) hx hb d_Pl_placeStatement_70 (by decide) ?_
    refine lv_aload_n hx hb d_Pl_placeStatement_72 rfl (lv_at hl 3 rfl) ?_
    refine va_getN (D := D) (ci := 7) (v := .ref (ad 15)) (C := R_Pr) (T := T_Pr) (N := 6) hx hb hts i_Pr hown hK hP 12 rfl rfl 2 (by decide) (va_Nw.use rfl (hN _ tn_193)) (fun _ h9 => h9) rfl d_Pl_placeStatement_73 ?_
    refine lv_iload_n hx hb d_Pl_placeStatement_76 rfl (lv_at hl 4 rfl) ?_
    obtain ⟨hin, hw⟩ := hw
    refine va_iald (f := u65.2 15) hx hb hK hP 15 0 rfl rfl hin d_Pl_placeStatement_77 ?_
    refine gCallVv (b := tp 0) (As := [.int (2 : Int32), .int (9 : Int32), .int (u65.2 15 x2.toNatClampNeg)]) (rest := []) (c_Pl_placeOrder l D cI cS cZ ad wc wb kp tp u65.1 u65.2 (2 : Int32) (9 : Int32) (u65.2 15 x2.toNatClampNeg) _ hw) hx hb hml hown hts hK hN hA hS hP hD (cwV 3 hts (gGV tw_475 tw_477 ts_12 tw_9 tw_478) rfl rfl rfl ⟨rfl, by decide, by decide, by decide +kernel⟩ ⟨Nat.le_of_ble_eq_true rfl, Nat.le_of_ble_eq_true rfl⟩) (va_recv (ci := 8) (q0 := 24) hK hP rfl rfl) rfl hl.1 rfl (Nat.le_of_ble_eq_true rfl) d_Pl_placeStatement_78 (fun u78 H locs hw hP hD hS => ?_)
    have hP : va_P D gCl (xW cI cS cZ ad wc wb kp tp u78.1 u78.2) H := hP
    have hD : va_D A (xW cI cS cZ ad wc wb kp tp u78.1 u78.2) := hD
    refine lv_aload_n hx hb d_Pl_placeStatement_81 rfl (lv_at hl 2 rfl) ?_
    refine lv_bipush (v := 6) hx hb d_Pl_placeStatement_82 (by decide) ?_
    refine lv_iconst (v := 2) hx hb d_Pl_placeStatement_84 (by decide) ?_
    refine lv_iload hx hb d_Pl_placeStatement_85 (lv_at hl 0 rfl) ?_
    refine gCallVv (b := tp 0) (As := [.int (6 : Int32), .int (2 : Int32), .int (α 16 x2.toNatClampNeg)]) (rest := []) (c_Pl_placeOrder l D cI cS cZ ad wc wb kp tp u78.1 u78.2 (6 : Int32) (2 : Int32) (α 16 x2.toNatClampNeg) _ hw) hx hb hml hown hts hK hN hA hS hP hD (cwV 3 hts (gGV tw_475 tw_477 ts_12 tw_9 tw_478) rfl rfl rfl ⟨rfl, by decide, by decide, by decide +kernel⟩ ⟨Nat.le_of_ble_eq_true rfl, Nat.le_of_ble_eq_true rfl⟩) (va_recv (ci := 8) (q0 := 24) hK hP rfl rfl) rfl hl.1 rfl (Nat.le_of_ble_eq_true rfl) d_Pl_placeStatement_87 (fun u87 H locs hw hP hD hS => ?_)
    have hP : va_P D gCl (xW cI cS cZ ad wc wb kp tp u87.1 u87.2) H := hP
    have hD : va_D A (xW cI cS cZ ad wc wb kp tp u87.1 u87.2) := hD
    refine lv_goto (tgt := 189) hx hb d_Pl_placeStatement_90 (by decide) ?_
    exact J189 u87.1 u87.2 ls H locs (lv_sub hl [] rfl) hP hD hS hw
  by_cases h21_1 : (α 13 x2.toNatClampNeg) = 1
  · have hw := hw.2.1 h21_1
    refine W.eq (g2 := F0 m 21 ls [.int (1 : Int32)]) (by rw [h21_1]) ?_
    refine lv_tableIn (off := 72) (tgt := 93) hx hb d_Pl_placeStatement_21 (by decide) (by decide) (by decide) (by decide) ?_
    refine lv_aload_n hx hb d_Pl_placeStatement_93 rfl (lv_at hl 2 rfl) ?_
    refine lv_iconst (v := 2) hx hb d_Pl_placeStatement_94 (by decide) ?_
    refine lv_bipush (v := 6) hx hb d_Pl_placeStatement_95 (by decide) ?_
    refine lv_iload_n hx hb d_Pl_placeStatement_97 rfl (lv_at hl 1 rfl) ?_
    refine gCallVv (b := tp 0) (As := [.int (2 : Int32), .int (6 : Int32), .int (α 14 x2.toNatClampNeg)]) (rest := []) (c_Pl_placeOrder l D cI cS cZ ad wc wb kp tp σ α (2 : Int32) (6 : Int32) (α 14 x2.toNatClampNeg) _ hw) hx hb hml hown hts hK hN hA hS hP hD (cwV 3 hts (gGV tw_475 tw_477 ts_12 tw_9 tw_478) rfl rfl rfl ⟨rfl, by decide, by decide, by decide +kernel⟩ ⟨Nat.le_of_ble_eq_true rfl, Nat.le_of_ble_eq_true rfl⟩) (va_recv (ci := 8) (q0 := 24) hK hP rfl rfl) rfl hl.1 rfl (Nat.le_of_ble_eq_true rfl) d_Pl_placeStatement_98 (fun u98 H locs hw hP hD hS => ?_)
    have hP : va_P D gCl (xW cI cS cZ ad wc wb kp tp u98.1 u98.2) H := hP
    have hD : va_D A (xW cI cS cZ ad wc wb kp tp u98.1 u98.2) := hD
    refine lv_aload_n hx hb d_Pl_placeStatement_101 rfl (lv_at hl 2 rfl) ?_
    refine lv_iconst (v := 2) hx hb d_Pl_placeStatement_102 (by decide) ?_
    refine lv_bipush (v := 10) hx hb d_Pl_placeStatement_103 (by decide) ?_
    refine lv_aload_n hx hb d_Pl_placeStatement_105 rfl (lv_at hl 3 rfl) ?_
    refine va_getN (D := D) (ci := 7) (v := .ref (ad 15)) (C := R_Pr) (T := T_Pr) (N := 6) hx hb hts i_Pr hown hK hP 12 rfl rfl 2 (by decide) (va_Nw.use rfl (hN _ tn_193)) (fun _ h9 => h9) rfl d_Pl_placeStatement_106 ?_
    refine lv_iload_n hx hb d_Pl_placeStatement_109 rfl (lv_at hl 4 rfl) ?_
    obtain ⟨hin, hw⟩ := hw
    refine va_iald (f := u98.2 15) hx hb hK hP 15 0 rfl rfl hin d_Pl_placeStatement_110 ?_
    refine gCallVv (b := tp 0) (As := [.int (2 : Int32), .int (10 : Int32), .int (u98.2 15 x2.toNatClampNeg)]) (rest := []) (c_Pl_placeOrder l D cI cS cZ ad wc wb kp tp u98.1 u98.2 (2 : Int32) (10 : Int32) (u98.2 15 x2.toNatClampNeg) _ hw) hx hb hml hown hts hK hN hA hS hP hD (cwV 3 hts (gGV tw_475 tw_477 ts_12 tw_9 tw_478) rfl rfl rfl ⟨rfl, by decide, by decide, by decide +kernel⟩ ⟨Nat.le_of_ble_eq_true rfl, Nat.le_of_ble_eq_true rfl⟩) (va_recv (ci := 8) (q0 := 24) hK hP rfl rfl) rfl hl.1 rfl (Nat.le_of_ble_eq_true rfl) d_Pl_placeStatement_111 (fun u111 H locs hw hP hD hS => ?_)
    have hP : va_P D gCl (xW cI cS cZ ad wc wb kp tp u111.1 u111.2) H := hP
    have hD : va_D A (xW cI cS cZ ad wc wb kp tp u111.1 u111.2) := hD
    refine lv_aload_n hx hb d_Pl_placeStatement_114 rfl (lv_at hl 2 rfl) ?_
    refine lv_bipush (v := 6) hx hb d_Pl_placeStatement_115 (by decide) ?_
    refine lv_iconst (v := 2) hx hb d_Pl_placeStatement_117 (by decide) ?_
    refine lv_iload hx hb d_Pl_placeStatement_118 (lv_at hl 0 rfl) ?_
    refine gCallVv (b := tp 0) (As := [.int (6 : Int32), .int (2 : Int32), .int (α 16 x2.toNatClampNeg)]) (rest := []) (c_Pl_placeOrder l D cI cS cZ ad wc wb kp tp u111.1 u111.2 (6 : Int32) (2 : Int32) (α 16 x2.toNatClampNeg) _ hw) hx hb hml hown hts hK hN hA hS hP hD (cwV 3 hts (gGV tw_475 tw_477 ts_12 tw_9 tw_478) rfl rfl rfl ⟨rfl, by decide, by decide, by decide +kernel⟩ ⟨Nat.le_of_ble_eq_true rfl, Nat.le_of_ble_eq_true rfl⟩) (va_recv (ci := 8) (q0 := 24) hK hP rfl rfl) rfl hl.1 rfl (Nat.le_of_ble_eq_true rfl) d_Pl_placeStatement_120 (fun u120 H locs hw hP hD hS => ?_)
    have hP : va_P D gCl (xW cI cS cZ ad wc wb kp tp u120.1 u120.2) H := hP
    have hD : va_D A (xW cI cS cZ ad wc wb kp tp u120.1 u120.2) := hD
    refine lv_goto (tgt := 189) hx hb d_Pl_placeStatement_123 (by decide) ?_
    exact J189 u120.1 u120.2 ls H locs (lv_sub hl [] rfl) hP hD hS hw
  by_cases h21_2 : (α 13 x2.toNatClampNeg) = 2
  · have hw := hw.2.2.1 h21_2
    refine W.eq (g2 := F0 m 21 ls [.int (2 : Int32)]) (by rw [h21_2]) ?_
    refine lv_tableIn (off := 105) (tgt := 126) hx hb d_Pl_placeStatement_21 (by decide) (by decide) (by decide) (by decide) ?_
    refine lv_aload_n hx hb d_Pl_placeStatement_126 rfl (lv_at hl 2 rfl) ?_
    refine lv_iconst (v := 2) hx hb d_Pl_placeStatement_127 (by decide) ?_
    refine lv_bipush (v := 6) hx hb d_Pl_placeStatement_128 (by decide) ?_
    refine lv_iload_n hx hb d_Pl_placeStatement_130 rfl (lv_at hl 1 rfl) ?_
    refine gCallVv (b := tp 0) (As := [.int (2 : Int32), .int (6 : Int32), .int (α 14 x2.toNatClampNeg)]) (rest := []) (c_Pl_placeOrder l D cI cS cZ ad wc wb kp tp σ α (2 : Int32) (6 : Int32) (α 14 x2.toNatClampNeg) _ hw) hx hb hml hown hts hK hN hA hS hP hD (cwV 3 hts (gGV tw_475 tw_477 ts_12 tw_9 tw_478) rfl rfl rfl ⟨rfl, by decide, by decide, by decide +kernel⟩ ⟨Nat.le_of_ble_eq_true rfl, Nat.le_of_ble_eq_true rfl⟩) (va_recv (ci := 8) (q0 := 24) hK hP rfl rfl) rfl hl.1 rfl (Nat.le_of_ble_eq_true rfl) d_Pl_placeStatement_131 (fun u131 H locs hw hP hD hS => ?_)
    have hP : va_P D gCl (xW cI cS cZ ad wc wb kp tp u131.1 u131.2) H := hP
    have hD : va_D A (xW cI cS cZ ad wc wb kp tp u131.1 u131.2) := hD
    refine lv_aload_n hx hb d_Pl_placeStatement_134 rfl (lv_at hl 2 rfl) ?_
    refine lv_bipush (v := 6) hx hb d_Pl_placeStatement_135 (by decide) ?_
    refine lv_iconst (v := 2) hx hb d_Pl_placeStatement_137 (by decide) ?_
    refine lv_iload hx hb d_Pl_placeStatement_138 (lv_at hl 0 rfl) ?_
    refine gCallVv (b := tp 0) (As := [.int (6 : Int32), .int (2 : Int32), .int (α 16 x2.toNatClampNeg)]) (rest := []) (c_Pl_placeOrder l D cI cS cZ ad wc wb kp tp u131.1 u131.2 (6 : Int32) (2 : Int32) (α 16 x2.toNatClampNeg) _ hw) hx hb hml hown hts hK hN hA hS hP hD (cwV 3 hts (gGV tw_475 tw_477 ts_12 tw_9 tw_478) rfl rfl rfl ⟨rfl, by decide, by decide, by decide +kernel⟩ ⟨Nat.le_of_ble_eq_true rfl, Nat.le_of_ble_eq_true rfl⟩) (va_recv (ci := 8) (q0 := 24) hK hP rfl rfl) rfl hl.1 rfl (Nat.le_of_ble_eq_true rfl) d_Pl_placeStatement_140 (fun u140 H locs hw hP hD hS => ?_)
    have hP : va_P D gCl (xW cI cS cZ ad wc wb kp tp u140.1 u140.2) H := hP
    have hD : va_D A (xW cI cS cZ ad wc wb kp tp u140.1 u140.2) := hD
    refine lv_goto (tgt := 189) hx hb d_Pl_placeStatement_143 (by decide) ?_
    exact J189 u140.1 u140.2 ls H locs (lv_sub hl [] rfl) hP hD hS hw
  by_cases h21_3 : (α 13 x2.toNatClampNeg) = 3
  · have hw := hw.2.2.2.1 h21_3
    refine W.eq (g2 := F0 m 21 ls [.int (3 : Int32)]) (by rw [h21_3]) ?_
    refine lv_tableIn (off := 125) (tgt := 146) hx hb d_Pl_placeStatement_21 (by decide) (by decide) (by decide) (by decide) ?_
    refine lv_aload_n hx hb d_Pl_placeStatement_146 rfl (lv_at hl 2 rfl) ?_
    refine lv_iconst (v := 2) hx hb d_Pl_placeStatement_147 (by decide) ?_
    refine lv_bipush (v := 15) hx hb d_Pl_placeStatement_148 (by decide) ?_
    refine lv_iload_n hx hb d_Pl_placeStatement_150 rfl (lv_at hl 1 rfl) ?_
    refine gCallVv (b := tp 0) (As := [.int (2 : Int32), .int (15 : Int32), .int (α 14 x2.toNatClampNeg)]) (rest := []) (c_Pl_placeOrder l D cI cS cZ ad wc wb kp tp σ α (2 : Int32) (15 : Int32) (α 14 x2.toNatClampNeg) _ hw) hx hb hml hown hts hK hN hA hS hP hD (cwV 3 hts (gGV tw_475 tw_477 ts_12 tw_9 tw_478) rfl rfl rfl ⟨rfl, by decide, by decide, by decide +kernel⟩ ⟨Nat.le_of_ble_eq_true rfl, Nat.le_of_ble_eq_true rfl⟩) (va_recv (ci := 8) (q0 := 24) hK hP rfl rfl) rfl hl.1 rfl (Nat.le_of_ble_eq_true rfl) d_Pl_placeStatement_151 (fun u151 H locs hw hP hD hS => ?_)
    have hP : va_P D gCl (xW cI cS cZ ad wc wb kp tp u151.1 u151.2) H := hP
    have hD : va_D A (xW cI cS cZ ad wc wb kp tp u151.1 u151.2) := hD
    refine lv_goto (tgt := 189) hx hb d_Pl_placeStatement_154 (by decide) ?_
    exact J189 u151.1 u151.2 ls H locs (lv_sub hl [] rfl) hP hD hS hw
  by_cases h21_4 : (α 13 x2.toNatClampNeg) = 4
  · have hw := hw.2.2.2.2.1 h21_4
    refine W.eq (g2 := F0 m 21 ls [.int (4 : Int32)]) (by rw [h21_4]) ?_
    refine lv_tableIn (off := 136) (tgt := 157) hx hb d_Pl_placeStatement_21 (by decide) (by decide) (by decide) (by decide) ?_
    refine lv_aload_n hx hb d_Pl_placeStatement_157 rfl (lv_at hl 2 rfl) ?_
    refine lv_iconst (v := 2) hx hb d_Pl_placeStatement_158 (by decide) ?_
    refine lv_bipush (v := 11) hx hb d_Pl_placeStatement_159 (by decide) ?_
    refine lv_iload_n hx hb d_Pl_placeStatement_161 rfl (lv_at hl 1 rfl) ?_
    refine gCallVv (b := tp 0) (As := [.int (2 : Int32), .int (11 : Int32), .int (α 14 x2.toNatClampNeg)]) (rest := []) (c_Pl_placeOrder l D cI cS cZ ad wc wb kp tp σ α (2 : Int32) (11 : Int32) (α 14 x2.toNatClampNeg) _ hw) hx hb hml hown hts hK hN hA hS hP hD (cwV 3 hts (gGV tw_475 tw_477 ts_12 tw_9 tw_478) rfl rfl rfl ⟨rfl, by decide, by decide, by decide +kernel⟩ ⟨Nat.le_of_ble_eq_true rfl, Nat.le_of_ble_eq_true rfl⟩) (va_recv (ci := 8) (q0 := 24) hK hP rfl rfl) rfl hl.1 rfl (Nat.le_of_ble_eq_true rfl) d_Pl_placeStatement_162 (fun u162 H locs hw hP hD hS => ?_)
    have hP : va_P D gCl (xW cI cS cZ ad wc wb kp tp u162.1 u162.2) H := hP
    have hD : va_D A (xW cI cS cZ ad wc wb kp tp u162.1 u162.2) := hD
    refine lv_aload_n hx hb d_Pl_placeStatement_165 rfl (lv_at hl 2 rfl) ?_
    refine lv_iload_n hx hb d_Pl_placeStatement_166 rfl (lv_at hl 4 rfl) ?_
    refine gCallVv (b := tp 0) (As := [.int x2]) (rest := []) (c_Pl_placeFork l D cI cS cZ ad wc wb kp tp u162.1 u162.2 x2 _ hw) hx hb hml hown hts hK hN hA hS hP hD (cwV 1 hts (gGV tw_491 tw_493 ts_16 tw_9 tw_494) rfl rfl rfl ⟨rfl, by decide, by decide, by decide +kernel⟩ ⟨Nat.le_of_ble_eq_true rfl, Nat.le_of_ble_eq_true rfl⟩) (va_recv (ci := 8) (q0 := 24) hK hP rfl rfl) rfl hl.1 rfl (Nat.le_of_ble_eq_true rfl) d_Pl_placeStatement_167 (fun u167 H locs hw hP hD hS => ?_)
    have hP : va_P D gCl (xW cI cS cZ ad wc wb kp tp u167.1 u167.2) H := hP
    have hD : va_D A (xW cI cS cZ ad wc wb kp tp u167.1 u167.2) := hD
    refine lv_goto (tgt := 189) hx hb d_Pl_placeStatement_170 (by decide) ?_
    exact J189 u167.1 u167.2 ls H locs (lv_sub hl [] rfl) hP hD hS hw
  by_cases h21_5 : (α 13 x2.toNatClampNeg) = 5
  · have hw := hw.2.2.2.2.2.1 h21_5
    refine W.eq (g2 := F0 m 21 ls [.int (5 : Int32)]) (by rw [h21_5]) ?_
    refine lv_tableIn (off := 152) (tgt := 173) hx hb d_Pl_placeStatement_21 (by decide) (by decide) (by decide) (by decide) ?_
    refine lv_aload_n hx hb d_Pl_placeStatement_173 rfl (lv_at hl 2 rfl) ?_
    refine lv_bipush (v := 13) hx hb d_Pl_placeStatement_174 (by decide) ?_
    refine lv_iconst (v := 2) hx hb d_Pl_placeStatement_176 (by decide) ?_
    refine lv_iload hx hb d_Pl_placeStatement_177 (lv_at hl 0 rfl) ?_
    refine gCallVv (b := tp 0) (As := [.int (13 : Int32), .int (2 : Int32), .int (α 16 x2.toNatClampNeg)]) (rest := []) (c_Pl_placeOrder l D cI cS cZ ad wc wb kp tp σ α (13 : Int32) (2 : Int32) (α 16 x2.toNatClampNeg) _ hw) hx hb hml hown hts hK hN hA hS hP hD (cwV 3 hts (gGV tw_475 tw_477 ts_12 tw_9 tw_478) rfl rfl rfl ⟨rfl, by decide, by decide, by decide +kernel⟩ ⟨Nat.le_of_ble_eq_true rfl, Nat.le_of_ble_eq_true rfl⟩) (va_recv (ci := 8) (q0 := 24) hK hP rfl rfl) rfl hl.1 rfl (Nat.le_of_ble_eq_true rfl) d_Pl_placeStatement_179 (fun u179 H locs hw hP hD hS => ?_)
    have hP : va_P D gCl (xW cI cS cZ ad wc wb kp tp u179.1 u179.2) H := hP
    have hD : va_D A (xW cI cS cZ ad wc wb kp tp u179.1 u179.2) := hD
    refine lv_goto (tgt := 189) hx hb d_Pl_placeStatement_182 (by decide) ?_
    exact J189 u179.1 u179.2 ls H locs (lv_sub hl [] rfl) hP hD hS hw
  have hw := hw.2.2.2.2.2.2
  have hd : (α 13 x2.toNatClampNeg).toInt < 0 ∨ 5 < (α 13 x2.toNatClampNeg).toInt := by
    have a0 := lv_neT h21_0 (show (0 : Int32).toInt = 0 from by decide)
    have a1 := lv_neT h21_1 (show (1 : Int32).toInt = 1 from by decide)
    have a2 := lv_neT h21_2 (show (2 : Int32).toInt = 2 from by decide)
    have a3 := lv_neT h21_3 (show (3 : Int32).toInt = 3 from by decide)
    have a4 := lv_neT h21_4 (show (4 : Int32).toInt = 4 from by decide)
    have a5 := lv_neT h21_5 (show (5 : Int32).toInt = 5 from by decide)
    omega
  have hw := hw hd
  refine lv_tableOut (tgt := 185) hx hb d_Pl_placeStatement_21 hd (by decide) ?_
  refine lv_aload_n hx hb d_Pl_placeStatement_185 rfl (lv_at hl 2 rfl) ?_
  refine gCallVv (b := tp 0) (As := []) (rest := []) (c_Pl_placeStop l D cI cS cZ ad wc wb kp tp σ α _ hw) hx hb hml hown hts hK hN hA hS hP hD (cwV 0 hts (gGV tw_499 tw_501 ts_18 tw_9 tw_502) rfl rfl rfl ⟨rfl, by decide, by decide, by decide +kernel⟩ ⟨Nat.le_of_ble_eq_true rfl, Nat.le_of_ble_eq_true rfl⟩) (va_recv (ci := 8) (q0 := 24) hK hP rfl rfl) rfl hl.1 rfl (Nat.le_of_ble_eq_true rfl) d_Pl_placeStatement_186 (fun u186 H locs hw hP hD hS => ?_)
  have hP : va_P D gCl (xW cI cS cZ ad wc wb kp tp u186.1 u186.2) H := hP
  have hD : va_D A (xW cI cS cZ ad wc wb kp tp u186.1 u186.2) := hD
  exact J189 u186.1 u186.2 ls H locs (lv_sub hl [] rfl) hP hD hS hw
