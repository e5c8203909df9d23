abbrev rm_Mc_deliver : Room := { frames := 2, cells := 0, slots := 0, locals := 43 }
set_option maxHeartbeats 4000000 in
set_option maxRecDepth 100000 in
theorem c_Mc_deliver (l : Launch) (D : va_G) (cI cS cZ : ClassId) (ad : Nat → Nat) (wc wb : Nat) (kp tp : Nat → Nat) (σ : Nat → Int32) (α : Nat → Nat → Int32) (x1 : Int32) (x2 : Int32) (post : gS → Prop) (hw : wp_Mc_deliver σ α x1 x2 post) : gMv l y_Mc_deliver b_Mc_deliver 3 rm_Mc_deliver D (gT cI cS cZ) (fun u : gS => xW cI cS cZ ad wc wb kp tp u.1 u.2) [.ref (ad 8), .int x1, .int x2] (σ, α) post := by
  refine gMv.of (by decide) (Nat.le_of_ble_eq_true rfl) ?_
  intro p e s m below meth c Q A hx hb hml hown hts hK hN hA hS hP hD hret ls hl
  have hl : lv_has ls 3 [(0, .ref (ad 8)), (1, .int x1), (2, .int x2)] := hl
  have J206 : ∀ (σ : Nat → Int32) (α : Nat → Nat → Int32) (ls : Array Slot) (H : Heap) (locs : List Loc), lv_has ls 3 [] → va_P D gCl (xW cI cS cZ ad wc wb kp tp σ α) H → va_D A (xW cI cS cZ ad wc wb kp tp σ α) → va_S A s.heap H locs → wp_Mc_deliver_J206 σ α post → W p l e rm_Mc_deliver s m ([.ref (ad 8), .int x1, .int x2] : List Value).toArray below meth c H locs 0 0 Q (F0 m 206 ls []) := by
    intro σ α ls H locs hl hP hD hS hw
    unfold wp_Mc_deliver_J206 at hw
    exact hret H locs 206 ls (σ, α) d_Mc_deliver_206 hP hD hS hw
  have J189 : ∀ (σ : Nat → Int32) (α : Nat → Nat → Int32) (a1 : Int32) (a2 : Int32) (ls : Array Slot) (H : Heap) (locs : List Loc), lv_has ls 3 [(0, .ref (ad 8)), (1, .int a1), (2, .int a2)] → va_P D gCl (xW cI cS cZ ad wc wb kp tp σ α) H → va_D A (xW cI cS cZ ad wc wb kp tp σ α) → va_S A s.heap H locs → wp_Mc_deliver_J189 σ α a1 a2 post → W p l e rm_Mc_deliver s m ([.ref (ad 8), .int x1, .int x2] : List Value).toArray below meth c H locs 0 0 Q (F0 m 189 ls []) := by
    intro σ α a1 a2 ls H locs hl hP hD hS hw
    unfold wp_Mc_deliver_J189 at hw
    refine lv_aload_n hx hb d_Mc_deliver_189 rfl (lv_at hl 0 rfl) ?_
    refine va_get (D := D) (ci := 4) (v := .ref (ad 1)) (C := R_Mc) (T := T_Mc) (N := 14) hx hb hts i_Mc hown hK hP 8 rfl rfl 0 (by decide) (hts _ tw_132) (fun _ h9 => h9) rfl d_Mc_deliver_190 ?_
    refine va_getN (D := D) (ci := 1) (v := .ref (ad 3)) (C := R_St) (T := T_St) (N := 2) hx hb hts i_St hown hK hP 1 rfl rfl 1 (by decide) (va_Nw.use rfl (hN _ tn_33)) (fun _ h9 => h9) rfl d_Mc_deliver_193 ?_
    refine lv_iload_n hx hb d_Mc_deliver_196 rfl (lv_at hl 2 rfl) ?_
    refine lv_aload_n hx hb d_Mc_deliver_197 rfl (lv_at hl 0 rfl) ?_
    refine va_get (D := D) (ci := 4) (v := .int (σ 9)) (C := R_Mc) (T := T_Mc) (N := 14) hx hb hts i_Mc hown hK hP 8 rfl rfl 8 (by decide) (hts _ tw_143) (fun _ h9 => h9) rfl d_Mc_deliver_198 ?_
    refine gCallSi (As := [.int a2, .int (σ 9)]) (rest := [.ref (ad 3)]) (c_St_presentedSpot l D cI cS cZ ad wc wb kp tp σ α a2 (σ 9) _ hw) hx hb hml hown hts hK hN hA hS hP hD (va_cwS 2 hts (gGS tw_366 tw_367 tw_2 tw_368) rfl rfl rfl ⟨by decide, by decide, by decide +kernel⟩ ⟨Nat.le_of_ble_eq_true rfl, Nat.le_of_ble_eq_true rfl⟩) rfl hl.1 rfl (Nat.le_of_ble_eq_true rfl) d_Mc_deliver_201 (fun r201 u201 H locs hw hP hD hS => ?_)
    have hP : va_P D gCl (xW cI cS cZ ad wc wb kp tp u201.1 u201.2) H := hP
    have hD : va_D A (xW cI cS cZ ad wc wb kp tp u201.1 u201.2) := hD
    refine lv_iload_n hx hb d_Mc_deliver_204 rfl (lv_at hl 1 rfl) ?_
    obtain ⟨hin, hw⟩ := hw
    refine va_sast (f := u201.2 3) (i := r201) (x := a1) hx hb hK hP hD hS 3 1 rfl rfl hin d_Mc_deliver_205 (fun H locs hP hD hS => ?_)
    rw [xW_s3] at hP hD
    have hP : va_P D gCl (xW cI cS cZ ad wc wb kp tp u201.1 (va_up u201.2 3 (upd (u201.2 3) r201.toNatClampNeg (vp_nar .short a1)))) H := hP
    have hD : va_D A (xW cI cS cZ ad wc wb kp tp u201.1 (va_up u201.2 3 (upd (u201.2 3) r201.toNatClampNeg (vp_nar .short a1)))) := hD
    exact J206 u201.1 (va_up u201.2 3 (upd (u201.2 3) r201.toNatClampNeg (vp_nar .short a1))) ls H locs (lv_sub hl [] rfl) hP hD hS hw
  unfold wp_Mc_deliver at hw
  have hP : va_P D gCl (xW cI cS cZ ad wc wb kp tp σ α) s.heap := hP
  have hD : va_D A (xW cI cS cZ ad wc wb kp tp σ α) := hD
  obtain ⟨H, hH⟩ : ∃ H, H = s.heap := ⟨_, rfl⟩
  obtain ⟨locs, hlocs⟩ : ∃ locs : List Loc, locs = [] := ⟨_, rfl⟩
  have hP : va_P D gCl (xW cI cS cZ ad wc wb kp tp σ α) H := by rw [hH]; exact hP
  have hS : va_S A s.heap H locs := by rw [hH, hlocs]; exact hS
  suffices K : W p l e rm_Mc_deliver s m ([.ref (ad 8), .int x1, .int x2] : List Value).toArray below meth c H locs 0 0 Q (F0 m 0 ls []) by rw [hH, hlocs] at K; exact K
  clear hH hlocs
  refine lv_iload_n hx hb d_Mc_deliver_0 rfl (lv_at hl 2 rfl) ?_
  have hw := hw
  by_cases h1_0 : x2 = 0
  · have hw := hw.1 h1_0
    refine W.eq (g2 := F0 m 1 ls [.int (0 : Int32)]) (by rw [h1_0]) ?_
    refine lv_tableIn (off := 79) (tgt := 80) hx hb d_Mc_deliver_1 (by decide) (by decide) (by decide) (by decide) ?_
    refine lv_goto (tgt := 206) hx hb d_Mc_deliver_80 (by decide) ?_
    exact J206 σ α ls H locs (lv_sub hl [] rfl) hP hD hS hw
  by_cases h1_1 : x2 = 1
  · have hw := hw.2.1 h1_1
    refine W.eq (g2 := F0 m 1 ls [.int (1 : Int32)]) (by rw [h1_1]) ?_
    refine lv_tableIn (off := 82) (tgt := 83) hx hb d_Mc_deliver_1 (by decide) (by decide) (by decide) (by decide) ?_
    refine lv_aload_n hx hb d_Mc_deliver_83 rfl (lv_at hl 0 rfl) ?_
    refine lv_iconst (v := 0) hx hb d_Mc_deliver_84 (by decide) ?_
    refine va_put (D := D) (ci := 4) (v := .int (0 : Int32)) (ty := .boolean) (C := R_Mc) (T := T_Mc) (N := 14) hx hb hts i_Mc t_Mc o_Mc n_Mc hown hK hP hD hS 8 rfl rfl 6 (by decide) (hts _ tw_139) (fun _ h9 => h9) rfl (by decide +kernel) rfl rfl (Nat.le_of_ble_eq_true rfl) d_Mc_deliver_85 (fun H locs hP hD hS => ?_)
    have hP : va_P D gCl (xW cI cS cZ ad wc wb kp tp (va_up σ 7 (0 : Int32)) α) H := hP
    have hD : va_D A (xW cI cS cZ ad wc wb kp tp (va_up σ 7 (0 : Int32)) α) := hD
    refine lv_goto (tgt := 206) hx hb d_Mc_deliver_88 (by decide) ?_
    exact J206 (va_up σ 7 (0 : Int32)) α ls H locs (lv_sub hl [] rfl) hP hD hS hw
  by_cases h1_2 : x2 = 2
  · have hw := hw.2.2.1 h1_2
    refine W.eq (g2 := F0 m 1 ls [.int (2 : Int32)]) (by rw [h1_2]) ?_
    refine lv_tableIn (off := 188) (tgt := 189) hx hb d_Mc_deliver_1 (by decide) (by decide) (by decide) (by decide) ?_
    exact J189 σ α x1 x2 ls H locs (lv_sub hl [0, 1, 2] rfl) hP hD hS hw
  by_cases h1_3 : x2 = 3
  · have hw := hw.2.2.2.1 h1_3
    refine W.eq (g2 := F0 m 1 ls [.int (3 : Int32)]) (by rw [h1_3]) ?_
    refine lv_tableIn (off := 188) (tgt := 189) hx hb d_Mc_deliver_1 (by decide) (by decide) (by decide) (by decide) ?_
    exact J189 σ α x1 x2 ls H locs (lv_sub hl [0, 1, 2] rfl) hP hD hS hw
  by_cases h1_4 : x2 = 4
  · have hw := hw.2.2.2.2.1 h1_4
    refine W.eq (g2 := F0 m 1 ls [.int (4 : Int32)]) (by rw [h1_4]) ?_
    refine lv_tableIn (off := 188) (tgt := 189) hx hb d_Mc_deliver_1 (by decide) (by decide) (by decide) (by decide) ?_
    exact J189 σ α x1 x2 ls H locs (lv_sub hl [0, 1, 2] rfl) hP hD hS hw
  by_cases h1_5 : x2 = 5
  · have hw := hw.2.2.2.2.2.1 h1_5
    refine W.eq (g2 := F0 m 1 ls [.int (5 : Int32)]) (by rw [h1_5]) ?_
    refine lv_tableIn (off := 188) (tgt := 189) hx hb d_Mc_deliver_1 (by decide) (by decide) (by decide) (by decide) ?_
    exact J189 σ α x1 x2 ls H locs (lv_sub hl [0, 1, 2] rfl) hP hD hS hw
  by_cases h1_6 : x2 = 6
  · have hw := hw.2.2.2.2.2.2.1 h1_6
    refine W.eq (g2 := F0 m 1 ls [.int (6 : Int32)]) (by rw [h1_6]) ?_
    refine lv_tableIn (off := 188) (tgt := 189) hx hb d_Mc_deliver_1 (by decide) (by decide) (by decide) (by decide) ?_
    exact J189 σ α x1 x2 ls H locs (lv_sub hl [0, 1, 2] rfl) hP hD hS hw
  by_cases h1_7 : x2 = 7
  · have hw := hw.2.2.2.2.2.2.2.1 h1_7
    refine W.eq (g2 := F0 m 1 ls [.int (7 : Int32)]) (by rw [h1_7]) ?_
    refine lv_tableIn (off := 188) (tgt := 189) hx hb d_Mc_deliver_1 (by decide) (by decide) (by decide) (by decide) ?_
    exact J189 σ α x1 x2 ls H locs (lv_sub hl [0, 1, 2] rfl) hP hD hS hw
  by_cases h1_8 : x2 = 8
  · have hw := hw.2.2.2.2.2.2.2.2.1 h1_8
    refine W.eq (g2 := F0 m 1 ls [.int (8 : Int32)]) (by rw [h1_8]) ?_
    refine lv_tableIn (off := 188) (tgt := 189) hx hb d_Mc_deliver_1 (by decide) (by decide) (by decide) (by decide) ?_
    exact J189 σ α x1 x2 ls H locs (lv_sub hl [0, 1, 2] rfl) hP hD hS hw
  by_cases h1_9 : x2 = 9
  · have hw := hw.2.2.2.2.2.2.2.2.2.1 h1_9
    refine W.eq (g2 := F0 m 1 ls [.int (9 : Int32)]) (by rw [h1_9]) ?_
    refine lv_tableIn (off := 90) (tgt := 91) hx hb d_Mc_deliver_1 (by decide) (by decide) (by decide) (by decide) ?_
    refine lv_aload_n hx hb d_Mc_deliver_91 rfl (lv_at hl 0 rfl) ?_
    refine va_get (D := D) (ci := 4) (v := .ref (ad 1)) (C := R_Mc) (T := T_Mc) (N := 14) hx hb hts i_Mc hown hK hP 8 rfl rfl 0 (by decide) (hts _ tw_132) (fun _ h9 => h9) rfl d_Mc_deliver_92 ?_
    refine va_getN (D := D) (ci := 1) (v := .ref (ad 3)) (C := R_St) (T := T_St) (N := 2) hx hb hts i_St hown hK hP 1 rfl rfl 1 (by decide) (va_Nw.use rfl (hN _ tn_33)) (fun _ h9 => h9) rfl d_Mc_deliver_95 ?_
    refine lv_sipush (v := 128) hx hb d_Mc_deliver_98 (by decide) ?_
    refine lv_dup2_11 hx hb d_Mc_deliver_101 rfl rfl ?_
    refine va_sald (f := α 3) hx hb hK hP 3 1 rfl rfl (show vp_in (128 : Int32) 132 by unfold vp_in; decide) d_Mc_deliver_102 ?_
    refine lv_iload_n hx hb d_Mc_deliver_103 rfl (lv_at hl 1 rfl) ?_
    refine lv_iadd hx hb d_Mc_deliver_104 ?_
    refine lv_i2s (v := ((α 3 (128 : Int32).toNatClampNeg) + x1).toInt16.toInt32) hx hb d_Mc_deliver_105 rfl ?_
    refine va_sast (f := α 3) (i := (128 : Int32)) (x := ((α 3 (128 : Int32).toNatClampNeg) + x1).toInt16.toInt32) hx hb hK hP hD hS 3 1 rfl rfl (show vp_in (128 : Int32) 132 by unfold vp_in; decide) d_Mc_deliver_106 (fun H locs hP hD hS => ?_)
    rw [show ((128 : Int32)).toNatClampNeg = 128 from by decide] at hP hD
    rw [xW_s3] at hP hD
    have hP : va_P D gCl (xW cI cS cZ ad wc wb kp tp σ (va_up α 3 (upd (α 3) 128 (vp_nar .short (((α 3 (128 : Int32).toNatClampNeg) + x1).toInt16.toInt32))))) H := hP
    have hD : va_D A (xW cI cS cZ ad wc wb kp tp σ (va_up α 3 (upd (α 3) 128 (vp_nar .short (((α 3 (128 : Int32).toNatClampNeg) + x1).toInt16.toInt32))))) := hD
    refine lv_goto (tgt := 206) hx hb d_Mc_deliver_107 (by decide) ?_
    exact J206 σ (va_up α 3 (upd (α 3) 128 (vp_nar .short (((α 3 (128 : Int32).toNatClampNeg) + x1).toInt16.toInt32)))) ls H locs (lv_sub hl [] rfl) hP hD hS hw
  by_cases h1_10 : x2 = 10
  · have hw := hw.2.2.2.2.2.2.2.2.2.2.1 h1_10
    refine W.eq (g2 := F0 m 1 ls [.int (10 : Int32)]) (by rw [h1_10]) ?_
    refine lv_tableIn (off := 109) (tgt := 110) hx hb d_Mc_deliver_1 (by decide) (by decide) (by decide) (by decide) ?_
    refine lv_aload_n hx hb d_Mc_deliver_110 rfl (lv_at hl 0 rfl) ?_
    refine va_get (D := D) (ci := 4) (v := .ref (ad 1)) (C := R_Mc) (T := T_Mc) (N := 14) hx hb hts i_Mc hown hK hP 8 rfl rfl 0 (by decide) (hts _ tw_132) (fun _ h9 => h9) rfl d_Mc_deliver_111 ?_
    refine va_getN (D := D) (ci := 1) (v := .ref (ad 3)) (C := R_St) (T := T_St) (N := 2) hx hb hts i_St hown hK hP 1 rfl rfl 1 (by decide) (va_Nw.use rfl (hN _ tn_33)) (fun _ h9 => h9) rfl d_Mc_deliver_114 ?_
    refine lv_sipush (v := 128) hx hb d_Mc_deliver_117 (by decide) ?_
    refine lv_dup2_11 hx hb d_Mc_deliver_120 rfl rfl ?_
    refine va_sald (f := α 3) hx hb hK hP 3 1 rfl rfl (show vp_in (128 : Int32) 132 by unfold vp_in; decide) d_Mc_deliver_121 ?_
    refine lv_iload_n hx hb d_Mc_deliver_122 rfl (lv_at hl 1 rfl) ?_
    refine lv_isub hx hb d_Mc_deliver_123 ?_
    refine lv_i2s (v := ((α 3 (128 : Int32).toNatClampNeg) - x1).toInt16.toInt32) hx hb d_Mc_deliver_124 rfl ?_
    refine va_sast (f := α 3) (i := (128 : Int32)) (x := ((α 3 (128 : Int32).toNatClampNeg) - x1).toInt16.toInt32) hx hb hK hP hD hS 3 1 rfl rfl (show vp_in (128 : Int32) 132 by unfold vp_in; decide) d_Mc_deliver_125 (fun H locs hP hD hS => ?_)
    rw [show ((128 : Int32)).toNatClampNeg = 128 from by decide] at hP hD
    rw [xW_s3] at hP hD
    have hP : va_P D gCl (xW cI cS cZ ad wc wb kp tp σ (va_up α 3 (upd (α 3) 128 (vp_nar .short (((α 3 (128 : Int32).toNatClampNeg) - x1).toInt16.toInt32))))) H := hP
    have hD : va_D A (xW cI cS cZ ad wc wb kp tp σ (va_up α 3 (upd (α 3) 128 (vp_nar .short (((α 3 (128 : Int32).toNatClampNeg) - x1).toInt16.toInt32))))) := hD
    refine lv_goto (tgt := 206) hx hb d_Mc_deliver_126 (by decide) ?_
    exact J206 σ (va_up α 3 (upd (α 3) 128 (vp_nar .short (((α 3 (128 : Int32).toNatClampNeg) - x1).toInt16.toInt32)))) ls H locs (lv_sub hl [] rfl) hP hD hS hw
  by_cases h1_11 : x2 = 11
  · have hw := hw.2.2.2.2.2.2.2.2.2.2.2.1 h1_11
    refine W.eq (g2 := F0 m 1 ls [.int (11 : Int32)]) (by rw [h1_11]) ?_
    refine lv_tableIn (off := 188) (tgt := 189) hx hb d_Mc_deliver_1 (by decide) (by decide) (by decide) (by decide) ?_
    exact J189 σ α x1 x2 ls H locs (lv_sub hl [0, 1, 2] rfl) hP hD hS hw
  by_cases h1_12 : x2 = 12
  · have hw := hw.2.2.2.2.2.2.2.2.2.2.2.2.1 h1_12
    refine W.eq (g2 := F0 m 1 ls [.int (12 : Int32)]) (by rw [h1_12]) ?_
    refine lv_tableIn (off := 188) (tgt := 189) hx hb d_Mc_deliver_1 (by decide) (by decide) (by decide) (by decide) ?_
    exact J189 σ α x1 x2 ls H locs (lv_sub hl [0, 1, 2] rfl) hP hD hS hw
  by_cases h1_13 : x2 = 13
  · have hw := hw.2.2.2.2.2.2.2.2.2.2.2.2.2.1 h1_13
    refine W.eq (g2 := F0 m 1 ls [.int (13 : Int32)]) (by rw [h1_13]) ?_
    refine lv_tableIn (off := 128) (tgt := 129) hx hb d_Mc_deliver_1 (by decide) (by decide) (by decide) (by decide) ?_
    refine lv_aload_n hx hb d_Mc_deliver_129 rfl (lv_at hl 0 rfl) ?_
    refine va_get (D := D) (ci := 4) (v := .ref (ad 9)) (C := R_Mc) (T := T_Mc) (N := 14) hx hb hts i_Mc hown hK hP 8 rfl rfl 3 (by decide) (hts _ tw_135) (fun _ h9 => h9) rfl d_Mc_deliver_130 ?_
    refine lv_iload_n hx hb d_Mc_deliver_133 rfl (lv_at hl 1 rfl) ?_
    refine lv_aload_n hx hb d_Mc_deliver_134 rfl (lv_at hl 0 rfl) ?_
    refine va_get (D := D) (ci := 4) (v := .ref (ad 1)) (C := R_Mc) (T := T_Mc) (N := 14) hx hb hts i_Mc hown hK hP 8 rfl rfl 0 (by decide) (hts _ tw_132) (fun _ h9 => h9) rfl d_Mc_deliver_135 ?_
    refine gCallVv (b := ad 9) (As := [.int x1, .ref (ad 1)]) (rest := []) (c_Mu_begin l D cI cS cZ ad wc wb kp tp σ α x1 _ hw) hx hb hml hown hts hK hN hA hS hP hD (cwV 2 hts (gGV tw_377 tw_378 tw_379 tw_6 tw_380) rfl rfl rfl ⟨rfl, by decide, by decide, by decide +kernel⟩ ⟨Nat.le_of_ble_eq_true rfl, Nat.le_of_ble_eq_true rfl⟩) (va_recv (ci := 5) (q0 := 9) hK hP rfl rfl) rfl hl.1 rfl (Nat.le_of_ble_eq_true rfl) d_Mc_deliver_138 (fun u138 H locs hw hP hD hS => ?_)
    have hP : va_P D gCl (xW cI cS cZ ad wc wb kp tp u138.1 u138.2) H := hP
    have hD : va_D A (xW cI cS cZ ad wc wb kp tp u138.1 u138.2) := hD
    refine lv_goto (tgt := 206) hx hb d_Mc_deliver_141 (by decide) ?_
    exact J206 u138.1 u138.2 ls H locs (lv_sub hl [] rfl) hP hD hS hw
  by_cases h1_14 : x2 = 14
  · have hw := hw.2.2.2.2.2.2.2.2.2.2.2.2.2.2.1 h1_14
    refine W.eq (g2 := F0 m 1 ls [.int (14 : Int32)]) (by rw [h1_14]) ?_
    refine lv_tableIn (off := 143) (tgt := 144) hx hb d_Mc_deliver_1 (by decide) (by decide) (by decide) (by decide) ?_
    refine lv_aload_n hx hb d_Mc_deliver_144 rfl (lv_at hl 0 rfl) ?_
    refine va_get (D := D) (ci := 4) (v := .ref (ad 4)) (C := R_Mc) (T := T_Mc) (N := 14) hx hb hts i_Mc hown hK hP 8 rfl rfl 1 (by decide) (hts _ tw_133) (fun _ h9 => h9) rfl d_Mc_deliver_145 ?_
    refine lv_aload_n hx hb d_Mc_deliver_148 rfl (lv_at hl 0 rfl) ?_
    refine va_get (D := D) (ci := 4) (v := .int (σ 9)) (C := R_Mc) (T := T_Mc) (N := 14) hx hb hts i_Mc hown hK hP 8 rfl rfl 8 (by decide) (hts _ tw_143) (fun _ h9 => h9) rfl d_Mc_deliver_149 ?_
    refine gCallVi (b := ad 4) (As := [.int (σ 9)]) (rest := []) (c_Rd_feed l D cI cS cZ ad wc wb kp tp σ α (σ 9) _ hw) hx hb hml hown hts hK hN hA hS hP hD (cwV 1 hts (gGV tw_385 tw_386 tw_387 tw_3 tw_388) rfl rfl rfl ⟨rfl, by decide, by decide, by decide +kernel⟩ ⟨Nat.le_of_ble_eq_true rfl, Nat.le_of_ble_eq_true rfl⟩) (va_recv (ci := 2) (q0 := 4) hK hP rfl rfl) rfl hl.1 rfl (Nat.le_of_ble_eq_true rfl) d_Mc_deliver_152 (fun r152 u152 H locs hw hP hD hS => ?_)
    have hP : va_P D gCl (xW cI cS cZ ad wc wb kp tp u152.1 u152.2) H := hP
    have hD : va_D A (xW cI cS cZ ad wc wb kp tp u152.1 u152.2) := hD
    refine lv_if_ne (tgt := 206) hx hb d_Mc_deliver_155 (by decide) (fun h => ?_) (fun h => ?_)
    · have hw := hw.1 h
      exact J206 u152.1 u152.2 ls H locs (lv_sub hl [] rfl) hP hD hS hw
    · have hw := hw.2 h
      refine lv_aload_n hx hb d_Mc_deliver_158 rfl (lv_at hl 0 rfl) ?_
      refine lv_iconst (v := 2) hx hb d_Mc_deliver_159 (by decide) ?_
      refine gCallVv (b := ad 8) (As := [.int (2 : Int32)]) (rest := []) (c_Mc_stopBy l D cI cS cZ ad wc wb kp tp u152.1 u152.2 (2 : Int32) _ hw) hx hb hml hown hts hK hN hA hS hP hD (cwV 1 hts (gGV tw_393 tw_395 ts_7 tw_5 tw_396) rfl rfl rfl ⟨rfl, by decide, by decide, by decide +kernel⟩ ⟨Nat.le_of_ble_eq_true rfl, Nat.le_of_ble_eq_true rfl⟩) (va_recv (ci := 4) (q0 := 8) hK hP rfl rfl) rfl hl.1 rfl (Nat.le_of_ble_eq_true rfl) d_Mc_deliver_160 (fun u160 H locs hw hP hD hS => ?_)
      have hP : va_P D gCl (xW cI cS cZ ad wc wb kp tp u160.1 u160.2) H := hP
      have hD : va_D A (xW cI cS cZ ad wc wb kp tp u160.1 u160.2) := hD
      refine lv_goto (tgt := 206) hx hb d_Mc_deliver_163 (by decide) ?_
      exact J206 u160.1 u160.2 ls H locs (lv_sub hl [] rfl) hP hD hS hw
  by_cases h1_15 : x2 = 15
  · have hw := hw.2.2.2.2.2.2.2.2.2.2.2.2.2.2.2.1 h1_15
    refine W.eq (g2 := F0 m 1 ls [.int (15 : Int32)]) (by rw [h1_15]) ?_
    refine lv_tableIn (off := 165) (tgt := 166) hx hb d_Mc_deliver_1 (by decide) (by decide) (by decide) (by decide) ?_
    refine lv_aload_n hx hb d_Mc_deliver_166 rfl (lv_at hl 0 rfl) ?_
    refine va_get (D := D) (ci := 4) (v := .ref (ad 6)) (C := R_Mc) (T := T_Mc) (N := 14) hx hb hts i_Mc hown hK hP 8 rfl rfl 2 (by decide) (hts _ tw_134) (fun _ h9 => h9) rfl d_Mc_deliver_167 ?_
    refine lv_iload_n hx hb d_Mc_deliver_170 rfl (lv_at hl 1 rfl) ?_
    refine lv_aload_n hx hb d_Mc_deliver_171 rfl (lv_at hl 0 rfl) ?_
    refine va_get (D := D) (ci := 4) (v := .int (σ 9)) (C := R_Mc) (T := T_Mc) (N := 14) hx hb hts i_Mc hown hK hP 8 rfl rfl 8 (by decide) (hts _ tw_143) (fun _ h9 => h9) rfl d_Mc_deliver_172 ?_
    refine gCallVi (b := ad 6) (As := [.int x1, .int (σ 9)]) (rest := []) (c_Pu_take l D cI cS cZ ad wc wb kp tp σ α x1 (σ 9) _ hw) hx hb hml hown hts hK hN hA hS hP hD (cwV 2 hts (gGV tw_397 tw_398 tw_399 tw_4 tw_400) rfl rfl rfl ⟨rfl, by decide, by decide, by decide +kernel⟩ ⟨Nat.le_of_ble_eq_true rfl, Nat.le_of_ble_eq_true rfl⟩) (va_recv (ci := 3) (q0 := 6) hK hP rfl rfl) rfl hl.1 rfl (Nat.le_of_ble_eq_true rfl) d_Mc_deliver_175 (fun r175 u175 H locs hw hP hD hS => ?_)
    have hP : va_P D gCl (xW cI cS cZ ad wc wb kp tp u175.1 u175.2) H := hP
    have hD : va_D A (xW cI cS cZ ad wc wb kp tp u175.1 u175.2) := hD
    refine lv_if_ne (tgt := 206) hx hb d_Mc_deliver_178 (by decide) (fun h => ?_) (fun h => ?_)
    · have hw := hw.1 h
      exact J206 u175.1 u175.2 ls H locs (lv_sub hl [] rfl) hP hD hS hw
    · have hw := hw.2 h
      refine lv_aload_n hx hb d_Mc_deliver_181 rfl (lv_at hl 0 rfl) ?_
      refine lv_iconst (v := 3) hx hb d_Mc_deliver_182 (by decide) ?_
      refine gCallVv (b := ad 8) (As := [.int (3 : Int32)]) (rest := []) (c_Mc_stopBy l D cI cS cZ ad wc wb kp tp u175.1 u175.2 (3 : Int32) _ hw) hx hb hml hown hts hK hN hA hS hP hD (cwV 1 hts (gGV tw_393 tw_395 ts_7 tw_5 tw_396) rfl rfl rfl ⟨rfl, by decide, by decide, by decide +kernel⟩ ⟨Nat.le_of_ble_eq_true rfl, Nat.le_of_ble_eq_true rfl⟩) (va_recv (ci := 4) (q0 := 8) hK hP rfl rfl) rfl hl.1 rfl (Nat.le_of_ble_eq_true rfl) d_Mc_deliver_183 (fun u183 H locs hw hP hD hS => ?_)
      have hP : va_P D gCl (xW cI cS cZ ad wc wb kp tp u183.1 u183.2) H := hP
      have hD : va_D A (xW cI cS cZ ad wc wb kp tp u183.1 u183.2) := hD
      refine lv_goto (tgt := 206) hx hb d_Mc_deliver_186 (by decide) ?_
      exact J206 u183.1 u183.2 ls H locs (lv_sub hl [] rfl) hP hD hS hw
  have hw := hw.2.2.2.2.2.2.2.2.2.2.2.2.2.2.2.2
  have hd : x2.toInt < 0 ∨ 15 < x2.toInt := by
    have a0 := lv_neT h1_0 (show (0 : Int32).toInt = 0 from by decide)
    have a1 := lv_neT h1_1 (show (1 : Int32).toInt = 1 from by decide)
    have a2 := lv_neT h1_2 (show (2 : Int32).toInt = 2 from by decide)
    have a3 := lv_neT h1_3 (show (3 : Int32).toInt = 3 from by decide)
    have a4 := lv_neT h1_4 (show (4 : Int32).toInt = 4 from by decide)
    have a5 := lv_neT h1_5 (show (5 : Int32).toInt = 5 from by decide)
    have a6 := lv_neT h1_6 (show (6 : Int32).toInt = 6 from by decide)
    have a7 := lv_neT h1_7 (show (7 : Int32).toInt = 7 from by decide)
    have a8 := lv_neT h1_8 (show (8 : Int32).toInt = 8 from by decide)
    have a9 := lv_neT h1_9 (show (9 : Int32).toInt = 9 from by decide)
    have a10 := lv_neT h1_10 (show (10 : Int32).toInt = 10 from by decide)
    have a11 := lv_neT h1_11 (show (11 : Int32).toInt = 11 from by decide)
    have a12 := lv_neT h1_12 (show (12 : Int32).toInt = 12 from by decide)
    have a13 := lv_neT h1_13 (show (13 : Int32).toInt = 13 from by decide)
    have a14 := lv_neT h1_14 (show (14 : Int32).toInt = 14 from by decide)
    have a15 := lv_neT h1_15 (show (15 : Int32).toInt = 15 from by decide)
    omega
  have hw := hw hd
  refine lv_tableOut (tgt := 189) hx hb d_Mc_deliver_1 hd (by decide) ?_
  exact J189 σ α x1 x2 ls H locs (lv_sub hl [0, 1, 2] rfl) hP hD hS hw
abbrev rm_Mc_discriminate_10 : Room := { frames := 0, cells := 0, slots := 0, locals := 0 }
set_option maxHeartbeats 4000000 in
set_option maxRecDepth 100000 in
theorem c_Mc_discriminate_10 (l : Launch) (D : va_G) (cI cS cZ : ClassId) (ad : Nat → Nat) (wc wb : Nat) (kp tp : Nat → Nat) (σ : Nat → Int32) (α : Nat → Nat → Int32) (x2 : Int32) (post : gS → Prop) (hw : wp_Mc_discriminate_10 σ α x2 post) : gMv l y_Mc_discriminate b_Mc_discriminate 3 rm_Mc_discriminate_10 D (gT cI cS cZ) (fun u : gS => xW cI cS cZ ad wc wb kp tp u.1 u.2) [.ref (ad 8), .ref (wc), .int x2] (σ, α) post := by
  refine gMv.of (by decide) (Nat.le_of_ble_eq_true rfl) ?_
  intro p e s m below meth c Q A hx hb hml hown hts hK hN hA hS hP hD hret ls hl
  have hl : lv_has ls 3 [(0, .ref (ad 8)), (1, .ref (wc)), (2, .int x2)] := hl
  have J22 : ∀ (σ : Nat → Int32) (α : Nat → Nat → Int32) (ls : Array Slot) (H : Heap) (locs : List Loc), lv_has ls 3 [] → va_P D gCl (xW cI cS cZ ad wc wb kp tp σ α) H → va_D A (xW cI cS cZ ad wc wb kp tp σ α) → va_S A s.heap H locs → wp_Mc_discriminate_10_J22 σ α post → W p l e rm_Mc_discriminate_10 s m ([.ref (ad 8), .ref (wc), .int x2] : List Value).toArray below meth c H locs 0 0 Q (F0 m 22 ls []) := by
    intro σ α ls H locs hl hP hD hS hw
    unfold wp_Mc_discriminate_10_J22 at hw
    exact hret H locs 22 ls (σ, α) d_Mc_discriminate_22 hP hD hS hw
  unfold wp_Mc_discriminate_10 at hw
  have hP : va_P D gCl (xW cI cS cZ ad wc wb kp tp σ α) s.heap := hP
  have hD : va_D A (xW cI cS cZ ad wc wb kp tp σ α) := hD
  obtain ⟨H, hH⟩ : ∃ H, H = s.heap := ⟨_, rfl⟩
  obtain ⟨locs, hlocs⟩ : ∃ locs : List Loc, locs = [] := ⟨_, rfl⟩
  have hP : va_P D gCl (xW cI cS cZ ad wc wb kp tp σ α) H := by rw [hH]; exact hP
  have hS : va_S A s.heap H locs := by rw [hH, hlocs]; exact hS
  suffices K : W p l e rm_Mc_discriminate_10 s m ([.ref (ad 8), .ref (wc), .int x2] : List Value).toArray below meth c H locs 0 0 Q (F0 m 0 ls []) by rw [hH, hlocs] at K; exact K
  clear hH hlocs
  refine lv_iload_n hx hb d_Mc_discriminate_0 rfl (lv_at hl 2 rfl) ?_
  refine lv_if_eq (tgt := 22) hx hb d_Mc_discriminate_1 (by decide) (fun h => ?_) (fun h => ?_)
  · have hw := hw.1 h
    exact J22 σ α ls H locs (lv_sub hl [] rfl) hP hD hS hw
  · have hw := hw.2 h
    refine lv_aload_n hx hb d_Mc_discriminate_4 rfl (lv_at hl 1 rfl) ?_
    refine lv_aload_n hx hb d_Mc_discriminate_5 rfl (lv_at hl 0 rfl) ?_
    refine va_get (D := D) (ci := 4) (v := .ref (wc)) (C := R_Mc) (T := T_Mc) (N := 14) hx hb hts i_Mc hown hK hP 8 rfl rfl 4 (by decide) (hts _ tw_137) (fun _ h9 => h9) rfl d_Mc_discriminate_6 ?_
    refine lv_acmp_ne (rx := some (wc)) (ry := some (wc)) (tgt := 22) hx hb d_Mc_discriminate_9 (by decide) (fun h => ?_) (fun h => ?_)
    · exact absurd rfl h
    · refine lv_aload_n hx hb d_Mc_discriminate_12 rfl (lv_at hl 0 rfl) ?_
      refine lv_aload_n hx hb d_Mc_discriminate_13 rfl (lv_at hl 1 rfl) ?_
      refine va_getN (D := D) (ci := 6) (v := .int (σ 22)) (C := R_Wi) (T := T_Wi) (N := 5) hx hb hts i_Wi hown hK hP 10 rfl rfl 4 (by decide) (va_Nw.use rfl (hN _ tn_120)) (fun _ h9 => h9) rfl d_Mc_discriminate_14 ?_
      refine lv_iconst (v := 1) hx hb d_Mc_discriminate_17 (by decide) ?_
      refine lv_iadd hx hb d_Mc_discriminate_18 ?_
      refine va_put (D := D) (ci := 4) (v := .int ((σ 22) + (1 : Int32))) (ty := .int) (C := R_Mc) (T := T_Mc) (N := 14) hx hb hts i_Mc t_Mc o_Mc n_Mc hown hK hP hD hS 8 rfl rfl 10 (by decide) (hts _ tw_146) (fun _ h9 => h9) rfl (by decide +kernel) rfl rfl (Nat.le_of_ble_eq_true rfl) d_Mc_discriminate_19 (fun H locs hP hD hS => ?_)
      have hP : va_P D gCl (xW cI cS cZ ad wc wb kp tp (va_up σ 11 ((σ 22) + (1 : Int32))) α) H := hP
      have hD : va_D A (xW cI cS cZ ad wc wb kp tp (va_up σ 11 ((σ 22) + (1 : Int32))) α) := hD
      exact J22 (va_up σ 11 ((σ 22) + (1 : Int32))) α ls H locs (lv_sub hl [] rfl) hP hD hS hw
abbrev rm_Mc_move_10 : Room := { frames := 3, cells := 0, slots := 0, locals := 68 }
set_option maxHeartbeats 4000000 in
set_option maxRecDepth 100000 in
theorem c_Mc_move_10 (l : Launch) (D : va_G) (cI cS cZ : ClassId) (ad : Nat → Nat) (wc wb : Nat) (kp tp : Nat → Nat) (σ : Nat → Int32) (α : Nat → Nat → Int32) (post : gS → Prop) (hw : wp_Mc_move_10 σ α post) : gMv l y_Mc_move b_Mc_move 3 rm_Mc_move_10 D (gT cI cS cZ) (fun u : gS => xW cI cS cZ ad wc wb kp tp u.1 u.2) [.ref (ad 8), .ref (wc)] (σ, α) post := by
  refine gMv.of (by decide) (Nat.le_of_ble_eq_true rfl) ?_
  intro p e s m below meth c Q A hx hb hml hown hts hK hN hA hS hP hD hret ls hl
  have hl : lv_has ls 3 [(0, .ref (ad 8)), (1, .ref (wc))] := hl
  have J83 : ∀ (σ : Nat → Int32) (α : Nat → Nat → Int32) (ls : Array Slot) (H : Heap) (locs : List Loc), lv_has ls 3 [] → va_P D gCl (xW cI cS cZ ad wc wb kp tp σ α) H → va_D A (xW cI cS cZ ad wc wb kp tp σ α) → va_S A s.heap H locs → wp_Mc_move_10_J83 σ α post → W p l e rm_Mc_move_10 s m ([.ref (ad 8), .ref (wc)] : List Value).toArray below meth c H locs 0 0 Q (F0 m 83 ls []) := by
    intro σ α ls H locs hl hP hD hS hw
    unfold wp_Mc_move_10_J83 at hw
    exact hret H locs 83 ls (σ, α) d_Mc_move_83 hP hD hS hw
  have J68 : ∀ (σ : Nat → Int32) (α : Nat → Nat → Int32) (t0 : Int32) (ls : Array Slot) (H : Heap) (locs : List Loc), lv_has ls 3 [] → va_P D gCl (xW cI cS cZ ad wc wb kp tp σ α) H → va_D A (xW cI cS cZ ad wc wb kp tp σ α) → va_S A s.heap H locs → wp_Mc_move_10_J68 σ α t0 post → W p l e rm_Mc_move_10 s m ([.ref (ad 8), .ref (wc)] : List Value).toArray below meth c H locs 0 0 Q (F0 m 68 ls [.int t0, .ref (wc), .ref (ad 8)]) := by
    intro σ α t0 ls H locs hl hP hD hS hw
    unfold wp_Mc_move_10_J68 at hw
    refine gCallVv (b := ad 8) (As := [.ref (wc), .int t0]) (rest := []) (c_Mc_discriminate_10 l D cI cS cZ ad wc wb kp tp σ α t0 _ hw) hx hb hml hown hts hK hN hA hS hP hD (cwV 2 hts (gGV tw_369 tw_371 ts_5 tw_5 tw_372) rfl rfl rfl ⟨rfl, by decide, by decide, by decide +kernel⟩ ⟨Nat.le_of_ble_eq_true rfl, Nat.le_of_ble_eq_true rfl⟩) (va_recv (ci := 4) (q0 := 8) hK hP rfl rfl) rfl hl.1 rfl (Nat.le_of_ble_eq_true rfl) d_Mc_move_68 (fun u68 H locs hw hP hD hS => ?_)
    have hP : va_P D gCl (xW cI cS cZ ad wc wb kp tp u68.1 u68.2) H := hP
    have hD : va_D A (xW cI cS cZ ad wc wb kp tp u68.1 u68.2) := hD
    refine lv_goto (tgt := 83) hx hb d_Mc_move_71 (by decide) ?_
    exact J83 u68.1 u68.2 ls H locs (lv_sub hl [] rfl) hP hD hS hw
  have J51 : ∀ (σ : Nat → Int32) (α : Nat → Nat → Int32) (t0 : Int32) (ls : Array Slot) (H : Heap) (locs : List Loc), lv_has ls 3 [] → va_P D gCl (xW cI cS cZ ad wc wb kp tp σ α) H → va_D A (xW cI cS cZ ad wc wb kp tp σ α) → va_S A s.heap H locs → wp_Mc_move_10_J51 σ α t0 post → W p l e rm_Mc_move_10 s m ([.ref (ad 8), .ref (wc)] : List Value).toArray below meth c H locs 0 0 Q (F0 m 51 ls [.int t0, .ref (wc), .ref (ad 8)]) := by
    intro σ α t0 ls H locs hl hP hD hS hw
    unfold wp_Mc_move_10_J51 at hw
    refine gCallVv (b := ad 8) (As := [.ref (wc), .int t0]) (rest := []) (c_Mc_discriminate_10 l D cI cS cZ ad wc wb kp tp σ α t0 _ hw) hx hb hml hown hts hK hN hA hS hP hD (cwV 2 hts (gGV tw_369 tw_371 ts_5 tw_5 tw_372) rfl rfl rfl ⟨rfl, by decide, by decide, by decide +kernel⟩ ⟨Nat.le_of_ble_eq_true rfl, Nat.le_of_ble_eq_true rfl⟩) (va_recv (ci := 4) (q0 := 8) hK hP rfl rfl) rfl hl.1 rfl (Nat.le_of_ble_eq_true rfl) d_Mc_move_51 (fun u51 H locs hw hP hD hS => ?_)
    have hP : va_P D gCl (xW cI cS cZ ad wc wb kp tp u51.1 u51.2) H := hP
    have hD : va_D A (xW cI cS cZ ad wc wb kp tp u51.1 u51.2) := hD
    refine lv_goto (tgt := 83) hx hb d_Mc_move_54 (by decide) ?_
    exact J83 u51.1 u51.2 ls H locs (lv_sub hl [] rfl) hP hD hS hw
  unfold wp_Mc_move_10 at hw
  have hP : va_P D gCl (xW cI cS cZ ad wc wb kp tp σ α) s.heap := hP
  have hD : va_D A (xW cI cS cZ ad wc wb kp tp σ α) := hD
  obtain ⟨H, hH⟩ : ∃ H, H = s.heap := ⟨_, rfl⟩
  obtain ⟨locs, hlocs⟩ : ∃ locs : List Loc, locs = [] := ⟨_, rfl⟩
  have hP : va_P D gCl (xW cI cS cZ ad wc wb kp tp σ α) H := by rw [hH]; exact hP
  have hS : va_S A s.heap H locs := by rw [hH, hlocs]; exact hS
  suffices K : W p l e rm_Mc_move_10 s m ([.ref (ad 8), .ref (wc)] : List Value).toArray below meth c H locs 0 0 Q (F0 m 0 ls []) by rw [hH, hlocs] at K; exact K
  clear hH hlocs
  refine lv_aload_n hx hb d_Mc_move_0 rfl (lv_at hl 0 rfl) ?_
  refine lv_aload_n hx hb d_Mc_move_1 rfl (lv_at hl 1 rfl) ?_
  refine va_getN (D := D) (ci := 6) (v := .int (σ 18)) (C := R_Wi) (T := T_Wi) (N := 5) hx hb hts i_Wi hown hK hP 10 rfl rfl 0 (by decide) (va_Nw.use rfl (hN _ tn_114)) (fun _ h9 => h9) rfl d_Mc_move_2 ?_
  refine gCallVi (b := ad 8) (As := [.int (σ 18)]) (rest := []) (c_Mc_sourceWord l D cI cS cZ ad wc wb kp tp σ α (σ 18) _ hw) hx hb hml hown hts hK hN hA hS hP hD (cwV 1 hts (gGV tw_354 tw_356 ts_3 tw_5 tw_357) rfl rfl rfl ⟨rfl, by decide, by decide, by decide +kernel⟩ ⟨Nat.le_of_ble_eq_true rfl, Nat.le_of_ble_eq_true rfl⟩) (va_recv (ci := 4) (q0 := 8) hK hP rfl rfl) rfl hl.1 rfl (Nat.le_of_ble_eq_true rfl) d_Mc_move_5 (fun r5 u5 H locs hw hP hD hS => ?_)
  have hP : va_P D gCl (xW cI cS cZ ad wc wb kp tp u5.1 u5.2) H := hP
  have hD : va_D A (xW cI cS cZ ad wc wb kp tp u5.1 u5.2) := hD
  refine lv_istore_n hx hb d_Mc_move_8 rfl hl (by decide) rfl (fun ls hl => ?_)
  have hl : lv_has ls 3 [(2, .int r5), (0, .ref (ad 8)), (1, .ref (wc))] := hl
  refine lv_aload_n hx hb d_Mc_move_9 rfl (lv_at hl 2 rfl) ?_
  refine va_getN (D := D) (ci := 6) (v := .int (u5.1 19)) (C := R_Wi) (T := T_Wi) (N := 5) hx hb hts i_Wi hown hK hP 10 rfl rfl 1 (by decide) (va_Nw.use rfl (hN _ tn_116)) (fun _ h9 => h9) rfl d_Mc_move_10 ?_
  have hw := hw
  by_cases h13_0 : (u5.1 19) = 11
  · have hw := hw.1 h13_0
    refine W.eq (g2 := F0 m 13 ls [.int (11 : Int32)]) (by rw [h13_0]) ?_
    refine lv_lookup (off := 27) (tgt := 40) hx hb d_Mc_move_13 (by decide) (by decide) (by decide) ?_
    refine lv_aload_n hx hb d_Mc_move_40 rfl (lv_at hl 1 rfl) ?_
    refine lv_aload_n hx hb d_Mc_move_41 rfl (lv_at hl 2 rfl) ?_
    refine lv_iload_n hx hb d_Mc_move_42 rfl (lv_at hl 0 rfl) ?_
    refine lv_if_ge (tgt := 50) hx hb d_Mc_move_43 (by decide) (fun h => ?_) (fun h => ?_)
    · have hw := hw.1 h
      refine lv_iconst (v := 0) hx hb d_Mc_move_50 (by decide) ?_
      exact J51 u5.1 u5.2 (0 : Int32) ls H locs (lv_sub hl [] rfl) hP hD hS hw
    · have hw := hw.2 h
      refine lv_iconst (v := 1) hx hb d_Mc_move_46 (by decide) ?_
      refine lv_goto (tgt := 51) hx hb d_Mc_move_47 (by decide) ?_
      exact J51 u5.1 u5.2 (1 : Int32) ls H locs (lv_sub hl [] rfl) hP hD hS hw
  by_cases h13_1 : (u5.1 19) = 12
  · have hw := hw.2.1 h13_1
    refine W.eq (g2 := F0 m 13 ls [.int (12 : Int32)]) (by rw [h13_1]) ?_
    refine lv_lookup (off := 44) (tgt := 57) hx hb d_Mc_move_13 (by decide) (by decide) (by decide) ?_
    refine lv_aload_n hx hb d_Mc_move_57 rfl (lv_at hl 1 rfl) ?_
    refine lv_aload_n hx hb d_Mc_move_58 rfl (lv_at hl 2 rfl) ?_
    refine lv_iload_n hx hb d_Mc_move_59 rfl (lv_at hl 0 rfl) ?_
    refine lv_if_eq (tgt := 67) hx hb d_Mc_move_60 (by decide) (fun h => ?_) (fun h => ?_)
    · have hw := hw.1 h
      refine lv_iconst (v := 0) hx hb d_Mc_move_67 (by decide) ?_
      exact J68 u5.1 u5.2 (0 : Int32) ls H locs (lv_sub hl [] rfl) hP hD hS hw
    · have hw := hw.2 h
      refine lv_iconst (v := 1) hx hb d_Mc_move_63 (by decide) ?_
      refine lv_goto (tgt := 68) hx hb d_Mc_move_64 (by decide) ?_
      exact J68 u5.1 u5.2 (1 : Int32) ls H locs (lv_sub hl [] rfl) hP hD hS hw
  have hw := hw.2.2
  have hw := hw ⟨h13_0, h13_1⟩
  refine lv_lookup (off := 61) (tgt := 74) hx hb d_Mc_move_13 (by decide) (by rw [lv_osw h13_0 (show (11 : Int32).toInt = 11 from by decide), lv_osw h13_1 (show (12 : Int32).toInt = 12 from by decide)]; rfl) (by decide) ?_
  refine lv_aload_n hx hb d_Mc_move_74 rfl (lv_at hl 1 rfl) ?_
  refine lv_iload_n hx hb d_Mc_move_75 rfl (lv_at hl 0 rfl) ?_
  refine lv_aload_n hx hb d_Mc_move_76 rfl (lv_at hl 2 rfl) ?_
  refine va_getN (D := D) (ci := 6) (v := .int (u5.1 19)) (C := R_Wi) (T := T_Wi) (N := 5) hx hb hts i_Wi hown hK hP 10 rfl rfl 1 (by decide) (va_Nw.use rfl (hN _ tn_116)) (fun _ h9 => h9) rfl d_Mc_move_77 ?_
  refine gCallVv (b := ad 8) (As := [.int r5, .int (u5.1 19)]) (rest := []) (c_Mc_deliver l D cI cS cZ ad wc wb kp tp u5.1 u5.2 r5 (u5.1 19) _ hw) hx hb hml hown hts hK hN hA hS hP hD (cwV 2 hts (gGV tw_373 tw_375 ts_6 tw_5 tw_376) rfl rfl rfl ⟨rfl, by decide, by decide, by decide +kernel⟩ ⟨Nat.le_of_ble_eq_true rfl, Nat.le_of_ble_eq_true rfl⟩) (va_recv (ci := 4) (q0 := 8) hK hP rfl rfl) rfl hl.1 rfl (Nat.le_of_ble_eq_true rfl) d_Mc_move_80 (fun u80 H locs hw hP hD hS => ?_)
  have hP : va_P D gCl (xW cI cS cZ ad wc wb kp tp u80.1 u80.2) H := hP
  have hD : va_D A (xW cI cS cZ ad wc wb kp tp u80.1 u80.2) := hD
  exact J83 u80.1 u80.2 ls H locs (lv_sub hl [] rfl) hP hD hS hw
abbrev rm_Mc_discriminate_11 : Room := { frames := 0, cells := 0, slots := 0, locals := 0 }
set_option maxHeartbeats 4000000 in
set_option maxRecDepth 100000 in
theorem c_Mc_discriminate_11 (l : Launch) (D : va_G) (cI cS cZ : ClassId) (ad : Nat → Nat) (wc wb : Nat) (kp tp : Nat → Nat) (σ : Nat → Int32) (α : Nat → Nat → Int32) (x2 : Int32) (post : gS → Prop) (hw : wp_Mc_discriminate_11 σ α x2 post) : gMv l y_Mc_discriminate b_Mc_discriminate 3 rm_Mc_discriminate_11 D (gT cI cS cZ) (fun u : gS => xW cI cS cZ ad wc wb kp tp u.1 u.2) [.ref (ad 8), .ref (wb), .int x2] (σ, α) post := by
  refine gMv.of (by decide) (Nat.le_of_ble_eq_true rfl) ?_
  intro p e s m below meth c Q A hx hb hml hown hts hK hN hA hS hP hD hret ls hl
  have hl : lv_has ls 3 [(0, .ref (ad 8)), (1, .ref (wb)), (2, .int x2)] := hl
  have J22 : ∀ (σ : Nat → Int32) (α : Nat → Nat → Int32) (ls : Array Slot) (H : Heap) (locs : List Loc), lv_has ls 3 [] → va_P D gCl (xW cI cS cZ ad wc wb kp tp σ α) H → va_D A (xW cI cS cZ ad wc wb kp tp σ α) → va_S A s.heap H locs → wp_Mc_discriminate_11_J22 σ α post → W p l e rm_Mc_discriminate_11 s m ([.ref (ad 8), .ref (wb), .int x2] : List Value).toArray below meth c H locs 0 0 Q (F0 m 22 ls []) := by
    intro σ α ls H locs hl hP hD hS hw
    unfold wp_Mc_discriminate_11_J22 at hw
    exact hret H locs 22 ls (σ, α) d_Mc_discriminate_22 hP hD hS hw
  unfold wp_Mc_discriminate_11 at hw
  have hP : va_P D gCl (xW cI cS cZ ad wc wb kp tp σ α) s.heap := hP
  have hD : va_D A (xW cI cS cZ ad wc wb kp tp σ α) := hD
  obtain ⟨H, hH⟩ : ∃ H, H = s.heap := ⟨_, rfl⟩
  obtain ⟨locs, hlocs⟩ : ∃ locs : List Loc, locs = [] := ⟨_, rfl⟩
  have hP : va_P D gCl (xW cI cS cZ ad wc wb kp tp σ α) H := by rw [hH]; exact hP
  have hS : va_S A s.heap H locs := by rw [hH, hlocs]; exact hS
  suffices K : W p l e rm_Mc_discriminate_11 s m ([.ref (ad 8), .ref (wb), .int x2] : List Value).toArray below meth c H locs 0 0 Q (F0 m 0 ls []) by rw [hH, hlocs] at K; exact K
  clear hH hlocs
  refine lv_iload_n hx hb d_Mc_discriminate_0 rfl (lv_at hl 2 rfl) ?_
  refine lv_if_eq (tgt := 22) hx hb d_Mc_discriminate_1 (by decide) (fun h => ?_) (fun h => ?_)
  · have hw := hw.1 h
    exact J22 σ α ls H locs (lv_sub hl [] rfl) hP hD hS hw
  · have hw := hw.2 h
    refine lv_aload_n hx hb d_Mc_discriminate_4 rfl (lv_at hl 1 rfl) ?_
    refine lv_aload_n hx hb d_Mc_discriminate_5 rfl (lv_at hl 0 rfl) ?_
    refine va_get (D := D) (ci := 4) (v := .ref (wc)) (C := R_Mc) (T := T_Mc) (N := 14) hx hb hts i_Mc hown hK hP 8 rfl rfl 4 (by decide) (hts _ tw_137) (fun _ h9 => h9) rfl d_Mc_discriminate_6 ?_
    refine lv_acmp_ne (rx := some (wb)) (ry := some (wc)) (tgt := 22) hx hb d_Mc_discriminate_9 (by decide) (fun h => ?_) (fun h => ?_)
    · exact J22 σ α ls H locs (lv_sub hl [] rfl) hP hD hS hw
    · exact absurd (hD.1 11 10 _ _ rfl rfl (Option.some.inj h)) (by decide)
abbrev rm_Mc_move_11 : Room := { frames := 3, cells := 0, slots := 0, locals := 68 }
set_option maxHeartbeats 4000000 in
set_option maxRecDepth 100000 in
theorem c_Mc_move_11 (l : Launch) (D : va_G) (cI cS cZ : ClassId) (ad : Nat → Nat) (wc wb : Nat) (kp tp : Nat → Nat) (σ : Nat → Int32) (α : Nat → Nat → Int32) (post : gS → Prop) (hw : wp_Mc_move_11 σ α post) : gMv l y_Mc_move b_Mc_move 3 rm_Mc_move_11 D (gT cI cS cZ) (fun u : gS => xW cI cS cZ ad wc wb kp tp u.1 u.2) [.ref (ad 8), .ref (wb)] (σ, α) post := by
  refine gMv.of (by decide) (Nat.le_of_ble_eq_true rfl) ?_
  intro p e s m below meth c Q A hx hb hml hown hts hK hN hA hS hP hD hret ls hl
  have hl : lv_has ls 3 [(0, .ref (ad 8)), (1, .ref (wb))] := hl
  have J83 : ∀ (σ : Nat → Int32) (α : Nat → Nat → Int32) (ls : Array Slot) (H : Heap) (locs : List Loc), lv_has ls 3 [] → va_P D gCl (xW cI cS cZ ad wc wb kp tp σ α) H → va_D A (xW cI cS cZ ad wc wb kp tp σ α) → va_S A s.heap H locs → wp_Mc_move_11_J83 σ α post → W p l e rm_Mc_move_11 s m ([.ref (ad 8), .ref (wb)] : List Value).toArray below meth c H locs 0 0 Q (F0 m 83 ls []) := by
    intro σ α ls H locs hl hP hD hS hw
    unfold wp_Mc_move_11_J83 at hw
    exact hret H locs 83 ls (σ, α) d_Mc_move_83 hP hD hS hw
  have J68 : ∀ (σ : Nat → Int32) (α : Nat → Nat → Int32) (t0 : Int32) (ls : Array Slot) (H : Heap) (locs : List Loc), lv_has ls 3 [] → va_P D gCl (xW cI cS cZ ad wc wb kp tp σ α) H → va_D A (xW cI cS cZ ad wc wb kp tp σ α) → va_S A s.heap H locs → wp_Mc_move_11_J68 σ α t0 post → W p l e rm_Mc_move_11 s m ([.ref (ad 8), .ref (wb)] : List Value).toArray below meth c H locs 0 0 Q (F0 m 68 ls [.int t0, .ref (wb), .ref (ad 8)]) := by
    intro σ α t0 ls H locs hl hP hD hS hw
    unfold wp_Mc_move_11_J68 at hw
    refine gCallVv (b := ad 8) (As := [.ref (wb), .int t0]) (rest := []) (c_Mc_discriminate_11 l D cI cS cZ ad wc wb kp tp σ α t0 _ hw) hx hb hml hown hts hK hN hA hS hP hD (cwV 2 hts (gGV tw_369 tw_371 ts_5 tw_5 tw_372) rfl rfl rfl ⟨rfl, by decide, by decide, by decide +kernel⟩ ⟨Nat.le_of_ble_eq_true rfl, Nat.le_of_ble_eq_true rfl⟩) (va_recv (ci := 4) (q0 := 8) hK hP rfl rfl) rfl hl.1 rfl (Nat.le_of_ble_eq_true rfl) d_Mc_move_68 (fun u68 H locs hw hP hD hS => ?_)
    have hP : va_P D gCl (xW cI cS cZ ad wc wb kp tp u68.1 u68.2) H := hP
    have hD : va_D A (xW cI cS cZ ad wc wb kp tp u68.1 u68.2) := hD
    refine lv_goto (tgt := 83) hx hb d_Mc_move_71 (by decide) ?_
    exact J83 u68.1 u68.2 ls H locs (lv_sub hl [] rfl) hP hD hS hw
  have J51 : ∀ (σ : Nat → Int32) (α : Nat → Nat → Int32) (t0 : Int32) (ls : Array Slot) (H : Heap) (locs : List Loc), lv_has ls 3 [] → va_P D gCl (xW cI cS cZ ad wc wb kp tp σ α) H → va_D A (xW cI cS cZ ad wc wb kp tp σ α) → va_S A s.heap H locs → wp_Mc_move_11_J51 σ α t0 post → W p l e rm_Mc_move_11 s m ([.ref (ad 8), .ref (wb)] : List Value).toArray below meth c H locs 0 0 Q (F0 m 51 ls [.int t0, .ref (wb), .ref (ad 8)]) := by
    intro σ α t0 ls H locs hl hP hD hS hw
    unfold wp_Mc_move_11_J51 at hw
    refine gCallVv (b := ad 8) (As := [.ref (wb), .int t0]) (rest := []) (c_Mc_discriminate_11 l D cI cS cZ ad wc wb kp tp σ α t0 _ hw) hx hb hml hown hts hK hN hA hS hP hD (cwV 2 hts (gGV tw_369 tw_371 ts_5 tw_5 tw_372) rfl rfl rfl ⟨rfl, by decide, by decide, by decide +kernel⟩ ⟨Nat.le_of_ble_eq_true rfl, Nat.le_of_ble_eq_true rfl⟩) (va_recv (ci := 4) (q0 := 8) hK hP rfl rfl) rfl hl.1 rfl (Nat.le_of_ble_eq_true rfl) d_Mc_move_51 (fun u51 H locs hw hP hD hS => ?_)
    have hP : va_P D gCl (xW cI cS cZ ad wc wb kp tp u51.1 u51.2) H := hP
    have hD : va_D A (xW cI cS cZ ad wc wb kp tp u51.1 u51.2) := hD
    refine lv_goto (tgt := 83) hx hb d_Mc_move_54 (by decide) ?_
    exact J83 u51.1 u51.2 ls H locs (lv_sub hl [] rfl) hP hD hS hw
  unfold wp_Mc_move_11 at hw
  have hP : va_P D gCl (xW cI cS cZ ad wc wb kp tp σ α) s.heap := hP
  have hD : va_D A (xW cI cS cZ ad wc wb kp tp σ α) := hD
  obtain ⟨H, hH⟩ : ∃ H, H = s.heap := ⟨_, rfl⟩
  obtain ⟨locs, hlocs⟩ : ∃ locs : List Loc, locs = [] := ⟨_, rfl⟩
  have hP : va_P D gCl (xW cI cS cZ ad wc wb kp tp σ α) H := by rw [hH]; exact hP
  have hS : va_S A s.heap H locs := by rw [hH, hlocs]; exact hS
  suffices K : W p l e rm_Mc_move_11 s m ([.ref (ad 8), .ref (wb)] : List Value).toArray below meth c H locs 0 0 Q (F0 m 0 ls []) by rw [hH, hlocs] at K; exact K
  clear hH hlocs
  refine lv_aload_n hx hb d_Mc_move_0 rfl (lv_at hl 0 rfl) ?_
  refine lv_aload_n hx hb d_Mc_move_1 rfl (lv_at hl 1 rfl) ?_
  refine va_getN (D := D) (ci := 6) (v := .int (σ 23)) (C := R_Wi) (T := T_Wi) (N := 5) hx hb hts i_Wi hown hK hP 11 rfl rfl 0 (by decide) (va_Nw.use rfl (hN _ tn_114)) (fun _ h9 => h9) rfl d_Mc_move_2 ?_
  refine gCallVi (b := ad 8) (As := [.int (σ 23)]) (rest := []) (c_Mc_sourceWord l D cI cS cZ ad wc wb kp tp σ α (σ 23) _ hw) hx hb hml hown hts hK hN hA hS hP hD (cwV 1 hts (gGV tw_354 tw_356 ts_3 tw_5 tw_357) rfl rfl rfl ⟨rfl, by decide, by decide, by decide +kernel⟩ ⟨Nat.le_of_ble_eq_true rfl, Nat.le_of_ble_eq_true rfl⟩) (va_recv (ci := 4) (q0 := 8) hK hP rfl rfl) rfl hl.1 rfl (Nat.le_of_ble_eq_true rfl) d_Mc_move_5 (fun r5 u5 H locs hw hP hD hS => ?_)
  have hP : va_P D gCl (xW cI cS cZ ad wc wb kp tp u5.1 u5.2) H := hP
  have hD : va_D A (xW cI cS cZ ad wc wb kp tp u5.1 u5.2) := hD
  refine lv_istore_n hx hb d_Mc_move_8 rfl hl (by decide) rfl (fun ls hl => ?_)
  have hl : lv_has ls 3 [(2, .int r5), (0, .ref (ad 8)), (1, .ref (wb))] := hl
  refine lv_aload_n hx hb d_Mc_move_9 rfl (lv_at hl 2 rfl) ?_
  refine va_getN (D := D) (ci := 6) (v := .int (u5.1 24)) (C := R_Wi) (T := T_Wi) (N := 5) hx hb hts i_Wi hown hK hP 11 rfl rfl 1 (by decide) (va_Nw.use rfl (hN _ tn_116)) (fun _ h9 => h9) rfl d_Mc_move_10 ?_
  have hw := hw
  by_cases h13_0 : (u5.1 24) = 11
  · have hw := hw.1 h13_0
    refine W.eq (g2 := F0 m 13 ls [.int (11 : Int32)]) (by rw [h13_0]) ?_
    refine lv_lookup (off := 27) (tgt := 40) hx hb d_Mc_move_13 (by decide) (by decide) (by decide) ?_
    refine lv_aload_n hx hb d_Mc_move_40 rfl (lv_at hl 1 rfl) ?_
    refine lv_aload_n hx hb d_Mc_move_41 rfl (lv_at hl 2 rfl) ?_
    refine lv_iload_n hx hb d_Mc_move_42 rfl (lv_at hl 0 rfl) ?_
    refine lv_if_ge (tgt := 50) hx hb d_Mc_move_43 (by decide) (fun h => ?_) (fun h => ?_)
    · have hw := hw.1 h
      refine lv_iconst (v := 0) hx hb d_Mc_move_50 (by decide) ?_
      exact J51 u5.1 u5.2 (0 : Int32) ls H locs (lv_sub hl [] rfl) hP hD hS hw
    · have hw := hw.2 h
      refine lv_iconst (v := 1) hx hb d_Mc_move_46 (by decide) ?_
      refine lv_goto (tgt := 51) hx hb d_Mc_move_47 (by decide) ?_
      exact J51 u5.1 u5.2 (1 : Int32) ls H locs (lv_sub hl [] rfl) hP hD hS hw
  by_cases h13_1 : (u5.1 24) = 12
  · have hw := hw.2.1 h13_1
    refine W.eq (g2 := F0 m 13 ls [.int (12 : Int32)]) (by rw [h13_1]) ?_
    refine lv_lookup (off := 44) (tgt := 57) hx hb d_Mc_move_13 (by decide) (by decide) (by decide) ?_
    refine lv_aload_n hx hb d_Mc_move_57 rfl (lv_at hl 1 rfl) ?_
    refine lv_aload_n hx hb d_Mc_move_58 rfl (lv_at hl 2 rfl) ?_
    refine lv_iload_n hx hb d_Mc_move_59 rfl (lv_at hl 0 rfl) ?_
    refine lv_if_eq (tgt := 67) hx hb d_Mc_move_60 (by decide) (fun h => ?_) (fun h => ?_)
    · have hw := hw.1 h
      refine lv_iconst (v := 0) hx hb d_Mc_move_67 (by decide) ?_
      exact J68 u5.1 u5.2 (0 : Int32) ls H locs (lv_sub hl [] rfl) hP hD hS hw
    · have hw := hw.2 h
      refine lv_iconst (v := 1) hx hb d_Mc_move_63 (by decide) ?_
      refine lv_goto (tgt := 68) hx hb d_Mc_move_64 (by decide) ?_
      exact J68 u5.1 u5.2 (1 : Int32) ls H locs (lv_sub hl [] rfl) hP hD hS hw
  have hw := hw.2.2
  have hw := hw ⟨h13_0, h13_1⟩
  refine lv_lookup (off := 61) (tgt := 74) hx hb d_Mc_move_13 (by decide) (by rw [lv_osw h13_0 (show (11 : Int32).toInt = 11 from by decide), lv_osw h13_1 (show (12 : Int32).toInt = 12 from by decide)]; rfl) (by decide) ?_
  refine lv_aload_n hx hb d_Mc_move_74 rfl (lv_at hl 1 rfl) ?_
  refine lv_iload_n hx hb d_Mc_move_75 rfl (lv_at hl 0 rfl) ?_
  refine lv_aload_n hx hb d_Mc_move_76 rfl (lv_at hl 2 rfl) ?_
  refine va_getN (D := D) (ci := 6) (v := .int (u5.1 24)) (C := R_Wi) (T := T_Wi) (N := 5) hx hb hts i_Wi hown hK hP 11 rfl rfl 1 (by decide) (va_Nw.use rfl (hN _ tn_116)) (fun _ h9 => h9) rfl d_Mc_move_77 ?_
  refine gCallVv (b := ad 8) (As := [.int r5, .int (u5.1 24)]) (rest := []) (c_Mc_deliver l D cI cS cZ ad wc wb kp tp u5.1 u5.2 r5 (u5.1 24) _ hw) hx hb hml hown hts hK hN hA hS hP hD (cwV 2 hts (gGV tw_373 tw_375 ts_6 tw_5 tw_376) rfl rfl rfl ⟨rfl, by decide, by decide, by decide +kernel⟩ ⟨Nat.le_of_ble_eq_true rfl, Nat.le_of_ble_eq_true rfl⟩) (va_recv (ci := 4) (q0 := 8) hK hP rfl rfl) rfl hl.1 rfl (Nat.le_of_ble_eq_true rfl) d_Mc_move_80 (fun u80 H locs hw hP hD hS => ?_)
  have hP : va_P D gCl (xW cI cS cZ ad wc wb kp tp u80.1 u80.2) H := hP
  have hD : va_D A (xW cI cS cZ ad wc wb kp tp u80.1 u80.2) := hD
  exact J83 u80.1 u80.2 ls H locs (lv_sub hl [] rfl) hP hD hS hw
abbrev rm_St_product : Room := { frames := 0, cells := 0, slots := 0, locals := 0 }
set_option maxHeartbeats 4000000 in
set_option maxRecDepth 100000 in
theorem c_St_product (l : Launch) (D : va_G) (cI cS cZ : ClassId) (ad : Nat → Nat) (wc wb : Nat) (kp tp : Nat → Nat) (σ : Nat → Int32) (α : Nat → Nat → Int32) (post : Int32 → gS → Prop) (hw : wp_St_product σ α post) : gMi l y_St_product b_St_product 1 .int rm_St_product D (gT cI cS cZ) (fun u : gS => xW cI cS cZ ad wc wb kp tp u.1 u.2) [.ref (ad 1)] (σ, α) post := by
  refine gMi.of (by decide) (Nat.le_of_ble_eq_true rfl) ?_
  intro p e s m below meth c Q A hx hb hml hown hts hK hN hA hS hP hD hret ls hl
  have hl : lv_has ls 1 [(0, .ref (ad 1))] := hl
  unfold wp_St_product at hw
  have hP : va_P D gCl (xW cI cS cZ ad wc wb kp tp σ α) s.heap := hP
  have hD : va_D A (xW cI cS cZ ad wc wb kp tp σ α) := hD
  obtain ⟨H, hH⟩ : ∃ H, H = s.heap := ⟨_, rfl⟩
  obtain ⟨locs, hlocs⟩ : ∃ locs : List Loc, locs = [] := ⟨_, rfl⟩
  have hP : va_P D gCl (xW cI cS cZ ad wc wb kp tp σ α) H := by rw [hH]; exact hP
  have hS : va_S A s.heap H locs := by rw [hH, hlocs]; exact hS
  suffices K : W p l e rm_St_product s m ([.ref (ad 1)] : List Value).toArray below meth c H locs 0 0 Q (F0 m 0 ls []) by rw [hH, hlocs] at K; exact K
  clear hH hlocs
  refine lv_aload_n hx hb d_St_product_0 rfl (lv_at hl 0 rfl) ?_
  refine va_get (D := D) (ci := 1) (v := .ref (ad 3)) (C := R_St) (T := T_St) (N := 2) hx hb hts i_St hown hK hP 1 rfl rfl 1 (by decide) (hts _ tw_30) (fun _ h9 => h9) rfl d_St_product_1 ?_
  refine lv_sipush (v := 131) hx hb d_St_product_4 (by decide) ?_
  refine va_sald (f := α 3) hx hb hK hP 3 1 rfl rfl (show vp_in (131 : Int32) 132 by unfold vp_in; decide) d_St_product_7 ?_
  refine lv_bipush (v := 16) hx hb d_St_product_8 (by decide) ?_
  refine lv_ishl hx hb d_St_product_10 ?_
  refine lv_aload_n hx hb d_St_product_11 rfl (lv_at hl 0 rfl) ?_
  refine va_get (D := D) (ci := 1) (v := .ref (ad 3)) (C := R_St) (T := T_St) (N := 2) hx hb hts i_St hown hK hP 1 rfl rfl 1 (by decide) (hts _ tw_30) (fun _ h9 => h9) rfl d_St_product_12 ?_
  refine lv_sipush (v := 130) hx hb d_St_product_15 (by decide) ?_
  refine va_sald (f := α 3) hx hb hK hP 3 1 rfl rfl (show vp_in (130 : Int32) 132 by unfold vp_in; decide) d_St_product_18 ?_
  refine lv_ldc hx hb hown (hts _ tw_410) d_St_product_19 ?_
  refine lv_iand hx hb d_St_product_21 ?_
  refine lv_ior hx hb d_St_product_22 ?_
  exact hret H locs 23 ls (((α 3 (131 : Int32).toNatClampNeg) <<< ((16 : Int32) &&& 31)) ||| ((α 3 (130 : Int32).toNatClampNeg) &&& (65535 : Int32))) (σ, α) d_St_product_23 hP hD hS (vp_nar_int _) hw
abbrev rm_Mu_endCycle : Room := { frames := 1, cells := 0, slots := 0, locals := 21 }
set_option maxHeartbeats 4000000 in
set_option maxRecDepth 100000 in
theorem c_Mu_endCycle (l : Launch) (D : va_G) (cI cS cZ : ClassId) (ad : Nat → Nat) (wc wb : Nat) (kp tp : Nat → Nat) (σ : Nat → Int32) (α : Nat → Nat → Int32) (post : gS → Prop) (hw : wp_Mu_endCycle σ α post) : gMv l y_Mu_endCycle b_Mu_endCycle 3 rm_Mu_endCycle D (gT cI cS cZ) (fun u : gS => xW cI cS cZ ad wc wb kp tp u.1 u.2) [.ref (ad 9), .ref (ad 1)] (σ, α) post := by
  refine gMv.of (by decide) (Nat.le_of_ble_eq_true rfl) ?_
  intro p e s m below meth c Q A hx hb hml hown hts hK hN hA hS hP hD hret ls hl
  have hl : lv_has ls 3 [(0, .ref (ad 9)), (1, .ref (ad 1))] := hl
  have J60 : ∀ (σ : Nat → Int32) (α : Nat → Nat → Int32) (t0 : Int32) (t1 : Int32) (ls : Array Slot) (H : Heap) (locs : List Loc), lv_has ls 3 [(0, .ref (ad 9))] → va_P D gCl (xW cI cS cZ ad wc wb kp tp σ α) H → va_D A (xW cI cS cZ ad wc wb kp tp σ α) → va_S A s.heap H locs → wp_Mu_endCycle_J60 σ α t0 t1 post → W p l e rm_Mu_endCycle s m ([.ref (ad 9), .ref (ad 1)] : List Value).toArray below meth c H locs 0 0 Q (F0 m 60 ls [.int t0, .int t1, .ref (ad 1)]) := by
    intro σ α t0 t1 ls H locs hl hP hD hS hw
    unfold wp_Mu_endCycle_J60 at hw
    refine lv_iadd hx hb d_Mu_endCycle_60 ?_
    refine gCallVv (b := ad 1) (As := [.int (t1 + t0)]) (rest := []) (c_St_setProduct l D cI cS cZ ad wc wb kp tp σ α (t1 + t0) _ hw) hx hb hml hown hts hK hN hA hS hP hD (cwV 1 hts (gGV tw_381 tw_382 tw_383 tw_2 tw_384) rfl rfl rfl ⟨rfl, by decide, by decide, by decide +kernel⟩ ⟨Nat.le_of_ble_eq_true rfl, Nat.le_of_ble_eq_true rfl⟩) (va_recv (ci := 1) (q0 := 1) hK hP rfl rfl) rfl hl.1 rfl (Nat.le_of_ble_eq_true rfl) d_Mu_endCycle_61 (fun u61 H locs hw hP hD hS => ?_)
    have hP : va_P D gCl (xW cI cS cZ ad wc wb kp tp u61.1 u61.2) H := hP
    have hD : va_D A (xW cI cS cZ ad wc wb kp tp u61.1 u61.2) := hD
    refine lv_aload_n hx hb d_Mu_endCycle_64 rfl (lv_at hl 0 rfl) ?_
    refine lv_aload_n hx hb d_Mu_endCycle_65 rfl (lv_at hl 0 rfl) ?_
    refine va_get (D := D) (ci := 5) (v := .int (u61.1 15)) (C := R_Mu) (T := T_Mu) (N := 3) hx hb hts i_Mu hown hK hP 9 rfl rfl 0 (by decide) (hts _ tw_96) (fun _ h9 => h9) rfl d_Mu_endCycle_66 ?_
    refine lv_iconst (v := 1) hx hb d_Mu_endCycle_69 (by decide) ?_
    refine lv_ishl hx hb d_Mu_endCycle_70 ?_
    refine va_put (D := D) (ci := 5) (v := .int ((u61.1 15) <<< ((1 : Int32) &&& 31))) (ty := .int) (C := R_Mu) (T := T_Mu) (N := 3) hx hb hts i_Mu t_Mu o_Mu n_Mu hown hK hP hD hS 9 rfl rfl 0 (by decide) (hts _ tw_96) (fun _ h9 => h9) rfl (by decide +kernel) rfl rfl (Nat.le_of_ble_eq_true rfl) d_Mu_endCycle_71 (fun H locs hP hD hS => ?_)
    have hP : va_P D gCl (xW cI cS cZ ad wc wb kp tp (va_up u61.1 15 ((u61.1 15) <<< ((1 : Int32) &&& 31))) u61.2) H := hP
    have hD : va_D A (xW cI cS cZ ad wc wb kp tp (va_up u61.1 15 ((u61.1 15) <<< ((1 : Int32) &&& 31))) u61.2) := hD
    refine lv_aload_n hx hb d_Mu_endCycle_74 rfl (lv_at hl 0 rfl) ?_
    refine lv_dup hx hb d_Mu_endCycle_75 rfl ?_
    refine va_get (D := D) (ci := 5) (v := .int (u61.1 16)) (C := R_Mu) (T := T_Mu) (N := 3) hx hb hts i_Mu hown hK hP 9 rfl rfl 1 (by decide) (hts _ tw_97) (fun _ h9 => h9) rfl d_Mu_endCycle_76 ?_
    refine lv_iconst (v := 1) hx hb d_Mu_endCycle_79 (by decide) ?_
    refine lv_isub hx hb d_Mu_endCycle_80 ?_
    refine va_put (D := D) (ci := 5) (v := .int ((u61.1 16) - (1 : Int32))) (ty := .int) (C := R_Mu) (T := T_Mu) (N := 3) hx hb hts i_Mu t_Mu o_Mu n_Mu hown hK hP hD hS 9 rfl rfl 1 (by decide) (hts _ tw_97) (fun _ h9 => h9) rfl (by decide +kernel) rfl rfl (Nat.le_of_ble_eq_true rfl) d_Mu_endCycle_81 (fun H locs hP hD hS => ?_)
    have hP : va_P D gCl (xW cI cS cZ ad wc wb kp tp (va_up (va_up u61.1 15 ((u61.1 15) <<< ((1 : Int32) &&& 31))) 16 ((u61.1 16) - (1 : Int32))) u61.2) H := hP
    have hD : va_D A (xW cI cS cZ ad wc wb kp tp (va_up (va_up u61.1 15 ((u61.1 15) <<< ((1 : Int32) &&& 31))) 16 ((u61.1 16) - (1 : Int32))) u61.2) := hD
    exact hret H locs 84 ls ((va_up (va_up u61.1 15 ((u61.1 15) <<< ((1 : Int32) &&& 31))) 16 ((u61.1 16) - (1 : Int32))), u61.2) d_Mu_endCycle_84 hP hD hS hw
  have J36 : ∀ (σ : Nat → Int32) (α : Nat → Nat → Int32) (t0 : Int32) (ls : Array Slot) (H : Heap) (locs : List Loc), lv_has ls 3 [(0, .ref (ad 9)), (1, .ref (ad 1))] → va_P D gCl (xW cI cS cZ ad wc wb kp tp σ α) H → va_D A (xW cI cS cZ ad wc wb kp tp σ α) → va_S A s.heap H locs → wp_Mu_endCycle_J36 σ α t0 post → W p l e rm_Mu_endCycle s m ([.ref (ad 9), .ref (ad 1)] : List Value).toArray below meth c H locs 0 0 Q (F0 m 36 ls [.int t0]) := by
    intro σ α t0 ls H locs hl hP hD hS hw
    unfold wp_Mu_endCycle_J36 at hw
    refine lv_istore_n hx hb d_Mu_endCycle_36 rfl hl (by decide) rfl (fun ls hl => ?_)
    have hl : lv_has ls 3 [(2, .int t0), (0, .ref (ad 9)), (1, .ref (ad 1))] := hl
    refine lv_aload_n hx hb d_Mu_endCycle_37 rfl (lv_at hl 2 rfl) ?_
    refine lv_iconst (v := 2) hx hb d_Mu_endCycle_38 (by decide) ?_
    refine lv_aload_n hx hb d_Mu_endCycle_39 rfl (lv_at hl 2 rfl) ?_
    refine gCallVi (b := ad 1) (As := []) (rest := [.int (2 : Int32), .ref (ad 1)]) (c_St_product l D cI cS cZ ad wc wb kp tp σ α _ hw) hx hb hml hown hts hK hN hA hS hP hD (cwV 0 hts (gGV tw_406 tw_407 tw_408 tw_2 tw_409) rfl rfl rfl ⟨rfl, by decide, by decide, by decide +kernel⟩ ⟨Nat.le_of_ble_eq_true rfl, Nat.le_of_ble_eq_true rfl⟩) (va_recv (ci := 1) (q0 := 1) hK hP rfl rfl) rfl hl.1 rfl (Nat.le_of_ble_eq_true rfl) d_Mu_endCycle_40 (fun r40 u40 H locs hw hP hD hS => ?_)
    have hP : va_P D gCl (xW cI cS cZ ad wc wb kp tp u40.1 u40.2) H := hP
    have hD : va_D A (xW cI cS cZ ad wc wb kp tp u40.1 u40.2) := hD
    refine lv_imul hx hb d_Mu_endCycle_43 ?_
    refine lv_iload_n hx hb d_Mu_endCycle_44 rfl (lv_at hl 0 rfl) ?_
    refine lv_if_eq (tgt := 59) hx hb d_Mu_endCycle_45 (by decide) (fun h => ?_) (fun h => ?_)
    · have hw := hw.1 h
      refine lv_iconst (v := 0) hx hb d_Mu_endCycle_59 (by decide) ?_
      exact J60 u40.1 u40.2 (0 : Int32) ((2 : Int32) * r40) ls H locs (lv_sub hl [1] rfl) hP hD hS hw
    · have hw := hw.2 h
      refine lv_aload_n hx hb d_Mu_endCycle_48 rfl (lv_at hl 2 rfl) ?_
      refine va_getN (D := D) (ci := 1) (v := .ref (ad 3)) (C := R_St) (T := T_St) (N := 2) hx hb hts i_St hown hK hP 1 rfl rfl 1 (by decide) (va_Nw.use rfl (hN _ tn_32)) (fun _ h9 => h9) rfl d_Mu_endCycle_49 ?_
      refine lv_sipush (v := 129) hx hb d_Mu_endCycle_52 (by decide) ?_
      refine va_sald (f := u40.2 3) hx hb hK hP 3 1 rfl rfl (show vp_in (129 : Int32) 132 by unfold vp_in; decide) d_Mu_endCycle_55 ?_
      refine lv_goto (tgt := 60) hx hb d_Mu_endCycle_56 (by decide) ?_
      exact J60 u40.1 u40.2 (u40.2 3 (129 : Int32).toNatClampNeg) ((2 : Int32) * r40) ls H locs (lv_sub hl [1] rfl) hP hD hS hw
  unfold wp_Mu_endCycle at hw
  have hP : va_P D gCl (xW cI cS cZ ad wc wb kp tp σ α) s.heap := hP
  have hD : va_D A (xW cI cS cZ ad wc wb kp tp σ α) := hD
  obtain ⟨H, hH⟩ : ∃ H, H = s.heap := ⟨_, rfl⟩
  obtain ⟨locs, hlocs⟩ : ∃ locs : List Loc, locs = [] := ⟨_, rfl⟩
  have hP : va_P D gCl (xW cI cS cZ ad wc wb kp tp σ α) H := by rw [hH]; exact hP
  have hS : va_S A s.heap H locs := by rw [hH, hlocs]; exact hS
  suffices K : W p l e rm_Mu_endCycle s m ([.ref (ad 9), .ref (ad 1)] : List Value).toArray below meth c H locs 0 0 Q (F0 m 0 ls []) by rw [hH, hlocs] at K; exact K
  clear hH hlocs
  refine lv_aload_n hx hb d_Mu_endCycle_0 rfl (lv_at hl 0 rfl) ?_
  refine va_get (D := D) (ci := 5) (v := .int (σ 17)) (C := R_Mu) (T := T_Mu) (N := 3) hx hb hts i_Mu hown hK hP 9 rfl rfl 2 (by decide) (hts _ tw_99) (fun _ h9 => h9) rfl d_Mu_endCycle_1 ?_
  refine lv_if_eq (tgt := 13) hx hb d_Mu_endCycle_4 (by decide) (fun h => ?_) (fun h => ?_)
  · have hw := hw.1 h
    refine lv_aload_n hx hb d_Mu_endCycle_13 rfl (lv_at hl 0 rfl) ?_
    refine va_get (D := D) (ci := 5) (v := .int (σ 16)) (C := R_Mu) (T := T_Mu) (N := 3) hx hb hts i_Mu hown hK hP 9 rfl rfl 1 (by decide) (hts _ tw_97) (fun _ h9 => h9) rfl d_Mu_endCycle_14 ?_
    refine lv_if_ne (tgt := 21) hx hb d_Mu_endCycle_17 (by decide) (fun h => ?_) (fun h => ?_)
    · have hw := hw.1 h
      refine lv_aload_n hx hb d_Mu_endCycle_21 rfl (lv_at hl 0 rfl) ?_
      refine va_get (D := D) (ci := 5) (v := .int (σ 15)) (C := R_Mu) (T := T_Mu) (N := 3) hx hb hts i_Mu hown hK hP 9 rfl rfl 0 (by decide) (hts _ tw_96) (fun _ h9 => h9) rfl d_Mu_endCycle_22 ?_
      refine lv_ldc hx hb hown (hts _ tw_405) d_Mu_endCycle_25 ?_
      refine lv_iand hx hb d_Mu_endCycle_27 ?_
      refine lv_if_eq (tgt := 35) hx hb d_Mu_endCycle_28 (by decide) (fun h => ?_) (fun h => ?_)
      · have hw := hw.1 h
        refine lv_iconst (v := 0) hx hb d_Mu_endCycle_35 (by decide) ?_
        exact J36 σ α (0 : Int32) ls H locs (lv_sub hl [0, 1] rfl) hP hD hS hw
      · have hw := hw.2 h
        refine lv_iconst (v := 1) hx hb d_Mu_endCycle_31 (by decide) ?_
        refine lv_goto (tgt := 36) hx hb d_Mu_endCycle_32 (by decide) ?_
        exact J36 σ α (1 : Int32) ls H locs (lv_sub hl [0, 1] rfl) hP hD hS hw
    · have hw := hw.2 h
      exact hret H locs 20 ls (σ, α) d_Mu_endCycle_20 hP hD hS hw
  · have hw := hw.2 h
    refine lv_aload_n hx hb d_Mu_endCycle_7 rfl (lv_at hl 0 rfl) ?_
    refine lv_iconst (v := 0) hx hb d_Mu_endCycle_8 (by decide) ?_
    refine va_put (D := D) (ci := 5) (v := .int (0 : Int32)) (ty := .boolean) (C := R_Mu) (T := T_Mu) (N := 3) hx hb hts i_Mu t_Mu o_Mu n_Mu hown hK hP hD hS 9 rfl rfl 2 (by decide) (hts _ tw_99) (fun _ h9 => h9) rfl (by decide +kernel) rfl rfl (Nat.le_of_ble_eq_true rfl) d_Mu_endCycle_9 (fun H locs hP hD hS => ?_)
    have hP : va_P D gCl (xW cI cS cZ ad wc wb kp tp (va_up σ 17 (0 : Int32)) α) H := hP
    have hD : va_D A (xW cI cS cZ ad wc wb kp tp (va_up σ 17 (0 : Int32)) α) := hD
    exact hret H locs 12 ls ((va_up σ 17 (0 : Int32)), α) d_Mu_endCycle_12 hP hD hS hw
abbrev rm_Rd_endCycle : Room := { frames := 1, cells := 0, slots := 0, locals := 23 }
set_option maxHeartbeats 4000000 in
set_option maxRecDepth 100000 in
theorem c_Rd_endCycle (l : Launch) (D : va_G) (cI cS cZ : ClassId) (ad : Nat → Nat) (wc wb : Nat) (kp tp : Nat → Nat) (σ : Nat → Int32) (α : Nat → Nat → Int32) (x1 : Int32) (post : Int32 → gS → Prop) (hw : wp_Rd_endCycle σ α x1 post) : gMi l y_Rd_endCycle b_Rd_endCycle 4 .boolean rm_Rd_endCycle D (gT cI cS cZ) (fun u : gS => xW cI cS cZ ad wc wb kp tp u.1 u.2) [.ref (ad 4), .int x1] (σ, α) post := by
  refine gMi.of (by decide) (Nat.le_of_ble_eq_true rfl) ?_
  intro p e s m below meth c Q A hx hb hml hown hts hK hN hA hS hP hD hret ls hl
  have hl : lv_has ls 4 [(0, .ref (ad 4)), (1, .int x1)] := hl
  have J49 : ∀ (σ : Nat → Int32) (α : Nat → Nat → Int32) (a3 : Int32) (ls : Array Slot) (H : Heap) (locs : List Loc), lv_has ls 4 [(3, .int a3)] → va_P D gCl (xW cI cS cZ ad wc wb kp tp σ α) H → va_D A (xW cI cS cZ ad wc wb kp tp σ α) → va_S A s.heap H locs → wp_Rd_endCycle_J49 σ α a3 post → W p l e rm_Rd_endCycle s m ([.ref (ad 4), .int x1] : List Value).toArray below meth c H locs 0 0 Q (F0 m 49 ls []) := by
    intro σ α a3 ls H locs hl hP hD hS hw
    unfold wp_Rd_endCycle_J49 at hw
    refine lv_iload_n hx hb d_Rd_endCycle_49 rfl (lv_at hl 0 rfl) ?_
    obtain ⟨hn, hw⟩ := hw
    exact hret H locs 50 ls a3 (σ, α) d_Rd_endCycle_50 hP hD hS hn hw
  have J32 : ∀ (σ : Nat → Int32) (α : Nat → Nat → Int32) (a2 : Int32) (t0 : Int32) (ls : Array Slot) (H : Heap) (locs : List Loc), lv_has ls 4 [(0, .ref (ad 4)), (2, .int a2)] → va_P D gCl (xW cI cS cZ ad wc wb kp tp σ α) H → va_D A (xW cI cS cZ ad wc wb kp tp σ α) → va_S A s.heap H locs → wp_Rd_endCycle_J32 σ α a2 t0 post → W p l e rm_Rd_endCycle s m ([.ref (ad 4), .int x1] : List Value).toArray below meth c H locs 0 0 Q (F0 m 32 ls [.int t0]) := by
    intro σ α a2 t0 ls H locs hl hP hD hS hw
    unfold wp_Rd_endCycle_J32 at hw
    refine lv_istore_n hx hb d_Rd_endCycle_32 rfl hl (by decide) rfl (fun ls hl => ?_)
    have hl : lv_has ls 4 [(3, .int t0), (0, .ref (ad 4)), (2, .int a2)] := hl
    refine lv_aload_n hx hb d_Rd_endCycle_33 rfl (lv_at hl 1 rfl) ?_
    refine lv_iconst (v := 0) hx hb d_Rd_endCycle_34 (by decide) ?_
    refine va_put (D := D) (ci := 2) (v := .int (0 : Int32)) (ty := .boolean) (C := R_Rd) (T := T_Rd) (N := 6) hx hb hts i_Rd t_Rd o_Rd n_Rd hown hK hP hD hS 4 rfl rfl 5 (by decide) (hts _ tw_52) (fun _ h9 => h9) rfl (by decide +kernel) rfl rfl (Nat.le_of_ble_eq_true rfl) d_Rd_endCycle_35 (fun H locs hP hD hS => ?_)
    have hP : va_P D gCl (xW cI cS cZ ad wc wb kp tp (va_up σ 4 (0 : Int32)) α) H := hP
    have hD : va_D A (xW cI cS cZ ad wc wb kp tp (va_up σ 4 (0 : Int32)) α) := hD
    refine lv_iload_n hx hb d_Rd_endCycle_38 rfl (lv_at hl 2 rfl) ?_
    refine lv_bipush (v := 90) hx hb d_Rd_endCycle_39 (by decide) ?_
    refine lv_icmp_ne (tgt := 49) hx hb d_Rd_endCycle_41 (by decide) (fun h => ?_) (fun h => ?_)
    · have hw := hw.1 h
      exact J49 (va_up σ 4 (0 : Int32)) α t0 ls H locs (lv_sub hl [0] rfl) hP hD hS hw
    · have hw := hw.2 h
      refine lv_aload_n hx hb d_Rd_endCycle_44 rfl (lv_at hl 1 rfl) ?_
      refine lv_iconst (v := 0) hx hb d_Rd_endCycle_45 (by decide) ?_
      refine va_put (D := D) (ci := 2) (v := .int (0 : Int32)) (ty := .boolean) (C := R_Rd) (T := T_Rd) (N := 6) hx hb hts i_Rd t_Rd o_Rd n_Rd hown hK hP hD hS 4 rfl rfl 3 (by decide) (hts _ tw_50) (fun _ h9 => h9) rfl (by decide +kernel) rfl rfl (Nat.le_of_ble_eq_true rfl) d_Rd_endCycle_46 (fun H locs hP hD hS => ?_)
      have hP : va_P D gCl (xW cI cS cZ ad wc wb kp tp (va_up (va_up σ 2 (0 : Int32)) 4 (0 : Int32)) α) H := hP
      have hD : va_D A (xW cI cS cZ ad wc wb kp tp (va_up (va_up σ 2 (0 : Int32)) 4 (0 : Int32)) α) := hD
      exact J49 (va_up (va_up σ 2 (0 : Int32)) 4 (0 : Int32)) α t0 ls H locs (lv_sub hl [0] rfl) hP hD hS hw
  have J18 : ∀ (σ : Nat → Int32) (α : Nat → Nat → Int32) (ls : Array Slot) (H : Heap) (locs : List Loc), lv_has ls 4 [] → va_P D gCl (xW cI cS cZ ad wc wb kp tp σ α) H → va_D A (xW cI cS cZ ad wc wb kp tp σ α) → va_S A s.heap H locs → wp_Rd_endCycle_J18 σ α post → W p l e rm_Rd_endCycle s m ([.ref (ad 4), .int x1] : List Value).toArray below meth c H locs 0 0 Q (F0 m 18 ls []) := by
    intro σ α ls H locs hl hP hD hS hw
    unfold wp_Rd_endCycle_J18 at hw
    refine lv_iconst (v := 0) hx hb d_Rd_endCycle_18 (by decide) ?_
    exact hret H locs 19 ls (0 : Int32) (σ, α) d_Rd_endCycle_19 hP hD hS rfl hw
  unfold wp_Rd_endCycle at hw
  have hP : va_P D gCl (xW cI cS cZ ad wc wb kp tp σ α) s.heap := hP
  have hD : va_D A (xW cI cS cZ ad wc wb kp tp σ α) := hD
  obtain ⟨H, hH⟩ : ∃ H, H = s.heap := ⟨_, rfl⟩
  obtain ⟨locs, hlocs⟩ : ∃ locs : List Loc, locs = [] := ⟨_, rfl⟩
  have hP : va_P D gCl (xW cI cS cZ ad wc wb kp tp σ α) H := by rw [hH]; exact hP
  have hS : va_S A s.heap H locs := by rw [hH, hlocs]; exact hS
  suffices K : W p l e rm_Rd_endCycle s m ([.ref (ad 4), .int x1] : List Value).toArray below meth c H locs 0 0 Q (F0 m 0 ls []) by rw [hH, hlocs] at K; exact K
  clear hH hlocs
  refine lv_aload_n hx hb d_Rd_endCycle_0 rfl (lv_at hl 0 rfl) ?_
  refine lv_iload_n hx hb d_Rd_endCycle_1 rfl (lv_at hl 1 rfl) ?_
  refine gCallVi (b := ad 4) (As := [.int x1]) (rest := []) (c_Rd_offset l D cI cS cZ ad wc wb kp tp σ α x1 _ hw) hx hb hml hown hts hK hN hA hS hP hD (cwV 1 hts (gGV tw_362 tw_364 ts_4 tw_3 tw_365) rfl rfl rfl ⟨rfl, by decide, by decide, by decide +kernel⟩ ⟨Nat.le_of_ble_eq_true rfl, Nat.le_of_ble_eq_true rfl⟩) (va_recv (ci := 2) (q0 := 4) hK hP rfl rfl) rfl hl.1 rfl (Nat.le_of_ble_eq_true rfl) d_Rd_endCycle_2 (fun r2 u2 H locs hw hP hD hS => ?_)
  have hP : va_P D gCl (xW cI cS cZ ad wc wb kp tp u2.1 u2.2) H := hP
  have hD : va_D A (xW cI cS cZ ad wc wb kp tp u2.1 u2.2) := hD
  refine lv_istore_n hx hb d_Rd_endCycle_5 rfl hl (by decide) rfl (fun ls hl => ?_)
  have hl : lv_has ls 4 [(2, .int r2), (0, .ref (ad 4)), (1, .int x1)] := hl
  refine lv_iload_n hx hb d_Rd_endCycle_6 rfl (lv_at hl 0 rfl) ?_
  refine lv_if_lt (tgt := 18) hx hb d_Rd_endCycle_7 (by decide) (fun h => ?_) (fun h => ?_)
  · have hw := hw.1 h
    exact J18 u2.1 u2.2 ls H locs (lv_sub hl [] rfl) hP hD hS hw
  · have hw := hw.2 h
    refine lv_iload_n hx hb d_Rd_endCycle_10 rfl (lv_at hl 0 rfl) ?_
    refine lv_bipush (v := 8) hx hb d_Rd_endCycle_11 (by decide) ?_
    refine lv_irem hx hb d_Rd_endCycle_13 (by decide) ?_
    refine lv_iconst (v := 2) hx hb d_Rd_endCycle_14 (by decide) ?_
    refine lv_icmp_eq (tgt := 20) hx hb d_Rd_endCycle_15 (by decide) (fun h => ?_) (fun h => ?_)
    · have hw := hw.1 h
      refine lv_aload_n hx hb d_Rd_endCycle_20 rfl (lv_at hl 1 rfl) ?_
      refine va_get (D := D) (ci := 2) (v := .int (u2.1 4)) (C := R_Rd) (T := T_Rd) (N := 6) hx hb hts i_Rd hown hK hP 4 rfl rfl 5 (by decide) (hts _ tw_52) (fun _ h9 => h9) rfl d_Rd_endCycle_21 ?_
      refine lv_if_ne (tgt := 31) hx hb d_Rd_endCycle_24 (by decide) (fun h => ?_) (fun h => ?_)
      · have hw := hw.1 h
        refine lv_iconst (v := 0) hx hb d_Rd_endCycle_31 (by decide) ?_
        exact J32 u2.1 u2.2 r2 (0 : Int32) ls H locs (lv_sub hl [1, 0] rfl) hP hD hS hw
      · have hw := hw.2 h
        refine lv_iconst (v := 1) hx hb d_Rd_endCycle_27 (by decide) ?_
        refine lv_goto (tgt := 32) hx hb d_Rd_endCycle_28 (by decide) ?_
        exact J32 u2.1 u2.2 r2 (1 : Int32) ls H locs (lv_sub hl [1, 0] rfl) hP hD hS hw
    · have hw := hw.2 h
      exact J18 u2.1 u2.2 ls H locs (lv_sub hl [] rfl) hP hD hS hw
abbrev rm_Mc_goThroughCycle : Room := { frames := 4, cells := 0, slots := 0, locals := 90 }
set_option maxHeartbeats 4000000 in
set_option maxRecDepth 100000 in
theorem c_Mc_goThroughCycle (l : Launch) (D : va_G) (cI cS cZ : ClassId) (ad : Nat → Nat) (kp tp : Nat → Nat) (wc : Nat) (wb : Nat) (σ : Nat → Int32) (α : Nat → Nat → Int32) (post : gSW → Prop) (hw : wp_Mc_goThroughCycle wc wb σ α post) : gMv l y_Mc_goThroughCycle b_Mc_goThroughCycle 1 rm_Mc_goThroughCycle D (gT cI cS cZ) (fun u : gSW => xW cI cS cZ ad u.1 u.2.1 kp tp u.2.2.1 u.2.2.2) [.ref (ad 8)] (wc, wb, σ, α) post := by
  refine gMv.of (by decide) (Nat.le_of_ble_eq_true rfl) ?_
  intro p e s m below meth c Q A hx hb hml hown hts hK hN hA hS hP hD hret ls hl
  have hl : lv_has ls 1 [(0, .ref (ad 8))] := hl
  have J92 : ∀ (wc : Nat) (wb : Nat) (σ : Nat → Int32) (α : Nat → Nat → Int32) (ls : Array Slot) (H : Heap) (locs : List Loc), lv_has ls 1 [(0, .ref (ad 8))] → va_P D gCl (xW cI cS cZ ad wc wb kp tp σ α) H → va_D A (xW cI cS cZ ad wc wb kp tp σ α) → va_S A s.heap H locs → wp_Mc_goThroughCycle_J92 wc wb σ α post → W p l e rm_Mc_goThroughCycle s m ([.ref (ad 8)] : List Value).toArray below meth c H locs 0 0 Q (F0 m 92 ls []) := by
    intro wc wb σ α ls H locs hl hP hD hS hw
    unfold wp_Mc_goThroughCycle_J92 at hw
    refine lv_aload_n hx hb d_Mc_goThroughCycle_92 rfl (lv_at hl 0 rfl) ?_
    refine lv_dup hx hb d_Mc_goThroughCycle_93 rfl ?_
    refine va_get (D := D) (ci := 4) (v := .int (σ 9)) (C := R_Mc) (T := T_Mc) (N := 14) hx hb hts i_Mc hown hK hP 8 rfl rfl 8 (by decide) (hts _ tw_143) (fun _ h9 => h9) rfl d_Mc_goThroughCycle_94 ?_
    refine lv_iconst (v := 1) hx hb d_Mc_goThroughCycle_97 (by decide) ?_
    refine lv_iadd hx hb d_Mc_goThroughCycle_98 ?_
    refine va_put (D := D) (ci := 4) (v := .int ((σ 9) + (1 : Int32))) (ty := .int) (C := R_Mc) (T := T_Mc) (N := 14) hx hb hts i_Mc t_Mc o_Mc n_Mc hown hK hP hD hS 8 rfl rfl 8 (by decide) (hts _ tw_143) (fun _ h9 => h9) rfl (by decide +kernel) rfl rfl (Nat.le_of_ble_eq_true rfl) d_Mc_goThroughCycle_99 (fun H locs hP hD hS => ?_)
    have hP : va_P D gCl (xW cI cS cZ ad wc wb kp tp (va_up σ 9 ((σ 9) + (1 : Int32))) α) H := hP
    have hD : va_D A (xW cI cS cZ ad wc wb kp tp (va_up σ 9 ((σ 9) + (1 : Int32))) α) := hD
    exact hret H locs 102 ls (wc, wb, (va_up σ 9 ((σ 9) + (1 : Int32))), α) d_Mc_goThroughCycle_102 hP hD hS hw
  have J62 : ∀ (wc : Nat) (wb : Nat) (σ : Nat → Int32) (α : Nat → Nat → Int32) (ls : Array Slot) (H : Heap) (locs : List Loc), lv_has ls 1 [(0, .ref (ad 8))] → va_P D gCl (xW cI cS cZ ad wc wb kp tp σ α) H → va_D A (xW cI cS cZ ad wc wb kp tp σ α) → va_S A s.heap H locs → wp_Mc_goThroughCycle_J62 wc wb σ α post → W p l e rm_Mc_goThroughCycle s m ([.ref (ad 8)] : List Value).toArray below meth c H locs 0 0 Q (F0 m 62 ls []) := by
    intro wc wb σ α ls H locs hl hP hD hS hw
    unfold wp_Mc_goThroughCycle_J62 at hw
    refine lv_aload_n hx hb d_Mc_goThroughCycle_62 rfl (lv_at hl 0 rfl) ?_
    refine va_get (D := D) (ci := 4) (v := .ref (ad 9)) (C := R_Mc) (T := T_Mc) (N := 14) hx hb hts i_Mc hown hK hP 8 rfl rfl 3 (by decide) (hts _ tw_135) (fun _ h9 => h9) rfl d_Mc_goThroughCycle_63 ?_
    refine lv_aload_n hx hb d_Mc_goThroughCycle_66 rfl (lv_at hl 0 rfl) ?_
    refine va_get (D := D) (ci := 4) (v := .ref (ad 1)) (C := R_Mc) (T := T_Mc) (N := 14) hx hb hts i_Mc hown hK hP 8 rfl rfl 0 (by decide) (hts _ tw_132) (fun _ h9 => h9) rfl d_Mc_goThroughCycle_67 ?_
    refine gCallVv (b := ad 9) (As := [.ref (ad 1)]) (rest := []) (c_Mu_endCycle l D cI cS cZ ad wc wb kp tp σ α _ hw) hx hb hml hown hts hK hN hA hS hP hD (cwV 1 hts (gGV tw_401 tw_402 tw_403 tw_6 tw_404) rfl rfl rfl ⟨rfl, by decide, by decide, by decide +kernel⟩ ⟨Nat.le_of_ble_eq_true rfl, Nat.le_of_ble_eq_true rfl⟩) (va_recv (ci := 5) (q0 := 9) hK hP rfl rfl) rfl hl.1 rfl (Nat.le_of_ble_eq_true rfl) d_Mc_goThroughCycle_70 (fun u70 H locs hw hP hD hS => ?_)
    have hP : va_P D gCl (xW cI cS cZ ad wc wb kp tp u70.1 u70.2) H := hP
    have hD : va_D A (xW cI cS cZ ad wc wb kp tp u70.1 u70.2) := hD
    refine lv_aload_n hx hb d_Mc_goThroughCycle_73 rfl (lv_at hl 0 rfl) ?_
    refine va_get (D := D) (ci := 4) (v := .ref (ad 4)) (C := R_Mc) (T := T_Mc) (N := 14) hx hb hts i_Mc hown hK hP 8 rfl rfl 1 (by decide) (hts _ tw_133) (fun _ h9 => h9) rfl d_Mc_goThroughCycle_74 ?_
    refine lv_aload_n hx hb d_Mc_goThroughCycle_77 rfl (lv_at hl 0 rfl) ?_
    refine va_get (D := D) (ci := 4) (v := .int (u70.1 9)) (C := R_Mc) (T := T_Mc) (N := 14) hx hb hts i_Mc hown hK hP 8 rfl rfl 8 (by decide) (hts _ tw_143) (fun _ h9 => h9) rfl d_Mc_goThroughCycle_78 ?_
    refine gCallVi (b := ad 4) (As := [.int (u70.1 9)]) (rest := []) (c_Rd_endCycle l D cI cS cZ ad wc wb kp tp u70.1 u70.2 (u70.1 9) _ hw) hx hb hml hown hts hK hN hA hS hP hD (cwV 1 hts (gGV tw_411 tw_412 tw_413 tw_3 tw_414) rfl rfl rfl ⟨rfl, by decide, by decide, by decide +kernel⟩ ⟨Nat.le_of_ble_eq_true rfl, Nat.le_of_ble_eq_true rfl⟩) (va_recv (ci := 2) (q0 := 4) hK hP rfl rfl) rfl hl.1 rfl (Nat.le_of_ble_eq_true rfl) d_Mc_goThroughCycle_81 (fun r81 u81 H locs hw hP hD hS => ?_)
    have hP : va_P D gCl (xW cI cS cZ ad wc wb kp tp u81.1 u81.2) H := hP
    have hD : va_D A (xW cI cS cZ ad wc wb kp tp u81.1 u81.2) := hD
    refine lv_if_eq (tgt := 92) hx hb d_Mc_goThroughCycle_84 (by decide) (fun h => ?_) (fun h => ?_)
    · have hw := hw.1 h
      exact J92 wc wb u81.1 u81.2 ls H locs (lv_sub hl [0] rfl) hP hD hS hw
    · have hw := hw.2 h
      refine lv_aload_n hx hb d_Mc_goThroughCycle_87 rfl (lv_at hl 0 rfl) ?_
      refine lv_iconst (v := 1) hx hb d_Mc_goThroughCycle_88 (by decide) ?_
      refine gCallVv (b := ad 8) (As := [.int (1 : Int32)]) (rest := []) (c_Mc_stopBy l D cI cS cZ ad wc wb kp tp u81.1 u81.2 (1 : Int32) _ hw) hx hb hml hown hts hK hN hA hS hP hD (cwV 1 hts (gGV tw_393 tw_395 ts_7 tw_5 tw_396) rfl rfl rfl ⟨rfl, by decide, by decide, by decide +kernel⟩ ⟨Nat.le_of_ble_eq_true rfl, Nat.le_of_ble_eq_true rfl⟩) (va_recv (ci := 4) (q0 := 8) hK hP rfl rfl) rfl hl.1 rfl (Nat.le_of_ble_eq_true rfl) d_Mc_goThroughCycle_89 (fun u89 H locs hw hP hD hS => ?_)
      have hP : va_P D gCl (xW cI cS cZ ad wc wb kp tp u89.1 u89.2) H := hP
      have hD : va_D A (xW cI cS cZ ad wc wb kp tp u89.1 u89.2) := hD
      exact J92 wc wb u89.1 u89.2 ls H locs (lv_sub hl [0] rfl) hP hD hS hw
  have J15 : ∀ (wc : Nat) (wb : Nat) (σ : Nat → Int32) (α : Nat → Nat → Int32) (ls : Array Slot) (H : Heap) (locs : List Loc), lv_has ls 1 [(0, .ref (ad 8))] → va_P D gCl (xW cI cS cZ ad wc wb kp tp σ α) H → va_D A (xW cI cS cZ ad wc wb kp tp σ α) → va_S A s.heap H locs → wp_Mc_goThroughCycle_J15 wc wb σ α post → W p l e rm_Mc_goThroughCycle s m ([.ref (ad 8)] : List Value).toArray below meth c H locs 0 0 Q (F0 m 15 ls []) := by
    intro wc wb σ α ls H locs hl hP hD hS hw
    unfold wp_Mc_goThroughCycle_J15 at hw
    refine lv_aload_n hx hb d_Mc_goThroughCycle_15 rfl (lv_at hl 0 rfl) ?_
    refine va_get (D := D) (ci := 4) (v := .ref (wb)) (C := R_Mc) (T := T_Mc) (N := 14) hx hb hts i_Mc hown hK hP 8 rfl rfl 5 (by decide) (hts _ tw_138) (fun _ h9 => h9) rfl d_Mc_goThroughCycle_16 ?_
    refine lv_aload_n hx hb d_Mc_goThroughCycle_19 rfl (lv_at hl 0 rfl) ?_
    refine va_get (D := D) (ci := 4) (v := .int (σ 9)) (C := R_Mc) (T := T_Mc) (N := 14) hx hb hts i_Mc hown hK hP 8 rfl rfl 8 (by decide) (hts _ tw_143) (fun _ h9 => h9) rfl d_Mc_goThroughCycle_20 ?_
    refine gCallVi (b := wb) (As := [.int (σ 9)]) (rest := []) (c_Wi_covers_11 l D cI cS cZ ad wc wb kp tp σ α (σ 9) _ hw) hx hb hml hown hts hK hN hA hS hP hD (cwV 1 hts (gGV tw_346 tw_347 tw_348 tw_7 tw_349) rfl rfl rfl ⟨rfl, by decide, by decide, by decide +kernel⟩ ⟨Nat.le_of_ble_eq_true rfl, Nat.le_of_ble_eq_true rfl⟩) (va_recv (ci := 6) (q0 := 11) hK hP rfl rfl) rfl hl.1 rfl (Nat.le_of_ble_eq_true rfl) d_Mc_goThroughCycle_23 (fun r23 u23 H locs hw hP hD hS => ?_)
    have hP : va_P D gCl (xW cI cS cZ ad wc wb kp tp u23.1 u23.2) H := hP
    have hD : va_D A (xW cI cS cZ ad wc wb kp tp u23.1 u23.2) := hD
    refine lv_if_eq (tgt := 40) hx hb d_Mc_goThroughCycle_26 (by decide) (fun h => ?_) (fun h => ?_)
    · have hw := hw.1 h
      refine lv_aload_n hx hb d_Mc_goThroughCycle_40 rfl (lv_at hl 0 rfl) ?_
      refine va_get (D := D) (ci := 4) (v := .ref (wc)) (C := R_Mc) (T := T_Mc) (N := 14) hx hb hts i_Mc hown hK hP 8 rfl rfl 4 (by decide) (hts _ tw_137) (fun _ h9 => h9) rfl d_Mc_goThroughCycle_41 ?_
      refine lv_aload_n hx hb d_Mc_goThroughCycle_44 rfl (lv_at hl 0 rfl) ?_
      refine va_get (D := D) (ci := 4) (v := .int (u23.1 9)) (C := R_Mc) (T := T_Mc) (N := 14) hx hb hts i_Mc hown hK hP 8 rfl rfl 8 (by decide) (hts _ tw_143) (fun _ h9 => h9) rfl d_Mc_goThroughCycle_45 ?_
      refine gCallVi (b := wc) (As := [.int (u23.1 9)]) (rest := []) (c_Wi_covers_10 l D cI cS cZ ad wc wb kp tp u23.1 u23.2 (u23.1 9) _ hw) hx hb hml hown hts hK hN hA hS hP hD (cwV 1 hts (gGV tw_346 tw_347 tw_348 tw_7 tw_349) rfl rfl rfl ⟨rfl, by decide, by decide, by decide +kernel⟩ ⟨Nat.le_of_ble_eq_true rfl, Nat.le_of_ble_eq_true rfl⟩) (va_recv (ci := 6) (q0 := 10) hK hP rfl rfl) rfl hl.1 rfl (Nat.le_of_ble_eq_true rfl) d_Mc_goThroughCycle_48 (fun r48 u48 H locs hw hP hD hS => ?_)
      have hP : va_P D gCl (xW cI cS cZ ad wc wb kp tp u48.1 u48.2) H := hP
      have hD : va_D A (xW cI cS cZ ad wc wb kp tp u48.1 u48.2) := hD
      refine lv_if_eq (tgt := 62) hx hb d_Mc_goThroughCycle_51 (by decide) (fun h => ?_) (fun h => ?_)
      · have hw := hw.1 h
        exact J62 wc wb u48.1 u48.2 ls H locs (lv_sub hl [0] rfl) hP hD hS hw
      · have hw := hw.2 h
        refine lv_aload_n hx hb d_Mc_goThroughCycle_54 rfl (lv_at hl 0 rfl) ?_
        refine lv_aload_n hx hb d_Mc_goThroughCycle_55 rfl (lv_at hl 0 rfl) ?_
        refine va_get (D := D) (ci := 4) (v := .ref (wc)) (C := R_Mc) (T := T_Mc) (N := 14) hx hb hts i_Mc hown hK hP 8 rfl rfl 4 (by decide) (hts _ tw_137) (fun _ h9 => h9) rfl d_Mc_goThroughCycle_56 ?_
        refine gCallVv (b := ad 8) (As := [.ref (wc)]) (rest := []) (c_Mc_move_10 l D cI cS cZ ad wc wb kp tp u48.1 u48.2 _ hw) hx hb hml hown hts hK hN hA hS hP hD (cwV 1 hts (gGV tw_350 tw_352 ts_2 tw_5 tw_353) rfl rfl rfl ⟨rfl, by decide, by decide, by decide +kernel⟩ ⟨Nat.le_of_ble_eq_true rfl, Nat.le_of_ble_eq_true rfl⟩) (va_recv (ci := 4) (q0 := 8) hK hP rfl rfl) rfl hl.1 rfl (Nat.le_of_ble_eq_true rfl) d_Mc_goThroughCycle_59 (fun u59 H locs hw hP hD hS => ?_)
        have hP : va_P D gCl (xW cI cS cZ ad wc wb kp tp u59.1 u59.2) H := hP
        have hD : va_D A (xW cI cS cZ ad wc wb kp tp u59.1 u59.2) := hD
        exact J62 wc wb u59.1 u59.2 ls H locs (lv_sub hl [0] rfl) hP hD hS hw
    · have hw := hw.2 h
      refine lv_aload_n hx hb d_Mc_goThroughCycle_29 rfl (lv_at hl 0 rfl) ?_
      refine lv_aload_n hx hb d_Mc_goThroughCycle_30 rfl (lv_at hl 0 rfl) ?_
      refine va_get (D := D) (ci := 4) (v := .ref (wb)) (C := R_Mc) (T := T_Mc) (N := 14) hx hb hts i_Mc hown hK hP 8 rfl rfl 5 (by decide) (hts _ tw_138) (fun _ h9 => h9) rfl d_Mc_goThroughCycle_31 ?_
      refine gCallVv (b := ad 8) (As := [.ref (wb)]) (rest := []) (c_Mc_move_11 l D cI cS cZ ad wc wb kp tp u23.1 u23.2 _ hw) hx hb hml hown hts hK hN hA hS hP hD (cwV 1 hts (gGV tw_350 tw_352 ts_2 tw_5 tw_353) rfl rfl rfl ⟨rfl, by decide, by decide, by decide +kernel⟩ ⟨Nat.le_of_ble_eq_true rfl, Nat.le_of_ble_eq_true rfl⟩) (va_recv (ci := 4) (q0 := 8) hK hP rfl rfl) rfl hl.1 rfl (Nat.le_of_ble_eq_true rfl) d_Mc_goThroughCycle_34 (fun u34 H locs hw hP hD hS => ?_)
      have hP : va_P D gCl (xW cI cS cZ ad wc wb kp tp u34.1 u34.2) H := hP
      have hD : va_D A (xW cI cS cZ ad wc wb kp tp u34.1 u34.2) := hD
      refine lv_goto (tgt := 62) hx hb d_Mc_goThroughCycle_37 (by decide) ?_
      exact J62 wc wb u34.1 u34.2 ls H locs (lv_sub hl [0] rfl) hP hD hS hw
  unfold wp_Mc_goThroughCycle at hw
  have hP : va_P D gCl (xW cI cS cZ ad wc wb kp tp σ α) s.heap := hP
  have hD : va_D A (xW cI cS cZ ad wc wb kp tp σ α) := hD
  obtain ⟨H, hH⟩ : ∃ H, H = s.heap := ⟨_, rfl⟩
  obtain ⟨locs, hlocs⟩ : ∃ locs : List Loc, locs = [] := ⟨_, rfl⟩
  have hP : va_P D gCl (xW cI cS cZ ad wc wb kp tp σ α) H := by rw [hH]; exact hP
  have hS : va_S A s.heap H locs := by rw [hH, hlocs]; exact hS
  suffices K : W p l e rm_Mc_goThroughCycle s m ([.ref (ad 8)] : List Value).toArray below meth c H locs 0 0 Q (F0 m 0 ls []) by rw [hH, hlocs] at K; exact K
  clear hH hlocs
  refine lv_aload_n hx hb d_Mc_goThroughCycle_0 rfl (lv_at hl 0 rfl) ?_
  refine va_get (D := D) (ci := 4) (v := .int (σ 9)) (C := R_Mc) (T := T_Mc) (N := 14) hx hb hts i_Mc hown hK hP 8 rfl rfl 8 (by decide) (hts _ tw_143) (fun _ h9 => h9) rfl d_Mc_goThroughCycle_1 ?_
  refine lv_aload_n hx hb d_Mc_goThroughCycle_4 rfl (lv_at hl 0 rfl) ?_
  refine va_get (D := D) (ci := 4) (v := .int (σ 11)) (C := R_Mc) (T := T_Mc) (N := 14) hx hb hts i_Mc hown hK hP 8 rfl rfl 10 (by decide) (hts _ tw_146) (fun _ h9 => h9) rfl d_Mc_goThroughCycle_5 ?_
  refine lv_icmp_ne (tgt := 15) hx hb d_Mc_goThroughCycle_8 (by decide) (fun h => ?_) (fun h => ?_)
  · have hw := hw.1 h
    exact J15 wc wb σ α ls H locs (lv_sub hl [0] rfl) hP hD hS hw
  · have hw := hw.2 h
    refine lv_aload_n hx hb d_Mc_goThroughCycle_11 rfl (lv_at hl 0 rfl) ?_
    refine gCallVv (b := ad 8) (As := []) (rest := []) (c_Mc_takeOrder l D cI cS cZ ad kp tp wc wb σ α _ hw) hx hb hml hown hts hK hN hA hS hP hD (cwV 0 hts (gGV tw_334 tw_336 ts_0 tw_5 tw_337) rfl rfl rfl ⟨rfl, by decide, by decide, by decide +kernel⟩ ⟨Nat.le_of_ble_eq_true rfl, Nat.le_of_ble_eq_true rfl⟩) (va_recv (ci := 4) (q0 := 8) hK hP rfl rfl) rfl hl.1 rfl (Nat.le_of_ble_eq_true rfl) d_Mc_goThroughCycle_12 (fun u12 H locs hw hP hD hS => ?_)
    have hP : va_P D gCl (xW cI cS cZ ad u12.1 u12.2.1 kp tp u12.2.2.1 u12.2.2.2) H := hP
    have hD : va_D A (xW cI cS cZ ad u12.1 u12.2.1 kp tp u12.2.2.1 u12.2.2.2) := hD
    exact J15 u12.1 u12.2.1 u12.2.2.1 u12.2.2.2 ls H locs (lv_sub hl [0] rfl) hP hD hS hw
abbrev rm_Dm_run : Room := { frames := 5, cells := 0, slots := 0, locals := 110 }
set_option maxHeartbeats 4000000 in
set_option maxRecDepth 100000 in
theorem c_Dm_run (l : Launch) (D : va_G) (cI cS cZ : ClassId) (ad : Nat → Nat) (kp tp : Nat → Nat) (wc : Nat) (wb : Nat) (σ : Nat → Int32) (α : Nat → Nat → Int32) (x1 : Int32) (post : Int32 → gSW → Prop) (hw : wp_Dm_run wc wb σ α x1 post) : gMi l y_Dm_run b_Dm_run 3 .int rm_Dm_run D (gT cI cS cZ) (fun u : gSW => xW cI cS cZ ad u.1 u.2.1 kp tp u.2.2.1 u.2.2.2) [.ref (ad 0), .int x1] (wc, wb, σ, α) post := by
  refine gMi.of (by decide) (Nat.le_of_ble_eq_true rfl) ?_
  intro p e s m below meth c Q A hx hb hml hown hts hK hN hA hS hP hD hret ls hl
  have hl : lv_has ls 3 [(0, .ref (ad 0)), (1, .int x1)] := hl
  have L15 : ∀ (wc : Nat) (wb : Nat) (σ : Nat → Int32) (α : Nat → Nat → Int32) (a1 : Int32) (a2 : Int32) (ls : Array Slot) (H : Heap) (locs : List Loc), lv_has ls 3 [(0, .ref (ad 0)), (1, .int a1), (2, .int a2)] → va_P D gCl (xW cI cS cZ ad wc wb kp tp σ α) H → va_D A (xW cI cS cZ ad wc wb kp tp σ α) → va_S A s.heap H locs → wp_Dm_run_L15 wc wb σ α a1 a2 post → W p l e rm_Dm_run s m ([.ref (ad 0), .int x1] : List Value).toArray below meth c H locs 0 0 Q (F0 m 15 ls []) := by
    intro wc wb σ α a1 a2 ls H locs hl hP hD hS hw
    let XL15 : Nat → Nat → (Nat → Int32) → (Nat → Nat → Int32) → Int32 → Int32 → Prop := fun wc wb σ α a1 a2 => ∀ (ls : Array Slot) (H : Heap) (locs : List Loc), lv_has ls 3 [(0, .ref (ad 0)), (1, .int a1), (2, .int a2)] → va_P D gCl (xW cI cS cZ ad wc wb kp tp σ α) H → va_D A (xW cI cS cZ ad wc wb kp tp σ α) → va_S A s.heap H locs → W p l e rm_Dm_run s m ([.ref (ad 0), .int x1] : List Value).toArray below meth c H locs 0 0 Q (F0 m 15 ls [])
    have hX15 : ∀ (wc : Nat) (wb : Nat) (σ : Nat → Int32) (α : Nat → Nat → Int32) (a1 : Int32) (a2 : Int32) (ls : Array Slot) (H : Heap) (locs : List Loc), lv_has ls 3 [(0, .ref (ad 0)), (1, .int a1), (2, .int a2)] → va_P D gCl (xW cI cS cZ ad wc wb kp tp σ α) H → va_D A (xW cI cS cZ ad wc wb kp tp σ α) → va_S A s.heap H locs → XL15 wc wb σ α a1 a2 → W p l e rm_Dm_run s m ([.ref (ad 0), .int x1] : List Value).toArray below meth c H locs 0 0 Q (F0 m 15 ls []) := fun wc wb σ α a1 a2 ls H locs hl hP hD hS hw => hw ls H locs hl hP hD hS
    refine hw XL15 ?_ ls H locs hl hP hD hS
    clear hw hl hP hD hS
    intro wc wb σ α a1 a2 hw ls H locs hl hP hD hS
    unfold wp_Dm_run_B15 at hw
    refine lv_iload_n hx hb d_Dm_run_15 rfl (lv_at hl 2 rfl) ?_
    refine lv_iload_n hx hb d_Dm_run_16 rfl (lv_at hl 1 rfl) ?_
    refine lv_icmp_ge (tgt := 45) hx hb d_Dm_run_17 (by decide) (fun h => ?_) (fun h => ?_)
    · have hw := hw.1 h
      refine lv_iload_n hx hb d_Dm_run_45 rfl (lv_at hl 1 rfl) ?_
      exact hret H locs 46 ls a1 (wc, wb, σ, α) d_Dm_run_46 hP hD hS (vp_nar_int _) hw
    · have hw := hw.2 h
      refine lv_aload_n hx hb d_Dm_run_20 rfl (lv_at hl 0 rfl) ?_
      refine va_get (D := D) (ci := 0) (v := .ref (ad 8)) (C := R_Dm) (T := T_Dm) (N := 7) hx hb hts i_Dm hown hK hP 0 rfl rfl 3 (by decide) (hts _ tw_258) (fun _ h9 => h9) rfl d_Dm_run_21 ?_
      refine va_getN (D := D) (ci := 4) (v := .int (σ 7)) (C := R_Mc) (T := T_Mc) (N := 14) hx hb hts i_Mc hown hK hP 8 rfl rfl 6 (by decide) (va_Nw.use rfl (hN _ tn_140)) (fun _ h9 => h9) rfl d_Dm_run_24 ?_
      refine lv_if_ne (tgt := 32) hx hb d_Dm_run_27 (by decide) (fun h => ?_) (fun h => ?_)
      · have hw := hw.1 h
        refine lv_aload_n hx hb d_Dm_run_32 rfl (lv_at hl 0 rfl) ?_
        refine va_get (D := D) (ci := 0) (v := .ref (ad 8)) (C := R_Dm) (T := T_Dm) (N := 7) hx hb hts i_Dm hown hK hP 0 rfl rfl 3 (by decide) (hts _ tw_258) (fun _ h9 => h9) rfl d_Dm_run_33 ?_
        refine gCallVv (b := ad 8) (As := []) (rest := []) (c_Mc_goThroughCycle l D cI cS cZ ad kp tp wc wb σ α _ hw) hx hb hml hown hts hK hN hA hS hP hD (cwV 0 hts (gGV tw_330 tw_331 tw_332 tw_5 tw_333) rfl rfl rfl ⟨rfl, by decide, by decide, by decide +kernel⟩ ⟨Nat.le_of_ble_eq_true rfl, Nat.le_of_ble_eq_true rfl⟩) (va_recv (ci := 4) (q0 := 8) hK hP rfl rfl) rfl hl.1 rfl (Nat.le_of_ble_eq_true rfl) d_Dm_run_36 (fun u36 H locs hw hP hD hS => ?_)
        have hP : va_P D gCl (xW cI cS cZ ad u36.1 u36.2.1 kp tp u36.2.2.1 u36.2.2.2) H := hP
        have hD : va_D A (xW cI cS cZ ad u36.1 u36.2.1 kp tp u36.2.2.1 u36.2.2.2) := hD
        refine lv_iinc (k := 2) hx hb d_Dm_run_39 hl rfl rfl (by decide) rfl (fun ls hl => ?_)
        have hl : lv_has ls 3 [(2, .int (a2 + Int32.ofInt 1)), (0, .ref (ad 0)), (1, .int a1)] := hl
        refine lv_goto (tgt := 15) hx hb d_Dm_run_42 (by decide) ?_
        exact hX15 u36.1 u36.2.1 u36.2.2.1 u36.2.2.2 a1 (a2 + Int32.ofInt 1) ls H locs (lv_sub hl [1, 2, 0] rfl) hP hD hS hw
      · have hw := hw.2 h
        refine lv_iload_n hx hb d_Dm_run_30 rfl (lv_at hl 2 rfl) ?_
        exact hret H locs 31 ls a2 (wc, wb, σ, α) d_Dm_run_31 hP hD hS (vp_nar_int _) hw
  have J11 : ∀ (wc : Nat) (wb : Nat) (σ : Nat → Int32) (α : Nat → Nat → Int32) (ls : Array Slot) (H : Heap) (locs : List Loc), lv_has ls 3 [] → va_P D gCl (xW cI cS cZ ad wc wb kp tp σ α) H → va_D A (xW cI cS cZ ad wc wb kp tp σ α) → va_S A s.heap H locs → wp_Dm_run_J11 wc wb σ α post → W p l e rm_Dm_run s m ([.ref (ad 0), .int x1] : List Value).toArray below meth c H locs 0 0 Q (F0 m 11 ls []) := by
    intro wc wb σ α ls H locs hl hP hD hS hw
    unfold wp_Dm_run_J11 at hw
    refine lv_iconst (v := (-1)) hx hb d_Dm_run_11 (by decide) ?_
    exact hret H locs 12 ls (-1 : Int32) (wc, wb, σ, α) d_Dm_run_12 hP hD hS (vp_nar_int _) hw
  unfold wp_Dm_run at hw
  have hP : va_P D gCl (xW cI cS cZ ad wc wb kp tp σ α) s.heap := hP
  have hD : va_D A (xW cI cS cZ ad wc wb kp tp σ α) := hD
  obtain ⟨H, hH⟩ : ∃ H, H = s.heap := ⟨_, rfl⟩
  obtain ⟨locs, hlocs⟩ : ∃ locs : List Loc, locs = [] := ⟨_, rfl⟩
  have hP : va_P D gCl (xW cI cS cZ ad wc wb kp tp σ α) H := by rw [hH]; exact hP
  have hS : va_S A s.heap H locs := by rw [hH, hlocs]; exact hS
  suffices K : W p l e rm_Dm_run s m ([.ref (ad 0), .int x1] : List Value).toArray below meth c H locs 0 0 Q (F0 m 0 ls []) by rw [hH, hlocs] at K; exact K
  clear hH hlocs
  refine lv_iload_n hx hb d_Dm_run_0 rfl (lv_at hl 1 rfl) ?_
  refine lv_if_lt (tgt := 11) hx hb d_Dm_run_1 (by decide) (fun h => ?_) (fun h => ?_)
  · have hw := hw.1 h
    exact J11 wc wb σ α ls H locs (lv_sub hl [] rfl) hP hD hS hw
  · have hw := hw.2 h
    refine lv_iload_n hx hb d_Dm_run_4 rfl (lv_at hl 1 rfl) ?_
    refine lv_sipush (v := 2000) hx hb d_Dm_run_5 (by decide) ?_
    refine lv_icmp_le (tgt := 13) hx hb d_Dm_run_8 (by decide) (fun h => ?_) (fun h => ?_)
    · have hw := hw.1 h
      refine lv_iconst (v := 0) hx hb d_Dm_run_13 (by decide) ?_
      refine lv_istore_n hx hb d_Dm_run_14 rfl hl (by decide) rfl (fun ls hl => ?_)
      have hl : lv_has ls 3 [(2, .int (0 : Int32)), (0, .ref (ad 0)), (1, .int x1)] := hl
      exact L15 wc wb σ α x1 (0 : Int32) ls H locs (lv_sub hl [1, 2, 0] rfl) hP hD hS hw
    · have hw := hw.2 h
      exact J11 wc wb σ α ls H locs (lv_sub hl [] rfl) hP hD hS hw
