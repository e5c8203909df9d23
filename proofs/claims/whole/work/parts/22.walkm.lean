abbrev rm_Md_multiply : Room := { frames := 0, cells := 0, slots := 0, locals := 0 }
set_option maxHeartbeats 4000000 in
set_option maxRecDepth 100000 in
theorem c_Md_multiply (l : Launch) (D : va_G) (cI cS cZ : ClassId) (ad : Nat → Nat) (σ : Nat → Int32) (α : Nat → Nat → Int32) (post : gS → Prop) (hw : wp_Md_multiply σ α post) : gMv l y_Md_multiply b_Md_multiply 2 rm_Md_multiply D (gT cI cS cZ) (fun u : gS => mW cI cS cZ ad u.1 u.2) [.ref (ad 0)] (σ, α) post := by
  refine gMv.of (by decide) (Nat.le_of_ble_eq_true rfl) ?_
  intro p e s m below meth c Q A hx hb hml hown hts hK hN hA hS hP hD hret ls hl
  have hl : lv_has ls 2 [(0, .ref (ad 0))] := hl
  have J74 : ∀ (σ : Nat → Int32) (α : Nat → Nat → Int32) (t0 : Int32) (t1 : Int32) (ls : Array Slot) (H : Heap) (locs : List Loc), lv_has ls 2 [(0, .ref (ad 0))] → va_P D gCl (mW cI cS cZ ad σ α) H → va_D A (mW cI cS cZ ad σ α) → va_S A s.heap H locs → wp_Md_multiply_J74 σ α t0 t1 post → W p l e rm_Md_multiply s m ([.ref (ad 0)] : List Value).toArray below meth c H locs 0 0 Q (F0 m 74 ls [.int t0, .int t1]) := by
    intro σ α t0 t1 ls H locs hl hP hD hS hw
    unfold wp_Md_multiply_J74 at hw
    refine lv_iadd hx hb d_Md_multiply_74 ?_
    refine lv_istore_n hx hb d_Md_multiply_75 rfl hl (by decide) rfl (fun ls hl => ?_)
    have hl : lv_has ls 2 [(1, .int (t1 + t0)), (0, .ref (ad 0))] := hl
    refine lv_aload_n hx hb d_Md_multiply_76 rfl (lv_at hl 1 rfl) ?_
    refine va_get (D := D) (ci := 9) (v := .ref (ad 2)) (C := R_Md) (T := T_Md) (N := 47) hx hb hts i_Md hown hK hP 0 rfl rfl 1 (by decide) (hts _ tw_535) (fun _ h9 => h9) rfl d_Md_multiply_77 ?_
    refine lv_sipush (v := 130) hx hb d_Md_multiply_80 (by decide) ?_
    refine lv_iload_n hx hb d_Md_multiply_83 rfl (lv_at hl 0 rfl) ?_
    refine lv_i2s (v := (t1 + t0).toInt16.toInt32) hx hb d_Md_multiply_84 rfl ?_
    refine va_sast (f := α 2) (i := (130 : Int32)) (x := (t1 + t0).toInt16.toInt32) hx hb hK hP hD hS 2 1 rfl rfl (show vp_in (130 : Int32) 132 by unfold vp_in; decide) d_Md_multiply_85 (fun H locs hP hD hS => ?_)
    rw [show ((130 : Int32)).toNatClampNeg = 130 from by decide] at hP hD
    rw [mW_s2] at hP hD
    have hP : va_P D gCl (mW cI cS cZ ad σ (va_up α 2 (upd (α 2) 130 (vp_nar .short ((t1 + t0).toInt16.toInt32))))) H := hP
    have hD : va_D A (mW cI cS cZ ad σ (va_up α 2 (upd (α 2) 130 (vp_nar .short ((t1 + t0).toInt16.toInt32))))) := hD
    refine lv_aload_n hx hb d_Md_multiply_86 rfl (lv_at hl 1 rfl) ?_
    refine va_get (D := D) (ci := 9) (v := .ref (ad 2)) (C := R_Md) (T := T_Md) (N := 47) hx hb hts i_Md hown hK hP 0 rfl rfl 1 (by decide) (hts _ tw_535) (fun _ h9 => h9) rfl d_Md_multiply_87 ?_
    refine lv_sipush (v := 131) hx hb d_Md_multiply_90 (by decide) ?_
    refine lv_iload_n hx hb d_Md_multiply_93 rfl (lv_at hl 0 rfl) ?_
    refine lv_bipush (v := 16) hx hb d_Md_multiply_94 (by decide) ?_
    refine lv_ishr hx hb d_Md_multiply_96 ?_
    refine lv_i2s (v := ((t1 + t0) >>> ((16 : Int32) &&& 31)).toInt16.toInt32) hx hb d_Md_multiply_97 rfl ?_
    refine va_sast (f := upd (α 2) 130 (vp_nar .short ((t1 + t0).toInt16.toInt32))) (i := (131 : Int32)) (x := ((t1 + t0) >>> ((16 : Int32) &&& 31)).toInt16.toInt32) hx hb hK hP hD hS 2 1 rfl rfl (show vp_in (131 : Int32) 132 by unfold vp_in; decide) d_Md_multiply_98 (fun H locs hP hD hS => ?_)
    rw [show ((131 : Int32)).toNatClampNeg = 131 from by decide] at hP hD
    rw [mW_s2] at hP hD
    have e9 : va_up (va_up α 2 (upd (α 2) 130 (vp_nar .short ((t1 + t0).toInt16.toInt32)))) 2 (upd (upd (α 2) 130 (vp_nar .short ((t1 + t0).toInt16.toInt32))) 131 (vp_nar .short (((t1 + t0) >>> ((16 : Int32) &&& 31)).toInt16.toInt32))) = (va_up α 2 (upd (upd (α 2) 130 (vp_nar .short ((t1 + t0).toInt16.toInt32))) 131 (vp_nar .short (((t1 + t0) >>> ((16 : Int32) &&& 31)).toInt16.toInt32)))) := by
      funext k9
      by_cases h9 : k9 = 2
      · subst h9
        rfl
      · simp only [va_up, if_neg h9]
    rw [e9] at hP hD
    clear e9
    have hP : va_P D gCl (mW cI cS cZ ad σ (va_up α 2 (upd (upd (α 2) 130 (vp_nar .short ((t1 + t0).toInt16.toInt32))) 131 (vp_nar .short (((t1 + t0) >>> ((16 : Int32) &&& 31)).toInt16.toInt32))))) H := hP
    have hD : va_D A (mW cI cS cZ ad σ (va_up α 2 (upd (upd (α 2) 130 (vp_nar .short ((t1 + t0).toInt16.toInt32))) 131 (vp_nar .short (((t1 + t0) >>> ((16 : Int32) &&& 31)).toInt16.toInt32))))) := hD
    refine lv_aload_n hx hb d_Md_multiply_99 rfl (lv_at hl 1 rfl) ?_
    refine lv_aload_n hx hb d_Md_multiply_100 rfl (lv_at hl 1 rfl) ?_
    refine va_get (D := D) (ci := 9) (v := .int (σ 16)) (C := R_Md) (T := T_Md) (N := 47) hx hb hts i_Md hown hK hP 0 rfl rfl 18 (by decide) (hts _ tw_552) (fun _ h9 => h9) rfl d_Md_multiply_101 ?_
    refine lv_iconst (v := 1) hx hb d_Md_multiply_104 (by decide) ?_
    refine lv_ishl hx hb d_Md_multiply_105 ?_
    refine lv_i2s (v := ((σ 16) <<< ((1 : Int32) &&& 31)).toInt16.toInt32) hx hb d_Md_multiply_106 rfl ?_
    refine va_put (D := D) (ci := 9) (v := .int (((σ 16) <<< ((1 : Int32) &&& 31)).toInt16.toInt32)) (ty := .int) (C := R_Md) (T := T_Md) (N := 47) hx hb hts i_Md t_Md o_Md n_Md hown hK hP hD hS 0 rfl rfl 18 (by decide) (hts _ tw_552) (fun _ h9 => h9) rfl (by decide +kernel) rfl rfl (Nat.le_of_ble_eq_true rfl) d_Md_multiply_107 (fun H locs hP hD hS => ?_)
    have hP : va_P D gCl (mW cI cS cZ ad (va_up σ 16 (((σ 16) <<< ((1 : Int32) &&& 31)).toInt16.toInt32)) (va_up α 2 (upd (upd (α 2) 130 (vp_nar .short ((t1 + t0).toInt16.toInt32))) 131 (vp_nar .short (((t1 + t0) >>> ((16 : Int32) &&& 31)).toInt16.toInt32))))) H := hP
    have hD : va_D A (mW cI cS cZ ad (va_up σ 16 (((σ 16) <<< ((1 : Int32) &&& 31)).toInt16.toInt32)) (va_up α 2 (upd (upd (α 2) 130 (vp_nar .short ((t1 + t0).toInt16.toInt32))) 131 (vp_nar .short (((t1 + t0) >>> ((16 : Int32) &&& 31)).toInt16.toInt32))))) := hD
    exact hret H locs 110 ls ((va_up σ 16 (((σ 16) <<< ((1 : Int32) &&& 31)).toInt16.toInt32)), (va_up α 2 (upd (upd (α 2) 130 (vp_nar .short ((t1 + t0).toInt16.toInt32))) 131 (vp_nar .short (((t1 + t0) >>> ((16 : Int32) &&& 31)).toInt16.toInt32))))) d_Md_multiply_110 hP hD hS hw
  unfold wp_Md_multiply at hw
  have hP : va_P D gCl (mW cI cS cZ ad σ α) s.heap := hP
  have hD : va_D A (mW cI cS cZ ad σ α) := hD
  obtain ⟨H, hH⟩ : ∃ H, H = s.heap := ⟨_, rfl⟩
  obtain ⟨locs, hlocs⟩ : ∃ locs : List Loc, locs = [] := ⟨_, rfl⟩
  have hP : va_P D gCl (mW cI cS cZ ad σ α) H := by rw [hH]; exact hP
  have hS : va_S A s.heap H locs := by rw [hH, hlocs]; exact hS
  suffices K : W p l e rm_Md_multiply s m ([.ref (ad 0)] : List Value).toArray below meth c H locs 0 0 Q (F0 m 0 ls []) by rw [hH, hlocs] at K; exact K
  clear hH hlocs
  refine lv_aload_n hx hb d_Md_multiply_0 rfl (lv_at hl 0 rfl) ?_
  refine va_get (D := D) (ci := 9) (v := .int (σ 15)) (C := R_Md) (T := T_Md) (N := 47) hx hb hts i_Md hown hK hP 0 rfl rfl 17 (by decide) (hts _ tw_551) (fun _ h9 => h9) rfl d_Md_multiply_1 ?_
  refine lv_if_ne (tgt := 8) hx hb d_Md_multiply_4 (by decide) (fun h => ?_) (fun h => ?_)
  · have hw := hw.1 h
    refine lv_aload_n hx hb d_Md_multiply_8 rfl (lv_at hl 0 rfl) ?_
    refine lv_dup hx hb d_Md_multiply_9 rfl ?_
    refine va_get (D := D) (ci := 9) (v := .int (σ 15)) (C := R_Md) (T := T_Md) (N := 47) hx hb hts i_Md hown hK hP 0 rfl rfl 17 (by decide) (hts _ tw_551) (fun _ h9 => h9) rfl d_Md_multiply_10 ?_
    refine lv_iconst (v := 1) hx hb d_Md_multiply_13 (by decide) ?_
    refine lv_isub hx hb d_Md_multiply_14 ?_
    refine va_put (D := D) (ci := 9) (v := .int ((σ 15) - (1 : Int32))) (ty := .int) (C := R_Md) (T := T_Md) (N := 47) hx hb hts i_Md t_Md o_Md n_Md hown hK hP hD hS 0 rfl rfl 17 (by decide) (hts _ tw_551) (fun _ h9 => h9) rfl (by decide +kernel) rfl rfl (Nat.le_of_ble_eq_true rfl) d_Md_multiply_15 (fun H locs hP hD hS => ?_)
    have hP : va_P D gCl (mW cI cS cZ ad (va_up σ 15 ((σ 15) - (1 : Int32))) α) H := hP
    have hD : va_D A (mW cI cS cZ ad (va_up σ 15 ((σ 15) - (1 : Int32))) α) := hD
    refine lv_aload_n hx hb d_Md_multiply_18 rfl (lv_at hl 0 rfl) ?_
    refine va_get (D := D) (ci := 9) (v := .int ((σ 15) - (1 : Int32))) (C := R_Md) (T := T_Md) (N := 47) hx hb hts i_Md hown hK hP 0 rfl rfl 17 (by decide) (hts _ tw_551) (fun _ h9 => h9) rfl d_Md_multiply_19 ?_
    refine lv_bipush (v := 16) hx hb d_Md_multiply_22 (by decide) ?_
    refine lv_icmp_ne (tgt := 28) hx hb d_Md_multiply_24 (by decide) (fun h => ?_) (fun h => ?_)
    · have hw := hw.1 h
      refine lv_aload_n hx hb d_Md_multiply_28 rfl (lv_at hl 0 rfl) ?_
      refine va_get (D := D) (ci := 9) (v := .ref (ad 2)) (C := R_Md) (T := T_Md) (N := 47) hx hb hts i_Md hown hK hP 0 rfl rfl 1 (by decide) (hts _ tw_535) (fun _ h9 => h9) rfl d_Md_multiply_29 ?_
      refine lv_sipush (v := 131) hx hb d_Md_multiply_32 (by decide) ?_
      refine va_sald (f := α 2) hx hb hK hP 2 1 rfl rfl (show vp_in (131 : Int32) 132 by unfold vp_in; decide) d_Md_multiply_35 ?_
      refine lv_bipush (v := 16) hx hb d_Md_multiply_36 (by decide) ?_
      refine lv_ishl hx hb d_Md_multiply_38 ?_
      refine lv_aload_n hx hb d_Md_multiply_39 rfl (lv_at hl 0 rfl) ?_
      refine va_get (D := D) (ci := 9) (v := .ref (ad 2)) (C := R_Md) (T := T_Md) (N := 47) hx hb hts i_Md hown hK hP 0 rfl rfl 1 (by decide) (hts _ tw_535) (fun _ h9 => h9) rfl d_Md_multiply_40 ?_
      refine lv_sipush (v := 130) hx hb d_Md_multiply_43 (by decide) ?_
      refine va_sald (f := α 2) hx hb hK hP 2 1 rfl rfl (show vp_in (130 : Int32) 132 by unfold vp_in; decide) d_Md_multiply_46 ?_
      refine lv_ldc hx hb hown (hts _ tw_754) d_Md_multiply_47 ?_
      refine lv_iand hx hb d_Md_multiply_49 ?_
      refine lv_ior hx hb d_Md_multiply_50 ?_
      refine lv_istore_n hx hb d_Md_multiply_51 rfl hl (by decide) rfl (fun ls hl => ?_)
      have hl : lv_has ls 2 [(1, .int (((α 2 (131 : Int32).toNatClampNeg) <<< ((16 : Int32) &&& 31)) ||| ((α 2 (130 : Int32).toNatClampNeg) &&& (65535 : Int32)))), (0, .ref (ad 0))] := hl
      refine lv_iconst (v := 2) hx hb d_Md_multiply_52 (by decide) ?_
      refine lv_iload_n hx hb d_Md_multiply_53 rfl (lv_at hl 0 rfl) ?_
      refine lv_imul hx hb d_Md_multiply_54 ?_
      refine lv_aload_n hx hb d_Md_multiply_55 rfl (lv_at hl 1 rfl) ?_
      refine va_get (D := D) (ci := 9) (v := .int (σ 16)) (C := R_Md) (T := T_Md) (N := 47) hx hb hts i_Md hown hK hP 0 rfl rfl 18 (by decide) (hts _ tw_552) (fun _ h9 => h9) rfl d_Md_multiply_56 ?_
      refine lv_if_ge (tgt := 73) hx hb d_Md_multiply_59 (by decide) (fun h => ?_) (fun h => ?_)
      · have hw := hw.1 h
        refine lv_iconst (v := 0) hx hb d_Md_multiply_73 (by decide) ?_
        exact J74 (va_up σ 15 ((σ 15) - (1 : Int32))) α (0 : Int32) ((2 : Int32) * (((α 2 (131 : Int32).toNatClampNeg) <<< ((16 : Int32) &&& 31)) ||| ((α 2 (130 : Int32).toNatClampNeg) &&& (65535 : Int32)))) ls H locs (lv_sub hl [1] rfl) hP hD hS hw
      · have hw := hw.2 h
        refine lv_aload_n hx hb d_Md_multiply_62 rfl (lv_at hl 1 rfl) ?_
        refine va_get (D := D) (ci := 9) (v := .ref (ad 2)) (C := R_Md) (T := T_Md) (N := 47) hx hb hts i_Md hown hK hP 0 rfl rfl 1 (by decide) (hts _ tw_535) (fun _ h9 => h9) rfl d_Md_multiply_63 ?_
        refine lv_sipush (v := 129) hx hb d_Md_multiply_66 (by decide) ?_
        refine va_sald (f := α 2) hx hb hK hP 2 1 rfl rfl (show vp_in (129 : Int32) 132 by unfold vp_in; decide) d_Md_multiply_69 ?_
        refine lv_goto (tgt := 74) hx hb d_Md_multiply_70 (by decide) ?_
        exact J74 (va_up σ 15 ((σ 15) - (1 : Int32))) α (α 2 (129 : Int32).toNatClampNeg) ((2 : Int32) * (((α 2 (131 : Int32).toNatClampNeg) <<< ((16 : Int32) &&& 31)) ||| ((α 2 (130 : Int32).toNatClampNeg) &&& (65535 : Int32)))) ls H locs (lv_sub hl [1] rfl) hP hD hS hw
    · have hw := hw.2 h
      exact hret H locs 27 ls ((va_up σ 15 ((σ 15) - (1 : Int32))), α) d_Md_multiply_27 hP hD hS hw
  · have hw := hw.2 h
    exact hret H locs 7 ls (σ, α) d_Md_multiply_7 hP hD hS hw
abbrev rm_Md_cycle : Room := { frames := 3, cells := 0, slots := 0, locals := 64 }
set_option maxHeartbeats 4000000 in
set_option maxRecDepth 100000 in
theorem c_Md_cycle (l : Launch) (D : va_G) (cI cS cZ : ClassId) (ad : Nat → Nat) (σ : Nat → Int32) (α : Nat → Nat → Int32) (post : gS → Prop) (hw : wp_Md_cycle σ α post) : gMv l y_Md_cycle b_Md_cycle 6 rm_Md_cycle D (gT cI cS cZ) (fun u : gS => mW cI cS cZ ad u.1 u.2) [.ref (ad 0)] (σ, α) post := by
  refine gMv.of (by decide) (Nat.le_of_ble_eq_true rfl) ?_
  intro p e s m below meth c Q A hx hb hml hown hts hK hN hA hS hP hD hret ls hl
  have hl : lv_has ls 6 [(0, .ref (ad 0))] := hl
  have J209 : ∀ (σ : Nat → Int32) (α : Nat → Nat → Int32) (ls : Array Slot) (H : Heap) (locs : List Loc), lv_has ls 6 [(0, .ref (ad 0))] → va_P D gCl (mW cI cS cZ ad σ α) H → va_D A (mW cI cS cZ ad σ α) → va_S A s.heap H locs → wp_Md_cycle_J209 σ α post → W p l e rm_Md_cycle s m ([.ref (ad 0)] : List Value).toArray below meth c H locs 0 0 Q (F0 m 209 ls []) := by
    intro σ α ls H locs hl hP hD hS hw
    unfold wp_Md_cycle_J209 at hw
    refine lv_aload_n hx hb d_Md_cycle_209 rfl (lv_at hl 0 rfl) ?_
    refine lv_dup hx hb d_Md_cycle_210 rfl ?_
    refine va_get (D := D) (ci := 9) (v := .int (σ 0)) (C := R_Md) (T := T_Md) (N := 47) hx hb hts i_Md hown hK hP 0 rfl rfl 2 (by decide) (hts _ tw_536) (fun _ h9 => h9) rfl d_Md_cycle_211 ?_
    refine lv_iconst (v := 1) hx hb d_Md_cycle_214 (by decide) ?_
    refine lv_iadd hx hb d_Md_cycle_215 ?_
    refine va_put (D := D) (ci := 9) (v := .int ((σ 0) + (1 : Int32))) (ty := .int) (C := R_Md) (T := T_Md) (N := 47) hx hb hts i_Md t_Md o_Md n_Md hown hK hP hD hS 0 rfl rfl 2 (by decide) (hts _ tw_536) (fun _ h9 => h9) rfl (by decide +kernel) rfl rfl (Nat.le_of_ble_eq_true rfl) d_Md_cycle_216 (fun H locs hP hD hS => ?_)
    have hP : va_P D gCl (mW cI cS cZ ad (va_up σ 0 ((σ 0) + (1 : Int32))) α) H := hP
    have hD : va_D A (mW cI cS cZ ad (va_up σ 0 ((σ 0) + (1 : Int32))) α) := hD
    exact hret H locs 219 ls ((va_up σ 0 ((σ 0) + (1 : Int32))), α) d_Md_cycle_219 hP hD hS hw
  have J181 : ∀ (σ : Nat → Int32) (α : Nat → Nat → Int32) (a1 : Int32) (a2 : Int32) (ls : Array Slot) (H : Heap) (locs : List Loc), lv_has ls 6 [(0, .ref (ad 0)), (1, .int a1), (2, .int a2)] → va_P D gCl (mW cI cS cZ ad σ α) H → va_D A (mW cI cS cZ ad σ α) → va_S A s.heap H locs → wp_Md_cycle_J181 σ α a1 a2 post → W p l e rm_Md_cycle s m ([.ref (ad 0)] : List Value).toArray below meth c H locs 0 0 Q (F0 m 181 ls []) := by
    intro σ α a1 a2 ls H locs hl hP hD hS hw
    unfold wp_Md_cycle_J181 at hw
    refine lv_aload_n hx hb d_Md_cycle_181 rfl (lv_at hl 0 rfl) ?_
    refine gCallVv (b := ad 0) (As := []) (rest := []) (c_Md_multiply l D cI cS cZ ad  σ α _ hw) hx hb hml hown hts hK hN hA hS hP hD (cwV 0 hts (gGV tw_750 tw_752 ts_31 tw_11 tw_753) rfl rfl rfl ⟨rfl, by decide, by decide, by decide +kernel⟩ ⟨Nat.le_of_ble_eq_true rfl, Nat.le_of_ble_eq_true rfl⟩) (va_recv (ci := 9) (q0 := 0) hK hP rfl rfl) rfl hl.1 rfl (Nat.le_of_ble_eq_true rfl) d_Md_cycle_182 (fun u182 H locs hw hP hD hS => ?_)
    have hP : va_P D gCl (mW cI cS cZ ad u182.1 u182.2) H := hP
    have hD : va_D A (mW cI cS cZ ad u182.1 u182.2) := hD
    refine lv_iload_n hx hb d_Md_cycle_185 rfl (lv_at hl 1 rfl) ?_
    refine lv_if_lt (tgt := 209) hx hb d_Md_cycle_186 (by decide) (fun h => ?_) (fun h => ?_)
    · have hw := hw.1 h
      exact J209 u182.1 u182.2 ls H locs (lv_sub hl [0] rfl) hP hD hS hw
    · have hw := hw.2 h
      refine lv_iload_n hx hb d_Md_cycle_189 rfl (lv_at hl 2 rfl) ?_
      refine lv_bipush (v := 8) hx hb d_Md_cycle_190 (by decide) ?_
      refine lv_irem hx hb d_Md_cycle_192 (by decide) ?_
      refine lv_iconst (v := 2) hx hb d_Md_cycle_193 (by decide) ?_
      refine lv_icmp_ne (tgt := 209) hx hb d_Md_cycle_194 (by decide) (fun h => ?_) (fun h => ?_)
      · have hw := hw.1 h
        exact J209 u182.1 u182.2 ls H locs (lv_sub hl [0] rfl) hP hD hS hw
      · have hw := hw.2 h
        refine lv_aload_n hx hb d_Md_cycle_197 rfl (lv_at hl 0 rfl) ?_
        refine va_get (D := D) (ci := 9) (v := .int (u182.1 20)) (C := R_Md) (T := T_Md) (N := 47) hx hb hts i_Md hown hK hP 0 rfl rfl 24 (by decide) (hts _ tw_558) (fun _ h9 => h9) rfl d_Md_cycle_198 ?_
        refine lv_if_ne (tgt := 209) hx hb d_Md_cycle_201 (by decide) (fun h => ?_) (fun h => ?_)
        · have hw := hw.1 h
          exact J209 u182.1 u182.2 ls H locs (lv_sub hl [0] rfl) hP hD hS hw
        · have hw := hw.2 h
          refine lv_aload_n hx hb d_Md_cycle_204 rfl (lv_at hl 0 rfl) ?_
          refine lv_iconst (v := 1) hx hb d_Md_cycle_205 (by decide) ?_
          refine gCallVv (b := ad 0) (As := [.int (1 : Int32)]) (rest := []) (c_Md_fail l D cI cS cZ ad  u182.1 u182.2 (1 : Int32) _ hw) hx hb hml hown hts hK hN hA hS hP hD (cwV 1 hts (gGV tw_742 tw_744 ts_29 tw_11 tw_745) rfl rfl rfl ⟨rfl, by decide, by decide, by decide +kernel⟩ ⟨Nat.le_of_ble_eq_true rfl, Nat.le_of_ble_eq_true rfl⟩) (va_recv (ci := 9) (q0 := 0) hK hP rfl rfl) rfl hl.1 rfl (Nat.le_of_ble_eq_true rfl) d_Md_cycle_206 (fun u206 H locs hw hP hD hS => ?_)
          have hP : va_P D gCl (mW cI cS cZ ad u206.1 u206.2) H := hP
          have hD : va_D A (mW cI cS cZ ad u206.1 u206.2) := hD
          exact J209 u206.1 u206.2 ls H locs (lv_sub hl [0] rfl) hP hD hS hw
  have J168 : ∀ (σ : Nat → Int32) (α : Nat → Nat → Int32) (a1 : Int32) (a2 : Int32) (a4 : Int32) (a5 : Int32) (ls : Array Slot) (H : Heap) (locs : List Loc), lv_has ls 6 [(0, .ref (ad 0)), (1, .int a1), (2, .int a2), (4, .int a4), (5, .int a5)] → va_P D gCl (mW cI cS cZ ad σ α) H → va_D A (mW cI cS cZ ad σ α) → va_S A s.heap H locs → wp_Md_cycle_J168 σ α a1 a2 a4 a5 post → W p l e rm_Md_cycle s m ([.ref (ad 0)] : List Value).toArray below meth c H locs 0 0 Q (F0 m 168 ls []) := by
    intro σ α a1 a2 a4 a5 ls H locs hl hP hD hS hw
    unfold wp_Md_cycle_J168 at hw
    refine lv_aload_n hx hb d_Md_cycle_168 rfl (lv_at hl 0 rfl) ?_
    refine lv_iload hx hb d_Md_cycle_169 (lv_at hl 3 rfl) ?_
    refine lv_iconst (v := 4) hx hb d_Md_cycle_171 (by decide) ?_
    refine lv_ishr hx hb d_Md_cycle_172 ?_
    refine lv_bipush (v := 15) hx hb d_Md_cycle_173 (by decide) ?_
    refine lv_iand hx hb d_Md_cycle_175 ?_
    refine lv_iload hx hb d_Md_cycle_176 (lv_at hl 4 rfl) ?_
    refine gCallVv (b := ad 0) (As := [.int ((a4 >>> ((4 : Int32) &&& 31)) &&& (15 : Int32)), .int a5]) (rest := []) (c_Md_put l D cI cS cZ ad  σ α ((a4 >>> ((4 : Int32) &&& 31)) &&& (15 : Int32)) a5 _ hw) hx hb hml hown hts hK hN hA hS hP hD (cwV 2 hts (gGV tw_730 tw_732 ts_26 tw_11 tw_733) rfl rfl rfl ⟨rfl, by decide, by decide, by decide +kernel⟩ ⟨Nat.le_of_ble_eq_true rfl, Nat.le_of_ble_eq_true rfl⟩) (va_recv (ci := 9) (q0 := 0) hK hP rfl rfl) rfl hl.1 rfl (Nat.le_of_ble_eq_true rfl) d_Md_cycle_178 (fun u178 H locs hw hP hD hS => ?_)
    have hP : va_P D gCl (mW cI cS cZ ad u178.1 u178.2) H := hP
    have hD : va_D A (mW cI cS cZ ad u178.1 u178.2) := hD
    exact J181 u178.1 u178.2 a1 a2 ls H locs (lv_sub hl [0, 1, 2] rfl) hP hD hS hw
  have J137 : ∀ (σ : Nat → Int32) (α : Nat → Nat → Int32) (a1 : Int32) (a2 : Int32) (a3 : Int32) (a4 : Int32) (a5 : Int32) (t0 : Int32) (ls : Array Slot) (H : Heap) (locs : List Loc), lv_has ls 6 [(0, .ref (ad 0)), (1, .int a1), (2, .int a2), (3, .int a3), (4, .int a4), (5, .int a5)] → va_P D gCl (mW cI cS cZ ad σ α) H → va_D A (mW cI cS cZ ad σ α) → va_S A s.heap H locs → wp_Md_cycle_J137 σ α a1 a2 a3 a4 a5 t0 post → W p l e rm_Md_cycle s m ([.ref (ad 0)] : List Value).toArray below meth c H locs 0 0 Q (F0 m 137 ls [.int t0, .ref (ad 0)]) := by
    intro σ α a1 a2 a3 a4 a5 t0 ls H locs hl hP hD hS hw
    unfold wp_Md_cycle_J137 at hw
    obtain ⟨⟨hn, hf⟩, hw⟩ := hw
    refine va_put (D := D) (ci := 9) (v := .int t0) (ty := .boolean) (C := R_Md) (T := T_Md) (N := 47) hx hb hts i_Md t_Md o_Md n_Md hown hK hP hD hS 0 rfl rfl 24 (by decide) (hts _ tw_558) (fun _ h9 => h9) rfl (by decide +kernel) hn hf (Nat.le_of_ble_eq_true rfl) d_Md_cycle_137 (fun H locs hP hD hS => ?_)
    have hP : va_P D gCl (mW cI cS cZ ad (va_up σ 20 t0) α) H := hP
    have hD : va_D A (mW cI cS cZ ad (va_up σ 20 t0) α) := hD
    refine lv_iload_n hx hb d_Md_cycle_140 rfl (lv_at hl 3 rfl) ?_
    refine lv_if_ne (tgt := 168) hx hb d_Md_cycle_141 (by decide) (fun h => ?_) (fun h => ?_)
    · have hw := hw.1 h
      exact J168 (va_up σ 20 t0) α a1 a2 a4 a5 ls H locs (lv_sub hl [0, 1, 2, 4, 5] rfl) hP hD hS hw
    · have hw := hw.2 h
      refine lv_iload hx hb d_Md_cycle_144 (lv_at hl 4 rfl) ?_
      refine lv_iconst (v := 4) hx hb d_Md_cycle_146 (by decide) ?_
      refine lv_ishr hx hb d_Md_cycle_147 ?_
      refine lv_bipush (v := 15) hx hb d_Md_cycle_148 (by decide) ?_
      refine lv_iand hx hb d_Md_cycle_150 ?_
      refine lv_bipush (v := 11) hx hb d_Md_cycle_151 (by decide) ?_
      refine lv_icmp_eq (tgt := 181) hx hb d_Md_cycle_153 (by decide) (fun h => ?_) (fun h => ?_)
      · have hw := hw.1 h
        exact J181 (va_up σ 20 t0) α a1 a2 ls H locs (lv_sub hl [0, 1, 2] rfl) hP hD hS hw
      · have hw := hw.2 h
        refine lv_iload hx hb d_Md_cycle_156 (lv_at hl 4 rfl) ?_
        refine lv_iconst (v := 4) hx hb d_Md_cycle_158 (by decide) ?_
        refine lv_ishr hx hb d_Md_cycle_159 ?_
        refine lv_bipush (v := 15) hx hb d_Md_cycle_160 (by decide) ?_
        refine lv_iand hx hb d_Md_cycle_162 ?_
        refine lv_bipush (v := 12) hx hb d_Md_cycle_163 (by decide) ?_
        refine lv_icmp_eq (tgt := 181) hx hb d_Md_cycle_165 (by decide) (fun h => ?_) (fun h => ?_)
        · have hw := hw.1 h
          exact J181 (va_up σ 20 t0) α a1 a2 ls H locs (lv_sub hl [0, 1, 2] rfl) hP hD hS hw
        · have hw := hw.2 h
          exact J168 (va_up σ 20 t0) α a1 a2 a4 a5 ls H locs (lv_sub hl [0, 1, 2, 4, 5] rfl) hP hD hS hw
  have J136 : ∀ (σ : Nat → Int32) (α : Nat → Nat → Int32) (a1 : Int32) (a2 : Int32) (a3 : Int32) (a4 : Int32) (a5 : Int32) (ls : Array Slot) (H : Heap) (locs : List Loc), lv_has ls 6 [(0, .ref (ad 0)), (1, .int a1), (2, .int a2), (3, .int a3), (4, .int a4), (5, .int a5)] → va_P D gCl (mW cI cS cZ ad σ α) H → va_D A (mW cI cS cZ ad σ α) → va_S A s.heap H locs → wp_Md_cycle_J136 σ α a1 a2 a3 a4 a5 post → W p l e rm_Md_cycle s m ([.ref (ad 0)] : List Value).toArray below meth c H locs 0 0 Q (F0 m 136 ls [.ref (ad 0)]) := by
    intro σ α a1 a2 a3 a4 a5 ls H locs hl hP hD hS hw
    unfold wp_Md_cycle_J136 at hw
    refine lv_iconst (v := 0) hx hb d_Md_cycle_136 (by decide) ?_
    exact J137 σ α a1 a2 a3 a4 a5 (0 : Int32) ls H locs (lv_sub hl [0, 1, 2, 3, 4, 5] rfl) hP hD hS hw
  have J132 : ∀ (σ : Nat → Int32) (α : Nat → Nat → Int32) (a1 : Int32) (a2 : Int32) (a3 : Int32) (a4 : Int32) (a5 : Int32) (ls : Array Slot) (H : Heap) (locs : List Loc), lv_has ls 6 [(0, .ref (ad 0)), (1, .int a1), (2, .int a2), (3, .int a3), (4, .int a4), (5, .int a5)] → va_P D gCl (mW cI cS cZ ad σ α) H → va_D A (mW cI cS cZ ad σ α) → va_S A s.heap H locs → wp_Md_cycle_J132 σ α a1 a2 a3 a4 a5 post → W p l e rm_Md_cycle s m ([.ref (ad 0)] : List Value).toArray below meth c H locs 0 0 Q (F0 m 132 ls [.ref (ad 0)]) := by
    intro σ α a1 a2 a3 a4 a5 ls H locs hl hP hD hS hw
    unfold wp_Md_cycle_J132 at hw
    refine lv_iconst (v := 1) hx hb d_Md_cycle_132 (by decide) ?_
    refine lv_goto (tgt := 137) hx hb d_Md_cycle_133 (by decide) ?_
    exact J137 σ α a1 a2 a3 a4 a5 (1 : Int32) ls H locs (lv_sub hl [0, 1, 2, 3, 4, 5] rfl) hP hD hS hw
  have J87 : ∀ (σ : Nat → Int32) (α : Nat → Nat → Int32) (a1 : Int32) (a2 : Int32) (t0 : Int32) (ls : Array Slot) (H : Heap) (locs : List Loc), lv_has ls 6 [(0, .ref (ad 0)), (1, .int a1), (2, .int a2)] → va_P D gCl (mW cI cS cZ ad σ α) H → va_D A (mW cI cS cZ ad σ α) → va_S A s.heap H locs → wp_Md_cycle_J87 σ α a1 a2 t0 post → W p l e rm_Md_cycle s m ([.ref (ad 0)] : List Value).toArray below meth c H locs 0 0 Q (F0 m 87 ls [.int t0]) := by
    intro σ α a1 a2 t0 ls H locs hl hP hD hS hw
    unfold wp_Md_cycle_J87 at hw
    refine lv_istore_n hx hb d_Md_cycle_87 rfl hl (by decide) rfl (fun ls hl => ?_)
    have hl : lv_has ls 6 [(3, .int t0), (0, .ref (ad 0)), (1, .int a1), (2, .int a2)] := hl
    refine lv_aload_n hx hb d_Md_cycle_88 rfl (lv_at hl 1 rfl) ?_
    refine gCallVi (b := ad 0) (As := []) (rest := []) (c_Md_current l D cI cS cZ ad  σ α _ hw) hx hb hml hown hts hK hN hA hS hP hD (cwV 0 hts (gGV tw_722 tw_724 ts_24 tw_11 tw_725) rfl rfl rfl ⟨rfl, by decide, by decide, by decide +kernel⟩ ⟨Nat.le_of_ble_eq_true rfl, Nat.le_of_ble_eq_true rfl⟩) (va_recv (ci := 9) (q0 := 0) hK hP rfl rfl) rfl hl.1 rfl (Nat.le_of_ble_eq_true rfl) d_Md_cycle_89 (fun r89 u89 H locs hw hP hD hS => ?_)
    have hP : va_P D gCl (mW cI cS cZ ad u89.1 u89.2) H := hP
    have hD : va_D A (mW cI cS cZ ad u89.1 u89.2) := hD
    refine lv_istore hx hb d_Md_cycle_92 hl (by decide) rfl (fun ls hl => ?_)
    have hl : lv_has ls 6 [(4, .int r89), (3, .int t0), (0, .ref (ad 0)), (1, .int a1), (2, .int a2)] := hl
    refine lv_iload hx hb d_Md_cycle_94 (lv_at hl 0 rfl) ?_
    refine lv_if_lt (tgt := 181) hx hb d_Md_cycle_96 (by decide) (fun h => ?_) (fun h => ?_)
    · have hw := hw.1 h
      exact J181 u89.1 u89.2 a1 a2 ls H locs (lv_sub hl [2, 3, 4] rfl) hP hD hS hw
    · have hw := hw.2 h
      refine lv_aload_n hx hb d_Md_cycle_99 rfl (lv_at hl 2 rfl) ?_
      refine lv_iload hx hb d_Md_cycle_100 (lv_at hl 0 rfl) ?_
      refine lv_bipush (v := 15) hx hb d_Md_cycle_102 (by decide) ?_
      refine lv_iand hx hb d_Md_cycle_104 ?_
      refine gCallVi (b := ad 0) (As := [.int (r89 &&& (15 : Int32))]) (rest := []) (c_Md_get l D cI cS cZ ad  u89.1 u89.2 (r89 &&& (15 : Int32)) _ hw) hx hb hml hown hts hK hN hA hS hP hD (cwV 1 hts (gGV tw_726 tw_728 ts_25 tw_11 tw_729) rfl rfl rfl ⟨rfl, by decide, by decide, by decide +kernel⟩ ⟨Nat.le_of_ble_eq_true rfl, Nat.le_of_ble_eq_true rfl⟩) (va_recv (ci := 9) (q0 := 0) hK hP rfl rfl) rfl hl.1 rfl (Nat.le_of_ble_eq_true rfl) d_Md_cycle_105 (fun r105 u105 H locs hw hP hD hS => ?_)
      have hP : va_P D gCl (mW cI cS cZ ad u105.1 u105.2) H := hP
      have hD : va_D A (mW cI cS cZ ad u105.1 u105.2) := hD
      refine lv_istore hx hb d_Md_cycle_108 hl (by decide) rfl (fun ls hl => ?_)
      have hl : lv_has ls 6 [(5, .int r105), (4, .int r89), (3, .int t0), (0, .ref (ad 0)), (1, .int a1), (2, .int a2)] := hl
      refine lv_aload_n hx hb d_Md_cycle_110 rfl (lv_at hl 3 rfl) ?_
      refine lv_aload_n hx hb d_Md_cycle_111 rfl (lv_at hl 3 rfl) ?_
      refine va_get (D := D) (ci := 9) (v := .int (u105.1 20)) (C := R_Md) (T := T_Md) (N := 47) hx hb hts i_Md hown hK hP 0 rfl rfl 24 (by decide) (hts _ tw_558) (fun _ h9 => h9) rfl d_Md_cycle_112 ?_
      refine lv_if_ne (tgt := 132) hx hb d_Md_cycle_115 (by decide) (fun h => ?_) (fun h => ?_)
      · have hw := hw.1 h
        exact J132 u105.1 u105.2 a1 a2 t0 r89 r105 ls H locs (lv_sub hl [3, 4, 5, 2, 1, 0] rfl) hP hD hS hw
      · have hw := hw.2 h
        refine lv_iload_n hx hb d_Md_cycle_118 rfl (lv_at hl 4 rfl) ?_
        refine lv_if_lt (tgt := 136) hx hb d_Md_cycle_119 (by decide) (fun h => ?_) (fun h => ?_)
        · have hw := hw.1 h
          exact J136 u105.1 u105.2 a1 a2 t0 r89 r105 ls H locs (lv_sub hl [3, 4, 5, 2, 1, 0] rfl) hP hD hS hw
        · have hw := hw.2 h
          refine lv_iload hx hb d_Md_cycle_122 (lv_at hl 1 rfl) ?_
          refine lv_bipush (v := 15) hx hb d_Md_cycle_124 (by decide) ?_
          refine lv_iand hx hb d_Md_cycle_126 ?_
          refine lv_bipush (v := 13) hx hb d_Md_cycle_127 (by decide) ?_
          refine lv_icmp_ne (tgt := 136) hx hb d_Md_cycle_129 (by decide) (fun h => ?_) (fun h => ?_)
          · have hw := hw.1 h
            exact J136 u105.1 u105.2 a1 a2 t0 r89 r105 ls H locs (lv_sub hl [3, 4, 5, 2, 1, 0] rfl) hP hD hS hw
          · have hw := hw.2 h
            exact J132 u105.1 u105.2 a1 a2 t0 r89 r105 ls H locs (lv_sub hl [3, 4, 5, 2, 1, 0] rfl) hP hD hS hw
  have J86 : ∀ (σ : Nat → Int32) (α : Nat → Nat → Int32) (a1 : Int32) (a2 : Int32) (ls : Array Slot) (H : Heap) (locs : List Loc), lv_has ls 6 [(0, .ref (ad 0)), (1, .int a1), (2, .int a2)] → va_P D gCl (mW cI cS cZ ad σ α) H → va_D A (mW cI cS cZ ad σ α) → va_S A s.heap H locs → wp_Md_cycle_J86 σ α a1 a2 post → W p l e rm_Md_cycle s m ([.ref (ad 0)] : List Value).toArray below meth c H locs 0 0 Q (F0 m 86 ls []) := by
    intro σ α a1 a2 ls H locs hl hP hD hS hw
    unfold wp_Md_cycle_J86 at hw
    refine lv_iconst (v := 0) hx hb d_Md_cycle_86 (by decide) ?_
    exact J87 σ α a1 a2 (0 : Int32) ls H locs (lv_sub hl [0, 1, 2] rfl) hP hD hS hw
  have J57 : ∀ (σ : Nat → Int32) (α : Nat → Nat → Int32) (a1 : Int32) (a2 : Int32) (t0 : Int32) (ls : Array Slot) (H : Heap) (locs : List Loc), lv_has ls 6 [(0, .ref (ad 0)), (1, .int a1), (2, .int a2)] → va_P D gCl (mW cI cS cZ ad σ α) H → va_D A (mW cI cS cZ ad σ α) → va_S A s.heap H locs → wp_Md_cycle_J57 σ α a1 a2 t0 post → W p l e rm_Md_cycle s m ([.ref (ad 0)] : List Value).toArray below meth c H locs 0 0 Q (F0 m 57 ls [.int t0, .ref (ad 0)]) := by
    intro σ α a1 a2 t0 ls H locs hl hP hD hS hw
    unfold wp_Md_cycle_J57 at hw
    obtain ⟨⟨hn, hf⟩, hw⟩ := hw
    refine va_put (D := D) (ci := 9) (v := .int t0) (ty := .boolean) (C := R_Md) (T := T_Md) (N := 47) hx hb hts i_Md t_Md o_Md n_Md hown hK hP hD hS 0 rfl rfl 24 (by decide) (hts _ tw_558) (fun _ h9 => h9) rfl (by decide +kernel) hn hf (Nat.le_of_ble_eq_true rfl) d_Md_cycle_57 (fun H locs hP hD hS => ?_)
    have hP : va_P D gCl (mW cI cS cZ ad (va_up σ 20 t0) α) H := hP
    have hD : va_D A (mW cI cS cZ ad (va_up σ 20 t0) α) := hD
    refine lv_aload_n hx hb d_Md_cycle_60 rfl (lv_at hl 0 rfl) ?_
    refine va_get (D := D) (ci := 9) (v := .int (σ 0)) (C := R_Md) (T := T_Md) (N := 47) hx hb hts i_Md hown hK hP 0 rfl rfl 2 (by decide) (hts _ tw_536) (fun _ h9 => h9) rfl d_Md_cycle_61 ?_
    refine lv_aload_n hx hb d_Md_cycle_64 rfl (lv_at hl 0 rfl) ?_
    refine va_get (D := D) (ci := 9) (v := .int (σ 9)) (C := R_Md) (T := T_Md) (N := 47) hx hb hts i_Md hown hK hP 0 rfl rfl 11 (by decide) (hts _ tw_545) (fun _ h9 => h9) rfl d_Md_cycle_65 ?_
    refine lv_icmp_lt (tgt := 86) hx hb d_Md_cycle_68 (by decide) (fun h => ?_) (fun h => ?_)
    · have hw := hw.1 h
      exact J86 (va_up σ 20 t0) α a1 a2 ls H locs (lv_sub hl [0, 1, 2] rfl) hP hD hS hw
    · have hw := hw.2 h
      refine lv_aload_n hx hb d_Md_cycle_71 rfl (lv_at hl 0 rfl) ?_
      refine va_get (D := D) (ci := 9) (v := .int (σ 0)) (C := R_Md) (T := T_Md) (N := 47) hx hb hts i_Md hown hK hP 0 rfl rfl 2 (by decide) (hts _ tw_536) (fun _ h9 => h9) rfl d_Md_cycle_72 ?_
      refine lv_aload_n hx hb d_Md_cycle_75 rfl (lv_at hl 0 rfl) ?_
      refine va_get (D := D) (ci := 9) (v := .int (σ 10)) (C := R_Md) (T := T_Md) (N := 47) hx hb hts i_Md hown hK hP 0 rfl rfl 12 (by decide) (hts _ tw_546) (fun _ h9 => h9) rfl d_Md_cycle_76 ?_
      refine lv_icmp_gt (tgt := 86) hx hb d_Md_cycle_79 (by decide) (fun h => ?_) (fun h => ?_)
      · have hw := hw.1 h
        exact J86 (va_up σ 20 t0) α a1 a2 ls H locs (lv_sub hl [0, 1, 2] rfl) hP hD hS hw
      · have hw := hw.2 h
        refine lv_iconst (v := 1) hx hb d_Md_cycle_82 (by decide) ?_
        refine lv_goto (tgt := 87) hx hb d_Md_cycle_83 (by decide) ?_
        exact J87 (va_up σ 20 t0) α a1 a2 (1 : Int32) ls H locs (lv_sub hl [0, 1, 2] rfl) hP hD hS hw
  have J56 : ∀ (σ : Nat → Int32) (α : Nat → Nat → Int32) (a1 : Int32) (a2 : Int32) (ls : Array Slot) (H : Heap) (locs : List Loc), lv_has ls 6 [(0, .ref (ad 0)), (1, .int a1), (2, .int a2)] → va_P D gCl (mW cI cS cZ ad σ α) H → va_D A (mW cI cS cZ ad σ α) → va_S A s.heap H locs → wp_Md_cycle_J56 σ α a1 a2 post → W p l e rm_Md_cycle s m ([.ref (ad 0)] : List Value).toArray below meth c H locs 0 0 Q (F0 m 56 ls [.ref (ad 0)]) := by
    intro σ α a1 a2 ls H locs hl hP hD hS hw
    unfold wp_Md_cycle_J56 at hw
    refine lv_iconst (v := 0) hx hb d_Md_cycle_56 (by decide) ?_
    exact J57 σ α a1 a2 (0 : Int32) ls H locs (lv_sub hl [0, 1, 2] rfl) hP hD hS hw
  have J52 : ∀ (σ : Nat → Int32) (α : Nat → Nat → Int32) (a1 : Int32) (a2 : Int32) (ls : Array Slot) (H : Heap) (locs : List Loc), lv_has ls 6 [(0, .ref (ad 0)), (1, .int a1), (2, .int a2)] → va_P D gCl (mW cI cS cZ ad σ α) H → va_D A (mW cI cS cZ ad σ α) → va_S A s.heap H locs → wp_Md_cycle_J52 σ α a1 a2 post → W p l e rm_Md_cycle s m ([.ref (ad 0)] : List Value).toArray below meth c H locs 0 0 Q (F0 m 52 ls [.ref (ad 0)]) := by
    intro σ α a1 a2 ls H locs hl hP hD hS hw
    unfold wp_Md_cycle_J52 at hw
    refine lv_iconst (v := 1) hx hb d_Md_cycle_52 (by decide) ?_
    refine lv_goto (tgt := 57) hx hb d_Md_cycle_53 (by decide) ?_
    exact J57 σ α a1 a2 (1 : Int32) ls H locs (lv_sub hl [0, 1, 2] rfl) hP hD hS hw
  have J15 : ∀ (σ : Nat → Int32) (α : Nat → Nat → Int32) (ls : Array Slot) (H : Heap) (locs : List Loc), lv_has ls 6 [(0, .ref (ad 0))] → va_P D gCl (mW cI cS cZ ad σ α) H → va_D A (mW cI cS cZ ad σ α) → va_S A s.heap H locs → wp_Md_cycle_J15 σ α post → W p l e rm_Md_cycle s m ([.ref (ad 0)] : List Value).toArray below meth c H locs 0 0 Q (F0 m 15 ls []) := by
    intro σ α ls H locs hl hP hD hS hw
    unfold wp_Md_cycle_J15 at hw
    refine lv_aload_n hx hb d_Md_cycle_15 rfl (lv_at hl 0 rfl) ?_
    refine gCallVi (b := ad 0) (As := []) (rest := []) (c_Md_row l D cI cS cZ ad  σ α _ hw) hx hb hml hown hts hK hN hA hS hP hD (cwV 0 hts (gGV tw_718 tw_720 ts_23 tw_11 tw_721) rfl rfl rfl ⟨rfl, by decide, by decide, by decide +kernel⟩ ⟨Nat.le_of_ble_eq_true rfl, Nat.le_of_ble_eq_true rfl⟩) (va_recv (ci := 9) (q0 := 0) hK hP rfl rfl) rfl hl.1 rfl (Nat.le_of_ble_eq_true rfl) d_Md_cycle_16 (fun r16 u16 H locs hw hP hD hS => ?_)
    have hP : va_P D gCl (mW cI cS cZ ad u16.1 u16.2) H := hP
    have hD : va_D A (mW cI cS cZ ad u16.1 u16.2) := hD
    refine lv_istore_n hx hb d_Md_cycle_19 rfl hl (by decide) rfl (fun ls hl => ?_)
    have hl : lv_has ls 6 [(1, .int r16), (0, .ref (ad 0))] := hl
    refine lv_aload_n hx hb d_Md_cycle_20 rfl (lv_at hl 1 rfl) ?_
    refine va_get (D := D) (ci := 9) (v := .int (u16.1 0)) (C := R_Md) (T := T_Md) (N := 47) hx hb hts i_Md hown hK hP 0 rfl rfl 2 (by decide) (hts _ tw_536) (fun _ h9 => h9) rfl d_Md_cycle_21 ?_
    refine lv_aload_n hx hb d_Md_cycle_24 rfl (lv_at hl 1 rfl) ?_
    refine va_get (D := D) (ci := 9) (v := .int (u16.1 19)) (C := R_Md) (T := T_Md) (N := 47) hx hb hts i_Md hown hK hP 0 rfl rfl 23 (by decide) (hts _ tw_557) (fun _ h9 => h9) rfl d_Md_cycle_25 ?_
    refine lv_isub hx hb d_Md_cycle_28 ?_
    refine lv_bipush (v := 40) hx hb d_Md_cycle_29 (by decide) ?_
    refine lv_isub hx hb d_Md_cycle_31 ?_
    refine lv_istore_n hx hb d_Md_cycle_32 rfl hl (by decide) rfl (fun ls hl => ?_)
    have hl : lv_has ls 6 [(2, .int (((u16.1 0) - (u16.1 19)) - (40 : Int32))), (1, .int r16), (0, .ref (ad 0))] := hl
    refine lv_aload_n hx hb d_Md_cycle_33 rfl (lv_at hl 2 rfl) ?_
    refine lv_aload_n hx hb d_Md_cycle_34 rfl (lv_at hl 2 rfl) ?_
    refine va_get (D := D) (ci := 9) (v := .int (u16.1 20)) (C := R_Md) (T := T_Md) (N := 47) hx hb hts i_Md hown hK hP 0 rfl rfl 24 (by decide) (hts _ tw_558) (fun _ h9 => h9) rfl d_Md_cycle_35 ?_
    refine lv_if_eq (tgt := 56) hx hb d_Md_cycle_38 (by decide) (fun h => ?_) (fun h => ?_)
    · have hw := hw.1 h
      exact J56 u16.1 u16.2 r16 (((u16.1 0) - (u16.1 19)) - (40 : Int32)) ls H locs (lv_sub hl [2, 1, 0] rfl) hP hD hS hw
    · have hw := hw.2 h
      refine lv_iload_n hx hb d_Md_cycle_41 rfl (lv_at hl 1 rfl) ?_
      refine lv_if_lt (tgt := 52) hx hb d_Md_cycle_42 (by decide) (fun h => ?_) (fun h => ?_)
      · have hw := hw.1 h
        exact J52 u16.1 u16.2 r16 (((u16.1 0) - (u16.1 19)) - (40 : Int32)) ls H locs (lv_sub hl [2, 1, 0] rfl) hP hD hS hw
      · have hw := hw.2 h
        refine lv_iload_n hx hb d_Md_cycle_45 rfl (lv_at hl 0 rfl) ?_
        refine lv_bipush (v := 8) hx hb d_Md_cycle_46 (by decide) ?_
        refine lv_irem hx hb d_Md_cycle_48 (by decide) ?_
        refine lv_if_eq (tgt := 56) hx hb d_Md_cycle_49 (by decide) (fun h => ?_) (fun h => ?_)
        · have hw := hw.1 h
          exact J56 u16.1 u16.2 r16 (((u16.1 0) - (u16.1 19)) - (40 : Int32)) ls H locs (lv_sub hl [2, 1, 0] rfl) hP hD hS hw
        · have hw := hw.2 h
          exact J52 u16.1 u16.2 r16 (((u16.1 0) - (u16.1 19)) - (40 : Int32)) ls H locs (lv_sub hl [2, 1, 0] rfl) hP hD hS hw
  unfold wp_Md_cycle at hw
  have hP : va_P D gCl (mW cI cS cZ ad σ α) s.heap := hP
  have hD : va_D A (mW cI cS cZ ad σ α) := hD
  obtain ⟨H, hH⟩ : ∃ H, H = s.heap := ⟨_, rfl⟩
  obtain ⟨locs, hlocs⟩ : ∃ locs : List Loc, locs = [] := ⟨_, rfl⟩
  have hP : va_P D gCl (mW cI cS cZ ad σ α) H := by rw [hH]; exact hP
  have hS : va_S A s.heap H locs := by rw [hH, hlocs]; exact hS
  suffices K : W p l e rm_Md_cycle s m ([.ref (ad 0)] : List Value).toArray below meth c H locs 0 0 Q (F0 m 0 ls []) by rw [hH, hlocs] at K; exact K
  clear hH hlocs
  refine lv_aload_n hx hb d_Md_cycle_0 rfl (lv_at hl 0 rfl) ?_
  refine va_get (D := D) (ci := 9) (v := .int (σ 0)) (C := R_Md) (T := T_Md) (N := 47) hx hb hts i_Md hown hK hP 0 rfl rfl 2 (by decide) (hts _ tw_536) (fun _ h9 => h9) rfl d_Md_cycle_1 ?_
  refine lv_aload_n hx hb d_Md_cycle_4 rfl (lv_at hl 0 rfl) ?_
  refine va_get (D := D) (ci := 9) (v := .int (σ 3)) (C := R_Md) (T := T_Md) (N := 47) hx hb hts i_Md hown hK hP 0 rfl rfl 5 (by decide) (hts _ tw_539) (fun _ h9 => h9) rfl d_Md_cycle_5 ?_
  refine lv_icmp_ne (tgt := 15) hx hb d_Md_cycle_8 (by decide) (fun h => ?_) (fun h => ?_)
  · have hw := hw.1 h
    exact J15 σ α ls H locs (lv_sub hl [0] rfl) hP hD hS hw
  · have hw := hw.2 h
    refine lv_aload_n hx hb d_Md_cycle_11 rfl (lv_at hl 0 rfl) ?_
    refine gCallVv (b := ad 0) (As := []) (rest := []) (c_Md_read_0 l D cI cS cZ ad  σ α _ hw) hx hb hml hown hts hK hN hA hS hP hD (cwV 0 hts (gGV tw_708 tw_710 ts_22 tw_11 tw_711) rfl rfl rfl ⟨rfl, by decide, by decide, by decide +kernel⟩ ⟨Nat.le_of_ble_eq_true rfl, Nat.le_of_ble_eq_true rfl⟩) (va_recv (ci := 9) (q0 := 0) hK hP rfl rfl) rfl hl.1 rfl (Nat.le_of_ble_eq_true rfl) d_Md_cycle_12 (fun u12 H locs hw hP hD hS => ?_)
    have hP : va_P D gCl (mW cI cS cZ ad u12.1 u12.2) H := hP
    have hD : va_D A (mW cI cS cZ ad u12.1 u12.2) := hD
    exact J15 u12.1 u12.2 ls H locs (lv_sub hl [0] rfl) hP hD hS hw
abbrev rm_Md_run : Room := { frames := 4, cells := 0, slots := 0, locals := 89 }
set_option maxHeartbeats 4000000 in
set_option maxRecDepth 100000 in
theorem c_Md_run (l : Launch) (D : va_G) (cI cS cZ : ClassId) (ad : Nat → Nat) (σ : Nat → Int32) (α : Nat → Nat → Int32) (x1 : Int32) (post : Int32 → gS → Prop) (hw : wp_Md_run σ α x1 post) : gMi l y_Md_run b_Md_run 3 .int rm_Md_run D (gT cI cS cZ) (fun u : gS => mW cI cS cZ ad u.1 u.2) [.ref (ad 0), .int x1] (σ, α) post := by
  refine gMi.of (by decide) (Nat.le_of_ble_eq_true rfl) ?_
  intro p e s m below meth c Q A hx hb hml hown hts hK hN hA hS hP hD hret ls hl
  have hl : lv_has ls 3 [(0, .ref (ad 0)), (1, .int x1)] := hl
  have J37 : ∀ (σ : Nat → Int32) (α : Nat → Nat → Int32) (a2 : Int32) (ls : Array Slot) (H : Heap) (locs : List Loc), lv_has ls 3 [(2, .int a2)] → va_P D gCl (mW cI cS cZ ad σ α) H → va_D A (mW cI cS cZ ad σ α) → va_S A s.heap H locs → wp_Md_run_J37 σ α a2 post → W p l e rm_Md_run s m ([.ref (ad 0), .int x1] : List Value).toArray below meth c H locs 0 0 Q (F0 m 37 ls []) := by
    intro σ α a2 ls H locs hl hP hD hS hw
    unfold wp_Md_run_J37 at hw
    refine lv_iload_n hx hb d_Md_run_37 rfl (lv_at hl 0 rfl) ?_
    exact hret H locs 38 ls a2 (σ, α) d_Md_run_38 hP hD hS (vp_nar_int _) hw
  have L15 : ∀ (σ : Nat → Int32) (α : Nat → Nat → Int32) (a1 : Int32) (a2 : Int32) (ls : Array Slot) (H : Heap) (locs : List Loc), lv_has ls 3 [(0, .ref (ad 0)), (1, .int a1), (2, .int a2)] → va_P D gCl (mW cI cS cZ ad σ α) H → va_D A (mW cI cS cZ ad σ α) → va_S A s.heap H locs → wp_Md_run_L15 σ α a1 a2 post → W p l e rm_Md_run s m ([.ref (ad 0), .int x1] : List Value).toArray below meth c H locs 0 0 Q (F0 m 15 ls []) := by
    intro σ α a1 a2 ls H locs hl hP hD hS hw
    let XL15 : (Nat → Int32) → (Nat → Nat → Int32) → Int32 → Int32 → Prop := fun σ α a1 a2 => ∀ (ls : Array Slot) (H : Heap) (locs : List Loc), lv_has ls 3 [(0, .ref (ad 0)), (1, .int a1), (2, .int a2)] → va_P D gCl (mW cI cS cZ ad σ α) H → va_D A (mW cI cS cZ ad σ α) → va_S A s.heap H locs → W p l e rm_Md_run s m ([.ref (ad 0), .int x1] : List Value).toArray below meth c H locs 0 0 Q (F0 m 15 ls [])
    have hX15 : ∀ (σ : Nat → Int32) (α : Nat → Nat → Int32) (a1 : Int32) (a2 : Int32) (ls : Array Slot) (H : Heap) (locs : List Loc), lv_has ls 3 [(0, .ref (ad 0)), (1, .int a1), (2, .int a2)] → va_P D gCl (mW cI cS cZ ad σ α) H → va_D A (mW cI cS cZ ad σ α) → va_S A s.heap H locs → XL15 σ α a1 a2 → W p l e rm_Md_run s m ([.ref (ad 0), .int x1] : List Value).toArray below meth c H locs 0 0 Q (F0 m 15 ls []) := fun σ α a1 a2 ls H locs hl hP hD hS hw => hw ls H locs hl hP hD hS
    refine hw XL15 ?_ ls H locs hl hP hD hS
    clear hw hl hP hD hS
    intro σ α a1 a2 hw ls H locs hl hP hD hS
    unfold wp_Md_run_B15 at hw
    refine lv_iload_n hx hb d_Md_run_15 rfl (lv_at hl 2 rfl) ?_
    refine lv_iload_n hx hb d_Md_run_16 rfl (lv_at hl 1 rfl) ?_
    refine lv_icmp_ge (tgt := 37) hx hb d_Md_run_17 (by decide) (fun h => ?_) (fun h => ?_)
    · have hw := hw.1 h
      exact J37 σ α a2 ls H locs (lv_sub hl [2] rfl) hP hD hS hw
    · have hw := hw.2 h
      refine lv_aload_n hx hb d_Md_run_20 rfl (lv_at hl 0 rfl) ?_
      refine va_get (D := D) (ci := 9) (v := .int (σ 1)) (C := R_Md) (T := T_Md) (N := 47) hx hb hts i_Md hown hK hP 0 rfl rfl 3 (by decide) (hts _ tw_537) (fun _ h9 => h9) rfl d_Md_run_21 ?_
      refine lv_if_eq (tgt := 37) hx hb d_Md_run_24 (by decide) (fun h => ?_) (fun h => ?_)
      · have hw := hw.1 h
        exact J37 σ α a2 ls H locs (lv_sub hl [2] rfl) hP hD hS hw
      · have hw := hw.2 h
        refine lv_aload_n hx hb d_Md_run_27 rfl (lv_at hl 0 rfl) ?_
        refine gCallVv (b := ad 0) (As := []) (rest := []) (c_Md_cycle l D cI cS cZ ad  σ α _ hw) hx hb hml hown hts hK hN hA hS hP hD (cwV 0 hts (gGV tw_704 tw_706 ts_21 tw_11 tw_707) rfl rfl rfl ⟨rfl, by decide, by decide, by decide +kernel⟩ ⟨Nat.le_of_ble_eq_true rfl, Nat.le_of_ble_eq_true rfl⟩) (va_recv (ci := 9) (q0 := 0) hK hP rfl rfl) rfl hl.1 rfl (Nat.le_of_ble_eq_true rfl) d_Md_run_28 (fun u28 H locs hw hP hD hS => ?_)
        have hP : va_P D gCl (mW cI cS cZ ad u28.1 u28.2) H := hP
        have hD : va_D A (mW cI cS cZ ad u28.1 u28.2) := hD
        refine lv_iinc (k := 2) hx hb d_Md_run_31 hl rfl rfl (by decide) rfl (fun ls hl => ?_)
        have hl : lv_has ls 3 [(2, .int (a2 + Int32.ofInt 1)), (0, .ref (ad 0)), (1, .int a1)] := hl
        refine lv_goto (tgt := 15) hx hb d_Md_run_34 (by decide) ?_
        exact hX15 u28.1 u28.2 a1 (a2 + Int32.ofInt 1) ls H locs (lv_sub hl [1, 2, 0] rfl) hP hD hS hw
  have J11 : ∀ (σ : Nat → Int32) (α : Nat → Nat → Int32) (ls : Array Slot) (H : Heap) (locs : List Loc), lv_has ls 3 [] → va_P D gCl (mW cI cS cZ ad σ α) H → va_D A (mW cI cS cZ ad σ α) → va_S A s.heap H locs → wp_Md_run_J11 σ α post → W p l e rm_Md_run s m ([.ref (ad 0), .int x1] : List Value).toArray below meth c H locs 0 0 Q (F0 m 11 ls []) := by
    intro σ α ls H locs hl hP hD hS hw
    unfold wp_Md_run_J11 at hw
    refine lv_iconst (v := (-1)) hx hb d_Md_run_11 (by decide) ?_
    exact hret H locs 12 ls (-1 : Int32) (σ, α) d_Md_run_12 hP hD hS (vp_nar_int _) hw
  unfold wp_Md_run at hw
  have hP : va_P D gCl (mW cI cS cZ ad σ α) s.heap := hP
  have hD : va_D A (mW cI cS cZ ad σ α) := hD
  obtain ⟨H, hH⟩ : ∃ H, H = s.heap := ⟨_, rfl⟩
  obtain ⟨locs, hlocs⟩ : ∃ locs : List Loc, locs = [] := ⟨_, rfl⟩
  have hP : va_P D gCl (mW cI cS cZ ad σ α) H := by rw [hH]; exact hP
  have hS : va_S A s.heap H locs := by rw [hH, hlocs]; exact hS
  suffices K : W p l e rm_Md_run s m ([.ref (ad 0), .int x1] : List Value).toArray below meth c H locs 0 0 Q (F0 m 0 ls []) by rw [hH, hlocs] at K; exact K
  clear hH hlocs
  refine lv_iload_n hx hb d_Md_run_0 rfl (lv_at hl 1 rfl) ?_
  refine lv_if_lt (tgt := 11) hx hb d_Md_run_1 (by decide) (fun h => ?_) (fun h => ?_)
  · have hw := hw.1 h
    exact J11 σ α ls H locs (lv_sub hl [] rfl) hP hD hS hw
  · have hw := hw.2 h
    refine lv_iload_n hx hb d_Md_run_4 rfl (lv_at hl 1 rfl) ?_
    refine lv_sipush (v := 2000) hx hb d_Md_run_5 (by decide) ?_
    refine lv_icmp_le (tgt := 13) hx hb d_Md_run_8 (by decide) (fun h => ?_) (fun h => ?_)
    · have hw := hw.1 h
      refine lv_iconst (v := 0) hx hb d_Md_run_13 (by decide) ?_
      refine lv_istore_n hx hb d_Md_run_14 rfl hl (by decide) rfl (fun ls hl => ?_)
      have hl : lv_has ls 3 [(2, .int (0 : Int32)), (0, .ref (ad 0)), (1, .int x1)] := hl
      exact L15 σ α x1 (0 : Int32) ls H locs (lv_sub hl [1, 2, 0] rfl) hP hD hS hw
    · have hw := hw.2 h
      exact J11 σ α ls H locs (lv_sub hl [] rfl) hP hD hS hw
abbrev rm_Md_look : Room := { frames := 0, cells := 0, slots := 0, locals := 0 }
set_option maxHeartbeats 4000000 in
set_option maxRecDepth 100000 in
theorem c_Md_look (l : Launch) (D : va_G) (cI cS cZ : ClassId) (ad : Nat → Nat) (σ : Nat → Int32) (α : Nat → Nat → Int32) (x1 : Int32) (post : Int32 → gS → Prop) (hw : wp_Md_look σ α x1 post) : gMi l y_Md_look b_Md_look 2 .int rm_Md_look D (gT cI cS cZ) (fun u : gS => mW cI cS cZ ad u.1 u.2) [.ref (ad 0), .int x1] (σ, α) post := by
  refine gMi.of (by decide) (Nat.le_of_ble_eq_true rfl) ?_
  intro p e s m below meth c Q A hx hb hml hown hts hK hN hA hS hP hD hret ls hl
  have hl : lv_has ls 2 [(0, .ref (ad 0)), (1, .int x1)] := hl
  have J106 : ∀ (σ : Nat → Int32) (α : Nat → Nat → Int32) (t0 : Int32) (ls : Array Slot) (H : Heap) (locs : List Loc), lv_has ls 2 [] → va_P D gCl (mW cI cS cZ ad σ α) H → va_D A (mW cI cS cZ ad σ α) → va_S A s.heap H locs → wp_Md_look_J106 σ α t0 post → W p l e rm_Md_look s m ([.ref (ad 0), .int x1] : List Value).toArray below meth c H locs 0 0 Q (F0 m 106 ls [.int t0]) := by
    intro σ α t0 ls H locs hl hP hD hS hw
    unfold wp_Md_look_J106 at hw
    exact hret H locs 106 ls t0 (σ, α) d_Md_look_106 hP hD hS (vp_nar_int _) hw
  have J90 : ∀ (σ : Nat → Int32) (α : Nat → Nat → Int32) (t0 : Int32) (ls : Array Slot) (H : Heap) (locs : List Loc), lv_has ls 2 [] → va_P D gCl (mW cI cS cZ ad σ α) H → va_D A (mW cI cS cZ ad σ α) → va_S A s.heap H locs → wp_Md_look_J90 σ α t0 post → W p l e rm_Md_look s m ([.ref (ad 0), .int x1] : List Value).toArray below meth c H locs 0 0 Q (F0 m 90 ls [.int t0]) := by
    intro σ α t0 ls H locs hl hP hD hS hw
    unfold wp_Md_look_J90 at hw
    exact hret H locs 90 ls t0 (σ, α) d_Md_look_90 hP hD hS (vp_nar_int _) hw
  have J64 : ∀ (σ : Nat → Int32) (α : Nat → Nat → Int32) (t0 : Int32) (ls : Array Slot) (H : Heap) (locs : List Loc), lv_has ls 2 [] → va_P D gCl (mW cI cS cZ ad σ α) H → va_D A (mW cI cS cZ ad σ α) → va_S A s.heap H locs → wp_Md_look_J64 σ α t0 post → W p l e rm_Md_look s m ([.ref (ad 0), .int x1] : List Value).toArray below meth c H locs 0 0 Q (F0 m 64 ls [.int t0]) := by
    intro σ α t0 ls H locs hl hP hD hS hw
    unfold wp_Md_look_J64 at hw
    exact hret H locs 64 ls t0 (σ, α) d_Md_look_64 hP hD hS (vp_nar_int _) hw
  unfold wp_Md_look at hw
  have hP : va_P D gCl (mW cI cS cZ ad σ α) s.heap := hP
  have hD : va_D A (mW cI cS cZ ad σ α) := hD
  obtain ⟨H, hH⟩ : ∃ H, H = s.heap := ⟨_, rfl⟩
  obtain ⟨locs, hlocs⟩ : ∃ locs : List Loc, locs = [] := ⟨_, rfl⟩
  have hP : va_P D gCl (mW cI cS cZ ad σ α) H := by rw [hH]; exact hP
  have hS : va_S A s.heap H locs := by rw [hH, hlocs]; exact hS
  suffices K : W p l e rm_Md_look s m ([.ref (ad 0), .int x1] : List Value).toArray below meth c H locs 0 0 Q (F0 m 0 ls []) by rw [hH, hlocs] at K; exact K
  clear hH hlocs
  refine lv_iload_n hx hb d_Md_look_0 rfl (lv_at hl 1 rfl) ?_
  have hw := hw
  by_cases h1_0 : x1 = 0
  · have hw := hw.1 h1_0
    refine W.eq (g2 := F0 m 1 ls [.int (0 : Int32)]) (by rw [h1_0]) ?_
    refine lv_tableIn (off := 51) (tgt := 52) hx hb d_Md_look_1 (by decide) (by decide) (by decide) (by decide) ?_
    refine lv_aload_n hx hb d_Md_look_52 rfl (lv_at hl 0 rfl) ?_
    refine va_get (D := D) (ci := 9) (v := .int (σ 1)) (C := R_Md) (T := T_Md) (N := 47) hx hb hts i_Md hown hK hP 0 rfl rfl 3 (by decide) (hts _ tw_537) (fun _ h9 => h9) rfl d_Md_look_53 ?_
    refine lv_if_eq (tgt := 63) hx hb d_Md_look_56 (by decide) (fun h => ?_) (fun h => ?_)
    · have hw := hw.1 h
      refine lv_iconst (v := 0) hx hb d_Md_look_63 (by decide) ?_
      exact J64 σ α (0 : Int32) ls H locs (lv_sub hl [] rfl) hP hD hS hw
    · have hw := hw.2 h
      refine lv_iconst (v := 1) hx hb d_Md_look_59 (by decide) ?_
      refine lv_goto (tgt := 64) hx hb d_Md_look_60 (by decide) ?_
      exact J64 σ α (1 : Int32) ls H locs (lv_sub hl [] rfl) hP hD hS hw
  by_cases h1_1 : x1 = 1
  · have hw := hw.2.1 h1_1
    refine W.eq (g2 := F0 m 1 ls [.int (1 : Int32)]) (by rw [h1_1]) ?_
    refine lv_tableIn (off := 64) (tgt := 65) hx hb d_Md_look_1 (by decide) (by decide) (by decide) (by decide) ?_
    refine lv_aload_n hx hb d_Md_look_65 rfl (lv_at hl 0 rfl) ?_
    refine va_get (D := D) (ci := 9) (v := .int (σ 2)) (C := R_Md) (T := T_Md) (N := 47) hx hb hts i_Md hown hK hP 0 rfl rfl 4 (by decide) (hts _ tw_538) (fun _ h9 => h9) rfl d_Md_look_66 ?_
    exact hret H locs 69 ls (σ 2) (σ, α) d_Md_look_69 hP hD hS (vp_nar_int _) hw
  by_cases h1_2 : x1 = 2
  · have hw := hw.2.2.1 h1_2
    refine W.eq (g2 := F0 m 1 ls [.int (2 : Int32)]) (by rw [h1_2]) ?_
    refine lv_tableIn (off := 69) (tgt := 70) hx hb d_Md_look_1 (by decide) (by decide) (by decide) (by decide) ?_
    refine lv_aload_n hx hb d_Md_look_70 rfl (lv_at hl 0 rfl) ?_
    refine va_get (D := D) (ci := 9) (v := .int (σ 0)) (C := R_Md) (T := T_Md) (N := 47) hx hb hts i_Md hown hK hP 0 rfl rfl 2 (by decide) (hts _ tw_536) (fun _ h9 => h9) rfl d_Md_look_71 ?_
    exact hret H locs 74 ls (σ 0) (σ, α) d_Md_look_74 hP hD hS (vp_nar_int _) hw
  by_cases h1_3 : x1 = 3
  · have hw := hw.2.2.2.1 h1_3
    refine W.eq (g2 := F0 m 1 ls [.int (3 : Int32)]) (by rw [h1_3]) ?_
    refine lv_tableIn (off := 74) (tgt := 75) hx hb d_Md_look_1 (by decide) (by decide) (by decide) (by decide) ?_
    refine lv_aload_n hx hb d_Md_look_75 rfl (lv_at hl 0 rfl) ?_
    refine va_get (D := D) (ci := 9) (v := .int (σ 7)) (C := R_Md) (T := T_Md) (N := 47) hx hb hts i_Md hown hK hP 0 rfl rfl 9 (by decide) (hts _ tw_543) (fun _ h9 => h9) rfl d_Md_look_76 ?_
    refine lv_if_ne (tgt := 86) hx hb d_Md_look_79 (by decide) (fun h => ?_) (fun h => ?_)
    · have hw := hw.1 h
      refine lv_aload_n hx hb d_Md_look_86 rfl (lv_at hl 0 rfl) ?_
      refine va_get (D := D) (ci := 9) (v := .int (σ 5)) (C := R_Md) (T := T_Md) (N := 47) hx hb hts i_Md hown hK hP 0 rfl rfl 7 (by decide) (hts _ tw_541) (fun _ h9 => h9) rfl d_Md_look_87 ?_
      exact J90 σ α (σ 5) ls H locs (lv_sub hl [] rfl) hP hD hS hw
    · have hw := hw.2 h
      refine lv_iconst (v := (-1)) hx hb d_Md_look_82 (by decide) ?_
      refine lv_goto (tgt := 90) hx hb d_Md_look_83 (by decide) ?_
      exact J90 σ α (-1 : Int32) ls H locs (lv_sub hl [] rfl) hP hD hS hw
  by_cases h1_4 : x1 = 4
  · have hw := hw.2.2.2.2.1 h1_4
    refine W.eq (g2 := F0 m 1 ls [.int (4 : Int32)]) (by rw [h1_4]) ?_
    refine lv_tableIn (off := 90) (tgt := 91) hx hb d_Md_look_1 (by decide) (by decide) (by decide) (by decide) ?_
    refine lv_aload_n hx hb d_Md_look_91 rfl (lv_at hl 0 rfl) ?_
    refine va_get (D := D) (ci := 9) (v := .int (σ 7)) (C := R_Md) (T := T_Md) (N := 47) hx hb hts i_Md hown hK hP 0 rfl rfl 9 (by decide) (hts _ tw_543) (fun _ h9 => h9) rfl d_Md_look_92 ?_
    refine lv_if_ne (tgt := 102) hx hb d_Md_look_95 (by decide) (fun h => ?_) (fun h => ?_)
    · have hw := hw.1 h
      refine lv_aload_n hx hb d_Md_look_102 rfl (lv_at hl 0 rfl) ?_
      refine va_get (D := D) (ci := 9) (v := .int (σ 6)) (C := R_Md) (T := T_Md) (N := 47) hx hb hts i_Md hown hK hP 0 rfl rfl 8 (by decide) (hts _ tw_542) (fun _ h9 => h9) rfl d_Md_look_103 ?_
      exact J106 σ α (σ 6) ls H locs (lv_sub hl [] rfl) hP hD hS hw
    · have hw := hw.2 h
      refine lv_iconst (v := (-1)) hx hb d_Md_look_98 (by decide) ?_
      refine lv_goto (tgt := 106) hx hb d_Md_look_99 (by decide) ?_
      exact J106 σ α (-1 : Int32) ls H locs (lv_sub hl [] rfl) hP hD hS hw
  by_cases h1_5 : x1 = 5
  · have hw := hw.2.2.2.2.2.1 h1_5
    refine W.eq (g2 := F0 m 1 ls [.int (5 : Int32)]) (by rw [h1_5]) ?_
    refine lv_tableIn (off := 106) (tgt := 107) hx hb d_Md_look_1 (by decide) (by decide) (by decide) (by decide) ?_
    refine lv_aload_n hx hb d_Md_look_107 rfl (lv_at hl 0 rfl) ?_
    refine va_get (D := D) (ci := 9) (v := .int (σ 7)) (C := R_Md) (T := T_Md) (N := 47) hx hb hts i_Md hown hK hP 0 rfl rfl 9 (by decide) (hts _ tw_543) (fun _ h9 => h9) rfl d_Md_look_108 ?_
    exact hret H locs 111 ls (σ 7) (σ, α) d_Md_look_111 hP hD hS (vp_nar_int _) hw
  by_cases h1_6 : x1 = 6
  · have hw := hw.2.2.2.2.2.2.1 h1_6
    refine W.eq (g2 := F0 m 1 ls [.int (6 : Int32)]) (by rw [h1_6]) ?_
    refine lv_tableIn (off := 111) (tgt := 112) hx hb d_Md_look_1 (by decide) (by decide) (by decide) (by decide) ?_
    refine lv_aload_n hx hb d_Md_look_112 rfl (lv_at hl 0 rfl) ?_
    refine va_get (D := D) (ci := 9) (v := .int (σ 17)) (C := R_Md) (T := T_Md) (N := 47) hx hb hts i_Md hown hK hP 0 rfl rfl 19 (by decide) (hts _ tw_553) (fun _ h9 => h9) rfl d_Md_look_113 ?_
    exact hret H locs 116 ls (σ 17) (σ, α) d_Md_look_116 hP hD hS (vp_nar_int _) hw
  by_cases h1_7 : x1 = 7
  · have hw := hw.2.2.2.2.2.2.2.1 h1_7
    refine W.eq (g2 := F0 m 1 ls [.int (7 : Int32)]) (by rw [h1_7]) ?_
    refine lv_tableIn (off := 116) (tgt := 117) hx hb d_Md_look_1 (by decide) (by decide) (by decide) (by decide) ?_
    refine lv_aload_n hx hb d_Md_look_117 rfl (lv_at hl 0 rfl) ?_
    refine va_get (D := D) (ci := 9) (v := .int (σ 21)) (C := R_Md) (T := T_Md) (N := 47) hx hb hts i_Md hown hK hP 0 rfl rfl 25 (by decide) (hts _ tw_559) (fun _ h9 => h9) rfl d_Md_look_118 ?_
    exact hret H locs 121 ls (σ 21) (σ, α) d_Md_look_121 hP hD hS (vp_nar_int _) hw
  by_cases h1_8 : x1 = 8
  · have hw := hw.2.2.2.2.2.2.2.2.1 h1_8
    refine W.eq (g2 := F0 m 1 ls [.int (8 : Int32)]) (by rw [h1_8]) ?_
    refine lv_tableIn (off := 121) (tgt := 122) hx hb d_Md_look_1 (by decide) (by decide) (by decide) (by decide) ?_
    refine lv_aload_n hx hb d_Md_look_122 rfl (lv_at hl 0 rfl) ?_
    refine va_get (D := D) (ci := 9) (v := .int (σ 15)) (C := R_Md) (T := T_Md) (N := 47) hx hb hts i_Md hown hK hP 0 rfl rfl 17 (by decide) (hts _ tw_551) (fun _ h9 => h9) rfl d_Md_look_123 ?_
    exact hret H locs 126 ls (σ 15) (σ, α) d_Md_look_126 hP hD hS (vp_nar_int _) hw
  have hw := hw.2.2.2.2.2.2.2.2.2
  have hd : x1.toInt < 0 ∨ 8 < x1.toInt := by
    have a0 := lv_neT h1_0 (show (0 : Int32).toInt = 0 from by decide)
    have a1 := lv_neT h1_1 (show (1 : Int32).toInt = 1 from by decide)
    have a2 := lv_neT h1_2 (show (2 : Int32).toInt = 2 from by decide)
    have a3 := lv_neT h1_3 (show (3 : Int32).toInt = 3 from by decide)
    have a4 := lv_neT h1_4 (show (4 : Int32).toInt = 4 from by decide)
    have a5 := lv_neT h1_5 (show (5 : Int32).toInt = 5 from by decide)
    have a6 := lv_neT h1_6 (show (6 : Int32).toInt = 6 from by decide)
    have a7 := lv_neT h1_7 (show (7 : Int32).toInt = 7 from by decide)
    have a8 := lv_neT h1_8 (show (8 : Int32).toInt = 8 from by decide)
    omega
  have hw := hw hd
  refine lv_tableOut (tgt := 127) hx hb d_Md_look_1 hd (by decide) ?_
  refine lv_iconst (v := (-1)) hx hb d_Md_look_127 (by decide) ?_
  exact hret H locs 128 ls (-1 : Int32) (σ, α) d_Md_look_128 hP hD hS (vp_nar_int _) hw
abbrev rm_Md_peek : Room := { frames := 1, cells := 0, slots := 0, locals := 21 }
set_option maxHeartbeats 4000000 in
set_option maxRecDepth 100000 in
theorem c_Md_peek (l : Launch) (D : va_G) (cI cS cZ : ClassId) (ad : Nat → Nat) (σ : Nat → Int32) (α : Nat → Nat → Int32) (x1 : Int32) (x2 : Int32) (post : Int32 → gS → Prop) (hw : wp_Md_peek σ α x1 x2 post) : gMi l y_Md_peek b_Md_peek 4 .short rm_Md_peek D (gT cI cS cZ) (fun u : gS => mW cI cS cZ ad u.1 u.2) [.ref (ad 0), .int x1, .int x2] (σ, α) post := by
  refine gMi.of (by decide) (Nat.le_of_ble_eq_true rfl) ?_
  intro p e s m below meth c Q A hx hb hml hown hts hK hN hA hS hP hD hret ls hl
  have hl : lv_has ls 4 [(0, .ref (ad 0)), (1, .int x1), (2, .int x2)] := hl
  have J20 : ∀ (σ : Nat → Int32) (α : Nat → Nat → Int32) (t0 : Int32) (ls : Array Slot) (H : Heap) (locs : List Loc), lv_has ls 4 [] → va_P D gCl (mW cI cS cZ ad σ α) H → va_D A (mW cI cS cZ ad σ α) → va_S A s.heap H locs → wp_Md_peek_J20 σ α t0 post → W p l e rm_Md_peek s m ([.ref (ad 0), .int x1, .int x2] : List Value).toArray below meth c H locs 0 0 Q (F0 m 20 ls [.int t0]) := by
    intro σ α t0 ls H locs hl hP hD hS hw
    unfold wp_Md_peek_J20 at hw
    obtain ⟨hn, hw⟩ := hw
    exact hret H locs 20 ls t0 (σ, α) d_Md_peek_20 hP hD hS hn hw
  unfold wp_Md_peek at hw
  have hP : va_P D gCl (mW cI cS cZ ad σ α) s.heap := hP
  have hD : va_D A (mW cI cS cZ ad σ α) := hD
  obtain ⟨H, hH⟩ : ∃ H, H = s.heap := ⟨_, rfl⟩
  obtain ⟨locs, hlocs⟩ : ∃ locs : List Loc, locs = [] := ⟨_, rfl⟩
  have hP : va_P D gCl (mW cI cS cZ ad σ α) H := by rw [hH]; exact hP
  have hS : va_S A s.heap H locs := by rw [hH, hlocs]; exact hS
  suffices K : W p l e rm_Md_peek s m ([.ref (ad 0), .int x1, .int x2] : List Value).toArray below meth c H locs 0 0 Q (F0 m 0 ls []) by rw [hH, hlocs] at K; exact K
  clear hH hlocs
  refine lv_iload_n hx hb d_Md_peek_0 rfl (lv_at hl 1 rfl) ?_
  refine lv_iload_n hx hb d_Md_peek_1 rfl (lv_at hl 2 rfl) ?_
  refine gCallSi (As := [.int x1, .int x2]) (rest := []) (c_Md_wordAt l D cI cS cZ ad  σ α x1 x2 _ hw) hx hb hml hown hts hK hN hA hS hP hD (va_cwS 2 hts (gGS tw_689 tw_690 tw_11 tw_691) rfl rfl rfl ⟨by decide, by decide, by decide +kernel⟩ ⟨Nat.le_of_ble_eq_true rfl, Nat.le_of_ble_eq_true rfl⟩) rfl hl.1 rfl (Nat.le_of_ble_eq_true rfl) d_Md_peek_2 (fun r2 u2 H locs hw hP hD hS => ?_)
  have hP : va_P D gCl (mW cI cS cZ ad u2.1 u2.2) H := hP
  have hD : va_D A (mW cI cS cZ ad u2.1 u2.2) := hD
  refine lv_istore_n hx hb d_Md_peek_5 rfl hl (by decide) rfl (fun ls hl => ?_)
  have hl : lv_has ls 4 [(3, .int r2), (0, .ref (ad 0)), (1, .int x1), (2, .int x2)] := hl
  refine lv_iload_n hx hb d_Md_peek_6 rfl (lv_at hl 0 rfl) ?_
  refine lv_if_ge (tgt := 14) hx hb d_Md_peek_7 (by decide) (fun h => ?_) (fun h => ?_)
  · have hw := hw.1 h
    refine lv_aload_n hx hb d_Md_peek_14 rfl (lv_at hl 1 rfl) ?_
    refine va_get (D := D) (ci := 9) (v := .ref (ad 2)) (C := R_Md) (T := T_Md) (N := 47) hx hb hts i_Md hown hK hP 0 rfl rfl 1 (by decide) (hts _ tw_535) (fun _ h9 => h9) rfl d_Md_peek_15 ?_
    refine lv_iload_n hx hb d_Md_peek_18 rfl (lv_at hl 0 rfl) ?_
    obtain ⟨hin, hw⟩ := hw
    refine va_sald (f := u2.2 2) hx hb hK hP 2 1 rfl rfl hin d_Md_peek_19 ?_
    exact J20 u2.1 u2.2 (u2.2 2 r2.toNatClampNeg) ls H locs (lv_sub hl [] rfl) hP hD hS hw
  · have hw := hw.2 h
    refine lv_iconst (v := 0) hx hb d_Md_peek_10 (by decide) ?_
    refine lv_goto (tgt := 20) hx hb d_Md_peek_11 (by decide) ?_
    exact J20 u2.1 u2.2 (0 : Int32) ls H locs (lv_sub hl [] rfl) hP hD hS hw
abbrev rm_Md_read_II : Room := { frames := 1, cells := 0, slots := 0, locals := 21 }
set_option maxHeartbeats 4000000 in
set_option maxRecDepth 100000 in
theorem c_Md_read_II (l : Launch) (D : va_G) (cI cS cZ : ClassId) (ad : Nat → Nat) (σ : Nat → Int32) (α : Nat → Nat → Int32) (x1 : Int32) (x2 : Int32) (post : Int32 → gS → Prop) (hw : wp_Md_read_II σ α x1 x2 post) : gMi l y_Md_read_II b_Md_read_II 3 .int rm_Md_read_II D (gT cI cS cZ) (fun u : gS => mW cI cS cZ ad u.1 u.2) [.ref (ad 0), .int x1, .int x2] (σ, α) post := by
  refine gMi.of (by decide) (Nat.le_of_ble_eq_true rfl) ?_
  intro p e s m below meth c Q A hx hb hml hown hts hK hN hA hS hP hD hret ls hl
  have hl : lv_has ls 3 [(0, .ref (ad 0)), (1, .int x1), (2, .int x2)] := hl
  have J23 : ∀ (σ : Nat → Int32) (α : Nat → Nat → Int32) (t0 : Int32) (ls : Array Slot) (H : Heap) (locs : List Loc), lv_has ls 3 [] → va_P D gCl (mW cI cS cZ ad σ α) H → va_D A (mW cI cS cZ ad σ α) → va_S A s.heap H locs → wp_Md_read_II_J23 σ α t0 post → W p l e rm_Md_read_II s m ([.ref (ad 0), .int x1, .int x2] : List Value).toArray below meth c H locs 0 0 Q (F0 m 23 ls [.int t0]) := by
    intro σ α t0 ls H locs hl hP hD hS hw
    unfold wp_Md_read_II_J23 at hw
    exact hret H locs 23 ls t0 (σ, α) d_Md_read_II_23 hP hD hS (vp_nar_int _) hw
  unfold wp_Md_read_II at hw
  have hP : va_P D gCl (mW cI cS cZ ad σ α) s.heap := hP
  have hD : va_D A (mW cI cS cZ ad σ α) := hD
  obtain ⟨H, hH⟩ : ∃ H, H = s.heap := ⟨_, rfl⟩
  obtain ⟨locs, hlocs⟩ : ∃ locs : List Loc, locs = [] := ⟨_, rfl⟩
  have hP : va_P D gCl (mW cI cS cZ ad σ α) H := by rw [hH]; exact hP
  have hS : va_S A s.heap H locs := by rw [hH, hlocs]; exact hS
  suffices K : W p l e rm_Md_read_II s m ([.ref (ad 0), .int x1, .int x2] : List Value).toArray below meth c H locs 0 0 Q (F0 m 0 ls []) by rw [hH, hlocs] at K; exact K
  clear hH hlocs
  refine lv_iload_n hx hb d_Md_read_II_0 rfl (lv_at hl 1 rfl) ?_
  refine lv_iload_n hx hb d_Md_read_II_1 rfl (lv_at hl 2 rfl) ?_
  refine gCallSi (As := [.int x1, .int x2]) (rest := []) (c_Md_isOrder l D cI cS cZ ad  σ α x1 x2 _ hw) hx hb hml hown hts hK hN hA hS hP hD (va_cwS 2 hts (gGS tw_681 tw_682 tw_11 tw_683) rfl rfl rfl ⟨by decide, by decide, by decide +kernel⟩ ⟨Nat.le_of_ble_eq_true rfl, Nat.le_of_ble_eq_true rfl⟩) rfl hl.1 rfl (Nat.le_of_ble_eq_true rfl) d_Md_read_II_2 (fun r2 u2 H locs hw hP hD hS => ?_)
  have hP : va_P D gCl (mW cI cS cZ ad u2.1 u2.2) H := hP
  have hD : va_D A (mW cI cS cZ ad u2.1 u2.2) := hD
  refine lv_if_eq (tgt := 22) hx hb d_Md_read_II_5 (by decide) (fun h => ?_) (fun h => ?_)
  · have hw := hw.1 h
    refine lv_iconst (v := (-1)) hx hb d_Md_read_II_22 (by decide) ?_
    exact J23 u2.1 u2.2 (-1 : Int32) ls H locs (lv_sub hl [] rfl) hP hD hS hw
  · have hw := hw.2 h
    refine lv_aload_n hx hb d_Md_read_II_8 rfl (lv_at hl 0 rfl) ?_
    refine va_get (D := D) (ci := 9) (v := .ref (ad 1)) (C := R_Md) (T := T_Md) (N := 47) hx hb hts i_Md hown hK hP 0 rfl rfl 0 (by decide) (hts _ tw_534) (fun _ h9 => h9) rfl d_Md_read_II_9 ?_
    refine lv_bipush (v := 32) hx hb d_Md_read_II_12 (by decide) ?_
    refine lv_iload_n hx hb d_Md_read_II_14 rfl (lv_at hl 1 rfl) ?_
    refine lv_imul hx hb d_Md_read_II_15 ?_
    refine lv_iload_n hx hb d_Md_read_II_16 rfl (lv_at hl 2 rfl) ?_
    refine lv_iadd hx hb d_Md_read_II_17 ?_
    obtain ⟨hin, hw⟩ := hw
    refine va_iald (f := u2.2 1) hx hb hK hP 1 0 rfl rfl hin d_Md_read_II_18 ?_
    refine lv_goto (tgt := 23) hx hb d_Md_read_II_19 (by decide) ?_
    exact J23 u2.1 u2.2 (u2.2 1 (((32 : Int32) * x1) + x2).toNatClampNeg) ls H locs (lv_sub hl [] rfl) hP hD hS hw
abbrev rm_Md_punched : Room := { frames := 0, cells := 0, slots := 0, locals := 0 }
set_option maxHeartbeats 4000000 in
set_option maxRecDepth 100000 in
theorem c_Md_punched (l : Launch) (D : va_G) (cI cS cZ : ClassId) (ad : Nat → Nat) (σ : Nat → Int32) (α : Nat → Nat → Int32) (x1 : Int32) (post : Int32 → gS → Prop) (hw : wp_Md_punched σ α x1 post) : gMi l y_Md_punched b_Md_punched 2 .short rm_Md_punched D (gT cI cS cZ) (fun u : gS => mW cI cS cZ ad u.1 u.2) [.ref (ad 0), .int x1] (σ, α) post := by
  refine gMi.of (by decide) (Nat.le_of_ble_eq_true rfl) ?_
  intro p e s m below meth c Q A hx hb hml hown hts hK hN hA hS hP hD hret ls hl
  have hl : lv_has ls 2 [(0, .ref (ad 0)), (1, .int x1)] := hl
  have J22 : ∀ (σ : Nat → Int32) (α : Nat → Nat → Int32) (t0 : Int32) (ls : Array Slot) (H : Heap) (locs : List Loc), lv_has ls 2 [] → va_P D gCl (mW cI cS cZ ad σ α) H → va_D A (mW cI cS cZ ad σ α) → va_S A s.heap H locs → wp_Md_punched_J22 σ α t0 post → W p l e rm_Md_punched s m ([.ref (ad 0), .int x1] : List Value).toArray below meth c H locs 0 0 Q (F0 m 22 ls [.int t0]) := by
    intro σ α t0 ls H locs hl hP hD hS hw
    unfold wp_Md_punched_J22 at hw
    obtain ⟨hn, hw⟩ := hw
    exact hret H locs 22 ls t0 (σ, α) d_Md_punched_22 hP hD hS hn hw
  have J12 : ∀ (σ : Nat → Int32) (α : Nat → Nat → Int32) (ls : Array Slot) (H : Heap) (locs : List Loc), lv_has ls 2 [] → va_P D gCl (mW cI cS cZ ad σ α) H → va_D A (mW cI cS cZ ad σ α) → va_S A s.heap H locs → wp_Md_punched_J12 σ α post → W p l e rm_Md_punched s m ([.ref (ad 0), .int x1] : List Value).toArray below meth c H locs 0 0 Q (F0 m 12 ls []) := by
    intro σ α ls H locs hl hP hD hS hw
    unfold wp_Md_punched_J12 at hw
    refine lv_iconst (v := 0) hx hb d_Md_punched_12 (by decide) ?_
    refine lv_goto (tgt := 22) hx hb d_Md_punched_13 (by decide) ?_
    exact J22 σ α (0 : Int32) ls H locs (lv_sub hl [] rfl) hP hD hS hw
  unfold wp_Md_punched at hw
  have hP : va_P D gCl (mW cI cS cZ ad σ α) s.heap := hP
  have hD : va_D A (mW cI cS cZ ad σ α) := hD
  obtain ⟨H, hH⟩ : ∃ H, H = s.heap := ⟨_, rfl⟩
  obtain ⟨locs, hlocs⟩ : ∃ locs : List Loc, locs = [] := ⟨_, rfl⟩
  have hP : va_P D gCl (mW cI cS cZ ad σ α) H := by rw [hH]; exact hP
  have hS : va_S A s.heap H locs := by rw [hH, hlocs]; exact hS
  suffices K : W p l e rm_Md_punched s m ([.ref (ad 0), .int x1] : List Value).toArray below meth c H locs 0 0 Q (F0 m 0 ls []) by rw [hH, hlocs] at K; exact K
  clear hH hlocs
  refine lv_iload_n hx hb d_Md_punched_0 rfl (lv_at hl 1 rfl) ?_
  refine lv_if_lt (tgt := 12) hx hb d_Md_punched_1 (by decide) (fun h => ?_) (fun h => ?_)
  · have hw := hw.1 h
    exact J12 σ α ls H locs (lv_sub hl [] rfl) hP hD hS hw
  · have hw := hw.2 h
    refine lv_iload_n hx hb d_Md_punched_4 rfl (lv_at hl 1 rfl) ?_
    refine lv_aload_n hx hb d_Md_punched_5 rfl (lv_at hl 0 rfl) ?_
    refine va_get (D := D) (ci := 9) (v := .int (σ 21)) (C := R_Md) (T := T_Md) (N := 47) hx hb hts i_Md hown hK hP 0 rfl rfl 25 (by decide) (hts _ tw_559) (fun _ h9 => h9) rfl d_Md_punched_6 ?_
    refine lv_icmp_lt (tgt := 16) hx hb d_Md_punched_9 (by decide) (fun h => ?_) (fun h => ?_)
    · have hw := hw.1 h
      refine lv_aload_n hx hb d_Md_punched_16 rfl (lv_at hl 0 rfl) ?_
      refine va_get (D := D) (ci := 9) (v := .ref (ad 5)) (C := R_Md) (T := T_Md) (N := 47) hx hb hts i_Md hown hK hP 0 rfl rfl 26 (by decide) (hts _ tw_560) (fun _ h9 => h9) rfl d_Md_punched_17 ?_
      refine lv_iload_n hx hb d_Md_punched_20 rfl (lv_at hl 1 rfl) ?_
      obtain ⟨hin, hw⟩ := hw
      refine va_sald (f := α 5) hx hb hK hP 5 1 rfl rfl hin d_Md_punched_21 ?_
      exact J22 σ α (α 5 x1.toNatClampNeg) ls H locs (lv_sub hl [] rfl) hP hD hS hw
    · have hw := hw.2 h
      exact J12 σ α ls H locs (lv_sub hl [] rfl) hP hD hS hw
abbrev rm_Md_isVariable : Room := { frames := 0, cells := 0, slots := 0, locals := 0 }
set_option maxHeartbeats 4000000 in
set_option maxRecDepth 100000 in
theorem c_Md_isVariable (l : Launch) (D : va_G) (cI cS cZ : ClassId) (ad : Nat → Nat) (σ : Nat → Int32) (α : Nat → Nat → Int32) (x0 : Int32) (post : Int32 → gS → Prop) (hw : wp_Md_isVariable σ α x0 post) : gMi l y_Md_isVariable b_Md_isVariable 1 .boolean rm_Md_isVariable D (gT cI cS cZ) (fun u : gS => mW cI cS cZ ad u.1 u.2) [.int x0] (σ, α) post := by
  refine gMi.of (by decide) (Nat.le_of_ble_eq_true rfl) ?_
  intro p e s m below meth c Q A hx hb hml hown hts hK hN hA hS hP hD hret ls hl
  have hl : lv_has ls 1 [(0, .int x0)] := hl
  have J15 : ∀ (σ : Nat → Int32) (α : Nat → Nat → Int32) (t0 : Int32) (ls : Array Slot) (H : Heap) (locs : List Loc), lv_has ls 1 [] → va_P D gCl (mW cI cS cZ ad σ α) H → va_D A (mW cI cS cZ ad σ α) → va_S A s.heap H locs → wp_Md_isVariable_J15 σ α t0 post → W p l e rm_Md_isVariable s m ([.int x0] : List Value).toArray below meth c H locs 0 0 Q (F0 m 15 ls [.int t0]) := by
    intro σ α t0 ls H locs hl hP hD hS hw
    unfold wp_Md_isVariable_J15 at hw
    obtain ⟨hn, hw⟩ := hw
    exact hret H locs 15 ls t0 (σ, α) d_Md_isVariable_15 hP hD hS hn hw
  have J14 : ∀ (σ : Nat → Int32) (α : Nat → Nat → Int32) (ls : Array Slot) (H : Heap) (locs : List Loc), lv_has ls 1 [] → va_P D gCl (mW cI cS cZ ad σ α) H → va_D A (mW cI cS cZ ad σ α) → va_S A s.heap H locs → wp_Md_isVariable_J14 σ α post → W p l e rm_Md_isVariable s m ([.int x0] : List Value).toArray below meth c H locs 0 0 Q (F0 m 14 ls []) := by
    intro σ α ls H locs hl hP hD hS hw
    unfold wp_Md_isVariable_J14 at hw
    refine lv_iconst (v := 0) hx hb d_Md_isVariable_14 (by decide) ?_
    exact J15 σ α (0 : Int32) ls H locs (lv_sub hl [] rfl) hP hD hS hw
  unfold wp_Md_isVariable at hw
  have hP : va_P D gCl (mW cI cS cZ ad σ α) s.heap := hP
  have hD : va_D A (mW cI cS cZ ad σ α) := hD
  obtain ⟨H, hH⟩ : ∃ H, H = s.heap := ⟨_, rfl⟩
  obtain ⟨locs, hlocs⟩ : ∃ locs : List Loc, locs = [] := ⟨_, rfl⟩
  have hP : va_P D gCl (mW cI cS cZ ad σ α) H := by rw [hH]; exact hP
  have hS : va_S A s.heap H locs := by rw [hH, hlocs]; exact hS
  suffices K : W p l e rm_Md_isVariable s m ([.int x0] : List Value).toArray below meth c H locs 0 0 Q (F0 m 0 ls []) by rw [hH, hlocs] at K; exact K
  clear hH hlocs
  refine lv_iload_n hx hb d_Md_isVariable_0 rfl (lv_at hl 0 rfl) ?_
  refine lv_if_lt (tgt := 14) hx hb d_Md_isVariable_1 (by decide) (fun h => ?_) (fun h => ?_)
  · have hw := hw.1 h
    exact J14 σ α ls H locs (lv_sub hl [] rfl) hP hD hS hw
  · have hw := hw.2 h
    refine lv_iload_n hx hb d_Md_isVariable_4 rfl (lv_at hl 0 rfl) ?_
    refine lv_bipush (v := 16) hx hb d_Md_isVariable_5 (by decide) ?_
    refine lv_icmp_ge (tgt := 14) hx hb d_Md_isVariable_7 (by decide) (fun h => ?_) (fun h => ?_)
    · have hw := hw.1 h
      exact J14 σ α ls H locs (lv_sub hl [] rfl) hP hD hS hw
    · have hw := hw.2 h
      refine lv_iconst (v := 1) hx hb d_Md_isVariable_10 (by decide) ?_
      refine lv_goto (tgt := 15) hx hb d_Md_isVariable_11 (by decide) ?_
      exact J15 σ α (1 : Int32) ls H locs (lv_sub hl [] rfl) hP hD hS hw
abbrev rm_Md_statement : Room := { frames := 1, cells := 0, slots := 0, locals := 20 }
set_option maxHeartbeats 4000000 in
set_option maxRecDepth 100000 in
theorem c_Md_statement (l : Launch) (D : va_G) (cI cS cZ : ClassId) (ad : Nat → Nat) (σ : Nat → Int32) (α : Nat → Nat → Int32) (x1 : Int32) (x2 : Int32) (x3 : Int32) (x4 : Int32) (x5 : Int32) (post : Int32 → gS → Prop) (hw : wp_Md_statement σ α x1 x2 x3 x4 x5 post) : gMi l y_Md_statement b_Md_statement 7 .int rm_Md_statement D (gT cI cS cZ) (fun u : gS => mW cI cS cZ ad u.1 u.2) [.ref (ad 0), .int x1, .int x2, .int x3, .int x4, .int x5] (σ, α) post := by
  refine gMi.of (by decide) (Nat.le_of_ble_eq_true rfl) ?_
  intro p e s m below meth c Q A hx hb hml hown hts hK hN hA hS hP hD hret ls hl
  have hl : lv_has ls 7 [(0, .ref (ad 0)), (1, .int x1), (2, .int x2), (3, .int x3), (4, .int x4), (5, .int x5)] := hl
  have J70 : ∀ (σ : Nat → Int32) (α : Nat → Nat → Int32) (ls : Array Slot) (H : Heap) (locs : List Loc), lv_has ls 7 [] → va_P D gCl (mW cI cS cZ ad σ α) H → va_D A (mW cI cS cZ ad σ α) → va_S A s.heap H locs → wp_Md_statement_J70 σ α post → W p l e rm_Md_statement s m ([.ref (ad 0), .int x1, .int x2, .int x3, .int x4, .int x5] : List Value).toArray below meth c H locs 0 0 Q (F0 m 70 ls []) := by
    intro σ α ls H locs hl hP hD hS hw
    unfold wp_Md_statement_J70 at hw
    refine lv_iconst (v := (-1)) hx hb d_Md_statement_70 (by decide) ?_
    exact hret H locs 71 ls (-1 : Int32) (σ, α) d_Md_statement_71 hP hD hS (vp_nar_int _) hw
  have J54 : ∀ (σ : Nat → Int32) (α : Nat → Nat → Int32) (a1 : Int32) (a2 : Int32) (a3 : Int32) (a4 : Int32) (a5 : Int32) (t0 : Int32) (ls : Array Slot) (H : Heap) (locs : List Loc), lv_has ls 7 [(0, .ref (ad 0)), (1, .int a1), (2, .int a2), (3, .int a3), (4, .int a4), (5, .int a5)] → va_P D gCl (mW cI cS cZ ad σ α) H → va_D A (mW cI cS cZ ad σ α) → va_S A s.heap H locs → wp_Md_statement_J54 σ α a1 a2 a3 a4 a5 t0 post → W p l e rm_Md_statement s m ([.ref (ad 0), .int x1, .int x2, .int x3, .int x4, .int x5] : List Value).toArray below meth c H locs 0 0 Q (F0 m 54 ls [.int t0]) := by
    intro σ α a1 a2 a3 a4 a5 t0 ls H locs hl hP hD hS hw
    unfold wp_Md_statement_J54 at hw
    refine lv_istore hx hb d_Md_statement_54 hl (by decide) rfl (fun ls hl => ?_)
    have hl : lv_has ls 7 [(6, .int t0), (0, .ref (ad 0)), (1, .int a1), (2, .int a2), (3, .int a3), (4, .int a4), (5, .int a5)] := hl
    refine lv_aload_n hx hb d_Md_statement_56 rfl (lv_at hl 1 rfl) ?_
    refine va_get (D := D) (ci := 9) (v := .int (σ 23)) (C := R_Md) (T := T_Md) (N := 47) hx hb hts i_Md hown hK hP 0 rfl rfl 28 (by decide) (hts _ tw_562) (fun _ h9 => h9) rfl d_Md_statement_57 ?_
    refine lv_bipush (v := 12) hx hb d_Md_statement_60 (by decide) ?_
    refine lv_icmp_eq (tgt := 70) hx hb d_Md_statement_62 (by decide) (fun h => ?_) (fun h => ?_)
    · have hw := hw.1 h
      exact J70 σ α ls H locs (lv_sub hl [] rfl) hP hD hS hw
    · have hw := hw.2 h
      refine lv_iload hx hb d_Md_statement_65 (lv_at hl 0 rfl) ?_
      refine lv_if_ne (tgt := 72) hx hb d_Md_statement_67 (by decide) (fun h => ?_) (fun h => ?_)
      · have hw := hw.1 h
        refine lv_aload_n hx hb d_Md_statement_72 rfl (lv_at hl 1 rfl) ?_
        refine va_get (D := D) (ci := 9) (v := .ref (ad 6)) (C := R_Md) (T := T_Md) (N := 47) hx hb hts i_Md hown hK hP 0 rfl rfl 29 (by decide) (hts _ tw_563) (fun _ h9 => h9) rfl d_Md_statement_73 ?_
        refine lv_aload_n hx hb d_Md_statement_76 rfl (lv_at hl 1 rfl) ?_
        refine va_get (D := D) (ci := 9) (v := .int (σ 23)) (C := R_Md) (T := T_Md) (N := 47) hx hb hts i_Md hown hK hP 0 rfl rfl 28 (by decide) (hts _ tw_562) (fun _ h9 => h9) rfl d_Md_statement_77 ?_
        refine lv_iload_n hx hb d_Md_statement_80 rfl (lv_at hl 2 rfl) ?_
        obtain ⟨hin, hw⟩ := hw
        refine va_iast (f := α 6) (i := σ 23) (x := a1) hx hb hK hP hD hS 6 0 rfl rfl hin d_Md_statement_81 (fun H locs hP hD hS => ?_)
        rw [mW_s6] at hP hD
        have hP : va_P D gCl (mW cI cS cZ ad σ (va_up α 6 (upd (α 6) (σ 23).toNatClampNeg a1))) H := hP
        have hD : va_D A (mW cI cS cZ ad σ (va_up α 6 (upd (α 6) (σ 23).toNatClampNeg a1))) := hD
        refine lv_aload_n hx hb d_Md_statement_82 rfl (lv_at hl 1 rfl) ?_
        refine va_get (D := D) (ci := 9) (v := .ref (ad 7)) (C := R_Md) (T := T_Md) (N := 47) hx hb hts i_Md hown hK hP 0 rfl rfl 30 (by decide) (hts _ tw_564) (fun _ h9 => h9) rfl d_Md_statement_83 ?_
        refine lv_aload_n hx hb d_Md_statement_86 rfl (lv_at hl 1 rfl) ?_
        refine va_get (D := D) (ci := 9) (v := .int (σ 23)) (C := R_Md) (T := T_Md) (N := 47) hx hb hts i_Md hown hK hP 0 rfl rfl 28 (by decide) (hts _ tw_562) (fun _ h9 => h9) rfl d_Md_statement_87 ?_
        refine lv_iload_n hx hb d_Md_statement_90 rfl (lv_at hl 3 rfl) ?_
        obtain ⟨hin, hw⟩ := hw
        refine va_iast (f := α 7) (i := σ 23) (x := a2) hx hb hK hP hD hS 7 0 rfl rfl hin d_Md_statement_91 (fun H locs hP hD hS => ?_)
        rw [mW_s7] at hP hD
        have hP : va_P D gCl (mW cI cS cZ ad σ (va_up (va_up α 6 (upd (α 6) (σ 23).toNatClampNeg a1)) 7 (upd (α 7) (σ 23).toNatClampNeg a2))) H := hP
        have hD : va_D A (mW cI cS cZ ad σ (va_up (va_up α 6 (upd (α 6) (σ 23).toNatClampNeg a1)) 7 (upd (α 7) (σ 23).toNatClampNeg a2))) := hD
        refine lv_aload_n hx hb d_Md_statement_92 rfl (lv_at hl 1 rfl) ?_
        refine va_get (D := D) (ci := 9) (v := .ref (ad 8)) (C := R_Md) (T := T_Md) (N := 47) hx hb hts i_Md hown hK hP 0 rfl rfl 31 (by decide) (hts _ tw_565) (fun _ h9 => h9) rfl d_Md_statement_93 ?_
        refine lv_aload_n hx hb d_Md_statement_96 rfl (lv_at hl 1 rfl) ?_
        refine va_get (D := D) (ci := 9) (v := .int (σ 23)) (C := R_Md) (T := T_Md) (N := 47) hx hb hts i_Md hown hK hP 0 rfl rfl 28 (by decide) (hts _ tw_562) (fun _ h9 => h9) rfl d_Md_statement_97 ?_
        refine lv_iload_n hx hb d_Md_statement_100 rfl (lv_at hl 4 rfl) ?_
        obtain ⟨hin, hw⟩ := hw
        refine va_iast (f := α 8) (i := σ 23) (x := a3) hx hb hK hP hD hS 8 0 rfl rfl hin d_Md_statement_101 (fun H locs hP hD hS => ?_)
        rw [mW_s8] at hP hD
        have hP : va_P D gCl (mW cI cS cZ ad σ (va_up (va_up (va_up α 6 (upd (α 6) (σ 23).toNatClampNeg a1)) 7 (upd (α 7) (σ 23).toNatClampNeg a2)) 8 (upd (α 8) (σ 23).toNatClampNeg a3))) H := hP
        have hD : va_D A (mW cI cS cZ ad σ (va_up (va_up (va_up α 6 (upd (α 6) (σ 23).toNatClampNeg a1)) 7 (upd (α 7) (σ 23).toNatClampNeg a2)) 8 (upd (α 8) (σ 23).toNatClampNeg a3))) := hD
        refine lv_aload_n hx hb d_Md_statement_102 rfl (lv_at hl 1 rfl) ?_
        refine va_get (D := D) (ci := 9) (v := .ref (ad 9)) (C := R_Md) (T := T_Md) (N := 47) hx hb hts i_Md hown hK hP 0 rfl rfl 32 (by decide) (hts _ tw_566) (fun _ h9 => h9) rfl d_Md_statement_103 ?_
        refine lv_aload_n hx hb d_Md_statement_106 rfl (lv_at hl 1 rfl) ?_
        refine va_get (D := D) (ci := 9) (v := .int (σ 23)) (C := R_Md) (T := T_Md) (N := 47) hx hb hts i_Md hown hK hP 0 rfl rfl 28 (by decide) (hts _ tw_562) (fun _ h9 => h9) rfl d_Md_statement_107 ?_
        refine lv_iload hx hb d_Md_statement_110 (lv_at hl 5 rfl) ?_
        obtain ⟨hin, hw⟩ := hw
        refine va_iast (f := α 9) (i := σ 23) (x := a4) hx hb hK hP hD hS 9 0 rfl rfl hin d_Md_statement_112 (fun H locs hP hD hS => ?_)
        rw [mW_s9] at hP hD
        have hP : va_P D gCl (mW cI cS cZ ad σ (va_up (va_up (va_up (va_up α 6 (upd (α 6) (σ 23).toNatClampNeg a1)) 7 (upd (α 7) (σ 23).toNatClampNeg a2)) 8 (upd (α 8) (σ 23).toNatClampNeg a3)) 9 (upd (α 9) (σ 23).toNatClampNeg a4))) H := hP
        have hD : va_D A (mW cI cS cZ ad σ (va_up (va_up (va_up (va_up α 6 (upd (α 6) (σ 23).toNatClampNeg a1)) 7 (upd (α 7) (σ 23).toNatClampNeg a2)) 8 (upd (α 8) (σ 23).toNatClampNeg a3)) 9 (upd (α 9) (σ 23).toNatClampNeg a4))) := hD
        refine lv_aload_n hx hb d_Md_statement_113 rfl (lv_at hl 1 rfl) ?_
        refine va_get (D := D) (ci := 9) (v := .ref (ad 10)) (C := R_Md) (T := T_Md) (N := 47) hx hb hts i_Md hown hK hP 0 rfl rfl 33 (by decide) (hts _ tw_567) (fun _ h9 => h9) rfl d_Md_statement_114 ?_
        refine lv_aload_n hx hb d_Md_statement_117 rfl (lv_at hl 1 rfl) ?_
        refine va_get (D := D) (ci := 9) (v := .int (σ 23)) (C := R_Md) (T := T_Md) (N := 47) hx hb hts i_Md hown hK hP 0 rfl rfl 28 (by decide) (hts _ tw_562) (fun _ h9 => h9) rfl d_Md_statement_118 ?_
        refine lv_iload hx hb d_Md_statement_121 (lv_at hl 6 rfl) ?_
        obtain ⟨hin, hw⟩ := hw
        refine va_iast (f := α 10) (i := σ 23) (x := a5) hx hb hK hP hD hS 10 0 rfl rfl hin d_Md_statement_123 (fun H locs hP hD hS => ?_)
        rw [mW_s10] at hP hD
        have hP : va_P D gCl (mW cI cS cZ ad σ (va_up (va_up (va_up (va_up (va_up α 6 (upd (α 6) (σ 23).toNatClampNeg a1)) 7 (upd (α 7) (σ 23).toNatClampNeg a2)) 8 (upd (α 8) (σ 23).toNatClampNeg a3)) 9 (upd (α 9) (σ 23).toNatClampNeg a4)) 10 (upd (α 10) (σ 23).toNatClampNeg a5))) H := hP
        have hD : va_D A (mW cI cS cZ ad σ (va_up (va_up (va_up (va_up (va_up α 6 (upd (α 6) (σ 23).toNatClampNeg a1)) 7 (upd (α 7) (σ 23).toNatClampNeg a2)) 8 (upd (α 8) (σ 23).toNatClampNeg a3)) 9 (upd (α 9) (σ 23).toNatClampNeg a4)) 10 (upd (α 10) (σ 23).toNatClampNeg a5))) := hD
        refine lv_aload_n hx hb d_Md_statement_124 rfl (lv_at hl 1 rfl) ?_
        refine lv_dup hx hb d_Md_statement_125 rfl ?_
        refine va_get (D := D) (ci := 9) (v := .int (σ 23)) (C := R_Md) (T := T_Md) (N := 47) hx hb hts i_Md hown hK hP 0 rfl rfl 28 (by decide) (hts _ tw_562) (fun _ h9 => h9) rfl d_Md_statement_126 ?_
        refine lv_iconst (v := 1) hx hb d_Md_statement_129 (by decide) ?_
        refine lv_iadd hx hb d_Md_statement_130 ?_
        refine va_put (D := D) (ci := 9) (v := .int ((σ 23) + (1 : Int32))) (ty := .int) (C := R_Md) (T := T_Md) (N := 47) hx hb hts i_Md t_Md o_Md n_Md hown hK hP hD hS 0 rfl rfl 28 (by decide) (hts _ tw_562) (fun _ h9 => h9) rfl (by decide +kernel) rfl rfl (Nat.le_of_ble_eq_true rfl) d_Md_statement_131 (fun H locs hP hD hS => ?_)
        have hP : va_P D gCl (mW cI cS cZ ad (va_up σ 23 ((σ 23) + (1 : Int32))) (va_up (va_up (va_up (va_up (va_up α 6 (upd (α 6) (σ 23).toNatClampNeg a1)) 7 (upd (α 7) (σ 23).toNatClampNeg a2)) 8 (upd (α 8) (σ 23).toNatClampNeg a3)) 9 (upd (α 9) (σ 23).toNatClampNeg a4)) 10 (upd (α 10) (σ 23).toNatClampNeg a5))) H := hP
        have hD : va_D A (mW cI cS cZ ad (va_up σ 23 ((σ 23) + (1 : Int32))) (va_up (va_up (va_up (va_up (va_up α 6 (upd (α 6) (σ 23).toNatClampNeg a1)) 7 (upd (α 7) (σ 23).toNatClampNeg a2)) 8 (upd (α 8) (σ 23).toNatClampNeg a3)) 9 (upd (α 9) (σ 23).toNatClampNeg a4)) 10 (upd (α 10) (σ 23).toNatClampNeg a5))) := hD
        refine lv_aload_n hx hb d_Md_statement_134 rfl (lv_at hl 1 rfl) ?_
        refine va_get (D := D) (ci := 9) (v := .int ((σ 23) + (1 : Int32))) (C := R_Md) (T := T_Md) (N := 47) hx hb hts i_Md hown hK hP 0 rfl rfl 28 (by decide) (hts _ tw_562) (fun _ h9 => h9) rfl d_Md_statement_135 ?_
        refine lv_iconst (v := 1) hx hb d_Md_statement_138 (by decide) ?_
        refine lv_isub hx hb d_Md_statement_139 ?_
        exact hret H locs 140 ls (((σ 23) + (1 : Int32)) - (1 : Int32)) ((va_up σ 23 ((σ 23) + (1 : Int32))), (va_up (va_up (va_up (va_up (va_up α 6 (upd (α 6) (σ 23).toNatClampNeg a1)) 7 (upd (α 7) (σ 23).toNatClampNeg a2)) 8 (upd (α 8) (σ 23).toNatClampNeg a3)) 9 (upd (α 9) (σ 23).toNatClampNeg a4)) 10 (upd (α 10) (σ 23).toNatClampNeg a5))) d_Md_statement_140 hP hD hS (vp_nar_int _) hw
      · have hw := hw.2 h
        exact J70 σ α ls H locs (lv_sub hl [] rfl) hP hD hS hw
  have J53 : ∀ (σ : Nat → Int32) (α : Nat → Nat → Int32) (a1 : Int32) (a2 : Int32) (a3 : Int32) (a4 : Int32) (a5 : Int32) (ls : Array Slot) (H : Heap) (locs : List Loc), lv_has ls 7 [(0, .ref (ad 0)), (1, .int a1), (2, .int a2), (3, .int a3), (4, .int a4), (5, .int a5)] → va_P D gCl (mW cI cS cZ ad σ α) H → va_D A (mW cI cS cZ ad σ α) → va_S A s.heap H locs → wp_Md_statement_J53 σ α a1 a2 a3 a4 a5 post → W p l e rm_Md_statement s m ([.ref (ad 0), .int x1, .int x2, .int x3, .int x4, .int x5] : List Value).toArray below meth c H locs 0 0 Q (F0 m 53 ls []) := by
    intro σ α a1 a2 a3 a4 a5 ls H locs hl hP hD hS hw
    unfold wp_Md_statement_J53 at hw
    refine lv_iconst (v := 0) hx hb d_Md_statement_53 (by decide) ?_
    exact J54 σ α a1 a2 a3 a4 a5 (0 : Int32) ls H locs (lv_sub hl [0, 1, 2, 3, 4, 5] rfl) hP hD hS hw
  have J49 : ∀ (σ : Nat → Int32) (α : Nat → Nat → Int32) (a1 : Int32) (a2 : Int32) (a3 : Int32) (a4 : Int32) (a5 : Int32) (ls : Array Slot) (H : Heap) (locs : List Loc), lv_has ls 7 [(0, .ref (ad 0)), (1, .int a1), (2, .int a2), (3, .int a3), (4, .int a4), (5, .int a5)] → va_P D gCl (mW cI cS cZ ad σ α) H → va_D A (mW cI cS cZ ad σ α) → va_S A s.heap H locs → wp_Md_statement_J49 σ α a1 a2 a3 a4 a5 post → W p l e rm_Md_statement s m ([.ref (ad 0), .int x1, .int x2, .int x3, .int x4, .int x5] : List Value).toArray below meth c H locs 0 0 Q (F0 m 49 ls []) := by
    intro σ α a1 a2 a3 a4 a5 ls H locs hl hP hD hS hw
    unfold wp_Md_statement_J49 at hw
    refine lv_iconst (v := 1) hx hb d_Md_statement_49 (by decide) ?_
    refine lv_goto (tgt := 54) hx hb d_Md_statement_50 (by decide) ?_
    exact J54 σ α a1 a2 a3 a4 a5 (1 : Int32) ls H locs (lv_sub hl [0, 1, 2, 3, 4, 5] rfl) hP hD hS hw
  unfold wp_Md_statement at hw
  have hP : va_P D gCl (mW cI cS cZ ad σ α) s.heap := hP
  have hD : va_D A (mW cI cS cZ ad σ α) := hD
  obtain ⟨H, hH⟩ : ∃ H, H = s.heap := ⟨_, rfl⟩
  obtain ⟨locs, hlocs⟩ : ∃ locs : List Loc, locs = [] := ⟨_, rfl⟩
  have hP : va_P D gCl (mW cI cS cZ ad σ α) H := by rw [hH]; exact hP
  have hS : va_S A s.heap H locs := by rw [hH, hlocs]; exact hS
  suffices K : W p l e rm_Md_statement s m ([.ref (ad 0), .int x1, .int x2, .int x3, .int x4, .int x5] : List Value).toArray below meth c H locs 0 0 Q (F0 m 0 ls []) by rw [hH, hlocs] at K; exact K
  clear hH hlocs
  refine lv_iload_n hx hb d_Md_statement_0 rfl (lv_at hl 1 rfl) ?_
  refine lv_if_lt (tgt := 53) hx hb d_Md_statement_1 (by decide) (fun h => ?_) (fun h => ?_)
  · have hw := hw.1 h
    exact J53 σ α x1 x2 x3 x4 x5 ls H locs (lv_sub hl [0, 1, 2, 3, 4, 5] rfl) hP hD hS hw
  · have hw := hw.2 h
    refine lv_iload_n hx hb d_Md_statement_4 rfl (lv_at hl 1 rfl) ?_
    refine lv_bipush (v := 6) hx hb d_Md_statement_5 (by decide) ?_
    refine lv_icmp_gt (tgt := 53) hx hb d_Md_statement_7 (by decide) (fun h => ?_) (fun h => ?_)
    · have hw := hw.1 h
      exact J53 σ α x1 x2 x3 x4 x5 ls H locs (lv_sub hl [0, 1, 2, 3, 4, 5] rfl) hP hD hS hw
    · have hw := hw.2 h
      refine lv_iload_n hx hb d_Md_statement_10 rfl (lv_at hl 2 rfl) ?_
      refine gCallSi (As := [.int x2]) (rest := []) (c_Md_isVariable l D cI cS cZ ad  σ α x2 _ hw) hx hb hml hown hts hK hN hA hS hP hD (va_cwS 1 hts (gGS tw_775 tw_776 tw_11 tw_777) rfl rfl rfl ⟨by decide, by decide, by decide +kernel⟩ ⟨Nat.le_of_ble_eq_true rfl, Nat.le_of_ble_eq_true rfl⟩) rfl hl.1 rfl (Nat.le_of_ble_eq_true rfl) d_Md_statement_11 (fun r11 u11 H locs hw hP hD hS => ?_)
      have hP : va_P D gCl (mW cI cS cZ ad u11.1 u11.2) H := hP
      have hD : va_D A (mW cI cS cZ ad u11.1 u11.2) := hD
      refine lv_if_eq (tgt := 53) hx hb d_Md_statement_14 (by decide) (fun h => ?_) (fun h => ?_)
      · have hw := hw.1 h
        exact J53 u11.1 u11.2 x1 x2 x3 x4 x5 ls H locs (lv_sub hl [0, 1, 2, 3, 4, 5] rfl) hP hD hS hw
      · have hw := hw.2 h
        refine lv_iload_n hx hb d_Md_statement_17 rfl (lv_at hl 3 rfl) ?_
        refine gCallSi (As := [.int x3]) (rest := []) (c_Md_isVariable l D cI cS cZ ad  u11.1 u11.2 x3 _ hw) hx hb hml hown hts hK hN hA hS hP hD (va_cwS 1 hts (gGS tw_775 tw_776 tw_11 tw_777) rfl rfl rfl ⟨by decide, by decide, by decide +kernel⟩ ⟨Nat.le_of_ble_eq_true rfl, Nat.le_of_ble_eq_true rfl⟩) rfl hl.1 rfl (Nat.le_of_ble_eq_true rfl) d_Md_statement_18 (fun r18 u18 H locs hw hP hD hS => ?_)
        have hP : va_P D gCl (mW cI cS cZ ad u18.1 u18.2) H := hP
        have hD : va_D A (mW cI cS cZ ad u18.1 u18.2) := hD
        refine lv_if_eq (tgt := 53) hx hb d_Md_statement_21 (by decide) (fun h => ?_) (fun h => ?_)
        · have hw := hw.1 h
          exact J53 u18.1 u18.2 x1 x2 x3 x4 x5 ls H locs (lv_sub hl [0, 1, 2, 3, 4, 5] rfl) hP hD hS hw
        · have hw := hw.2 h
          refine lv_iload hx hb d_Md_statement_24 (lv_at hl 4 rfl) ?_
          refine gCallSi (As := [.int x4]) (rest := []) (c_Md_isVariable l D cI cS cZ ad  u18.1 u18.2 x4 _ hw) hx hb hml hown hts hK hN hA hS hP hD (va_cwS 1 hts (gGS tw_775 tw_776 tw_11 tw_777) rfl rfl rfl ⟨by decide, by decide, by decide +kernel⟩ ⟨Nat.le_of_ble_eq_true rfl, Nat.le_of_ble_eq_true rfl⟩) rfl hl.1 rfl (Nat.le_of_ble_eq_true rfl) d_Md_statement_26 (fun r26 u26 H locs hw hP hD hS => ?_)
          have hP : va_P D gCl (mW cI cS cZ ad u26.1 u26.2) H := hP
          have hD : va_D A (mW cI cS cZ ad u26.1 u26.2) := hD
          refine lv_if_eq (tgt := 53) hx hb d_Md_statement_29 (by decide) (fun h => ?_) (fun h => ?_)
          · have hw := hw.1 h
            exact J53 u26.1 u26.2 x1 x2 x3 x4 x5 ls H locs (lv_sub hl [0, 1, 2, 3, 4, 5] rfl) hP hD hS hw
          · have hw := hw.2 h
            refine lv_iload_n hx hb d_Md_statement_32 rfl (lv_at hl 1 rfl) ?_
            refine lv_iconst (v := 4) hx hb d_Md_statement_33 (by decide) ?_
            refine lv_icmp_ne (tgt := 49) hx hb d_Md_statement_34 (by decide) (fun h => ?_) (fun h => ?_)
            · have hw := hw.1 h
              exact J49 u26.1 u26.2 x1 x2 x3 x4 x5 ls H locs (lv_sub hl [0, 1, 2, 3, 4, 5] rfl) hP hD hS hw
            · have hw := hw.2 h
              refine lv_iload hx hb d_Md_statement_37 (lv_at hl 5 rfl) ?_
              refine lv_if_lt (tgt := 53) hx hb d_Md_statement_39 (by decide) (fun h => ?_) (fun h => ?_)
              · have hw := hw.1 h
                exact J53 u26.1 u26.2 x1 x2 x3 x4 x5 ls H locs (lv_sub hl [0, 1, 2, 3, 4, 5] rfl) hP hD hS hw
              · have hw := hw.2 h
                refine lv_iload hx hb d_Md_statement_42 (lv_at hl 5 rfl) ?_
                refine lv_bipush (v := 11) hx hb d_Md_statement_44 (by decide) ?_
                refine lv_icmp_gt (tgt := 53) hx hb d_Md_statement_46 (by decide) (fun h => ?_) (fun h => ?_)
                · have hw := hw.1 h
                  exact J53 u26.1 u26.2 x1 x2 x3 x4 x5 ls H locs (lv_sub hl [0, 1, 2, 3, 4, 5] rfl) hP hD hS hw
                · have hw := hw.2 h
                  exact J49 u26.1 u26.2 x1 x2 x3 x4 x5 ls H locs (lv_sub hl [0, 1, 2, 3, 4, 5] rfl) hP hD hS hw
abbrev rm_Md_clear : Room := { frames := 0, cells := 0, slots := 0, locals := 0 }
set_option maxHeartbeats 4000000 in
set_option maxRecDepth 100000 in
theorem c_Md_clear (l : Launch) (D : va_G) (cI cS cZ : ClassId) (ad : Nat → Nat) (σ : Nat → Int32) (α : Nat → Nat → Int32) (post : gS → Prop) (hw : wp_Md_clear σ α post) : gMv l y_Md_clear b_Md_clear 1 rm_Md_clear D (gT cI cS cZ) (fun u : gS => mW cI cS cZ ad u.1 u.2) [.ref (ad 0)] (σ, α) post := by
  refine gMv.of (by decide) (Nat.le_of_ble_eq_true rfl) ?_
  intro p e s m below meth c Q A hx hb hml hown hts hK hN hA hS hP hD hret ls hl
  have hl : lv_has ls 1 [(0, .ref (ad 0))] := hl
  unfold wp_Md_clear at hw
  have hP : va_P D gCl (mW cI cS cZ ad σ α) s.heap := hP
  have hD : va_D A (mW cI cS cZ ad σ α) := hD
  obtain ⟨H, hH⟩ : ∃ H, H = s.heap := ⟨_, rfl⟩
  obtain ⟨locs, hlocs⟩ : ∃ locs : List Loc, locs = [] := ⟨_, rfl⟩
  have hP : va_P D gCl (mW cI cS cZ ad σ α) H := by rw [hH]; exact hP
  have hS : va_S A s.heap H locs := by rw [hH, hlocs]; exact hS
  suffices K : W p l e rm_Md_clear s m ([.ref (ad 0)] : List Value).toArray below meth c H locs 0 0 Q (F0 m 0 ls []) by rw [hH, hlocs] at K; exact K
  clear hH hlocs
  refine lv_aload_n hx hb d_Md_clear_0 rfl (lv_at hl 0 rfl) ?_
  refine lv_iconst (v := 0) hx hb d_Md_clear_1 (by decide) ?_
  refine va_put (D := D) (ci := 9) (v := .int (0 : Int32)) (ty := .int) (C := R_Md) (T := T_Md) (N := 47) hx hb hts i_Md t_Md o_Md n_Md hown hK hP hD hS 0 rfl rfl 28 (by decide) (hts _ tw_562) (fun _ h9 => h9) rfl (by decide +kernel) rfl rfl (Nat.le_of_ble_eq_true rfl) d_Md_clear_2 (fun H locs hP hD hS => ?_)
  have hP : va_P D gCl (mW cI cS cZ ad (va_up σ 23 (0 : Int32)) α) H := hP
  have hD : va_D A (mW cI cS cZ ad (va_up σ 23 (0 : Int32)) α) := hD
  exact hret H locs 5 ls ((va_up σ 23 (0 : Int32)), α) d_Md_clear_5 hP hD hS hw
