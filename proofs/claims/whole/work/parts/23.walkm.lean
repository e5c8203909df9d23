abbrev rm_Md_list : Room := { frames := 0, cells := 0, slots := 0, locals := 0 }
set_option maxHeartbeats 4000000 in
set_option maxRecDepth 100000 in
theorem c_Md_list (l : Launch) (D : va_G) (cI cS cZ : ClassId) (ad : Nat → Nat) (σ : Nat → Int32) (α : Nat → Nat → Int32) (x1 : Int32) (x2 : Int32) (x3 : Int32) (x4 : Int32) (post : gS → Prop) (hw : wp_Md_list σ α x1 x2 x3 x4 post) : gMv l y_Md_list b_Md_list 5 rm_Md_list D (gT cI cS cZ) (fun u : gS => mW cI cS cZ ad u.1 u.2) [.ref (ad 0), .int x1, .int x2, .int x3, .int x4] (σ, α) post := by
  refine gMv.of (by decide) (Nat.le_of_ble_eq_true rfl) ?_
  intro p e s m below meth c Q A hx hb hml hown hts hK hN hA hS hP hD hret ls hl
  have hl : lv_has ls 5 [(0, .ref (ad 0)), (1, .int x1), (2, .int x2), (3, .int x3), (4, .int x4)] := hl
  unfold wp_Md_list at hw
  have hP : va_P D gCl (mW cI cS cZ ad σ α) s.heap := hP
  have hD : va_D A (mW cI cS cZ ad σ α) := hD
  obtain ⟨H, hH⟩ : ∃ H, H = s.heap := ⟨_, rfl⟩
  obtain ⟨locs, hlocs⟩ : ∃ locs : List Loc, locs = [] := ⟨_, rfl⟩
  have hP : va_P D gCl (mW cI cS cZ ad σ α) H := by rw [hH]; exact hP
  have hS : va_S A s.heap H locs := by rw [hH, hlocs]; exact hS
  suffices K : W p l e rm_Md_list s m ([.ref (ad 0), .int x1, .int x2, .int x3, .int x4] : List Value).toArray below meth c H locs 0 0 Q (F0 m 0 ls []) by rw [hH, hlocs] at K; exact K
  clear hH hlocs
  refine lv_aload_n hx hb d_Md_list_0 rfl (lv_at hl 0 rfl) ?_
  refine va_get (D := D) (ci := 9) (v := .ref (ad 11)) (C := R_Md) (T := T_Md) (N := 47) hx hb hts i_Md hown hK hP 0 rfl rfl 35 (by decide) (hts _ tw_569) (fun _ h9 => h9) rfl d_Md_list_1 ?_
  refine lv_aload_n hx hb d_Md_list_4 rfl (lv_at hl 0 rfl) ?_
  refine va_get (D := D) (ci := 9) (v := .int (σ 24)) (C := R_Md) (T := T_Md) (N := 47) hx hb hts i_Md hown hK hP 0 rfl rfl 34 (by decide) (hts _ tw_568) (fun _ h9 => h9) rfl d_Md_list_5 ?_
  refine lv_iload_n hx hb d_Md_list_8 rfl (lv_at hl 1 rfl) ?_
  obtain ⟨hin, hw⟩ := hw
  refine va_iast (f := α 11) (i := σ 24) (x := x1) hx hb hK hP hD hS 11 0 rfl rfl hin d_Md_list_9 (fun H locs hP hD hS => ?_)
  rw [mW_s11] at hP hD
  have hP : va_P D gCl (mW cI cS cZ ad σ (va_up α 11 (upd (α 11) (σ 24).toNatClampNeg x1))) H := hP
  have hD : va_D A (mW cI cS cZ ad σ (va_up α 11 (upd (α 11) (σ 24).toNatClampNeg x1))) := hD
  refine lv_aload_n hx hb d_Md_list_10 rfl (lv_at hl 0 rfl) ?_
  refine va_get (D := D) (ci := 9) (v := .ref (ad 12)) (C := R_Md) (T := T_Md) (N := 47) hx hb hts i_Md hown hK hP 0 rfl rfl 36 (by decide) (hts _ tw_570) (fun _ h9 => h9) rfl d_Md_list_11 ?_
  refine lv_aload_n hx hb d_Md_list_14 rfl (lv_at hl 0 rfl) ?_
  refine va_get (D := D) (ci := 9) (v := .int (σ 24)) (C := R_Md) (T := T_Md) (N := 47) hx hb hts i_Md hown hK hP 0 rfl rfl 34 (by decide) (hts _ tw_568) (fun _ h9 => h9) rfl d_Md_list_15 ?_
  refine lv_iload_n hx hb d_Md_list_18 rfl (lv_at hl 2 rfl) ?_
  obtain ⟨hin, hw⟩ := hw
  refine va_iast (f := α 12) (i := σ 24) (x := x2) hx hb hK hP hD hS 12 0 rfl rfl hin d_Md_list_19 (fun H locs hP hD hS => ?_)
  rw [mW_s12] at hP hD
  have hP : va_P D gCl (mW cI cS cZ ad σ (va_up (va_up α 11 (upd (α 11) (σ 24).toNatClampNeg x1)) 12 (upd (α 12) (σ 24).toNatClampNeg x2))) H := hP
  have hD : va_D A (mW cI cS cZ ad σ (va_up (va_up α 11 (upd (α 11) (σ 24).toNatClampNeg x1)) 12 (upd (α 12) (σ 24).toNatClampNeg x2))) := hD
  refine lv_aload_n hx hb d_Md_list_20 rfl (lv_at hl 0 rfl) ?_
  refine va_get (D := D) (ci := 9) (v := .ref (ad 13)) (C := R_Md) (T := T_Md) (N := 47) hx hb hts i_Md hown hK hP 0 rfl rfl 37 (by decide) (hts _ tw_571) (fun _ h9 => h9) rfl d_Md_list_21 ?_
  refine lv_aload_n hx hb d_Md_list_24 rfl (lv_at hl 0 rfl) ?_
  refine va_get (D := D) (ci := 9) (v := .int (σ 24)) (C := R_Md) (T := T_Md) (N := 47) hx hb hts i_Md hown hK hP 0 rfl rfl 34 (by decide) (hts _ tw_568) (fun _ h9 => h9) rfl d_Md_list_25 ?_
  refine lv_iload_n hx hb d_Md_list_28 rfl (lv_at hl 3 rfl) ?_
  obtain ⟨hin, hw⟩ := hw
  refine va_iast (f := α 13) (i := σ 24) (x := x3) hx hb hK hP hD hS 13 0 rfl rfl hin d_Md_list_29 (fun H locs hP hD hS => ?_)
  rw [mW_s13] at hP hD
  have hP : va_P D gCl (mW cI cS cZ ad σ (va_up (va_up (va_up α 11 (upd (α 11) (σ 24).toNatClampNeg x1)) 12 (upd (α 12) (σ 24).toNatClampNeg x2)) 13 (upd (α 13) (σ 24).toNatClampNeg x3))) H := hP
  have hD : va_D A (mW cI cS cZ ad σ (va_up (va_up (va_up α 11 (upd (α 11) (σ 24).toNatClampNeg x1)) 12 (upd (α 12) (σ 24).toNatClampNeg x2)) 13 (upd (α 13) (σ 24).toNatClampNeg x3))) := hD
  refine lv_aload_n hx hb d_Md_list_30 rfl (lv_at hl 0 rfl) ?_
  refine va_get (D := D) (ci := 9) (v := .ref (ad 14)) (C := R_Md) (T := T_Md) (N := 47) hx hb hts i_Md hown hK hP 0 rfl rfl 38 (by decide) (hts _ tw_572) (fun _ h9 => h9) rfl d_Md_list_31 ?_
  refine lv_aload_n hx hb d_Md_list_34 rfl (lv_at hl 0 rfl) ?_
  refine va_get (D := D) (ci := 9) (v := .int (σ 24)) (C := R_Md) (T := T_Md) (N := 47) hx hb hts i_Md hown hK hP 0 rfl rfl 34 (by decide) (hts _ tw_568) (fun _ h9 => h9) rfl d_Md_list_35 ?_
  refine lv_iload hx hb d_Md_list_38 (lv_at hl 4 rfl) ?_
  obtain ⟨hin, hw⟩ := hw
  refine va_iast (f := α 14) (i := σ 24) (x := x4) hx hb hK hP hD hS 14 0 rfl rfl hin d_Md_list_40 (fun H locs hP hD hS => ?_)
  rw [mW_s14] at hP hD
  have hP : va_P D gCl (mW cI cS cZ ad σ (va_up (va_up (va_up (va_up α 11 (upd (α 11) (σ 24).toNatClampNeg x1)) 12 (upd (α 12) (σ 24).toNatClampNeg x2)) 13 (upd (α 13) (σ 24).toNatClampNeg x3)) 14 (upd (α 14) (σ 24).toNatClampNeg x4))) H := hP
  have hD : va_D A (mW cI cS cZ ad σ (va_up (va_up (va_up (va_up α 11 (upd (α 11) (σ 24).toNatClampNeg x1)) 12 (upd (α 12) (σ 24).toNatClampNeg x2)) 13 (upd (α 13) (σ 24).toNatClampNeg x3)) 14 (upd (α 14) (σ 24).toNatClampNeg x4))) := hD
  refine lv_aload_n hx hb d_Md_list_41 rfl (lv_at hl 0 rfl) ?_
  refine lv_dup hx hb d_Md_list_42 rfl ?_
  refine va_get (D := D) (ci := 9) (v := .int (σ 24)) (C := R_Md) (T := T_Md) (N := 47) hx hb hts i_Md hown hK hP 0 rfl rfl 34 (by decide) (hts _ tw_568) (fun _ h9 => h9) rfl d_Md_list_43 ?_
  refine lv_iconst (v := 1) hx hb d_Md_list_46 (by decide) ?_
  refine lv_iadd hx hb d_Md_list_47 ?_
  refine va_put (D := D) (ci := 9) (v := .int ((σ 24) + (1 : Int32))) (ty := .int) (C := R_Md) (T := T_Md) (N := 47) hx hb hts i_Md t_Md o_Md n_Md hown hK hP hD hS 0 rfl rfl 34 (by decide) (hts _ tw_568) (fun _ h9 => h9) rfl (by decide +kernel) rfl rfl (Nat.le_of_ble_eq_true rfl) d_Md_list_48 (fun H locs hP hD hS => ?_)
  have hP : va_P D gCl (mW cI cS cZ ad (va_up σ 24 ((σ 24) + (1 : Int32))) (va_up (va_up (va_up (va_up α 11 (upd (α 11) (σ 24).toNatClampNeg x1)) 12 (upd (α 12) (σ 24).toNatClampNeg x2)) 13 (upd (α 13) (σ 24).toNatClampNeg x3)) 14 (upd (α 14) (σ 24).toNatClampNeg x4))) H := hP
  have hD : va_D A (mW cI cS cZ ad (va_up σ 24 ((σ 24) + (1 : Int32))) (va_up (va_up (va_up (va_up α 11 (upd (α 11) (σ 24).toNatClampNeg x1)) 12 (upd (α 12) (σ 24).toNatClampNeg x2)) 13 (upd (α 13) (σ 24).toNatClampNeg x3)) 14 (upd (α 14) (σ 24).toNatClampNeg x4))) := hD
  exact hret H locs 51 ls ((va_up σ 24 ((σ 24) + (1 : Int32))), (va_up (va_up (va_up (va_up α 11 (upd (α 11) (σ 24).toNatClampNeg x1)) 12 (upd (α 12) (σ 24).toNatClampNeg x2)) 13 (upd (α 13) (σ 24).toNatClampNeg x3)) 14 (upd (α 14) (σ 24).toNatClampNeg x4))) d_Md_list_51 hP hD hS hw
abbrev rm_Md_listAll : Room := { frames := 1, cells := 0, slots := 0, locals := 24 }
set_option maxHeartbeats 4000000 in
set_option maxRecDepth 100000 in
theorem c_Md_listAll (l : Launch) (D : va_G) (cI cS cZ : ClassId) (ad : Nat → Nat) (σ : Nat → Int32) (α : Nat → Nat → Int32) (post : gS → Prop) (hw : wp_Md_listAll σ α post) : gMv l y_Md_listAll b_Md_listAll 5 rm_Md_listAll D (gT cI cS cZ) (fun u : gS => mW cI cS cZ ad u.1 u.2) [.ref (ad 0)] (σ, α) post := by
  refine gMv.of (by decide) (Nat.le_of_ble_eq_true rfl) ?_
  intro p e s m below meth c Q A hx hb hml hown hts hK hN hA hS hP hD hret ls hl
  have hl : lv_has ls 5 [(0, .ref (ad 0))] := hl
  have J238 : ∀ (σ : Nat → Int32) (α : Nat → Nat → Int32) (ls : Array Slot) (H : Heap) (locs : List Loc), lv_has ls 5 [] → va_P D gCl (mW cI cS cZ ad σ α) H → va_D A (mW cI cS cZ ad σ α) → va_S A s.heap H locs → wp_Md_listAll_J238 σ α post → W p l e rm_Md_listAll s m ([.ref (ad 0)] : List Value).toArray below meth c H locs 0 0 Q (F0 m 238 ls []) := by
    intro σ α ls H locs hl hP hD hS hw
    unfold wp_Md_listAll_J238 at hw
    exact hret H locs 238 ls (σ, α) d_Md_listAll_238 hP hD hS hw
  have L7 : ∀ (σ : Nat → Int32) (α : Nat → Nat → Int32) (a1 : Int32) (ls : Array Slot) (H : Heap) (locs : List Loc), lv_has ls 5 [(0, .ref (ad 0)), (1, .int a1)] → va_P D gCl (mW cI cS cZ ad σ α) H → va_D A (mW cI cS cZ ad σ α) → va_S A s.heap H locs → wp_Md_listAll_L7 σ α a1 post → W p l e rm_Md_listAll s m ([.ref (ad 0)] : List Value).toArray below meth c H locs 0 0 Q (F0 m 7 ls []) := by
    intro σ α a1 ls H locs hl hP hD hS hw
    let XL7 : (Nat → Int32) → (Nat → Nat → Int32) → Int32 → Prop := fun σ α a1 => ∀ (ls : Array Slot) (H : Heap) (locs : List Loc), lv_has ls 5 [(0, .ref (ad 0)), (1, .int a1)] → va_P D gCl (mW cI cS cZ ad σ α) H → va_D A (mW cI cS cZ ad σ α) → va_S A s.heap H locs → W p l e rm_Md_listAll s m ([.ref (ad 0)] : List Value).toArray below meth c H locs 0 0 Q (F0 m 7 ls [])
    have hX7 : ∀ (σ : Nat → Int32) (α : Nat → Nat → Int32) (a1 : Int32) (ls : Array Slot) (H : Heap) (locs : List Loc), lv_has ls 5 [(0, .ref (ad 0)), (1, .int a1)] → va_P D gCl (mW cI cS cZ ad σ α) H → va_D A (mW cI cS cZ ad σ α) → va_S A s.heap H locs → XL7 σ α a1 → W p l e rm_Md_listAll s m ([.ref (ad 0)] : List Value).toArray below meth c H locs 0 0 Q (F0 m 7 ls []) := fun σ α a1 ls H locs hl hP hD hS hw => hw ls H locs hl hP hD hS
    refine hw XL7 ?_ ls H locs hl hP hD hS
    clear hw hl hP hD hS
    intro σ α a1 hw ls H locs hl hP hD hS
    unfold wp_Md_listAll_B7 at hw
    have J208 : ∀ (σ : Nat → Int32) (α : Nat → Nat → Int32) (a1 : Int32) (ls : Array Slot) (H : Heap) (locs : List Loc), lv_has ls 5 [(0, .ref (ad 0)), (1, .int a1)] → va_P D gCl (mW cI cS cZ ad σ α) H → va_D A (mW cI cS cZ ad σ α) → va_S A s.heap H locs → wp_Md_listAll_J208 XL7 σ α a1 post → W p l e rm_Md_listAll s m ([.ref (ad 0)] : List Value).toArray below meth c H locs 0 0 Q (F0 m 208 ls []) := by
      intro σ α a1 ls H locs hl hP hD hS hw
      unfold wp_Md_listAll_J208 at hw
      refine lv_iinc (k := 1) hx hb d_Md_listAll_208 hl rfl rfl (by decide) rfl (fun ls hl => ?_)
      have hl : lv_has ls 5 [(1, .int (a1 + Int32.ofInt 1)), (0, .ref (ad 0))] := hl
      refine lv_goto (tgt := 7) hx hb d_Md_listAll_211 (by decide) ?_
      exact hX7 σ α (a1 + Int32.ofInt 1) ls H locs (lv_sub hl [1, 0] rfl) hP hD hS hw
    have J107 : ∀ (σ : Nat → Int32) (α : Nat → Nat → Int32) (a1 : Int32) (a3 : Int32) (a4 : Int32) (t0 : Int32) (t1 : Int32) (ls : Array Slot) (H : Heap) (locs : List Loc), lv_has ls 5 [(0, .ref (ad 0)), (1, .int a1), (3, .int a3), (4, .int a4)] → va_P D gCl (mW cI cS cZ ad σ α) H → va_D A (mW cI cS cZ ad σ α) → va_S A s.heap H locs → wp_Md_listAll_J107 XL7 σ α a1 a3 a4 t0 t1 post → W p l e rm_Md_listAll s m ([.ref (ad 0)] : List Value).toArray below meth c H locs 0 0 Q (F0 m 107 ls [.int t0, .int t1, .ref (ad 0)]) := by
      intro σ α a1 a3 a4 t0 t1 ls H locs hl hP hD hS hw
      unfold wp_Md_listAll_J107 at hw
      refine lv_iload_n hx hb d_Md_listAll_107 rfl (lv_at hl 2 rfl) ?_
      refine lv_iload_n hx hb d_Md_listAll_108 rfl (lv_at hl 1 rfl) ?_
      refine gCallVv (b := ad 0) (As := [.int t1, .int t0, .int a3, .int a1]) (rest := []) (c_Md_list l D cI cS cZ ad  σ α t1 t0 a3 a1 _ hw) hx hb hml hown hts hK hN hA hS hP hD (cwV 4 hts (gGV tw_790 tw_792 ts_33 tw_11 tw_793) rfl rfl rfl ⟨rfl, by decide, by decide, by decide +kernel⟩ ⟨Nat.le_of_ble_eq_true rfl, Nat.le_of_ble_eq_true rfl⟩) (va_recv (ci := 9) (q0 := 0) hK hP rfl rfl) rfl hl.1 rfl (Nat.le_of_ble_eq_true rfl) d_Md_listAll_109 (fun u109 H locs hw hP hD hS => ?_)
      have hP : va_P D gCl (mW cI cS cZ ad u109.1 u109.2) H := hP
      have hD : va_D A (mW cI cS cZ ad u109.1 u109.2) := hD
      refine lv_aload_n hx hb d_Md_listAll_112 rfl (lv_at hl 0 rfl) ?_
      refine lv_bipush (v := 6) hx hb d_Md_listAll_113 (by decide) ?_
      refine lv_iconst (v := 2) hx hb d_Md_listAll_115 (by decide) ?_
      refine lv_iload hx hb d_Md_listAll_116 (lv_at hl 3 rfl) ?_
      refine lv_iload_n hx hb d_Md_listAll_118 rfl (lv_at hl 1 rfl) ?_
      refine gCallVv (b := ad 0) (As := [.int (6 : Int32), .int (2 : Int32), .int a4, .int a1]) (rest := []) (c_Md_list l D cI cS cZ ad  u109.1 u109.2 (6 : Int32) (2 : Int32) a4 a1 _ hw) hx hb hml hown hts hK hN hA hS hP hD (cwV 4 hts (gGV tw_790 tw_792 ts_33 tw_11 tw_793) rfl rfl rfl ⟨rfl, by decide, by decide, by decide +kernel⟩ ⟨Nat.le_of_ble_eq_true rfl, Nat.le_of_ble_eq_true rfl⟩) (va_recv (ci := 9) (q0 := 0) hK hP rfl rfl) rfl hl.1 rfl (Nat.le_of_ble_eq_true rfl) d_Md_listAll_119 (fun u119 H locs hw hP hD hS => ?_)
      have hP : va_P D gCl (mW cI cS cZ ad u119.1 u119.2) H := hP
      have hD : va_D A (mW cI cS cZ ad u119.1 u119.2) := hD
      refine lv_goto (tgt := 208) hx hb d_Md_listAll_122 (by decide) ?_
      exact J208 u119.1 u119.2 a1 ls H locs (lv_sub hl [0, 1] rfl) hP hD hS hw
    have J80 : ∀ (σ : Nat → Int32) (α : Nat → Nat → Int32) (a1 : Int32) (a2 : Int32) (a3 : Int32) (a4 : Int32) (ls : Array Slot) (H : Heap) (locs : List Loc), lv_has ls 5 [(0, .ref (ad 0)), (1, .int a1), (2, .int a2), (3, .int a3), (4, .int a4)] → va_P D gCl (mW cI cS cZ ad σ α) H → va_D A (mW cI cS cZ ad σ α) → va_S A s.heap H locs → wp_Md_listAll_J80 XL7 σ α a1 a2 a3 a4 post → W p l e rm_Md_listAll s m ([.ref (ad 0)] : List Value).toArray below meth c H locs 0 0 Q (F0 m 80 ls []) := by
      intro σ α a1 a2 a3 a4 ls H locs hl hP hD hS hw
      unfold wp_Md_listAll_J80 at hw
      refine lv_aload_n hx hb d_Md_listAll_80 rfl (lv_at hl 0 rfl) ?_
      refine lv_iconst (v := 2) hx hb d_Md_listAll_81 (by decide) ?_
      refine lv_bipush (v := 6) hx hb d_Md_listAll_82 (by decide) ?_
      refine lv_iload_n hx hb d_Md_listAll_84 rfl (lv_at hl 2 rfl) ?_
      refine lv_iload_n hx hb d_Md_listAll_85 rfl (lv_at hl 1 rfl) ?_
      refine gCallVv (b := ad 0) (As := [.int (2 : Int32), .int (6 : Int32), .int a2, .int a1]) (rest := []) (c_Md_list l D cI cS cZ ad  σ α (2 : Int32) (6 : Int32) a2 a1 _ hw) hx hb hml hown hts hK hN hA hS hP hD (cwV 4 hts (gGV tw_790 tw_792 ts_33 tw_11 tw_793) rfl rfl rfl ⟨rfl, by decide, by decide, by decide +kernel⟩ ⟨Nat.le_of_ble_eq_true rfl, Nat.le_of_ble_eq_true rfl⟩) (va_recv (ci := 9) (q0 := 0) hK hP rfl rfl) rfl hl.1 rfl (Nat.le_of_ble_eq_true rfl) d_Md_listAll_86 (fun u86 H locs hw hP hD hS => ?_)
      have hP : va_P D gCl (mW cI cS cZ ad u86.1 u86.2) H := hP
      have hD : va_D A (mW cI cS cZ ad u86.1 u86.2) := hD
      refine lv_aload_n hx hb d_Md_listAll_89 rfl (lv_at hl 0 rfl) ?_
      refine lv_iconst (v := 2) hx hb d_Md_listAll_90 (by decide) ?_
      refine lv_aload_n hx hb d_Md_listAll_91 rfl (lv_at hl 0 rfl) ?_
      refine va_get (D := D) (ci := 9) (v := .ref (ad 6)) (C := R_Md) (T := T_Md) (N := 47) hx hb hts i_Md hown hK hP 0 rfl rfl 29 (by decide) (hts _ tw_563) (fun _ h9 => h9) rfl d_Md_listAll_92 ?_
      refine lv_iload_n hx hb d_Md_listAll_95 rfl (lv_at hl 1 rfl) ?_
      obtain ⟨hin, hw⟩ := hw
      refine va_iald (f := u86.2 6) hx hb hK hP 6 0 rfl rfl hin d_Md_listAll_96 ?_
      refine lv_if_ne (tgt := 105) hx hb d_Md_listAll_97 (by decide) (fun h => ?_) (fun h => ?_)
      · have hw := hw.1 h
        refine lv_bipush (v := 10) hx hb d_Md_listAll_105 (by decide) ?_
        exact J107 u86.1 u86.2 a1 a3 a4 (10 : Int32) (2 : Int32) ls H locs (lv_sub hl [0, 1, 3, 4] rfl) hP hD hS hw
      · have hw := hw.2 h
        refine lv_bipush (v := 9) hx hb d_Md_listAll_100 (by decide) ?_
        refine lv_goto (tgt := 107) hx hb d_Md_listAll_102 (by decide) ?_
        exact J107 u86.1 u86.2 a1 a3 a4 (9 : Int32) (2 : Int32) ls H locs (lv_sub hl [0, 1, 3, 4] rfl) hP hD hS hw
    refine lv_iload_n hx hb d_Md_listAll_7 rfl (lv_at hl 1 rfl) ?_
    refine lv_aload_n hx hb d_Md_listAll_8 rfl (lv_at hl 0 rfl) ?_
    refine va_get (D := D) (ci := 9) (v := .int (σ 23)) (C := R_Md) (T := T_Md) (N := 47) hx hb hts i_Md hown hK hP 0 rfl rfl 28 (by decide) (hts _ tw_562) (fun _ h9 => h9) rfl d_Md_listAll_9 ?_
    refine lv_icmp_ge (tgt := 214) hx hb d_Md_listAll_12 (by decide) (fun h => ?_) (fun h => ?_)
    · have hw := hw.1 h
      refine lv_aload_n hx hb d_Md_listAll_214 rfl (lv_at hl 0 rfl) ?_
      refine va_get (D := D) (ci := 9) (v := .ref (ad 6)) (C := R_Md) (T := T_Md) (N := 47) hx hb hts i_Md hown hK hP 0 rfl rfl 29 (by decide) (hts _ tw_563) (fun _ h9 => h9) rfl d_Md_listAll_215 ?_
      refine lv_aload_n hx hb d_Md_listAll_218 rfl (lv_at hl 0 rfl) ?_
      refine va_get (D := D) (ci := 9) (v := .int (σ 23)) (C := R_Md) (T := T_Md) (N := 47) hx hb hts i_Md hown hK hP 0 rfl rfl 28 (by decide) (hts _ tw_562) (fun _ h9 => h9) rfl d_Md_listAll_219 ?_
      refine lv_iconst (v := 1) hx hb d_Md_listAll_222 (by decide) ?_
      refine lv_isub hx hb d_Md_listAll_223 ?_
      obtain ⟨hin, hw⟩ := hw
      refine va_iald (f := α 6) hx hb hK hP 6 0 rfl rfl hin d_Md_listAll_224 ?_
      refine lv_bipush (v := 6) hx hb d_Md_listAll_225 (by decide) ?_
      refine lv_icmp_eq (tgt := 238) hx hb d_Md_listAll_227 (by decide) (fun h => ?_) (fun h => ?_)
      · have hw := hw.1 h
        exact J238 σ α ls H locs (lv_sub hl [] rfl) hP hD hS hw
      · have hw := hw.2 h
        refine lv_aload_n hx hb d_Md_listAll_230 rfl (lv_at hl 0 rfl) ?_
        refine lv_iconst (v := 0) hx hb d_Md_listAll_231 (by decide) ?_
        refine lv_iconst (v := 1) hx hb d_Md_listAll_232 (by decide) ?_
        refine lv_iconst (v := (-1)) hx hb d_Md_listAll_233 (by decide) ?_
        refine lv_iconst (v := (-1)) hx hb d_Md_listAll_234 (by decide) ?_
        refine gCallVv (b := ad 0) (As := [.int (0 : Int32), .int (1 : Int32), .int (-1 : Int32), .int (-1 : Int32)]) (rest := []) (c_Md_list l D cI cS cZ ad  σ α (0 : Int32) (1 : Int32) (-1 : Int32) (-1 : Int32) _ hw) hx hb hml hown hts hK hN hA hS hP hD (cwV 4 hts (gGV tw_790 tw_792 ts_33 tw_11 tw_793) rfl rfl rfl ⟨rfl, by decide, by decide, by decide +kernel⟩ ⟨Nat.le_of_ble_eq_true rfl, Nat.le_of_ble_eq_true rfl⟩) (va_recv (ci := 9) (q0 := 0) hK hP rfl rfl) rfl hl.1 rfl (Nat.le_of_ble_eq_true rfl) d_Md_listAll_235 (fun u235 H locs hw hP hD hS => ?_)
        have hP : va_P D gCl (mW cI cS cZ ad u235.1 u235.2) H := hP
        have hD : va_D A (mW cI cS cZ ad u235.1 u235.2) := hD
        exact J238 u235.1 u235.2 ls H locs (lv_sub hl [] rfl) hP hD hS hw
    · have hw := hw.2 h
      refine lv_aload_n hx hb d_Md_listAll_15 rfl (lv_at hl 0 rfl) ?_
      refine va_get (D := D) (ci := 9) (v := .ref (ad 7)) (C := R_Md) (T := T_Md) (N := 47) hx hb hts i_Md hown hK hP 0 rfl rfl 30 (by decide) (hts _ tw_564) (fun _ h9 => h9) rfl d_Md_listAll_16 ?_
      refine lv_iload_n hx hb d_Md_listAll_19 rfl (lv_at hl 1 rfl) ?_
      obtain ⟨hin, hw⟩ := hw
      refine va_iald (f := α 7) hx hb hK hP 7 0 rfl rfl hin d_Md_listAll_20 ?_
      refine lv_istore_n hx hb d_Md_listAll_21 rfl hl (by decide) rfl (fun ls hl => ?_)
      have hl : lv_has ls 5 [(2, .int (α 7 a1.toNatClampNeg)), (0, .ref (ad 0)), (1, .int a1)] := hl
      refine lv_aload_n hx hb d_Md_listAll_22 rfl (lv_at hl 1 rfl) ?_
      refine va_get (D := D) (ci := 9) (v := .ref (ad 8)) (C := R_Md) (T := T_Md) (N := 47) hx hb hts i_Md hown hK hP 0 rfl rfl 31 (by decide) (hts _ tw_565) (fun _ h9 => h9) rfl d_Md_listAll_23 ?_
      refine lv_iload_n hx hb d_Md_listAll_26 rfl (lv_at hl 2 rfl) ?_
      obtain ⟨hin, hw⟩ := hw
      refine va_iald (f := α 8) hx hb hK hP 8 0 rfl rfl hin d_Md_listAll_27 ?_
      refine lv_istore_n hx hb d_Md_listAll_28 rfl hl (by decide) rfl (fun ls hl => ?_)
      have hl : lv_has ls 5 [(3, .int (α 8 a1.toNatClampNeg)), (2, .int (α 7 a1.toNatClampNeg)), (0, .ref (ad 0)), (1, .int a1)] := hl
      refine lv_aload_n hx hb d_Md_listAll_29 rfl (lv_at hl 2 rfl) ?_
      refine va_get (D := D) (ci := 9) (v := .ref (ad 9)) (C := R_Md) (T := T_Md) (N := 47) hx hb hts i_Md hown hK hP 0 rfl rfl 32 (by decide) (hts _ tw_566) (fun _ h9 => h9) rfl d_Md_listAll_30 ?_
      refine lv_iload_n hx hb d_Md_listAll_33 rfl (lv_at hl 3 rfl) ?_
      obtain ⟨hin, hw⟩ := hw
      refine va_iald (f := α 9) hx hb hK hP 9 0 rfl rfl hin d_Md_listAll_34 ?_
      refine lv_istore hx hb d_Md_listAll_35 hl (by decide) rfl (fun ls hl => ?_)
      have hl : lv_has ls 5 [(4, .int (α 9 a1.toNatClampNeg)), (3, .int (α 8 a1.toNatClampNeg)), (2, .int (α 7 a1.toNatClampNeg)), (0, .ref (ad 0)), (1, .int a1)] := hl
      refine lv_aload_n hx hb d_Md_listAll_37 rfl (lv_at hl 3 rfl) ?_
      refine va_get (D := D) (ci := 9) (v := .ref (ad 6)) (C := R_Md) (T := T_Md) (N := 47) hx hb hts i_Md hown hK hP 0 rfl rfl 29 (by decide) (hts _ tw_563) (fun _ h9 => h9) rfl d_Md_listAll_38 ?_
      refine lv_iload_n hx hb d_Md_listAll_41 rfl (lv_at hl 4 rfl) ?_
      obtain ⟨hin, hw⟩ := hw
      refine va_iald (f := α 6) hx hb hK hP 6 0 rfl rfl hin d_Md_listAll_42 ?_
      have hw := hw
      by_cases h43_0 : (α 6 a1.toNatClampNeg) = 0
      · have hw := hw.1 h43_0
        refine W.eq (g2 := F0 m 43 ls [.int (0 : Int32)]) (by rw [h43_0]) ?_
        refine lv_tableIn (off := 37) (tgt := 80) hx hb d_Md_listAll_43 (by decide) (by decide) (by decide) (by decide) ?_
        exact J80 σ α a1 (α 7 a1.toNatClampNeg) (α 8 a1.toNatClampNeg) (α 9 a1.toNatClampNeg) ls H locs (lv_sub hl [3, 4, 2, 1, 0] rfl) hP hD hS hw
      by_cases h43_1 : (α 6 a1.toNatClampNeg) = 1
      · have hw := hw.2.1 h43_1
        refine W.eq (g2 := F0 m 43 ls [.int (1 : Int32)]) (by rw [h43_1]) ?_
        refine lv_tableIn (off := 37) (tgt := 80) hx hb d_Md_listAll_43 (by decide) (by decide) (by decide) (by decide) ?_
        exact J80 σ α a1 (α 7 a1.toNatClampNeg) (α 8 a1.toNatClampNeg) (α 9 a1.toNatClampNeg) ls H locs (lv_sub hl [3, 4, 2, 1, 0] rfl) hP hD hS hw
      by_cases h43_2 : (α 6 a1.toNatClampNeg) = 2
      · have hw := hw.2.2.1 h43_2
        refine W.eq (g2 := F0 m 43 ls [.int (2 : Int32)]) (by rw [h43_2]) ?_
        refine lv_tableIn (off := 82) (tgt := 125) hx hb d_Md_listAll_43 (by decide) (by decide) (by decide) (by decide) ?_
        refine lv_aload_n hx hb d_Md_listAll_125 rfl (lv_at hl 3 rfl) ?_
        refine lv_iconst (v := 2) hx hb d_Md_listAll_126 (by decide) ?_
        refine lv_bipush (v := 6) hx hb d_Md_listAll_127 (by decide) ?_
        refine lv_iload_n hx hb d_Md_listAll_129 rfl (lv_at hl 2 rfl) ?_
        refine lv_iload_n hx hb d_Md_listAll_130 rfl (lv_at hl 4 rfl) ?_
        refine gCallVv (b := ad 0) (As := [.int (2 : Int32), .int (6 : Int32), .int (α 7 a1.toNatClampNeg), .int a1]) (rest := []) (c_Md_list l D cI cS cZ ad  σ α (2 : Int32) (6 : Int32) (α 7 a1.toNatClampNeg) a1 _ hw) hx hb hml hown hts hK hN hA hS hP hD (cwV 4 hts (gGV tw_790 tw_792 ts_33 tw_11 tw_793) rfl rfl rfl ⟨rfl, by decide, by decide, by decide +kernel⟩ ⟨Nat.le_of_ble_eq_true rfl, Nat.le_of_ble_eq_true rfl⟩) (va_recv (ci := 9) (q0 := 0) hK hP rfl rfl) rfl hl.1 rfl (Nat.le_of_ble_eq_true rfl) d_Md_listAll_131 (fun u131 H locs hw hP hD hS => ?_)
        have hP : va_P D gCl (mW cI cS cZ ad u131.1 u131.2) H := hP
        have hD : va_D A (mW cI cS cZ ad u131.1 u131.2) := hD
        refine lv_aload_n hx hb d_Md_listAll_134 rfl (lv_at hl 3 rfl) ?_
        refine lv_bipush (v := 6) hx hb d_Md_listAll_135 (by decide) ?_
        refine lv_iconst (v := 2) hx hb d_Md_listAll_137 (by decide) ?_
        refine lv_iload hx hb d_Md_listAll_138 (lv_at hl 0 rfl) ?_
        refine lv_iload_n hx hb d_Md_listAll_140 rfl (lv_at hl 4 rfl) ?_
        refine gCallVv (b := ad 0) (As := [.int (6 : Int32), .int (2 : Int32), .int (α 9 a1.toNatClampNeg), .int a1]) (rest := []) (c_Md_list l D cI cS cZ ad  u131.1 u131.2 (6 : Int32) (2 : Int32) (α 9 a1.toNatClampNeg) a1 _ hw) hx hb hml hown hts hK hN hA hS hP hD (cwV 4 hts (gGV tw_790 tw_792 ts_33 tw_11 tw_793) rfl rfl rfl ⟨rfl, by decide, by decide, by decide +kernel⟩ ⟨Nat.le_of_ble_eq_true rfl, Nat.le_of_ble_eq_true rfl⟩) (va_recv (ci := 9) (q0 := 0) hK hP rfl rfl) rfl hl.1 rfl (Nat.le_of_ble_eq_true rfl) d_Md_listAll_141 (fun u141 H locs hw hP hD hS => ?_)
        have hP : va_P D gCl (mW cI cS cZ ad u141.1 u141.2) H := hP
        have hD : va_D A (mW cI cS cZ ad u141.1 u141.2) := hD
        refine lv_goto (tgt := 208) hx hb d_Md_listAll_144 (by decide) ?_
        exact J208 u141.1 u141.2 a1 ls H locs (lv_sub hl [3, 4] rfl) hP hD hS hw
      by_cases h43_3 : (α 6 a1.toNatClampNeg) = 3
      · have hw := hw.2.2.2.1 h43_3
        refine W.eq (g2 := F0 m 43 ls [.int (3 : Int32)]) (by rw [h43_3]) ?_
        refine lv_tableIn (off := 104) (tgt := 147) hx hb d_Md_listAll_43 (by decide) (by decide) (by decide) (by decide) ?_
        refine lv_aload_n hx hb d_Md_listAll_147 rfl (lv_at hl 3 rfl) ?_
        refine lv_iconst (v := 2) hx hb d_Md_listAll_148 (by decide) ?_
        refine lv_bipush (v := 15) hx hb d_Md_listAll_149 (by decide) ?_
        refine lv_iload_n hx hb d_Md_listAll_151 rfl (lv_at hl 2 rfl) ?_
        refine lv_iload_n hx hb d_Md_listAll_152 rfl (lv_at hl 4 rfl) ?_
        refine gCallVv (b := ad 0) (As := [.int (2 : Int32), .int (15 : Int32), .int (α 7 a1.toNatClampNeg), .int a1]) (rest := []) (c_Md_list l D cI cS cZ ad  σ α (2 : Int32) (15 : Int32) (α 7 a1.toNatClampNeg) a1 _ hw) hx hb hml hown hts hK hN hA hS hP hD (cwV 4 hts (gGV tw_790 tw_792 ts_33 tw_11 tw_793) rfl rfl rfl ⟨rfl, by decide, by decide, by decide +kernel⟩ ⟨Nat.le_of_ble_eq_true rfl, Nat.le_of_ble_eq_true rfl⟩) (va_recv (ci := 9) (q0 := 0) hK hP rfl rfl) rfl hl.1 rfl (Nat.le_of_ble_eq_true rfl) d_Md_listAll_153 (fun u153 H locs hw hP hD hS => ?_)
        have hP : va_P D gCl (mW cI cS cZ ad u153.1 u153.2) H := hP
        have hD : va_D A (mW cI cS cZ ad u153.1 u153.2) := hD
        refine lv_goto (tgt := 208) hx hb d_Md_listAll_156 (by decide) ?_
        exact J208 u153.1 u153.2 a1 ls H locs (lv_sub hl [3, 4] rfl) hP hD hS hw
      by_cases h43_4 : (α 6 a1.toNatClampNeg) = 4
      · have hw := hw.2.2.2.2.1 h43_4
        refine W.eq (g2 := F0 m 43 ls [.int (4 : Int32)]) (by rw [h43_4]) ?_
        refine lv_tableIn (off := 116) (tgt := 159) hx hb d_Md_listAll_43 (by decide) (by decide) (by decide) (by decide) ?_
        refine lv_aload_n hx hb d_Md_listAll_159 rfl (lv_at hl 3 rfl) ?_
        refine lv_iconst (v := 2) hx hb d_Md_listAll_160 (by decide) ?_
        refine lv_bipush (v := 11) hx hb d_Md_listAll_161 (by decide) ?_
        refine lv_iload_n hx hb d_Md_listAll_163 rfl (lv_at hl 2 rfl) ?_
        refine lv_iload_n hx hb d_Md_listAll_164 rfl (lv_at hl 4 rfl) ?_
        refine gCallVv (b := ad 0) (As := [.int (2 : Int32), .int (11 : Int32), .int (α 7 a1.toNatClampNeg), .int a1]) (rest := []) (c_Md_list l D cI cS cZ ad  σ α (2 : Int32) (11 : Int32) (α 7 a1.toNatClampNeg) a1 _ hw) hx hb hml hown hts hK hN hA hS hP hD (cwV 4 hts (gGV tw_790 tw_792 ts_33 tw_11 tw_793) rfl rfl rfl ⟨rfl, by decide, by decide, by decide +kernel⟩ ⟨Nat.le_of_ble_eq_true rfl, Nat.le_of_ble_eq_true rfl⟩) (va_recv (ci := 9) (q0 := 0) hK hP rfl rfl) rfl hl.1 rfl (Nat.le_of_ble_eq_true rfl) d_Md_listAll_165 (fun u165 H locs hw hP hD hS => ?_)
        have hP : va_P D gCl (mW cI cS cZ ad u165.1 u165.2) H := hP
        have hD : va_D A (mW cI cS cZ ad u165.1 u165.2) := hD
        refine lv_aload_n hx hb d_Md_listAll_168 rfl (lv_at hl 3 rfl) ?_
        refine lv_iconst (v := 0) hx hb d_Md_listAll_169 (by decide) ?_
        refine lv_iconst (v := 0) hx hb d_Md_listAll_170 (by decide) ?_
        refine lv_iconst (v := (-1)) hx hb d_Md_listAll_171 (by decide) ?_
        refine lv_iload_n hx hb d_Md_listAll_172 rfl (lv_at hl 4 rfl) ?_
        refine gCallVv (b := ad 0) (As := [.int (0 : Int32), .int (0 : Int32), .int (-1 : Int32), .int a1]) (rest := []) (c_Md_list l D cI cS cZ ad  u165.1 u165.2 (0 : Int32) (0 : Int32) (-1 : Int32) a1 _ hw) hx hb hml hown hts hK hN hA hS hP hD (cwV 4 hts (gGV tw_790 tw_792 ts_33 tw_11 tw_793) rfl rfl rfl ⟨rfl, by decide, by decide, by decide +kernel⟩ ⟨Nat.le_of_ble_eq_true rfl, Nat.le_of_ble_eq_true rfl⟩) (va_recv (ci := 9) (q0 := 0) hK hP rfl rfl) rfl hl.1 rfl (Nat.le_of_ble_eq_true rfl) d_Md_listAll_173 (fun u173 H locs hw hP hD hS => ?_)
        have hP : va_P D gCl (mW cI cS cZ ad u173.1 u173.2) H := hP
        have hD : va_D A (mW cI cS cZ ad u173.1 u173.2) := hD
        refine lv_aload_n hx hb d_Md_listAll_176 rfl (lv_at hl 3 rfl) ?_
        refine lv_iconst (v := 0) hx hb d_Md_listAll_177 (by decide) ?_
        refine lv_iconst (v := 0) hx hb d_Md_listAll_178 (by decide) ?_
        refine lv_iconst (v := (-1)) hx hb d_Md_listAll_179 (by decide) ?_
        refine lv_iload_n hx hb d_Md_listAll_180 rfl (lv_at hl 4 rfl) ?_
        refine gCallVv (b := ad 0) (As := [.int (0 : Int32), .int (0 : Int32), .int (-1 : Int32), .int a1]) (rest := []) (c_Md_list l D cI cS cZ ad  u173.1 u173.2 (0 : Int32) (0 : Int32) (-1 : Int32) a1 _ hw) hx hb hml hown hts hK hN hA hS hP hD (cwV 4 hts (gGV tw_790 tw_792 ts_33 tw_11 tw_793) rfl rfl rfl ⟨rfl, by decide, by decide, by decide +kernel⟩ ⟨Nat.le_of_ble_eq_true rfl, Nat.le_of_ble_eq_true rfl⟩) (va_recv (ci := 9) (q0 := 0) hK hP rfl rfl) rfl hl.1 rfl (Nat.le_of_ble_eq_true rfl) d_Md_listAll_181 (fun u181 H locs hw hP hD hS => ?_)
        have hP : va_P D gCl (mW cI cS cZ ad u181.1 u181.2) H := hP
        have hD : va_D A (mW cI cS cZ ad u181.1 u181.2) := hD
        refine lv_goto (tgt := 208) hx hb d_Md_listAll_184 (by decide) ?_
        exact J208 u181.1 u181.2 a1 ls H locs (lv_sub hl [3, 4] rfl) hP hD hS hw
      by_cases h43_5 : (α 6 a1.toNatClampNeg) = 5
      · have hw := hw.2.2.2.2.2.1 h43_5
        refine W.eq (g2 := F0 m 43 ls [.int (5 : Int32)]) (by rw [h43_5]) ?_
        refine lv_tableIn (off := 144) (tgt := 187) hx hb d_Md_listAll_43 (by decide) (by decide) (by decide) (by decide) ?_
        refine lv_aload_n hx hb d_Md_listAll_187 rfl (lv_at hl 3 rfl) ?_
        refine lv_bipush (v := 13) hx hb d_Md_listAll_188 (by decide) ?_
        refine lv_iconst (v := 2) hx hb d_Md_listAll_190 (by decide) ?_
        refine lv_iload hx hb d_Md_listAll_191 (lv_at hl 0 rfl) ?_
        refine lv_iload_n hx hb d_Md_listAll_193 rfl (lv_at hl 4 rfl) ?_
        refine gCallVv (b := ad 0) (As := [.int (13 : Int32), .int (2 : Int32), .int (α 9 a1.toNatClampNeg), .int a1]) (rest := []) (c_Md_list l D cI cS cZ ad  σ α (13 : Int32) (2 : Int32) (α 9 a1.toNatClampNeg) a1 _ hw) hx hb hml hown hts hK hN hA hS hP hD (cwV 4 hts (gGV tw_790 tw_792 ts_33 tw_11 tw_793) rfl rfl rfl ⟨rfl, by decide, by decide, by decide +kernel⟩ ⟨Nat.le_of_ble_eq_true rfl, Nat.le_of_ble_eq_true rfl⟩) (va_recv (ci := 9) (q0 := 0) hK hP rfl rfl) rfl hl.1 rfl (Nat.le_of_ble_eq_true rfl) d_Md_listAll_194 (fun u194 H locs hw hP hD hS => ?_)
        have hP : va_P D gCl (mW cI cS cZ ad u194.1 u194.2) H := hP
        have hD : va_D A (mW cI cS cZ ad u194.1 u194.2) := hD
        refine lv_goto (tgt := 208) hx hb d_Md_listAll_197 (by decide) ?_
        exact J208 u194.1 u194.2 a1 ls H locs (lv_sub hl [3, 4] rfl) hP hD hS hw
      have hw := hw.2.2.2.2.2.2
      have hd : (α 6 a1.toNatClampNeg).toInt < 0 ∨ 5 < (α 6 a1.toNatClampNeg).toInt := by
        have a0 := lv_neT h43_0 (show (0 : Int32).toInt = 0 from by decide)
        have a1 := lv_neT h43_1 (show (1 : Int32).toInt = 1 from by decide)
        have a2 := lv_neT h43_2 (show (2 : Int32).toInt = 2 from by decide)
        have a3 := lv_neT h43_3 (show (3 : Int32).toInt = 3 from by decide)
        have a4 := lv_neT h43_4 (show (4 : Int32).toInt = 4 from by decide)
        have a5 := lv_neT h43_5 (show (5 : Int32).toInt = 5 from by decide)
        omega
      have hw := hw hd
      refine lv_tableOut (tgt := 200) hx hb d_Md_listAll_43 hd (by decide) ?_
      refine lv_aload_n hx hb d_Md_listAll_200 rfl (lv_at hl 3 rfl) ?_
      refine lv_iconst (v := 0) hx hb d_Md_listAll_201 (by decide) ?_
      refine lv_iconst (v := 1) hx hb d_Md_listAll_202 (by decide) ?_
      refine lv_iconst (v := (-1)) hx hb d_Md_listAll_203 (by decide) ?_
      refine lv_iload_n hx hb d_Md_listAll_204 rfl (lv_at hl 4 rfl) ?_
      refine gCallVv (b := ad 0) (As := [.int (0 : Int32), .int (1 : Int32), .int (-1 : Int32), .int a1]) (rest := []) (c_Md_list l D cI cS cZ ad  σ α (0 : Int32) (1 : Int32) (-1 : Int32) a1 _ hw) hx hb hml hown hts hK hN hA hS hP hD (cwV 4 hts (gGV tw_790 tw_792 ts_33 tw_11 tw_793) rfl rfl rfl ⟨rfl, by decide, by decide, by decide +kernel⟩ ⟨Nat.le_of_ble_eq_true rfl, Nat.le_of_ble_eq_true rfl⟩) (va_recv (ci := 9) (q0 := 0) hK hP rfl rfl) rfl hl.1 rfl (Nat.le_of_ble_eq_true rfl) d_Md_listAll_205 (fun u205 H locs hw hP hD hS => ?_)
      have hP : va_P D gCl (mW cI cS cZ ad u205.1 u205.2) H := hP
      have hD : va_D A (mW cI cS cZ ad u205.1 u205.2) := hD
      exact J208 u205.1 u205.2 a1 ls H locs (lv_sub hl [3, 4] rfl) hP hD hS hw
  unfold wp_Md_listAll at hw
  have hP : va_P D gCl (mW cI cS cZ ad σ α) s.heap := hP
  have hD : va_D A (mW cI cS cZ ad σ α) := hD
  obtain ⟨H, hH⟩ : ∃ H, H = s.heap := ⟨_, rfl⟩
  obtain ⟨locs, hlocs⟩ : ∃ locs : List Loc, locs = [] := ⟨_, rfl⟩
  have hP : va_P D gCl (mW cI cS cZ ad σ α) H := by rw [hH]; exact hP
  have hS : va_S A s.heap H locs := by rw [hH, hlocs]; exact hS
  suffices K : W p l e rm_Md_listAll s m ([.ref (ad 0)] : List Value).toArray below meth c H locs 0 0 Q (F0 m 0 ls []) by rw [hH, hlocs] at K; exact K
  clear hH hlocs
  refine lv_aload_n hx hb d_Md_listAll_0 rfl (lv_at hl 0 rfl) ?_
  refine lv_iconst (v := 0) hx hb d_Md_listAll_1 (by decide) ?_
  refine va_put (D := D) (ci := 9) (v := .int (0 : Int32)) (ty := .int) (C := R_Md) (T := T_Md) (N := 47) hx hb hts i_Md t_Md o_Md n_Md hown hK hP hD hS 0 rfl rfl 34 (by decide) (hts _ tw_568) (fun _ h9 => h9) rfl (by decide +kernel) rfl rfl (Nat.le_of_ble_eq_true rfl) d_Md_listAll_2 (fun H locs hP hD hS => ?_)
  have hP : va_P D gCl (mW cI cS cZ ad (va_up σ 24 (0 : Int32)) α) H := hP
  have hD : va_D A (mW cI cS cZ ad (va_up σ 24 (0 : Int32)) α) := hD
  refine lv_iconst (v := 0) hx hb d_Md_listAll_5 (by decide) ?_
  refine lv_istore_n hx hb d_Md_listAll_6 rfl hl (by decide) rfl (fun ls hl => ?_)
  have hl : lv_has ls 5 [(1, .int (0 : Int32)), (0, .ref (ad 0))] := hl
  exact L7 (va_up σ 24 (0 : Int32)) α (0 : Int32) ls H locs (lv_sub hl [1, 0] rfl) hP hD hS hw
abbrev rm_Md_free : Room := { frames := 0, cells := 0, slots := 0, locals := 0 }
set_option maxHeartbeats 4000000 in
set_option maxRecDepth 100000 in
theorem c_Md_free (l : Launch) (D : va_G) (cI cS cZ : ClassId) (ad : Nat → Nat) (σ : Nat → Int32) (α : Nat → Nat → Int32) (x1 : Int32) (x2 : Int32) (post : Int32 → gS → Prop) (hw : wp_Md_free σ α x1 x2 post) : gMi l y_Md_free b_Md_free 6 .int rm_Md_free D (gT cI cS cZ) (fun u : gS => mW cI cS cZ ad u.1 u.2) [.ref (ad 0), .int x1, .int x2] (σ, α) post := by
  refine gMi.of (by decide) (Nat.le_of_ble_eq_true rfl) ?_
  intro p e s m below meth c Q A hx hb hml hown hts hK hN hA hS hP hD hret ls hl
  have hl : lv_has ls 6 [(0, .ref (ad 0)), (1, .int x1), (2, .int x2)] := hl
  have L2 : ∀ (σ : Nat → Int32) (α : Nat → Nat → Int32) (a1 : Int32) (a2 : Int32) (a3 : Int32) (ls : Array Slot) (H : Heap) (locs : List Loc), lv_has ls 6 [(0, .ref (ad 0)), (1, .int a1), (2, .int a2), (3, .int a3)] → va_P D gCl (mW cI cS cZ ad σ α) H → va_D A (mW cI cS cZ ad σ α) → va_S A s.heap H locs → wp_Md_free_L2 σ α a1 a2 a3 post → W p l e rm_Md_free s m ([.ref (ad 0), .int x1, .int x2] : List Value).toArray below meth c H locs 0 0 Q (F0 m 2 ls []) := by
    intro σ α a1 a2 a3 ls H locs hl hP hD hS hw
    let XL2 : (Nat → Int32) → (Nat → Nat → Int32) → Int32 → Int32 → Int32 → Prop := fun σ α a1 a2 a3 => ∀ (ls : Array Slot) (H : Heap) (locs : List Loc), lv_has ls 6 [(0, .ref (ad 0)), (1, .int a1), (2, .int a2), (3, .int a3)] → va_P D gCl (mW cI cS cZ ad σ α) H → va_D A (mW cI cS cZ ad σ α) → va_S A s.heap H locs → W p l e rm_Md_free s m ([.ref (ad 0), .int x1, .int x2] : List Value).toArray below meth c H locs 0 0 Q (F0 m 2 ls [])
    have hX2 : ∀ (σ : Nat → Int32) (α : Nat → Nat → Int32) (a1 : Int32) (a2 : Int32) (a3 : Int32) (ls : Array Slot) (H : Heap) (locs : List Loc), lv_has ls 6 [(0, .ref (ad 0)), (1, .int a1), (2, .int a2), (3, .int a3)] → va_P D gCl (mW cI cS cZ ad σ α) H → va_D A (mW cI cS cZ ad σ α) → va_S A s.heap H locs → XL2 σ α a1 a2 a3 → W p l e rm_Md_free s m ([.ref (ad 0), .int x1, .int x2] : List Value).toArray below meth c H locs 0 0 Q (F0 m 2 ls []) := fun σ α a1 a2 a3 ls H locs hl hP hD hS hw => hw ls H locs hl hP hD hS
    refine hw XL2 ?_ ls H locs hl hP hD hS
    clear hw hl hP hD hS
    intro σ α a1 a2 a3 hw ls H locs hl hP hD hS
    unfold wp_Md_free_B2 at hw
    have J98 : ∀ (σ : Nat → Int32) (α : Nat → Nat → Int32) (a1 : Int32) (a2 : Int32) (a3 : Int32) (ls : Array Slot) (H : Heap) (locs : List Loc), lv_has ls 6 [(0, .ref (ad 0)), (1, .int a1), (2, .int a2), (3, .int a3)] → va_P D gCl (mW cI cS cZ ad σ α) H → va_D A (mW cI cS cZ ad σ α) → va_S A s.heap H locs → wp_Md_free_J98 XL2 σ α a1 a2 a3 post → W p l e rm_Md_free s m ([.ref (ad 0), .int x1, .int x2] : List Value).toArray below meth c H locs 0 0 Q (F0 m 98 ls []) := by
      intro σ α a1 a2 a3 ls H locs hl hP hD hS hw
      unfold wp_Md_free_J98 at hw
      refine lv_iinc (k := 3) hx hb d_Md_free_98 hl rfl rfl (by decide) rfl (fun ls hl => ?_)
      have hl : lv_has ls 6 [(3, .int (a3 + Int32.ofInt 1)), (0, .ref (ad 0)), (1, .int a1), (2, .int a2)] := hl
      refine lv_goto (tgt := 2) hx hb d_Md_free_101 (by decide) ?_
      exact hX2 σ α a1 a2 (a3 + Int32.ofInt 1) ls H locs (lv_sub hl [1, 2, 3, 0] rfl) hP hD hS hw
    have J66 : ∀ (σ : Nat → Int32) (α : Nat → Nat → Int32) (a1 : Int32) (a2 : Int32) (a3 : Int32) (a4 : Int32) (a5 : Int32) (ls : Array Slot) (H : Heap) (locs : List Loc), lv_has ls 6 [(0, .ref (ad 0)), (1, .int a1), (2, .int a2), (3, .int a3), (4, .int a4), (5, .int a5)] → va_P D gCl (mW cI cS cZ ad σ α) H → va_D A (mW cI cS cZ ad σ α) → va_S A s.heap H locs → wp_Md_free_J66 XL2 σ α a1 a2 a3 a4 a5 post → W p l e rm_Md_free s m ([.ref (ad 0), .int x1, .int x2] : List Value).toArray below meth c H locs 0 0 Q (F0 m 66 ls []) := by
      intro σ α a1 a2 a3 a4 a5 ls H locs hl hP hD hS hw
      unfold wp_Md_free_J66 at hw
      refine lv_aload_n hx hb d_Md_free_66 rfl (lv_at hl 0 rfl) ?_
      refine va_get (D := D) (ci := 9) (v := .ref (ad 17)) (C := R_Md) (T := T_Md) (N := 47) hx hb hts i_Md hown hK hP 0 rfl rfl 41 (by decide) (hts _ tw_575) (fun _ h9 => h9) rfl d_Md_free_67 ?_
      refine lv_bipush (v := 32) hx hb d_Md_free_70 (by decide) ?_
      refine lv_iload hx hb d_Md_free_72 (lv_at hl 4 rfl) ?_
      refine lv_iadd hx hb d_Md_free_74 ?_
      obtain ⟨hin, hw⟩ := hw
      refine va_zald (f := α 17) hx hb hK hP 17 2 rfl rfl hin d_Md_free_75 ?_
      refine lv_if_ne (tgt := 98) hx hb d_Md_free_76 (by decide) (fun h => ?_) (fun h => ?_)
      · have hw := hw.1 h
        exact J98 σ α a1 a2 a3 ls H locs (lv_sub hl [0, 1, 2, 3] rfl) hP hD hS hw
      · have hw := hw.2 h
        refine lv_aload_n hx hb d_Md_free_79 rfl (lv_at hl 0 rfl) ?_
        refine va_get (D := D) (ci := 9) (v := .ref (ad 17)) (C := R_Md) (T := T_Md) (N := 47) hx hb hts i_Md hown hK hP 0 rfl rfl 41 (by decide) (hts _ tw_575) (fun _ h9 => h9) rfl d_Md_free_80 ?_
        refine lv_bipush (v := 32) hx hb d_Md_free_83 (by decide) ?_
        refine lv_iload hx hb d_Md_free_85 (lv_at hl 5 rfl) ?_
        refine lv_iadd hx hb d_Md_free_87 ?_
        obtain ⟨hin, hw⟩ := hw
        refine va_zald (f := α 17) hx hb hK hP 17 2 rfl rfl hin d_Md_free_88 ?_
        refine lv_if_ne (tgt := 98) hx hb d_Md_free_89 (by decide) (fun h => ?_) (fun h => ?_)
        · have hw := hw.1 h
          exact J98 σ α a1 a2 a3 ls H locs (lv_sub hl [0, 1, 2, 3] rfl) hP hD hS hw
        · have hw := hw.2 h
          refine lv_bipush (v := 32) hx hb d_Md_free_92 (by decide) ?_
          refine lv_iload hx hb d_Md_free_94 (lv_at hl 4 rfl) ?_
          refine lv_iadd hx hb d_Md_free_96 ?_
          exact hret H locs 97 ls ((32 : Int32) + a4) (σ, α) d_Md_free_97 hP hD hS (vp_nar_int _) hw
    have J41 : ∀ (σ : Nat → Int32) (α : Nat → Nat → Int32) (a1 : Int32) (a2 : Int32) (a3 : Int32) (a4 : Int32) (t0 : Int32) (ls : Array Slot) (H : Heap) (locs : List Loc), lv_has ls 6 [(0, .ref (ad 0)), (1, .int a1), (2, .int a2), (3, .int a3), (4, .int a4)] → va_P D gCl (mW cI cS cZ ad σ α) H → va_D A (mW cI cS cZ ad σ α) → va_S A s.heap H locs → wp_Md_free_J41 XL2 σ α a1 a2 a3 a4 t0 post → W p l e rm_Md_free s m ([.ref (ad 0), .int x1, .int x2] : List Value).toArray below meth c H locs 0 0 Q (F0 m 41 ls [.int t0]) := by
      intro σ α a1 a2 a3 a4 t0 ls H locs hl hP hD hS hw
      unfold wp_Md_free_J41 at hw
      refine lv_istore hx hb d_Md_free_41 hl (by decide) rfl (fun ls hl => ?_)
      have hl : lv_has ls 6 [(5, .int t0), (0, .ref (ad 0)), (1, .int a1), (2, .int a2), (3, .int a3), (4, .int a4)] := hl
      refine lv_aload_n hx hb d_Md_free_43 rfl (lv_at hl 1 rfl) ?_
      refine va_get (D := D) (ci := 9) (v := .ref (ad 17)) (C := R_Md) (T := T_Md) (N := 47) hx hb hts i_Md hown hK hP 0 rfl rfl 41 (by decide) (hts _ tw_575) (fun _ h9 => h9) rfl d_Md_free_44 ?_
      refine lv_iload hx hb d_Md_free_47 (lv_at hl 5 rfl) ?_
      obtain ⟨hin, hw⟩ := hw
      refine va_zald (f := α 17) hx hb hK hP 17 2 rfl rfl hin d_Md_free_49 ?_
      refine lv_if_ne (tgt := 66) hx hb d_Md_free_50 (by decide) (fun h => ?_) (fun h => ?_)
      · have hw := hw.1 h
        exact J66 σ α a1 a2 a3 a4 t0 ls H locs (lv_sub hl [1, 2, 3, 4, 5, 0] rfl) hP hD hS hw
      · have hw := hw.2 h
        refine lv_aload_n hx hb d_Md_free_53 rfl (lv_at hl 1 rfl) ?_
        refine va_get (D := D) (ci := 9) (v := .ref (ad 17)) (C := R_Md) (T := T_Md) (N := 47) hx hb hts i_Md hown hK hP 0 rfl rfl 41 (by decide) (hts _ tw_575) (fun _ h9 => h9) rfl d_Md_free_54 ?_
        refine lv_iload hx hb d_Md_free_57 (lv_at hl 0 rfl) ?_
        obtain ⟨hin, hw⟩ := hw
        refine va_zald (f := α 17) hx hb hK hP 17 2 rfl rfl hin d_Md_free_59 ?_
        refine lv_if_ne (tgt := 66) hx hb d_Md_free_60 (by decide) (fun h => ?_) (fun h => ?_)
        · have hw := hw.1 h
          exact J66 σ α a1 a2 a3 a4 t0 ls H locs (lv_sub hl [1, 2, 3, 4, 5, 0] rfl) hP hD hS hw
        · have hw := hw.2 h
          refine lv_iload hx hb d_Md_free_63 (lv_at hl 5 rfl) ?_
          exact hret H locs 65 ls a4 (σ, α) d_Md_free_65 hP hD hS (vp_nar_int _) hw
    have J14 : ∀ (σ : Nat → Int32) (α : Nat → Nat → Int32) (a1 : Int32) (a2 : Int32) (a3 : Int32) (t0 : Int32) (t1 : Int32) (ls : Array Slot) (H : Heap) (locs : List Loc), lv_has ls 6 [(0, .ref (ad 0)), (1, .int a1), (2, .int a2), (3, .int a3)] → va_P D gCl (mW cI cS cZ ad σ α) H → va_D A (mW cI cS cZ ad σ α) → va_S A s.heap H locs → wp_Md_free_J14 XL2 σ α a1 a2 a3 t0 t1 post → W p l e rm_Md_free s m ([.ref (ad 0), .int x1, .int x2] : List Value).toArray below meth c H locs 0 0 Q (F0 m 14 ls [.int t0, .int t1]) := by
      intro σ α a1 a2 a3 t0 t1 ls H locs hl hP hD hS hw
      unfold wp_Md_free_J14 at hw
      refine lv_icmp_ge (tgt := 104) hx hb d_Md_free_14 (by decide) (fun h => ?_) (fun h => ?_)
      · have hw := hw.1 h
        refine lv_iconst (v := (-1)) hx hb d_Md_free_104 (by decide) ?_
        exact hret H locs 105 ls (-1 : Int32) (σ, α) d_Md_free_105 hP hD hS (vp_nar_int _) hw
      · have hw := hw.2 h
        refine lv_iload_n hx hb d_Md_free_17 rfl (lv_at hl 1 rfl) ?_
        refine lv_iload_n hx hb d_Md_free_18 rfl (lv_at hl 3 rfl) ?_
        refine lv_iadd hx hb d_Md_free_19 ?_
        refine lv_bipush (v := 31) hx hb d_Md_free_20 (by decide) ?_
        refine lv_iand hx hb d_Md_free_22 ?_
        refine lv_istore hx hb d_Md_free_23 hl (by decide) rfl (fun ls hl => ?_)
        have hl : lv_has ls 6 [(4, .int ((a1 + a3) &&& (31 : Int32))), (0, .ref (ad 0)), (1, .int a1), (2, .int a2), (3, .int a3)] := hl
        refine lv_iload_n hx hb d_Md_free_25 rfl (lv_at hl 3 rfl) ?_
        refine lv_if_eq (tgt := 39) hx hb d_Md_free_26 (by decide) (fun h => ?_) (fun h => ?_)
        · have hw := hw.1 h
          refine lv_iload hx hb d_Md_free_39 (lv_at hl 0 rfl) ?_
          exact J41 σ α a1 a2 a3 ((a1 + a3) &&& (31 : Int32)) ((a1 + a3) &&& (31 : Int32)) ls H locs (lv_sub hl [1, 2, 3, 4, 0] rfl) hP hD hS hw
        · have hw := hw.2 h
          refine lv_iload hx hb d_Md_free_29 (lv_at hl 0 rfl) ?_
          refine lv_iconst (v := 1) hx hb d_Md_free_31 (by decide) ?_
          refine lv_iadd hx hb d_Md_free_32 ?_
          refine lv_bipush (v := 31) hx hb d_Md_free_33 (by decide) ?_
          refine lv_iand hx hb d_Md_free_35 ?_
          refine lv_goto (tgt := 41) hx hb d_Md_free_36 (by decide) ?_
          exact J41 σ α a1 a2 a3 ((a1 + a3) &&& (31 : Int32)) ((((a1 + a3) &&& (31 : Int32)) + (1 : Int32)) &&& (31 : Int32)) ls H locs (lv_sub hl [1, 2, 3, 4, 0] rfl) hP hD hS hw
    refine lv_iload_n hx hb d_Md_free_2 rfl (lv_at hl 3 rfl) ?_
    refine lv_iload_n hx hb d_Md_free_3 rfl (lv_at hl 2 rfl) ?_
    refine lv_if_eq (tgt := 12) hx hb d_Md_free_4 (by decide) (fun h => ?_) (fun h => ?_)
    · have hw := hw.1 h
      refine lv_bipush (v := 32) hx hb d_Md_free_12 (by decide) ?_
      exact J14 σ α a1 a2 a3 (32 : Int32) a3 ls H locs (lv_sub hl [0, 1, 2, 3] rfl) hP hD hS hw
    · have hw := hw.2 h
      refine lv_bipush (v := 31) hx hb d_Md_free_7 (by decide) ?_
      refine lv_goto (tgt := 14) hx hb d_Md_free_9 (by decide) ?_
      exact J14 σ α a1 a2 a3 (31 : Int32) a3 ls H locs (lv_sub hl [0, 1, 2, 3] rfl) hP hD hS hw
  unfold wp_Md_free at hw
  have hP : va_P D gCl (mW cI cS cZ ad σ α) s.heap := hP
  have hD : va_D A (mW cI cS cZ ad σ α) := hD
  obtain ⟨H, hH⟩ : ∃ H, H = s.heap := ⟨_, rfl⟩
  obtain ⟨locs, hlocs⟩ : ∃ locs : List Loc, locs = [] := ⟨_, rfl⟩
  have hP : va_P D gCl (mW cI cS cZ ad σ α) H := by rw [hH]; exact hP
  have hS : va_S A s.heap H locs := by rw [hH, hlocs]; exact hS
  suffices K : W p l e rm_Md_free s m ([.ref (ad 0), .int x1, .int x2] : List Value).toArray below meth c H locs 0 0 Q (F0 m 0 ls []) by rw [hH, hlocs] at K; exact K
  clear hH hlocs
  refine lv_iconst (v := 0) hx hb d_Md_free_0 (by decide) ?_
  refine lv_istore_n hx hb d_Md_free_1 rfl hl (by decide) rfl (fun ls hl => ?_)
  have hl : lv_has ls 6 [(3, .int (0 : Int32)), (0, .ref (ad 0)), (1, .int x1), (2, .int x2)] := hl
  exact L2 σ α x1 x2 (0 : Int32) ls H locs (lv_sub hl [1, 2, 3, 0] rfl) hP hD hS hw
abbrev rm_Md_variableFrom : Room := { frames := 0, cells := 0, slots := 0, locals := 0 }
set_option maxHeartbeats 4000000 in
set_option maxRecDepth 100000 in
theorem c_Md_variableFrom (l : Launch) (D : va_G) (cI cS cZ : ClassId) (ad : Nat → Nat) (σ : Nat → Int32) (α : Nat → Nat → Int32) (x1 : Int32) (x2 : Int32) (post : Int32 → gS → Prop) (hw : wp_Md_variableFrom σ α x1 x2 post) : gMi l y_Md_variableFrom b_Md_variableFrom 4 .int rm_Md_variableFrom D (gT cI cS cZ) (fun u : gS => mW cI cS cZ ad u.1 u.2) [.ref (ad 0), .int x1, .int x2] (σ, α) post := by
  refine gMi.of (by decide) (Nat.le_of_ble_eq_true rfl) ?_
  intro p e s m below meth c Q A hx hb hml hown hts hK hN hA hS hP hD hret ls hl
  have hl : lv_has ls 4 [(0, .ref (ad 0)), (1, .int x1), (2, .int x2)] := hl
  have L5 : ∀ (σ : Nat → Int32) (α : Nat → Nat → Int32) (a1 : Int32) (a3 : Int32) (ls : Array Slot) (H : Heap) (locs : List Loc), lv_has ls 4 [(0, .ref (ad 0)), (1, .int a1), (3, .int a3)] → va_P D gCl (mW cI cS cZ ad σ α) H → va_D A (mW cI cS cZ ad σ α) → va_S A s.heap H locs → wp_Md_variableFrom_L5 σ α a1 a3 post → W p l e rm_Md_variableFrom s m ([.ref (ad 0), .int x1, .int x2] : List Value).toArray below meth c H locs 0 0 Q (F0 m 5 ls []) := by
    intro σ α a1 a3 ls H locs hl hP hD hS hw
    let XL5 : (Nat → Int32) → (Nat → Nat → Int32) → Int32 → Int32 → Prop := fun σ α a1 a3 => ∀ (ls : Array Slot) (H : Heap) (locs : List Loc), lv_has ls 4 [(0, .ref (ad 0)), (1, .int a1), (3, .int a3)] → va_P D gCl (mW cI cS cZ ad σ α) H → va_D A (mW cI cS cZ ad σ α) → va_S A s.heap H locs → W p l e rm_Md_variableFrom s m ([.ref (ad 0), .int x1, .int x2] : List Value).toArray below meth c H locs 0 0 Q (F0 m 5 ls [])
    have hX5 : ∀ (σ : Nat → Int32) (α : Nat → Nat → Int32) (a1 : Int32) (a3 : Int32) (ls : Array Slot) (H : Heap) (locs : List Loc), lv_has ls 4 [(0, .ref (ad 0)), (1, .int a1), (3, .int a3)] → va_P D gCl (mW cI cS cZ ad σ α) H → va_D A (mW cI cS cZ ad σ α) → va_S A s.heap H locs → XL5 σ α a1 a3 → W p l e rm_Md_variableFrom s m ([.ref (ad 0), .int x1, .int x2] : List Value).toArray below meth c H locs 0 0 Q (F0 m 5 ls []) := fun σ α a1 a3 ls H locs hl hP hD hS hw => hw ls H locs hl hP hD hS
    refine hw XL5 ?_ ls H locs hl hP hD hS
    clear hw hl hP hD hS
    intro σ α a1 a3 hw ls H locs hl hP hD hS
    unfold wp_Md_variableFrom_B5 at hw
    have J30 : ∀ (σ : Nat → Int32) (α : Nat → Nat → Int32) (a1 : Int32) (a3 : Int32) (ls : Array Slot) (H : Heap) (locs : List Loc), lv_has ls 4 [(0, .ref (ad 0)), (1, .int a1), (3, .int a3)] → va_P D gCl (mW cI cS cZ ad σ α) H → va_D A (mW cI cS cZ ad σ α) → va_S A s.heap H locs → wp_Md_variableFrom_J30 XL5 σ α a1 a3 post → W p l e rm_Md_variableFrom s m ([.ref (ad 0), .int x1, .int x2] : List Value).toArray below meth c H locs 0 0 Q (F0 m 30 ls []) := by
      intro σ α a1 a3 ls H locs hl hP hD hS hw
      unfold wp_Md_variableFrom_J30 at hw
      refine lv_iload_n hx hb d_Md_variableFrom_30 rfl (lv_at hl 2 rfl) ?_
      refine lv_iconst (v := 1) hx hb d_Md_variableFrom_31 (by decide) ?_
      refine lv_iadd hx hb d_Md_variableFrom_32 ?_
      refine lv_bipush (v := 31) hx hb d_Md_variableFrom_33 (by decide) ?_
      refine lv_iand hx hb d_Md_variableFrom_35 ?_
      refine lv_istore_n hx hb d_Md_variableFrom_36 rfl hl (by decide) rfl (fun ls hl => ?_)
      have hl : lv_has ls 4 [(3, .int ((a3 + (1 : Int32)) &&& (31 : Int32))), (0, .ref (ad 0)), (1, .int a1)] := hl
      refine lv_goto (tgt := 5) hx hb d_Md_variableFrom_37 (by decide) ?_
      exact hX5 σ α a1 ((a3 + (1 : Int32)) &&& (31 : Int32)) ls H locs (lv_sub hl [1, 2, 0] rfl) hP hD hS hw
    refine lv_aload_n hx hb d_Md_variableFrom_5 rfl (lv_at hl 0 rfl) ?_
    refine va_get (D := D) (ci := 9) (v := .ref (ad 19)) (C := R_Md) (T := T_Md) (N := 47) hx hb hts i_Md hown hK hP 0 rfl rfl 43 (by decide) (hts _ tw_577) (fun _ h9 => h9) rfl d_Md_variableFrom_6 ?_
    refine lv_iload_n hx hb d_Md_variableFrom_9 rfl (lv_at hl 1 rfl) ?_
    obtain ⟨hin, hw⟩ := hw
    refine va_iald (f := α 19) hx hb hK hP 19 0 rfl rfl hin d_Md_variableFrom_10 ?_
    refine lv_if_ge (tgt := 40) hx hb d_Md_variableFrom_11 (by decide) (fun h => ?_) (fun h => ?_)
    · have hw := hw.1 h
      refine lv_aload_n hx hb d_Md_variableFrom_40 rfl (lv_at hl 0 rfl) ?_
      refine va_get (D := D) (ci := 9) (v := .ref (ad 18)) (C := R_Md) (T := T_Md) (N := 47) hx hb hts i_Md hown hK hP 0 rfl rfl 42 (by decide) (hts _ tw_576) (fun _ h9 => h9) rfl d_Md_variableFrom_41 ?_
      refine lv_aload_n hx hb d_Md_variableFrom_44 rfl (lv_at hl 0 rfl) ?_
      refine va_get (D := D) (ci := 9) (v := .ref (ad 19)) (C := R_Md) (T := T_Md) (N := 47) hx hb hts i_Md hown hK hP 0 rfl rfl 43 (by decide) (hts _ tw_577) (fun _ h9 => h9) rfl d_Md_variableFrom_45 ?_
      refine lv_iload_n hx hb d_Md_variableFrom_48 rfl (lv_at hl 1 rfl) ?_
      obtain ⟨hin, hw⟩ := hw
      refine va_iald (f := α 19) hx hb hK hP 19 0 rfl rfl hin d_Md_variableFrom_49 ?_
      refine lv_iconst (v := 1) hx hb d_Md_variableFrom_50 (by decide) ?_
      obtain ⟨hin, hw⟩ := hw
      refine va_zast (f := α 18) (i := α 19 a1.toNatClampNeg) (x := (1 : Int32)) hx hb hK hP hD hS 18 2 rfl rfl hin d_Md_variableFrom_51 (fun H locs hP hD hS => ?_)
      rw [mW_s18] at hP hD
      have hP : va_P D gCl (mW cI cS cZ ad σ (va_up α 18 (upd (α 18) (α 19 a1.toNatClampNeg).toNatClampNeg (vp_nar .boolean (1 : Int32))))) H := hP
      have hD : va_D A (mW cI cS cZ ad σ (va_up α 18 (upd (α 18) (α 19 a1.toNatClampNeg).toNatClampNeg (vp_nar .boolean (1 : Int32))))) := hD
      refine lv_aload_n hx hb d_Md_variableFrom_52 rfl (lv_at hl 0 rfl) ?_
      refine va_get (D := D) (ci := 9) (v := .ref (ad 19)) (C := R_Md) (T := T_Md) (N := 47) hx hb hts i_Md hown hK hP 0 rfl rfl 43 (by decide) (hts _ tw_577) (fun _ h9 => h9) rfl d_Md_variableFrom_53 ?_
      refine lv_iload_n hx hb d_Md_variableFrom_56 rfl (lv_at hl 1 rfl) ?_
      obtain ⟨hin, hw⟩ := hw
      refine va_iald (f := α 19) hx hb hK hP 19 0 rfl rfl hin d_Md_variableFrom_57 ?_
      exact hret H locs 58 ls (α 19 a1.toNatClampNeg) (σ, (va_up α 18 (upd (α 18) (α 19 a1.toNatClampNeg).toNatClampNeg (vp_nar .boolean (1 : Int32))))) d_Md_variableFrom_58 hP hD hS (vp_nar_int _) hw
    · have hw := hw.2 h
      refine lv_aload_n hx hb d_Md_variableFrom_14 rfl (lv_at hl 0 rfl) ?_
      refine va_get (D := D) (ci := 9) (v := .ref (ad 18)) (C := R_Md) (T := T_Md) (N := 47) hx hb hts i_Md hown hK hP 0 rfl rfl 42 (by decide) (hts _ tw_576) (fun _ h9 => h9) rfl d_Md_variableFrom_15 ?_
      refine lv_iload_n hx hb d_Md_variableFrom_18 rfl (lv_at hl 2 rfl) ?_
      obtain ⟨hin, hw⟩ := hw
      refine va_zald (f := α 18) hx hb hK hP 18 2 rfl rfl hin d_Md_variableFrom_19 ?_
      refine lv_if_ne (tgt := 30) hx hb d_Md_variableFrom_20 (by decide) (fun h => ?_) (fun h => ?_)
      · have hw := hw.1 h
        exact J30 σ α a1 a3 ls H locs (lv_sub hl [0, 1, 2] rfl) hP hD hS hw
      · have hw := hw.2 h
        refine lv_aload_n hx hb d_Md_variableFrom_23 rfl (lv_at hl 0 rfl) ?_
        refine va_get (D := D) (ci := 9) (v := .ref (ad 19)) (C := R_Md) (T := T_Md) (N := 47) hx hb hts i_Md hown hK hP 0 rfl rfl 43 (by decide) (hts _ tw_577) (fun _ h9 => h9) rfl d_Md_variableFrom_24 ?_
        refine lv_iload_n hx hb d_Md_variableFrom_27 rfl (lv_at hl 1 rfl) ?_
        refine lv_iload_n hx hb d_Md_variableFrom_28 rfl (lv_at hl 2 rfl) ?_
        obtain ⟨hin, hw⟩ := hw
        refine va_iast (f := α 19) (i := a1) (x := a3) hx hb hK hP hD hS 19 0 rfl rfl hin d_Md_variableFrom_29 (fun H locs hP hD hS => ?_)
        rw [mW_s19] at hP hD
        have hP : va_P D gCl (mW cI cS cZ ad σ (va_up α 19 (upd (α 19) a1.toNatClampNeg a3))) H := hP
        have hD : va_D A (mW cI cS cZ ad σ (va_up α 19 (upd (α 19) a1.toNatClampNeg a3))) := hD
        exact J30 σ (va_up α 19 (upd (α 19) a1.toNatClampNeg a3)) a1 a3 ls H locs (lv_sub hl [0, 1, 2] rfl) hP hD hS hw
  unfold wp_Md_variableFrom at hw
  have hP : va_P D gCl (mW cI cS cZ ad σ α) s.heap := hP
  have hD : va_D A (mW cI cS cZ ad σ α) := hD
  obtain ⟨H, hH⟩ : ∃ H, H = s.heap := ⟨_, rfl⟩
  obtain ⟨locs, hlocs⟩ : ∃ locs : List Loc, locs = [] := ⟨_, rfl⟩
  have hP : va_P D gCl (mW cI cS cZ ad σ α) H := by rw [hH]; exact hP
  have hS : va_S A s.heap H locs := by rw [hH, hlocs]; exact hS
  suffices K : W p l e rm_Md_variableFrom s m ([.ref (ad 0), .int x1, .int x2] : List Value).toArray below meth c H locs 0 0 Q (F0 m 0 ls []) by rw [hH, hlocs] at K; exact K
  clear hH hlocs
  refine lv_iload_n hx hb d_Md_variableFrom_0 rfl (lv_at hl 2 rfl) ?_
  refine lv_bipush (v := 31) hx hb d_Md_variableFrom_1 (by decide) ?_
  refine lv_iand hx hb d_Md_variableFrom_3 ?_
  refine lv_istore_n hx hb d_Md_variableFrom_4 rfl hl (by decide) rfl (fun ls hl => ?_)
  have hl : lv_has ls 4 [(3, .int (x2 &&& (31 : Int32))), (0, .ref (ad 0)), (1, .int x1), (2, .int x2)] := hl
  exact L5 σ α x1 (x2 &&& (31 : Int32)) ls H locs (lv_sub hl [1, 2, 0] rfl) hP hD hS hw
