abbrev rm_Mc_takeOrder : Room := { frames := 2, cells := 0, slots := 0, locals := 46 }
set_option maxHeartbeats 4000000 in
set_option maxRecDepth 100000 in
theorem c_Mc_takeOrder (l : Launch) (D : va_G) (cI cS cZ : ClassId) (ad : Nat → Nat) (kp tp : Nat → Nat) (wc : Nat) (wb : Nat) (σ : Nat → Int32) (α : Nat → Nat → Int32) (post : gSW → Prop) (hw : wp_Mc_takeOrder wc wb σ α post) : gMv l y_Mc_takeOrder b_Mc_takeOrder 3 rm_Mc_takeOrder D (gT cI cS cZ) (fun u : gSW => xW cI cS cZ ad u.1 u.2.1 kp tp u.2.2.1 u.2.2.2) [.ref (ad 8)] (wc, wb, σ, α) post := by
  refine gMv.of (by decide) (Nat.le_of_ble_eq_true rfl) ?_
  intro p e s m below meth c Q A hx hb hml hown hts hK hN hA hS hP hD hret ls hl
  have hl : lv_has ls 3 [(0, .ref (ad 8))] := hl
  unfold wp_Mc_takeOrder at hw
  have hP : va_P D gCl (xW cI cS cZ ad wc wb kp tp σ α) s.heap := hP
  have hD : va_D A (xW cI cS cZ ad wc wb kp tp σ α) := hD
  obtain ⟨H, hH⟩ : ∃ H, H = s.heap := ⟨_, rfl⟩
  obtain ⟨locs, hlocs⟩ : ∃ locs : List Loc, locs = [] := ⟨_, rfl⟩
  have hP : va_P D gCl (xW cI cS cZ ad wc wb kp tp σ α) H := by rw [hH]; exact hP
  have hS : va_S A s.heap H locs := by rw [hH, hlocs]; exact hS
  suffices K : W p l e rm_Mc_takeOrder s m ([.ref (ad 8)] : List Value).toArray below meth c H locs 0 0 Q (F0 m 0 ls []) by rw [hH, hlocs] at K; exact K
  clear hH hlocs
  refine lv_aload_n hx hb d_Mc_takeOrder_0 rfl (lv_at hl 0 rfl) ?_
  refine lv_aload_n hx hb d_Mc_takeOrder_1 rfl (lv_at hl 0 rfl) ?_
  refine va_get (D := D) (ci := 4) (v := .int (σ 10)) (C := R_Mc) (T := T_Mc) (N := 14) hx hb hts i_Mc hown hK hP 8 rfl rfl 9 (by decide) (hts _ tw_145) (fun _ h9 => h9) rfl d_Mc_takeOrder_2 ?_
  refine va_put (D := D) (ci := 4) (v := .int (σ 10)) (ty := .int) (C := R_Mc) (T := T_Mc) (N := 14) hx hb hts i_Mc t_Mc o_Mc n_Mc hown hK hP hD hS 8 rfl rfl 11 (by decide) (hts _ tw_147) (fun _ h9 => h9) rfl (by decide +kernel) rfl rfl (Nat.le_of_ble_eq_true rfl) d_Mc_takeOrder_5 (fun H locs hP hD hS => ?_)
  have hP : va_P D gCl (xW cI cS cZ ad wc wb kp tp (va_up σ 12 (σ 10)) α) H := hP
  have hD : va_D A (xW cI cS cZ ad wc wb kp tp (va_up σ 12 (σ 10)) α) := hD
  refine lv_aload_n hx hb d_Mc_takeOrder_8 rfl (lv_at hl 0 rfl) ?_
  refine lv_aload_n hx hb d_Mc_takeOrder_9 rfl (lv_at hl 0 rfl) ?_
  refine va_get (D := D) (ci := 4) (v := .int (σ 9)) (C := R_Mc) (T := T_Mc) (N := 14) hx hb hts i_Mc hown hK hP 8 rfl rfl 8 (by decide) (hts _ tw_143) (fun _ h9 => h9) rfl d_Mc_takeOrder_10 ?_
  refine lv_bipush (v := 31) hx hb d_Mc_takeOrder_13 (by decide) ?_
  refine lv_iand hx hb d_Mc_takeOrder_15 ?_
  refine va_put (D := D) (ci := 4) (v := .int ((σ 9) &&& (31 : Int32))) (ty := .int) (C := R_Mc) (T := T_Mc) (N := 14) hx hb hts i_Mc t_Mc o_Mc n_Mc hown hK hP hD hS 8 rfl rfl 12 (by decide) (hts _ tw_149) (fun _ h9 => h9) rfl (by decide +kernel) rfl rfl (Nat.le_of_ble_eq_true rfl) d_Mc_takeOrder_16 (fun H locs hP hD hS => ?_)
  have hP : va_P D gCl (xW cI cS cZ ad wc wb kp tp (va_up (va_up σ 12 (σ 10)) 13 ((σ 9) &&& (31 : Int32))) α) H := hP
  have hD : va_D A (xW cI cS cZ ad wc wb kp tp (va_up (va_up σ 12 (σ 10)) 13 ((σ 9) &&& (31 : Int32))) α) := hD
  refine lv_aload_n hx hb d_Mc_takeOrder_19 rfl (lv_at hl 0 rfl) ?_
  refine lv_dup hx hb d_Mc_takeOrder_20 rfl ?_
  refine va_get (D := D) (ci := 4) (v := .int (σ 14)) (C := R_Mc) (T := T_Mc) (N := 14) hx hb hts i_Mc hown hK hP 8 rfl rfl 13 (by decide) (hts _ tw_151) (fun _ h9 => h9) rfl d_Mc_takeOrder_21 ?_
  refine lv_iconst (v := 1) hx hb d_Mc_takeOrder_24 (by decide) ?_
  refine lv_iadd hx hb d_Mc_takeOrder_25 ?_
  refine va_put (D := D) (ci := 4) (v := .int ((σ 14) + (1 : Int32))) (ty := .int) (C := R_Mc) (T := T_Mc) (N := 14) hx hb hts i_Mc t_Mc o_Mc n_Mc hown hK hP hD hS 8 rfl rfl 13 (by decide) (hts _ tw_151) (fun _ h9 => h9) rfl (by decide +kernel) rfl rfl (Nat.le_of_ble_eq_true rfl) d_Mc_takeOrder_26 (fun H locs hP hD hS => ?_)
  have hP : va_P D gCl (xW cI cS cZ ad wc wb kp tp (va_up (va_up (va_up σ 12 (σ 10)) 13 ((σ 9) &&& (31 : Int32))) 14 ((σ 14) + (1 : Int32))) α) H := hP
  have hD : va_D A (xW cI cS cZ ad wc wb kp tp (va_up (va_up (va_up σ 12 (σ 10)) 13 ((σ 9) &&& (31 : Int32))) 14 ((σ 14) + (1 : Int32))) α) := hD
  refine lv_aload_n hx hb d_Mc_takeOrder_29 rfl (lv_at hl 0 rfl) ?_
  refine va_get (D := D) (ci := 4) (v := .ref (ad 1)) (C := R_Mc) (T := T_Mc) (N := 14) hx hb hts i_Mc hown hK hP 8 rfl rfl 0 (by decide) (hts _ tw_132) (fun _ h9 => h9) rfl d_Mc_takeOrder_30 ?_
  refine va_getN (D := D) (ci := 1) (v := .ref (ad 2)) (C := R_St) (T := T_St) (N := 2) hx hb hts i_St hown hK hP 1 rfl rfl 0 (by decide) (va_Nw.use rfl (hN _ tn_29)) (fun _ h9 => h9) rfl d_Mc_takeOrder_33 ?_
  refine lv_aload_n hx hb d_Mc_takeOrder_36 rfl (lv_at hl 0 rfl) ?_
  refine va_get (D := D) (ci := 4) (v := .int (σ 10)) (C := R_Mc) (T := T_Mc) (N := 14) hx hb hts i_Mc hown hK hP 8 rfl rfl 11 (by decide) (hts _ tw_147) (fun _ h9 => h9) rfl d_Mc_takeOrder_37 ?_
  refine lv_bipush (v := 32) hx hb d_Mc_takeOrder_40 (by decide) ?_
  refine lv_imul hx hb d_Mc_takeOrder_42 ?_
  refine lv_aload_n hx hb d_Mc_takeOrder_43 rfl (lv_at hl 0 rfl) ?_
  refine va_get (D := D) (ci := 4) (v := .int ((σ 9) &&& (31 : Int32))) (C := R_Mc) (T := T_Mc) (N := 14) hx hb hts i_Mc hown hK hP 8 rfl rfl 12 (by decide) (hts _ tw_149) (fun _ h9 => h9) rfl d_Mc_takeOrder_44 ?_
  refine lv_iadd hx hb d_Mc_takeOrder_47 ?_
  obtain ⟨hin, hw⟩ := hw
  refine va_iald (f := α 2) hx hb hK hP 2 0 rfl rfl hin d_Mc_takeOrder_48 ?_
  refine lv_istore_n hx hb d_Mc_takeOrder_49 rfl hl (by decide) rfl (fun ls hl => ?_)
  have hl : lv_has ls 3 [(1, .int (α 2 (((σ 10) * (32 : Int32)) + ((σ 9) &&& (31 : Int32))).toNatClampNeg)), (0, .ref (ad 8))] := hl
  refine lv_aload_n hx hb d_Mc_takeOrder_50 rfl (lv_at hl 1 rfl) ?_
  refine va_get (D := D) (ci := 4) (v := .ref (wb)) (C := R_Mc) (T := T_Mc) (N := 14) hx hb hts i_Mc hown hK hP 8 rfl rfl 5 (by decide) (hts _ tw_138) (fun _ h9 => h9) rfl d_Mc_takeOrder_51 ?_
  refine lv_astore_n hx hb d_Mc_takeOrder_54 rfl hl (by decide) rfl (fun ls hl => ?_)
  have hl : lv_has ls 3 [(2, .ref (wb)), (1, .int (α 2 (((σ 10) * (32 : Int32)) + ((σ 9) &&& (31 : Int32))).toNatClampNeg)), (0, .ref (ad 8))] := hl
  refine lv_aload_n hx hb d_Mc_takeOrder_55 rfl (lv_at hl 2 rfl) ?_
  refine lv_aload_n hx hb d_Mc_takeOrder_56 rfl (lv_at hl 2 rfl) ?_
  refine va_get (D := D) (ci := 4) (v := .ref (wc)) (C := R_Mc) (T := T_Mc) (N := 14) hx hb hts i_Mc hown hK hP 8 rfl rfl 4 (by decide) (hts _ tw_137) (fun _ h9 => h9) rfl d_Mc_takeOrder_57 ?_
  refine va_put (D := D) (ci := 4) (v := .ref (wc)) (ty := .object "DelayMachine$Window") (C := R_Mc) (T := T_Mc) (N := 14) hx hb hts i_Mc t_Mc o_Mc n_Mc hown hK hP hD hS 8 rfl rfl 5 (by decide) (hts _ tw_138) (fun _ h9 => h9) rfl (by decide +kernel) rfl rfl (Nat.le_of_ble_eq_true rfl) d_Mc_takeOrder_60 (fun H locs hP hD hS => ?_)
  have hP : va_P D gCl ([(ad 0, .inr (0, [.ref (ad 1), .ref (ad 4), .ref (ad 6), .ref (ad 8), .ref (ad 12), .ref (kp 0), .ref (tp 0)])), (ad 1, .inr (1, [.ref (ad 2), .ref (ad 3)])), (ad 2, .inl (cI, 64, .inl (α 2))), (ad 3, .inl (cS, 132, .inl (α 3))), (ad 4, .inr (2, [.ref (ad 5), .int (σ 0), .int (σ 1), .int (σ 2), .int (σ 3), .int (σ 4)])), (ad 5, .inl (cS, 48, .inl (α 5))), (ad 6, .inr (3, [.ref (ad 7), .int (σ 5), .int (σ 6)])), (ad 7, .inl (cS, 60, .inl (α 7))), (ad 8, .inr (4, [.ref (ad 1), .ref (ad 4), .ref (ad 6), .ref (ad 9), .ref (wc), .ref (wc), .int (σ 7), .int (σ 8), .int (σ 9), .int (σ 10), .int (σ 11), .int (σ 10), .int ((σ 9) &&& (31 : Int32)), .int ((σ 14) + (1 : Int32))])), (ad 9, .inr (5, [.int (σ 15), .int (σ 16), .int (σ 17)])), (wc, .inr (6, [.int (σ 18), .int (σ 19), .int (σ 20), .int (σ 21), .int (σ 22)])), (wb, .inr (6, [.int (σ 23), .int (σ 24), .int (σ 25), .int (σ 26), .int (σ 27)])), (ad 12, .inr (7, [.ref (ad 13), .ref (ad 14), .ref (ad 15), .ref (ad 16), .ref (ad 17), .int (σ 28)])), (ad 13, .inl (cI, 12, .inl (α 13))), (ad 14, .inl (cI, 12, .inl (α 14))), (ad 15, .inl (cI, 12, .inl (α 15))), (ad 16, .inl (cI, 12, .inl (α 16))), (ad 17, .inl (cI, 12, .inl (α 17))), (kp 0, .inr (8, [.ref (kp 1), .ref (kp 2), .ref (kp 3), .ref (kp 4), .ref (kp 5), .int (σ 29), .int (σ 30), .int (σ 31), .int (σ 32)])), (kp 1, .inl (cI, 64, .inl (α 19))), (kp 2, .inl (cI, 32, .inl (α 20))), (kp 3, .inl (cI, 16, .inl (α 21))), (kp 4, .inl (cI, 12, .inl (α 22))), (kp 5, .inl (cI, 12, .inl (α 23))), (tp 0, .inr (8, [.ref (tp 1), .ref (tp 2), .ref (tp 3), .ref (tp 4), .ref (tp 5), .int (σ 33), .int (σ 34), .int (σ 35), .int (σ 36)])), (tp 1, .inl (cI, 64, .inl (α 25))), (tp 2, .inl (cI, 32, .inl (α 26))), (tp 3, .inl (cI, 16, .inl (α 27))), (tp 4, .inl (cI, 12, .inl (α 28))), (tp 5, .inl (cI, 12, .inl (α 29)))] : va_W) H := hP
  have hD : va_D A ([(ad 0, .inr (0, [.ref (ad 1), .ref (ad 4), .ref (ad 6), .ref (ad 8), .ref (ad 12), .ref (kp 0), .ref (tp 0)])), (ad 1, .inr (1, [.ref (ad 2), .ref (ad 3)])), (ad 2, .inl (cI, 64, .inl (α 2))), (ad 3, .inl (cS, 132, .inl (α 3))), (ad 4, .inr (2, [.ref (ad 5), .int (σ 0), .int (σ 1), .int (σ 2), .int (σ 3), .int (σ 4)])), (ad 5, .inl (cS, 48, .inl (α 5))), (ad 6, .inr (3, [.ref (ad 7), .int (σ 5), .int (σ 6)])), (ad 7, .inl (cS, 60, .inl (α 7))), (ad 8, .inr (4, [.ref (ad 1), .ref (ad 4), .ref (ad 6), .ref (ad 9), .ref (wc), .ref (wc), .int (σ 7), .int (σ 8), .int (σ 9), .int (σ 10), .int (σ 11), .int (σ 10), .int ((σ 9) &&& (31 : Int32)), .int ((σ 14) + (1 : Int32))])), (ad 9, .inr (5, [.int (σ 15), .int (σ 16), .int (σ 17)])), (wc, .inr (6, [.int (σ 18), .int (σ 19), .int (σ 20), .int (σ 21), .int (σ 22)])), (wb, .inr (6, [.int (σ 23), .int (σ 24), .int (σ 25), .int (σ 26), .int (σ 27)])), (ad 12, .inr (7, [.ref (ad 13), .ref (ad 14), .ref (ad 15), .ref (ad 16), .ref (ad 17), .int (σ 28)])), (ad 13, .inl (cI, 12, .inl (α 13))), (ad 14, .inl (cI, 12, .inl (α 14))), (ad 15, .inl (cI, 12, .inl (α 15))), (ad 16, .inl (cI, 12, .inl (α 16))), (ad 17, .inl (cI, 12, .inl (α 17))), (kp 0, .inr (8, [.ref (kp 1), .ref (kp 2), .ref (kp 3), .ref (kp 4), .ref (kp 5), .int (σ 29), .int (σ 30), .int (σ 31), .int (σ 32)])), (kp 1, .inl (cI, 64, .inl (α 19))), (kp 2, .inl (cI, 32, .inl (α 20))), (kp 3, .inl (cI, 16, .inl (α 21))), (kp 4, .inl (cI, 12, .inl (α 22))), (kp 5, .inl (cI, 12, .inl (α 23))), (tp 0, .inr (8, [.ref (tp 1), .ref (tp 2), .ref (tp 3), .ref (tp 4), .ref (tp 5), .int (σ 33), .int (σ 34), .int (σ 35), .int (σ 36)])), (tp 1, .inl (cI, 64, .inl (α 25))), (tp 2, .inl (cI, 32, .inl (α 26))), (tp 3, .inl (cI, 16, .inl (α 27))), (tp 4, .inl (cI, 12, .inl (α 28))), (tp 5, .inl (cI, 12, .inl (α 29)))] : va_W) := hD
  refine lv_aload_n hx hb d_Mc_takeOrder_63 rfl (lv_at hl 2 rfl) ?_
  refine lv_aload_n hx hb d_Mc_takeOrder_64 rfl (lv_at hl 0 rfl) ?_
  refine va_put (D := D) (ci := 4) (v := .ref (wb)) (ty := .object "DelayMachine$Window") (C := R_Mc) (T := T_Mc) (N := 14) hx hb hts i_Mc t_Mc o_Mc n_Mc hown hK hP hD hS 8 rfl rfl 4 (by decide) (hts _ tw_137) (fun _ h9 => h9) rfl (by decide +kernel) rfl rfl (Nat.le_of_ble_eq_true rfl) d_Mc_takeOrder_65 (fun H locs hP hD hS => ?_)
  have hP : va_P D gCl ([(ad 0, .inr (0, [.ref (ad 1), .ref (ad 4), .ref (ad 6), .ref (ad 8), .ref (ad 12), .ref (kp 0), .ref (tp 0)])), (ad 1, .inr (1, [.ref (ad 2), .ref (ad 3)])), (ad 2, .inl (cI, 64, .inl (α 2))), (ad 3, .inl (cS, 132, .inl (α 3))), (ad 4, .inr (2, [.ref (ad 5), .int (σ 0), .int (σ 1), .int (σ 2), .int (σ 3), .int (σ 4)])), (ad 5, .inl (cS, 48, .inl (α 5))), (ad 6, .inr (3, [.ref (ad 7), .int (σ 5), .int (σ 6)])), (ad 7, .inl (cS, 60, .inl (α 7))), (ad 8, .inr (4, [.ref (ad 1), .ref (ad 4), .ref (ad 6), .ref (ad 9), .ref (wb), .ref (wc), .int (σ 7), .int (σ 8), .int (σ 9), .int (σ 10), .int (σ 11), .int (σ 10), .int ((σ 9) &&& (31 : Int32)), .int ((σ 14) + (1 : Int32))])), (ad 9, .inr (5, [.int (σ 15), .int (σ 16), .int (σ 17)])), (wc, .inr (6, [.int (σ 18), .int (σ 19), .int (σ 20), .int (σ 21), .int (σ 22)])), (wb, .inr (6, [.int (σ 23), .int (σ 24), .int (σ 25), .int (σ 26), .int (σ 27)])), (ad 12, .inr (7, [.ref (ad 13), .ref (ad 14), .ref (ad 15), .ref (ad 16), .ref (ad 17), .int (σ 28)])), (ad 13, .inl (cI, 12, .inl (α 13))), (ad 14, .inl (cI, 12, .inl (α 14))), (ad 15, .inl (cI, 12, .inl (α 15))), (ad 16, .inl (cI, 12, .inl (α 16))), (ad 17, .inl (cI, 12, .inl (α 17))), (kp 0, .inr (8, [.ref (kp 1), .ref (kp 2), .ref (kp 3), .ref (kp 4), .ref (kp 5), .int (σ 29), .int (σ 30), .int (σ 31), .int (σ 32)])), (kp 1, .inl (cI, 64, .inl (α 19))), (kp 2, .inl (cI, 32, .inl (α 20))), (kp 3, .inl (cI, 16, .inl (α 21))), (kp 4, .inl (cI, 12, .inl (α 22))), (kp 5, .inl (cI, 12, .inl (α 23))), (tp 0, .inr (8, [.ref (tp 1), .ref (tp 2), .ref (tp 3), .ref (tp 4), .ref (tp 5), .int (σ 33), .int (σ 34), .int (σ 35), .int (σ 36)])), (tp 1, .inl (cI, 64, .inl (α 25))), (tp 2, .inl (cI, 32, .inl (α 26))), (tp 3, .inl (cI, 16, .inl (α 27))), (tp 4, .inl (cI, 12, .inl (α 28))), (tp 5, .inl (cI, 12, .inl (α 29)))] : va_W) H := hP
  have hD : va_D A ([(ad 0, .inr (0, [.ref (ad 1), .ref (ad 4), .ref (ad 6), .ref (ad 8), .ref (ad 12), .ref (kp 0), .ref (tp 0)])), (ad 1, .inr (1, [.ref (ad 2), .ref (ad 3)])), (ad 2, .inl (cI, 64, .inl (α 2))), (ad 3, .inl (cS, 132, .inl (α 3))), (ad 4, .inr (2, [.ref (ad 5), .int (σ 0), .int (σ 1), .int (σ 2), .int (σ 3), .int (σ 4)])), (ad 5, .inl (cS, 48, .inl (α 5))), (ad 6, .inr (3, [.ref (ad 7), .int (σ 5), .int (σ 6)])), (ad 7, .inl (cS, 60, .inl (α 7))), (ad 8, .inr (4, [.ref (ad 1), .ref (ad 4), .ref (ad 6), .ref (ad 9), .ref (wb), .ref (wc), .int (σ 7), .int (σ 8), .int (σ 9), .int (σ 10), .int (σ 11), .int (σ 10), .int ((σ 9) &&& (31 : Int32)), .int ((σ 14) + (1 : Int32))])), (ad 9, .inr (5, [.int (σ 15), .int (σ 16), .int (σ 17)])), (wc, .inr (6, [.int (σ 18), .int (σ 19), .int (σ 20), .int (σ 21), .int (σ 22)])), (wb, .inr (6, [.int (σ 23), .int (σ 24), .int (σ 25), .int (σ 26), .int (σ 27)])), (ad 12, .inr (7, [.ref (ad 13), .ref (ad 14), .ref (ad 15), .ref (ad 16), .ref (ad 17), .int (σ 28)])), (ad 13, .inl (cI, 12, .inl (α 13))), (ad 14, .inl (cI, 12, .inl (α 14))), (ad 15, .inl (cI, 12, .inl (α 15))), (ad 16, .inl (cI, 12, .inl (α 16))), (ad 17, .inl (cI, 12, .inl (α 17))), (kp 0, .inr (8, [.ref (kp 1), .ref (kp 2), .ref (kp 3), .ref (kp 4), .ref (kp 5), .int (σ 29), .int (σ 30), .int (σ 31), .int (σ 32)])), (kp 1, .inl (cI, 64, .inl (α 19))), (kp 2, .inl (cI, 32, .inl (α 20))), (kp 3, .inl (cI, 16, .inl (α 21))), (kp 4, .inl (cI, 12, .inl (α 22))), (kp 5, .inl (cI, 12, .inl (α 23))), (tp 0, .inr (8, [.ref (tp 1), .ref (tp 2), .ref (tp 3), .ref (tp 4), .ref (tp 5), .int (σ 33), .int (σ 34), .int (σ 35), .int (σ 36)])), (tp 1, .inl (cI, 64, .inl (α 25))), (tp 2, .inl (cI, 32, .inl (α 26))), (tp 3, .inl (cI, 16, .inl (α 27))), (tp 4, .inl (cI, 12, .inl (α 28))), (tp 5, .inl (cI, 12, .inl (α 29)))] : va_W) := hD
  have hP := hP.sub (ws' := (xW cI cS cZ ad wb wc kp tp (va_up (va_up (va_up (va_up (va_up (va_up (va_up (va_up (va_up (va_up (va_up (va_up (va_up σ 12 (σ 10)) 13 ((σ 9) &&& (31 : Int32))) 14 ((σ 14) + (1 : Int32))) 18 (σ 23)) 19 (σ 24)) 20 (σ 25)) 21 (σ 26)) 22 (σ 27)) 23 (σ 18)) 24 (σ 19)) 25 (σ 20)) 26 (σ 21)) 27 (σ 22)) α)) [0, 1, 2, 3, 4, 5, 6, 7, 8, 9, 11, 10, 12, 13, 14, 15, 16, 17, 18, 19, 20, 21, 22, 23, 24, 25, 26, 27, 28, 29] rfl
  have hD := hD.sub (ws' := (xW cI cS cZ ad wb wc kp tp (va_up (va_up (va_up (va_up (va_up (va_up (va_up (va_up (va_up (va_up (va_up (va_up (va_up σ 12 (σ 10)) 13 ((σ 9) &&& (31 : Int32))) 14 ((σ 14) + (1 : Int32))) 18 (σ 23)) 19 (σ 24)) 20 (σ 25)) 21 (σ 26)) 22 (σ 27)) 23 (σ 18)) 24 (σ 19)) 25 (σ 20)) 26 (σ 21)) 27 (σ 22)) α)) [0, 1, 2, 3, 4, 5, 6, 7, 8, 9, 11, 10, 12, 13, 14, 15, 16, 17, 18, 19, 20, 21, 22, 23, 24, 25, 26, 27, 28, 29] (by decide) rfl
  refine lv_aload_n hx hb d_Mc_takeOrder_68 rfl (lv_at hl 2 rfl) ?_
  refine va_get (D := D) (ci := 4) (v := .ref (wb)) (C := R_Mc) (T := T_Mc) (N := 14) hx hb hts i_Mc hown hK hP 8 rfl rfl 4 (by decide) (hts _ tw_137) (fun _ h9 => h9) rfl d_Mc_takeOrder_69 ?_
  refine lv_iload_n hx hb d_Mc_takeOrder_72 rfl (lv_at hl 1 rfl) ?_
  refine lv_aload_n hx hb d_Mc_takeOrder_73 rfl (lv_at hl 2 rfl) ?_
  refine va_get (D := D) (ci := 4) (v := .int (σ 9)) (C := R_Mc) (T := T_Mc) (N := 14) hx hb hts i_Mc hown hK hP 8 rfl rfl 8 (by decide) (hts _ tw_143) (fun _ h9 => h9) rfl d_Mc_takeOrder_74 ?_
  refine gCallVv (b := wb) (As := [.int (α 2 (((σ 10) * (32 : Int32)) + ((σ 9) &&& (31 : Int32))).toNatClampNeg), .int (σ 9)]) (rest := []) (c_Wi_open_10 l D cI cS cZ ad wb wc kp tp (va_up (va_up (va_up (va_up (va_up (va_up (va_up (va_up (va_up (va_up (va_up (va_up (va_up σ 12 (σ 10)) 13 ((σ 9) &&& (31 : Int32))) 14 ((σ 14) + (1 : Int32))) 18 (σ 23)) 19 (σ 24)) 20 (σ 25)) 21 (σ 26)) 22 (σ 27)) 23 (σ 18)) 24 (σ 19)) 25 (σ 20)) 26 (σ 21)) 27 (σ 22)) α (α 2 (((σ 10) * (32 : Int32)) + ((σ 9) &&& (31 : Int32))).toNatClampNeg) (σ 9) _ hw) hx hb hml hown hts hK hN hA hS hP hD (cwV 2 hts (gGV tw_338 tw_339 tw_340 tw_7 tw_341) rfl rfl rfl ⟨rfl, by decide, by decide, by decide +kernel⟩ ⟨Nat.le_of_ble_eq_true rfl, Nat.le_of_ble_eq_true rfl⟩) (va_recv (ci := 6) (q0 := 10) hK hP rfl rfl) rfl hl.1 rfl (Nat.le_of_ble_eq_true rfl) d_Mc_takeOrder_77 (fun u77 H locs hw hP hD hS => ?_)
  have hP : va_P D gCl (xW cI cS cZ ad wb wc kp tp u77.1 u77.2) H := hP
  have hD : va_D A (xW cI cS cZ ad wb wc kp tp u77.1 u77.2) := hD
  refine lv_aload_n hx hb d_Mc_takeOrder_80 rfl (lv_at hl 2 rfl) ?_
  refine lv_iload_n hx hb d_Mc_takeOrder_81 rfl (lv_at hl 1 rfl) ?_
  refine lv_bipush (v := 20) hx hb d_Mc_takeOrder_82 (by decide) ?_
  refine lv_ishr hx hb d_Mc_takeOrder_84 ?_
  refine lv_iconst (v := 1) hx hb d_Mc_takeOrder_85 (by decide) ?_
  refine lv_iand hx hb d_Mc_takeOrder_86 ?_
  refine va_put (D := D) (ci := 4) (v := .int (((α 2 (((σ 10) * (32 : Int32)) + ((σ 9) &&& (31 : Int32))).toNatClampNeg) >>> ((20 : Int32) &&& 31)) &&& (1 : Int32))) (ty := .int) (C := R_Mc) (T := T_Mc) (N := 14) hx hb hts i_Mc t_Mc o_Mc n_Mc hown hK hP hD hS 8 rfl rfl 9 (by decide) (hts _ tw_145) (fun _ h9 => h9) rfl (by decide +kernel) rfl rfl (Nat.le_of_ble_eq_true rfl) d_Mc_takeOrder_87 (fun H locs hP hD hS => ?_)
  have hP : va_P D gCl (xW cI cS cZ ad wb wc kp tp (va_up u77.1 10 (((α 2 (((σ 10) * (32 : Int32)) + ((σ 9) &&& (31 : Int32))).toNatClampNeg) >>> ((20 : Int32) &&& 31)) &&& (1 : Int32))) u77.2) H := hP
  have hD : va_D A (xW cI cS cZ ad wb wc kp tp (va_up u77.1 10 (((α 2 (((σ 10) * (32 : Int32)) + ((σ 9) &&& (31 : Int32))).toNatClampNeg) >>> ((20 : Int32) &&& 31)) &&& (1 : Int32))) u77.2) := hD
  refine lv_aload_n hx hb d_Mc_takeOrder_90 rfl (lv_at hl 2 rfl) ?_
  refine lv_aload_n hx hb d_Mc_takeOrder_91 rfl (lv_at hl 2 rfl) ?_
  refine va_get (D := D) (ci := 4) (v := .ref (wb)) (C := R_Mc) (T := T_Mc) (N := 14) hx hb hts i_Mc hown hK hP 8 rfl rfl 4 (by decide) (hts _ tw_137) (fun _ h9 => h9) rfl d_Mc_takeOrder_92 ?_
  refine va_getN (D := D) (ci := 6) (v := .int (u77.1 22)) (C := R_Wi) (T := T_Wi) (N := 5) hx hb hts i_Wi hown hK hP 10 rfl rfl 4 (by decide) (va_Nw.use rfl (hN _ tn_120)) (fun _ h9 => h9) rfl d_Mc_takeOrder_95 ?_
  refine va_put (D := D) (ci := 4) (v := .int (u77.1 22)) (ty := .int) (C := R_Mc) (T := T_Mc) (N := 14) hx hb hts i_Mc t_Mc o_Mc n_Mc hown hK hP hD hS 8 rfl rfl 10 (by decide) (hts _ tw_146) (fun _ h9 => h9) rfl (by decide +kernel) rfl rfl (Nat.le_of_ble_eq_true rfl) d_Mc_takeOrder_98 (fun H locs hP hD hS => ?_)
  have hP : va_P D gCl (xW cI cS cZ ad wb wc kp tp (va_up (va_up u77.1 10 (((α 2 (((σ 10) * (32 : Int32)) + ((σ 9) &&& (31 : Int32))).toNatClampNeg) >>> ((20 : Int32) &&& 31)) &&& (1 : Int32))) 11 (u77.1 22)) u77.2) H := hP
  have hD : va_D A (xW cI cS cZ ad wb wc kp tp (va_up (va_up u77.1 10 (((α 2 (((σ 10) * (32 : Int32)) + ((σ 9) &&& (31 : Int32))).toNatClampNeg) >>> ((20 : Int32) &&& 31)) &&& (1 : Int32))) 11 (u77.1 22)) u77.2) := hD
  exact hret H locs 101 ls (wb, wc, (va_up (va_up u77.1 10 (((α 2 (((σ 10) * (32 : Int32)) + ((σ 9) &&& (31 : Int32))).toNatClampNeg) >>> ((20 : Int32) &&& 31)) &&& (1 : Int32))) 11 (u77.1 22)), u77.2) d_Mc_takeOrder_101 hP hD hS hw
abbrev rm_Wi_covers_11 : Room := { frames := 0, cells := 0, slots := 0, locals := 0 }
set_option maxHeartbeats 4000000 in
set_option maxRecDepth 100000 in
theorem c_Wi_covers_11 (l : Launch) (D : va_G) (cI cS cZ : ClassId) (ad : Nat → Nat) (wc wb : Nat) (kp tp : Nat → Nat) (σ : Nat → Int32) (α : Nat → Nat → Int32) (x1 : Int32) (post : Int32 → gS → Prop) (hw : wp_Wi_covers_11 σ α x1 post) : gMi l y_Wi_covers b_Wi_covers 2 .boolean rm_Wi_covers_11 D (gT cI cS cZ) (fun u : gS => xW cI cS cZ ad wc wb kp tp u.1 u.2) [.ref (wb), .int x1] (σ, α) post := by
  refine gMi.of (by decide) (Nat.le_of_ble_eq_true rfl) ?_
  intro p e s m below meth c Q A hx hb hml hown hts hK hN hA hS hP hD hret ls hl
  have hl : lv_has ls 2 [(0, .ref (wb)), (1, .int x1)] := hl
  have J21 : ∀ (σ : Nat → Int32) (α : Nat → Nat → Int32) (t0 : Int32) (ls : Array Slot) (H : Heap) (locs : List Loc), lv_has ls 2 [] → va_P D gCl (xW cI cS cZ ad wc wb kp tp σ α) H → va_D A (xW cI cS cZ ad wc wb kp tp σ α) → va_S A s.heap H locs → wp_Wi_covers_11_J21 σ α t0 post → W p l e rm_Wi_covers_11 s m ([.ref (wb), .int x1] : List Value).toArray below meth c H locs 0 0 Q (F0 m 21 ls [.int t0]) := by
    intro σ α t0 ls H locs hl hP hD hS hw
    unfold wp_Wi_covers_11_J21 at hw
    obtain ⟨hn, hw⟩ := hw
    exact hret H locs 21 ls t0 (σ, α) d_Wi_covers_21 hP hD hS hn hw
  have J20 : ∀ (σ : Nat → Int32) (α : Nat → Nat → Int32) (ls : Array Slot) (H : Heap) (locs : List Loc), lv_has ls 2 [] → va_P D gCl (xW cI cS cZ ad wc wb kp tp σ α) H → va_D A (xW cI cS cZ ad wc wb kp tp σ α) → va_S A s.heap H locs → wp_Wi_covers_11_J20 σ α post → W p l e rm_Wi_covers_11 s m ([.ref (wb), .int x1] : List Value).toArray below meth c H locs 0 0 Q (F0 m 20 ls []) := by
    intro σ α ls H locs hl hP hD hS hw
    unfold wp_Wi_covers_11_J20 at hw
    refine lv_iconst (v := 0) hx hb d_Wi_covers_20 (by decide) ?_
    exact J21 σ α (0 : Int32) ls H locs (lv_sub hl [] rfl) hP hD hS hw
  unfold wp_Wi_covers_11 at hw
  have hP : va_P D gCl (xW cI cS cZ ad wc wb kp tp σ α) s.heap := hP
  have hD : va_D A (xW cI cS cZ ad wc wb kp tp σ α) := hD
  obtain ⟨H, hH⟩ : ∃ H, H = s.heap := ⟨_, rfl⟩
  obtain ⟨locs, hlocs⟩ : ∃ locs : List Loc, locs = [] := ⟨_, rfl⟩
  have hP : va_P D gCl (xW cI cS cZ ad wc wb kp tp σ α) H := by rw [hH]; exact hP
  have hS : va_S A s.heap H locs := by rw [hH, hlocs]; exact hS
  suffices K : W p l e rm_Wi_covers_11 s m ([.ref (wb), .int x1] : List Value).toArray below meth c H locs 0 0 Q (F0 m 0 ls []) by rw [hH, hlocs] at K; exact K
  clear hH hlocs
  refine lv_iload_n hx hb d_Wi_covers_0 rfl (lv_at hl 1 rfl) ?_
  refine lv_aload_n hx hb d_Wi_covers_1 rfl (lv_at hl 0 rfl) ?_
  refine va_get (D := D) (ci := 6) (v := .int (σ 25)) (C := R_Wi) (T := T_Wi) (N := 5) hx hb hts i_Wi hown hK hP 11 rfl rfl 2 (by decide) (hts _ tw_117) (fun _ h9 => h9) rfl d_Wi_covers_2 ?_
  refine lv_icmp_lt (tgt := 20) hx hb d_Wi_covers_5 (by decide) (fun h => ?_) (fun h => ?_)
  · have hw := hw.1 h
    exact J20 σ α ls H locs (lv_sub hl [] rfl) hP hD hS hw
  · have hw := hw.2 h
    refine lv_iload_n hx hb d_Wi_covers_8 rfl (lv_at hl 1 rfl) ?_
    refine lv_aload_n hx hb d_Wi_covers_9 rfl (lv_at hl 0 rfl) ?_
    refine va_get (D := D) (ci := 6) (v := .int (σ 26)) (C := R_Wi) (T := T_Wi) (N := 5) hx hb hts i_Wi hown hK hP 11 rfl rfl 3 (by decide) (hts _ tw_118) (fun _ h9 => h9) rfl d_Wi_covers_10 ?_
    refine lv_icmp_gt (tgt := 20) hx hb d_Wi_covers_13 (by decide) (fun h => ?_) (fun h => ?_)
    · have hw := hw.1 h
      exact J20 σ α ls H locs (lv_sub hl [] rfl) hP hD hS hw
    · have hw := hw.2 h
      refine lv_iconst (v := 1) hx hb d_Wi_covers_16 (by decide) ?_
      refine lv_goto (tgt := 21) hx hb d_Wi_covers_17 (by decide) ?_
      exact J21 σ α (1 : Int32) ls H locs (lv_sub hl [] rfl) hP hD hS hw
abbrev rm_Wi_covers_10 : Room := { frames := 0, cells := 0, slots := 0, locals := 0 }
set_option maxHeartbeats 4000000 in
set_option maxRecDepth 100000 in
theorem c_Wi_covers_10 (l : Launch) (D : va_G) (cI cS cZ : ClassId) (ad : Nat → Nat) (wc wb : Nat) (kp tp : Nat → Nat) (σ : Nat → Int32) (α : Nat → Nat → Int32) (x1 : Int32) (post : Int32 → gS → Prop) (hw : wp_Wi_covers_10 σ α x1 post) : gMi l y_Wi_covers b_Wi_covers 2 .boolean rm_Wi_covers_10 D (gT cI cS cZ) (fun u : gS => xW cI cS cZ ad wc wb kp tp u.1 u.2) [.ref (wc), .int x1] (σ, α) post := by
  refine gMi.of (by decide) (Nat.le_of_ble_eq_true rfl) ?_
  intro p e s m below meth c Q A hx hb hml hown hts hK hN hA hS hP hD hret ls hl
  have hl : lv_has ls 2 [(0, .ref (wc)), (1, .int x1)] := hl
  have J21 : ∀ (σ : Nat → Int32) (α : Nat → Nat → Int32) (t0 : Int32) (ls : Array Slot) (H : Heap) (locs : List Loc), lv_has ls 2 [] → va_P D gCl (xW cI cS cZ ad wc wb kp tp σ α) H → va_D A (xW cI cS cZ ad wc wb kp tp σ α) → va_S A s.heap H locs → wp_Wi_covers_10_J21 σ α t0 post → W p l e rm_Wi_covers_10 s m ([.ref (wc), .int x1] : List Value).toArray below meth c H locs 0 0 Q (F0 m 21 ls [.int t0]) := by
    intro σ α t0 ls H locs hl hP hD hS hw
    unfold wp_Wi_covers_10_J21 at hw
    obtain ⟨hn, hw⟩ := hw
    exact hret H locs 21 ls t0 (σ, α) d_Wi_covers_21 hP hD hS hn hw
  have J20 : ∀ (σ : Nat → Int32) (α : Nat → Nat → Int32) (ls : Array Slot) (H : Heap) (locs : List Loc), lv_has ls 2 [] → va_P D gCl (xW cI cS cZ ad wc wb kp tp σ α) H → va_D A (xW cI cS cZ ad wc wb kp tp σ α) → va_S A s.heap H locs → wp_Wi_covers_10_J20 σ α post → W p l e rm_Wi_covers_10 s m ([.ref (wc), .int x1] : List Value).toArray below meth c H locs 0 0 Q (F0 m 20 ls []) := by
    intro σ α ls H locs hl hP hD hS hw
    unfold wp_Wi_covers_10_J20 at hw
    refine lv_iconst (v := 0) hx hb d_Wi_covers_20 (by decide) ?_
    exact J21 σ α (0 : Int32) ls H locs (lv_sub hl [] rfl) hP hD hS hw
  unfold wp_Wi_covers_10 at hw
  have hP : va_P D gCl (xW cI cS cZ ad wc wb kp tp σ α) s.heap := hP
  have hD : va_D A (xW cI cS cZ ad wc wb kp tp σ α) := hD
  obtain ⟨H, hH⟩ : ∃ H, H = s.heap := ⟨_, rfl⟩
  obtain ⟨locs, hlocs⟩ : ∃ locs : List Loc, locs = [] := ⟨_, rfl⟩
  have hP : va_P D gCl (xW cI cS cZ ad wc wb kp tp σ α) H := by rw [hH]; exact hP
  have hS : va_S A s.heap H locs := by rw [hH, hlocs]; exact hS
  suffices K : W p l e rm_Wi_covers_10 s m ([.ref (wc), .int x1] : List Value).toArray below meth c H locs 0 0 Q (F0 m 0 ls []) by rw [hH, hlocs] at K; exact K
  clear hH hlocs
  refine lv_iload_n hx hb d_Wi_covers_0 rfl (lv_at hl 1 rfl) ?_
  refine lv_aload_n hx hb d_Wi_covers_1 rfl (lv_at hl 0 rfl) ?_
  refine va_get (D := D) (ci := 6) (v := .int (σ 20)) (C := R_Wi) (T := T_Wi) (N := 5) hx hb hts i_Wi hown hK hP 10 rfl rfl 2 (by decide) (hts _ tw_117) (fun _ h9 => h9) rfl d_Wi_covers_2 ?_
  refine lv_icmp_lt (tgt := 20) hx hb d_Wi_covers_5 (by decide) (fun h => ?_) (fun h => ?_)
  · have hw := hw.1 h
    exact J20 σ α ls H locs (lv_sub hl [] rfl) hP hD hS hw
  · have hw := hw.2 h
    refine lv_iload_n hx hb d_Wi_covers_8 rfl (lv_at hl 1 rfl) ?_
    refine lv_aload_n hx hb d_Wi_covers_9 rfl (lv_at hl 0 rfl) ?_
    refine va_get (D := D) (ci := 6) (v := .int (σ 21)) (C := R_Wi) (T := T_Wi) (N := 5) hx hb hts i_Wi hown hK hP 10 rfl rfl 3 (by decide) (hts _ tw_118) (fun _ h9 => h9) rfl d_Wi_covers_10 ?_
    refine lv_icmp_gt (tgt := 20) hx hb d_Wi_covers_13 (by decide) (fun h => ?_) (fun h => ?_)
    · have hw := hw.1 h
      exact J20 σ α ls H locs (lv_sub hl [] rfl) hP hD hS hw
    · have hw := hw.2 h
      refine lv_iconst (v := 1) hx hb d_Wi_covers_16 (by decide) ?_
      refine lv_goto (tgt := 21) hx hb d_Wi_covers_17 (by decide) ?_
      exact J21 σ α (1 : Int32) ls H locs (lv_sub hl [] rfl) hP hD hS hw
abbrev rm_Rd_offset : Room := { frames := 0, cells := 0, slots := 0, locals := 0 }
set_option maxHeartbeats 4000000 in
set_option maxRecDepth 100000 in
theorem c_Rd_offset (l : Launch) (D : va_G) (cI cS cZ : ClassId) (ad : Nat → Nat) (wc wb : Nat) (kp tp : Nat → Nat) (σ : Nat → Int32) (α : Nat → Nat → Int32) (x1 : Int32) (post : Int32 → gS → Prop) (hw : wp_Rd_offset σ α x1 post) : gMi l y_Rd_offset b_Rd_offset 4 .int rm_Rd_offset D (gT cI cS cZ) (fun u : gS => xW cI cS cZ ad wc wb kp tp u.1 u.2) [.ref (ad 4), .int x1] (σ, α) post := by
  refine gMi.of (by decide) (Nat.le_of_ble_eq_true rfl) ?_
  intro p e s m below meth c Q A hx hb hml hown hts hK hN hA hS hP hD hret ls hl
  have hl : lv_has ls 4 [(0, .ref (ad 4)), (1, .int x1)] := hl
  have J50 : ∀ (σ : Nat → Int32) (α : Nat → Nat → Int32) (t0 : Int32) (ls : Array Slot) (H : Heap) (locs : List Loc), lv_has ls 4 [] → va_P D gCl (xW cI cS cZ ad wc wb kp tp σ α) H → va_D A (xW cI cS cZ ad wc wb kp tp σ α) → va_S A s.heap H locs → wp_Rd_offset_J50 σ α t0 post → W p l e rm_Rd_offset s m ([.ref (ad 4), .int x1] : List Value).toArray below meth c H locs 0 0 Q (F0 m 50 ls [.int t0]) := by
    intro σ α t0 ls H locs hl hP hD hS hw
    unfold wp_Rd_offset_J50 at hw
    exact hret H locs 50 ls t0 (σ, α) d_Rd_offset_50 hP hD hS (vp_nar_int _) hw
  have J49 : ∀ (σ : Nat → Int32) (α : Nat → Nat → Int32) (ls : Array Slot) (H : Heap) (locs : List Loc), lv_has ls 4 [] → va_P D gCl (xW cI cS cZ ad wc wb kp tp σ α) H → va_D A (xW cI cS cZ ad wc wb kp tp σ α) → va_S A s.heap H locs → wp_Rd_offset_J49 σ α post → W p l e rm_Rd_offset s m ([.ref (ad 4), .int x1] : List Value).toArray below meth c H locs 0 0 Q (F0 m 49 ls []) := by
    intro σ α ls H locs hl hP hD hS hw
    unfold wp_Rd_offset_J49 at hw
    refine lv_iconst (v := (-1)) hx hb d_Rd_offset_49 (by decide) ?_
    exact J50 σ α (-1 : Int32) ls H locs (lv_sub hl [] rfl) hP hD hS hw
  have J33 : ∀ (σ : Nat → Int32) (α : Nat → Nat → Int32) (a2 : Int32) (t0 : Int32) (ls : Array Slot) (H : Heap) (locs : List Loc), lv_has ls 4 [(0, .ref (ad 4)), (2, .int a2)] → va_P D gCl (xW cI cS cZ ad wc wb kp tp σ α) H → va_D A (xW cI cS cZ ad wc wb kp tp σ α) → va_S A s.heap H locs → wp_Rd_offset_J33 σ α a2 t0 post → W p l e rm_Rd_offset s m ([.ref (ad 4), .int x1] : List Value).toArray below meth c H locs 0 0 Q (F0 m 33 ls [.int t0]) := by
    intro σ α a2 t0 ls H locs hl hP hD hS hw
    unfold wp_Rd_offset_J33 at hw
    refine lv_istore_n hx hb d_Rd_offset_33 rfl hl (by decide) rfl (fun ls hl => ?_)
    have hl : lv_has ls 4 [(3, .int t0), (0, .ref (ad 4)), (2, .int a2)] := hl
    refine lv_aload_n hx hb d_Rd_offset_34 rfl (lv_at hl 1 rfl) ?_
    refine va_get (D := D) (ci := 2) (v := .int (σ 2)) (C := R_Rd) (T := T_Rd) (N := 6) hx hb hts i_Rd hown hK hP 4 rfl rfl 3 (by decide) (hts _ tw_50) (fun _ h9 => h9) rfl d_Rd_offset_35 ?_
    refine lv_if_eq (tgt := 49) hx hb d_Rd_offset_38 (by decide) (fun h => ?_) (fun h => ?_)
    · have hw := hw.1 h
      exact J49 σ α ls H locs (lv_sub hl [] rfl) hP hD hS hw
    · have hw := hw.2 h
      refine lv_iload_n hx hb d_Rd_offset_41 rfl (lv_at hl 0 rfl) ?_
      refine lv_if_eq (tgt := 49) hx hb d_Rd_offset_42 (by decide) (fun h => ?_) (fun h => ?_)
      · have hw := hw.1 h
        exact J49 σ α ls H locs (lv_sub hl [] rfl) hP hD hS hw
      · have hw := hw.2 h
        refine lv_iload_n hx hb d_Rd_offset_45 rfl (lv_at hl 2 rfl) ?_
        refine lv_goto (tgt := 50) hx hb d_Rd_offset_46 (by decide) ?_
        exact J50 σ α a2 ls H locs (lv_sub hl [] rfl) hP hD hS hw
  have J32 : ∀ (σ : Nat → Int32) (α : Nat → Nat → Int32) (a2 : Int32) (ls : Array Slot) (H : Heap) (locs : List Loc), lv_has ls 4 [(0, .ref (ad 4)), (2, .int a2)] → va_P D gCl (xW cI cS cZ ad wc wb kp tp σ α) H → va_D A (xW cI cS cZ ad wc wb kp tp σ α) → va_S A s.heap H locs → wp_Rd_offset_J32 σ α a2 post → W p l e rm_Rd_offset s m ([.ref (ad 4), .int x1] : List Value).toArray below meth c H locs 0 0 Q (F0 m 32 ls []) := by
    intro σ α a2 ls H locs hl hP hD hS hw
    unfold wp_Rd_offset_J32 at hw
    refine lv_iconst (v := 0) hx hb d_Rd_offset_32 (by decide) ?_
    exact J33 σ α a2 (0 : Int32) ls H locs (lv_sub hl [0, 1] rfl) hP hD hS hw
  unfold wp_Rd_offset at hw
  have hP : va_P D gCl (xW cI cS cZ ad wc wb kp tp σ α) s.heap := hP
  have hD : va_D A (xW cI cS cZ ad wc wb kp tp σ α) := hD
  obtain ⟨H, hH⟩ : ∃ H, H = s.heap := ⟨_, rfl⟩
  obtain ⟨locs, hlocs⟩ : ∃ locs : List Loc, locs = [] := ⟨_, rfl⟩
  have hP : va_P D gCl (xW cI cS cZ ad wc wb kp tp σ α) H := by rw [hH]; exact hP
  have hS : va_S A s.heap H locs := by rw [hH, hlocs]; exact hS
  suffices K : W p l e rm_Rd_offset s m ([.ref (ad 4), .int x1] : List Value).toArray below meth c H locs 0 0 Q (F0 m 0 ls []) by rw [hH, hlocs] at K; exact K
  clear hH hlocs
  refine lv_iload_n hx hb d_Rd_offset_0 rfl (lv_at hl 1 rfl) ?_
  refine lv_aload_n hx hb d_Rd_offset_1 rfl (lv_at hl 0 rfl) ?_
  refine va_get (D := D) (ci := 2) (v := .int (σ 3)) (C := R_Rd) (T := T_Rd) (N := 6) hx hb hts i_Rd hown hK hP 4 rfl rfl 4 (by decide) (hts _ tw_51) (fun _ h9 => h9) rfl d_Rd_offset_2 ?_
  refine lv_isub hx hb d_Rd_offset_5 ?_
  refine lv_bipush (v := 40) hx hb d_Rd_offset_6 (by decide) ?_
  refine lv_isub hx hb d_Rd_offset_8 ?_
  refine lv_istore_n hx hb d_Rd_offset_9 rfl hl (by decide) rfl (fun ls hl => ?_)
  have hl : lv_has ls 4 [(2, .int ((x1 - (σ 3)) - (40 : Int32))), (0, .ref (ad 4)), (1, .int x1)] := hl
  refine lv_iload_n hx hb d_Rd_offset_10 rfl (lv_at hl 0 rfl) ?_
  refine lv_if_lt (tgt := 32) hx hb d_Rd_offset_11 (by decide) (fun h => ?_) (fun h => ?_)
  · have hw := hw.1 h
    exact J32 σ α ((x1 - (σ 3)) - (40 : Int32)) ls H locs (lv_sub hl [1, 0] rfl) hP hD hS hw
  · have hw := hw.2 h
    refine lv_iload_n hx hb d_Rd_offset_14 rfl (lv_at hl 0 rfl) ?_
    refine lv_bipush (v := 90) hx hb d_Rd_offset_15 (by decide) ?_
    refine lv_icmp_gt (tgt := 32) hx hb d_Rd_offset_17 (by decide) (fun h => ?_) (fun h => ?_)
    · have hw := hw.1 h
      exact J32 σ α ((x1 - (σ 3)) - (40 : Int32)) ls H locs (lv_sub hl [1, 0] rfl) hP hD hS hw
    · have hw := hw.2 h
      refine lv_iload_n hx hb d_Rd_offset_20 rfl (lv_at hl 0 rfl) ?_
      refine lv_bipush (v := 8) hx hb d_Rd_offset_21 (by decide) ?_
      refine lv_irem hx hb d_Rd_offset_23 (by decide) ?_
      refine lv_iconst (v := 3) hx hb d_Rd_offset_24 (by decide) ?_
      refine lv_icmp_ge (tgt := 32) hx hb d_Rd_offset_25 (by decide) (fun h => ?_) (fun h => ?_)
      · have hw := hw.1 h
        exact J32 σ α ((x1 - (σ 3)) - (40 : Int32)) ls H locs (lv_sub hl [1, 0] rfl) hP hD hS hw
      · have hw := hw.2 h
        refine lv_iconst (v := 1) hx hb d_Rd_offset_28 (by decide) ?_
        refine lv_goto (tgt := 33) hx hb d_Rd_offset_29 (by decide) ?_
        exact J33 σ α ((x1 - (σ 3)) - (40 : Int32)) (1 : Int32) ls H locs (lv_sub hl [1, 0] rfl) hP hD hS hw
abbrev rm_Rd_moveRow : Room := { frames := 1, cells := 0, slots := 0, locals := 23 }
set_option maxHeartbeats 4000000 in
set_option maxRecDepth 100000 in
theorem c_Rd_moveRow (l : Launch) (D : va_G) (cI cS cZ : ClassId) (ad : Nat → Nat) (wc wb : Nat) (kp tp : Nat → Nat) (σ : Nat → Int32) (α : Nat → Nat → Int32) (x1 : Int32) (post : Int32 → gS → Prop) (hw : wp_Rd_moveRow σ α x1 post) : gMi l y_Rd_moveRow b_Rd_moveRow 3 .short rm_Rd_moveRow D (gT cI cS cZ) (fun u : gS => xW cI cS cZ ad wc wb kp tp u.1 u.2) [.ref (ad 4), .int x1] (σ, α) post := by
  refine gMi.of (by decide) (Nat.le_of_ble_eq_true rfl) ?_
  intro p e s m below meth c Q A hx hb hml hown hts hK hN hA hS hP hD hret ls hl
  have hl : lv_has ls 3 [(0, .ref (ad 4)), (1, .int x1)] := hl
  unfold wp_Rd_moveRow at hw
  have hP : va_P D gCl (xW cI cS cZ ad wc wb kp tp σ α) s.heap := hP
  have hD : va_D A (xW cI cS cZ ad wc wb kp tp σ α) := hD
  obtain ⟨H, hH⟩ : ∃ H, H = s.heap := ⟨_, rfl⟩
  obtain ⟨locs, hlocs⟩ : ∃ locs : List Loc, locs = [] := ⟨_, rfl⟩
  have hP : va_P D gCl (xW cI cS cZ ad wc wb kp tp σ α) H := by rw [hH]; exact hP
  have hS : va_S A s.heap H locs := by rw [hH, hlocs]; exact hS
  suffices K : W p l e rm_Rd_moveRow s m ([.ref (ad 4), .int x1] : List Value).toArray below meth c H locs 0 0 Q (F0 m 0 ls []) by rw [hH, hlocs] at K; exact K
  clear hH hlocs
  refine lv_aload_n hx hb d_Rd_moveRow_0 rfl (lv_at hl 0 rfl) ?_
  refine lv_iload_n hx hb d_Rd_moveRow_1 rfl (lv_at hl 1 rfl) ?_
  refine gCallVi (b := ad 4) (As := [.int x1]) (rest := []) (c_Rd_offset l D cI cS cZ ad wc wb kp tp σ α x1 _ hw) hx hb hml hown hts hK hN hA hS hP hD (cwV 1 hts (gGV tw_362 tw_364 ts_4 tw_3 tw_365) rfl rfl rfl ⟨rfl, by decide, by decide, by decide +kernel⟩ ⟨Nat.le_of_ble_eq_true rfl, Nat.le_of_ble_eq_true rfl⟩) (va_recv (ci := 2) (q0 := 4) hK hP rfl rfl) rfl hl.1 rfl (Nat.le_of_ble_eq_true rfl) d_Rd_moveRow_2 (fun r2 u2 H locs hw hP hD hS => ?_)
  have hP : va_P D gCl (xW cI cS cZ ad wc wb kp tp u2.1 u2.2) H := hP
  have hD : va_D A (xW cI cS cZ ad wc wb kp tp u2.1 u2.2) := hD
  refine lv_istore_n hx hb d_Rd_moveRow_5 rfl hl (by decide) rfl (fun ls hl => ?_)
  have hl : lv_has ls 3 [(2, .int r2), (0, .ref (ad 4)), (1, .int x1)] := hl
  refine lv_iload_n hx hb d_Rd_moveRow_6 rfl (lv_at hl 0 rfl) ?_
  refine lv_if_ge (tgt := 12) hx hb d_Rd_moveRow_7 (by decide) (fun h => ?_) (fun h => ?_)
  · have hw := hw.1 h
    refine lv_aload_n hx hb d_Rd_moveRow_12 rfl (lv_at hl 1 rfl) ?_
    refine lv_iconst (v := 1) hx hb d_Rd_moveRow_13 (by decide) ?_
    refine va_put (D := D) (ci := 2) (v := .int (1 : Int32)) (ty := .boolean) (C := R_Rd) (T := T_Rd) (N := 6) hx hb hts i_Rd t_Rd o_Rd n_Rd hown hK hP hD hS 4 rfl rfl 5 (by decide) (hts _ tw_52) (fun _ h9 => h9) rfl (by decide +kernel) rfl rfl (Nat.le_of_ble_eq_true rfl) d_Rd_moveRow_14 (fun H locs hP hD hS => ?_)
    have hP : va_P D gCl (xW cI cS cZ ad wc wb kp tp (va_up u2.1 4 (1 : Int32)) u2.2) H := hP
    have hD : va_D A (xW cI cS cZ ad wc wb kp tp (va_up u2.1 4 (1 : Int32)) u2.2) := hD
    refine lv_aload_n hx hb d_Rd_moveRow_17 rfl (lv_at hl 1 rfl) ?_
    refine va_get (D := D) (ci := 2) (v := .ref (ad 5)) (C := R_Rd) (T := T_Rd) (N := 6) hx hb hts i_Rd hown hK hP 4 rfl rfl 0 (by decide) (hts _ tw_47) (fun _ h9 => h9) rfl d_Rd_moveRow_18 ?_
    refine lv_aload_n hx hb d_Rd_moveRow_21 rfl (lv_at hl 1 rfl) ?_
    refine va_get (D := D) (ci := 2) (v := .int (u2.1 1)) (C := R_Rd) (T := T_Rd) (N := 6) hx hb hts i_Rd hown hK hP 4 rfl rfl 2 (by decide) (hts _ tw_49) (fun _ h9 => h9) rfl d_Rd_moveRow_22 ?_
    refine lv_bipush (v := 12) hx hb d_Rd_moveRow_25 (by decide) ?_
    refine lv_isub hx hb d_Rd_moveRow_27 ?_
    refine lv_iload_n hx hb d_Rd_moveRow_28 rfl (lv_at hl 0 rfl) ?_
    refine lv_bipush (v := 8) hx hb d_Rd_moveRow_29 (by decide) ?_
    refine lv_idiv hx hb d_Rd_moveRow_31 (by decide) ?_
    refine lv_iadd hx hb d_Rd_moveRow_32 ?_
    obtain ⟨hin, hw⟩ := hw
    refine va_sald (f := u2.2 5) hx hb hK hP 5 1 rfl rfl hin d_Rd_moveRow_33 ?_
    obtain ⟨hn, hw⟩ := hw
    exact hret H locs 34 ls (u2.2 5 (((u2.1 1) - (12 : Int32)) + (r2 / (8 : Int32))).toNatClampNeg) ((va_up u2.1 4 (1 : Int32)), u2.2) d_Rd_moveRow_34 hP hD hS hn hw
  · have hw := hw.2 h
    refine lv_iconst (v := 0) hx hb d_Rd_moveRow_10 (by decide) ?_
    exact hret H locs 11 ls (0 : Int32) (u2.1, u2.2) d_Rd_moveRow_11 hP hD hS rfl hw
abbrev rm_St_presentedSpot : Room := { frames := 1, cells := 0, slots := 0, locals := 20 }
set_option maxHeartbeats 4000000 in
set_option maxRecDepth 100000 in
theorem c_St_presentedSpot (l : Launch) (D : va_G) (cI cS cZ : ClassId) (ad : Nat → Nat) (wc wb : Nat) (kp tp : Nat → Nat) (σ : Nat → Int32) (α : Nat → Nat → Int32) (x0 : Int32) (x1 : Int32) (post : Int32 → gS → Prop) (hw : wp_St_presentedSpot σ α x0 x1 post) : gMi l y_St_presentedSpot b_St_presentedSpot 2 .int rm_St_presentedSpot D (gT cI cS cZ) (fun u : gS => xW cI cS cZ ad wc wb kp tp u.1 u.2) [.int x0, .int x1] (σ, α) post := by
  refine gMi.of (by decide) (Nat.le_of_ble_eq_true rfl) ?_
  intro p e s m below meth c Q A hx hb hml hown hts hK hN hA hS hP hD hret ls hl
  have hl : lv_has ls 2 [(0, .int x0), (1, .int x1)] := hl
  unfold wp_St_presentedSpot at hw
  have hP : va_P D gCl (xW cI cS cZ ad wc wb kp tp σ α) s.heap := hP
  have hD : va_D A (xW cI cS cZ ad wc wb kp tp σ α) := hD
  obtain ⟨H, hH⟩ : ∃ H, H = s.heap := ⟨_, rfl⟩
  obtain ⟨locs, hlocs⟩ : ∃ locs : List Loc, locs = [] := ⟨_, rfl⟩
  have hP : va_P D gCl (xW cI cS cZ ad wc wb kp tp σ α) H := by rw [hH]; exact hP
  have hS : va_S A s.heap H locs := by rw [hH, hlocs]; exact hS
  suffices K : W p l e rm_St_presentedSpot s m ([.int x0, .int x1] : List Value).toArray below meth c H locs 0 0 Q (F0 m 0 ls []) by rw [hH, hlocs] at K; exact K
  clear hH hlocs
  refine lv_iload_n hx hb d_St_presentedSpot_0 rfl (lv_at hl 0 rfl) ?_
  refine gCallSi (As := [.int x0]) (rest := []) (c_St_firstSpot l D cI cS cZ ad wc wb kp tp σ α x0 _ hw) hx hb hml hown hts hK hN hA hS hP hD (va_cwS 1 hts (gGS tw_295 tw_296 tw_2 tw_297) rfl rfl rfl ⟨by decide, by decide, by decide +kernel⟩ ⟨Nat.le_of_ble_eq_true rfl, Nat.le_of_ble_eq_true rfl⟩) rfl hl.1 rfl (Nat.le_of_ble_eq_true rfl) d_St_presentedSpot_1 (fun r1 u1 H locs hw hP hD hS => ?_)
  have hP : va_P D gCl (xW cI cS cZ ad wc wb kp tp u1.1 u1.2) H := hP
  have hD : va_D A (xW cI cS cZ ad wc wb kp tp u1.1 u1.2) := hD
  refine lv_iload_n hx hb d_St_presentedSpot_4 rfl (lv_at hl 1 rfl) ?_
  refine lv_iload_n hx hb d_St_presentedSpot_5 rfl (lv_at hl 0 rfl) ?_
  refine gCallSi (As := [.int x0]) (rest := [.int x1, .int r1]) (c_St_placesOf l D cI cS cZ ad wc wb kp tp u1.1 u1.2 x0 _ hw) hx hb hml hown hts hK hN hA hS hP hD (va_cwS 1 hts (gGS tw_292 tw_293 tw_2 tw_294) rfl rfl rfl ⟨by decide, by decide, by decide +kernel⟩ ⟨Nat.le_of_ble_eq_true rfl, Nat.le_of_ble_eq_true rfl⟩) rfl hl.1 rfl (Nat.le_of_ble_eq_true rfl) d_St_presentedSpot_6 (fun r6 u6 H locs hw hP hD hS => ?_)
  have hP : va_P D gCl (xW cI cS cZ ad wc wb kp tp u6.1 u6.2) H := hP
  have hD : va_D A (xW cI cS cZ ad wc wb kp tp u6.1 u6.2) := hD
  refine lv_iconst (v := 1) hx hb d_St_presentedSpot_9 (by decide) ?_
  refine lv_isub hx hb d_St_presentedSpot_10 ?_
  refine lv_iand hx hb d_St_presentedSpot_11 ?_
  refine lv_iadd hx hb d_St_presentedSpot_12 ?_
  exact hret H locs 13 ls (r1 + (x1 &&& (r6 - (1 : Int32)))) (u6.1, u6.2) d_St_presentedSpot_13 hP hD hS (vp_nar_int _) hw
abbrev rm_Mc_sourceWord : Room := { frames := 2, cells := 0, slots := 0, locals := 45 }
set_option maxHeartbeats 4000000 in
set_option maxRecDepth 100000 in
theorem c_Mc_sourceWord (l : Launch) (D : va_G) (cI cS cZ : ClassId) (ad : Nat → Nat) (wc wb : Nat) (kp tp : Nat → Nat) (σ : Nat → Int32) (α : Nat → Nat → Int32) (x1 : Int32) (post : Int32 → gS → Prop) (hw : wp_Mc_sourceWord σ α x1 post) : gMi l y_Mc_sourceWord b_Mc_sourceWord 4 .short rm_Mc_sourceWord D (gT cI cS cZ) (fun u : gS => xW cI cS cZ ad wc wb kp tp u.1 u.2) [.ref (ad 8), .int x1] (σ, α) post := by
  refine gMi.of (by decide) (Nat.le_of_ble_eq_true rfl) ?_
  intro p e s m below meth c Q A hx hb hml hown hts hK hN hA hS hP hD hret ls hl
  have hl : lv_has ls 4 [(0, .ref (ad 8)), (1, .int x1)] := hl
  have J148 : ∀ (σ : Nat → Int32) (α : Nat → Nat → Int32) (a1 : Int32) (ls : Array Slot) (H : Heap) (locs : List Loc), lv_has ls 4 [(0, .ref (ad 8)), (1, .int a1)] → va_P D gCl (xW cI cS cZ ad wc wb kp tp σ α) H → va_D A (xW cI cS cZ ad wc wb kp tp σ α) → va_S A s.heap H locs → wp_Mc_sourceWord_J148 σ α a1 post → W p l e rm_Mc_sourceWord s m ([.ref (ad 8), .int x1] : List Value).toArray below meth c H locs 0 0 Q (F0 m 148 ls []) := by
    intro σ α a1 ls H locs hl hP hD hS hw
    unfold wp_Mc_sourceWord_J148 at hw
    refine lv_aload_n hx hb d_Mc_sourceWord_148 rfl (lv_at hl 0 rfl) ?_
    refine va_get (D := D) (ci := 4) (v := .ref (ad 1)) (C := R_Mc) (T := T_Mc) (N := 14) hx hb hts i_Mc hown hK hP 8 rfl rfl 0 (by decide) (hts _ tw_132) (fun _ h9 => h9) rfl d_Mc_sourceWord_149 ?_
    refine va_getN (D := D) (ci := 1) (v := .ref (ad 3)) (C := R_St) (T := T_St) (N := 2) hx hb hts i_St hown hK hP 1 rfl rfl 1 (by decide) (va_Nw.use rfl (hN _ tn_33)) (fun _ h9 => h9) rfl d_Mc_sourceWord_152 ?_
    refine lv_iload_n hx hb d_Mc_sourceWord_155 rfl (lv_at hl 1 rfl) ?_
    refine lv_aload_n hx hb d_Mc_sourceWord_156 rfl (lv_at hl 0 rfl) ?_
    refine va_get (D := D) (ci := 4) (v := .int (σ 9)) (C := R_Mc) (T := T_Mc) (N := 14) hx hb hts i_Mc hown hK hP 8 rfl rfl 8 (by decide) (hts _ tw_143) (fun _ h9 => h9) rfl d_Mc_sourceWord_157 ?_
    refine gCallSi (As := [.int a1, .int (σ 9)]) (rest := [.ref (ad 3)]) (c_St_presentedSpot l D cI cS cZ ad wc wb kp tp σ α a1 (σ 9) _ hw) hx hb hml hown hts hK hN hA hS hP hD (va_cwS 2 hts (gGS tw_366 tw_367 tw_2 tw_368) rfl rfl rfl ⟨by decide, by decide, by decide +kernel⟩ ⟨Nat.le_of_ble_eq_true rfl, Nat.le_of_ble_eq_true rfl⟩) rfl hl.1 rfl (Nat.le_of_ble_eq_true rfl) d_Mc_sourceWord_160 (fun r160 u160 H locs hw hP hD hS => ?_)
    have hP : va_P D gCl (xW cI cS cZ ad wc wb kp tp u160.1 u160.2) H := hP
    have hD : va_D A (xW cI cS cZ ad wc wb kp tp u160.1 u160.2) := hD
    obtain ⟨hin, hw⟩ := hw
    refine va_sald (f := u160.2 3) hx hb hK hP 3 1 rfl rfl hin d_Mc_sourceWord_163 ?_
    obtain ⟨hn, hw⟩ := hw
    exact hret H locs 164 ls (u160.2 3 r160.toNatClampNeg) (u160.1, u160.2) d_Mc_sourceWord_164 hP hD hS hn hw
  unfold wp_Mc_sourceWord at hw
  have hP : va_P D gCl (xW cI cS cZ ad wc wb kp tp σ α) s.heap := hP
  have hD : va_D A (xW cI cS cZ ad wc wb kp tp σ α) := hD
  obtain ⟨H, hH⟩ : ∃ H, H = s.heap := ⟨_, rfl⟩
  obtain ⟨locs, hlocs⟩ : ∃ locs : List Loc, locs = [] := ⟨_, rfl⟩
  have hP : va_P D gCl (xW cI cS cZ ad wc wb kp tp σ α) H := by rw [hH]; exact hP
  have hS : va_S A s.heap H locs := by rw [hH, hlocs]; exact hS
  suffices K : W p l e rm_Mc_sourceWord s m ([.ref (ad 8), .int x1] : List Value).toArray below meth c H locs 0 0 Q (F0 m 0 ls []) by rw [hH, hlocs] at K; exact K
  clear hH hlocs
  refine lv_aload_n hx hb d_Mc_sourceWord_0 rfl (lv_at hl 0 rfl) ?_
  refine va_get (D := D) (ci := 4) (v := .ref (ad 1)) (C := R_Mc) (T := T_Mc) (N := 14) hx hb hts i_Mc hown hK hP 8 rfl rfl 0 (by decide) (hts _ tw_132) (fun _ h9 => h9) rfl d_Mc_sourceWord_1 ?_
  refine va_getN (D := D) (ci := 1) (v := .ref (ad 3)) (C := R_St) (T := T_St) (N := 2) hx hb hts i_St hown hK hP 1 rfl rfl 1 (by decide) (va_Nw.use rfl (hN _ tn_33)) (fun _ h9 => h9) rfl d_Mc_sourceWord_4 ?_
  refine lv_sipush (v := 128) hx hb d_Mc_sourceWord_7 (by decide) ?_
  refine va_sald (f := α 3) hx hb hK hP 3 1 rfl rfl (show vp_in (128 : Int32) 132 by unfold vp_in; decide) d_Mc_sourceWord_10 ?_
  refine lv_istore_n hx hb d_Mc_sourceWord_11 rfl hl (by decide) rfl (fun ls hl => ?_)
  have hl : lv_has ls 4 [(2, .int (α 3 (128 : Int32).toNatClampNeg)), (0, .ref (ad 8)), (1, .int x1)] := hl
  refine lv_aload_n hx hb d_Mc_sourceWord_12 rfl (lv_at hl 1 rfl) ?_
  refine va_get (D := D) (ci := 4) (v := .ref (ad 1)) (C := R_Mc) (T := T_Mc) (N := 14) hx hb hts i_Mc hown hK hP 8 rfl rfl 0 (by decide) (hts _ tw_132) (fun _ h9 => h9) rfl d_Mc_sourceWord_13 ?_
  refine va_getN (D := D) (ci := 1) (v := .ref (ad 3)) (C := R_St) (T := T_St) (N := 2) hx hb hts i_St hown hK hP 1 rfl rfl 1 (by decide) (va_Nw.use rfl (hN _ tn_33)) (fun _ h9 => h9) rfl d_Mc_sourceWord_16 ?_
  refine lv_sipush (v := 129) hx hb d_Mc_sourceWord_19 (by decide) ?_
  refine va_sald (f := α 3) hx hb hK hP 3 1 rfl rfl (show vp_in (129 : Int32) 132 by unfold vp_in; decide) d_Mc_sourceWord_22 ?_
  refine lv_istore_n hx hb d_Mc_sourceWord_23 rfl hl (by decide) rfl (fun ls hl => ?_)
  have hl : lv_has ls 4 [(3, .int (α 3 (129 : Int32).toNatClampNeg)), (2, .int (α 3 (128 : Int32).toNatClampNeg)), (0, .ref (ad 8)), (1, .int x1)] := hl
  refine lv_iload_n hx hb d_Mc_sourceWord_24 rfl (lv_at hl 3 rfl) ?_
  have hw := hw
  by_cases h25_0 : x1 = 0
  · have hw := hw.1 h25_0
    refine W.eq (g2 := F0 m 25 ls [.int (0 : Int32)]) (by rw [h25_0]) ?_
    refine lv_tableIn (off := 79) (tgt := 104) hx hb d_Mc_sourceWord_25 (by decide) (by decide) (by decide) (by decide) ?_
    refine lv_iconst (v := 0) hx hb d_Mc_sourceWord_104 (by decide) ?_
    exact hret H locs 105 ls (0 : Int32) (σ, α) d_Mc_sourceWord_105 hP hD hS rfl hw
  by_cases h25_1 : x1 = 1
  · have hw := hw.2.1 h25_1
    refine W.eq (g2 := F0 m 25 ls [.int (1 : Int32)]) (by rw [h25_1]) ?_
    refine lv_tableIn (off := 81) (tgt := 106) hx hb d_Mc_sourceWord_25 (by decide) (by decide) (by decide) (by decide) ?_
    refine lv_iconst (v := 1) hx hb d_Mc_sourceWord_106 (by decide) ?_
    exact hret H locs 107 ls (1 : Int32) (σ, α) d_Mc_sourceWord_107 hP hD hS rfl hw
  by_cases h25_2 : x1 = 2
  · have hw := hw.2.2.1 h25_2
    refine W.eq (g2 := F0 m 25 ls [.int (2 : Int32)]) (by rw [h25_2]) ?_
    refine lv_tableIn (off := 123) (tgt := 148) hx hb d_Mc_sourceWord_25 (by decide) (by decide) (by decide) (by decide) ?_
    exact J148 σ α x1 ls H locs (lv_sub hl [2, 3] rfl) hP hD hS hw
  by_cases h25_3 : x1 = 3
  · have hw := hw.2.2.2.1 h25_3
    refine W.eq (g2 := F0 m 25 ls [.int (3 : Int32)]) (by rw [h25_3]) ?_
    refine lv_tableIn (off := 123) (tgt := 148) hx hb d_Mc_sourceWord_25 (by decide) (by decide) (by decide) (by decide) ?_
    exact J148 σ α x1 ls H locs (lv_sub hl [2, 3] rfl) hP hD hS hw
  by_cases h25_4 : x1 = 4
  · have hw := hw.2.2.2.2.1 h25_4
    refine W.eq (g2 := F0 m 25 ls [.int (4 : Int32)]) (by rw [h25_4]) ?_
    refine lv_tableIn (off := 123) (tgt := 148) hx hb d_Mc_sourceWord_25 (by decide) (by decide) (by decide) (by decide) ?_
    exact J148 σ α x1 ls H locs (lv_sub hl [2, 3] rfl) hP hD hS hw
  by_cases h25_5 : x1 = 5
  · have hw := hw.2.2.2.2.2.1 h25_5
    refine W.eq (g2 := F0 m 25 ls [.int (5 : Int32)]) (by rw [h25_5]) ?_
    refine lv_tableIn (off := 123) (tgt := 148) hx hb d_Mc_sourceWord_25 (by decide) (by decide) (by decide) (by decide) ?_
    exact J148 σ α x1 ls H locs (lv_sub hl [2, 3] rfl) hP hD hS hw
  by_cases h25_6 : x1 = 6
  · have hw := hw.2.2.2.2.2.2.1 h25_6
    refine W.eq (g2 := F0 m 25 ls [.int (6 : Int32)]) (by rw [h25_6]) ?_
    refine lv_tableIn (off := 123) (tgt := 148) hx hb d_Mc_sourceWord_25 (by decide) (by decide) (by decide) (by decide) ?_
    exact J148 σ α x1 ls H locs (lv_sub hl [2, 3] rfl) hP hD hS hw
  by_cases h25_7 : x1 = 7
  · have hw := hw.2.2.2.2.2.2.2.1 h25_7
    refine W.eq (g2 := F0 m 25 ls [.int (7 : Int32)]) (by rw [h25_7]) ?_
    refine lv_tableIn (off := 123) (tgt := 148) hx hb d_Mc_sourceWord_25 (by decide) (by decide) (by decide) (by decide) ?_
    exact J148 σ α x1 ls H locs (lv_sub hl [2, 3] rfl) hP hD hS hw
  by_cases h25_8 : x1 = 8
  · have hw := hw.2.2.2.2.2.2.2.2.1 h25_8
    refine W.eq (g2 := F0 m 25 ls [.int (8 : Int32)]) (by rw [h25_8]) ?_
    refine lv_tableIn (off := 123) (tgt := 148) hx hb d_Mc_sourceWord_25 (by decide) (by decide) (by decide) (by decide) ?_
    exact J148 σ α x1 ls H locs (lv_sub hl [2, 3] rfl) hP hD hS hw
  by_cases h25_9 : x1 = 9
  · have hw := hw.2.2.2.2.2.2.2.2.2.1 h25_9
    refine W.eq (g2 := F0 m 25 ls [.int (9 : Int32)]) (by rw [h25_9]) ?_
    refine lv_tableIn (off := 83) (tgt := 108) hx hb d_Mc_sourceWord_25 (by decide) (by decide) (by decide) (by decide) ?_
    refine lv_iload_n hx hb d_Mc_sourceWord_108 rfl (lv_at hl 1 rfl) ?_
    refine lv_iload_n hx hb d_Mc_sourceWord_109 rfl (lv_at hl 0 rfl) ?_
    refine lv_iand hx hb d_Mc_sourceWord_110 ?_
    refine lv_i2s (v := ((α 3 (128 : Int32).toNatClampNeg) &&& (α 3 (129 : Int32).toNatClampNeg)).toInt16.toInt32) hx hb d_Mc_sourceWord_111 rfl ?_
    obtain ⟨hn, hw⟩ := hw
    exact hret H locs 112 ls (((α 3 (128 : Int32).toNatClampNeg) &&& (α 3 (129 : Int32).toNatClampNeg)).toInt16.toInt32) (σ, α) d_Mc_sourceWord_112 hP hD hS hn hw
  by_cases h25_10 : x1 = 10
  · have hw := hw.2.2.2.2.2.2.2.2.2.2.1 h25_10
    refine W.eq (g2 := F0 m 25 ls [.int (10 : Int32)]) (by rw [h25_10]) ?_
    refine lv_tableIn (off := 88) (tgt := 113) hx hb d_Mc_sourceWord_25 (by decide) (by decide) (by decide) (by decide) ?_
    refine lv_iload_n hx hb d_Mc_sourceWord_113 rfl (lv_at hl 1 rfl) ?_
    refine lv_iload_n hx hb d_Mc_sourceWord_114 rfl (lv_at hl 0 rfl) ?_
    refine lv_ixor hx hb d_Mc_sourceWord_115 ?_
    refine lv_i2s (v := ((α 3 (128 : Int32).toNatClampNeg) ^^^ (α 3 (129 : Int32).toNatClampNeg)).toInt16.toInt32) hx hb d_Mc_sourceWord_116 rfl ?_
    obtain ⟨hn, hw⟩ := hw
    exact hret H locs 117 ls (((α 3 (128 : Int32).toNatClampNeg) ^^^ (α 3 (129 : Int32).toNatClampNeg)).toInt16.toInt32) (σ, α) d_Mc_sourceWord_117 hP hD hS hn hw
  by_cases h25_11 : x1 = 11
  · have hw := hw.2.2.2.2.2.2.2.2.2.2.2.1 h25_11
    refine W.eq (g2 := F0 m 25 ls [.int (11 : Int32)]) (by rw [h25_11]) ?_
    refine lv_tableIn (off := 93) (tgt := 118) hx hb d_Mc_sourceWord_25 (by decide) (by decide) (by decide) (by decide) ?_
    refine lv_iconst (v := (-1)) hx hb d_Mc_sourceWord_118 (by decide) ?_
    exact hret H locs 119 ls (-1 : Int32) (σ, α) d_Mc_sourceWord_119 hP hD hS rfl hw
  by_cases h25_12 : x1 = 12
  · have hw := hw.2.2.2.2.2.2.2.2.2.2.2.2.1 h25_12
    refine W.eq (g2 := F0 m 25 ls [.int (12 : Int32)]) (by rw [h25_12]) ?_
    refine lv_tableIn (off := 95) (tgt := 120) hx hb d_Mc_sourceWord_25 (by decide) (by decide) (by decide) (by decide) ?_
    refine lv_iload_n hx hb d_Mc_sourceWord_120 rfl (lv_at hl 1 rfl) ?_
    refine lv_iconst (v := 1) hx hb d_Mc_sourceWord_121 (by decide) ?_
    refine lv_ishr hx hb d_Mc_sourceWord_122 ?_
    refine lv_i2s (v := ((α 3 (128 : Int32).toNatClampNeg) >>> ((1 : Int32) &&& 31)).toInt16.toInt32) hx hb d_Mc_sourceWord_123 rfl ?_
    obtain ⟨hn, hw⟩ := hw
    exact hret H locs 124 ls (((α 3 (128 : Int32).toNatClampNeg) >>> ((1 : Int32) &&& 31)).toInt16.toInt32) (σ, α) d_Mc_sourceWord_124 hP hD hS hn hw
  by_cases h25_13 : x1 = 13
  · have hw := hw.2.2.2.2.2.2.2.2.2.2.2.2.2.1 h25_13
    refine W.eq (g2 := F0 m 25 ls [.int (13 : Int32)]) (by rw [h25_13]) ?_
    refine lv_tableIn (off := 100) (tgt := 125) hx hb d_Mc_sourceWord_25 (by decide) (by decide) (by decide) (by decide) ?_
    refine lv_aload_n hx hb d_Mc_sourceWord_125 rfl (lv_at hl 2 rfl) ?_
    refine va_get (D := D) (ci := 4) (v := .ref (ad 4)) (C := R_Mc) (T := T_Mc) (N := 14) hx hb hts i_Mc hown hK hP 8 rfl rfl 1 (by decide) (hts _ tw_133) (fun _ h9 => h9) rfl d_Mc_sourceWord_126 ?_
    refine lv_aload_n hx hb d_Mc_sourceWord_129 rfl (lv_at hl 2 rfl) ?_
    refine va_get (D := D) (ci := 4) (v := .int (σ 9)) (C := R_Mc) (T := T_Mc) (N := 14) hx hb hts i_Mc hown hK hP 8 rfl rfl 8 (by decide) (hts _ tw_143) (fun _ h9 => h9) rfl d_Mc_sourceWord_130 ?_
    refine gCallVi (b := ad 4) (As := [.int (σ 9)]) (rest := []) (c_Rd_moveRow l D cI cS cZ ad wc wb kp tp σ α (σ 9) _ hw) hx hb hml hown hts hK hN hA hS hP hD (cwV 1 hts (gGV tw_358 tw_359 tw_360 tw_3 tw_361) rfl rfl rfl ⟨rfl, by decide, by decide, by decide +kernel⟩ ⟨Nat.le_of_ble_eq_true rfl, Nat.le_of_ble_eq_true rfl⟩) (va_recv (ci := 2) (q0 := 4) hK hP rfl rfl) rfl hl.1 rfl (Nat.le_of_ble_eq_true rfl) d_Mc_sourceWord_133 (fun r133 u133 H locs hw hP hD hS => ?_)
    have hP : va_P D gCl (xW cI cS cZ ad wc wb kp tp u133.1 u133.2) H := hP
    have hD : va_D A (xW cI cS cZ ad wc wb kp tp u133.1 u133.2) := hD
    obtain ⟨hn, hw⟩ := hw
    exact hret H locs 136 ls r133 (u133.1, u133.2) d_Mc_sourceWord_136 hP hD hS hn hw
  by_cases h25_14 : x1 = 14
  · have hw := hw.2.2.2.2.2.2.2.2.2.2.2.2.2.2.1 h25_14
    refine W.eq (g2 := F0 m 25 ls [.int (14 : Int32)]) (by rw [h25_14]) ?_
    refine lv_tableIn (off := 112) (tgt := 137) hx hb d_Mc_sourceWord_25 (by decide) (by decide) (by decide) (by decide) ?_
    refine lv_iload_n hx hb d_Mc_sourceWord_137 rfl (lv_at hl 1 rfl) ?_
    refine lv_iconst (v := (-1)) hx hb d_Mc_sourceWord_138 (by decide) ?_
    refine lv_ixor hx hb d_Mc_sourceWord_139 ?_
    refine lv_i2s (v := ((α 3 (128 : Int32).toNatClampNeg) ^^^ (-1 : Int32)).toInt16.toInt32) hx hb d_Mc_sourceWord_140 rfl ?_
    obtain ⟨hn, hw⟩ := hw
    exact hret H locs 141 ls (((α 3 (128 : Int32).toNatClampNeg) ^^^ (-1 : Int32)).toInt16.toInt32) (σ, α) d_Mc_sourceWord_141 hP hD hS hn hw
  by_cases h25_15 : x1 = 15
  · have hw := hw.2.2.2.2.2.2.2.2.2.2.2.2.2.2.2.1 h25_15
    refine W.eq (g2 := F0 m 25 ls [.int (15 : Int32)]) (by rw [h25_15]) ?_
    refine lv_tableIn (off := 117) (tgt := 142) hx hb d_Mc_sourceWord_25 (by decide) (by decide) (by decide) (by decide) ?_
    refine lv_aload_n hx hb d_Mc_sourceWord_142 rfl (lv_at hl 2 rfl) ?_
    refine va_get (D := D) (ci := 4) (v := .int (σ 9)) (C := R_Mc) (T := T_Mc) (N := 14) hx hb hts i_Mc hown hK hP 8 rfl rfl 8 (by decide) (hts _ tw_143) (fun _ h9 => h9) rfl d_Mc_sourceWord_143 ?_
    refine lv_i2s (v := (σ 9).toInt16.toInt32) hx hb d_Mc_sourceWord_146 rfl ?_
    obtain ⟨hn, hw⟩ := hw
    exact hret H locs 147 ls ((σ 9).toInt16.toInt32) (σ, α) d_Mc_sourceWord_147 hP hD hS hn hw
  have hw := hw.2.2.2.2.2.2.2.2.2.2.2.2.2.2.2.2
  have hd : x1.toInt < 0 ∨ 15 < x1.toInt := by
    have a0 := lv_neT h25_0 (show (0 : Int32).toInt = 0 from by decide)
    have a1 := lv_neT h25_1 (show (1 : Int32).toInt = 1 from by decide)
    have a2 := lv_neT h25_2 (show (2 : Int32).toInt = 2 from by decide)
    have a3 := lv_neT h25_3 (show (3 : Int32).toInt = 3 from by decide)
    have a4 := lv_neT h25_4 (show (4 : Int32).toInt = 4 from by decide)
    have a5 := lv_neT h25_5 (show (5 : Int32).toInt = 5 from by decide)
    have a6 := lv_neT h25_6 (show (6 : Int32).toInt = 6 from by decide)
    have a7 := lv_neT h25_7 (show (7 : Int32).toInt = 7 from by decide)
    have a8 := lv_neT h25_8 (show (8 : Int32).toInt = 8 from by decide)
    have a9 := lv_neT h25_9 (show (9 : Int32).toInt = 9 from by decide)
    have a10 := lv_neT h25_10 (show (10 : Int32).toInt = 10 from by decide)
    have a11 := lv_neT h25_11 (show (11 : Int32).toInt = 11 from by decide)
    have a12 := lv_neT h25_12 (show (12 : Int32).toInt = 12 from by decide)
    have a13 := lv_neT h25_13 (show (13 : Int32).toInt = 13 from by decide)
    have a14 := lv_neT h25_14 (show (14 : Int32).toInt = 14 from by decide)
    have a15 := lv_neT h25_15 (show (15 : Int32).toInt = 15 from by decide)
    omega
  have hw := hw hd
  refine lv_tableOut (tgt := 148) hx hb d_Mc_sourceWord_25 hd (by decide) ?_
  exact J148 σ α x1 ls H locs (lv_sub hl [2, 3] rfl) hP hD hS hw
abbrev rm_St_setProduct : Room := { frames := 0, cells := 0, slots := 0, locals := 0 }
set_option maxHeartbeats 4000000 in
set_option maxRecDepth 100000 in
theorem c_St_setProduct (l : Launch) (D : va_G) (cI cS cZ : ClassId) (ad : Nat → Nat) (wc wb : Nat) (kp tp : Nat → Nat) (σ : Nat → Int32) (α : Nat → Nat → Int32) (x1 : Int32) (post : gS → Prop) (hw : wp_St_setProduct σ α x1 post) : gMv l y_St_setProduct b_St_setProduct 2 rm_St_setProduct D (gT cI cS cZ) (fun u : gS => xW cI cS cZ ad wc wb kp tp u.1 u.2) [.ref (ad 1), .int x1] (σ, α) post := by
  refine gMv.of (by decide) (Nat.le_of_ble_eq_true rfl) ?_
  intro p e s m below meth c Q A hx hb hml hown hts hK hN hA hS hP hD hret ls hl
  have hl : lv_has ls 2 [(0, .ref (ad 1)), (1, .int x1)] := hl
  unfold wp_St_setProduct at hw
  have hP : va_P D gCl (xW cI cS cZ ad wc wb kp tp σ α) s.heap := hP
  have hD : va_D A (xW cI cS cZ ad wc wb kp tp σ α) := hD
  obtain ⟨H, hH⟩ : ∃ H, H = s.heap := ⟨_, rfl⟩
  obtain ⟨locs, hlocs⟩ : ∃ locs : List Loc, locs = [] := ⟨_, rfl⟩
  have hP : va_P D gCl (xW cI cS cZ ad wc wb kp tp σ α) H := by rw [hH]; exact hP
  have hS : va_S A s.heap H locs := by rw [hH, hlocs]; exact hS
  suffices K : W p l e rm_St_setProduct s m ([.ref (ad 1), .int x1] : List Value).toArray below meth c H locs 0 0 Q (F0 m 0 ls []) by rw [hH, hlocs] at K; exact K
  clear hH hlocs
  refine lv_aload_n hx hb d_St_setProduct_0 rfl (lv_at hl 0 rfl) ?_
  refine va_get (D := D) (ci := 1) (v := .ref (ad 3)) (C := R_St) (T := T_St) (N := 2) hx hb hts i_St hown hK hP 1 rfl rfl 1 (by decide) (hts _ tw_30) (fun _ h9 => h9) rfl d_St_setProduct_1 ?_
  refine lv_sipush (v := 130) hx hb d_St_setProduct_4 (by decide) ?_
  refine lv_iload_n hx hb d_St_setProduct_7 rfl (lv_at hl 1 rfl) ?_
  refine lv_i2s (v := x1.toInt16.toInt32) hx hb d_St_setProduct_8 rfl ?_
  refine va_sast (f := α 3) (i := (130 : Int32)) (x := x1.toInt16.toInt32) hx hb hK hP hD hS 3 1 rfl rfl (show vp_in (130 : Int32) 132 by unfold vp_in; decide) d_St_setProduct_9 (fun H locs hP hD hS => ?_)
  rw [show ((130 : Int32)).toNatClampNeg = 130 from by decide] at hP hD
  rw [xW_s3] at hP hD
  have hP : va_P D gCl (xW cI cS cZ ad wc wb kp tp σ (va_up α 3 (upd (α 3) 130 (vp_nar .short x1.toInt16.toInt32)))) H := hP
  have hD : va_D A (xW cI cS cZ ad wc wb kp tp σ (va_up α 3 (upd (α 3) 130 (vp_nar .short x1.toInt16.toInt32)))) := hD
  refine lv_aload_n hx hb d_St_setProduct_10 rfl (lv_at hl 0 rfl) ?_
  refine va_get (D := D) (ci := 1) (v := .ref (ad 3)) (C := R_St) (T := T_St) (N := 2) hx hb hts i_St hown hK hP 1 rfl rfl 1 (by decide) (hts _ tw_30) (fun _ h9 => h9) rfl d_St_setProduct_11 ?_
  refine lv_sipush (v := 131) hx hb d_St_setProduct_14 (by decide) ?_
  refine lv_iload_n hx hb d_St_setProduct_17 rfl (lv_at hl 1 rfl) ?_
  refine lv_bipush (v := 16) hx hb d_St_setProduct_18 (by decide) ?_
  refine lv_ishr hx hb d_St_setProduct_20 ?_
  refine lv_i2s (v := (x1 >>> ((16 : Int32) &&& 31)).toInt16.toInt32) hx hb d_St_setProduct_21 rfl ?_
  refine va_sast (f := upd (α 3) 130 (vp_nar .short x1.toInt16.toInt32)) (i := (131 : Int32)) (x := (x1 >>> ((16 : Int32) &&& 31)).toInt16.toInt32) hx hb hK hP hD hS 3 1 rfl rfl (show vp_in (131 : Int32) 132 by unfold vp_in; decide) d_St_setProduct_22 (fun H locs hP hD hS => ?_)
  rw [show ((131 : Int32)).toNatClampNeg = 131 from by decide] at hP hD
  rw [xW_s3] at hP hD
  rw [show va_up (va_up α 3 (upd (α 3) 130 (vp_nar .short x1.toInt16.toInt32))) 3 (upd (upd (α 3) 130 (vp_nar .short x1.toInt16.toInt32)) 131 (vp_nar .short ((x1 >>> ((16 : Int32) &&& 31)).toInt16.toInt32))) = (va_up α 3 (upd (upd (α 3) 130 (vp_nar .short x1.toInt16.toInt32)) 131 (vp_nar .short ((x1 >>> ((16 : Int32) &&& 31)).toInt16.toInt32)))) from by funext k9; simp only [va_up]; repeat' split; all_goals first | rfl | omega] at hP hD
  have hP : va_P D gCl (xW cI cS cZ ad wc wb kp tp σ (va_up α 3 (upd (upd (α 3) 130 (vp_nar .short x1.toInt16.toInt32)) 131 (vp_nar .short ((x1 >>> ((16 : Int32) &&& 31)).toInt16.toInt32))))) H := hP
  have hD : va_D A (xW cI cS cZ ad wc wb kp tp σ (va_up α 3 (upd (upd (α 3) 130 (vp_nar .short x1.toInt16.toInt32)) 131 (vp_nar .short ((x1 >>> ((16 : Int32) &&& 31)).toInt16.toInt32))))) := hD
  exact hret H locs 23 ls (σ, (va_up α 3 (upd (upd (α 3) 130 (vp_nar .short x1.toInt16.toInt32)) 131 (vp_nar .short ((x1 >>> ((16 : Int32) &&& 31)).toInt16.toInt32))))) d_St_setProduct_23 hP hD hS hw
abbrev rm_Mu_begin : Room := { frames := 1, cells := 0, slots := 0, locals := 21 }
set_option maxHeartbeats 4000000 in
set_option maxRecDepth 100000 in
theorem c_Mu_begin (l : Launch) (D : va_G) (cI cS cZ : ClassId) (ad : Nat → Nat) (wc wb : Nat) (kp tp : Nat → Nat) (σ : Nat → Int32) (α : Nat → Nat → Int32) (x1 : Int32) (post : gS → Prop) (hw : wp_Mu_begin σ α x1 post) : gMv l y_Mu_begin b_Mu_begin 3 rm_Mu_begin D (gT cI cS cZ) (fun u : gS => xW cI cS cZ ad wc wb kp tp u.1 u.2) [.ref (ad 9), .int x1, .ref (ad 1)] (σ, α) post := by
  refine gMv.of (by decide) (Nat.le_of_ble_eq_true rfl) ?_
  intro p e s m below meth c Q A hx hb hml hown hts hK hN hA hS hP hD hret ls hl
  have hl : lv_has ls 3 [(0, .ref (ad 9)), (1, .int x1), (2, .ref (ad 1))] := hl
  unfold wp_Mu_begin at hw
  have hP : va_P D gCl (xW cI cS cZ ad wc wb kp tp σ α) s.heap := hP
  have hD : va_D A (xW cI cS cZ ad wc wb kp tp σ α) := hD
  obtain ⟨H, hH⟩ : ∃ H, H = s.heap := ⟨_, rfl⟩
  obtain ⟨locs, hlocs⟩ : ∃ locs : List Loc, locs = [] := ⟨_, rfl⟩
  have hP : va_P D gCl (xW cI cS cZ ad wc wb kp tp σ α) H := by rw [hH]; exact hP
  have hS : va_S A s.heap H locs := by rw [hH, hlocs]; exact hS
  suffices K : W p l e rm_Mu_begin s m ([.ref (ad 9), .int x1, .ref (ad 1)] : List Value).toArray below meth c H locs 0 0 Q (F0 m 0 ls []) by rw [hH, hlocs] at K; exact K
  clear hH hlocs
  refine lv_aload_n hx hb d_Mu_begin_0 rfl (lv_at hl 0 rfl) ?_
  refine lv_iload_n hx hb d_Mu_begin_1 rfl (lv_at hl 1 rfl) ?_
  refine va_put (D := D) (ci := 5) (v := .int x1) (ty := .int) (C := R_Mu) (T := T_Mu) (N := 3) hx hb hts i_Mu t_Mu o_Mu n_Mu hown hK hP hD hS 9 rfl rfl 0 (by decide) (hts _ tw_96) (fun _ h9 => h9) rfl (by decide +kernel) rfl rfl (Nat.le_of_ble_eq_true rfl) d_Mu_begin_2 (fun H locs hP hD hS => ?_)
  have hP : va_P D gCl (xW cI cS cZ ad wc wb kp tp (va_up σ 15 x1) α) H := hP
  have hD : va_D A (xW cI cS cZ ad wc wb kp tp (va_up σ 15 x1) α) := hD
  refine lv_aload_n hx hb d_Mu_begin_5 rfl (lv_at hl 0 rfl) ?_
  refine lv_bipush (v := 16) hx hb d_Mu_begin_6 (by decide) ?_
  refine va_put (D := D) (ci := 5) (v := .int (16 : Int32)) (ty := .int) (C := R_Mu) (T := T_Mu) (N := 3) hx hb hts i_Mu t_Mu o_Mu n_Mu hown hK hP hD hS 9 rfl rfl 1 (by decide) (hts _ tw_97) (fun _ h9 => h9) rfl (by decide +kernel) rfl rfl (Nat.le_of_ble_eq_true rfl) d_Mu_begin_8 (fun H locs hP hD hS => ?_)
  have hP : va_P D gCl (xW cI cS cZ ad wc wb kp tp (va_up (va_up σ 15 x1) 16 (16 : Int32)) α) H := hP
  have hD : va_D A (xW cI cS cZ ad wc wb kp tp (va_up (va_up σ 15 x1) 16 (16 : Int32)) α) := hD
  refine lv_aload_n hx hb d_Mu_begin_11 rfl (lv_at hl 0 rfl) ?_
  refine lv_iconst (v := 1) hx hb d_Mu_begin_12 (by decide) ?_
  refine va_put (D := D) (ci := 5) (v := .int (1 : Int32)) (ty := .boolean) (C := R_Mu) (T := T_Mu) (N := 3) hx hb hts i_Mu t_Mu o_Mu n_Mu hown hK hP hD hS 9 rfl rfl 2 (by decide) (hts _ tw_99) (fun _ h9 => h9) rfl (by decide +kernel) rfl rfl (Nat.le_of_ble_eq_true rfl) d_Mu_begin_13 (fun H locs hP hD hS => ?_)
  have hP : va_P D gCl (xW cI cS cZ ad wc wb kp tp (va_up (va_up (va_up σ 15 x1) 16 (16 : Int32)) 17 (1 : Int32)) α) H := hP
  have hD : va_D A (xW cI cS cZ ad wc wb kp tp (va_up (va_up (va_up σ 15 x1) 16 (16 : Int32)) 17 (1 : Int32)) α) := hD
  refine lv_aload_n hx hb d_Mu_begin_16 rfl (lv_at hl 2 rfl) ?_
  refine lv_iconst (v := 0) hx hb d_Mu_begin_17 (by decide) ?_
  refine gCallVv (b := ad 1) (As := [.int (0 : Int32)]) (rest := []) (c_St_setProduct l D cI cS cZ ad wc wb kp tp (va_up (va_up (va_up σ 15 x1) 16 (16 : Int32)) 17 (1 : Int32)) α (0 : Int32) _ hw) hx hb hml hown hts hK hN hA hS hP hD (cwV 1 hts (gGV tw_381 tw_382 tw_383 tw_2 tw_384) rfl rfl rfl ⟨rfl, by decide, by decide, by decide +kernel⟩ ⟨Nat.le_of_ble_eq_true rfl, Nat.le_of_ble_eq_true rfl⟩) (va_recv (ci := 1) (q0 := 1) hK hP rfl rfl) rfl hl.1 rfl (Nat.le_of_ble_eq_true rfl) d_Mu_begin_18 (fun u18 H locs hw hP hD hS => ?_)
  have hP : va_P D gCl (xW cI cS cZ ad wc wb kp tp u18.1 u18.2) H := hP
  have hD : va_D A (xW cI cS cZ ad wc wb kp tp u18.1 u18.2) := hD
  exact hret H locs 21 ls (u18.1, u18.2) d_Mu_begin_21 hP hD hS hw
abbrev rm_Rd_rowsLeft : Room := { frames := 0, cells := 0, slots := 0, locals := 0 }
set_option maxHeartbeats 4000000 in
set_option maxRecDepth 100000 in
theorem c_Rd_rowsLeft (l : Launch) (D : va_G) (cI cS cZ : ClassId) (ad : Nat → Nat) (wc wb : Nat) (kp tp : Nat → Nat) (σ : Nat → Int32) (α : Nat → Nat → Int32) (post : Int32 → gS → Prop) (hw : wp_Rd_rowsLeft σ α post) : gMi l y_Rd_rowsLeft b_Rd_rowsLeft 1 .int rm_Rd_rowsLeft D (gT cI cS cZ) (fun u : gS => xW cI cS cZ ad wc wb kp tp u.1 u.2) [.ref (ad 4)] (σ, α) post := by
  refine gMi.of (by decide) (Nat.le_of_ble_eq_true rfl) ?_
  intro p e s m below meth c Q A hx hb hml hown hts hK hN hA hS hP hD hret ls hl
  have hl : lv_has ls 1 [(0, .ref (ad 4))] := hl
  unfold wp_Rd_rowsLeft at hw
  have hP : va_P D gCl (xW cI cS cZ ad wc wb kp tp σ α) s.heap := hP
  have hD : va_D A (xW cI cS cZ ad wc wb kp tp σ α) := hD
  obtain ⟨H, hH⟩ : ∃ H, H = s.heap := ⟨_, rfl⟩
  obtain ⟨locs, hlocs⟩ : ∃ locs : List Loc, locs = [] := ⟨_, rfl⟩
  have hP : va_P D gCl (xW cI cS cZ ad wc wb kp tp σ α) H := by rw [hH]; exact hP
  have hS : va_S A s.heap H locs := by rw [hH, hlocs]; exact hS
  suffices K : W p l e rm_Rd_rowsLeft s m ([.ref (ad 4)] : List Value).toArray below meth c H locs 0 0 Q (F0 m 0 ls []) by rw [hH, hlocs] at K; exact K
  clear hH hlocs
  refine lv_aload_n hx hb d_Rd_rowsLeft_0 rfl (lv_at hl 0 rfl) ?_
  refine va_get (D := D) (ci := 2) (v := .int (σ 0)) (C := R_Rd) (T := T_Rd) (N := 6) hx hb hts i_Rd hown hK hP 4 rfl rfl 1 (by decide) (hts _ tw_48) (fun _ h9 => h9) rfl d_Rd_rowsLeft_1 ?_
  refine lv_aload_n hx hb d_Rd_rowsLeft_4 rfl (lv_at hl 0 rfl) ?_
  refine va_get (D := D) (ci := 2) (v := .int (σ 1)) (C := R_Rd) (T := T_Rd) (N := 6) hx hb hts i_Rd hown hK hP 4 rfl rfl 2 (by decide) (hts _ tw_49) (fun _ h9 => h9) rfl d_Rd_rowsLeft_5 ?_
  refine lv_isub hx hb d_Rd_rowsLeft_8 ?_
  exact hret H locs 9 ls ((σ 0) - (σ 1)) (σ, α) d_Rd_rowsLeft_9 hP hD hS (vp_nar_int _) hw
abbrev rm_Rd_feed : Room := { frames := 1, cells := 0, slots := 0, locals := 20 }
set_option maxHeartbeats 4000000 in
set_option maxRecDepth 100000 in
theorem c_Rd_feed (l : Launch) (D : va_G) (cI cS cZ : ClassId) (ad : Nat → Nat) (wc wb : Nat) (kp tp : Nat → Nat) (σ : Nat → Int32) (α : Nat → Nat → Int32) (x1 : Int32) (post : Int32 → gS → Prop) (hw : wp_Rd_feed σ α x1 post) : gMi l y_Rd_feed b_Rd_feed 2 .boolean rm_Rd_feed D (gT cI cS cZ) (fun u : gS => xW cI cS cZ ad wc wb kp tp u.1 u.2) [.ref (ad 4), .int x1] (σ, α) post := by
  refine gMi.of (by decide) (Nat.le_of_ble_eq_true rfl) ?_
  intro p e s m below meth c Q A hx hb hml hown hts hK hN hA hS hP hD hret ls hl
  have hl : lv_has ls 2 [(0, .ref (ad 4)), (1, .int x1)] := hl
  have J16 : ∀ (σ : Nat → Int32) (α : Nat → Nat → Int32) (ls : Array Slot) (H : Heap) (locs : List Loc), lv_has ls 2 [] → va_P D gCl (xW cI cS cZ ad wc wb kp tp σ α) H → va_D A (xW cI cS cZ ad wc wb kp tp σ α) → va_S A s.heap H locs → wp_Rd_feed_J16 σ α post → W p l e rm_Rd_feed s m ([.ref (ad 4), .int x1] : List Value).toArray below meth c H locs 0 0 Q (F0 m 16 ls []) := by
    intro σ α ls H locs hl hP hD hS hw
    unfold wp_Rd_feed_J16 at hw
    refine lv_iconst (v := 0) hx hb d_Rd_feed_16 (by decide) ?_
    exact hret H locs 17 ls (0 : Int32) (σ, α) d_Rd_feed_17 hP hD hS rfl hw
  unfold wp_Rd_feed at hw
  have hP : va_P D gCl (xW cI cS cZ ad wc wb kp tp σ α) s.heap := hP
  have hD : va_D A (xW cI cS cZ ad wc wb kp tp σ α) := hD
  obtain ⟨H, hH⟩ : ∃ H, H = s.heap := ⟨_, rfl⟩
  obtain ⟨locs, hlocs⟩ : ∃ locs : List Loc, locs = [] := ⟨_, rfl⟩
  have hP : va_P D gCl (xW cI cS cZ ad wc wb kp tp σ α) H := by rw [hH]; exact hP
  have hS : va_S A s.heap H locs := by rw [hH, hlocs]; exact hS
  suffices K : W p l e rm_Rd_feed s m ([.ref (ad 4), .int x1] : List Value).toArray below meth c H locs 0 0 Q (F0 m 0 ls []) by rw [hH, hlocs] at K; exact K
  clear hH hlocs
  refine lv_aload_n hx hb d_Rd_feed_0 rfl (lv_at hl 0 rfl) ?_
  refine va_get (D := D) (ci := 2) (v := .int (σ 2)) (C := R_Rd) (T := T_Rd) (N := 6) hx hb hts i_Rd hown hK hP 4 rfl rfl 3 (by decide) (hts _ tw_50) (fun _ h9 => h9) rfl d_Rd_feed_1 ?_
  refine lv_if_ne (tgt := 16) hx hb d_Rd_feed_4 (by decide) (fun h => ?_) (fun h => ?_)
  · have hw := hw.1 h
    exact J16 σ α ls H locs (lv_sub hl [] rfl) hP hD hS hw
  · have hw := hw.2 h
    refine lv_aload_n hx hb d_Rd_feed_7 rfl (lv_at hl 0 rfl) ?_
    refine gCallVi (b := ad 4) (As := []) (rest := []) (c_Rd_rowsLeft l D cI cS cZ ad wc wb kp tp σ α _ hw) hx hb hml hown hts hK hN hA hS hP hD (cwV 0 hts (gGV tw_389 tw_390 tw_391 tw_3 tw_392) rfl rfl rfl ⟨rfl, by decide, by decide, by decide +kernel⟩ ⟨Nat.le_of_ble_eq_true rfl, Nat.le_of_ble_eq_true rfl⟩) (va_recv (ci := 2) (q0 := 4) hK hP rfl rfl) rfl hl.1 rfl (Nat.le_of_ble_eq_true rfl) d_Rd_feed_8 (fun r8 u8 H locs hw hP hD hS => ?_)
    have hP : va_P D gCl (xW cI cS cZ ad wc wb kp tp u8.1 u8.2) H := hP
    have hD : va_D A (xW cI cS cZ ad wc wb kp tp u8.1 u8.2) := hD
    refine lv_bipush (v := 12) hx hb d_Rd_feed_11 (by decide) ?_
    refine lv_icmp_ge (tgt := 18) hx hb d_Rd_feed_13 (by decide) (fun h => ?_) (fun h => ?_)
    · have hw := hw.1 h
      refine lv_aload_n hx hb d_Rd_feed_18 rfl (lv_at hl 0 rfl) ?_
      refine lv_dup hx hb d_Rd_feed_19 rfl ?_
      refine va_get (D := D) (ci := 2) (v := .int (u8.1 1)) (C := R_Rd) (T := T_Rd) (N := 6) hx hb hts i_Rd hown hK hP 4 rfl rfl 2 (by decide) (hts _ tw_49) (fun _ h9 => h9) rfl d_Rd_feed_20 ?_
      refine lv_bipush (v := 12) hx hb d_Rd_feed_23 (by decide) ?_
      refine lv_iadd hx hb d_Rd_feed_25 ?_
      refine va_put (D := D) (ci := 2) (v := .int ((u8.1 1) + (12 : Int32))) (ty := .int) (C := R_Rd) (T := T_Rd) (N := 6) hx hb hts i_Rd t_Rd o_Rd n_Rd hown hK hP hD hS 4 rfl rfl 2 (by decide) (hts _ tw_49) (fun _ h9 => h9) rfl (by decide +kernel) rfl rfl (Nat.le_of_ble_eq_true rfl) d_Rd_feed_26 (fun H locs hP hD hS => ?_)
      have hP : va_P D gCl (xW cI cS cZ ad wc wb kp tp (va_up u8.1 1 ((u8.1 1) + (12 : Int32))) u8.2) H := hP
      have hD : va_D A (xW cI cS cZ ad wc wb kp tp (va_up u8.1 1 ((u8.1 1) + (12 : Int32))) u8.2) := hD
      refine lv_aload_n hx hb d_Rd_feed_29 rfl (lv_at hl 0 rfl) ?_
      refine lv_iconst (v := 1) hx hb d_Rd_feed_30 (by decide) ?_
      refine va_put (D := D) (ci := 2) (v := .int (1 : Int32)) (ty := .boolean) (C := R_Rd) (T := T_Rd) (N := 6) hx hb hts i_Rd t_Rd o_Rd n_Rd hown hK hP hD hS 4 rfl rfl 3 (by decide) (hts _ tw_50) (fun _ h9 => h9) rfl (by decide +kernel) rfl rfl (Nat.le_of_ble_eq_true rfl) d_Rd_feed_31 (fun H locs hP hD hS => ?_)
      have hP : va_P D gCl (xW cI cS cZ ad wc wb kp tp (va_up (va_up u8.1 1 ((u8.1 1) + (12 : Int32))) 2 (1 : Int32)) u8.2) H := hP
      have hD : va_D A (xW cI cS cZ ad wc wb kp tp (va_up (va_up u8.1 1 ((u8.1 1) + (12 : Int32))) 2 (1 : Int32)) u8.2) := hD
      refine lv_aload_n hx hb d_Rd_feed_34 rfl (lv_at hl 0 rfl) ?_
      refine lv_iload_n hx hb d_Rd_feed_35 rfl (lv_at hl 1 rfl) ?_
      refine va_put (D := D) (ci := 2) (v := .int x1) (ty := .int) (C := R_Rd) (T := T_Rd) (N := 6) hx hb hts i_Rd t_Rd o_Rd n_Rd hown hK hP hD hS 4 rfl rfl 4 (by decide) (hts _ tw_51) (fun _ h9 => h9) rfl (by decide +kernel) rfl rfl (Nat.le_of_ble_eq_true rfl) d_Rd_feed_36 (fun H locs hP hD hS => ?_)
      have hP : va_P D gCl (xW cI cS cZ ad wc wb kp tp (va_up (va_up (va_up u8.1 1 ((u8.1 1) + (12 : Int32))) 2 (1 : Int32)) 3 x1) u8.2) H := hP
      have hD : va_D A (xW cI cS cZ ad wc wb kp tp (va_up (va_up (va_up u8.1 1 ((u8.1 1) + (12 : Int32))) 2 (1 : Int32)) 3 x1) u8.2) := hD
      refine lv_iconst (v := 1) hx hb d_Rd_feed_39 (by decide) ?_
      exact hret H locs 40 ls (1 : Int32) ((va_up (va_up (va_up u8.1 1 ((u8.1 1) + (12 : Int32))) 2 (1 : Int32)) 3 x1), u8.2) d_Rd_feed_40 hP hD hS rfl hw
    · have hw := hw.2 h
      exact J16 u8.1 u8.2 ls H locs (lv_sub hl [] rfl) hP hD hS hw
abbrev rm_Mc_stopBy : Room := { frames := 0, cells := 0, slots := 0, locals := 0 }
set_option maxHeartbeats 4000000 in
set_option maxRecDepth 100000 in
theorem c_Mc_stopBy (l : Launch) (D : va_G) (cI cS cZ : ClassId) (ad : Nat → Nat) (wc wb : Nat) (kp tp : Nat → Nat) (σ : Nat → Int32) (α : Nat → Nat → Int32) (x1 : Int32) (post : gS → Prop) (hw : wp_Mc_stopBy σ α x1 post) : gMv l y_Mc_stopBy b_Mc_stopBy 2 rm_Mc_stopBy D (gT cI cS cZ) (fun u : gS => xW cI cS cZ ad wc wb kp tp u.1 u.2) [.ref (ad 8), .int x1] (σ, α) post := by
  refine gMv.of (by decide) (Nat.le_of_ble_eq_true rfl) ?_
  intro p e s m below meth c Q A hx hb hml hown hts hK hN hA hS hP hD hret ls hl
  have hl : lv_has ls 2 [(0, .ref (ad 8)), (1, .int x1)] := hl
  have J17 : ∀ (σ : Nat → Int32) (α : Nat → Nat → Int32) (ls : Array Slot) (H : Heap) (locs : List Loc), lv_has ls 2 [] → va_P D gCl (xW cI cS cZ ad wc wb kp tp σ α) H → va_D A (xW cI cS cZ ad wc wb kp tp σ α) → va_S A s.heap H locs → wp_Mc_stopBy_J17 σ α post → W p l e rm_Mc_stopBy s m ([.ref (ad 8), .int x1] : List Value).toArray below meth c H locs 0 0 Q (F0 m 17 ls []) := by
    intro σ α ls H locs hl hP hD hS hw
    unfold wp_Mc_stopBy_J17 at hw
    exact hret H locs 17 ls (σ, α) d_Mc_stopBy_17 hP hD hS hw
  unfold wp_Mc_stopBy at hw
  have hP : va_P D gCl (xW cI cS cZ ad wc wb kp tp σ α) s.heap := hP
  have hD : va_D A (xW cI cS cZ ad wc wb kp tp σ α) := hD
  obtain ⟨H, hH⟩ : ∃ H, H = s.heap := ⟨_, rfl⟩
  obtain ⟨locs, hlocs⟩ : ∃ locs : List Loc, locs = [] := ⟨_, rfl⟩
  have hP : va_P D gCl (xW cI cS cZ ad wc wb kp tp σ α) H := by rw [hH]; exact hP
  have hS : va_S A s.heap H locs := by rw [hH, hlocs]; exact hS
  suffices K : W p l e rm_Mc_stopBy s m ([.ref (ad 8), .int x1] : List Value).toArray below meth c H locs 0 0 Q (F0 m 0 ls []) by rw [hH, hlocs] at K; exact K
  clear hH hlocs
  refine lv_aload_n hx hb d_Mc_stopBy_0 rfl (lv_at hl 0 rfl) ?_
  refine lv_iconst (v := 0) hx hb d_Mc_stopBy_1 (by decide) ?_
  refine va_put (D := D) (ci := 4) (v := .int (0 : Int32)) (ty := .boolean) (C := R_Mc) (T := T_Mc) (N := 14) hx hb hts i_Mc t_Mc o_Mc n_Mc hown hK hP hD hS 8 rfl rfl 6 (by decide) (hts _ tw_139) (fun _ h9 => h9) rfl (by decide +kernel) rfl rfl (Nat.le_of_ble_eq_true rfl) d_Mc_stopBy_2 (fun H locs hP hD hS => ?_)
  have hP : va_P D gCl (xW cI cS cZ ad wc wb kp tp (va_up σ 7 (0 : Int32)) α) H := hP
  have hD : va_D A (xW cI cS cZ ad wc wb kp tp (va_up σ 7 (0 : Int32)) α) := hD
  refine lv_aload_n hx hb d_Mc_stopBy_5 rfl (lv_at hl 0 rfl) ?_
  refine va_get (D := D) (ci := 4) (v := .int (σ 8)) (C := R_Mc) (T := T_Mc) (N := 14) hx hb hts i_Mc hown hK hP 8 rfl rfl 7 (by decide) (hts _ tw_141) (fun _ h9 => h9) rfl d_Mc_stopBy_6 ?_
  refine lv_if_ne (tgt := 17) hx hb d_Mc_stopBy_9 (by decide) (fun h => ?_) (fun h => ?_)
  · have hw := hw.1 h
    exact J17 (va_up σ 7 (0 : Int32)) α ls H locs (lv_sub hl [] rfl) hP hD hS hw
  · have hw := hw.2 h
    refine lv_aload_n hx hb d_Mc_stopBy_12 rfl (lv_at hl 0 rfl) ?_
    refine lv_iload_n hx hb d_Mc_stopBy_13 rfl (lv_at hl 1 rfl) ?_
    refine va_put (D := D) (ci := 4) (v := .int x1) (ty := .int) (C := R_Mc) (T := T_Mc) (N := 14) hx hb hts i_Mc t_Mc o_Mc n_Mc hown hK hP hD hS 8 rfl rfl 7 (by decide) (hts _ tw_141) (fun _ h9 => h9) rfl (by decide +kernel) rfl rfl (Nat.le_of_ble_eq_true rfl) d_Mc_stopBy_14 (fun H locs hP hD hS => ?_)
    have hP : va_P D gCl (xW cI cS cZ ad wc wb kp tp (va_up (va_up σ 7 (0 : Int32)) 8 x1) α) H := hP
    have hD : va_D A (xW cI cS cZ ad wc wb kp tp (va_up (va_up σ 7 (0 : Int32)) 8 x1) α) := hD
    exact J17 (va_up (va_up σ 7 (0 : Int32)) 8 x1) α ls H locs (lv_sub hl [] rfl) hP hD hS hw
abbrev rm_Pu_take : Room := { frames := 0, cells := 0, slots := 0, locals := 0 }
set_option maxHeartbeats 4000000 in
set_option maxRecDepth 100000 in
theorem c_Pu_take (l : Launch) (D : va_G) (cI cS cZ : ClassId) (ad : Nat → Nat) (wc wb : Nat) (kp tp : Nat → Nat) (σ : Nat → Int32) (α : Nat → Nat → Int32) (x1 : Int32) (x2 : Int32) (post : Int32 → gS → Prop) (hw : wp_Pu_take σ α x1 x2 post) : gMi l y_Pu_take b_Pu_take 4 .boolean rm_Pu_take D (gT cI cS cZ) (fun u : gS => xW cI cS cZ ad wc wb kp tp u.1 u.2) [.ref (ad 6), .int x1, .int x2] (σ, α) post := by
  refine gMi.of (by decide) (Nat.le_of_ble_eq_true rfl) ?_
  intro p e s m below meth c Q A hx hb hml hown hts hK hN hA hS hP hD hret ls hl
  have hl : lv_has ls 4 [(0, .ref (ad 6)), (1, .int x1), (2, .int x2)] := hl
  have J37 : ∀ (σ : Nat → Int32) (α : Nat → Nat → Int32) (ls : Array Slot) (H : Heap) (locs : List Loc), lv_has ls 4 [] → va_P D gCl (xW cI cS cZ ad wc wb kp tp σ α) H → va_D A (xW cI cS cZ ad wc wb kp tp σ α) → va_S A s.heap H locs → wp_Pu_take_J37 σ α post → W p l e rm_Pu_take s m ([.ref (ad 6), .int x1, .int x2] : List Value).toArray below meth c H locs 0 0 Q (F0 m 37 ls []) := by
    intro σ α ls H locs hl hP hD hS hw
    unfold wp_Pu_take_J37 at hw
    refine lv_iconst (v := 0) hx hb d_Pu_take_37 (by decide) ?_
    exact hret H locs 38 ls (0 : Int32) (σ, α) d_Pu_take_38 hP hD hS rfl hw
  have J23 : ∀ (σ : Nat → Int32) (α : Nat → Nat → Int32) (a1 : Int32) (a2 : Int32) (t0 : Int32) (ls : Array Slot) (H : Heap) (locs : List Loc), lv_has ls 4 [(0, .ref (ad 6)), (1, .int a1), (2, .int a2)] → va_P D gCl (xW cI cS cZ ad wc wb kp tp σ α) H → va_D A (xW cI cS cZ ad wc wb kp tp σ α) → va_S A s.heap H locs → wp_Pu_take_J23 σ α a1 a2 t0 post → W p l e rm_Pu_take s m ([.ref (ad 6), .int x1, .int x2] : List Value).toArray below meth c H locs 0 0 Q (F0 m 23 ls [.int t0]) := by
    intro σ α a1 a2 t0 ls H locs hl hP hD hS hw
    unfold wp_Pu_take_J23 at hw
    refine lv_istore_n hx hb d_Pu_take_23 rfl hl (by decide) rfl (fun ls hl => ?_)
    have hl : lv_has ls 4 [(3, .int t0), (0, .ref (ad 6)), (1, .int a1), (2, .int a2)] := hl
    refine lv_iload_n hx hb d_Pu_take_24 rfl (lv_at hl 0 rfl) ?_
    refine lv_if_ne (tgt := 37) hx hb d_Pu_take_25 (by decide) (fun h => ?_) (fun h => ?_)
    · have hw := hw.1 h
      exact J37 σ α ls H locs (lv_sub hl [] rfl) hP hD hS hw
    · have hw := hw.2 h
      refine lv_aload_n hx hb d_Pu_take_28 rfl (lv_at hl 1 rfl) ?_
      refine va_get (D := D) (ci := 3) (v := .int (σ 5)) (C := R_Pu) (T := T_Pu) (N := 3) hx hb hts i_Pu hown hK hP 6 rfl rfl 1 (by decide) (hts _ tw_74) (fun _ h9 => h9) rfl d_Pu_take_29 ?_
      refine lv_bipush (v := 60) hx hb d_Pu_take_32 (by decide) ?_
      refine lv_icmp_lt (tgt := 39) hx hb d_Pu_take_34 (by decide) (fun h => ?_) (fun h => ?_)
      · have hw := hw.1 h
        refine lv_aload_n hx hb d_Pu_take_39 rfl (lv_at hl 1 rfl) ?_
        refine va_get (D := D) (ci := 3) (v := .ref (ad 7)) (C := R_Pu) (T := T_Pu) (N := 3) hx hb hts i_Pu hown hK hP 6 rfl rfl 0 (by decide) (hts _ tw_72) (fun _ h9 => h9) rfl d_Pu_take_40 ?_
        refine lv_aload_n hx hb d_Pu_take_43 rfl (lv_at hl 1 rfl) ?_
        refine va_get (D := D) (ci := 3) (v := .int (σ 5)) (C := R_Pu) (T := T_Pu) (N := 3) hx hb hts i_Pu hown hK hP 6 rfl rfl 1 (by decide) (hts _ tw_74) (fun _ h9 => h9) rfl d_Pu_take_44 ?_
        refine lv_iload_n hx hb d_Pu_take_47 rfl (lv_at hl 2 rfl) ?_
        obtain ⟨hin, hw⟩ := hw
        refine va_sast (f := α 7) (i := σ 5) (x := a1) hx hb hK hP hD hS 7 1 rfl rfl hin d_Pu_take_48 (fun H locs hP hD hS => ?_)
        rw [xW_s7] at hP hD
        have hP : va_P D gCl (xW cI cS cZ ad wc wb kp tp σ (va_up α 7 (upd (α 7) (σ 5).toNatClampNeg (vp_nar .short a1)))) H := hP
        have hD : va_D A (xW cI cS cZ ad wc wb kp tp σ (va_up α 7 (upd (α 7) (σ 5).toNatClampNeg (vp_nar .short a1)))) := hD
        refine lv_aload_n hx hb d_Pu_take_49 rfl (lv_at hl 1 rfl) ?_
        refine lv_dup hx hb d_Pu_take_50 rfl ?_
        refine va_get (D := D) (ci := 3) (v := .int (σ 5)) (C := R_Pu) (T := T_Pu) (N := 3) hx hb hts i_Pu hown hK hP 6 rfl rfl 1 (by decide) (hts _ tw_74) (fun _ h9 => h9) rfl d_Pu_take_51 ?_
        refine lv_iconst (v := 1) hx hb d_Pu_take_54 (by decide) ?_
        refine lv_iadd hx hb d_Pu_take_55 ?_
        refine va_put (D := D) (ci := 3) (v := .int ((σ 5) + (1 : Int32))) (ty := .int) (C := R_Pu) (T := T_Pu) (N := 3) hx hb hts i_Pu t_Pu o_Pu n_Pu hown hK hP hD hS 6 rfl rfl 1 (by decide) (hts _ tw_74) (fun _ h9 => h9) rfl (by decide +kernel) rfl rfl (Nat.le_of_ble_eq_true rfl) d_Pu_take_56 (fun H locs hP hD hS => ?_)
        have hP : va_P D gCl (xW cI cS cZ ad wc wb kp tp (va_up σ 5 ((σ 5) + (1 : Int32))) (va_up α 7 (upd (α 7) (σ 5).toNatClampNeg (vp_nar .short a1)))) H := hP
        have hD : va_D A (xW cI cS cZ ad wc wb kp tp (va_up σ 5 ((σ 5) + (1 : Int32))) (va_up α 7 (upd (α 7) (σ 5).toNatClampNeg (vp_nar .short a1)))) := hD
        refine lv_aload_n hx hb d_Pu_take_59 rfl (lv_at hl 1 rfl) ?_
        refine lv_iload_n hx hb d_Pu_take_60 rfl (lv_at hl 3 rfl) ?_
        refine va_put (D := D) (ci := 3) (v := .int a2) (ty := .int) (C := R_Pu) (T := T_Pu) (N := 3) hx hb hts i_Pu t_Pu o_Pu n_Pu hown hK hP hD hS 6 rfl rfl 2 (by decide) (hts _ tw_76) (fun _ h9 => h9) rfl (by decide +kernel) rfl rfl (Nat.le_of_ble_eq_true rfl) d_Pu_take_61 (fun H locs hP hD hS => ?_)
        have hP : va_P D gCl (xW cI cS cZ ad wc wb kp tp (va_up (va_up σ 5 ((σ 5) + (1 : Int32))) 6 a2) (va_up α 7 (upd (α 7) (σ 5).toNatClampNeg (vp_nar .short a1)))) H := hP
        have hD : va_D A (xW cI cS cZ ad wc wb kp tp (va_up (va_up σ 5 ((σ 5) + (1 : Int32))) 6 a2) (va_up α 7 (upd (α 7) (σ 5).toNatClampNeg (vp_nar .short a1)))) := hD
        refine lv_iconst (v := 1) hx hb d_Pu_take_64 (by decide) ?_
        exact hret H locs 65 ls (1 : Int32) ((va_up (va_up σ 5 ((σ 5) + (1 : Int32))) 6 a2), (va_up α 7 (upd (α 7) (σ 5).toNatClampNeg (vp_nar .short a1)))) d_Pu_take_65 hP hD hS rfl hw
      · have hw := hw.2 h
        exact J37 σ α ls H locs (lv_sub hl [] rfl) hP hD hS hw
  have J22 : ∀ (σ : Nat → Int32) (α : Nat → Nat → Int32) (a1 : Int32) (a2 : Int32) (ls : Array Slot) (H : Heap) (locs : List Loc), lv_has ls 4 [(0, .ref (ad 6)), (1, .int a1), (2, .int a2)] → va_P D gCl (xW cI cS cZ ad wc wb kp tp σ α) H → va_D A (xW cI cS cZ ad wc wb kp tp σ α) → va_S A s.heap H locs → wp_Pu_take_J22 σ α a1 a2 post → W p l e rm_Pu_take s m ([.ref (ad 6), .int x1, .int x2] : List Value).toArray below meth c H locs 0 0 Q (F0 m 22 ls []) := by
    intro σ α a1 a2 ls H locs hl hP hD hS hw
    unfold wp_Pu_take_J22 at hw
    refine lv_iconst (v := 0) hx hb d_Pu_take_22 (by decide) ?_
    exact J23 σ α a1 a2 (0 : Int32) ls H locs (lv_sub hl [0, 1, 2] rfl) hP hD hS hw
  unfold wp_Pu_take at hw
  have hP : va_P D gCl (xW cI cS cZ ad wc wb kp tp σ α) s.heap := hP
  have hD : va_D A (xW cI cS cZ ad wc wb kp tp σ α) := hD
  obtain ⟨H, hH⟩ : ∃ H, H = s.heap := ⟨_, rfl⟩
  obtain ⟨locs, hlocs⟩ : ∃ locs : List Loc, locs = [] := ⟨_, rfl⟩
  have hP : va_P D gCl (xW cI cS cZ ad wc wb kp tp σ α) H := by rw [hH]; exact hP
  have hS : va_S A s.heap H locs := by rw [hH, hlocs]; exact hS
  suffices K : W p l e rm_Pu_take s m ([.ref (ad 6), .int x1, .int x2] : List Value).toArray below meth c H locs 0 0 Q (F0 m 0 ls []) by rw [hH, hlocs] at K; exact K
  clear hH hlocs
  refine lv_aload_n hx hb d_Pu_take_0 rfl (lv_at hl 0 rfl) ?_
  refine va_get (D := D) (ci := 3) (v := .int (σ 5)) (C := R_Pu) (T := T_Pu) (N := 3) hx hb hts i_Pu hown hK hP 6 rfl rfl 1 (by decide) (hts _ tw_74) (fun _ h9 => h9) rfl d_Pu_take_1 ?_
  refine lv_if_le (tgt := 22) hx hb d_Pu_take_4 (by decide) (fun h => ?_) (fun h => ?_)
  · have hw := hw.1 h
    exact J22 σ α x1 x2 ls H locs (lv_sub hl [0, 1, 2] rfl) hP hD hS hw
  · have hw := hw.2 h
    refine lv_iload_n hx hb d_Pu_take_7 rfl (lv_at hl 2 rfl) ?_
    refine lv_aload_n hx hb d_Pu_take_8 rfl (lv_at hl 0 rfl) ?_
    refine va_get (D := D) (ci := 3) (v := .int (σ 6)) (C := R_Pu) (T := T_Pu) (N := 3) hx hb hts i_Pu hown hK hP 6 rfl rfl 2 (by decide) (hts _ tw_76) (fun _ h9 => h9) rfl d_Pu_take_9 ?_
    refine lv_isub hx hb d_Pu_take_12 ?_
    refine lv_bipush (v := 6) hx hb d_Pu_take_13 (by decide) ?_
    refine lv_icmp_ge (tgt := 22) hx hb d_Pu_take_15 (by decide) (fun h => ?_) (fun h => ?_)
    · have hw := hw.1 h
      exact J22 σ α x1 x2 ls H locs (lv_sub hl [0, 1, 2] rfl) hP hD hS hw
    · have hw := hw.2 h
      refine lv_iconst (v := 1) hx hb d_Pu_take_18 (by decide) ?_
      refine lv_goto (tgt := 23) hx hb d_Pu_take_19 (by decide) ?_
      exact J23 σ α x1 x2 (1 : Int32) ls H locs (lv_sub hl [0, 1, 2] rfl) hP hD hS hw
