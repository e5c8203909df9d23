abbrev rm_Dm_look : Room := { frames := 1, cells := 0, slots := 0, locals := 20 }
set_option maxHeartbeats 4000000 in
set_option maxRecDepth 100000 in
theorem c_Dm_look (l : Launch) (D : va_G) (cI cS cZ : ClassId) (ad : Nat → Nat) (wc wb : Nat) (kp tp : Nat → Nat) (σ : Nat → Int32) (α : Nat → Nat → Int32) (x1 : Int32) (post : Int32 → gS → Prop) (hw : wp_Dm_look σ α x1 post) : gMi l y_Dm_look b_Dm_look 2 .int rm_Dm_look D (gT cI cS cZ) (fun u : gS => xW cI cS cZ ad wc wb kp tp u.1 u.2) [.ref (ad 0), .int x1] (σ, α) post := by
  refine gMi.of (by decide) (Nat.le_of_ble_eq_true rfl) ?_
  intro p e s m below meth c Q A hx hb hml hown hts hK hN hA hS hP hD hret ls hl
  have hl : lv_has ls 2 [(0, .ref (ad 0)), (1, .int x1)] := hl
  have J67 : ∀ (σ : Nat → Int32) (α : Nat → Nat → Int32) (t0 : Int32) (ls : Array Slot) (H : Heap) (locs : List Loc), lv_has ls 2 [] → va_P D gCl (xW cI cS cZ ad wc wb kp tp σ α) H → va_D A (xW cI cS cZ ad wc wb kp tp σ α) → va_S A s.heap H locs → wp_Dm_look_J67 σ α t0 post → W p l e rm_Dm_look s m ([.ref (ad 0), .int x1] : List Value).toArray below meth c H locs 0 0 Q (F0 m 67 ls [.int t0]) := by
    intro σ α t0 ls H locs hl hP hD hS hw
    unfold wp_Dm_look_J67 at hw
    exact hret H locs 67 ls t0 (σ, α) d_Dm_look_67 hP hD hS (vp_nar_int _) hw
  unfold wp_Dm_look at hw
  have hP : va_P D gCl (xW cI cS cZ ad wc wb kp tp σ α) s.heap := hP
  have hD : va_D A (xW cI cS cZ ad wc wb kp tp σ α) := hD
  obtain ⟨H, hH⟩ : ∃ H, H = s.heap := ⟨_, rfl⟩
  obtain ⟨locs, hlocs⟩ : ∃ locs : List Loc, locs = [] := ⟨_, rfl⟩
  have hP : va_P D gCl (xW cI cS cZ ad wc wb kp tp σ α) H := by rw [hH]; exact hP
  have hS : va_S A s.heap H locs := by rw [hH, hlocs]; exact hS
  suffices K : W p l e rm_Dm_look s m ([.ref (ad 0), .int x1] : List Value).toArray below meth c H locs 0 0 Q (F0 m 0 ls []) by rw [hH, hlocs] at K; exact K
  clear hH hlocs
  refine lv_iload_n hx hb d_Dm_look_0 rfl (lv_at hl 1 rfl) ?_
  have hw := hw
  by_cases h1_0 : x1 = 0
  · have hw := hw.1 h1_0
    refine W.eq (g2 := F0 m 1 ls [.int (0 : Int32)]) (by rw [h1_0]) ?_
    refine lv_tableIn (off := 51) (tgt := 52) hx hb d_Dm_look_1 (by decide) (by decide) (by decide) (by decide) ?_
    refine lv_aload_n hx hb d_Dm_look_52 rfl (lv_at hl 0 rfl) ?_
    refine va_get (D := D) (ci := 0) (v := .ref (ad 8)) (C := R_Dm) (T := T_Dm) (N := 7) hx hb hts i_Dm hown hK hP 0 rfl rfl 3 (by decide) (hts _ tw_258) (fun _ h9 => h9) rfl d_Dm_look_53 ?_
    refine va_getN (D := D) (ci := 4) (v := .int (σ 7)) (C := R_Mc) (T := T_Mc) (N := 14) hx hb hts i_Mc hown hK hP 8 rfl rfl 6 (by decide) (va_Nw.use rfl (hN _ tn_140)) (fun _ h9 => h9) rfl d_Dm_look_56 ?_
    refine lv_if_eq (tgt := 66) hx hb d_Dm_look_59 (by decide) (fun h => ?_) (fun h => ?_)
    · have hw := hw.1 h
      refine lv_iconst (v := 0) hx hb d_Dm_look_66 (by decide) ?_
      exact J67 σ α (0 : Int32) ls H locs (lv_sub hl [] rfl) hP hD hS hw
    · have hw := hw.2 h
      refine lv_iconst (v := 1) hx hb d_Dm_look_62 (by decide) ?_
      refine lv_goto (tgt := 67) hx hb d_Dm_look_63 (by decide) ?_
      exact J67 σ α (1 : Int32) ls H locs (lv_sub hl [] rfl) hP hD hS hw
  by_cases h1_1 : x1 = 1
  · have hw := hw.2.1 h1_1
    refine W.eq (g2 := F0 m 1 ls [.int (1 : Int32)]) (by rw [h1_1]) ?_
    refine lv_tableIn (off := 67) (tgt := 68) hx hb d_Dm_look_1 (by decide) (by decide) (by decide) (by decide) ?_
    refine lv_aload_n hx hb d_Dm_look_68 rfl (lv_at hl 0 rfl) ?_
    refine va_get (D := D) (ci := 0) (v := .ref (ad 8)) (C := R_Dm) (T := T_Dm) (N := 7) hx hb hts i_Dm hown hK hP 0 rfl rfl 3 (by decide) (hts _ tw_258) (fun _ h9 => h9) rfl d_Dm_look_69 ?_
    refine va_getN (D := D) (ci := 4) (v := .int (σ 8)) (C := R_Mc) (T := T_Mc) (N := 14) hx hb hts i_Mc hown hK hP 8 rfl rfl 7 (by decide) (va_Nw.use rfl (hN _ tn_142)) (fun _ h9 => h9) rfl d_Dm_look_72 ?_
    exact hret H locs 75 ls (σ 8) (σ, α) d_Dm_look_75 hP hD hS (vp_nar_int _) hw
  by_cases h1_2 : x1 = 2
  · have hw := hw.2.2.1 h1_2
    refine W.eq (g2 := F0 m 1 ls [.int (2 : Int32)]) (by rw [h1_2]) ?_
    refine lv_tableIn (off := 75) (tgt := 76) hx hb d_Dm_look_1 (by decide) (by decide) (by decide) (by decide) ?_
    refine lv_aload_n hx hb d_Dm_look_76 rfl (lv_at hl 0 rfl) ?_
    refine va_get (D := D) (ci := 0) (v := .ref (ad 8)) (C := R_Dm) (T := T_Dm) (N := 7) hx hb hts i_Dm hown hK hP 0 rfl rfl 3 (by decide) (hts _ tw_258) (fun _ h9 => h9) rfl d_Dm_look_77 ?_
    refine va_getN (D := D) (ci := 4) (v := .int (σ 9)) (C := R_Mc) (T := T_Mc) (N := 14) hx hb hts i_Mc hown hK hP 8 rfl rfl 8 (by decide) (va_Nw.use rfl (hN _ tn_144)) (fun _ h9 => h9) rfl d_Dm_look_80 ?_
    exact hret H locs 83 ls (σ 9) (σ, α) d_Dm_look_83 hP hD hS (vp_nar_int _) hw
  by_cases h1_3 : x1 = 3
  · have hw := hw.2.2.2.1 h1_3
    refine W.eq (g2 := F0 m 1 ls [.int (3 : Int32)]) (by rw [h1_3]) ?_
    refine lv_tableIn (off := 83) (tgt := 84) hx hb d_Dm_look_1 (by decide) (by decide) (by decide) (by decide) ?_
    refine lv_aload_n hx hb d_Dm_look_84 rfl (lv_at hl 0 rfl) ?_
    refine va_get (D := D) (ci := 0) (v := .ref (ad 8)) (C := R_Dm) (T := T_Dm) (N := 7) hx hb hts i_Dm hown hK hP 0 rfl rfl 3 (by decide) (hts _ tw_258) (fun _ h9 => h9) rfl d_Dm_look_85 ?_
    refine va_getN (D := D) (ci := 4) (v := .int (σ 12)) (C := R_Mc) (T := T_Mc) (N := 14) hx hb hts i_Mc hown hK hP 8 rfl rfl 11 (by decide) (va_Nw.use rfl (hN _ tn_148)) (fun _ h9 => h9) rfl d_Dm_look_88 ?_
    exact hret H locs 91 ls (σ 12) (σ, α) d_Dm_look_91 hP hD hS (vp_nar_int _) hw
  by_cases h1_4 : x1 = 4
  · have hw := hw.2.2.2.2.1 h1_4
    refine W.eq (g2 := F0 m 1 ls [.int (4 : Int32)]) (by rw [h1_4]) ?_
    refine lv_tableIn (off := 91) (tgt := 92) hx hb d_Dm_look_1 (by decide) (by decide) (by decide) (by decide) ?_
    refine lv_aload_n hx hb d_Dm_look_92 rfl (lv_at hl 0 rfl) ?_
    refine va_get (D := D) (ci := 0) (v := .ref (ad 8)) (C := R_Dm) (T := T_Dm) (N := 7) hx hb hts i_Dm hown hK hP 0 rfl rfl 3 (by decide) (hts _ tw_258) (fun _ h9 => h9) rfl d_Dm_look_93 ?_
    refine va_getN (D := D) (ci := 4) (v := .int (σ 13)) (C := R_Mc) (T := T_Mc) (N := 14) hx hb hts i_Mc hown hK hP 8 rfl rfl 12 (by decide) (va_Nw.use rfl (hN _ tn_150)) (fun _ h9 => h9) rfl d_Dm_look_96 ?_
    exact hret H locs 99 ls (σ 13) (σ, α) d_Dm_look_99 hP hD hS (vp_nar_int _) hw
  by_cases h1_5 : x1 = 5
  · have hw := hw.2.2.2.2.2.1 h1_5
    refine W.eq (g2 := F0 m 1 ls [.int (5 : Int32)]) (by rw [h1_5]) ?_
    refine lv_tableIn (off := 99) (tgt := 100) hx hb d_Dm_look_1 (by decide) (by decide) (by decide) (by decide) ?_
    refine lv_aload_n hx hb d_Dm_look_100 rfl (lv_at hl 0 rfl) ?_
    refine va_get (D := D) (ci := 0) (v := .ref (ad 8)) (C := R_Dm) (T := T_Dm) (N := 7) hx hb hts i_Dm hown hK hP 0 rfl rfl 3 (by decide) (hts _ tw_258) (fun _ h9 => h9) rfl d_Dm_look_101 ?_
    refine va_getN (D := D) (ci := 4) (v := .int (σ 14)) (C := R_Mc) (T := T_Mc) (N := 14) hx hb hts i_Mc hown hK hP 8 rfl rfl 13 (by decide) (va_Nw.use rfl (hN _ tn_152)) (fun _ h9 => h9) rfl d_Dm_look_104 ?_
    exact hret H locs 107 ls (σ 14) (σ, α) d_Dm_look_107 hP hD hS (vp_nar_int _) hw
  by_cases h1_6 : x1 = 6
  · have hw := hw.2.2.2.2.2.2.1 h1_6
    refine W.eq (g2 := F0 m 1 ls [.int (6 : Int32)]) (by rw [h1_6]) ?_
    refine lv_tableIn (off := 107) (tgt := 108) hx hb d_Dm_look_1 (by decide) (by decide) (by decide) (by decide) ?_
    refine lv_aload_n hx hb d_Dm_look_108 rfl (lv_at hl 0 rfl) ?_
    refine va_get (D := D) (ci := 0) (v := .ref (ad 4)) (C := R_Dm) (T := T_Dm) (N := 7) hx hb hts i_Dm hown hK hP 0 rfl rfl 1 (by decide) (hts _ tw_256) (fun _ h9 => h9) rfl d_Dm_look_109 ?_
    refine gCallVi (b := ad 4) (As := []) (rest := []) (c_Rd_rowsLeft l D cI cS cZ ad wc wb kp tp σ α _ hw) hx hb hml hown hts hK hN hA hS hP hD (cwV 0 hts (gGV tw_419 tw_390 tw_391 tw_3 tw_392) rfl rfl rfl ⟨rfl, by decide, by decide, by decide +kernel⟩ ⟨Nat.le_of_ble_eq_true rfl, Nat.le_of_ble_eq_true rfl⟩) (va_recv (ci := 2) (q0 := 4) hK hP rfl rfl) rfl hl.1 rfl (Nat.le_of_ble_eq_true rfl) d_Dm_look_112 (fun r112 u112 H locs hw hP hD hS => ?_)
    have hP : va_P D gCl (xW cI cS cZ ad wc wb kp tp u112.1 u112.2) H := hP
    have hD : va_D A (xW cI cS cZ ad wc wb kp tp u112.1 u112.2) := hD
    exact hret H locs 115 ls r112 (u112.1, u112.2) d_Dm_look_115 hP hD hS (vp_nar_int _) hw
  by_cases h1_7 : x1 = 7
  · have hw := hw.2.2.2.2.2.2.2.1 h1_7
    refine W.eq (g2 := F0 m 1 ls [.int (7 : Int32)]) (by rw [h1_7]) ?_
    refine lv_tableIn (off := 115) (tgt := 116) hx hb d_Dm_look_1 (by decide) (by decide) (by decide) (by decide) ?_
    refine lv_aload_n hx hb d_Dm_look_116 rfl (lv_at hl 0 rfl) ?_
    refine va_get (D := D) (ci := 0) (v := .ref (ad 6)) (C := R_Dm) (T := T_Dm) (N := 7) hx hb hts i_Dm hown hK hP 0 rfl rfl 2 (by decide) (hts _ tw_257) (fun _ h9 => h9) rfl d_Dm_look_117 ?_
    refine va_getN (D := D) (ci := 3) (v := .int (σ 5)) (C := R_Pu) (T := T_Pu) (N := 3) hx hb hts i_Pu hown hK hP 6 rfl rfl 1 (by decide) (va_Nw.use rfl (hN _ tn_75)) (fun _ h9 => h9) rfl d_Dm_look_120 ?_
    exact hret H locs 123 ls (σ 5) (σ, α) d_Dm_look_123 hP hD hS (vp_nar_int _) hw
  by_cases h1_8 : x1 = 8
  · have hw := hw.2.2.2.2.2.2.2.2.1 h1_8
    refine W.eq (g2 := F0 m 1 ls [.int (8 : Int32)]) (by rw [h1_8]) ?_
    refine lv_tableIn (off := 123) (tgt := 124) hx hb d_Dm_look_1 (by decide) (by decide) (by decide) (by decide) ?_
    refine lv_aload_n hx hb d_Dm_look_124 rfl (lv_at hl 0 rfl) ?_
    refine va_get (D := D) (ci := 0) (v := .ref (ad 8)) (C := R_Dm) (T := T_Dm) (N := 7) hx hb hts i_Dm hown hK hP 0 rfl rfl 3 (by decide) (hts _ tw_258) (fun _ h9 => h9) rfl d_Dm_look_125 ?_
    refine va_getN (D := D) (ci := 4) (v := .ref (ad 9)) (C := R_Mc) (T := T_Mc) (N := 14) hx hb hts i_Mc hown hK hP 8 rfl rfl 3 (by decide) (va_Nw.use rfl (hN _ tn_136)) (fun _ h9 => h9) rfl d_Dm_look_128 ?_
    refine va_getN (D := D) (ci := 5) (v := .int (σ 16)) (C := R_Mu) (T := T_Mu) (N := 3) hx hb hts i_Mu hown hK hP 9 rfl rfl 1 (by decide) (va_Nw.use rfl (hN _ tn_98)) (fun _ h9 => h9) rfl d_Dm_look_131 ?_
    exact hret H locs 134 ls (σ 16) (σ, α) d_Dm_look_134 hP hD hS (vp_nar_int _) hw
  have hw := hw.2.2.2.2.2.2.2.2.2
  have hd : x1.toInt < 0 ∨ 8 < x1.toInt := by
    have a0 := lv_neT h1_0 (show (0 : Int32).toInt = 0 from by decide)
    have a1 := lv_neT h1_1 (show (1 : Int32).toInt = 1 from by decide)
    have a2 := lv_neT h1_2 (show (2 : Int32).toInt = 2 from by decide)
    have a3 := lv_neT h1_3 (show (3 : Int32).toInt = 3 from by decide)
    have a4 := lv_neT h1_4 (show (4 : Int32).toInt = 4 from by decide)
    have a5 := lv_neT h1_5 (show (5 : Int32).toInt = 5 from by decide)
    have a6 := lv_neT h1_6 (show (6 : Int32).toInt = 6 from by decide)
    have a7 := lv_neT h1_7 (show (7 : Int32).toInt = 7 from by decide)
    have a8 := lv_neT h1_8 (show (8 : Int32).toInt = 8 from by decide)
    omega
  have hw := hw hd
  refine lv_tableOut (tgt := 135) hx hb d_Dm_look_1 hd (by decide) ?_
  refine lv_iconst (v := (-1)) hx hb d_Dm_look_135 (by decide) ?_
  exact hret H locs 136 ls (-1 : Int32) (σ, α) d_Dm_look_136 hP hD hS (vp_nar_int _) hw
abbrev rm_Dm_peek : Room := { frames := 2, cells := 0, slots := 0, locals := 41 }
set_option maxHeartbeats 4000000 in
set_option maxRecDepth 100000 in
theorem c_Dm_peek (l : Launch) (D : va_G) (cI cS cZ : ClassId) (ad : Nat → Nat) (wc wb : Nat) (kp tp : Nat → Nat) (σ : Nat → Int32) (α : Nat → Nat → Int32) (x1 : Int32) (x2 : Int32) (post : Int32 → gS → Prop) (hw : wp_Dm_peek σ α x1 x2 post) : gMi l y_Dm_peek b_Dm_peek 4 .short rm_Dm_peek D (gT cI cS cZ) (fun u : gS => xW cI cS cZ ad wc wb kp tp u.1 u.2) [.ref (ad 0), .int x1, .int x2] (σ, α) post := by
  refine gMi.of (by decide) (Nat.le_of_ble_eq_true rfl) ?_
  intro p e s m below meth c Q A hx hb hml hown hts hK hN hA hS hP hD hret ls hl
  have hl : lv_has ls 4 [(0, .ref (ad 0)), (1, .int x1), (2, .int x2)] := hl
  have J23 : ∀ (σ : Nat → Int32) (α : Nat → Nat → Int32) (t0 : Int32) (ls : Array Slot) (H : Heap) (locs : List Loc), lv_has ls 4 [] → va_P D gCl (xW cI cS cZ ad wc wb kp tp σ α) H → va_D A (xW cI cS cZ ad wc wb kp tp σ α) → va_S A s.heap H locs → wp_Dm_peek_J23 σ α t0 post → W p l e rm_Dm_peek s m ([.ref (ad 0), .int x1, .int x2] : List Value).toArray below meth c H locs 0 0 Q (F0 m 23 ls [.int t0]) := by
    intro σ α t0 ls H locs hl hP hD hS hw
    unfold wp_Dm_peek_J23 at hw
    obtain ⟨hn, hw⟩ := hw
    exact hret H locs 23 ls t0 (σ, α) d_Dm_peek_23 hP hD hS hn hw
  unfold wp_Dm_peek at hw
  have hP : va_P D gCl (xW cI cS cZ ad wc wb kp tp σ α) s.heap := hP
  have hD : va_D A (xW cI cS cZ ad wc wb kp tp σ α) := hD
  obtain ⟨H, hH⟩ : ∃ H, H = s.heap := ⟨_, rfl⟩
  obtain ⟨locs, hlocs⟩ : ∃ locs : List Loc, locs = [] := ⟨_, rfl⟩
  have hP : va_P D gCl (xW cI cS cZ ad wc wb kp tp σ α) H := by rw [hH]; exact hP
  have hS : va_S A s.heap H locs := by rw [hH, hlocs]; exact hS
  suffices K : W p l e rm_Dm_peek s m ([.ref (ad 0), .int x1, .int x2] : List Value).toArray below meth c H locs 0 0 Q (F0 m 0 ls []) by rw [hH, hlocs] at K; exact K
  clear hH hlocs
  refine lv_iload_n hx hb d_Dm_peek_0 rfl (lv_at hl 1 rfl) ?_
  refine lv_iload_n hx hb d_Dm_peek_1 rfl (lv_at hl 2 rfl) ?_
  refine gCallSi (As := [.int x1, .int x2]) (rest := []) (c_St_wordSpot l D cI cS cZ ad wc wb kp tp σ α x1 x2 _ hw) hx hb hml hown hts hK hN hA hS hP hD (va_cwS 2 hts (gGS tw_289 tw_290 tw_2 tw_291) rfl rfl rfl ⟨by decide, by decide, by decide +kernel⟩ ⟨Nat.le_of_ble_eq_true rfl, Nat.le_of_ble_eq_true rfl⟩) rfl hl.1 rfl (Nat.le_of_ble_eq_true rfl) d_Dm_peek_2 (fun r2 u2 H locs hw hP hD hS => ?_)
  have hP : va_P D gCl (xW cI cS cZ ad wc wb kp tp u2.1 u2.2) H := hP
  have hD : va_D A (xW cI cS cZ ad wc wb kp tp u2.1 u2.2) := hD
  refine lv_istore_n hx hb d_Dm_peek_5 rfl hl (by decide) rfl (fun ls hl => ?_)
  have hl : lv_has ls 4 [(3, .int r2), (0, .ref (ad 0)), (1, .int x1), (2, .int x2)] := hl
  refine lv_iload_n hx hb d_Dm_peek_6 rfl (lv_at hl 0 rfl) ?_
  refine lv_if_ge (tgt := 14) hx hb d_Dm_peek_7 (by decide) (fun h => ?_) (fun h => ?_)
  · have hw := hw.1 h
    refine lv_aload_n hx hb d_Dm_peek_14 rfl (lv_at hl 1 rfl) ?_
    refine va_get (D := D) (ci := 0) (v := .ref (ad 1)) (C := R_Dm) (T := T_Dm) (N := 7) hx hb hts i_Dm hown hK hP 0 rfl rfl 0 (by decide) (hts _ tw_255) (fun _ h9 => h9) rfl d_Dm_peek_15 ?_
    refine va_getN (D := D) (ci := 1) (v := .ref (ad 3)) (C := R_St) (T := T_St) (N := 2) hx hb hts i_St hown hK hP 1 rfl rfl 1 (by decide) (va_Nw.use rfl (hN _ tn_31)) (fun _ h9 => h9) rfl d_Dm_peek_18 ?_
    refine lv_iload_n hx hb d_Dm_peek_21 rfl (lv_at hl 0 rfl) ?_
    obtain ⟨hin, hw⟩ := hw
    refine va_sald (f := u2.2 3) hx hb hK hP 3 1 rfl rfl hin d_Dm_peek_22 ?_
    exact J23 u2.1 u2.2 (u2.2 3 r2.toNatClampNeg) ls H locs (lv_sub hl [] rfl) hP hD hS hw
  · have hw := hw.2 h
    refine lv_iconst (v := 0) hx hb d_Dm_peek_10 (by decide) ?_
    refine lv_goto (tgt := 23) hx hb d_Dm_peek_11 (by decide) ?_
    exact J23 u2.1 u2.2 (0 : Int32) ls H locs (lv_sub hl [] rfl) hP hD hS hw
abbrev rm_Dm_read : Room := { frames := 1, cells := 0, slots := 0, locals := 22 }
set_option maxHeartbeats 4000000 in
set_option maxRecDepth 100000 in
theorem c_Dm_read (l : Launch) (D : va_G) (cI cS cZ : ClassId) (ad : Nat → Nat) (wc wb : Nat) (kp tp : Nat → Nat) (σ : Nat → Int32) (α : Nat → Nat → Int32) (x1 : Int32) (x2 : Int32) (post : Int32 → gS → Prop) (hw : wp_Dm_read σ α x1 x2 post) : gMi l y_Dm_read b_Dm_read 4 .int rm_Dm_read D (gT cI cS cZ) (fun u : gS => xW cI cS cZ ad wc wb kp tp u.1 u.2) [.ref (ad 0), .int x1, .int x2] (σ, α) post := by
  refine gMi.of (by decide) (Nat.le_of_ble_eq_true rfl) ?_
  intro p e s m below meth c Q A hx hb hml hown hts hK hN hA hS hP hD hret ls hl
  have hl : lv_has ls 4 [(0, .ref (ad 0)), (1, .int x1), (2, .int x2)] := hl
  have J23 : ∀ (σ : Nat → Int32) (α : Nat → Nat → Int32) (t0 : Int32) (ls : Array Slot) (H : Heap) (locs : List Loc), lv_has ls 4 [] → va_P D gCl (xW cI cS cZ ad wc wb kp tp σ α) H → va_D A (xW cI cS cZ ad wc wb kp tp σ α) → va_S A s.heap H locs → wp_Dm_read_J23 σ α t0 post → W p l e rm_Dm_read s m ([.ref (ad 0), .int x1, .int x2] : List Value).toArray below meth c H locs 0 0 Q (F0 m 23 ls [.int t0]) := by
    intro σ α t0 ls H locs hl hP hD hS hw
    unfold wp_Dm_read_J23 at hw
    exact hret H locs 23 ls t0 (σ, α) d_Dm_read_23 hP hD hS (vp_nar_int _) hw
  unfold wp_Dm_read at hw
  have hP : va_P D gCl (xW cI cS cZ ad wc wb kp tp σ α) s.heap := hP
  have hD : va_D A (xW cI cS cZ ad wc wb kp tp σ α) := hD
  obtain ⟨H, hH⟩ : ∃ H, H = s.heap := ⟨_, rfl⟩
  obtain ⟨locs, hlocs⟩ : ∃ locs : List Loc, locs = [] := ⟨_, rfl⟩
  have hP : va_P D gCl (xW cI cS cZ ad wc wb kp tp σ α) H := by rw [hH]; exact hP
  have hS : va_S A s.heap H locs := by rw [hH, hlocs]; exact hS
  suffices K : W p l e rm_Dm_read s m ([.ref (ad 0), .int x1, .int x2] : List Value).toArray below meth c H locs 0 0 Q (F0 m 0 ls []) by rw [hH, hlocs] at K; exact K
  clear hH hlocs
  refine lv_iload_n hx hb d_Dm_read_0 rfl (lv_at hl 1 rfl) ?_
  refine lv_iload_n hx hb d_Dm_read_1 rfl (lv_at hl 2 rfl) ?_
  refine gCallSi (As := [.int x1, .int x2]) (rest := []) (c_St_orderSpot l D cI cS cZ ad wc wb kp tp σ α x1 x2 _ hw) hx hb hml hown hts hK hN hA hS hP hD (va_cwS 2 hts (gGS tw_281 tw_282 tw_2 tw_283) rfl rfl rfl ⟨by decide, by decide, by decide +kernel⟩ ⟨Nat.le_of_ble_eq_true rfl, Nat.le_of_ble_eq_true rfl⟩) rfl hl.1 rfl (Nat.le_of_ble_eq_true rfl) d_Dm_read_2 (fun r2 u2 H locs hw hP hD hS => ?_)
  have hP : va_P D gCl (xW cI cS cZ ad wc wb kp tp u2.1 u2.2) H := hP
  have hD : va_D A (xW cI cS cZ ad wc wb kp tp u2.1 u2.2) := hD
  refine lv_istore_n hx hb d_Dm_read_5 rfl hl (by decide) rfl (fun ls hl => ?_)
  have hl : lv_has ls 4 [(3, .int r2), (0, .ref (ad 0)), (1, .int x1), (2, .int x2)] := hl
  refine lv_iload_n hx hb d_Dm_read_6 rfl (lv_at hl 0 rfl) ?_
  refine lv_if_ge (tgt := 14) hx hb d_Dm_read_7 (by decide) (fun h => ?_) (fun h => ?_)
  · have hw := hw.1 h
    refine lv_aload_n hx hb d_Dm_read_14 rfl (lv_at hl 1 rfl) ?_
    refine va_get (D := D) (ci := 0) (v := .ref (ad 1)) (C := R_Dm) (T := T_Dm) (N := 7) hx hb hts i_Dm hown hK hP 0 rfl rfl 0 (by decide) (hts _ tw_255) (fun _ h9 => h9) rfl d_Dm_read_15 ?_
    refine va_getN (D := D) (ci := 1) (v := .ref (ad 2)) (C := R_St) (T := T_St) (N := 2) hx hb hts i_St hown hK hP 1 rfl rfl 0 (by decide) (va_Nw.use rfl (hN _ tn_28)) (fun _ h9 => h9) rfl d_Dm_read_18 ?_
    refine lv_iload_n hx hb d_Dm_read_21 rfl (lv_at hl 0 rfl) ?_
    obtain ⟨hin, hw⟩ := hw
    refine va_iald (f := u2.2 2) hx hb hK hP 2 0 rfl rfl hin d_Dm_read_22 ?_
    exact J23 u2.1 u2.2 (u2.2 2 r2.toNatClampNeg) ls H locs (lv_sub hl [] rfl) hP hD hS hw
  · have hw := hw.2 h
    refine lv_iconst (v := (-1)) hx hb d_Dm_read_10 (by decide) ?_
    refine lv_goto (tgt := 23) hx hb d_Dm_read_11 (by decide) ?_
    exact J23 u2.1 u2.2 (-1 : Int32) ls H locs (lv_sub hl [] rfl) hP hD hS hw
abbrev rm_Dm_punched : Room := { frames := 0, cells := 0, slots := 0, locals := 0 }
set_option maxHeartbeats 4000000 in
set_option maxRecDepth 100000 in
theorem c_Dm_punched (l : Launch) (D : va_G) (cI cS cZ : ClassId) (ad : Nat → Nat) (wc wb : Nat) (kp tp : Nat → Nat) (σ : Nat → Int32) (α : Nat → Nat → Int32) (x1 : Int32) (post : Int32 → gS → Prop) (hw : wp_Dm_punched σ α x1 post) : gMi l y_Dm_punched b_Dm_punched 2 .short rm_Dm_punched D (gT cI cS cZ) (fun u : gS => xW cI cS cZ ad wc wb kp tp u.1 u.2) [.ref (ad 0), .int x1] (σ, α) post := by
  refine gMi.of (by decide) (Nat.le_of_ble_eq_true rfl) ?_
  intro p e s m below meth c Q A hx hb hml hown hts hK hN hA hS hP hD hret ls hl
  have hl : lv_has ls 2 [(0, .ref (ad 0)), (1, .int x1)] := hl
  have J28 : ∀ (σ : Nat → Int32) (α : Nat → Nat → Int32) (t0 : Int32) (ls : Array Slot) (H : Heap) (locs : List Loc), lv_has ls 2 [] → va_P D gCl (xW cI cS cZ ad wc wb kp tp σ α) H → va_D A (xW cI cS cZ ad wc wb kp tp σ α) → va_S A s.heap H locs → wp_Dm_punched_J28 σ α t0 post → W p l e rm_Dm_punched s m ([.ref (ad 0), .int x1] : List Value).toArray below meth c H locs 0 0 Q (F0 m 28 ls [.int t0]) := by
    intro σ α t0 ls H locs hl hP hD hS hw
    unfold wp_Dm_punched_J28 at hw
    obtain ⟨hn, hw⟩ := hw
    exact hret H locs 28 ls t0 (σ, α) d_Dm_punched_28 hP hD hS hn hw
  have J15 : ∀ (σ : Nat → Int32) (α : Nat → Nat → Int32) (ls : Array Slot) (H : Heap) (locs : List Loc), lv_has ls 2 [] → va_P D gCl (xW cI cS cZ ad wc wb kp tp σ α) H → va_D A (xW cI cS cZ ad wc wb kp tp σ α) → va_S A s.heap H locs → wp_Dm_punched_J15 σ α post → W p l e rm_Dm_punched s m ([.ref (ad 0), .int x1] : List Value).toArray below meth c H locs 0 0 Q (F0 m 15 ls []) := by
    intro σ α ls H locs hl hP hD hS hw
    unfold wp_Dm_punched_J15 at hw
    refine lv_iconst (v := 0) hx hb d_Dm_punched_15 (by decide) ?_
    refine lv_goto (tgt := 28) hx hb d_Dm_punched_16 (by decide) ?_
    exact J28 σ α (0 : Int32) ls H locs (lv_sub hl [] rfl) hP hD hS hw
  unfold wp_Dm_punched at hw
  have hP : va_P D gCl (xW cI cS cZ ad wc wb kp tp σ α) s.heap := hP
  have hD : va_D A (xW cI cS cZ ad wc wb kp tp σ α) := hD
  obtain ⟨H, hH⟩ : ∃ H, H = s.heap := ⟨_, rfl⟩
  obtain ⟨locs, hlocs⟩ : ∃ locs : List Loc, locs = [] := ⟨_, rfl⟩
  have hP : va_P D gCl (xW cI cS cZ ad wc wb kp tp σ α) H := by rw [hH]; exact hP
  have hS : va_S A s.heap H locs := by rw [hH, hlocs]; exact hS
  suffices K : W p l e rm_Dm_punched s m ([.ref (ad 0), .int x1] : List Value).toArray below meth c H locs 0 0 Q (F0 m 0 ls []) by rw [hH, hlocs] at K; exact K
  clear hH hlocs
  refine lv_iload_n hx hb d_Dm_punched_0 rfl (lv_at hl 1 rfl) ?_
  refine lv_if_lt (tgt := 15) hx hb d_Dm_punched_1 (by decide) (fun h => ?_) (fun h => ?_)
  · have hw := hw.1 h
    exact J15 σ α ls H locs (lv_sub hl [] rfl) hP hD hS hw
  · have hw := hw.2 h
    refine lv_iload_n hx hb d_Dm_punched_4 rfl (lv_at hl 1 rfl) ?_
    refine lv_aload_n hx hb d_Dm_punched_5 rfl (lv_at hl 0 rfl) ?_
    refine va_get (D := D) (ci := 0) (v := .ref (ad 6)) (C := R_Dm) (T := T_Dm) (N := 7) hx hb hts i_Dm hown hK hP 0 rfl rfl 2 (by decide) (hts _ tw_257) (fun _ h9 => h9) rfl d_Dm_punched_6 ?_
    refine va_getN (D := D) (ci := 3) (v := .int (σ 5)) (C := R_Pu) (T := T_Pu) (N := 3) hx hb hts i_Pu hown hK hP 6 rfl rfl 1 (by decide) (va_Nw.use rfl (hN _ tn_75)) (fun _ h9 => h9) rfl d_Dm_punched_9 ?_
    refine lv_icmp_lt (tgt := 19) hx hb d_Dm_punched_12 (by decide) (fun h => ?_) (fun h => ?_)
    · have hw := hw.1 h
      refine lv_aload_n hx hb d_Dm_punched_19 rfl (lv_at hl 0 rfl) ?_
      refine va_get (D := D) (ci := 0) (v := .ref (ad 6)) (C := R_Dm) (T := T_Dm) (N := 7) hx hb hts i_Dm hown hK hP 0 rfl rfl 2 (by decide) (hts _ tw_257) (fun _ h9 => h9) rfl d_Dm_punched_20 ?_
      refine va_getN (D := D) (ci := 3) (v := .ref (ad 7)) (C := R_Pu) (T := T_Pu) (N := 3) hx hb hts i_Pu hown hK hP 6 rfl rfl 0 (by decide) (va_Nw.use rfl (hN _ tn_73)) (fun _ h9 => h9) rfl d_Dm_punched_23 ?_
      refine lv_iload_n hx hb d_Dm_punched_26 rfl (lv_at hl 1 rfl) ?_
      obtain ⟨hin, hw⟩ := hw
      refine va_sald (f := α 7) hx hb hK hP 7 1 rfl rfl hin d_Dm_punched_27 ?_
      exact J28 σ α (α 7 x1.toNatClampNeg) ls H locs (lv_sub hl [] rfl) hP hD hS hw
    · have hw := hw.2 h
      exact J15 σ α ls H locs (lv_sub hl [] rfl) hP hD hS hw
abbrev rm_Pr_isVariable : Room := { frames := 0, cells := 0, slots := 0, locals := 0 }
set_option maxHeartbeats 4000000 in
set_option maxRecDepth 100000 in
theorem c_Pr_isVariable (l : Launch) (D : va_G) (cI cS cZ : ClassId) (ad : Nat → Nat) (wc wb : Nat) (kp tp : Nat → Nat) (σ : Nat → Int32) (α : Nat → Nat → Int32) (x0 : Int32) (post : Int32 → gS → Prop) (hw : wp_Pr_isVariable σ α x0 post) : gMi l y_Pr_isVariable b_Pr_isVariable 1 .boolean rm_Pr_isVariable D (gT cI cS cZ) (fun u : gS => xW cI cS cZ ad wc wb kp tp u.1 u.2) [.int x0] (σ, α) post := by
  refine gMi.of (by decide) (Nat.le_of_ble_eq_true rfl) ?_
  intro p e s m below meth c Q A hx hb hml hown hts hK hN hA hS hP hD hret ls hl
  have hl : lv_has ls 1 [(0, .int x0)] := hl
  have J15 : ∀ (σ : Nat → Int32) (α : Nat → Nat → Int32) (t0 : Int32) (ls : Array Slot) (H : Heap) (locs : List Loc), lv_has ls 1 [] → va_P D gCl (xW cI cS cZ ad wc wb kp tp σ α) H → va_D A (xW cI cS cZ ad wc wb kp tp σ α) → va_S A s.heap H locs → wp_Pr_isVariable_J15 σ α t0 post → W p l e rm_Pr_isVariable s m ([.int x0] : List Value).toArray below meth c H locs 0 0 Q (F0 m 15 ls [.int t0]) := by
    intro σ α t0 ls H locs hl hP hD hS hw
    unfold wp_Pr_isVariable_J15 at hw
    obtain ⟨hn, hw⟩ := hw
    exact hret H locs 15 ls t0 (σ, α) d_Pr_isVariable_15 hP hD hS hn hw
  have J14 : ∀ (σ : Nat → Int32) (α : Nat → Nat → Int32) (ls : Array Slot) (H : Heap) (locs : List Loc), lv_has ls 1 [] → va_P D gCl (xW cI cS cZ ad wc wb kp tp σ α) H → va_D A (xW cI cS cZ ad wc wb kp tp σ α) → va_S A s.heap H locs → wp_Pr_isVariable_J14 σ α post → W p l e rm_Pr_isVariable s m ([.int x0] : List Value).toArray below meth c H locs 0 0 Q (F0 m 14 ls []) := by
    intro σ α ls H locs hl hP hD hS hw
    unfold wp_Pr_isVariable_J14 at hw
    refine lv_iconst (v := 0) hx hb d_Pr_isVariable_14 (by decide) ?_
    exact J15 σ α (0 : Int32) ls H locs (lv_sub hl [] rfl) hP hD hS hw
  unfold wp_Pr_isVariable at hw
  have hP : va_P D gCl (xW cI cS cZ ad wc wb kp tp σ α) s.heap := hP
  have hD : va_D A (xW cI cS cZ ad wc wb kp tp σ α) := hD
  obtain ⟨H, hH⟩ : ∃ H, H = s.heap := ⟨_, rfl⟩
  obtain ⟨locs, hlocs⟩ : ∃ locs : List Loc, locs = [] := ⟨_, rfl⟩
  have hP : va_P D gCl (xW cI cS cZ ad wc wb kp tp σ α) H := by rw [hH]; exact hP
  have hS : va_S A s.heap H locs := by rw [hH, hlocs]; exact hS
  suffices K : W p l e rm_Pr_isVariable s m ([.int x0] : List Value).toArray below meth c H locs 0 0 Q (F0 m 0 ls []) by rw [hH, hlocs] at K; exact K
  clear hH hlocs
  refine lv_iload_n hx hb d_Pr_isVariable_0 rfl (lv_at hl 0 rfl) ?_
  refine lv_if_lt (tgt := 14) hx hb d_Pr_isVariable_1 (by decide) (fun h => ?_) (fun h => ?_)
  · have hw := hw.1 h
    exact J14 σ α ls H locs (lv_sub hl [] rfl) hP hD hS hw
  · have hw := hw.2 h
    refine lv_iload_n hx hb d_Pr_isVariable_4 rfl (lv_at hl 0 rfl) ?_
    refine lv_bipush (v := 16) hx hb d_Pr_isVariable_5 (by decide) ?_
    refine lv_icmp_ge (tgt := 14) hx hb d_Pr_isVariable_7 (by decide) (fun h => ?_) (fun h => ?_)
    · have hw := hw.1 h
      exact J14 σ α ls H locs (lv_sub hl [] rfl) hP hD hS hw
    · have hw := hw.2 h
      refine lv_iconst (v := 1) hx hb d_Pr_isVariable_10 (by decide) ?_
      refine lv_goto (tgt := 15) hx hb d_Pr_isVariable_11 (by decide) ?_
      exact J15 σ α (1 : Int32) ls H locs (lv_sub hl [] rfl) hP hD hS hw
abbrev rm_Pr_addStatement : Room := { frames := 1, cells := 0, slots := 0, locals := 20 }
set_option maxHeartbeats 4000000 in
set_option maxRecDepth 100000 in
theorem c_Pr_addStatement (l : Launch) (D : va_G) (cI cS cZ : ClassId) (ad : Nat → Nat) (wc wb : Nat) (kp tp : Nat → Nat) (σ : Nat → Int32) (α : Nat → Nat → Int32) (x1 : Int32) (x2 : Int32) (x3 : Int32) (x4 : Int32) (x5 : Int32) (post : Int32 → gS → Prop) (hw : wp_Pr_addStatement σ α x1 x2 x3 x4 x5 post) : gMi l y_Pr_addStatement b_Pr_addStatement 9 .int rm_Pr_addStatement D (gT cI cS cZ) (fun u : gS => xW cI cS cZ ad wc wb kp tp u.1 u.2) [.ref (ad 12), .int x1, .int x2, .int x3, .int x4, .int x5] (σ, α) post := by
  refine gMi.of (by decide) (Nat.le_of_ble_eq_true rfl) ?_
  intro p e s m below meth c Q A hx hb hml hown hts hK hN hA hS hP hD hret ls hl
  have hl : lv_has ls 9 [(0, .ref (ad 12)), (1, .int x1), (2, .int x2), (3, .int x3), (4, .int x4), (5, .int x5)] := hl
  have J94 : ∀ (σ : Nat → Int32) (α : Nat → Nat → Int32) (ls : Array Slot) (H : Heap) (locs : List Loc), lv_has ls 9 [] → va_P D gCl (xW cI cS cZ ad wc wb kp tp σ α) H → va_D A (xW cI cS cZ ad wc wb kp tp σ α) → va_S A s.heap H locs → wp_Pr_addStatement_J94 σ α post → W p l e rm_Pr_addStatement s m ([.ref (ad 12), .int x1, .int x2, .int x3, .int x4, .int x5] : List Value).toArray below meth c H locs 0 0 Q (F0 m 94 ls []) := by
    intro σ α ls H locs hl hP hD hS hw
    unfold wp_Pr_addStatement_J94 at hw
    refine lv_iconst (v := (-1)) hx hb d_Pr_addStatement_94 (by decide) ?_
    exact hret H locs 95 ls (-1 : Int32) (σ, α) d_Pr_addStatement_95 hP hD hS (vp_nar_int _) hw
  have J68 : ∀ (σ : Nat → Int32) (α : Nat → Nat → Int32) (a1 : Int32) (a2 : Int32) (a3 : Int32) (a4 : Int32) (a5 : Int32) (a6 : Int32) (a7 : Int32) (t0 : Int32) (ls : Array Slot) (H : Heap) (locs : List Loc), lv_has ls 9 [(0, .ref (ad 12)), (1, .int a1), (2, .int a2), (3, .int a3), (4, .int a4), (5, .int a5), (6, .int a6), (7, .int a7)] → va_P D gCl (xW cI cS cZ ad wc wb kp tp σ α) H → va_D A (xW cI cS cZ ad wc wb kp tp σ α) → va_S A s.heap H locs → wp_Pr_addStatement_J68 σ α a1 a2 a3 a4 a5 a6 a7 t0 post → W p l e rm_Pr_addStatement s m ([.ref (ad 12), .int x1, .int x2, .int x3, .int x4, .int x5] : List Value).toArray below meth c H locs 0 0 Q (F0 m 68 ls [.int t0]) := by
    intro σ α a1 a2 a3 a4 a5 a6 a7 t0 ls H locs hl hP hD hS hw
    unfold wp_Pr_addStatement_J68 at hw
    refine lv_istore hx hb d_Pr_addStatement_68 hl (by decide) rfl (fun ls hl => ?_)
    have hl : lv_has ls 9 [(8, .int t0), (0, .ref (ad 12)), (1, .int a1), (2, .int a2), (3, .int a3), (4, .int a4), (5, .int a5), (6, .int a6), (7, .int a7)] := hl
    refine lv_aload_n hx hb d_Pr_addStatement_70 rfl (lv_at hl 1 rfl) ?_
    refine va_get (D := D) (ci := 7) (v := .int (σ 28)) (C := R_Pr) (T := T_Pr) (N := 6) hx hb hts i_Pr hown hK hP 12 rfl rfl 5 (by decide) (hts _ tw_199) (fun _ h9 => h9) rfl d_Pr_addStatement_71 ?_
    refine lv_bipush (v := 12) hx hb d_Pr_addStatement_74 (by decide) ?_
    refine lv_icmp_ge (tgt := 94) hx hb d_Pr_addStatement_76 (by decide) (fun h => ?_) (fun h => ?_)
    · have hw := hw.1 h
      exact J94 σ α ls H locs (lv_sub hl [] rfl) hP hD hS hw
    · have hw := hw.2 h
      refine lv_iload hx hb d_Pr_addStatement_79 (lv_at hl 7 rfl) ?_
      refine lv_if_eq (tgt := 94) hx hb d_Pr_addStatement_81 (by decide) (fun h => ?_) (fun h => ?_)
      · have hw := hw.1 h
        exact J94 σ α ls H locs (lv_sub hl [] rfl) hP hD hS hw
      · have hw := hw.2 h
        refine lv_iload hx hb d_Pr_addStatement_84 (lv_at hl 8 rfl) ?_
        refine lv_if_eq (tgt := 94) hx hb d_Pr_addStatement_86 (by decide) (fun h => ?_) (fun h => ?_)
        · have hw := hw.1 h
          exact J94 σ α ls H locs (lv_sub hl [] rfl) hP hD hS hw
        · have hw := hw.2 h
          refine lv_iload hx hb d_Pr_addStatement_89 (lv_at hl 0 rfl) ?_
          refine lv_if_ne (tgt := 96) hx hb d_Pr_addStatement_91 (by decide) (fun h => ?_) (fun h => ?_)
          · have hw := hw.1 h
            refine lv_aload_n hx hb d_Pr_addStatement_96 rfl (lv_at hl 1 rfl) ?_
            refine va_get (D := D) (ci := 7) (v := .ref (ad 13)) (C := R_Pr) (T := T_Pr) (N := 6) hx hb hts i_Pr hown hK hP 12 rfl rfl 0 (by decide) (hts _ tw_188) (fun _ h9 => h9) rfl d_Pr_addStatement_97 ?_
            refine lv_aload_n hx hb d_Pr_addStatement_100 rfl (lv_at hl 1 rfl) ?_
            refine va_get (D := D) (ci := 7) (v := .int (σ 28)) (C := R_Pr) (T := T_Pr) (N := 6) hx hb hts i_Pr hown hK hP 12 rfl rfl 5 (by decide) (hts _ tw_199) (fun _ h9 => h9) rfl d_Pr_addStatement_101 ?_
            refine lv_iload_n hx hb d_Pr_addStatement_104 rfl (lv_at hl 2 rfl) ?_
            obtain ⟨hin, hw⟩ := hw
            refine va_iast (f := α 13) (i := σ 28) (x := a1) hx hb hK hP hD hS 13 0 rfl rfl hin d_Pr_addStatement_105 (fun H locs hP hD hS => ?_)
            rw [xW_s13] at hP hD
            have hP : va_P D gCl (xW cI cS cZ ad wc wb kp tp σ (va_up α 13 (upd (α 13) (σ 28).toNatClampNeg a1))) H := hP
            have hD : va_D A (xW cI cS cZ ad wc wb kp tp σ (va_up α 13 (upd (α 13) (σ 28).toNatClampNeg a1))) := hD
            refine lv_aload_n hx hb d_Pr_addStatement_106 rfl (lv_at hl 1 rfl) ?_
            refine va_get (D := D) (ci := 7) (v := .ref (ad 14)) (C := R_Pr) (T := T_Pr) (N := 6) hx hb hts i_Pr hown hK hP 12 rfl rfl 1 (by decide) (hts _ tw_190) (fun _ h9 => h9) rfl d_Pr_addStatement_107 ?_
            refine lv_aload_n hx hb d_Pr_addStatement_110 rfl (lv_at hl 1 rfl) ?_
            refine va_get (D := D) (ci := 7) (v := .int (σ 28)) (C := R_Pr) (T := T_Pr) (N := 6) hx hb hts i_Pr hown hK hP 12 rfl rfl 5 (by decide) (hts _ tw_199) (fun _ h9 => h9) rfl d_Pr_addStatement_111 ?_
            refine lv_iload_n hx hb d_Pr_addStatement_114 rfl (lv_at hl 3 rfl) ?_
            obtain ⟨hin, hw⟩ := hw
            refine va_iast (f := α 14) (i := σ 28) (x := a2) hx hb hK hP hD hS 14 0 rfl rfl hin d_Pr_addStatement_115 (fun H locs hP hD hS => ?_)
            rw [xW_s14] at hP hD
            have hP : va_P D gCl (xW cI cS cZ ad wc wb kp tp σ (va_up (va_up α 13 (upd (α 13) (σ 28).toNatClampNeg a1)) 14 (upd (α 14) (σ 28).toNatClampNeg a2))) H := hP
            have hD : va_D A (xW cI cS cZ ad wc wb kp tp σ (va_up (va_up α 13 (upd (α 13) (σ 28).toNatClampNeg a1)) 14 (upd (α 14) (σ 28).toNatClampNeg a2))) := hD
            refine lv_aload_n hx hb d_Pr_addStatement_116 rfl (lv_at hl 1 rfl) ?_
            refine va_get (D := D) (ci := 7) (v := .ref (ad 15)) (C := R_Pr) (T := T_Pr) (N := 6) hx hb hts i_Pr hown hK hP 12 rfl rfl 2 (by decide) (hts _ tw_192) (fun _ h9 => h9) rfl d_Pr_addStatement_117 ?_
            refine lv_aload_n hx hb d_Pr_addStatement_120 rfl (lv_at hl 1 rfl) ?_
            refine va_get (D := D) (ci := 7) (v := .int (σ 28)) (C := R_Pr) (T := T_Pr) (N := 6) hx hb hts i_Pr hown hK hP 12 rfl rfl 5 (by decide) (hts _ tw_199) (fun _ h9 => h9) rfl d_Pr_addStatement_121 ?_
            refine lv_iload_n hx hb d_Pr_addStatement_124 rfl (lv_at hl 4 rfl) ?_
            obtain ⟨hin, hw⟩ := hw
            refine va_iast (f := α 15) (i := σ 28) (x := a3) hx hb hK hP hD hS 15 0 rfl rfl hin d_Pr_addStatement_125 (fun H locs hP hD hS => ?_)
            rw [xW_s15] at hP hD
            have hP : va_P D gCl (xW cI cS cZ ad wc wb kp tp σ (va_up (va_up (va_up α 13 (upd (α 13) (σ 28).toNatClampNeg a1)) 14 (upd (α 14) (σ 28).toNatClampNeg a2)) 15 (upd (α 15) (σ 28).toNatClampNeg a3))) H := hP
            have hD : va_D A (xW cI cS cZ ad wc wb kp tp σ (va_up (va_up (va_up α 13 (upd (α 13) (σ 28).toNatClampNeg a1)) 14 (upd (α 14) (σ 28).toNatClampNeg a2)) 15 (upd (α 15) (σ 28).toNatClampNeg a3))) := hD
            refine lv_aload_n hx hb d_Pr_addStatement_126 rfl (lv_at hl 1 rfl) ?_
            refine va_get (D := D) (ci := 7) (v := .ref (ad 16)) (C := R_Pr) (T := T_Pr) (N := 6) hx hb hts i_Pr hown hK hP 12 rfl rfl 3 (by decide) (hts _ tw_194) (fun _ h9 => h9) rfl d_Pr_addStatement_127 ?_
            refine lv_aload_n hx hb d_Pr_addStatement_130 rfl (lv_at hl 1 rfl) ?_
            refine va_get (D := D) (ci := 7) (v := .int (σ 28)) (C := R_Pr) (T := T_Pr) (N := 6) hx hb hts i_Pr hown hK hP 12 rfl rfl 5 (by decide) (hts _ tw_199) (fun _ h9 => h9) rfl d_Pr_addStatement_131 ?_
            refine lv_iload hx hb d_Pr_addStatement_134 (lv_at hl 5 rfl) ?_
            obtain ⟨hin, hw⟩ := hw
            refine va_iast (f := α 16) (i := σ 28) (x := a4) hx hb hK hP hD hS 16 0 rfl rfl hin d_Pr_addStatement_136 (fun H locs hP hD hS => ?_)
            rw [xW_s16] at hP hD
            have hP : va_P D gCl (xW cI cS cZ ad wc wb kp tp σ (va_up (va_up (va_up (va_up α 13 (upd (α 13) (σ 28).toNatClampNeg a1)) 14 (upd (α 14) (σ 28).toNatClampNeg a2)) 15 (upd (α 15) (σ 28).toNatClampNeg a3)) 16 (upd (α 16) (σ 28).toNatClampNeg a4))) H := hP
            have hD : va_D A (xW cI cS cZ ad wc wb kp tp σ (va_up (va_up (va_up (va_up α 13 (upd (α 13) (σ 28).toNatClampNeg a1)) 14 (upd (α 14) (σ 28).toNatClampNeg a2)) 15 (upd (α 15) (σ 28).toNatClampNeg a3)) 16 (upd (α 16) (σ 28).toNatClampNeg a4))) := hD
            refine lv_aload_n hx hb d_Pr_addStatement_137 rfl (lv_at hl 1 rfl) ?_
            refine va_get (D := D) (ci := 7) (v := .ref (ad 17)) (C := R_Pr) (T := T_Pr) (N := 6) hx hb hts i_Pr hown hK hP 12 rfl rfl 4 (by decide) (hts _ tw_196) (fun _ h9 => h9) rfl d_Pr_addStatement_138 ?_
            refine lv_aload_n hx hb d_Pr_addStatement_141 rfl (lv_at hl 1 rfl) ?_
            refine va_get (D := D) (ci := 7) (v := .int (σ 28)) (C := R_Pr) (T := T_Pr) (N := 6) hx hb hts i_Pr hown hK hP 12 rfl rfl 5 (by decide) (hts _ tw_199) (fun _ h9 => h9) rfl d_Pr_addStatement_142 ?_
            refine lv_iload hx hb d_Pr_addStatement_145 (lv_at hl 6 rfl) ?_
            obtain ⟨hin, hw⟩ := hw
            refine va_iast (f := α 17) (i := σ 28) (x := a5) hx hb hK hP hD hS 17 0 rfl rfl hin d_Pr_addStatement_147 (fun H locs hP hD hS => ?_)
            rw [xW_s17] at hP hD
            have hP : va_P D gCl (xW cI cS cZ ad wc wb kp tp σ (va_up (va_up (va_up (va_up (va_up α 13 (upd (α 13) (σ 28).toNatClampNeg a1)) 14 (upd (α 14) (σ 28).toNatClampNeg a2)) 15 (upd (α 15) (σ 28).toNatClampNeg a3)) 16 (upd (α 16) (σ 28).toNatClampNeg a4)) 17 (upd (α 17) (σ 28).toNatClampNeg a5))) H := hP
            have hD : va_D A (xW cI cS cZ ad wc wb kp tp σ (va_up (va_up (va_up (va_up (va_up α 13 (upd (α 13) (σ 28).toNatClampNeg a1)) 14 (upd (α 14) (σ 28).toNatClampNeg a2)) 15 (upd (α 15) (σ 28).toNatClampNeg a3)) 16 (upd (α 16) (σ 28).toNatClampNeg a4)) 17 (upd (α 17) (σ 28).toNatClampNeg a5))) := hD
            refine lv_aload_n hx hb d_Pr_addStatement_148 rfl (lv_at hl 1 rfl) ?_
            refine lv_dup hx hb d_Pr_addStatement_149 rfl ?_
            refine va_get (D := D) (ci := 7) (v := .int (σ 28)) (C := R_Pr) (T := T_Pr) (N := 6) hx hb hts i_Pr hown hK hP 12 rfl rfl 5 (by decide) (hts _ tw_199) (fun _ h9 => h9) rfl d_Pr_addStatement_150 ?_
            refine lv_iconst (v := 1) hx hb d_Pr_addStatement_153 (by decide) ?_
            refine lv_iadd hx hb d_Pr_addStatement_154 ?_
            refine va_put (D := D) (ci := 7) (v := .int ((σ 28) + (1 : Int32))) (ty := .int) (C := R_Pr) (T := T_Pr) (N := 6) hx hb hts i_Pr t_Pr o_Pr n_Pr hown hK hP hD hS 12 rfl rfl 5 (by decide) (hts _ tw_199) (fun _ h9 => h9) rfl (by decide +kernel) rfl rfl (Nat.le_of_ble_eq_true rfl) d_Pr_addStatement_155 (fun H locs hP hD hS => ?_)
            have hP : va_P D gCl (xW cI cS cZ ad wc wb kp tp (va_up σ 28 ((σ 28) + (1 : Int32))) (va_up (va_up (va_up (va_up (va_up α 13 (upd (α 13) (σ 28).toNatClampNeg a1)) 14 (upd (α 14) (σ 28).toNatClampNeg a2)) 15 (upd (α 15) (σ 28).toNatClampNeg a3)) 16 (upd (α 16) (σ 28).toNatClampNeg a4)) 17 (upd (α 17) (σ 28).toNatClampNeg a5))) H := hP
            have hD : va_D A (xW cI cS cZ ad wc wb kp tp (va_up σ 28 ((σ 28) + (1 : Int32))) (va_up (va_up (va_up (va_up (va_up α 13 (upd (α 13) (σ 28).toNatClampNeg a1)) 14 (upd (α 14) (σ 28).toNatClampNeg a2)) 15 (upd (α 15) (σ 28).toNatClampNeg a3)) 16 (upd (α 16) (σ 28).toNatClampNeg a4)) 17 (upd (α 17) (σ 28).toNatClampNeg a5))) := hD
            refine lv_aload_n hx hb d_Pr_addStatement_158 rfl (lv_at hl 1 rfl) ?_
            refine va_get (D := D) (ci := 7) (v := .int ((σ 28) + (1 : Int32))) (C := R_Pr) (T := T_Pr) (N := 6) hx hb hts i_Pr hown hK hP 12 rfl rfl 5 (by decide) (hts _ tw_199) (fun _ h9 => h9) rfl d_Pr_addStatement_159 ?_
            refine lv_iconst (v := 1) hx hb d_Pr_addStatement_162 (by decide) ?_
            refine lv_isub hx hb d_Pr_addStatement_163 ?_
            exact hret H locs 164 ls (((σ 28) + (1 : Int32)) - (1 : Int32)) ((va_up σ 28 ((σ 28) + (1 : Int32))), (va_up (va_up (va_up (va_up (va_up α 13 (upd (α 13) (σ 28).toNatClampNeg a1)) 14 (upd (α 14) (σ 28).toNatClampNeg a2)) 15 (upd (α 15) (σ 28).toNatClampNeg a3)) 16 (upd (α 16) (σ 28).toNatClampNeg a4)) 17 (upd (α 17) (σ 28).toNatClampNeg a5))) d_Pr_addStatement_164 hP hD hS (vp_nar_int _) hw
          · have hw := hw.2 h
            exact J94 σ α ls H locs (lv_sub hl [] rfl) hP hD hS hw
  have J67 : ∀ (σ : Nat → Int32) (α : Nat → Nat → Int32) (a1 : Int32) (a2 : Int32) (a3 : Int32) (a4 : Int32) (a5 : Int32) (a6 : Int32) (a7 : Int32) (ls : Array Slot) (H : Heap) (locs : List Loc), lv_has ls 9 [(0, .ref (ad 12)), (1, .int a1), (2, .int a2), (3, .int a3), (4, .int a4), (5, .int a5), (6, .int a6), (7, .int a7)] → va_P D gCl (xW cI cS cZ ad wc wb kp tp σ α) H → va_D A (xW cI cS cZ ad wc wb kp tp σ α) → va_S A s.heap H locs → wp_Pr_addStatement_J67 σ α a1 a2 a3 a4 a5 a6 a7 post → W p l e rm_Pr_addStatement s m ([.ref (ad 12), .int x1, .int x2, .int x3, .int x4, .int x5] : List Value).toArray below meth c H locs 0 0 Q (F0 m 67 ls []) := by
    intro σ α a1 a2 a3 a4 a5 a6 a7 ls H locs hl hP hD hS hw
    unfold wp_Pr_addStatement_J67 at hw
    refine lv_iconst (v := 0) hx hb d_Pr_addStatement_67 (by decide) ?_
    exact J68 σ α a1 a2 a3 a4 a5 a6 a7 (0 : Int32) ls H locs (lv_sub hl [0, 1, 2, 3, 4, 5, 6, 7] rfl) hP hD hS hw
  have J63 : ∀ (σ : Nat → Int32) (α : Nat → Nat → Int32) (a1 : Int32) (a2 : Int32) (a3 : Int32) (a4 : Int32) (a5 : Int32) (a6 : Int32) (a7 : Int32) (ls : Array Slot) (H : Heap) (locs : List Loc), lv_has ls 9 [(0, .ref (ad 12)), (1, .int a1), (2, .int a2), (3, .int a3), (4, .int a4), (5, .int a5), (6, .int a6), (7, .int a7)] → va_P D gCl (xW cI cS cZ ad wc wb kp tp σ α) H → va_D A (xW cI cS cZ ad wc wb kp tp σ α) → va_S A s.heap H locs → wp_Pr_addStatement_J63 σ α a1 a2 a3 a4 a5 a6 a7 post → W p l e rm_Pr_addStatement s m ([.ref (ad 12), .int x1, .int x2, .int x3, .int x4, .int x5] : List Value).toArray below meth c H locs 0 0 Q (F0 m 63 ls []) := by
    intro σ α a1 a2 a3 a4 a5 a6 a7 ls H locs hl hP hD hS hw
    unfold wp_Pr_addStatement_J63 at hw
    refine lv_iconst (v := 1) hx hb d_Pr_addStatement_63 (by decide) ?_
    refine lv_goto (tgt := 68) hx hb d_Pr_addStatement_64 (by decide) ?_
    exact J68 σ α a1 a2 a3 a4 a5 a6 a7 (1 : Int32) ls H locs (lv_sub hl [0, 1, 2, 3, 4, 5, 6, 7] rfl) hP hD hS hw
  have J44 : ∀ (σ : Nat → Int32) (α : Nat → Nat → Int32) (a1 : Int32) (a2 : Int32) (a3 : Int32) (a4 : Int32) (a5 : Int32) (a6 : Int32) (t0 : Int32) (ls : Array Slot) (H : Heap) (locs : List Loc), lv_has ls 9 [(0, .ref (ad 12)), (1, .int a1), (2, .int a2), (3, .int a3), (4, .int a4), (5, .int a5), (6, .int a6)] → va_P D gCl (xW cI cS cZ ad wc wb kp tp σ α) H → va_D A (xW cI cS cZ ad wc wb kp tp σ α) → va_S A s.heap H locs → wp_Pr_addStatement_J44 σ α a1 a2 a3 a4 a5 a6 t0 post → W p l e rm_Pr_addStatement s m ([.ref (ad 12), .int x1, .int x2, .int x3, .int x4, .int x5] : List Value).toArray below meth c H locs 0 0 Q (F0 m 44 ls [.int t0]) := by
    intro σ α a1 a2 a3 a4 a5 a6 t0 ls H locs hl hP hD hS hw
    unfold wp_Pr_addStatement_J44 at hw
    refine lv_istore hx hb d_Pr_addStatement_44 hl (by decide) rfl (fun ls hl => ?_)
    have hl : lv_has ls 9 [(7, .int t0), (0, .ref (ad 12)), (1, .int a1), (2, .int a2), (3, .int a3), (4, .int a4), (5, .int a5), (6, .int a6)] := hl
    refine lv_iload_n hx hb d_Pr_addStatement_46 rfl (lv_at hl 2 rfl) ?_
    refine lv_iconst (v := 4) hx hb d_Pr_addStatement_47 (by decide) ?_
    refine lv_icmp_ne (tgt := 63) hx hb d_Pr_addStatement_48 (by decide) (fun h => ?_) (fun h => ?_)
    · have hw := hw.1 h
      exact J63 σ α a1 a2 a3 a4 a5 a6 t0 ls H locs (lv_sub hl [1, 2, 3, 4, 5, 6, 7, 0] rfl) hP hD hS hw
    · have hw := hw.2 h
      refine lv_iload hx hb d_Pr_addStatement_51 (lv_at hl 6 rfl) ?_
      refine lv_if_lt (tgt := 67) hx hb d_Pr_addStatement_53 (by decide) (fun h => ?_) (fun h => ?_)
      · have hw := hw.1 h
        exact J67 σ α a1 a2 a3 a4 a5 a6 t0 ls H locs (lv_sub hl [1, 2, 3, 4, 5, 6, 7, 0] rfl) hP hD hS hw
      · have hw := hw.2 h
        refine lv_iload hx hb d_Pr_addStatement_56 (lv_at hl 6 rfl) ?_
        refine lv_bipush (v := 12) hx hb d_Pr_addStatement_58 (by decide) ?_
        refine lv_icmp_ge (tgt := 67) hx hb d_Pr_addStatement_60 (by decide) (fun h => ?_) (fun h => ?_)
        · have hw := hw.1 h
          exact J67 σ α a1 a2 a3 a4 a5 a6 t0 ls H locs (lv_sub hl [1, 2, 3, 4, 5, 6, 7, 0] rfl) hP hD hS hw
        · have hw := hw.2 h
          exact J63 σ α a1 a2 a3 a4 a5 a6 t0 ls H locs (lv_sub hl [1, 2, 3, 4, 5, 6, 7, 0] rfl) hP hD hS hw
  have J43 : ∀ (σ : Nat → Int32) (α : Nat → Nat → Int32) (a1 : Int32) (a2 : Int32) (a3 : Int32) (a4 : Int32) (a5 : Int32) (a6 : Int32) (ls : Array Slot) (H : Heap) (locs : List Loc), lv_has ls 9 [(0, .ref (ad 12)), (1, .int a1), (2, .int a2), (3, .int a3), (4, .int a4), (5, .int a5), (6, .int a6)] → va_P D gCl (xW cI cS cZ ad wc wb kp tp σ α) H → va_D A (xW cI cS cZ ad wc wb kp tp σ α) → va_S A s.heap H locs → wp_Pr_addStatement_J43 σ α a1 a2 a3 a4 a5 a6 post → W p l e rm_Pr_addStatement s m ([.ref (ad 12), .int x1, .int x2, .int x3, .int x4, .int x5] : List Value).toArray below meth c H locs 0 0 Q (F0 m 43 ls []) := by
    intro σ α a1 a2 a3 a4 a5 a6 ls H locs hl hP hD hS hw
    unfold wp_Pr_addStatement_J43 at hw
    refine lv_iconst (v := 0) hx hb d_Pr_addStatement_43 (by decide) ?_
    exact J44 σ α a1 a2 a3 a4 a5 a6 (0 : Int32) ls H locs (lv_sub hl [0, 1, 2, 3, 4, 5, 6] rfl) hP hD hS hw
  have J15 : ∀ (σ : Nat → Int32) (α : Nat → Nat → Int32) (a1 : Int32) (a2 : Int32) (a3 : Int32) (a4 : Int32) (a5 : Int32) (t0 : Int32) (ls : Array Slot) (H : Heap) (locs : List Loc), lv_has ls 9 [(0, .ref (ad 12)), (1, .int a1), (2, .int a2), (3, .int a3), (4, .int a4), (5, .int a5)] → va_P D gCl (xW cI cS cZ ad wc wb kp tp σ α) H → va_D A (xW cI cS cZ ad wc wb kp tp σ α) → va_S A s.heap H locs → wp_Pr_addStatement_J15 σ α a1 a2 a3 a4 a5 t0 post → W p l e rm_Pr_addStatement s m ([.ref (ad 12), .int x1, .int x2, .int x3, .int x4, .int x5] : List Value).toArray below meth c H locs 0 0 Q (F0 m 15 ls [.int t0]) := by
    intro σ α a1 a2 a3 a4 a5 t0 ls H locs hl hP hD hS hw
    unfold wp_Pr_addStatement_J15 at hw
    refine lv_istore hx hb d_Pr_addStatement_15 hl (by decide) rfl (fun ls hl => ?_)
    have hl : lv_has ls 9 [(6, .int t0), (0, .ref (ad 12)), (1, .int a1), (2, .int a2), (3, .int a3), (4, .int a4), (5, .int a5)] := hl
    refine lv_iload_n hx hb d_Pr_addStatement_17 rfl (lv_at hl 3 rfl) ?_
    refine gCallSi (As := [.int a2]) (rest := []) (c_Pr_isVariable l D cI cS cZ ad wc wb kp tp σ α a2 _ hw) hx hb hml hown hts hK hN hA hS hP hD (va_cwS 1 hts (gGS tw_440 tw_441 tw_8 tw_442) rfl rfl rfl ⟨by decide, by decide, by decide +kernel⟩ ⟨Nat.le_of_ble_eq_true rfl, Nat.le_of_ble_eq_true rfl⟩) rfl hl.1 rfl (Nat.le_of_ble_eq_true rfl) d_Pr_addStatement_18 (fun r18 u18 H locs hw hP hD hS => ?_)
    have hP : va_P D gCl (xW cI cS cZ ad wc wb kp tp u18.1 u18.2) H := hP
    have hD : va_D A (xW cI cS cZ ad wc wb kp tp u18.1 u18.2) := hD
    refine lv_if_eq (tgt := 43) hx hb d_Pr_addStatement_21 (by decide) (fun h => ?_) (fun h => ?_)
    · have hw := hw.1 h
      exact J43 u18.1 u18.2 a1 a2 a3 a4 a5 t0 ls H locs (lv_sub hl [1, 2, 3, 4, 5, 6, 0] rfl) hP hD hS hw
    · have hw := hw.2 h
      refine lv_iload_n hx hb d_Pr_addStatement_24 rfl (lv_at hl 4 rfl) ?_
      refine gCallSi (As := [.int a3]) (rest := []) (c_Pr_isVariable l D cI cS cZ ad wc wb kp tp u18.1 u18.2 a3 _ hw) hx hb hml hown hts hK hN hA hS hP hD (va_cwS 1 hts (gGS tw_440 tw_441 tw_8 tw_442) rfl rfl rfl ⟨by decide, by decide, by decide +kernel⟩ ⟨Nat.le_of_ble_eq_true rfl, Nat.le_of_ble_eq_true rfl⟩) rfl hl.1 rfl (Nat.le_of_ble_eq_true rfl) d_Pr_addStatement_25 (fun r25 u25 H locs hw hP hD hS => ?_)
      have hP : va_P D gCl (xW cI cS cZ ad wc wb kp tp u25.1 u25.2) H := hP
      have hD : va_D A (xW cI cS cZ ad wc wb kp tp u25.1 u25.2) := hD
      refine lv_if_eq (tgt := 43) hx hb d_Pr_addStatement_28 (by decide) (fun h => ?_) (fun h => ?_)
      · have hw := hw.1 h
        exact J43 u25.1 u25.2 a1 a2 a3 a4 a5 t0 ls H locs (lv_sub hl [1, 2, 3, 4, 5, 6, 0] rfl) hP hD hS hw
      · have hw := hw.2 h
        refine lv_iload hx hb d_Pr_addStatement_31 (lv_at hl 5 rfl) ?_
        refine gCallSi (As := [.int a4]) (rest := []) (c_Pr_isVariable l D cI cS cZ ad wc wb kp tp u25.1 u25.2 a4 _ hw) hx hb hml hown hts hK hN hA hS hP hD (va_cwS 1 hts (gGS tw_440 tw_441 tw_8 tw_442) rfl rfl rfl ⟨by decide, by decide, by decide +kernel⟩ ⟨Nat.le_of_ble_eq_true rfl, Nat.le_of_ble_eq_true rfl⟩) rfl hl.1 rfl (Nat.le_of_ble_eq_true rfl) d_Pr_addStatement_33 (fun r33 u33 H locs hw hP hD hS => ?_)
        have hP : va_P D gCl (xW cI cS cZ ad wc wb kp tp u33.1 u33.2) H := hP
        have hD : va_D A (xW cI cS cZ ad wc wb kp tp u33.1 u33.2) := hD
        refine lv_if_eq (tgt := 43) hx hb d_Pr_addStatement_36 (by decide) (fun h => ?_) (fun h => ?_)
        · have hw := hw.1 h
          exact J43 u33.1 u33.2 a1 a2 a3 a4 a5 t0 ls H locs (lv_sub hl [1, 2, 3, 4, 5, 6, 0] rfl) hP hD hS hw
        · have hw := hw.2 h
          refine lv_iconst (v := 1) hx hb d_Pr_addStatement_39 (by decide) ?_
          refine lv_goto (tgt := 44) hx hb d_Pr_addStatement_40 (by decide) ?_
          exact J44 u33.1 u33.2 a1 a2 a3 a4 a5 t0 (1 : Int32) ls H locs (lv_sub hl [1, 2, 3, 4, 5, 6, 0] rfl) hP hD hS hw
  have J14 : ∀ (σ : Nat → Int32) (α : Nat → Nat → Int32) (a1 : Int32) (a2 : Int32) (a3 : Int32) (a4 : Int32) (a5 : Int32) (ls : Array Slot) (H : Heap) (locs : List Loc), lv_has ls 9 [(0, .ref (ad 12)), (1, .int a1), (2, .int a2), (3, .int a3), (4, .int a4), (5, .int a5)] → va_P D gCl (xW cI cS cZ ad wc wb kp tp σ α) H → va_D A (xW cI cS cZ ad wc wb kp tp σ α) → va_S A s.heap H locs → wp_Pr_addStatement_J14 σ α a1 a2 a3 a4 a5 post → W p l e rm_Pr_addStatement s m ([.ref (ad 12), .int x1, .int x2, .int x3, .int x4, .int x5] : List Value).toArray below meth c H locs 0 0 Q (F0 m 14 ls []) := by
    intro σ α a1 a2 a3 a4 a5 ls H locs hl hP hD hS hw
    unfold wp_Pr_addStatement_J14 at hw
    refine lv_iconst (v := 0) hx hb d_Pr_addStatement_14 (by decide) ?_
    exact J15 σ α a1 a2 a3 a4 a5 (0 : Int32) ls H locs (lv_sub hl [0, 1, 2, 3, 4, 5] rfl) hP hD hS hw
  unfold wp_Pr_addStatement at hw
  have hP : va_P D gCl (xW cI cS cZ ad wc wb kp tp σ α) s.heap := hP
  have hD : va_D A (xW cI cS cZ ad wc wb kp tp σ α) := hD
  obtain ⟨H, hH⟩ : ∃ H, H = s.heap := ⟨_, rfl⟩
  obtain ⟨locs, hlocs⟩ : ∃ locs : List Loc, locs = [] := ⟨_, rfl⟩
  have hP : va_P D gCl (xW cI cS cZ ad wc wb kp tp σ α) H := by rw [hH]; exact hP
  have hS : va_S A s.heap H locs := by rw [hH, hlocs]; exact hS
  suffices K : W p l e rm_Pr_addStatement s m ([.ref (ad 12), .int x1, .int x2, .int x3, .int x4, .int x5] : List Value).toArray below meth c H locs 0 0 Q (F0 m 0 ls []) by rw [hH, hlocs] at K; exact K
  clear hH hlocs
  refine lv_iload_n hx hb d_Pr_addStatement_0 rfl (lv_at hl 1 rfl) ?_
  refine lv_if_lt (tgt := 14) hx hb d_Pr_addStatement_1 (by decide) (fun h => ?_) (fun h => ?_)
  · have hw := hw.1 h
    exact J14 σ α x1 x2 x3 x4 x5 ls H locs (lv_sub hl [0, 1, 2, 3, 4, 5] rfl) hP hD hS hw
  · have hw := hw.2 h
    refine lv_iload_n hx hb d_Pr_addStatement_4 rfl (lv_at hl 1 rfl) ?_
    refine lv_bipush (v := 7) hx hb d_Pr_addStatement_5 (by decide) ?_
    refine lv_icmp_ge (tgt := 14) hx hb d_Pr_addStatement_7 (by decide) (fun h => ?_) (fun h => ?_)
    · have hw := hw.1 h
      exact J14 σ α x1 x2 x3 x4 x5 ls H locs (lv_sub hl [0, 1, 2, 3, 4, 5] rfl) hP hD hS hw
    · have hw := hw.2 h
      refine lv_iconst (v := 1) hx hb d_Pr_addStatement_10 (by decide) ?_
      refine lv_goto (tgt := 15) hx hb d_Pr_addStatement_11 (by decide) ?_
      exact J15 σ α x1 x2 x3 x4 x5 (1 : Int32) ls H locs (lv_sub hl [0, 1, 2, 3, 4, 5] rfl) hP hD hS hw
abbrev rm_Dm_statement : Room := { frames := 2, cells := 0, slots := 0, locals := 48 }
set_option maxHeartbeats 4000000 in
set_option maxRecDepth 100000 in
theorem c_Dm_statement (l : Launch) (D : va_G) (cI cS cZ : ClassId) (ad : Nat → Nat) (wc wb : Nat) (kp tp : Nat → Nat) (σ : Nat → Int32) (α : Nat → Nat → Int32) (x1 : Int32) (x2 : Int32) (x3 : Int32) (x4 : Int32) (x5 : Int32) (post : Int32 → gS → Prop) (hw : wp_Dm_statement σ α x1 x2 x3 x4 x5 post) : gMi l y_Dm_statement b_Dm_statement 6 .int rm_Dm_statement D (gT cI cS cZ) (fun u : gS => xW cI cS cZ ad wc wb kp tp u.1 u.2) [.ref (ad 0), .int x1, .int x2, .int x3, .int x4, .int x5] (σ, α) post := by
  refine gMi.of (by decide) (Nat.le_of_ble_eq_true rfl) ?_
  intro p e s m below meth c Q A hx hb hml hown hts hK hN hA hS hP hD hret ls hl
  have hl : lv_has ls 6 [(0, .ref (ad 0)), (1, .int x1), (2, .int x2), (3, .int x3), (4, .int x4), (5, .int x5)] := hl
  unfold wp_Dm_statement at hw
  have hP : va_P D gCl (xW cI cS cZ ad wc wb kp tp σ α) s.heap := hP
  have hD : va_D A (xW cI cS cZ ad wc wb kp tp σ α) := hD
  obtain ⟨H, hH⟩ : ∃ H, H = s.heap := ⟨_, rfl⟩
  obtain ⟨locs, hlocs⟩ : ∃ locs : List Loc, locs = [] := ⟨_, rfl⟩
  have hP : va_P D gCl (xW cI cS cZ ad wc wb kp tp σ α) H := by rw [hH]; exact hP
  have hS : va_S A s.heap H locs := by rw [hH, hlocs]; exact hS
  suffices K : W p l e rm_Dm_statement s m ([.ref (ad 0), .int x1, .int x2, .int x3, .int x4, .int x5] : List Value).toArray below meth c H locs 0 0 Q (F0 m 0 ls []) by rw [hH, hlocs] at K; exact K
  clear hH hlocs
  refine lv_aload_n hx hb d_Dm_statement_0 rfl (lv_at hl 0 rfl) ?_
  refine va_get (D := D) (ci := 0) (v := .ref (ad 12)) (C := R_Dm) (T := T_Dm) (N := 7) hx hb hts i_Dm hown hK hP 0 rfl rfl 4 (by decide) (hts _ tw_259) (fun _ h9 => h9) rfl d_Dm_statement_1 ?_
  refine lv_iload_n hx hb d_Dm_statement_4 rfl (lv_at hl 1 rfl) ?_
  refine lv_iload_n hx hb d_Dm_statement_5 rfl (lv_at hl 2 rfl) ?_
  refine lv_iload_n hx hb d_Dm_statement_6 rfl (lv_at hl 3 rfl) ?_
  refine lv_iload hx hb d_Dm_statement_7 (lv_at hl 4 rfl) ?_
  refine lv_iload hx hb d_Dm_statement_9 (lv_at hl 5 rfl) ?_
  refine gCallVi (b := ad 12) (As := [.int x1, .int x2, .int x3, .int x4, .int x5]) (rest := []) (c_Pr_addStatement l D cI cS cZ ad wc wb kp tp σ α x1 x2 x3 x4 x5 _ hw) hx hb hml hown hts hK hN hA hS hP hD (cwV 5 hts (gGV tw_436 tw_437 tw_438 tw_8 tw_439) rfl rfl rfl ⟨rfl, by decide, by decide, by decide +kernel⟩ ⟨Nat.le_of_ble_eq_true rfl, Nat.le_of_ble_eq_true rfl⟩) (va_recv (ci := 7) (q0 := 12) hK hP rfl rfl) rfl hl.1 rfl (Nat.le_of_ble_eq_true rfl) d_Dm_statement_11 (fun r11 u11 H locs hw hP hD hS => ?_)
  have hP : va_P D gCl (xW cI cS cZ ad wc wb kp tp u11.1 u11.2) H := hP
  have hD : va_D A (xW cI cS cZ ad wc wb kp tp u11.1 u11.2) := hD
  exact hret H locs 14 ls r11 (u11.1, u11.2) d_Dm_statement_14 hP hD hS (vp_nar_int _) hw
abbrev rm_Dm_clear : Room := { frames := 0, cells := 0, slots := 0, locals := 0 }
set_option maxHeartbeats 4000000 in
set_option maxRecDepth 100000 in
theorem c_Dm_clear (l : Launch) (D : va_G) (cI cS cZ : ClassId) (ad : Nat → Nat) (wc wb : Nat) (kp tp : Nat → Nat) (σ : Nat → Int32) (α : Nat → Nat → Int32) (post : gS → Prop) (hw : wp_Dm_clear σ α post) : gMv l y_Dm_clear b_Dm_clear 1 rm_Dm_clear D (gT cI cS cZ) (fun u : gS => xW cI cS cZ ad wc wb kp tp u.1 u.2) [.ref (ad 0)] (σ, α) post := by
  refine gMv.of (by decide) (Nat.le_of_ble_eq_true rfl) ?_
  intro p e s m below meth c Q A hx hb hml hown hts hK hN hA hS hP hD hret ls hl
  have hl : lv_has ls 1 [(0, .ref (ad 0))] := hl
  unfold wp_Dm_clear at hw
  have hP : va_P D gCl (xW cI cS cZ ad wc wb kp tp σ α) s.heap := hP
  have hD : va_D A (xW cI cS cZ ad wc wb kp tp σ α) := hD
  obtain ⟨H, hH⟩ : ∃ H, H = s.heap := ⟨_, rfl⟩
  obtain ⟨locs, hlocs⟩ : ∃ locs : List Loc, locs = [] := ⟨_, rfl⟩
  have hP : va_P D gCl (xW cI cS cZ ad wc wb kp tp σ α) H := by rw [hH]; exact hP
  have hS : va_S A s.heap H locs := by rw [hH, hlocs]; exact hS
  suffices K : W p l e rm_Dm_clear s m ([.ref (ad 0)] : List Value).toArray below meth c H locs 0 0 Q (F0 m 0 ls []) by rw [hH, hlocs] at K; exact K
  clear hH hlocs
  refine lv_aload_n hx hb d_Dm_clear_0 rfl (lv_at hl 0 rfl) ?_
  refine va_get (D := D) (ci := 0) (v := .ref (ad 12)) (C := R_Dm) (T := T_Dm) (N := 7) hx hb hts i_Dm hown hK hP 0 rfl rfl 4 (by decide) (hts _ tw_259) (fun _ h9 => h9) rfl d_Dm_clear_1 ?_
  refine lv_iconst (v := 0) hx hb d_Dm_clear_4 (by decide) ?_
  refine va_putN (D := D) (ci := 7) (v := .int (0 : Int32)) (ty := .int) (C := R_Pr) (T := T_Pr) (N := 6) hx hb hts i_Pr t_Pr o_Pr n_Pr hown hK hP hD hS 12 rfl rfl 5 (by decide) (va_Nw.use rfl (hN _ tn_200)) (fun _ h9 => h9) rfl (by decide +kernel) rfl rfl (Nat.le_of_ble_eq_true rfl) d_Dm_clear_5 (fun H locs hP hD hS => ?_)
  have hP : va_P D gCl (xW cI cS cZ ad wc wb kp tp (va_up σ 28 (0 : Int32)) α) H := hP
  have hD : va_D A (xW cI cS cZ ad wc wb kp tp (va_up σ 28 (0 : Int32)) α) := hD
  exact hret H locs 8 ls ((va_up σ 28 (0 : Int32)), α) d_Dm_clear_8 hP hD hS hw
abbrev rm_Pr_allGotosLead : Room := { frames := 0, cells := 0, slots := 0, locals := 0 }
set_option maxHeartbeats 4000000 in
set_option maxRecDepth 100000 in
theorem c_Pr_allGotosLead (l : Launch) (D : va_G) (cI cS cZ : ClassId) (ad : Nat → Nat) (wc wb : Nat) (kp tp : Nat → Nat) (σ : Nat → Int32) (α : Nat → Nat → Int32) (post : Int32 → gS → Prop) (hw : wp_Pr_allGotosLead σ α post) : gMi l y_Pr_allGotosLead b_Pr_allGotosLead 2 .boolean rm_Pr_allGotosLead D (gT cI cS cZ) (fun u : gS => xW cI cS cZ ad wc wb kp tp u.1 u.2) [.ref (ad 12)] (σ, α) post := by
  refine gMi.of (by decide) (Nat.le_of_ble_eq_true rfl) ?_
  intro p e s m below meth c Q A hx hb hml hown hts hK hN hA hS hP hD hret ls hl
  have hl : lv_has ls 2 [(0, .ref (ad 12))] := hl
  have L2 : ∀ (σ : Nat → Int32) (α : Nat → Nat → Int32) (a1 : Int32) (ls : Array Slot) (H : Heap) (locs : List Loc), lv_has ls 2 [(0, .ref (ad 12)), (1, .int a1)] → va_P D gCl (xW cI cS cZ ad wc wb kp tp σ α) H → va_D A (xW cI cS cZ ad wc wb kp tp σ α) → va_S A s.heap H locs → wp_Pr_allGotosLead_L2 σ α a1 post → W p l e rm_Pr_allGotosLead s m ([.ref (ad 12)] : List Value).toArray below meth c H locs 0 0 Q (F0 m 2 ls []) := by
    intro σ α a1 ls H locs hl hP hD hS hw
    let XL2 : (Nat → Int32) → (Nat → Nat → Int32) → Int32 → Prop := fun σ α a1 => ∀ (ls : Array Slot) (H : Heap) (locs : List Loc), lv_has ls 2 [(0, .ref (ad 12)), (1, .int a1)] → va_P D gCl (xW cI cS cZ ad wc wb kp tp σ α) H → va_D A (xW cI cS cZ ad wc wb kp tp σ α) → va_S A s.heap H locs → W p l e rm_Pr_allGotosLead s m ([.ref (ad 12)] : List Value).toArray below meth c H locs 0 0 Q (F0 m 2 ls [])
    have hX2 : ∀ (σ : Nat → Int32) (α : Nat → Nat → Int32) (a1 : Int32) (ls : Array Slot) (H : Heap) (locs : List Loc), lv_has ls 2 [(0, .ref (ad 12)), (1, .int a1)] → va_P D gCl (xW cI cS cZ ad wc wb kp tp σ α) H → va_D A (xW cI cS cZ ad wc wb kp tp σ α) → va_S A s.heap H locs → XL2 σ α a1 → W p l e rm_Pr_allGotosLead s m ([.ref (ad 12)] : List Value).toArray below meth c H locs 0 0 Q (F0 m 2 ls []) := fun σ α a1 ls H locs hl hP hD hS hw => hw ls H locs hl hP hD hS
    refine hw XL2 ?_ ls H locs hl hP hD hS
    clear hw hl hP hD hS
    intro σ α a1 hw ls H locs hl hP hD hS
    unfold wp_Pr_allGotosLead_B2 at hw
    have J35 : ∀ (σ : Nat → Int32) (α : Nat → Nat → Int32) (a1 : Int32) (ls : Array Slot) (H : Heap) (locs : List Loc), lv_has ls 2 [(0, .ref (ad 12)), (1, .int a1)] → va_P D gCl (xW cI cS cZ ad wc wb kp tp σ α) H → va_D A (xW cI cS cZ ad wc wb kp tp σ α) → va_S A s.heap H locs → wp_Pr_allGotosLead_J35 XL2 σ α a1 post → W p l e rm_Pr_allGotosLead s m ([.ref (ad 12)] : List Value).toArray below meth c H locs 0 0 Q (F0 m 35 ls []) := by
      intro σ α a1 ls H locs hl hP hD hS hw
      unfold wp_Pr_allGotosLead_J35 at hw
      refine lv_iinc (k := 1) hx hb d_Pr_allGotosLead_35 hl rfl rfl (by decide) rfl (fun ls hl => ?_)
      have hl : lv_has ls 2 [(1, .int (a1 + Int32.ofInt 1)), (0, .ref (ad 12))] := hl
      refine lv_goto (tgt := 2) hx hb d_Pr_allGotosLead_38 (by decide) ?_
      exact hX2 σ α (a1 + Int32.ofInt 1) ls H locs (lv_sub hl [1, 0] rfl) hP hD hS hw
    refine lv_iload_n hx hb d_Pr_allGotosLead_2 rfl (lv_at hl 1 rfl) ?_
    refine lv_aload_n hx hb d_Pr_allGotosLead_3 rfl (lv_at hl 0 rfl) ?_
    refine va_get (D := D) (ci := 7) (v := .int (σ 28)) (C := R_Pr) (T := T_Pr) (N := 6) hx hb hts i_Pr hown hK hP 12 rfl rfl 5 (by decide) (hts _ tw_199) (fun _ h9 => h9) rfl d_Pr_allGotosLead_4 ?_
    refine lv_icmp_ge (tgt := 41) hx hb d_Pr_allGotosLead_7 (by decide) (fun h => ?_) (fun h => ?_)
    · have hw := hw.1 h
      refine lv_iconst (v := 1) hx hb d_Pr_allGotosLead_41 (by decide) ?_
      exact hret H locs 42 ls (1 : Int32) (σ, α) d_Pr_allGotosLead_42 hP hD hS rfl hw
    · have hw := hw.2 h
      refine lv_aload_n hx hb d_Pr_allGotosLead_10 rfl (lv_at hl 0 rfl) ?_
      refine va_get (D := D) (ci := 7) (v := .ref (ad 13)) (C := R_Pr) (T := T_Pr) (N := 6) hx hb hts i_Pr hown hK hP 12 rfl rfl 0 (by decide) (hts _ tw_188) (fun _ h9 => h9) rfl d_Pr_allGotosLead_11 ?_
      refine lv_iload_n hx hb d_Pr_allGotosLead_14 rfl (lv_at hl 1 rfl) ?_
      obtain ⟨hin, hw⟩ := hw
      refine va_iald (f := α 13) hx hb hK hP 13 0 rfl rfl hin d_Pr_allGotosLead_15 ?_
      refine lv_iconst (v := 4) hx hb d_Pr_allGotosLead_16 (by decide) ?_
      refine lv_icmp_ne (tgt := 35) hx hb d_Pr_allGotosLead_17 (by decide) (fun h => ?_) (fun h => ?_)
      · have hw := hw.1 h
        exact J35 σ α a1 ls H locs (lv_sub hl [0, 1] rfl) hP hD hS hw
      · have hw := hw.2 h
        refine lv_aload_n hx hb d_Pr_allGotosLead_20 rfl (lv_at hl 0 rfl) ?_
        refine va_get (D := D) (ci := 7) (v := .ref (ad 17)) (C := R_Pr) (T := T_Pr) (N := 6) hx hb hts i_Pr hown hK hP 12 rfl rfl 4 (by decide) (hts _ tw_196) (fun _ h9 => h9) rfl d_Pr_allGotosLead_21 ?_
        refine lv_iload_n hx hb d_Pr_allGotosLead_24 rfl (lv_at hl 1 rfl) ?_
        obtain ⟨hin, hw⟩ := hw
        refine va_iald (f := α 17) hx hb hK hP 17 0 rfl rfl hin d_Pr_allGotosLead_25 ?_
        refine lv_aload_n hx hb d_Pr_allGotosLead_26 rfl (lv_at hl 0 rfl) ?_
        refine va_get (D := D) (ci := 7) (v := .int (σ 28)) (C := R_Pr) (T := T_Pr) (N := 6) hx hb hts i_Pr hown hK hP 12 rfl rfl 5 (by decide) (hts _ tw_199) (fun _ h9 => h9) rfl d_Pr_allGotosLead_27 ?_
        refine lv_icmp_lt (tgt := 35) hx hb d_Pr_allGotosLead_30 (by decide) (fun h => ?_) (fun h => ?_)
        · have hw := hw.1 h
          exact J35 σ α a1 ls H locs (lv_sub hl [0, 1] rfl) hP hD hS hw
        · have hw := hw.2 h
          refine lv_iconst (v := 0) hx hb d_Pr_allGotosLead_33 (by decide) ?_
          exact hret H locs 34 ls (0 : Int32) (σ, α) d_Pr_allGotosLead_34 hP hD hS rfl hw
  unfold wp_Pr_allGotosLead at hw
  have hP : va_P D gCl (xW cI cS cZ ad wc wb kp tp σ α) s.heap := hP
  have hD : va_D A (xW cI cS cZ ad wc wb kp tp σ α) := hD
  obtain ⟨H, hH⟩ : ∃ H, H = s.heap := ⟨_, rfl⟩
  obtain ⟨locs, hlocs⟩ : ∃ locs : List Loc, locs = [] := ⟨_, rfl⟩
  have hP : va_P D gCl (xW cI cS cZ ad wc wb kp tp σ α) H := by rw [hH]; exact hP
  have hS : va_S A s.heap H locs := by rw [hH, hlocs]; exact hS
  suffices K : W p l e rm_Pr_allGotosLead s m ([.ref (ad 12)] : List Value).toArray below meth c H locs 0 0 Q (F0 m 0 ls []) by rw [hH, hlocs] at K; exact K
  clear hH hlocs
  refine lv_iconst (v := 0) hx hb d_Pr_allGotosLead_0 (by decide) ?_
  refine lv_istore_n hx hb d_Pr_allGotosLead_1 rfl hl (by decide) rfl (fun ls hl => ?_)
  have hl : lv_has ls 2 [(1, .int (0 : Int32)), (0, .ref (ad 12))] := hl
  exact L2 σ α (0 : Int32) ls H locs (lv_sub hl [1, 0] rfl) hP hD hS hw
abbrev rm_Pl_forget : Room := { frames := 1, cells := 0, slots := 0, locals := 23 }
set_option maxHeartbeats 4000000 in
set_option maxRecDepth 100000 in
theorem c_Pl_forget (l : Launch) (D : va_G) (cI cS cZ : ClassId) (ad : Nat → Nat) (wc wb : Nat) (kp tp : Nat → Nat) (σ : Nat → Int32) (α : Nat → Nat → Int32) (post : gS → Prop) (hw : wp_Pl_forget σ α post) : gMv l y_Pl_forget b_Pl_forget 1 rm_Pl_forget D (gT cI cS cZ) (fun u : gS => xW cI cS cZ ad wc wb kp tp u.1 u.2) [.ref (tp 0)] (σ, α) post := by
  refine gMv.of (by decide) (Nat.le_of_ble_eq_true rfl) ?_
  intro p e s m below meth c Q A hx hb hml hown hts hK hN hA hS hP hD hret ls hl
  have hl : lv_has ls 1 [(0, .ref (tp 0))] := hl
  unfold wp_Pl_forget at hw
  have hP : va_P D gCl (xW cI cS cZ ad wc wb kp tp σ α) s.heap := hP
  have hD : va_D A (xW cI cS cZ ad wc wb kp tp σ α) := hD
  obtain ⟨H, hH⟩ : ∃ H, H = s.heap := ⟨_, rfl⟩
  obtain ⟨locs, hlocs⟩ : ∃ locs : List Loc, locs = [] := ⟨_, rfl⟩
  have hP : va_P D gCl (xW cI cS cZ ad wc wb kp tp σ α) H := by rw [hH]; exact hP
  have hS : va_S A s.heap H locs := by rw [hH, hlocs]; exact hS
  suffices K : W p l e rm_Pl_forget s m ([.ref (tp 0)] : List Value).toArray below meth c H locs 0 0 Q (F0 m 0 ls []) by rw [hH, hlocs] at K; exact K
  clear hH hlocs
  refine lv_aload_n hx hb d_Pl_forget_0 rfl (lv_at hl 0 rfl) ?_
  refine va_get (D := D) (ci := 8) (v := .ref (tp 1)) (C := R_Pl) (T := T_Pl) (N := 9) hx hb hts i_Pl hown hK hP 24 rfl rfl 0 (by decide) (hts _ tw_223) (fun _ h9 => h9) rfl d_Pl_forget_1 ?_
  refine lv_iconst (v := (-1)) hx hb d_Pl_forget_4 (by decide) ?_
  refine gFill (n := 64) (f := α 25) (v := (-1 : Int32)) (rest := []) hx hb hml hown hts hK hN hA hS hP hD 25 rfl (by decide) (va_cwS 2 hts (gGS tw_220 tw_221 tw_10 tw_222) rfl rfl rfl ⟨by decide, by decide, by decide +kernel⟩ ⟨Nat.le_of_ble_eq_true rfl, Nat.le_of_ble_eq_true rfl⟩) hl.1 (Nat.le_of_ble_eq_true rfl) d_Pl_forget_5 (fun H locs hP hD hS => ?_)
  rw [xW_s25] at hP hD
  have hP : va_P D gCl (xW cI cS cZ ad wc wb kp tp σ (va_up α 25 (gfill 64 (-1 : Int32) (α 25)))) H := hP
  have hD : va_D A (xW cI cS cZ ad wc wb kp tp σ (va_up α 25 (gfill 64 (-1 : Int32) (α 25)))) := hD
  refine lv_aload_n hx hb d_Pl_forget_8 rfl (lv_at hl 0 rfl) ?_
  refine va_get (D := D) (ci := 8) (v := .ref (tp 2)) (C := R_Pl) (T := T_Pl) (N := 9) hx hb hts i_Pl hown hK hP 24 rfl rfl 1 (by decide) (hts _ tw_225) (fun _ h9 => h9) rfl d_Pl_forget_9 ?_
  refine lv_iconst (v := (-1)) hx hb d_Pl_forget_12 (by decide) ?_
  refine gFill (n := 32) (f := α 26) (v := (-1 : Int32)) (rest := []) hx hb hml hown hts hK hN hA hS hP hD 26 rfl (by decide) (va_cwS 2 hts (gGS tw_220 tw_221 tw_10 tw_222) rfl rfl rfl ⟨by decide, by decide, by decide +kernel⟩ ⟨Nat.le_of_ble_eq_true rfl, Nat.le_of_ble_eq_true rfl⟩) hl.1 (Nat.le_of_ble_eq_true rfl) d_Pl_forget_13 (fun H locs hP hD hS => ?_)
  rw [xW_s26] at hP hD
  have hP : va_P D gCl (xW cI cS cZ ad wc wb kp tp σ (va_up (va_up α 25 (gfill 64 (-1 : Int32) (α 25))) 26 (gfill 32 (-1 : Int32) (α 26)))) H := hP
  have hD : va_D A (xW cI cS cZ ad wc wb kp tp σ (va_up (va_up α 25 (gfill 64 (-1 : Int32) (α 25))) 26 (gfill 32 (-1 : Int32) (α 26)))) := hD
  refine lv_aload_n hx hb d_Pl_forget_16 rfl (lv_at hl 0 rfl) ?_
  refine va_get (D := D) (ci := 8) (v := .ref (tp 3)) (C := R_Pl) (T := T_Pl) (N := 9) hx hb hts i_Pl hown hK hP 24 rfl rfl 2 (by decide) (hts _ tw_226) (fun _ h9 => h9) rfl d_Pl_forget_17 ?_
  refine lv_iconst (v := (-1)) hx hb d_Pl_forget_20 (by decide) ?_
  refine gFill (n := 16) (f := α 27) (v := (-1 : Int32)) (rest := []) hx hb hml hown hts hK hN hA hS hP hD 27 rfl (by decide) (va_cwS 2 hts (gGS tw_220 tw_221 tw_10 tw_222) rfl rfl rfl ⟨by decide, by decide, by decide +kernel⟩ ⟨Nat.le_of_ble_eq_true rfl, Nat.le_of_ble_eq_true rfl⟩) hl.1 (Nat.le_of_ble_eq_true rfl) d_Pl_forget_21 (fun H locs hP hD hS => ?_)
  rw [xW_s27] at hP hD
  have hP : va_P D gCl (xW cI cS cZ ad wc wb kp tp σ (va_up (va_up (va_up α 25 (gfill 64 (-1 : Int32) (α 25))) 26 (gfill 32 (-1 : Int32) (α 26))) 27 (gfill 16 (-1 : Int32) (α 27)))) H := hP
  have hD : va_D A (xW cI cS cZ ad wc wb kp tp σ (va_up (va_up (va_up α 25 (gfill 64 (-1 : Int32) (α 25))) 26 (gfill 32 (-1 : Int32) (α 26))) 27 (gfill 16 (-1 : Int32) (α 27)))) := hD
  refine lv_aload_n hx hb d_Pl_forget_24 rfl (lv_at hl 0 rfl) ?_
  refine va_get (D := D) (ci := 8) (v := .ref (tp 4)) (C := R_Pl) (T := T_Pl) (N := 9) hx hb hts i_Pl hown hK hP 24 rfl rfl 3 (by decide) (hts _ tw_228) (fun _ h9 => h9) rfl d_Pl_forget_25 ?_
  refine lv_iconst (v := (-1)) hx hb d_Pl_forget_28 (by decide) ?_
  refine gFill (n := 12) (f := α 28) (v := (-1 : Int32)) (rest := []) hx hb hml hown hts hK hN hA hS hP hD 28 rfl (by decide) (va_cwS 2 hts (gGS tw_220 tw_221 tw_10 tw_222) rfl rfl rfl ⟨by decide, by decide, by decide +kernel⟩ ⟨Nat.le_of_ble_eq_true rfl, Nat.le_of_ble_eq_true rfl⟩) hl.1 (Nat.le_of_ble_eq_true rfl) d_Pl_forget_29 (fun H locs hP hD hS => ?_)
  rw [xW_s28] at hP hD
  have hP : va_P D gCl (xW cI cS cZ ad wc wb kp tp σ (va_up (va_up (va_up (va_up α 25 (gfill 64 (-1 : Int32) (α 25))) 26 (gfill 32 (-1 : Int32) (α 26))) 27 (gfill 16 (-1 : Int32) (α 27))) 28 (gfill 12 (-1 : Int32) (α 28)))) H := hP
  have hD : va_D A (xW cI cS cZ ad wc wb kp tp σ (va_up (va_up (va_up (va_up α 25 (gfill 64 (-1 : Int32) (α 25))) 26 (gfill 32 (-1 : Int32) (α 26))) 27 (gfill 16 (-1 : Int32) (α 27))) 28 (gfill 12 (-1 : Int32) (α 28)))) := hD
  refine lv_aload_n hx hb d_Pl_forget_32 rfl (lv_at hl 0 rfl) ?_
  refine va_get (D := D) (ci := 8) (v := .ref (tp 5)) (C := R_Pl) (T := T_Pl) (N := 9) hx hb hts i_Pl hown hK hP 24 rfl rfl 4 (by decide) (hts _ tw_230) (fun _ h9 => h9) rfl d_Pl_forget_33 ?_
  refine lv_iconst (v := (-1)) hx hb d_Pl_forget_36 (by decide) ?_
  refine gFill (n := 12) (f := α 29) (v := (-1 : Int32)) (rest := []) hx hb hml hown hts hK hN hA hS hP hD 29 rfl (by decide) (va_cwS 2 hts (gGS tw_220 tw_221 tw_10 tw_222) rfl rfl rfl ⟨by decide, by decide, by decide +kernel⟩ ⟨Nat.le_of_ble_eq_true rfl, Nat.le_of_ble_eq_true rfl⟩) hl.1 (Nat.le_of_ble_eq_true rfl) d_Pl_forget_37 (fun H locs hP hD hS => ?_)
  rw [xW_s29] at hP hD
  have hP : va_P D gCl (xW cI cS cZ ad wc wb kp tp σ (va_up (va_up (va_up (va_up (va_up α 25 (gfill 64 (-1 : Int32) (α 25))) 26 (gfill 32 (-1 : Int32) (α 26))) 27 (gfill 16 (-1 : Int32) (α 27))) 28 (gfill 12 (-1 : Int32) (α 28))) 29 (gfill 12 (-1 : Int32) (α 29)))) H := hP
  have hD : va_D A (xW cI cS cZ ad wc wb kp tp σ (va_up (va_up (va_up (va_up (va_up α 25 (gfill 64 (-1 : Int32) (α 25))) 26 (gfill 32 (-1 : Int32) (α 26))) 27 (gfill 16 (-1 : Int32) (α 27))) 28 (gfill 12 (-1 : Int32) (α 28))) 29 (gfill 12 (-1 : Int32) (α 29)))) := hD
  refine lv_aload_n hx hb d_Pl_forget_40 rfl (lv_at hl 0 rfl) ?_
  refine lv_iconst (v := 0) hx hb d_Pl_forget_41 (by decide) ?_
  refine va_put (D := D) (ci := 8) (v := .int (0 : Int32)) (ty := .int) (C := R_Pl) (T := T_Pl) (N := 9) hx hb hts i_Pl t_Pl o_Pl n_Pl hown hK hP hD hS 24 rfl rfl 5 (by decide) (hts _ tw_231) (fun _ h9 => h9) rfl (by decide +kernel) rfl rfl (Nat.le_of_ble_eq_true rfl) d_Pl_forget_42 (fun H locs hP hD hS => ?_)
  have hP : va_P D gCl (xW cI cS cZ ad wc wb kp tp (va_up σ 33 (0 : Int32)) (va_up (va_up (va_up (va_up (va_up α 25 (gfill 64 (-1 : Int32) (α 25))) 26 (gfill 32 (-1 : Int32) (α 26))) 27 (gfill 16 (-1 : Int32) (α 27))) 28 (gfill 12 (-1 : Int32) (α 28))) 29 (gfill 12 (-1 : Int32) (α 29)))) H := hP
  have hD : va_D A (xW cI cS cZ ad wc wb kp tp (va_up σ 33 (0 : Int32)) (va_up (va_up (va_up (va_up (va_up α 25 (gfill 64 (-1 : Int32) (α 25))) 26 (gfill 32 (-1 : Int32) (α 26))) 27 (gfill 16 (-1 : Int32) (α 27))) 28 (gfill 12 (-1 : Int32) (α 28))) 29 (gfill 12 (-1 : Int32) (α 29)))) := hD
  refine lv_aload_n hx hb d_Pl_forget_45 rfl (lv_at hl 0 rfl) ?_
  refine lv_iconst (v := (-1)) hx hb d_Pl_forget_46 (by decide) ?_
  refine va_put (D := D) (ci := 8) (v := .int (-1 : Int32)) (ty := .int) (C := R_Pl) (T := T_Pl) (N := 9) hx hb hts i_Pl t_Pl o_Pl n_Pl hown hK hP hD hS 24 rfl rfl 6 (by decide) (hts _ tw_232) (fun _ h9 => h9) rfl (by decide +kernel) rfl rfl (Nat.le_of_ble_eq_true rfl) d_Pl_forget_47 (fun H locs hP hD hS => ?_)
  have hP : va_P D gCl (xW cI cS cZ ad wc wb kp tp (va_up (va_up σ 33 (0 : Int32)) 34 (-1 : Int32)) (va_up (va_up (va_up (va_up (va_up α 25 (gfill 64 (-1 : Int32) (α 25))) 26 (gfill 32 (-1 : Int32) (α 26))) 27 (gfill 16 (-1 : Int32) (α 27))) 28 (gfill 12 (-1 : Int32) (α 28))) 29 (gfill 12 (-1 : Int32) (α 29)))) H := hP
  have hD : va_D A (xW cI cS cZ ad wc wb kp tp (va_up (va_up σ 33 (0 : Int32)) 34 (-1 : Int32)) (va_up (va_up (va_up (va_up (va_up α 25 (gfill 64 (-1 : Int32) (α 25))) 26 (gfill 32 (-1 : Int32) (α 26))) 27 (gfill 16 (-1 : Int32) (α 27))) 28 (gfill 12 (-1 : Int32) (α 28))) 29 (gfill 12 (-1 : Int32) (α 29)))) := hD
  refine lv_aload_n hx hb d_Pl_forget_50 rfl (lv_at hl 0 rfl) ?_
  refine lv_iconst (v := 0) hx hb d_Pl_forget_51 (by decide) ?_
  refine va_put (D := D) (ci := 8) (v := .int (0 : Int32)) (ty := .int) (C := R_Pl) (T := T_Pl) (N := 9) hx hb hts i_Pl t_Pl o_Pl n_Pl hown hK hP hD hS 24 rfl rfl 7 (by decide) (hts _ tw_233) (fun _ h9 => h9) rfl (by decide +kernel) rfl rfl (Nat.le_of_ble_eq_true rfl) d_Pl_forget_52 (fun H locs hP hD hS => ?_)
  have hP : va_P D gCl (xW cI cS cZ ad wc wb kp tp (va_up (va_up (va_up σ 33 (0 : Int32)) 34 (-1 : Int32)) 35 (0 : Int32)) (va_up (va_up (va_up (va_up (va_up α 25 (gfill 64 (-1 : Int32) (α 25))) 26 (gfill 32 (-1 : Int32) (α 26))) 27 (gfill 16 (-1 : Int32) (α 27))) 28 (gfill 12 (-1 : Int32) (α 28))) 29 (gfill 12 (-1 : Int32) (α 29)))) H := hP
  have hD : va_D A (xW cI cS cZ ad wc wb kp tp (va_up (va_up (va_up σ 33 (0 : Int32)) 34 (-1 : Int32)) 35 (0 : Int32)) (va_up (va_up (va_up (va_up (va_up α 25 (gfill 64 (-1 : Int32) (α 25))) 26 (gfill 32 (-1 : Int32) (α 26))) 27 (gfill 16 (-1 : Int32) (α 27))) 28 (gfill 12 (-1 : Int32) (α 28))) 29 (gfill 12 (-1 : Int32) (α 29)))) := hD
  refine lv_aload_n hx hb d_Pl_forget_55 rfl (lv_at hl 0 rfl) ?_
  refine lv_iconst (v := 1) hx hb d_Pl_forget_56 (by decide) ?_
  refine va_put (D := D) (ci := 8) (v := .int (1 : Int32)) (ty := .boolean) (C := R_Pl) (T := T_Pl) (N := 9) hx hb hts i_Pl t_Pl o_Pl n_Pl hown hK hP hD hS 24 rfl rfl 8 (by decide) (hts _ tw_235) (fun _ h9 => h9) rfl (by decide +kernel) rfl rfl (Nat.le_of_ble_eq_true rfl) d_Pl_forget_57 (fun H locs hP hD hS => ?_)
  have hP : va_P D gCl (xW cI cS cZ ad wc wb kp tp (va_up (va_up (va_up (va_up σ 33 (0 : Int32)) 34 (-1 : Int32)) 35 (0 : Int32)) 36 (1 : Int32)) (va_up (va_up (va_up (va_up (va_up α 25 (gfill 64 (-1 : Int32) (α 25))) 26 (gfill 32 (-1 : Int32) (α 26))) 27 (gfill 16 (-1 : Int32) (α 27))) 28 (gfill 12 (-1 : Int32) (α 28))) 29 (gfill 12 (-1 : Int32) (α 29)))) H := hP
  have hD : va_D A (xW cI cS cZ ad wc wb kp tp (va_up (va_up (va_up (va_up σ 33 (0 : Int32)) 34 (-1 : Int32)) 35 (0 : Int32)) 36 (1 : Int32)) (va_up (va_up (va_up (va_up (va_up α 25 (gfill 64 (-1 : Int32) (α 25))) 26 (gfill 32 (-1 : Int32) (α 26))) 27 (gfill 16 (-1 : Int32) (α 27))) 28 (gfill 12 (-1 : Int32) (α 28))) 29 (gfill 12 (-1 : Int32) (α 29)))) := hD
  exact hret H locs 60 ls ((va_up (va_up (va_up (va_up σ 33 (0 : Int32)) 34 (-1 : Int32)) 35 (0 : Int32)) 36 (1 : Int32)), (va_up (va_up (va_up (va_up (va_up α 25 (gfill 64 (-1 : Int32) (α 25))) 26 (gfill 32 (-1 : Int32) (α 26))) 27 (gfill 16 (-1 : Int32) (α 27))) 28 (gfill 12 (-1 : Int32) (α 28))) 29 (gfill 12 (-1 : Int32) (α 29)))) d_Pl_forget_60 hP hD hS hw
abbrev rm_Pr_endsWithHalt : Room := { frames := 0, cells := 0, slots := 0, locals := 0 }
set_option maxHeartbeats 4000000 in
set_option maxRecDepth 100000 in
theorem c_Pr_endsWithHalt (l : Launch) (D : va_G) (cI cS cZ : ClassId) (ad : Nat → Nat) (wc wb : Nat) (kp tp : Nat → Nat) (σ : Nat → Int32) (α : Nat → Nat → Int32) (post : Int32 → gS → Prop) (hw : wp_Pr_endsWithHalt σ α post) : gMi l y_Pr_endsWithHalt b_Pr_endsWithHalt 1 .boolean rm_Pr_endsWithHalt D (gT cI cS cZ) (fun u : gS => xW cI cS cZ ad wc wb kp tp u.1 u.2) [.ref (ad 12)] (σ, α) post := by
  refine gMi.of (by decide) (Nat.le_of_ble_eq_true rfl) ?_
  intro p e s m below meth c Q A hx hb hml hown hts hK hN hA hS hP hD hret ls hl
  have hl : lv_has ls 1 [(0, .ref (ad 12))] := hl
  have J28 : ∀ (σ : Nat → Int32) (α : Nat → Nat → Int32) (t0 : Int32) (ls : Array Slot) (H : Heap) (locs : List Loc), lv_has ls 1 [] → va_P D gCl (xW cI cS cZ ad wc wb kp tp σ α) H → va_D A (xW cI cS cZ ad wc wb kp tp σ α) → va_S A s.heap H locs → wp_Pr_endsWithHalt_J28 σ α t0 post → W p l e rm_Pr_endsWithHalt s m ([.ref (ad 12)] : List Value).toArray below meth c H locs 0 0 Q (F0 m 28 ls [.int t0]) := by
    intro σ α t0 ls H locs hl hP hD hS hw
    unfold wp_Pr_endsWithHalt_J28 at hw
    obtain ⟨hn, hw⟩ := hw
    exact hret H locs 28 ls t0 (σ, α) d_Pr_endsWithHalt_28 hP hD hS hn hw
  have J27 : ∀ (σ : Nat → Int32) (α : Nat → Nat → Int32) (ls : Array Slot) (H : Heap) (locs : List Loc), lv_has ls 1 [] → va_P D gCl (xW cI cS cZ ad wc wb kp tp σ α) H → va_D A (xW cI cS cZ ad wc wb kp tp σ α) → va_S A s.heap H locs → wp_Pr_endsWithHalt_J27 σ α post → W p l e rm_Pr_endsWithHalt s m ([.ref (ad 12)] : List Value).toArray below meth c H locs 0 0 Q (F0 m 27 ls []) := by
    intro σ α ls H locs hl hP hD hS hw
    unfold wp_Pr_endsWithHalt_J27 at hw
    refine lv_iconst (v := 0) hx hb d_Pr_endsWithHalt_27 (by decide) ?_
    exact J28 σ α (0 : Int32) ls H locs (lv_sub hl [] rfl) hP hD hS hw
  unfold wp_Pr_endsWithHalt at hw
  have hP : va_P D gCl (xW cI cS cZ ad wc wb kp tp σ α) s.heap := hP
  have hD : va_D A (xW cI cS cZ ad wc wb kp tp σ α) := hD
  obtain ⟨H, hH⟩ : ∃ H, H = s.heap := ⟨_, rfl⟩
  obtain ⟨locs, hlocs⟩ : ∃ locs : List Loc, locs = [] := ⟨_, rfl⟩
  have hP : va_P D gCl (xW cI cS cZ ad wc wb kp tp σ α) H := by rw [hH]; exact hP
  have hS : va_S A s.heap H locs := by rw [hH, hlocs]; exact hS
  suffices K : W p l e rm_Pr_endsWithHalt s m ([.ref (ad 12)] : List Value).toArray below meth c H locs 0 0 Q (F0 m 0 ls []) by rw [hH, hlocs] at K; exact K
  clear hH hlocs
  refine lv_aload_n hx hb d_Pr_endsWithHalt_0 rfl (lv_at hl 0 rfl) ?_
  refine va_get (D := D) (ci := 7) (v := .int (σ 28)) (C := R_Pr) (T := T_Pr) (N := 6) hx hb hts i_Pr hown hK hP 12 rfl rfl 5 (by decide) (hts _ tw_199) (fun _ h9 => h9) rfl d_Pr_endsWithHalt_1 ?_
  refine lv_if_le (tgt := 27) hx hb d_Pr_endsWithHalt_4 (by decide) (fun h => ?_) (fun h => ?_)
  · have hw := hw.1 h
    exact J27 σ α ls H locs (lv_sub hl [] rfl) hP hD hS hw
  · have hw := hw.2 h
    refine lv_aload_n hx hb d_Pr_endsWithHalt_7 rfl (lv_at hl 0 rfl) ?_
    refine va_get (D := D) (ci := 7) (v := .ref (ad 13)) (C := R_Pr) (T := T_Pr) (N := 6) hx hb hts i_Pr hown hK hP 12 rfl rfl 0 (by decide) (hts _ tw_188) (fun _ h9 => h9) rfl d_Pr_endsWithHalt_8 ?_
    refine lv_aload_n hx hb d_Pr_endsWithHalt_11 rfl (lv_at hl 0 rfl) ?_
    refine va_get (D := D) (ci := 7) (v := .int (σ 28)) (C := R_Pr) (T := T_Pr) (N := 6) hx hb hts i_Pr hown hK hP 12 rfl rfl 5 (by decide) (hts _ tw_199) (fun _ h9 => h9) rfl d_Pr_endsWithHalt_12 ?_
    refine lv_iconst (v := 1) hx hb d_Pr_endsWithHalt_15 (by decide) ?_
    refine lv_isub hx hb d_Pr_endsWithHalt_16 ?_
    obtain ⟨hin, hw⟩ := hw
    refine va_iald (f := α 13) hx hb hK hP 13 0 rfl rfl hin d_Pr_endsWithHalt_17 ?_
    refine lv_bipush (v := 6) hx hb d_Pr_endsWithHalt_18 (by decide) ?_
    refine lv_icmp_ne (tgt := 27) hx hb d_Pr_endsWithHalt_20 (by decide) (fun h => ?_) (fun h => ?_)
    · have hw := hw.1 h
      exact J27 σ α ls H locs (lv_sub hl [] rfl) hP hD hS hw
    · have hw := hw.2 h
      refine lv_iconst (v := 1) hx hb d_Pr_endsWithHalt_23 (by decide) ?_
      refine lv_goto (tgt := 28) hx hb d_Pr_endsWithHalt_24 (by decide) ?_
      exact J28 σ α (1 : Int32) ls H locs (lv_sub hl [] rfl) hP hD hS hw
abbrev rm_Pl_isFree : Room := { frames := 0, cells := 0, slots := 0, locals := 0 }
set_option maxHeartbeats 4000000 in
set_option maxRecDepth 100000 in
theorem c_Pl_isFree (l : Launch) (D : va_G) (cI cS cZ : ClassId) (ad : Nat → Nat) (wc wb : Nat) (kp tp : Nat → Nat) (σ : Nat → Int32) (α : Nat → Nat → Int32) (x1 : Int32) (x2 : Int32) (post : Int32 → gS → Prop) (hw : wp_Pl_isFree σ α x1 x2 post) : gMi l y_Pl_isFree b_Pl_isFree 3 .boolean rm_Pl_isFree D (gT cI cS cZ) (fun u : gS => xW cI cS cZ ad wc wb kp tp u.1 u.2) [.ref (tp 0), .int x1, .int x2] (σ, α) post := by
  refine gMi.of (by decide) (Nat.le_of_ble_eq_true rfl) ?_
  intro p e s m below meth c Q A hx hb hml hown hts hK hN hA hS hP hD hret ls hl
  have hl : lv_has ls 3 [(0, .ref (tp 0)), (1, .int x1), (2, .int x2)] := hl
  have J20 : ∀ (σ : Nat → Int32) (α : Nat → Nat → Int32) (t0 : Int32) (ls : Array Slot) (H : Heap) (locs : List Loc), lv_has ls 3 [] → va_P D gCl (xW cI cS cZ ad wc wb kp tp σ α) H → va_D A (xW cI cS cZ ad wc wb kp tp σ α) → va_S A s.heap H locs → wp_Pl_isFree_J20 σ α t0 post → W p l e rm_Pl_isFree s m ([.ref (tp 0), .int x1, .int x2] : List Value).toArray below meth c H locs 0 0 Q (F0 m 20 ls [.int t0]) := by
    intro σ α t0 ls H locs hl hP hD hS hw
    unfold wp_Pl_isFree_J20 at hw
    obtain ⟨hn, hw⟩ := hw
    exact hret H locs 20 ls t0 (σ, α) d_Pl_isFree_20 hP hD hS hn hw
  unfold wp_Pl_isFree at hw
  have hP : va_P D gCl (xW cI cS cZ ad wc wb kp tp σ α) s.heap := hP
  have hD : va_D A (xW cI cS cZ ad wc wb kp tp σ α) := hD
  obtain ⟨H, hH⟩ : ∃ H, H = s.heap := ⟨_, rfl⟩
  obtain ⟨locs, hlocs⟩ : ∃ locs : List Loc, locs = [] := ⟨_, rfl⟩
  have hP : va_P D gCl (xW cI cS cZ ad wc wb kp tp σ α) H := by rw [hH]; exact hP
  have hS : va_S A s.heap H locs := by rw [hH, hlocs]; exact hS
  suffices K : W p l e rm_Pl_isFree s m ([.ref (tp 0), .int x1, .int x2] : List Value).toArray below meth c H locs 0 0 Q (F0 m 0 ls []) by rw [hH, hlocs] at K; exact K
  clear hH hlocs
  refine lv_aload_n hx hb d_Pl_isFree_0 rfl (lv_at hl 0 rfl) ?_
  refine va_get (D := D) (ci := 8) (v := .ref (tp 1)) (C := R_Pl) (T := T_Pl) (N := 9) hx hb hts i_Pl hown hK hP 24 rfl rfl 0 (by decide) (hts _ tw_223) (fun _ h9 => h9) rfl d_Pl_isFree_1 ?_
  refine lv_iload_n hx hb d_Pl_isFree_4 rfl (lv_at hl 1 rfl) ?_
  refine lv_bipush (v := 32) hx hb d_Pl_isFree_5 (by decide) ?_
  refine lv_imul hx hb d_Pl_isFree_7 ?_
  refine lv_iload_n hx hb d_Pl_isFree_8 rfl (lv_at hl 2 rfl) ?_
  refine lv_iadd hx hb d_Pl_isFree_9 ?_
  obtain ⟨hin, hw⟩ := hw
  refine va_iald (f := α 25) hx hb hK hP 25 0 rfl rfl hin d_Pl_isFree_10 ?_
  refine lv_iconst (v := (-1)) hx hb d_Pl_isFree_11 (by decide) ?_
  refine lv_icmp_ne (tgt := 19) hx hb d_Pl_isFree_12 (by decide) (fun h => ?_) (fun h => ?_)
  · have hw := hw.1 h
    refine lv_iconst (v := 0) hx hb d_Pl_isFree_19 (by decide) ?_
    exact J20 σ α (0 : Int32) ls H locs (lv_sub hl [] rfl) hP hD hS hw
  · have hw := hw.2 h
    refine lv_iconst (v := 1) hx hb d_Pl_isFree_15 (by decide) ?_
    refine lv_goto (tgt := 20) hx hb d_Pl_isFree_16 (by decide) ?_
    exact J20 σ α (1 : Int32) ls H locs (lv_sub hl [] rfl) hP hD hS hw
