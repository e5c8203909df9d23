abbrev rm_Md_get : Room := { frames := 1, cells := 0, slots := 0, locals := 21 }
set_option maxHeartbeats 4000000 in
set_option maxRecDepth 100000 in
theorem c_Md_get (l : Launch) (D : va_G) (cI cS cZ : ClassId) (ad : Nat → Nat) (σ : Nat → Int32) (α : Nat → Nat → Int32) (x1 : Int32) (post : Int32 → gS → Prop) (hw : wp_Md_get σ α x1 post) : gMi l y_Md_get b_Md_get 4 .short rm_Md_get D (gT cI cS cZ) (fun u : gS => mW cI cS cZ ad u.1 u.2) [.ref (ad 0), .int x1] (σ, α) post := by
  refine gMi.of (by decide) (Nat.le_of_ble_eq_true rfl) ?_
  intro p e s m below meth c Q A hx hb hml hown hts hK hN hA hS hP hD hret ls hl
  have hl : lv_has ls 4 [(0, .ref (ad 0)), (1, .int x1)] := hl
  have J187 : ∀ (σ : Nat → Int32) (α : Nat → Nat → Int32) (t0 : Int32) (ls : Array Slot) (H : Heap) (locs : List Loc), lv_has ls 4 [] → va_P D gCl (mW cI cS cZ ad σ α) H → va_D A (mW cI cS cZ ad σ α) → va_S A s.heap H locs → wp_Md_get_J187 σ α t0 post → W p l e rm_Md_get s m ([.ref (ad 0), .int x1] : List Value).toArray below meth c H locs 0 0 Q (F0 m 187 ls [.int t0]) := by
    intro σ α t0 ls H locs hl hP hD hS hw
    unfold wp_Md_get_J187 at hw
    obtain ⟨hn, hw⟩ := hw
    exact hret H locs 187 ls t0 (σ, α) d_Md_get_187 hP hD hS hn hw
  have J96 : ∀ (σ : Nat → Int32) (α : Nat → Nat → Int32) (a1 : Int32) (ls : Array Slot) (H : Heap) (locs : List Loc), lv_has ls 4 [(0, .ref (ad 0)), (1, .int a1)] → va_P D gCl (mW cI cS cZ ad σ α) H → va_D A (mW cI cS cZ ad σ α) → va_S A s.heap H locs → wp_Md_get_J96 σ α a1 post → W p l e rm_Md_get s m ([.ref (ad 0), .int x1] : List Value).toArray below meth c H locs 0 0 Q (F0 m 96 ls []) := by
    intro σ α a1 ls H locs hl hP hD hS hw
    unfold wp_Md_get_J96 at hw
    refine lv_aload_n hx hb d_Md_get_96 rfl (lv_at hl 0 rfl) ?_
    refine va_get (D := D) (ci := 9) (v := .ref (ad 2)) (C := R_Md) (T := T_Md) (N := 47) hx hb hts i_Md hown hK hP 0 rfl rfl 1 (by decide) (hts _ tw_535) (fun _ h9 => h9) rfl d_Md_get_97 ?_
    refine lv_bipush (v := 32) hx hb d_Md_get_100 (by decide) ?_
    refine lv_iload_n hx hb d_Md_get_102 rfl (lv_at hl 1 rfl) ?_
    refine lv_iconst (v := 2) hx hb d_Md_get_103 (by decide) ?_
    refine lv_isub hx hb d_Md_get_104 ?_
    refine lv_imul hx hb d_Md_get_105 ?_
    refine lv_aload_n hx hb d_Md_get_106 rfl (lv_at hl 0 rfl) ?_
    refine va_get (D := D) (ci := 9) (v := .int (σ 0)) (C := R_Md) (T := T_Md) (N := 47) hx hb hts i_Md hown hK hP 0 rfl rfl 2 (by decide) (hts _ tw_536) (fun _ h9 => h9) rfl d_Md_get_107 ?_
    refine lv_bipush (v := 32) hx hb d_Md_get_110 (by decide) ?_
    refine lv_irem hx hb d_Md_get_112 (by decide) ?_
    refine lv_iadd hx hb d_Md_get_113 ?_
    obtain ⟨hin, hw⟩ := hw
    refine va_sald (f := α 2) hx hb hK hP 2 1 rfl rfl hin d_Md_get_114 ?_
    obtain ⟨hn, hw⟩ := hw
    exact hret H locs 115 ls (α 2 (((32 : Int32) * (a1 - (2 : Int32))) + ((σ 0) - (σ 0) / (32 : Int32) * (32 : Int32))).toNatClampNeg) (σ, α) d_Md_get_115 hP hD hS hn hw
  unfold wp_Md_get at hw
  have hP : va_P D gCl (mW cI cS cZ ad σ α) s.heap := hP
  have hD : va_D A (mW cI cS cZ ad σ α) := hD
  obtain ⟨H, hH⟩ : ∃ H, H = s.heap := ⟨_, rfl⟩
  obtain ⟨locs, hlocs⟩ : ∃ locs : List Loc, locs = [] := ⟨_, rfl⟩
  have hP : va_P D gCl (mW cI cS cZ ad σ α) H := by rw [hH]; exact hP
  have hS : va_S A s.heap H locs := by rw [hH, hlocs]; exact hS
  suffices K : W p l e rm_Md_get s m ([.ref (ad 0), .int x1] : List Value).toArray below meth c H locs 0 0 Q (F0 m 0 ls []) by rw [hH, hlocs] at K; exact K
  clear hH hlocs
  refine lv_aload_n hx hb d_Md_get_0 rfl (lv_at hl 0 rfl) ?_
  refine va_get (D := D) (ci := 9) (v := .ref (ad 2)) (C := R_Md) (T := T_Md) (N := 47) hx hb hts i_Md hown hK hP 0 rfl rfl 1 (by decide) (hts _ tw_535) (fun _ h9 => h9) rfl d_Md_get_1 ?_
  refine lv_sipush (v := 128) hx hb d_Md_get_4 (by decide) ?_
  refine va_sald (f := α 2) hx hb hK hP 2 1 rfl rfl (show vp_in (128 : Int32) 132 by unfold vp_in; decide) d_Md_get_7 ?_
  refine lv_istore_n hx hb d_Md_get_8 rfl hl (by decide) rfl (fun ls hl => ?_)
  have hl : lv_has ls 4 [(2, .int (α 2 (128 : Int32).toNatClampNeg)), (0, .ref (ad 0)), (1, .int x1)] := hl
  refine lv_aload_n hx hb d_Md_get_9 rfl (lv_at hl 1 rfl) ?_
  refine va_get (D := D) (ci := 9) (v := .ref (ad 2)) (C := R_Md) (T := T_Md) (N := 47) hx hb hts i_Md hown hK hP 0 rfl rfl 1 (by decide) (hts _ tw_535) (fun _ h9 => h9) rfl d_Md_get_10 ?_
  refine lv_sipush (v := 129) hx hb d_Md_get_13 (by decide) ?_
  refine va_sald (f := α 2) hx hb hK hP 2 1 rfl rfl (show vp_in (129 : Int32) 132 by unfold vp_in; decide) d_Md_get_16 ?_
  refine lv_istore_n hx hb d_Md_get_17 rfl hl (by decide) rfl (fun ls hl => ?_)
  have hl : lv_has ls 4 [(3, .int (α 2 (129 : Int32).toNatClampNeg)), (2, .int (α 2 (128 : Int32).toNatClampNeg)), (0, .ref (ad 0)), (1, .int x1)] := hl
  refine lv_iload_n hx hb d_Md_get_18 rfl (lv_at hl 3 rfl) ?_
  have hw := hw
  by_cases h19_0 : x1 = 0
  · have hw := hw.1 h19_0
    refine W.eq (g2 := F0 m 19 ls [.int (0 : Int32)]) (by rw [h19_0]) ?_
    refine lv_tableIn (off := 73) (tgt := 92) hx hb d_Md_get_19 (by decide) (by decide) (by decide) (by decide) ?_
    refine lv_iconst (v := 0) hx hb d_Md_get_92 (by decide) ?_
    exact hret H locs 93 ls (0 : Int32) (σ, α) d_Md_get_93 hP hD hS rfl hw
  by_cases h19_1 : x1 = 1
  · have hw := hw.2.1 h19_1
    refine W.eq (g2 := F0 m 19 ls [.int (1 : Int32)]) (by rw [h19_1]) ?_
    refine lv_tableIn (off := 75) (tgt := 94) hx hb d_Md_get_19 (by decide) (by decide) (by decide) (by decide) ?_
    refine lv_iconst (v := 1) hx hb d_Md_get_94 (by decide) ?_
    exact hret H locs 95 ls (1 : Int32) (σ, α) d_Md_get_95 hP hD hS rfl hw
  by_cases h19_2 : x1 = 2
  · have hw := hw.2.2.1 h19_2
    refine W.eq (g2 := F0 m 19 ls [.int (2 : Int32)]) (by rw [h19_2]) ?_
    refine lv_tableIn (off := 77) (tgt := 96) hx hb d_Md_get_19 (by decide) (by decide) (by decide) (by decide) ?_
    exact J96 σ α x1 ls H locs (lv_sub hl [2, 3] rfl) hP hD hS hw
  by_cases h19_3 : x1 = 3
  · have hw := hw.2.2.2.1 h19_3
    refine W.eq (g2 := F0 m 19 ls [.int (3 : Int32)]) (by rw [h19_3]) ?_
    refine lv_tableIn (off := 77) (tgt := 96) hx hb d_Md_get_19 (by decide) (by decide) (by decide) (by decide) ?_
    exact J96 σ α x1 ls H locs (lv_sub hl [2, 3] rfl) hP hD hS hw
  by_cases h19_4 : x1 = 4
  · have hw := hw.2.2.2.2.1 h19_4
    refine W.eq (g2 := F0 m 19 ls [.int (4 : Int32)]) (by rw [h19_4]) ?_
    refine lv_tableIn (off := 77) (tgt := 96) hx hb d_Md_get_19 (by decide) (by decide) (by decide) (by decide) ?_
    exact J96 σ α x1 ls H locs (lv_sub hl [2, 3] rfl) hP hD hS hw
  by_cases h19_5 : x1 = 5
  · have hw := hw.2.2.2.2.2.1 h19_5
    refine W.eq (g2 := F0 m 19 ls [.int (5 : Int32)]) (by rw [h19_5]) ?_
    refine lv_tableIn (off := 77) (tgt := 96) hx hb d_Md_get_19 (by decide) (by decide) (by decide) (by decide) ?_
    exact J96 σ α x1 ls H locs (lv_sub hl [2, 3] rfl) hP hD hS hw
  by_cases h19_6 : x1 = 6
  · have hw := hw.2.2.2.2.2.2.1 h19_6
    refine W.eq (g2 := F0 m 19 ls [.int (6 : Int32)]) (by rw [h19_6]) ?_
    refine lv_tableIn (off := 97) (tgt := 116) hx hb d_Md_get_19 (by decide) (by decide) (by decide) (by decide) ?_
    refine lv_aload_n hx hb d_Md_get_116 rfl (lv_at hl 2 rfl) ?_
    refine va_get (D := D) (ci := 9) (v := .ref (ad 2)) (C := R_Md) (T := T_Md) (N := 47) hx hb hts i_Md hown hK hP 0 rfl rfl 1 (by decide) (hts _ tw_535) (fun _ h9 => h9) rfl d_Md_get_117 ?_
    refine lv_sipush (v := 128) hx hb d_Md_get_120 (by decide) ?_
    refine va_sald (f := α 2) hx hb hK hP 2 1 rfl rfl (show vp_in (128 : Int32) 132 by unfold vp_in; decide) d_Md_get_123 ?_
    obtain ⟨hn, hw⟩ := hw
    exact hret H locs 124 ls (α 2 (128 : Int32).toNatClampNeg) (σ, α) d_Md_get_124 hP hD hS hn hw
  by_cases h19_7 : x1 = 7
  · have hw := hw.2.2.2.2.2.2.2.1 h19_7
    refine W.eq (g2 := F0 m 19 ls [.int (7 : Int32)]) (by rw [h19_7]) ?_
    refine lv_tableIn (off := 106) (tgt := 125) hx hb d_Md_get_19 (by decide) (by decide) (by decide) (by decide) ?_
    refine lv_aload_n hx hb d_Md_get_125 rfl (lv_at hl 2 rfl) ?_
    refine va_get (D := D) (ci := 9) (v := .ref (ad 2)) (C := R_Md) (T := T_Md) (N := 47) hx hb hts i_Md hown hK hP 0 rfl rfl 1 (by decide) (hts _ tw_535) (fun _ h9 => h9) rfl d_Md_get_126 ?_
    refine lv_sipush (v := 129) hx hb d_Md_get_129 (by decide) ?_
    refine va_sald (f := α 2) hx hb hK hP 2 1 rfl rfl (show vp_in (129 : Int32) 132 by unfold vp_in; decide) d_Md_get_132 ?_
    obtain ⟨hn, hw⟩ := hw
    exact hret H locs 133 ls (α 2 (129 : Int32).toNatClampNeg) (σ, α) d_Md_get_133 hP hD hS hn hw
  by_cases h19_8 : x1 = 8
  · have hw := hw.2.2.2.2.2.2.2.2.1 h19_8
    refine W.eq (g2 := F0 m 19 ls [.int (8 : Int32)]) (by rw [h19_8]) ?_
    refine lv_tableIn (off := 115) (tgt := 134) hx hb d_Md_get_19 (by decide) (by decide) (by decide) (by decide) ?_
    refine lv_aload_n hx hb d_Md_get_134 rfl (lv_at hl 2 rfl) ?_
    refine va_get (D := D) (ci := 9) (v := .ref (ad 2)) (C := R_Md) (T := T_Md) (N := 47) hx hb hts i_Md hown hK hP 0 rfl rfl 1 (by decide) (hts _ tw_535) (fun _ h9 => h9) rfl d_Md_get_135 ?_
    refine lv_sipush (v := 130) hx hb d_Md_get_138 (by decide) ?_
    refine lv_aload_n hx hb d_Md_get_141 rfl (lv_at hl 2 rfl) ?_
    refine va_get (D := D) (ci := 9) (v := .int (σ 0)) (C := R_Md) (T := T_Md) (N := 47) hx hb hts i_Md hown hK hP 0 rfl rfl 2 (by decide) (hts _ tw_536) (fun _ h9 => h9) rfl d_Md_get_142 ?_
    refine lv_iconst (v := 2) hx hb d_Md_get_145 (by decide) ?_
    refine lv_irem hx hb d_Md_get_146 (by decide) ?_
    refine lv_iadd hx hb d_Md_get_147 ?_
    obtain ⟨hin, hw⟩ := hw
    refine va_sald (f := α 2) hx hb hK hP 2 1 rfl rfl hin d_Md_get_148 ?_
    obtain ⟨hn, hw⟩ := hw
    exact hret H locs 149 ls (α 2 ((130 : Int32) + ((σ 0) - (σ 0) / (2 : Int32) * (2 : Int32))).toNatClampNeg) (σ, α) d_Md_get_149 hP hD hS hn hw
  by_cases h19_9 : x1 = 9
  · have hw := hw.2.2.2.2.2.2.2.2.2.1 h19_9
    refine W.eq (g2 := F0 m 19 ls [.int (9 : Int32)]) (by rw [h19_9]) ?_
    refine lv_tableIn (off := 131) (tgt := 150) hx hb d_Md_get_19 (by decide) (by decide) (by decide) (by decide) ?_
    refine lv_iload_n hx hb d_Md_get_150 rfl (lv_at hl 1 rfl) ?_
    refine lv_iload_n hx hb d_Md_get_151 rfl (lv_at hl 0 rfl) ?_
    refine lv_iand hx hb d_Md_get_152 ?_
    refine lv_i2s (v := ((α 2 (128 : Int32).toNatClampNeg) &&& (α 2 (129 : Int32).toNatClampNeg)).toInt16.toInt32) hx hb d_Md_get_153 rfl ?_
    obtain ⟨hn, hw⟩ := hw
    exact hret H locs 154 ls (((α 2 (128 : Int32).toNatClampNeg) &&& (α 2 (129 : Int32).toNatClampNeg)).toInt16.toInt32) (σ, α) d_Md_get_154 hP hD hS hn hw
  by_cases h19_10 : x1 = 10
  · have hw := hw.2.2.2.2.2.2.2.2.2.2.1 h19_10
    refine W.eq (g2 := F0 m 19 ls [.int (10 : Int32)]) (by rw [h19_10]) ?_
    refine lv_tableIn (off := 136) (tgt := 155) hx hb d_Md_get_19 (by decide) (by decide) (by decide) (by decide) ?_
    refine lv_iload_n hx hb d_Md_get_155 rfl (lv_at hl 1 rfl) ?_
    refine lv_iload_n hx hb d_Md_get_156 rfl (lv_at hl 0 rfl) ?_
    refine lv_ixor hx hb d_Md_get_157 ?_
    refine lv_i2s (v := ((α 2 (128 : Int32).toNatClampNeg) ^^^ (α 2 (129 : Int32).toNatClampNeg)).toInt16.toInt32) hx hb d_Md_get_158 rfl ?_
    obtain ⟨hn, hw⟩ := hw
    exact hret H locs 159 ls (((α 2 (128 : Int32).toNatClampNeg) ^^^ (α 2 (129 : Int32).toNatClampNeg)).toInt16.toInt32) (σ, α) d_Md_get_159 hP hD hS hn hw
  by_cases h19_11 : x1 = 11
  · have hw := hw.2.2.2.2.2.2.2.2.2.2.2.1 h19_11
    refine W.eq (g2 := F0 m 19 ls [.int (11 : Int32)]) (by rw [h19_11]) ?_
    refine lv_tableIn (off := 141) (tgt := 160) hx hb d_Md_get_19 (by decide) (by decide) (by decide) (by decide) ?_
    refine lv_iconst (v := (-1)) hx hb d_Md_get_160 (by decide) ?_
    exact hret H locs 161 ls (-1 : Int32) (σ, α) d_Md_get_161 hP hD hS rfl hw
  by_cases h19_12 : x1 = 12
  · have hw := hw.2.2.2.2.2.2.2.2.2.2.2.2.1 h19_12
    refine W.eq (g2 := F0 m 19 ls [.int (12 : Int32)]) (by rw [h19_12]) ?_
    refine lv_tableIn (off := 143) (tgt := 162) hx hb d_Md_get_19 (by decide) (by decide) (by decide) (by decide) ?_
    refine lv_iload_n hx hb d_Md_get_162 rfl (lv_at hl 1 rfl) ?_
    refine lv_iconst (v := 1) hx hb d_Md_get_163 (by decide) ?_
    refine lv_ishr hx hb d_Md_get_164 ?_
    refine lv_i2s (v := ((α 2 (128 : Int32).toNatClampNeg) >>> ((1 : Int32) &&& 31)).toInt16.toInt32) hx hb d_Md_get_165 rfl ?_
    obtain ⟨hn, hw⟩ := hw
    exact hret H locs 166 ls (((α 2 (128 : Int32).toNatClampNeg) >>> ((1 : Int32) &&& 31)).toInt16.toInt32) (σ, α) d_Md_get_166 hP hD hS hn hw
  by_cases h19_13 : x1 = 13
  · have hw := hw.2.2.2.2.2.2.2.2.2.2.2.2.2.1 h19_13
    refine W.eq (g2 := F0 m 19 ls [.int (13 : Int32)]) (by rw [h19_13]) ?_
    refine lv_tableIn (off := 148) (tgt := 167) hx hb d_Md_get_19 (by decide) (by decide) (by decide) (by decide) ?_
    refine lv_aload_n hx hb d_Md_get_167 rfl (lv_at hl 2 rfl) ?_
    refine gCallVi (b := ad 0) (As := []) (rest := []) (c_Md_row l D cI cS cZ ad  σ α _ hw) hx hb hml hown hts hK hN hA hS hP hD (cwV 0 hts (gGV tw_718 tw_720 ts_23 tw_11 tw_721) rfl rfl rfl ⟨rfl, by decide, by decide, by decide +kernel⟩ ⟨Nat.le_of_ble_eq_true rfl, Nat.le_of_ble_eq_true rfl⟩) (va_recv (ci := 9) (q0 := 0) hK hP rfl rfl) rfl hl.1 rfl (Nat.le_of_ble_eq_true rfl) d_Md_get_168 (fun r168 u168 H locs hw hP hD hS => ?_)
    have hP : va_P D gCl (mW cI cS cZ ad u168.1 u168.2) H := hP
    have hD : va_D A (mW cI cS cZ ad u168.1 u168.2) := hD
    refine lv_if_ge (tgt := 178) hx hb d_Md_get_171 (by decide) (fun h => ?_) (fun h => ?_)
    · have hw := hw.1 h
      refine lv_aload_n hx hb d_Md_get_178 rfl (lv_at hl 2 rfl) ?_
      refine va_get (D := D) (ci := 9) (v := .ref (ad 4)) (C := R_Md) (T := T_Md) (N := 47) hx hb hts i_Md hown hK hP 0 rfl rfl 22 (by decide) (hts _ tw_556) (fun _ h9 => h9) rfl d_Md_get_179 ?_
      refine lv_aload_n hx hb d_Md_get_182 rfl (lv_at hl 2 rfl) ?_
      refine gCallVi (b := ad 0) (As := []) (rest := [.ref (ad 4)]) (c_Md_row l D cI cS cZ ad  u168.1 u168.2 _ hw) hx hb hml hown hts hK hN hA hS hP hD (cwV 0 hts (gGV tw_718 tw_720 ts_23 tw_11 tw_721) rfl rfl rfl ⟨rfl, by decide, by decide, by decide +kernel⟩ ⟨Nat.le_of_ble_eq_true rfl, Nat.le_of_ble_eq_true rfl⟩) (va_recv (ci := 9) (q0 := 0) hK hP rfl rfl) rfl hl.1 rfl (Nat.le_of_ble_eq_true rfl) d_Md_get_183 (fun r183 u183 H locs hw hP hD hS => ?_)
      have hP : va_P D gCl (mW cI cS cZ ad u183.1 u183.2) H := hP
      have hD : va_D A (mW cI cS cZ ad u183.1 u183.2) := hD
      obtain ⟨hin, hw⟩ := hw
      refine va_sald (f := u183.2 4) hx hb hK hP 4 1 rfl rfl hin d_Md_get_186 ?_
      exact J187 u183.1 u183.2 (u183.2 4 r183.toNatClampNeg) ls H locs (lv_sub hl [] rfl) hP hD hS hw
    · have hw := hw.2 h
      refine lv_iconst (v := 0) hx hb d_Md_get_174 (by decide) ?_
      refine lv_goto (tgt := 187) hx hb d_Md_get_175 (by decide) ?_
      exact J187 u168.1 u168.2 (0 : Int32) ls H locs (lv_sub hl [] rfl) hP hD hS hw
  by_cases h19_14 : x1 = 14
  · have hw := hw.2.2.2.2.2.2.2.2.2.2.2.2.2.2.1 h19_14
    refine W.eq (g2 := F0 m 19 ls [.int (14 : Int32)]) (by rw [h19_14]) ?_
    refine lv_tableIn (off := 169) (tgt := 188) hx hb d_Md_get_19 (by decide) (by decide) (by decide) (by decide) ?_
    refine lv_iload_n hx hb d_Md_get_188 rfl (lv_at hl 1 rfl) ?_
    refine lv_iconst (v := (-1)) hx hb d_Md_get_189 (by decide) ?_
    refine lv_ixor hx hb d_Md_get_190 ?_
    refine lv_i2s (v := ((α 2 (128 : Int32).toNatClampNeg) ^^^ (-1 : Int32)).toInt16.toInt32) hx hb d_Md_get_191 rfl ?_
    obtain ⟨hn, hw⟩ := hw
    exact hret H locs 192 ls (((α 2 (128 : Int32).toNatClampNeg) ^^^ (-1 : Int32)).toInt16.toInt32) (σ, α) d_Md_get_192 hP hD hS hn hw
  have hw := hw.2.2.2.2.2.2.2.2.2.2.2.2.2.2.2
  have hd : x1.toInt < 0 ∨ 14 < x1.toInt := by
    have a0 := lv_neT h19_0 (show (0 : Int32).toInt = 0 from by decide)
    have a1 := lv_neT h19_1 (show (1 : Int32).toInt = 1 from by decide)
    have a2 := lv_neT h19_2 (show (2 : Int32).toInt = 2 from by decide)
    have a3 := lv_neT h19_3 (show (3 : Int32).toInt = 3 from by decide)
    have a4 := lv_neT h19_4 (show (4 : Int32).toInt = 4 from by decide)
    have a5 := lv_neT h19_5 (show (5 : Int32).toInt = 5 from by decide)
    have a6 := lv_neT h19_6 (show (6 : Int32).toInt = 6 from by decide)
    have a7 := lv_neT h19_7 (show (7 : Int32).toInt = 7 from by decide)
    have a8 := lv_neT h19_8 (show (8 : Int32).toInt = 8 from by decide)
    have a9 := lv_neT h19_9 (show (9 : Int32).toInt = 9 from by decide)
    have a10 := lv_neT h19_10 (show (10 : Int32).toInt = 10 from by decide)
    have a11 := lv_neT h19_11 (show (11 : Int32).toInt = 11 from by decide)
    have a12 := lv_neT h19_12 (show (12 : Int32).toInt = 12 from by decide)
    have a13 := lv_neT h19_13 (show (13 : Int32).toInt = 13 from by decide)
    have a14 := lv_neT h19_14 (show (14 : Int32).toInt = 14 from by decide)
    omega
  have hw := hw hd
  refine lv_tableOut (tgt := 193) hx hb d_Md_get_19 hd (by decide) ?_
  refine lv_aload_n hx hb d_Md_get_193 rfl (lv_at hl 2 rfl) ?_
  refine va_get (D := D) (ci := 9) (v := .int (σ 0)) (C := R_Md) (T := T_Md) (N := 47) hx hb hts i_Md hown hK hP 0 rfl rfl 2 (by decide) (hts _ tw_536) (fun _ h9 => h9) rfl d_Md_get_194 ?_
  refine lv_i2s (v := (σ 0).toInt16.toInt32) hx hb d_Md_get_197 rfl ?_
  obtain ⟨hn, hw⟩ := hw
  exact hret H locs 198 ls ((σ 0).toInt16.toInt32) (σ, α) d_Md_get_198 hP hD hS hn hw
abbrev rm_Md_fail : Room := { frames := 0, cells := 0, slots := 0, locals := 0 }
set_option maxHeartbeats 4000000 in
set_option maxRecDepth 100000 in
theorem c_Md_fail (l : Launch) (D : va_G) (cI cS cZ : ClassId) (ad : Nat → Nat) (σ : Nat → Int32) (α : Nat → Nat → Int32) (x1 : Int32) (post : gS → Prop) (hw : wp_Md_fail σ α x1 post) : gMv l y_Md_fail b_Md_fail 2 rm_Md_fail D (gT cI cS cZ) (fun u : gS => mW cI cS cZ ad u.1 u.2) [.ref (ad 0), .int x1] (σ, α) post := by
  refine gMv.of (by decide) (Nat.le_of_ble_eq_true rfl) ?_
  intro p e s m below meth c Q A hx hb hml hown hts hK hN hA hS hP hD hret ls hl
  have hl : lv_has ls 2 [(0, .ref (ad 0)), (1, .int x1)] := hl
  have J16 : ∀ (σ : Nat → Int32) (α : Nat → Nat → Int32) (t0 : Int32) (ls : Array Slot) (H : Heap) (locs : List Loc), lv_has ls 2 [(0, .ref (ad 0))] → va_P D gCl (mW cI cS cZ ad σ α) H → va_D A (mW cI cS cZ ad σ α) → va_S A s.heap H locs → wp_Md_fail_J16 σ α t0 post → W p l e rm_Md_fail s m ([.ref (ad 0), .int x1] : List Value).toArray below meth c H locs 0 0 Q (F0 m 16 ls [.int t0, .ref (ad 0)]) := by
    intro σ α t0 ls H locs hl hP hD hS hw
    unfold wp_Md_fail_J16 at hw
    refine va_put (D := D) (ci := 9) (v := .int t0) (ty := .int) (C := R_Md) (T := T_Md) (N := 47) hx hb hts i_Md t_Md o_Md n_Md hown hK hP hD hS 0 rfl rfl 4 (by decide) (hts _ tw_538) (fun _ h9 => h9) rfl (by decide +kernel) rfl rfl (Nat.le_of_ble_eq_true rfl) d_Md_fail_16 (fun H locs hP hD hS => ?_)
    have hP : va_P D gCl (mW cI cS cZ ad (va_up σ 2 t0) α) H := hP
    have hD : va_D A (mW cI cS cZ ad (va_up σ 2 t0) α) := hD
    refine lv_aload_n hx hb d_Md_fail_19 rfl (lv_at hl 0 rfl) ?_
    refine lv_iconst (v := 0) hx hb d_Md_fail_20 (by decide) ?_
    refine va_put (D := D) (ci := 9) (v := .int (0 : Int32)) (ty := .boolean) (C := R_Md) (T := T_Md) (N := 47) hx hb hts i_Md t_Md o_Md n_Md hown hK hP hD hS 0 rfl rfl 3 (by decide) (hts _ tw_537) (fun _ h9 => h9) rfl (by decide +kernel) rfl rfl (Nat.le_of_ble_eq_true rfl) d_Md_fail_21 (fun H locs hP hD hS => ?_)
    have hP : va_P D gCl (mW cI cS cZ ad (va_up (va_up σ 1 (0 : Int32)) 2 t0) α) H := hP
    have hD : va_D A (mW cI cS cZ ad (va_up (va_up σ 1 (0 : Int32)) 2 t0) α) := hD
    exact hret H locs 24 ls ((va_up (va_up σ 1 (0 : Int32)) 2 t0), α) d_Md_fail_24 hP hD hS hw
  unfold wp_Md_fail at hw
  have hP : va_P D gCl (mW cI cS cZ ad σ α) s.heap := hP
  have hD : va_D A (mW cI cS cZ ad σ α) := hD
  obtain ⟨H, hH⟩ : ∃ H, H = s.heap := ⟨_, rfl⟩
  obtain ⟨locs, hlocs⟩ : ∃ locs : List Loc, locs = [] := ⟨_, rfl⟩
  have hP : va_P D gCl (mW cI cS cZ ad σ α) H := by rw [hH]; exact hP
  have hS : va_S A s.heap H locs := by rw [hH, hlocs]; exact hS
  suffices K : W p l e rm_Md_fail s m ([.ref (ad 0), .int x1] : List Value).toArray below meth c H locs 0 0 Q (F0 m 0 ls []) by rw [hH, hlocs] at K; exact K
  clear hH hlocs
  refine lv_aload_n hx hb d_Md_fail_0 rfl (lv_at hl 0 rfl) ?_
  refine lv_aload_n hx hb d_Md_fail_1 rfl (lv_at hl 0 rfl) ?_
  refine va_get (D := D) (ci := 9) (v := .int (σ 2)) (C := R_Md) (T := T_Md) (N := 47) hx hb hts i_Md hown hK hP 0 rfl rfl 4 (by decide) (hts _ tw_538) (fun _ h9 => h9) rfl d_Md_fail_2 ?_
  refine lv_if_ne (tgt := 12) hx hb d_Md_fail_5 (by decide) (fun h => ?_) (fun h => ?_)
  · have hw := hw.1 h
    refine lv_aload_n hx hb d_Md_fail_12 rfl (lv_at hl 0 rfl) ?_
    refine va_get (D := D) (ci := 9) (v := .int (σ 2)) (C := R_Md) (T := T_Md) (N := 47) hx hb hts i_Md hown hK hP 0 rfl rfl 4 (by decide) (hts _ tw_538) (fun _ h9 => h9) rfl d_Md_fail_13 ?_
    exact J16 σ α (σ 2) ls H locs (lv_sub hl [0] rfl) hP hD hS hw
  · have hw := hw.2 h
    refine lv_iload_n hx hb d_Md_fail_8 rfl (lv_at hl 1 rfl) ?_
    refine lv_goto (tgt := 16) hx hb d_Md_fail_9 (by decide) ?_
    exact J16 σ α x1 ls H locs (lv_sub hl [0] rfl) hP hD hS hw
abbrev rm_Md_feed : Room := { frames := 1, cells := 0, slots := 0, locals := 21 }
set_option maxHeartbeats 4000000 in
set_option maxRecDepth 100000 in
theorem c_Md_feed (l : Launch) (D : va_G) (cI cS cZ : ClassId) (ad : Nat → Nat) (σ : Nat → Int32) (α : Nat → Nat → Int32) (post : gS → Prop) (hw : wp_Md_feed σ α post) : gMv l y_Md_feed b_Md_feed 2 rm_Md_feed D (gT cI cS cZ) (fun u : gS => mW cI cS cZ ad u.1 u.2) [.ref (ad 0)] (σ, α) post := by
  refine gMv.of (by decide) (Nat.le_of_ble_eq_true rfl) ?_
  intro p e s m below meth c Q A hx hb hml hown hts hK hN hA hS hP hD hret ls hl
  have hl : lv_has ls 2 [(0, .ref (ad 0))] := hl
  have L76 : ∀ (σ : Nat → Int32) (α : Nat → Nat → Int32) (a1 : Int32) (ls : Array Slot) (H : Heap) (locs : List Loc), lv_has ls 2 [(0, .ref (ad 0)), (1, .int a1)] → va_P D gCl (mW cI cS cZ ad σ α) H → va_D A (mW cI cS cZ ad σ α) → va_S A s.heap H locs → wp_Md_feed_L76 σ α a1 post → W p l e rm_Md_feed s m ([.ref (ad 0)] : List Value).toArray below meth c H locs 0 0 Q (F0 m 76 ls []) := by
    intro σ α a1 ls H locs hl hP hD hS hw
    let XL76 : (Nat → Int32) → (Nat → Nat → Int32) → Int32 → Prop := fun σ α a1 => ∀ (ls : Array Slot) (H : Heap) (locs : List Loc), lv_has ls 2 [(0, .ref (ad 0)), (1, .int a1)] → va_P D gCl (mW cI cS cZ ad σ α) H → va_D A (mW cI cS cZ ad σ α) → va_S A s.heap H locs → W p l e rm_Md_feed s m ([.ref (ad 0)] : List Value).toArray below meth c H locs 0 0 Q (F0 m 76 ls [])
    have hX76 : ∀ (σ : Nat → Int32) (α : Nat → Nat → Int32) (a1 : Int32) (ls : Array Slot) (H : Heap) (locs : List Loc), lv_has ls 2 [(0, .ref (ad 0)), (1, .int a1)] → va_P D gCl (mW cI cS cZ ad σ α) H → va_D A (mW cI cS cZ ad σ α) → va_S A s.heap H locs → XL76 σ α a1 → W p l e rm_Md_feed s m ([.ref (ad 0)] : List Value).toArray below meth c H locs 0 0 Q (F0 m 76 ls []) := fun σ α a1 ls H locs hl hP hD hS hw => hw ls H locs hl hP hD hS
    refine hw XL76 ?_ ls H locs hl hP hD hS
    clear hw hl hP hD hS
    intro σ α a1 hw ls H locs hl hP hD hS
    unfold wp_Md_feed_B76 at hw
    refine lv_iload_n hx hb d_Md_feed_76 rfl (lv_at hl 1 rfl) ?_
    refine lv_aload_n hx hb d_Md_feed_77 rfl (lv_at hl 0 rfl) ?_
    refine va_get (D := D) (ci := 9) (v := .int (σ 17)) (C := R_Md) (T := T_Md) (N := 47) hx hb hts i_Md hown hK hP 0 rfl rfl 19 (by decide) (hts _ tw_553) (fun _ h9 => h9) rfl d_Md_feed_78 ?_
    refine lv_icmp_ge (tgt := 105) hx hb d_Md_feed_81 (by decide) (fun h => ?_) (fun h => ?_)
    · have hw := hw.1 h
      refine lv_aload_n hx hb d_Md_feed_105 rfl (lv_at hl 0 rfl) ?_
      refine lv_aload_n hx hb d_Md_feed_106 rfl (lv_at hl 0 rfl) ?_
      refine va_get (D := D) (ci := 9) (v := .int (σ 0)) (C := R_Md) (T := T_Md) (N := 47) hx hb hts i_Md hown hK hP 0 rfl rfl 2 (by decide) (hts _ tw_536) (fun _ h9 => h9) rfl d_Md_feed_107 ?_
      refine va_put (D := D) (ci := 9) (v := .int (σ 0)) (ty := .int) (C := R_Md) (T := T_Md) (N := 47) hx hb hts i_Md t_Md o_Md n_Md hown hK hP hD hS 0 rfl rfl 23 (by decide) (hts _ tw_557) (fun _ h9 => h9) rfl (by decide +kernel) rfl rfl (Nat.le_of_ble_eq_true rfl) d_Md_feed_110 (fun H locs hP hD hS => ?_)
      have hP : va_P D gCl (mW cI cS cZ ad (va_up σ 19 (σ 0)) α) H := hP
      have hD : va_D A (mW cI cS cZ ad (va_up σ 19 (σ 0)) α) := hD
      refine lv_aload_n hx hb d_Md_feed_113 rfl (lv_at hl 0 rfl) ?_
      refine lv_iconst (v := 0) hx hb d_Md_feed_114 (by decide) ?_
      refine va_put (D := D) (ci := 9) (v := .int (0 : Int32)) (ty := .boolean) (C := R_Md) (T := T_Md) (N := 47) hx hb hts i_Md t_Md o_Md n_Md hown hK hP hD hS 0 rfl rfl 24 (by decide) (hts _ tw_558) (fun _ h9 => h9) rfl (by decide +kernel) rfl rfl (Nat.le_of_ble_eq_true rfl) d_Md_feed_115 (fun H locs hP hD hS => ?_)
      have hP : va_P D gCl (mW cI cS cZ ad (va_up (va_up σ 19 (σ 0)) 20 (0 : Int32)) α) H := hP
      have hD : va_D A (mW cI cS cZ ad (va_up (va_up σ 19 (σ 0)) 20 (0 : Int32)) α) := hD
      exact hret H locs 118 ls ((va_up (va_up σ 19 (σ 0)) 20 (0 : Int32)), α) d_Md_feed_118 hP hD hS hw
    · have hw := hw.2 h
      refine lv_aload_n hx hb d_Md_feed_84 rfl (lv_at hl 0 rfl) ?_
      refine va_get (D := D) (ci := 9) (v := .ref (ad 3)) (C := R_Md) (T := T_Md) (N := 47) hx hb hts i_Md hown hK hP 0 rfl rfl 21 (by decide) (hts _ tw_555) (fun _ h9 => h9) rfl d_Md_feed_85 ?_
      refine lv_iload_n hx hb d_Md_feed_88 rfl (lv_at hl 1 rfl) ?_
      refine lv_aload_n hx hb d_Md_feed_89 rfl (lv_at hl 0 rfl) ?_
      refine va_get (D := D) (ci := 9) (v := .ref (ad 3)) (C := R_Md) (T := T_Md) (N := 47) hx hb hts i_Md hown hK hP 0 rfl rfl 21 (by decide) (hts _ tw_555) (fun _ h9 => h9) rfl d_Md_feed_90 ?_
      refine lv_iload_n hx hb d_Md_feed_93 rfl (lv_at hl 1 rfl) ?_
      refine lv_bipush (v := 12) hx hb d_Md_feed_94 (by decide) ?_
      refine lv_iadd hx hb d_Md_feed_96 ?_
      obtain ⟨hin, hw⟩ := hw
      refine va_sald (f := α 3) hx hb hK hP 3 1 rfl rfl hin d_Md_feed_97 ?_
      obtain ⟨hin, hw⟩ := hw
      refine va_sast (f := α 3) (i := a1) (x := α 3 (a1 + (12 : Int32)).toNatClampNeg) hx hb hK hP hD hS 3 1 rfl rfl hin d_Md_feed_98 (fun H locs hP hD hS => ?_)
      rw [mW_s3] at hP hD
      have hP : va_P D gCl (mW cI cS cZ ad σ (va_up α 3 (upd (α 3) a1.toNatClampNeg (vp_nar .short (α 3 (a1 + (12 : Int32)).toNatClampNeg))))) H := hP
      have hD : va_D A (mW cI cS cZ ad σ (va_up α 3 (upd (α 3) a1.toNatClampNeg (vp_nar .short (α 3 (a1 + (12 : Int32)).toNatClampNeg))))) := hD
      refine lv_iinc (k := 1) hx hb d_Md_feed_99 hl rfl rfl (by decide) rfl (fun ls hl => ?_)
      have hl : lv_has ls 2 [(1, .int (a1 + Int32.ofInt 1)), (0, .ref (ad 0))] := hl
      refine lv_goto (tgt := 76) hx hb d_Md_feed_102 (by decide) ?_
      exact hX76 σ (va_up α 3 (upd (α 3) a1.toNatClampNeg (vp_nar .short (α 3 (a1 + (12 : Int32)).toNatClampNeg)))) (a1 + Int32.ofInt 1) ls H locs (lv_sub hl [1, 0] rfl) hP hD hS hw
  have L39 : ∀ (σ : Nat → Int32) (α : Nat → Nat → Int32) (a1 : Int32) (ls : Array Slot) (H : Heap) (locs : List Loc), lv_has ls 2 [(0, .ref (ad 0)), (1, .int a1)] → va_P D gCl (mW cI cS cZ ad σ α) H → va_D A (mW cI cS cZ ad σ α) → va_S A s.heap H locs → wp_Md_feed_L39 σ α a1 post → W p l e rm_Md_feed s m ([.ref (ad 0)] : List Value).toArray below meth c H locs 0 0 Q (F0 m 39 ls []) := by
    intro σ α a1 ls H locs hl hP hD hS hw
    let XL39 : (Nat → Int32) → (Nat → Nat → Int32) → Int32 → Prop := fun σ α a1 => ∀ (ls : Array Slot) (H : Heap) (locs : List Loc), lv_has ls 2 [(0, .ref (ad 0)), (1, .int a1)] → va_P D gCl (mW cI cS cZ ad σ α) H → va_D A (mW cI cS cZ ad σ α) → va_S A s.heap H locs → W p l e rm_Md_feed s m ([.ref (ad 0)] : List Value).toArray below meth c H locs 0 0 Q (F0 m 39 ls [])
    have hX39 : ∀ (σ : Nat → Int32) (α : Nat → Nat → Int32) (a1 : Int32) (ls : Array Slot) (H : Heap) (locs : List Loc), lv_has ls 2 [(0, .ref (ad 0)), (1, .int a1)] → va_P D gCl (mW cI cS cZ ad σ α) H → va_D A (mW cI cS cZ ad σ α) → va_S A s.heap H locs → XL39 σ α a1 → W p l e rm_Md_feed s m ([.ref (ad 0)] : List Value).toArray below meth c H locs 0 0 Q (F0 m 39 ls []) := fun σ α a1 ls H locs hl hP hD hS hw => hw ls H locs hl hP hD hS
    refine hw XL39 ?_ ls H locs hl hP hD hS
    clear hw hl hP hD hS
    intro σ α a1 hw ls H locs hl hP hD hS
    unfold wp_Md_feed_B39 at hw
    refine lv_iload_n hx hb d_Md_feed_39 rfl (lv_at hl 1 rfl) ?_
    refine lv_bipush (v := 12) hx hb d_Md_feed_40 (by decide) ?_
    refine lv_icmp_ge (tgt := 63) hx hb d_Md_feed_42 (by decide) (fun h => ?_) (fun h => ?_)
    · have hw := hw.1 h
      refine lv_aload_n hx hb d_Md_feed_63 rfl (lv_at hl 0 rfl) ?_
      refine lv_dup hx hb d_Md_feed_64 rfl ?_
      refine va_get (D := D) (ci := 9) (v := .int (σ 17)) (C := R_Md) (T := T_Md) (N := 47) hx hb hts i_Md hown hK hP 0 rfl rfl 19 (by decide) (hts _ tw_553) (fun _ h9 => h9) rfl d_Md_feed_65 ?_
      refine lv_bipush (v := 12) hx hb d_Md_feed_68 (by decide) ?_
      refine lv_isub hx hb d_Md_feed_70 ?_
      refine va_put (D := D) (ci := 9) (v := .int ((σ 17) - (12 : Int32))) (ty := .int) (C := R_Md) (T := T_Md) (N := 47) hx hb hts i_Md t_Md o_Md n_Md hown hK hP hD hS 0 rfl rfl 19 (by decide) (hts _ tw_553) (fun _ h9 => h9) rfl (by decide +kernel) rfl rfl (Nat.le_of_ble_eq_true rfl) d_Md_feed_71 (fun H locs hP hD hS => ?_)
      have hP : va_P D gCl (mW cI cS cZ ad (va_up σ 17 ((σ 17) - (12 : Int32))) α) H := hP
      have hD : va_D A (mW cI cS cZ ad (va_up σ 17 ((σ 17) - (12 : Int32))) α) := hD
      refine lv_iconst (v := 0) hx hb d_Md_feed_74 (by decide) ?_
      refine lv_istore_n hx hb d_Md_feed_75 rfl hl (by decide) rfl (fun ls hl => ?_)
      have hl : lv_has ls 2 [(1, .int (0 : Int32)), (0, .ref (ad 0))] := hl
      exact L76 (va_up σ 17 ((σ 17) - (12 : Int32))) α (0 : Int32) ls H locs (lv_sub hl [1, 0] rfl) hP hD hS hw
    · have hw := hw.2 h
      refine lv_aload_n hx hb d_Md_feed_45 rfl (lv_at hl 0 rfl) ?_
      refine va_get (D := D) (ci := 9) (v := .ref (ad 4)) (C := R_Md) (T := T_Md) (N := 47) hx hb hts i_Md hown hK hP 0 rfl rfl 22 (by decide) (hts _ tw_556) (fun _ h9 => h9) rfl d_Md_feed_46 ?_
      refine lv_iload_n hx hb d_Md_feed_49 rfl (lv_at hl 1 rfl) ?_
      refine lv_aload_n hx hb d_Md_feed_50 rfl (lv_at hl 0 rfl) ?_
      refine va_get (D := D) (ci := 9) (v := .ref (ad 3)) (C := R_Md) (T := T_Md) (N := 47) hx hb hts i_Md hown hK hP 0 rfl rfl 21 (by decide) (hts _ tw_555) (fun _ h9 => h9) rfl d_Md_feed_51 ?_
      refine lv_iload_n hx hb d_Md_feed_54 rfl (lv_at hl 1 rfl) ?_
      obtain ⟨hin, hw⟩ := hw
      refine va_sald (f := α 3) hx hb hK hP 3 1 rfl rfl hin d_Md_feed_55 ?_
      obtain ⟨hin, hw⟩ := hw
      refine va_sast (f := α 4) (i := a1) (x := α 3 a1.toNatClampNeg) hx hb hK hP hD hS 4 1 rfl rfl hin d_Md_feed_56 (fun H locs hP hD hS => ?_)
      rw [mW_s4] at hP hD
      have hP : va_P D gCl (mW cI cS cZ ad σ (va_up α 4 (upd (α 4) a1.toNatClampNeg (vp_nar .short (α 3 a1.toNatClampNeg))))) H := hP
      have hD : va_D A (mW cI cS cZ ad σ (va_up α 4 (upd (α 4) a1.toNatClampNeg (vp_nar .short (α 3 a1.toNatClampNeg))))) := hD
      refine lv_iinc (k := 1) hx hb d_Md_feed_57 hl rfl rfl (by decide) rfl (fun ls hl => ?_)
      have hl : lv_has ls 2 [(1, .int (a1 + Int32.ofInt 1)), (0, .ref (ad 0))] := hl
      refine lv_goto (tgt := 39) hx hb d_Md_feed_60 (by decide) ?_
      exact hX39 σ (va_up α 4 (upd (α 4) a1.toNatClampNeg (vp_nar .short (α 3 a1.toNatClampNeg)))) (a1 + Int32.ofInt 1) ls H locs (lv_sub hl [1, 0] rfl) hP hD hS hw
  have J37 : ∀ (σ : Nat → Int32) (α : Nat → Nat → Int32) (ls : Array Slot) (H : Heap) (locs : List Loc), lv_has ls 2 [(0, .ref (ad 0))] → va_P D gCl (mW cI cS cZ ad σ α) H → va_D A (mW cI cS cZ ad σ α) → va_S A s.heap H locs → wp_Md_feed_J37 σ α post → W p l e rm_Md_feed s m ([.ref (ad 0)] : List Value).toArray below meth c H locs 0 0 Q (F0 m 37 ls []) := by
    intro σ α ls H locs hl hP hD hS hw
    unfold wp_Md_feed_J37 at hw
    refine lv_iconst (v := 0) hx hb d_Md_feed_37 (by decide) ?_
    refine lv_istore_n hx hb d_Md_feed_38 rfl hl (by decide) rfl (fun ls hl => ?_)
    have hl : lv_has ls 2 [(1, .int (0 : Int32)), (0, .ref (ad 0))] := hl
    exact L39 σ α (0 : Int32) ls H locs (lv_sub hl [1, 0] rfl) hP hD hS hw
  have J31 : ∀ (σ : Nat → Int32) (α : Nat → Nat → Int32) (ls : Array Slot) (H : Heap) (locs : List Loc), lv_has ls 2 [(0, .ref (ad 0))] → va_P D gCl (mW cI cS cZ ad σ α) H → va_D A (mW cI cS cZ ad σ α) → va_S A s.heap H locs → wp_Md_feed_J31 σ α post → W p l e rm_Md_feed s m ([.ref (ad 0)] : List Value).toArray below meth c H locs 0 0 Q (F0 m 31 ls []) := by
    intro σ α ls H locs hl hP hD hS hw
    unfold wp_Md_feed_J31 at hw
    refine lv_aload_n hx hb d_Md_feed_31 rfl (lv_at hl 0 rfl) ?_
    refine lv_iconst (v := 2) hx hb d_Md_feed_32 (by decide) ?_
    refine gCallVv (b := ad 0) (As := [.int (2 : Int32)]) (rest := []) (c_Md_fail l D cI cS cZ ad  σ α (2 : Int32) _ hw) hx hb hml hown hts hK hN hA hS hP hD (cwV 1 hts (gGV tw_742 tw_744 ts_29 tw_11 tw_745) rfl rfl rfl ⟨rfl, by decide, by decide, by decide +kernel⟩ ⟨Nat.le_of_ble_eq_true rfl, Nat.le_of_ble_eq_true rfl⟩) (va_recv (ci := 9) (q0 := 0) hK hP rfl rfl) rfl hl.1 rfl (Nat.le_of_ble_eq_true rfl) d_Md_feed_33 (fun u33 H locs hw hP hD hS => ?_)
    have hP : va_P D gCl (mW cI cS cZ ad u33.1 u33.2) H := hP
    have hD : va_D A (mW cI cS cZ ad u33.1 u33.2) := hD
    exact hret H locs 36 ls (u33.1, u33.2) d_Md_feed_36 hP hD hS hw
  unfold wp_Md_feed at hw
  have hP : va_P D gCl (mW cI cS cZ ad σ α) s.heap := hP
  have hD : va_D A (mW cI cS cZ ad σ α) := hD
  obtain ⟨H, hH⟩ : ∃ H, H = s.heap := ⟨_, rfl⟩
  obtain ⟨locs, hlocs⟩ : ∃ locs : List Loc, locs = [] := ⟨_, rfl⟩
  have hP : va_P D gCl (mW cI cS cZ ad σ α) H := by rw [hH]; exact hP
  have hS : va_S A s.heap H locs := by rw [hH, hlocs]; exact hS
  suffices K : W p l e rm_Md_feed s m ([.ref (ad 0)] : List Value).toArray below meth c H locs 0 0 Q (F0 m 0 ls []) by rw [hH, hlocs] at K; exact K
  clear hH hlocs
  refine lv_aload_n hx hb d_Md_feed_0 rfl (lv_at hl 0 rfl) ?_
  refine va_get (D := D) (ci := 9) (v := .int (σ 17)) (C := R_Md) (T := T_Md) (N := 47) hx hb hts i_Md hown hK hP 0 rfl rfl 19 (by decide) (hts _ tw_553) (fun _ h9 => h9) rfl d_Md_feed_1 ?_
  refine lv_bipush (v := 12) hx hb d_Md_feed_4 (by decide) ?_
  refine lv_icmp_lt (tgt := 31) hx hb d_Md_feed_6 (by decide) (fun h => ?_) (fun h => ?_)
  · have hw := hw.1 h
    exact J31 σ α ls H locs (lv_sub hl [0] rfl) hP hD hS hw
  · have hw := hw.2 h
    refine lv_aload_n hx hb d_Md_feed_9 rfl (lv_at hl 0 rfl) ?_
    refine va_get (D := D) (ci := 9) (v := .int (σ 19)) (C := R_Md) (T := T_Md) (N := 47) hx hb hts i_Md hown hK hP 0 rfl rfl 23 (by decide) (hts _ tw_557) (fun _ h9 => h9) rfl d_Md_feed_10 ?_
    refine lv_if_lt (tgt := 37) hx hb d_Md_feed_13 (by decide) (fun h => ?_) (fun h => ?_)
    · have hw := hw.1 h
      exact J37 σ α ls H locs (lv_sub hl [0] rfl) hP hD hS hw
    · have hw := hw.2 h
      refine lv_aload_n hx hb d_Md_feed_16 rfl (lv_at hl 0 rfl) ?_
      refine va_get (D := D) (ci := 9) (v := .int (σ 0)) (C := R_Md) (T := T_Md) (N := 47) hx hb hts i_Md hown hK hP 0 rfl rfl 2 (by decide) (hts _ tw_536) (fun _ h9 => h9) rfl d_Md_feed_17 ?_
      refine lv_aload_n hx hb d_Md_feed_20 rfl (lv_at hl 0 rfl) ?_
      refine va_get (D := D) (ci := 9) (v := .int (σ 19)) (C := R_Md) (T := T_Md) (N := 47) hx hb hts i_Md hown hK hP 0 rfl rfl 23 (by decide) (hts _ tw_557) (fun _ h9 => h9) rfl d_Md_feed_21 ?_
      refine lv_sipush (v := 130) hx hb d_Md_feed_24 (by decide) ?_
      refine lv_iadd hx hb d_Md_feed_27 ?_
      refine lv_icmp_gt (tgt := 37) hx hb d_Md_feed_28 (by decide) (fun h => ?_) (fun h => ?_)
      · have hw := hw.1 h
        exact J37 σ α ls H locs (lv_sub hl [0] rfl) hP hD hS hw
      · have hw := hw.2 h
        exact J31 σ α ls H locs (lv_sub hl [0] rfl) hP hD hS hw
abbrev rm_Md_press : Room := { frames := 1, cells := 0, slots := 0, locals := 21 }
set_option maxHeartbeats 4000000 in
set_option maxRecDepth 100000 in
theorem c_Md_press (l : Launch) (D : va_G) (cI cS cZ : ClassId) (ad : Nat → Nat) (σ : Nat → Int32) (α : Nat → Nat → Int32) (x1 : Int32) (post : gS → Prop) (hw : wp_Md_press σ α x1 post) : gMv l y_Md_press b_Md_press 2 rm_Md_press D (gT cI cS cZ) (fun u : gS => mW cI cS cZ ad u.1 u.2) [.ref (ad 0), .int x1] (σ, α) post := by
  refine gMv.of (by decide) (Nat.le_of_ble_eq_true rfl) ?_
  intro p e s m below meth c Q A hx hb hml hown hts hK hN hA hS hP hD hret ls hl
  have hl : lv_has ls 2 [(0, .ref (ad 0)), (1, .int x1)] := hl
  have J23 : ∀ (σ : Nat → Int32) (α : Nat → Nat → Int32) (ls : Array Slot) (H : Heap) (locs : List Loc), lv_has ls 2 [(0, .ref (ad 0))] → va_P D gCl (mW cI cS cZ ad σ α) H → va_D A (mW cI cS cZ ad σ α) → va_S A s.heap H locs → wp_Md_press_J23 σ α post → W p l e rm_Md_press s m ([.ref (ad 0), .int x1] : List Value).toArray below meth c H locs 0 0 Q (F0 m 23 ls []) := by
    intro σ α ls H locs hl hP hD hS hw
    unfold wp_Md_press_J23 at hw
    refine lv_aload_n hx hb d_Md_press_23 rfl (lv_at hl 0 rfl) ?_
    refine lv_iconst (v := 3) hx hb d_Md_press_24 (by decide) ?_
    refine gCallVv (b := ad 0) (As := [.int (3 : Int32)]) (rest := []) (c_Md_fail l D cI cS cZ ad  σ α (3 : Int32) _ hw) hx hb hml hown hts hK hN hA hS hP hD (cwV 1 hts (gGV tw_742 tw_744 ts_29 tw_11 tw_745) rfl rfl rfl ⟨rfl, by decide, by decide, by decide +kernel⟩ ⟨Nat.le_of_ble_eq_true rfl, Nat.le_of_ble_eq_true rfl⟩) (va_recv (ci := 9) (q0 := 0) hK hP rfl rfl) rfl hl.1 rfl (Nat.le_of_ble_eq_true rfl) d_Md_press_25 (fun u25 H locs hw hP hD hS => ?_)
    have hP : va_P D gCl (mW cI cS cZ ad u25.1 u25.2) H := hP
    have hD : va_D A (mW cI cS cZ ad u25.1 u25.2) := hD
    exact hret H locs 28 ls (u25.1, u25.2) d_Md_press_28 hP hD hS hw
  unfold wp_Md_press at hw
  have hP : va_P D gCl (mW cI cS cZ ad σ α) s.heap := hP
  have hD : va_D A (mW cI cS cZ ad σ α) := hD
  obtain ⟨H, hH⟩ : ∃ H, H = s.heap := ⟨_, rfl⟩
  obtain ⟨locs, hlocs⟩ : ∃ locs : List Loc, locs = [] := ⟨_, rfl⟩
  have hP : va_P D gCl (mW cI cS cZ ad σ α) H := by rw [hH]; exact hP
  have hS : va_S A s.heap H locs := by rw [hH, hlocs]; exact hS
  suffices K : W p l e rm_Md_press s m ([.ref (ad 0), .int x1] : List Value).toArray below meth c H locs 0 0 Q (F0 m 0 ls []) by rw [hH, hlocs] at K; exact K
  clear hH hlocs
  refine lv_aload_n hx hb d_Md_press_0 rfl (lv_at hl 0 rfl) ?_
  refine va_get (D := D) (ci := 9) (v := .int (σ 21)) (C := R_Md) (T := T_Md) (N := 47) hx hb hts i_Md hown hK hP 0 rfl rfl 25 (by decide) (hts _ tw_559) (fun _ h9 => h9) rfl d_Md_press_1 ?_
  refine lv_bipush (v := 60) hx hb d_Md_press_4 (by decide) ?_
  refine lv_icmp_eq (tgt := 23) hx hb d_Md_press_6 (by decide) (fun h => ?_) (fun h => ?_)
  · have hw := hw.1 h
    exact J23 σ α ls H locs (lv_sub hl [0] rfl) hP hD hS hw
  · have hw := hw.2 h
    refine lv_aload_n hx hb d_Md_press_9 rfl (lv_at hl 0 rfl) ?_
    refine va_get (D := D) (ci := 9) (v := .int (σ 0)) (C := R_Md) (T := T_Md) (N := 47) hx hb hts i_Md hown hK hP 0 rfl rfl 2 (by decide) (hts _ tw_536) (fun _ h9 => h9) rfl d_Md_press_10 ?_
    refine lv_aload_n hx hb d_Md_press_13 rfl (lv_at hl 0 rfl) ?_
    refine va_get (D := D) (ci := 9) (v := .int (σ 22)) (C := R_Md) (T := T_Md) (N := 47) hx hb hts i_Md hown hK hP 0 rfl rfl 27 (by decide) (hts _ tw_561) (fun _ h9 => h9) rfl d_Md_press_14 ?_
    refine lv_isub hx hb d_Md_press_17 ?_
    refine lv_bipush (v := 6) hx hb d_Md_press_18 (by decide) ?_
    refine lv_icmp_ge (tgt := 29) hx hb d_Md_press_20 (by decide) (fun h => ?_) (fun h => ?_)
    · have hw := hw.1 h
      refine lv_aload_n hx hb d_Md_press_29 rfl (lv_at hl 0 rfl) ?_
      refine va_get (D := D) (ci := 9) (v := .ref (ad 5)) (C := R_Md) (T := T_Md) (N := 47) hx hb hts i_Md hown hK hP 0 rfl rfl 26 (by decide) (hts _ tw_560) (fun _ h9 => h9) rfl d_Md_press_30 ?_
      refine lv_aload_n hx hb d_Md_press_33 rfl (lv_at hl 0 rfl) ?_
      refine va_get (D := D) (ci := 9) (v := .int (σ 21)) (C := R_Md) (T := T_Md) (N := 47) hx hb hts i_Md hown hK hP 0 rfl rfl 25 (by decide) (hts _ tw_559) (fun _ h9 => h9) rfl d_Md_press_34 ?_
      refine lv_iload_n hx hb d_Md_press_37 rfl (lv_at hl 1 rfl) ?_
      obtain ⟨hin, hw⟩ := hw
      refine va_sast (f := α 5) (i := σ 21) (x := x1) hx hb hK hP hD hS 5 1 rfl rfl hin d_Md_press_38 (fun H locs hP hD hS => ?_)
      rw [mW_s5] at hP hD
      have hP : va_P D gCl (mW cI cS cZ ad σ (va_up α 5 (upd (α 5) (σ 21).toNatClampNeg (vp_nar .short x1)))) H := hP
      have hD : va_D A (mW cI cS cZ ad σ (va_up α 5 (upd (α 5) (σ 21).toNatClampNeg (vp_nar .short x1)))) := hD
      refine lv_aload_n hx hb d_Md_press_39 rfl (lv_at hl 0 rfl) ?_
      refine lv_dup hx hb d_Md_press_40 rfl ?_
      refine va_get (D := D) (ci := 9) (v := .int (σ 21)) (C := R_Md) (T := T_Md) (N := 47) hx hb hts i_Md hown hK hP 0 rfl rfl 25 (by decide) (hts _ tw_559) (fun _ h9 => h9) rfl d_Md_press_41 ?_
      refine lv_iconst (v := 1) hx hb d_Md_press_44 (by decide) ?_
      refine lv_iadd hx hb d_Md_press_45 ?_
      refine va_put (D := D) (ci := 9) (v := .int ((σ 21) + (1 : Int32))) (ty := .int) (C := R_Md) (T := T_Md) (N := 47) hx hb hts i_Md t_Md o_Md n_Md hown hK hP hD hS 0 rfl rfl 25 (by decide) (hts _ tw_559) (fun _ h9 => h9) rfl (by decide +kernel) rfl rfl (Nat.le_of_ble_eq_true rfl) d_Md_press_46 (fun H locs hP hD hS => ?_)
      have hP : va_P D gCl (mW cI cS cZ ad (va_up σ 21 ((σ 21) + (1 : Int32))) (va_up α 5 (upd (α 5) (σ 21).toNatClampNeg (vp_nar .short x1)))) H := hP
      have hD : va_D A (mW cI cS cZ ad (va_up σ 21 ((σ 21) + (1 : Int32))) (va_up α 5 (upd (α 5) (σ 21).toNatClampNeg (vp_nar .short x1)))) := hD
      refine lv_aload_n hx hb d_Md_press_49 rfl (lv_at hl 0 rfl) ?_
      refine lv_aload_n hx hb d_Md_press_50 rfl (lv_at hl 0 rfl) ?_
      refine va_get (D := D) (ci := 9) (v := .int (σ 0)) (C := R_Md) (T := T_Md) (N := 47) hx hb hts i_Md hown hK hP 0 rfl rfl 2 (by decide) (hts _ tw_536) (fun _ h9 => h9) rfl d_Md_press_51 ?_
      refine va_put (D := D) (ci := 9) (v := .int (σ 0)) (ty := .int) (C := R_Md) (T := T_Md) (N := 47) hx hb hts i_Md t_Md o_Md n_Md hown hK hP hD hS 0 rfl rfl 27 (by decide) (hts _ tw_561) (fun _ h9 => h9) rfl (by decide +kernel) rfl rfl (Nat.le_of_ble_eq_true rfl) d_Md_press_54 (fun H locs hP hD hS => ?_)
      have hP : va_P D gCl (mW cI cS cZ ad (va_up (va_up σ 21 ((σ 21) + (1 : Int32))) 22 (σ 0)) (va_up α 5 (upd (α 5) (σ 21).toNatClampNeg (vp_nar .short x1)))) H := hP
      have hD : va_D A (mW cI cS cZ ad (va_up (va_up σ 21 ((σ 21) + (1 : Int32))) 22 (σ 0)) (va_up α 5 (upd (α 5) (σ 21).toNatClampNeg (vp_nar .short x1)))) := hD
      exact hret H locs 57 ls ((va_up (va_up σ 21 ((σ 21) + (1 : Int32))) 22 (σ 0)), (va_up α 5 (upd (α 5) (σ 21).toNatClampNeg (vp_nar .short x1)))) d_Md_press_57 hP hD hS hw
    · have hw := hw.2 h
      exact J23 σ α ls H locs (lv_sub hl [0] rfl) hP hD hS hw
abbrev rm_Md_discriminate : Room := { frames := 0, cells := 0, slots := 0, locals := 0 }
set_option maxHeartbeats 4000000 in
set_option maxRecDepth 100000 in
theorem c_Md_discriminate (l : Launch) (D : va_G) (cI cS cZ : ClassId) (ad : Nat → Nat) (σ : Nat → Int32) (α : Nat → Nat → Int32) (x1 : Int32) (post : gS → Prop) (hw : wp_Md_discriminate σ α x1 post) : gMv l y_Md_discriminate b_Md_discriminate 2 rm_Md_discriminate D (gT cI cS cZ) (fun u : gS => mW cI cS cZ ad u.1 u.2) [.ref (ad 0), .int x1] (σ, α) post := by
  refine gMv.of (by decide) (Nat.le_of_ble_eq_true rfl) ?_
  intro p e s m below meth c Q A hx hb hml hown hts hK hN hA hS hP hD hret ls hl
  have hl : lv_has ls 2 [(0, .ref (ad 0)), (1, .int x1)] := hl
  have J22 : ∀ (σ : Nat → Int32) (α : Nat → Nat → Int32) (ls : Array Slot) (H : Heap) (locs : List Loc), lv_has ls 2 [] → va_P D gCl (mW cI cS cZ ad σ α) H → va_D A (mW cI cS cZ ad σ α) → va_S A s.heap H locs → wp_Md_discriminate_J22 σ α post → W p l e rm_Md_discriminate s m ([.ref (ad 0), .int x1] : List Value).toArray below meth c H locs 0 0 Q (F0 m 22 ls []) := by
    intro σ α ls H locs hl hP hD hS hw
    unfold wp_Md_discriminate_J22 at hw
    exact hret H locs 22 ls (σ, α) d_Md_discriminate_22 hP hD hS hw
  unfold wp_Md_discriminate at hw
  have hP : va_P D gCl (mW cI cS cZ ad σ α) s.heap := hP
  have hD : va_D A (mW cI cS cZ ad σ α) := hD
  obtain ⟨H, hH⟩ : ∃ H, H = s.heap := ⟨_, rfl⟩
  obtain ⟨locs, hlocs⟩ : ∃ locs : List Loc, locs = [] := ⟨_, rfl⟩
  have hP : va_P D gCl (mW cI cS cZ ad σ α) H := by rw [hH]; exact hP
  have hS : va_S A s.heap H locs := by rw [hH, hlocs]; exact hS
  suffices K : W p l e rm_Md_discriminate s m ([.ref (ad 0), .int x1] : List Value).toArray below meth c H locs 0 0 Q (F0 m 0 ls []) by rw [hH, hlocs] at K; exact K
  clear hH hlocs
  refine lv_iload_n hx hb d_Md_discriminate_0 rfl (lv_at hl 1 rfl) ?_
  refine lv_if_eq (tgt := 22) hx hb d_Md_discriminate_1 (by decide) (fun h => ?_) (fun h => ?_)
  · have hw := hw.1 h
    exact J22 σ α ls H locs (lv_sub hl [] rfl) hP hD hS hw
  · have hw := hw.2 h
    refine lv_aload_n hx hb d_Md_discriminate_4 rfl (lv_at hl 0 rfl) ?_
    refine va_get (D := D) (ci := 9) (v := .int (σ 14)) (C := R_Md) (T := T_Md) (N := 47) hx hb hts i_Md hown hK hP 0 rfl rfl 16 (by decide) (hts _ tw_550) (fun _ h9 => h9) rfl d_Md_discriminate_5 ?_
    refine lv_if_ne (tgt := 22) hx hb d_Md_discriminate_8 (by decide) (fun h => ?_) (fun h => ?_)
    · have hw := hw.1 h
      exact J22 σ α ls H locs (lv_sub hl [] rfl) hP hD hS hw
    · have hw := hw.2 h
      refine lv_aload_n hx hb d_Md_discriminate_11 rfl (lv_at hl 0 rfl) ?_
      refine va_get (D := D) (ci := 9) (v := .int (σ 3)) (C := R_Md) (T := T_Md) (N := 47) hx hb hts i_Md hown hK hP 0 rfl rfl 5 (by decide) (hts _ tw_539) (fun _ h9 => h9) rfl d_Md_discriminate_12 ?_
      refine lv_aload_n hx hb d_Md_discriminate_15 rfl (lv_at hl 0 rfl) ?_
      refine va_get (D := D) (ci := 9) (v := .int (σ 0)) (C := R_Md) (T := T_Md) (N := 47) hx hb hts i_Md hown hK hP 0 rfl rfl 2 (by decide) (hts _ tw_536) (fun _ h9 => h9) rfl d_Md_discriminate_16 ?_
      refine lv_icmp_gt (tgt := 23) hx hb d_Md_discriminate_19 (by decide) (fun h => ?_) (fun h => ?_)
      · have hw := hw.1 h
        refine lv_aload_n hx hb d_Md_discriminate_23 rfl (lv_at hl 0 rfl) ?_
        refine lv_iconst (v := 1) hx hb d_Md_discriminate_24 (by decide) ?_
        refine va_put (D := D) (ci := 9) (v := .int (1 : Int32)) (ty := .boolean) (C := R_Md) (T := T_Md) (N := 47) hx hb hts i_Md t_Md o_Md n_Md hown hK hP hD hS 0 rfl rfl 16 (by decide) (hts _ tw_550) (fun _ h9 => h9) rfl (by decide +kernel) rfl rfl (Nat.le_of_ble_eq_true rfl) d_Md_discriminate_25 (fun H locs hP hD hS => ?_)
        have hP : va_P D gCl (mW cI cS cZ ad (va_up σ 14 (1 : Int32)) α) H := hP
        have hD : va_D A (mW cI cS cZ ad (va_up σ 14 (1 : Int32)) α) := hD
        refine lv_aload_n hx hb d_Md_discriminate_28 rfl (lv_at hl 0 rfl) ?_
        refine lv_dup hx hb d_Md_discriminate_29 rfl ?_
        refine va_get (D := D) (ci := 9) (v := .int (σ 3)) (C := R_Md) (T := T_Md) (N := 47) hx hb hts i_Md hown hK hP 0 rfl rfl 5 (by decide) (hts _ tw_539) (fun _ h9 => h9) rfl d_Md_discriminate_30 ?_
        refine lv_iconst (v := 1) hx hb d_Md_discriminate_33 (by decide) ?_
        refine lv_iadd hx hb d_Md_discriminate_34 ?_
        refine va_put (D := D) (ci := 9) (v := .int ((σ 3) + (1 : Int32))) (ty := .int) (C := R_Md) (T := T_Md) (N := 47) hx hb hts i_Md t_Md o_Md n_Md hown hK hP hD hS 0 rfl rfl 5 (by decide) (hts _ tw_539) (fun _ h9 => h9) rfl (by decide +kernel) rfl rfl (Nat.le_of_ble_eq_true rfl) d_Md_discriminate_35 (fun H locs hP hD hS => ?_)
        have hP : va_P D gCl (mW cI cS cZ ad (va_up (va_up σ 3 ((σ 3) + (1 : Int32))) 14 (1 : Int32)) α) H := hP
        have hD : va_D A (mW cI cS cZ ad (va_up (va_up σ 3 ((σ 3) + (1 : Int32))) 14 (1 : Int32)) α) := hD
        exact hret H locs 38 ls ((va_up (va_up σ 3 ((σ 3) + (1 : Int32))) 14 (1 : Int32)), α) d_Md_discriminate_38 hP hD hS hw
      · have hw := hw.2 h
        exact J22 σ α ls H locs (lv_sub hl [] rfl) hP hD hS hw
abbrev rm_Md_put : Room := { frames := 2, cells := 0, slots := 0, locals := 42 }
set_option maxHeartbeats 4000000 in
set_option maxRecDepth 100000 in
theorem c_Md_put (l : Launch) (D : va_G) (cI cS cZ : ClassId) (ad : Nat → Nat) (σ : Nat → Int32) (α : Nat → Nat → Int32) (x1 : Int32) (x2 : Int32) (post : gS → Prop) (hw : wp_Md_put σ α x1 x2 post) : gMv l y_Md_put b_Md_put 3 rm_Md_put D (gT cI cS cZ) (fun u : gS => mW cI cS cZ ad u.1 u.2) [.ref (ad 0), .int x1, .int x2] (σ, α) post := by
  refine gMv.of (by decide) (Nat.le_of_ble_eq_true rfl) ?_
  intro p e s m below meth c Q A hx hb hml hown hts hK hN hA hS hP hD hret ls hl
  have hl : lv_has ls 3 [(0, .ref (ad 0)), (1, .int x1), (2, .int x2)] := hl
  have J265 : ∀ (σ : Nat → Int32) (α : Nat → Nat → Int32) (ls : Array Slot) (H : Heap) (locs : List Loc), lv_has ls 3 [] → va_P D gCl (mW cI cS cZ ad σ α) H → va_D A (mW cI cS cZ ad σ α) → va_S A s.heap H locs → wp_Md_put_J265 σ α post → W p l e rm_Md_put s m ([.ref (ad 0), .int x1, .int x2] : List Value).toArray below meth c H locs 0 0 Q (F0 m 265 ls []) := by
    intro σ α ls H locs hl hP hD hS hw
    unfold wp_Md_put_J265 at hw
    exact hret H locs 265 ls (σ, α) d_Md_put_265 hP hD hS hw
  have J215 : ∀ (σ : Nat → Int32) (α : Nat → Nat → Int32) (t0 : Int32) (ls : Array Slot) (H : Heap) (locs : List Loc), lv_has ls 3 [] → va_P D gCl (mW cI cS cZ ad σ α) H → va_D A (mW cI cS cZ ad σ α) → va_S A s.heap H locs → wp_Md_put_J215 σ α t0 post → W p l e rm_Md_put s m ([.ref (ad 0), .int x1, .int x2] : List Value).toArray below meth c H locs 0 0 Q (F0 m 215 ls [.int t0, .ref (ad 0)]) := by
    intro σ α t0 ls H locs hl hP hD hS hw
    unfold wp_Md_put_J215 at hw
    refine gCallVv (b := ad 0) (As := [.int t0]) (rest := []) (c_Md_discriminate l D cI cS cZ ad  σ α t0 _ hw) hx hb hml hown hts hK hN hA hS hP hD (cwV 1 hts (gGV tw_734 tw_736 ts_27 tw_11 tw_737) rfl rfl rfl ⟨rfl, by decide, by decide, by decide +kernel⟩ ⟨Nat.le_of_ble_eq_true rfl, Nat.le_of_ble_eq_true rfl⟩) (va_recv (ci := 9) (q0 := 0) hK hP rfl rfl) rfl hl.1 rfl (Nat.le_of_ble_eq_true rfl) d_Md_put_215 (fun u215 H locs hw hP hD hS => ?_)
    have hP : va_P D gCl (mW cI cS cZ ad u215.1 u215.2) H := hP
    have hD : va_D A (mW cI cS cZ ad u215.1 u215.2) := hD
    refine lv_goto (tgt := 265) hx hb d_Md_put_218 (by decide) ?_
    exact J265 u215.1 u215.2 ls H locs (lv_sub hl [] rfl) hP hD hS hw
  have J187 : ∀ (σ : Nat → Int32) (α : Nat → Nat → Int32) (a1 : Int32) (a2 : Int32) (ls : Array Slot) (H : Heap) (locs : List Loc), lv_has ls 3 [(0, .ref (ad 0)), (1, .int a1), (2, .int a2)] → va_P D gCl (mW cI cS cZ ad σ α) H → va_D A (mW cI cS cZ ad σ α) → va_S A s.heap H locs → wp_Md_put_J187 σ α a1 a2 post → W p l e rm_Md_put s m ([.ref (ad 0), .int x1, .int x2] : List Value).toArray below meth c H locs 0 0 Q (F0 m 187 ls []) := by
    intro σ α a1 a2 ls H locs hl hP hD hS hw
    unfold wp_Md_put_J187 at hw
    refine lv_aload_n hx hb d_Md_put_187 rfl (lv_at hl 0 rfl) ?_
    refine lv_iload_n hx hb d_Md_put_188 rfl (lv_at hl 1 rfl) ?_
    refine lv_bipush (v := 11) hx hb d_Md_put_189 (by decide) ?_
    refine lv_icmp_ne (tgt := 206) hx hb d_Md_put_191 (by decide) (fun h => ?_) (fun h => ?_)
    · have hw := hw.1 h
      refine lv_iload_n hx hb d_Md_put_206 rfl (lv_at hl 2 rfl) ?_
      refine lv_if_eq (tgt := 214) hx hb d_Md_put_207 (by decide) (fun h => ?_) (fun h => ?_)
      · have hw := hw.1 h
        refine lv_iconst (v := 0) hx hb d_Md_put_214 (by decide) ?_
        exact J215 σ α (0 : Int32) ls H locs (lv_sub hl [] rfl) hP hD hS hw
      · have hw := hw.2 h
        refine lv_iconst (v := 1) hx hb d_Md_put_210 (by decide) ?_
        refine lv_goto (tgt := 215) hx hb d_Md_put_211 (by decide) ?_
        exact J215 σ α (1 : Int32) ls H locs (lv_sub hl [] rfl) hP hD hS hw
    · have hw := hw.2 h
      refine lv_iload_n hx hb d_Md_put_194 rfl (lv_at hl 2 rfl) ?_
      refine lv_if_ge (tgt := 202) hx hb d_Md_put_195 (by decide) (fun h => ?_) (fun h => ?_)
      · have hw := hw.1 h
        refine lv_iconst (v := 0) hx hb d_Md_put_202 (by decide) ?_
        refine lv_goto (tgt := 215) hx hb d_Md_put_203 (by decide) ?_
        exact J215 σ α (0 : Int32) ls H locs (lv_sub hl [] rfl) hP hD hS hw
      · have hw := hw.2 h
        refine lv_iconst (v := 1) hx hb d_Md_put_198 (by decide) ?_
        refine lv_goto (tgt := 215) hx hb d_Md_put_199 (by decide) ?_
        exact J215 σ α (1 : Int32) ls H locs (lv_sub hl [] rfl) hP hD hS hw
  have J182 : ∀ (σ : Nat → Int32) (α : Nat → Nat → Int32) (t0 : Int32) (t1 : Int32) (ls : Array Slot) (H : Heap) (locs : List Loc), lv_has ls 3 [] → va_P D gCl (mW cI cS cZ ad σ α) H → va_D A (mW cI cS cZ ad σ α) → va_S A s.heap H locs → wp_Md_put_J182 σ α t0 t1 post → W p l e rm_Md_put s m ([.ref (ad 0), .int x1, .int x2] : List Value).toArray below meth c H locs 0 0 Q (F0 m 182 ls [.int t0, .int t1, .ref (ad 2)]) := by
    intro σ α t0 t1 ls H locs hl hP hD hS hw
    unfold wp_Md_put_J182 at hw
    refine lv_i2s (v := t0.toInt16.toInt32) hx hb d_Md_put_182 rfl ?_
    obtain ⟨hin, hw⟩ := hw
    refine va_sast (f := α 2) (i := t1) (x := t0.toInt16.toInt32) hx hb hK hP hD hS 2 1 rfl rfl hin d_Md_put_183 (fun H locs hP hD hS => ?_)
    rw [mW_s2] at hP hD
    have hP : va_P D gCl (mW cI cS cZ ad σ (va_up α 2 (upd (α 2) t1.toNatClampNeg (vp_nar .short t0.toInt16.toInt32)))) H := hP
    have hD : va_D A (mW cI cS cZ ad σ (va_up α 2 (upd (α 2) t1.toNatClampNeg (vp_nar .short t0.toInt16.toInt32)))) := hD
    refine lv_goto (tgt := 265) hx hb d_Md_put_184 (by decide) ?_
    exact J265 σ (va_up α 2 (upd (α 2) t1.toNatClampNeg (vp_nar .short t0.toInt16.toInt32))) ls H locs (lv_sub hl [] rfl) hP hD hS hw
  have J146 : ∀ (σ : Nat → Int32) (α : Nat → Nat → Int32) (a1 : Int32) (a2 : Int32) (ls : Array Slot) (H : Heap) (locs : List Loc), lv_has ls 3 [(0, .ref (ad 0)), (1, .int a1), (2, .int a2)] → va_P D gCl (mW cI cS cZ ad σ α) H → va_D A (mW cI cS cZ ad σ α) → va_S A s.heap H locs → wp_Md_put_J146 σ α a1 a2 post → W p l e rm_Md_put s m ([.ref (ad 0), .int x1, .int x2] : List Value).toArray below meth c H locs 0 0 Q (F0 m 146 ls []) := by
    intro σ α a1 a2 ls H locs hl hP hD hS hw
    unfold wp_Md_put_J146 at hw
    refine lv_aload_n hx hb d_Md_put_146 rfl (lv_at hl 0 rfl) ?_
    refine va_get (D := D) (ci := 9) (v := .ref (ad 2)) (C := R_Md) (T := T_Md) (N := 47) hx hb hts i_Md hown hK hP 0 rfl rfl 1 (by decide) (hts _ tw_535) (fun _ h9 => h9) rfl d_Md_put_147 ?_
    refine lv_sipush (v := 128) hx hb d_Md_put_150 (by decide) ?_
    refine lv_iload_n hx hb d_Md_put_153 rfl (lv_at hl 1 rfl) ?_
    refine lv_bipush (v := 9) hx hb d_Md_put_154 (by decide) ?_
    refine lv_icmp_ne (tgt := 172) hx hb d_Md_put_156 (by decide) (fun h => ?_) (fun h => ?_)
    · have hw := hw.1 h
      refine lv_aload_n hx hb d_Md_put_172 rfl (lv_at hl 0 rfl) ?_
      refine va_get (D := D) (ci := 9) (v := .ref (ad 2)) (C := R_Md) (T := T_Md) (N := 47) hx hb hts i_Md hown hK hP 0 rfl rfl 1 (by decide) (hts _ tw_535) (fun _ h9 => h9) rfl d_Md_put_173 ?_
      refine lv_sipush (v := 128) hx hb d_Md_put_176 (by decide) ?_
      refine va_sald (f := α 2) hx hb hK hP 2 1 rfl rfl (show vp_in (128 : Int32) 132 by unfold vp_in; decide) d_Md_put_179 ?_
      refine lv_iload_n hx hb d_Md_put_180 rfl (lv_at hl 2 rfl) ?_
      refine lv_isub hx hb d_Md_put_181 ?_
      exact J182 σ α ((α 2 (128 : Int32).toNatClampNeg) - a2) (128 : Int32) ls H locs (lv_sub hl [] rfl) hP hD hS hw
    · have hw := hw.2 h
      refine lv_aload_n hx hb d_Md_put_159 rfl (lv_at hl 0 rfl) ?_
      refine va_get (D := D) (ci := 9) (v := .ref (ad 2)) (C := R_Md) (T := T_Md) (N := 47) hx hb hts i_Md hown hK hP 0 rfl rfl 1 (by decide) (hts _ tw_535) (fun _ h9 => h9) rfl d_Md_put_160 ?_
      refine lv_sipush (v := 128) hx hb d_Md_put_163 (by decide) ?_
      refine va_sald (f := α 2) hx hb hK hP 2 1 rfl rfl (show vp_in (128 : Int32) 132 by unfold vp_in; decide) d_Md_put_166 ?_
      refine lv_iload_n hx hb d_Md_put_167 rfl (lv_at hl 2 rfl) ?_
      refine lv_iadd hx hb d_Md_put_168 ?_
      refine lv_goto (tgt := 182) hx hb d_Md_put_169 (by decide) ?_
      exact J182 σ α ((α 2 (128 : Int32).toNatClampNeg) + a2) (128 : Int32) ls H locs (lv_sub hl [] rfl) hP hD hS hw
  have J110 : ∀ (σ : Nat → Int32) (α : Nat → Nat → Int32) (a1 : Int32) (a2 : Int32) (ls : Array Slot) (H : Heap) (locs : List Loc), lv_has ls 3 [(0, .ref (ad 0)), (1, .int a1), (2, .int a2)] → va_P D gCl (mW cI cS cZ ad σ α) H → va_D A (mW cI cS cZ ad σ α) → va_S A s.heap H locs → wp_Md_put_J110 σ α a1 a2 post → W p l e rm_Md_put s m ([.ref (ad 0), .int x1, .int x2] : List Value).toArray below meth c H locs 0 0 Q (F0 m 110 ls []) := by
    intro σ α a1 a2 ls H locs hl hP hD hS hw
    unfold wp_Md_put_J110 at hw
    refine lv_aload_n hx hb d_Md_put_110 rfl (lv_at hl 0 rfl) ?_
    refine va_get (D := D) (ci := 9) (v := .ref (ad 2)) (C := R_Md) (T := T_Md) (N := 47) hx hb hts i_Md hown hK hP 0 rfl rfl 1 (by decide) (hts _ tw_535) (fun _ h9 => h9) rfl d_Md_put_111 ?_
    refine lv_sipush (v := 128) hx hb d_Md_put_114 (by decide) ?_
    refine lv_iload_n hx hb d_Md_put_117 rfl (lv_at hl 1 rfl) ?_
    refine lv_iadd hx hb d_Md_put_118 ?_
    refine lv_bipush (v := 6) hx hb d_Md_put_119 (by decide) ?_
    refine lv_isub hx hb d_Md_put_121 ?_
    refine lv_iload_n hx hb d_Md_put_122 rfl (lv_at hl 2 rfl) ?_
    obtain ⟨hin, hw⟩ := hw
    refine va_sast (f := α 2) (i := ((128 : Int32) + a1) - (6 : Int32)) (x := a2) hx hb hK hP hD hS 2 1 rfl rfl hin d_Md_put_123 (fun H locs hP hD hS => ?_)
    rw [mW_s2] at hP hD
    have hP : va_P D gCl (mW cI cS cZ ad σ (va_up α 2 (upd (α 2) (((128 : Int32) + a1) - (6 : Int32)).toNatClampNeg (vp_nar .short a2)))) H := hP
    have hD : va_D A (mW cI cS cZ ad σ (va_up α 2 (upd (α 2) (((128 : Int32) + a1) - (6 : Int32)).toNatClampNeg (vp_nar .short a2)))) := hD
    refine lv_goto (tgt := 265) hx hb d_Md_put_124 (by decide) ?_
    exact J265 σ (va_up α 2 (upd (α 2) (((128 : Int32) + a1) - (6 : Int32)).toNatClampNeg (vp_nar .short a2))) ls H locs (lv_sub hl [] rfl) hP hD hS hw
  have J87 : ∀ (σ : Nat → Int32) (α : Nat → Nat → Int32) (a1 : Int32) (a2 : Int32) (ls : Array Slot) (H : Heap) (locs : List Loc), lv_has ls 3 [(0, .ref (ad 0)), (1, .int a1), (2, .int a2)] → va_P D gCl (mW cI cS cZ ad σ α) H → va_D A (mW cI cS cZ ad σ α) → va_S A s.heap H locs → wp_Md_put_J87 σ α a1 a2 post → W p l e rm_Md_put s m ([.ref (ad 0), .int x1, .int x2] : List Value).toArray below meth c H locs 0 0 Q (F0 m 87 ls []) := by
    intro σ α a1 a2 ls H locs hl hP hD hS hw
    unfold wp_Md_put_J87 at hw
    refine lv_aload_n hx hb d_Md_put_87 rfl (lv_at hl 0 rfl) ?_
    refine va_get (D := D) (ci := 9) (v := .ref (ad 2)) (C := R_Md) (T := T_Md) (N := 47) hx hb hts i_Md hown hK hP 0 rfl rfl 1 (by decide) (hts _ tw_535) (fun _ h9 => h9) rfl d_Md_put_88 ?_
    refine lv_bipush (v := 32) hx hb d_Md_put_91 (by decide) ?_
    refine lv_iload_n hx hb d_Md_put_93 rfl (lv_at hl 1 rfl) ?_
    refine lv_iconst (v := 2) hx hb d_Md_put_94 (by decide) ?_
    refine lv_isub hx hb d_Md_put_95 ?_
    refine lv_imul hx hb d_Md_put_96 ?_
    refine lv_aload_n hx hb d_Md_put_97 rfl (lv_at hl 0 rfl) ?_
    refine va_get (D := D) (ci := 9) (v := .int (σ 0)) (C := R_Md) (T := T_Md) (N := 47) hx hb hts i_Md hown hK hP 0 rfl rfl 2 (by decide) (hts _ tw_536) (fun _ h9 => h9) rfl d_Md_put_98 ?_
    refine lv_bipush (v := 32) hx hb d_Md_put_101 (by decide) ?_
    refine lv_irem hx hb d_Md_put_103 (by decide) ?_
    refine lv_iadd hx hb d_Md_put_104 ?_
    refine lv_iload_n hx hb d_Md_put_105 rfl (lv_at hl 2 rfl) ?_
    obtain ⟨hin, hw⟩ := hw
    refine va_sast (f := α 2) (i := ((32 : Int32) * (a1 - (2 : Int32))) + ((σ 0) - (σ 0) / (32 : Int32) * (32 : Int32))) (x := a2) hx hb hK hP hD hS 2 1 rfl rfl hin d_Md_put_106 (fun H locs hP hD hS => ?_)
    rw [mW_s2] at hP hD
    have hP : va_P D gCl (mW cI cS cZ ad σ (va_up α 2 (upd (α 2) (((32 : Int32) * (a1 - (2 : Int32))) + ((σ 0) - (σ 0) / (32 : Int32) * (32 : Int32))).toNatClampNeg (vp_nar .short a2)))) H := hP
    have hD : va_D A (mW cI cS cZ ad σ (va_up α 2 (upd (α 2) (((32 : Int32) * (a1 - (2 : Int32))) + ((σ 0) - (σ 0) / (32 : Int32) * (32 : Int32))).toNatClampNeg (vp_nar .short a2)))) := hD
    refine lv_goto (tgt := 265) hx hb d_Md_put_107 (by decide) ?_
    exact J265 σ (va_up α 2 (upd (α 2) (((32 : Int32) * (a1 - (2 : Int32))) + ((σ 0) - (σ 0) / (32 : Int32) * (32 : Int32))).toNatClampNeg (vp_nar .short a2))) ls H locs (lv_sub hl [] rfl) hP hD hS hw
  unfold wp_Md_put at hw
  have hP : va_P D gCl (mW cI cS cZ ad σ α) s.heap := hP
  have hD : va_D A (mW cI cS cZ ad σ α) := hD
  obtain ⟨H, hH⟩ : ∃ H, H = s.heap := ⟨_, rfl⟩
  obtain ⟨locs, hlocs⟩ : ∃ locs : List Loc, locs = [] := ⟨_, rfl⟩
  have hP : va_P D gCl (mW cI cS cZ ad σ α) H := by rw [hH]; exact hP
  have hS : va_S A s.heap H locs := by rw [hH, hlocs]; exact hS
  suffices K : W p l e rm_Md_put s m ([.ref (ad 0), .int x1, .int x2] : List Value).toArray below meth c H locs 0 0 Q (F0 m 0 ls []) by rw [hH, hlocs] at K; exact K
  clear hH hlocs
  refine lv_iload_n hx hb d_Md_put_0 rfl (lv_at hl 1 rfl) ?_
  have hw := hw
  by_cases h1_0 : x1 = 0
  · have hw := hw.1 h1_0
    refine W.eq (g2 := F0 m 1 ls [.int (0 : Int32)]) (by rw [h1_0]) ?_
    refine lv_tableIn (off := 75) (tgt := 76) hx hb d_Md_put_1 (by decide) (by decide) (by decide) (by decide) ?_
    refine lv_goto (tgt := 265) hx hb d_Md_put_76 (by decide) ?_
    exact J265 σ α ls H locs (lv_sub hl [] rfl) hP hD hS hw
  by_cases h1_1 : x1 = 1
  · have hw := hw.2.1 h1_1
    refine W.eq (g2 := F0 m 1 ls [.int (1 : Int32)]) (by rw [h1_1]) ?_
    refine lv_tableIn (off := 78) (tgt := 79) hx hb d_Md_put_1 (by decide) (by decide) (by decide) (by decide) ?_
    refine lv_aload_n hx hb d_Md_put_79 rfl (lv_at hl 0 rfl) ?_
    refine lv_iconst (v := 0) hx hb d_Md_put_80 (by decide) ?_
    refine va_put (D := D) (ci := 9) (v := .int (0 : Int32)) (ty := .boolean) (C := R_Md) (T := T_Md) (N := 47) hx hb hts i_Md t_Md o_Md n_Md hown hK hP hD hS 0 rfl rfl 3 (by decide) (hts _ tw_537) (fun _ h9 => h9) rfl (by decide +kernel) rfl rfl (Nat.le_of_ble_eq_true rfl) d_Md_put_81 (fun H locs hP hD hS => ?_)
    have hP : va_P D gCl (mW cI cS cZ ad (va_up σ 1 (0 : Int32)) α) H := hP
    have hD : va_D A (mW cI cS cZ ad (va_up σ 1 (0 : Int32)) α) := hD
    refine lv_goto (tgt := 265) hx hb d_Md_put_84 (by decide) ?_
    exact J265 (va_up σ 1 (0 : Int32)) α ls H locs (lv_sub hl [] rfl) hP hD hS hw
  by_cases h1_2 : x1 = 2
  · have hw := hw.2.2.1 h1_2
    refine W.eq (g2 := F0 m 1 ls [.int (2 : Int32)]) (by rw [h1_2]) ?_
    refine lv_tableIn (off := 86) (tgt := 87) hx hb d_Md_put_1 (by decide) (by decide) (by decide) (by decide) ?_
    exact J87 σ α x1 x2 ls H locs (lv_sub hl [0, 1, 2] rfl) hP hD hS hw
  by_cases h1_3 : x1 = 3
  · have hw := hw.2.2.2.1 h1_3
    refine W.eq (g2 := F0 m 1 ls [.int (3 : Int32)]) (by rw [h1_3]) ?_
    refine lv_tableIn (off := 86) (tgt := 87) hx hb d_Md_put_1 (by decide) (by decide) (by decide) (by decide) ?_
    exact J87 σ α x1 x2 ls H locs (lv_sub hl [0, 1, 2] rfl) hP hD hS hw
  by_cases h1_4 : x1 = 4
  · have hw := hw.2.2.2.2.1 h1_4
    refine W.eq (g2 := F0 m 1 ls [.int (4 : Int32)]) (by rw [h1_4]) ?_
    refine lv_tableIn (off := 86) (tgt := 87) hx hb d_Md_put_1 (by decide) (by decide) (by decide) (by decide) ?_
    exact J87 σ α x1 x2 ls H locs (lv_sub hl [0, 1, 2] rfl) hP hD hS hw
  by_cases h1_5 : x1 = 5
  · have hw := hw.2.2.2.2.2.1 h1_5
    refine W.eq (g2 := F0 m 1 ls [.int (5 : Int32)]) (by rw [h1_5]) ?_
    refine lv_tableIn (off := 86) (tgt := 87) hx hb d_Md_put_1 (by decide) (by decide) (by decide) (by decide) ?_
    exact J87 σ α x1 x2 ls H locs (lv_sub hl [0, 1, 2] rfl) hP hD hS hw
  by_cases h1_6 : x1 = 6
  · have hw := hw.2.2.2.2.2.2.1 h1_6
    refine W.eq (g2 := F0 m 1 ls [.int (6 : Int32)]) (by rw [h1_6]) ?_
    refine lv_tableIn (off := 109) (tgt := 110) hx hb d_Md_put_1 (by decide) (by decide) (by decide) (by decide) ?_
    exact J110 σ α x1 x2 ls H locs (lv_sub hl [0, 1, 2] rfl) hP hD hS hw
  by_cases h1_7 : x1 = 7
  · have hw := hw.2.2.2.2.2.2.2.1 h1_7
    refine W.eq (g2 := F0 m 1 ls [.int (7 : Int32)]) (by rw [h1_7]) ?_
    refine lv_tableIn (off := 109) (tgt := 110) hx hb d_Md_put_1 (by decide) (by decide) (by decide) (by decide) ?_
    exact J110 σ α x1 x2 ls H locs (lv_sub hl [0, 1, 2] rfl) hP hD hS hw
  by_cases h1_8 : x1 = 8
  · have hw := hw.2.2.2.2.2.2.2.2.1 h1_8
    refine W.eq (g2 := F0 m 1 ls [.int (8 : Int32)]) (by rw [h1_8]) ?_
    refine lv_tableIn (off := 126) (tgt := 127) hx hb d_Md_put_1 (by decide) (by decide) (by decide) (by decide) ?_
    refine lv_aload_n hx hb d_Md_put_127 rfl (lv_at hl 0 rfl) ?_
    refine va_get (D := D) (ci := 9) (v := .ref (ad 2)) (C := R_Md) (T := T_Md) (N := 47) hx hb hts i_Md hown hK hP 0 rfl rfl 1 (by decide) (hts _ tw_535) (fun _ h9 => h9) rfl d_Md_put_128 ?_
    refine lv_sipush (v := 130) hx hb d_Md_put_131 (by decide) ?_
    refine lv_aload_n hx hb d_Md_put_134 rfl (lv_at hl 0 rfl) ?_
    refine va_get (D := D) (ci := 9) (v := .int (σ 0)) (C := R_Md) (T := T_Md) (N := 47) hx hb hts i_Md hown hK hP 0 rfl rfl 2 (by decide) (hts _ tw_536) (fun _ h9 => h9) rfl d_Md_put_135 ?_
    refine lv_iconst (v := 2) hx hb d_Md_put_138 (by decide) ?_
    refine lv_irem hx hb d_Md_put_139 (by decide) ?_
    refine lv_iadd hx hb d_Md_put_140 ?_
    refine lv_iload_n hx hb d_Md_put_141 rfl (lv_at hl 2 rfl) ?_
    obtain ⟨hin, hw⟩ := hw
    refine va_sast (f := α 2) (i := (130 : Int32) + ((σ 0) - (σ 0) / (2 : Int32) * (2 : Int32))) (x := x2) hx hb hK hP hD hS 2 1 rfl rfl hin d_Md_put_142 (fun H locs hP hD hS => ?_)
    rw [mW_s2] at hP hD
    have hP : va_P D gCl (mW cI cS cZ ad σ (va_up α 2 (upd (α 2) ((130 : Int32) + ((σ 0) - (σ 0) / (2 : Int32) * (2 : Int32))).toNatClampNeg (vp_nar .short x2)))) H := hP
    have hD : va_D A (mW cI cS cZ ad σ (va_up α 2 (upd (α 2) ((130 : Int32) + ((σ 0) - (σ 0) / (2 : Int32) * (2 : Int32))).toNatClampNeg (vp_nar .short x2)))) := hD
    refine lv_goto (tgt := 265) hx hb d_Md_put_143 (by decide) ?_
    exact J265 σ (va_up α 2 (upd (α 2) ((130 : Int32) + ((σ 0) - (σ 0) / (2 : Int32) * (2 : Int32))).toNatClampNeg (vp_nar .short x2))) ls H locs (lv_sub hl [] rfl) hP hD hS hw
  by_cases h1_9 : x1 = 9
  · have hw := hw.2.2.2.2.2.2.2.2.2.1 h1_9
    refine W.eq (g2 := F0 m 1 ls [.int (9 : Int32)]) (by rw [h1_9]) ?_
    refine lv_tableIn (off := 145) (tgt := 146) hx hb d_Md_put_1 (by decide) (by decide) (by decide) (by decide) ?_
    exact J146 σ α x1 x2 ls H locs (lv_sub hl [0, 1, 2] rfl) hP hD hS hw
  by_cases h1_10 : x1 = 10
  · have hw := hw.2.2.2.2.2.2.2.2.2.2.1 h1_10
    refine W.eq (g2 := F0 m 1 ls [.int (10 : Int32)]) (by rw [h1_10]) ?_
    refine lv_tableIn (off := 145) (tgt := 146) hx hb d_Md_put_1 (by decide) (by decide) (by decide) (by decide) ?_
    exact J146 σ α x1 x2 ls H locs (lv_sub hl [0, 1, 2] rfl) hP hD hS hw
  by_cases h1_11 : x1 = 11
  · have hw := hw.2.2.2.2.2.2.2.2.2.2.2.1 h1_11
    refine W.eq (g2 := F0 m 1 ls [.int (11 : Int32)]) (by rw [h1_11]) ?_
    refine lv_tableIn (off := 186) (tgt := 187) hx hb d_Md_put_1 (by decide) (by decide) (by decide) (by decide) ?_
    exact J187 σ α x1 x2 ls H locs (lv_sub hl [0, 1, 2] rfl) hP hD hS hw
  by_cases h1_12 : x1 = 12
  · have hw := hw.2.2.2.2.2.2.2.2.2.2.2.2.1 h1_12
    refine W.eq (g2 := F0 m 1 ls [.int (12 : Int32)]) (by rw [h1_12]) ?_
    refine lv_tableIn (off := 186) (tgt := 187) hx hb d_Md_put_1 (by decide) (by decide) (by decide) (by decide) ?_
    exact J187 σ α x1 x2 ls H locs (lv_sub hl [0, 1, 2] rfl) hP hD hS hw
  by_cases h1_13 : x1 = 13
  · have hw := hw.2.2.2.2.2.2.2.2.2.2.2.2.2.1 h1_13
    refine W.eq (g2 := F0 m 1 ls [.int (13 : Int32)]) (by rw [h1_13]) ?_
    refine lv_tableIn (off := 220) (tgt := 221) hx hb d_Md_put_1 (by decide) (by decide) (by decide) (by decide) ?_
    refine lv_aload_n hx hb d_Md_put_221 rfl (lv_at hl 0 rfl) ?_
    refine lv_bipush (v := 17) hx hb d_Md_put_222 (by decide) ?_
    refine va_put (D := D) (ci := 9) (v := .int (17 : Int32)) (ty := .int) (C := R_Md) (T := T_Md) (N := 47) hx hb hts i_Md t_Md o_Md n_Md hown hK hP hD hS 0 rfl rfl 17 (by decide) (hts _ tw_551) (fun _ h9 => h9) rfl (by decide +kernel) rfl rfl (Nat.le_of_ble_eq_true rfl) d_Md_put_224 (fun H locs hP hD hS => ?_)
    have hP : va_P D gCl (mW cI cS cZ ad (va_up σ 15 (17 : Int32)) α) H := hP
    have hD : va_D A (mW cI cS cZ ad (va_up σ 15 (17 : Int32)) α) := hD
    refine lv_aload_n hx hb d_Md_put_227 rfl (lv_at hl 0 rfl) ?_
    refine lv_iload_n hx hb d_Md_put_228 rfl (lv_at hl 2 rfl) ?_
    refine va_put (D := D) (ci := 9) (v := .int x2) (ty := .int) (C := R_Md) (T := T_Md) (N := 47) hx hb hts i_Md t_Md o_Md n_Md hown hK hP hD hS 0 rfl rfl 18 (by decide) (hts _ tw_552) (fun _ h9 => h9) rfl (by decide +kernel) rfl rfl (Nat.le_of_ble_eq_true rfl) d_Md_put_229 (fun H locs hP hD hS => ?_)
    have hP : va_P D gCl (mW cI cS cZ ad (va_up (va_up σ 15 (17 : Int32)) 16 x2) α) H := hP
    have hD : va_D A (mW cI cS cZ ad (va_up (va_up σ 15 (17 : Int32)) 16 x2) α) := hD
    refine lv_aload_n hx hb d_Md_put_232 rfl (lv_at hl 0 rfl) ?_
    refine va_get (D := D) (ci := 9) (v := .ref (ad 2)) (C := R_Md) (T := T_Md) (N := 47) hx hb hts i_Md hown hK hP 0 rfl rfl 1 (by decide) (hts _ tw_535) (fun _ h9 => h9) rfl d_Md_put_233 ?_
    refine lv_sipush (v := 130) hx hb d_Md_put_236 (by decide) ?_
    refine lv_iconst (v := 0) hx hb d_Md_put_239 (by decide) ?_
    refine va_sast (f := α 2) (i := (130 : Int32)) (x := (0 : Int32)) hx hb hK hP hD hS 2 1 rfl rfl (show vp_in (130 : Int32) 132 by unfold vp_in; decide) d_Md_put_240 (fun H locs hP hD hS => ?_)
    rw [show ((130 : Int32)).toNatClampNeg = 130 from by decide] at hP hD
    rw [mW_s2] at hP hD
    have hP : va_P D gCl (mW cI cS cZ ad (va_up (va_up σ 15 (17 : Int32)) 16 x2) (va_up α 2 (upd (α 2) 130 (vp_nar .short (0 : Int32))))) H := hP
    have hD : va_D A (mW cI cS cZ ad (va_up (va_up σ 15 (17 : Int32)) 16 x2) (va_up α 2 (upd (α 2) 130 (vp_nar .short (0 : Int32))))) := hD
    refine lv_aload_n hx hb d_Md_put_241 rfl (lv_at hl 0 rfl) ?_
    refine va_get (D := D) (ci := 9) (v := .ref (ad 2)) (C := R_Md) (T := T_Md) (N := 47) hx hb hts i_Md hown hK hP 0 rfl rfl 1 (by decide) (hts _ tw_535) (fun _ h9 => h9) rfl d_Md_put_242 ?_
    refine lv_sipush (v := 131) hx hb d_Md_put_245 (by decide) ?_
    refine lv_iconst (v := 0) hx hb d_Md_put_248 (by decide) ?_
    refine va_sast (f := upd (α 2) 130 (vp_nar .short (0 : Int32))) (i := (131 : Int32)) (x := (0 : Int32)) hx hb hK hP hD hS 2 1 rfl rfl (show vp_in (131 : Int32) 132 by unfold vp_in; decide) d_Md_put_249 (fun H locs hP hD hS => ?_)
    rw [show ((131 : Int32)).toNatClampNeg = 131 from by decide] at hP hD
    rw [mW_s2] at hP hD
    have e9 : va_up (va_up α 2 (upd (α 2) 130 (vp_nar .short (0 : Int32)))) 2 (upd (upd (α 2) 130 (vp_nar .short (0 : Int32))) 131 (vp_nar .short (0 : Int32))) = (va_up α 2 (upd (upd (α 2) 130 (vp_nar .short (0 : Int32))) 131 (vp_nar .short (0 : Int32)))) := by
      funext k9
      by_cases h9 : k9 = 2
      · subst h9
        rfl
      · simp only [va_up, if_neg h9]
    rw [e9] at hP hD
    clear e9
    have hP : va_P D gCl (mW cI cS cZ ad (va_up (va_up σ 15 (17 : Int32)) 16 x2) (va_up α 2 (upd (upd (α 2) 130 (vp_nar .short (0 : Int32))) 131 (vp_nar .short (0 : Int32))))) H := hP
    have hD : va_D A (mW cI cS cZ ad (va_up (va_up σ 15 (17 : Int32)) 16 x2) (va_up α 2 (upd (upd (α 2) 130 (vp_nar .short (0 : Int32))) 131 (vp_nar .short (0 : Int32))))) := hD
    refine lv_goto (tgt := 265) hx hb d_Md_put_250 (by decide) ?_
    exact J265 (va_up (va_up σ 15 (17 : Int32)) 16 x2) (va_up α 2 (upd (upd (α 2) 130 (vp_nar .short (0 : Int32))) 131 (vp_nar .short (0 : Int32)))) ls H locs (lv_sub hl [] rfl) hP hD hS hw
  by_cases h1_14 : x1 = 14
  · have hw := hw.2.2.2.2.2.2.2.2.2.2.2.2.2.2.1 h1_14
    refine W.eq (g2 := F0 m 1 ls [.int (14 : Int32)]) (by rw [h1_14]) ?_
    refine lv_tableIn (off := 252) (tgt := 253) hx hb d_Md_put_1 (by decide) (by decide) (by decide) (by decide) ?_
    refine lv_aload_n hx hb d_Md_put_253 rfl (lv_at hl 0 rfl) ?_
    refine gCallVv (b := ad 0) (As := []) (rest := []) (c_Md_feed l D cI cS cZ ad  σ α _ hw) hx hb hml hown hts hK hN hA hS hP hD (cwV 0 hts (gGV tw_738 tw_740 ts_28 tw_11 tw_741) rfl rfl rfl ⟨rfl, by decide, by decide, by decide +kernel⟩ ⟨Nat.le_of_ble_eq_true rfl, Nat.le_of_ble_eq_true rfl⟩) (va_recv (ci := 9) (q0 := 0) hK hP rfl rfl) rfl hl.1 rfl (Nat.le_of_ble_eq_true rfl) d_Md_put_254 (fun u254 H locs hw hP hD hS => ?_)
    have hP : va_P D gCl (mW cI cS cZ ad u254.1 u254.2) H := hP
    have hD : va_D A (mW cI cS cZ ad u254.1 u254.2) := hD
    refine lv_goto (tgt := 265) hx hb d_Md_put_257 (by decide) ?_
    exact J265 u254.1 u254.2 ls H locs (lv_sub hl [] rfl) hP hD hS hw
  have hw := hw.2.2.2.2.2.2.2.2.2.2.2.2.2.2.2
  have hd : x1.toInt < 0 ∨ 14 < x1.toInt := by
    have a0 := lv_neT h1_0 (show (0 : Int32).toInt = 0 from by decide)
    have a1 := lv_neT h1_1 (show (1 : Int32).toInt = 1 from by decide)
    have a2 := lv_neT h1_2 (show (2 : Int32).toInt = 2 from by decide)
    have a3 := lv_neT h1_3 (show (3 : Int32).toInt = 3 from by decide)
    have a4 := lv_neT h1_4 (show (4 : Int32).toInt = 4 from by decide)
    have a5 := lv_neT h1_5 (show (5 : Int32).toInt = 5 from by decide)
    have a6 := lv_neT h1_6 (show (6 : Int32).toInt = 6 from by decide)
    have a7 := lv_neT h1_7 (show (7 : Int32).toInt = 7 from by decide)
    have a8 := lv_neT h1_8 (show (8 : Int32).toInt = 8 from by decide)
    have a9 := lv_neT h1_9 (show (9 : Int32).toInt = 9 from by decide)
    have a10 := lv_neT h1_10 (show (10 : Int32).toInt = 10 from by decide)
    have a11 := lv_neT h1_11 (show (11 : Int32).toInt = 11 from by decide)
    have a12 := lv_neT h1_12 (show (12 : Int32).toInt = 12 from by decide)
    have a13 := lv_neT h1_13 (show (13 : Int32).toInt = 13 from by decide)
    have a14 := lv_neT h1_14 (show (14 : Int32).toInt = 14 from by decide)
    omega
  have hw := hw hd
  refine lv_tableOut (tgt := 260) hx hb d_Md_put_1 hd (by decide) ?_
  refine lv_aload_n hx hb d_Md_put_260 rfl (lv_at hl 0 rfl) ?_
  refine lv_iload_n hx hb d_Md_put_261 rfl (lv_at hl 2 rfl) ?_
  refine gCallVv (b := ad 0) (As := [.int x2]) (rest := []) (c_Md_press l D cI cS cZ ad  σ α x2 _ hw) hx hb hml hown hts hK hN hA hS hP hD (cwV 1 hts (gGV tw_746 tw_748 ts_30 tw_11 tw_749) rfl rfl rfl ⟨rfl, by decide, by decide, by decide +kernel⟩ ⟨Nat.le_of_ble_eq_true rfl, Nat.le_of_ble_eq_true rfl⟩) (va_recv (ci := 9) (q0 := 0) hK hP rfl rfl) rfl hl.1 rfl (Nat.le_of_ble_eq_true rfl) d_Md_put_262 (fun u262 H locs hw hP hD hS => ?_)
  have hP : va_P D gCl (mW cI cS cZ ad u262.1 u262.2) H := hP
  have hD : va_D A (mW cI cS cZ ad u262.1 u262.2) := hD
  exact J265 u262.1 u262.2 ls H locs (lv_sub hl [] rfl) hP hD hS hw
abbrev rm_Md_current : Room := { frames := 0, cells := 0, slots := 0, locals := 0 }
set_option maxHeartbeats 4000000 in
set_option maxRecDepth 100000 in
theorem c_Md_current (l : Launch) (D : va_G) (cI cS cZ : ClassId) (ad : Nat → Nat) (σ : Nat → Int32) (α : Nat → Nat → Int32) (post : Int32 → gS → Prop) (hw : wp_Md_current σ α post) : gMi l y_Md_current b_Md_current 1 .int rm_Md_current D (gT cI cS cZ) (fun u : gS => mW cI cS cZ ad u.1 u.2) [.ref (ad 0)] (σ, α) post := by
  refine gMi.of (by decide) (Nat.le_of_ble_eq_true rfl) ?_
  intro p e s m below meth c Q A hx hb hml hown hts hK hN hA hS hP hD hret ls hl
  have hl : lv_has ls 1 [(0, .ref (ad 0))] := hl
  have J59 : ∀ (σ : Nat → Int32) (α : Nat → Nat → Int32) (t0 : Int32) (ls : Array Slot) (H : Heap) (locs : List Loc), lv_has ls 1 [] → va_P D gCl (mW cI cS cZ ad σ α) H → va_D A (mW cI cS cZ ad σ α) → va_S A s.heap H locs → wp_Md_current_J59 σ α t0 post → W p l e rm_Md_current s m ([.ref (ad 0)] : List Value).toArray below meth c H locs 0 0 Q (F0 m 59 ls [.int t0]) := by
    intro σ α t0 ls H locs hl hP hD hS hw
    unfold wp_Md_current_J59 at hw
    exact hret H locs 59 ls t0 (σ, α) d_Md_current_59 hP hD hS (vp_nar_int _) hw
  have J58 : ∀ (σ : Nat → Int32) (α : Nat → Nat → Int32) (ls : Array Slot) (H : Heap) (locs : List Loc), lv_has ls 1 [] → va_P D gCl (mW cI cS cZ ad σ α) H → va_D A (mW cI cS cZ ad σ α) → va_S A s.heap H locs → wp_Md_current_J58 σ α post → W p l e rm_Md_current s m ([.ref (ad 0)] : List Value).toArray below meth c H locs 0 0 Q (F0 m 58 ls []) := by
    intro σ α ls H locs hl hP hD hS hw
    unfold wp_Md_current_J58 at hw
    refine lv_iconst (v := (-1)) hx hb d_Md_current_58 (by decide) ?_
    exact J59 σ α (-1 : Int32) ls H locs (lv_sub hl [] rfl) hP hD hS hw
  have J29 : ∀ (σ : Nat → Int32) (α : Nat → Nat → Int32) (ls : Array Slot) (H : Heap) (locs : List Loc), lv_has ls 1 [(0, .ref (ad 0))] → va_P D gCl (mW cI cS cZ ad σ α) H → va_D A (mW cI cS cZ ad σ α) → va_S A s.heap H locs → wp_Md_current_J29 σ α post → W p l e rm_Md_current s m ([.ref (ad 0)] : List Value).toArray below meth c H locs 0 0 Q (F0 m 29 ls []) := by
    intro σ α ls H locs hl hP hD hS hw
    unfold wp_Md_current_J29 at hw
    refine lv_aload_n hx hb d_Md_current_29 rfl (lv_at hl 0 rfl) ?_
    refine va_get (D := D) (ci := 9) (v := .int (σ 0)) (C := R_Md) (T := T_Md) (N := 47) hx hb hts i_Md hown hK hP 0 rfl rfl 2 (by decide) (hts _ tw_536) (fun _ h9 => h9) rfl d_Md_current_30 ?_
    refine lv_aload_n hx hb d_Md_current_33 rfl (lv_at hl 0 rfl) ?_
    refine va_get (D := D) (ci := 9) (v := .int (σ 12)) (C := R_Md) (T := T_Md) (N := 47) hx hb hts i_Md hown hK hP 0 rfl rfl 14 (by decide) (hts _ tw_548) (fun _ h9 => h9) rfl d_Md_current_34 ?_
    refine lv_icmp_lt (tgt := 58) hx hb d_Md_current_37 (by decide) (fun h => ?_) (fun h => ?_)
    · have hw := hw.1 h
      exact J58 σ α ls H locs (lv_sub hl [] rfl) hP hD hS hw
    · have hw := hw.2 h
      refine lv_aload_n hx hb d_Md_current_40 rfl (lv_at hl 0 rfl) ?_
      refine va_get (D := D) (ci := 9) (v := .int (σ 0)) (C := R_Md) (T := T_Md) (N := 47) hx hb hts i_Md hown hK hP 0 rfl rfl 2 (by decide) (hts _ tw_536) (fun _ h9 => h9) rfl d_Md_current_41 ?_
      refine lv_aload_n hx hb d_Md_current_44 rfl (lv_at hl 0 rfl) ?_
      refine va_get (D := D) (ci := 9) (v := .int (σ 13)) (C := R_Md) (T := T_Md) (N := 47) hx hb hts i_Md hown hK hP 0 rfl rfl 15 (by decide) (hts _ tw_549) (fun _ h9 => h9) rfl d_Md_current_45 ?_
      refine lv_icmp_gt (tgt := 58) hx hb d_Md_current_48 (by decide) (fun h => ?_) (fun h => ?_)
      · have hw := hw.1 h
        exact J58 σ α ls H locs (lv_sub hl [] rfl) hP hD hS hw
      · have hw := hw.2 h
        refine lv_aload_n hx hb d_Md_current_51 rfl (lv_at hl 0 rfl) ?_
        refine va_get (D := D) (ci := 9) (v := .int (σ 11)) (C := R_Md) (T := T_Md) (N := 47) hx hb hts i_Md hown hK hP 0 rfl rfl 13 (by decide) (hts _ tw_547) (fun _ h9 => h9) rfl d_Md_current_52 ?_
        refine lv_goto (tgt := 59) hx hb d_Md_current_55 (by decide) ?_
        exact J59 σ α (σ 11) ls H locs (lv_sub hl [] rfl) hP hD hS hw
  unfold wp_Md_current at hw
  have hP : va_P D gCl (mW cI cS cZ ad σ α) s.heap := hP
  have hD : va_D A (mW cI cS cZ ad σ α) := hD
  obtain ⟨H, hH⟩ : ∃ H, H = s.heap := ⟨_, rfl⟩
  obtain ⟨locs, hlocs⟩ : ∃ locs : List Loc, locs = [] := ⟨_, rfl⟩
  have hP : va_P D gCl (mW cI cS cZ ad σ α) H := by rw [hH]; exact hP
  have hS : va_S A s.heap H locs := by rw [hH, hlocs]; exact hS
  suffices K : W p l e rm_Md_current s m ([.ref (ad 0)] : List Value).toArray below meth c H locs 0 0 Q (F0 m 0 ls []) by rw [hH, hlocs] at K; exact K
  clear hH hlocs
  refine lv_aload_n hx hb d_Md_current_0 rfl (lv_at hl 0 rfl) ?_
  refine va_get (D := D) (ci := 9) (v := .int (σ 0)) (C := R_Md) (T := T_Md) (N := 47) hx hb hts i_Md hown hK hP 0 rfl rfl 2 (by decide) (hts _ tw_536) (fun _ h9 => h9) rfl d_Md_current_1 ?_
  refine lv_aload_n hx hb d_Md_current_4 rfl (lv_at hl 0 rfl) ?_
  refine va_get (D := D) (ci := 9) (v := .int (σ 9)) (C := R_Md) (T := T_Md) (N := 47) hx hb hts i_Md hown hK hP 0 rfl rfl 11 (by decide) (hts _ tw_545) (fun _ h9 => h9) rfl d_Md_current_5 ?_
  refine lv_icmp_lt (tgt := 29) hx hb d_Md_current_8 (by decide) (fun h => ?_) (fun h => ?_)
  · have hw := hw.1 h
    exact J29 σ α ls H locs (lv_sub hl [0] rfl) hP hD hS hw
  · have hw := hw.2 h
    refine lv_aload_n hx hb d_Md_current_11 rfl (lv_at hl 0 rfl) ?_
    refine va_get (D := D) (ci := 9) (v := .int (σ 0)) (C := R_Md) (T := T_Md) (N := 47) hx hb hts i_Md hown hK hP 0 rfl rfl 2 (by decide) (hts _ tw_536) (fun _ h9 => h9) rfl d_Md_current_12 ?_
    refine lv_aload_n hx hb d_Md_current_15 rfl (lv_at hl 0 rfl) ?_
    refine va_get (D := D) (ci := 9) (v := .int (σ 10)) (C := R_Md) (T := T_Md) (N := 47) hx hb hts i_Md hown hK hP 0 rfl rfl 12 (by decide) (hts _ tw_546) (fun _ h9 => h9) rfl d_Md_current_16 ?_
    refine lv_icmp_gt (tgt := 29) hx hb d_Md_current_19 (by decide) (fun h => ?_) (fun h => ?_)
    · have hw := hw.1 h
      exact J29 σ α ls H locs (lv_sub hl [0] rfl) hP hD hS hw
    · have hw := hw.2 h
      refine lv_aload_n hx hb d_Md_current_22 rfl (lv_at hl 0 rfl) ?_
      refine va_get (D := D) (ci := 9) (v := .int (σ 8)) (C := R_Md) (T := T_Md) (N := 47) hx hb hts i_Md hown hK hP 0 rfl rfl 10 (by decide) (hts _ tw_544) (fun _ h9 => h9) rfl d_Md_current_23 ?_
      refine lv_goto (tgt := 59) hx hb d_Md_current_26 (by decide) ?_
      exact J59 σ α (σ 8) ls H locs (lv_sub hl [] rfl) hP hD hS hw
