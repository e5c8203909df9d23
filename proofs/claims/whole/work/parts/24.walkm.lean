abbrev rm_Md_place : Room := { frames := 1, cells := 0, slots := 0, locals := 25 }
set_option maxHeartbeats 4000000 in
set_option maxRecDepth 100000 in
theorem c_Md_place (l : Launch) (D : va_G) (cI cS cZ : ClassId) (ad : Nat → Nat) (σ : Nat → Int32) (α : Nat → Nat → Int32) (post : Int32 → gS → Prop) (hw : wp_Md_place σ α post) : gMi l y_Md_place b_Md_place 6 .boolean rm_Md_place D (gT cI cS cZ) (fun u : gS => mW cI cS cZ ad u.1 u.2) [.ref (ad 0)] (σ, α) post := by
  refine gMi.of (by decide) (Nat.le_of_ble_eq_true rfl) ?_
  intro p e s m below meth c Q A hx hb hml hown hts hK hN hA hS hP hD hret ls hl
  have hl : lv_has ls 6 [(0, .ref (ad 0))] := hl
  have L67 : ∀ (σ : Nat → Int32) (α : Nat → Nat → Int32) (a1 : Int32) (a2 : Int32) (ls : Array Slot) (H : Heap) (locs : List Loc), lv_has ls 6 [(0, .ref (ad 0)), (1, .int a1), (2, .int a2)] → va_P D gCl (mW cI cS cZ ad σ α) H → va_D A (mW cI cS cZ ad σ α) → va_S A s.heap H locs → wp_Md_place_L67 σ α a1 a2 post → W p l e rm_Md_place s m ([.ref (ad 0)] : List Value).toArray below meth c H locs 0 0 Q (F0 m 67 ls []) := by
    intro σ α a1 a2 ls H locs hl hP hD hS hw
    let XL67 : (Nat → Int32) → (Nat → Nat → Int32) → Int32 → Int32 → Prop := fun σ α a1 a2 => ∀ (ls : Array Slot) (H : Heap) (locs : List Loc), lv_has ls 6 [(0, .ref (ad 0)), (1, .int a1), (2, .int a2)] → va_P D gCl (mW cI cS cZ ad σ α) H → va_D A (mW cI cS cZ ad σ α) → va_S A s.heap H locs → W p l e rm_Md_place s m ([.ref (ad 0)] : List Value).toArray below meth c H locs 0 0 Q (F0 m 67 ls [])
    have hX67 : ∀ (σ : Nat → Int32) (α : Nat → Nat → Int32) (a1 : Int32) (a2 : Int32) (ls : Array Slot) (H : Heap) (locs : List Loc), lv_has ls 6 [(0, .ref (ad 0)), (1, .int a1), (2, .int a2)] → va_P D gCl (mW cI cS cZ ad σ α) H → va_D A (mW cI cS cZ ad σ α) → va_S A s.heap H locs → XL67 σ α a1 a2 → W p l e rm_Md_place s m ([.ref (ad 0)] : List Value).toArray below meth c H locs 0 0 Q (F0 m 67 ls []) := fun σ α a1 a2 ls H locs hl hP hD hS hw => hw ls H locs hl hP hD hS
    refine hw XL67 ?_ ls H locs hl hP hD hS
    clear hw hl hP hD hS
    intro σ α a1 a2 hw ls H locs hl hP hD hS
    unfold wp_Md_place_B67 at hw
    have J255 : ∀ (σ : Nat → Int32) (α : Nat → Nat → Int32) (a1 : Int32) (a2 : Int32) (ls : Array Slot) (H : Heap) (locs : List Loc), lv_has ls 6 [(0, .ref (ad 0)), (1, .int a1), (2, .int a2)] → va_P D gCl (mW cI cS cZ ad σ α) H → va_D A (mW cI cS cZ ad σ α) → va_S A s.heap H locs → wp_Md_place_J255 XL67 σ α a1 a2 post → W p l e rm_Md_place s m ([.ref (ad 0)] : List Value).toArray below meth c H locs 0 0 Q (F0 m 255 ls []) := by
      intro σ α a1 a2 ls H locs hl hP hD hS hw
      unfold wp_Md_place_J255 at hw
      refine lv_iinc (k := 2) hx hb d_Md_place_255 hl rfl rfl (by decide) rfl (fun ls hl => ?_)
      have hl : lv_has ls 6 [(2, .int (a2 + Int32.ofInt 1)), (0, .ref (ad 0)), (1, .int a1)] := hl
      refine lv_goto (tgt := 67) hx hb d_Md_place_258 (by decide) ?_
      exact hX67 σ α a1 (a2 + Int32.ofInt 1) ls H locs (lv_sub hl [1, 2, 0] rfl) hP hD hS hw
    have J240 : ∀ (σ : Nat → Int32) (α : Nat → Nat → Int32) (a2 : Int32) (a4 : Int32) (ls : Array Slot) (H : Heap) (locs : List Loc), lv_has ls 6 [(0, .ref (ad 0)), (2, .int a2), (4, .int a4)] → va_P D gCl (mW cI cS cZ ad σ α) H → va_D A (mW cI cS cZ ad σ α) → va_S A s.heap H locs → wp_Md_place_J240 XL67 σ α a2 a4 post → W p l e rm_Md_place s m ([.ref (ad 0)] : List Value).toArray below meth c H locs 0 0 Q (F0 m 240 ls []) := by
      intro σ α a2 a4 ls H locs hl hP hD hS hw
      unfold wp_Md_place_J240 at hw
      refine lv_iload hx hb d_Md_place_240 (lv_at hl 2 rfl) ?_
      refine lv_iconst (v := 2) hx hb d_Md_place_242 (by decide) ?_
      refine lv_iadd hx hb d_Md_place_243 ?_
      refine lv_aload_n hx hb d_Md_place_244 rfl (lv_at hl 0 rfl) ?_
      refine va_get (D := D) (ci := 9) (v := .ref (ad 16)) (C := R_Md) (T := T_Md) (N := 47) hx hb hts i_Md hown hK hP 0 rfl rfl 40 (by decide) (hts _ tw_574) (fun _ h9 => h9) rfl d_Md_place_245 ?_
      refine lv_iload_n hx hb d_Md_place_248 rfl (lv_at hl 1 rfl) ?_
      obtain ⟨hin, hw⟩ := hw
      refine va_iald (f := α 16) hx hb hK hP 16 0 rfl rfl hin d_Md_place_249 ?_
      refine lv_iadd hx hb d_Md_place_250 ?_
      refine lv_bipush (v := 31) hx hb d_Md_place_251 (by decide) ?_
      refine lv_iand hx hb d_Md_place_253 ?_
      refine lv_istore_n hx hb d_Md_place_254 rfl hl (by decide) rfl (fun ls hl => ?_)
      have hl : lv_has ls 6 [(1, .int (((a4 + (2 : Int32)) + (α 16 a2.toNatClampNeg)) &&& (31 : Int32))), (0, .ref (ad 0)), (2, .int a2), (4, .int a4)] := hl
      exact J255 σ α (((a4 + (2 : Int32)) + (α 16 a2.toNatClampNeg)) &&& (31 : Int32)) a2 ls H locs (lv_sub hl [1, 0, 2] rfl) hP hD hS hw
    have J111 : ∀ (σ : Nat → Int32) (α : Nat → Nat → Int32) (a2 : Int32) (a3 : Int32) (t0 : Int32) (ls : Array Slot) (H : Heap) (locs : List Loc), lv_has ls 6 [(0, .ref (ad 0)), (2, .int a2), (3, .int a3)] → va_P D gCl (mW cI cS cZ ad σ α) H → va_D A (mW cI cS cZ ad σ α) → va_S A s.heap H locs → wp_Md_place_J111 XL67 σ α a2 a3 t0 post → W p l e rm_Md_place s m ([.ref (ad 0)] : List Value).toArray below meth c H locs 0 0 Q (F0 m 111 ls [.int t0, .ref (ad 0)]) := by
      intro σ α a2 a3 t0 ls H locs hl hP hD hS hw
      unfold wp_Md_place_J111 at hw
      refine lv_iload_n hx hb d_Md_place_111 rfl (lv_at hl 2 rfl) ?_
      refine gCallVi (b := ad 0) (As := [.int t0, .int a3]) (rest := []) (c_Md_free l D cI cS cZ ad  σ α t0 a3 _ hw) hx hb hml hown hts hK hN hA hS hP hD (cwV 2 hts (gGV tw_798 tw_800 ts_35 tw_11 tw_801) rfl rfl rfl ⟨rfl, by decide, by decide, by decide +kernel⟩ ⟨Nat.le_of_ble_eq_true rfl, Nat.le_of_ble_eq_true rfl⟩) (va_recv (ci := 9) (q0 := 0) hK hP rfl rfl) rfl hl.1 rfl (Nat.le_of_ble_eq_true rfl) d_Md_place_112 (fun r112 u112 H locs hw hP hD hS => ?_)
      have hP : va_P D gCl (mW cI cS cZ ad u112.1 u112.2) H := hP
      have hD : va_D A (mW cI cS cZ ad u112.1 u112.2) := hD
      refine lv_istore hx hb d_Md_place_115 hl (by decide) rfl (fun ls hl => ?_)
      have hl : lv_has ls 6 [(4, .int r112), (0, .ref (ad 0)), (2, .int a2), (3, .int a3)] := hl
      refine lv_iload hx hb d_Md_place_117 (lv_at hl 0 rfl) ?_
      refine lv_if_ge (tgt := 124) hx hb d_Md_place_119 (by decide) (fun h => ?_) (fun h => ?_)
      · have hw := hw.1 h
        refine lv_aload_n hx hb d_Md_place_124 rfl (lv_at hl 1 rfl) ?_
        refine va_get (D := D) (ci := 9) (v := .ref (ad 17)) (C := R_Md) (T := T_Md) (N := 47) hx hb hts i_Md hown hK hP 0 rfl rfl 41 (by decide) (hts _ tw_575) (fun _ h9 => h9) rfl d_Md_place_125 ?_
        refine lv_iload hx hb d_Md_place_128 (lv_at hl 0 rfl) ?_
        refine lv_iconst (v := 1) hx hb d_Md_place_130 (by decide) ?_
        obtain ⟨hin, hw⟩ := hw
        refine va_zast (f := u112.2 17) (i := r112) (x := (1 : Int32)) hx hb hK hP hD hS 17 2 rfl rfl hin d_Md_place_131 (fun H locs hP hD hS => ?_)
        rw [mW_s17] at hP hD
        have hP : va_P D gCl (mW cI cS cZ ad u112.1 (va_up u112.2 17 (upd (u112.2 17) r112.toNatClampNeg (vp_nar .boolean (1 : Int32))))) H := hP
        have hD : va_D A (mW cI cS cZ ad u112.1 (va_up u112.2 17 (upd (u112.2 17) r112.toNatClampNeg (vp_nar .boolean (1 : Int32))))) := hD
        refine lv_aload_n hx hb d_Md_place_132 rfl (lv_at hl 1 rfl) ?_
        refine va_get (D := D) (ci := 9) (v := .ref (ad 15)) (C := R_Md) (T := T_Md) (N := 47) hx hb hts i_Md hown hK hP 0 rfl rfl 39 (by decide) (hts _ tw_573) (fun _ h9 => h9) rfl d_Md_place_133 ?_
        refine lv_iload_n hx hb d_Md_place_136 rfl (lv_at hl 2 rfl) ?_
        refine lv_iload hx hb d_Md_place_137 (lv_at hl 0 rfl) ?_
        obtain ⟨hin, hw⟩ := hw
        refine va_iast (f := u112.2 15) (i := a2) (x := r112) hx hb hK hP hD hS 15 0 rfl rfl hin d_Md_place_139 (fun H locs hP hD hS => ?_)
        rw [mW_s15] at hP hD
        have e9 : va_up (va_up u112.2 17 (upd (u112.2 17) r112.toNatClampNeg (vp_nar .boolean (1 : Int32)))) 15 (upd (u112.2 15) a2.toNatClampNeg r112) = (va_up (va_up u112.2 15 (upd (u112.2 15) a2.toNatClampNeg r112)) 17 (upd (u112.2 17) r112.toNatClampNeg (vp_nar .boolean (1 : Int32)))) := by
          funext k9
          by_cases h9 : k9 = 15
          · subst h9
            simp [va_up]
          · simp only [va_up, if_neg h9]
        rw [e9] at hP hD
        clear e9
        have hP : va_P D gCl (mW cI cS cZ ad u112.1 (va_up (va_up u112.2 15 (upd (u112.2 15) a2.toNatClampNeg r112)) 17 (upd (u112.2 17) r112.toNatClampNeg (vp_nar .boolean (1 : Int32))))) H := hP
        have hD : va_D A (mW cI cS cZ ad u112.1 (va_up (va_up u112.2 15 (upd (u112.2 15) a2.toNatClampNeg r112)) 17 (upd (u112.2 17) r112.toNatClampNeg (vp_nar .boolean (1 : Int32))))) := hD
        refine lv_aload_n hx hb d_Md_place_140 rfl (lv_at hl 1 rfl) ?_
        refine va_get (D := D) (ci := 9) (v := .ref (ad 16)) (C := R_Md) (T := T_Md) (N := 47) hx hb hts i_Md hown hK hP 0 rfl rfl 40 (by decide) (hts _ tw_574) (fun _ h9 => h9) rfl d_Md_place_141 ?_
        refine lv_iload_n hx hb d_Md_place_144 rfl (lv_at hl 2 rfl) ?_
        refine lv_iconst (v := 0) hx hb d_Md_place_145 (by decide) ?_
        obtain ⟨hin, hw⟩ := hw
        refine va_iast (f := u112.2 16) (i := a2) (x := (0 : Int32)) hx hb hK hP hD hS 16 0 rfl rfl hin d_Md_place_146 (fun H locs hP hD hS => ?_)
        rw [mW_s16] at hP hD
        have e9 : va_up (va_up (va_up u112.2 15 (upd (u112.2 15) a2.toNatClampNeg r112)) 17 (upd (u112.2 17) r112.toNatClampNeg (vp_nar .boolean (1 : Int32)))) 16 (upd (u112.2 16) a2.toNatClampNeg (0 : Int32)) = (va_up (va_up (va_up u112.2 15 (upd (u112.2 15) a2.toNatClampNeg r112)) 16 (upd (u112.2 16) a2.toNatClampNeg (0 : Int32))) 17 (upd (u112.2 17) r112.toNatClampNeg (vp_nar .boolean (1 : Int32)))) := by
          funext k9
          by_cases h9 : k9 = 16
          · subst h9
            simp [va_up]
          · simp only [va_up, if_neg h9]
        rw [e9] at hP hD
        clear e9
        have hP : va_P D gCl (mW cI cS cZ ad u112.1 (va_up (va_up (va_up u112.2 15 (upd (u112.2 15) a2.toNatClampNeg r112)) 16 (upd (u112.2 16) a2.toNatClampNeg (0 : Int32))) 17 (upd (u112.2 17) r112.toNatClampNeg (vp_nar .boolean (1 : Int32))))) H := hP
        have hD : va_D A (mW cI cS cZ ad u112.1 (va_up (va_up (va_up u112.2 15 (upd (u112.2 15) a2.toNatClampNeg r112)) 16 (upd (u112.2 16) a2.toNatClampNeg (0 : Int32))) 17 (upd (u112.2 17) r112.toNatClampNeg (vp_nar .boolean (1 : Int32))))) := hD
        refine lv_iload_n hx hb d_Md_place_147 rfl (lv_at hl 3 rfl) ?_
        refine lv_if_eq (tgt := 203) hx hb d_Md_place_148 (by decide) (fun h => ?_) (fun h => ?_)
        · have hw := hw.1 h
          refine lv_aload_n hx hb d_Md_place_203 rfl (lv_at hl 1 rfl) ?_
          refine va_get (D := D) (ci := 9) (v := .ref (ad 13)) (C := R_Md) (T := T_Md) (N := 47) hx hb hts i_Md hown hK hP 0 rfl rfl 37 (by decide) (hts _ tw_571) (fun _ h9 => h9) rfl d_Md_place_204 ?_
          refine lv_iload_n hx hb d_Md_place_207 rfl (lv_at hl 2 rfl) ?_
          obtain ⟨hin, hw⟩ := hw
          refine va_iald (f := u112.2 13) hx hb hK hP 13 0 rfl rfl hin d_Md_place_208 ?_
          refine lv_istore hx hb d_Md_place_209 hl (by decide) rfl (fun ls hl => ?_)
          have hl : lv_has ls 6 [(5, .int (u112.2 13 a2.toNatClampNeg)), (4, .int r112), (0, .ref (ad 0)), (2, .int a2), (3, .int a3)] := hl
          refine lv_iload hx hb d_Md_place_211 (lv_at hl 0 rfl) ?_
          refine lv_if_lt (tgt := 240) hx hb d_Md_place_213 (by decide) (fun h => ?_) (fun h => ?_)
          · have hw := hw.1 h
            exact J240 u112.1 (va_up (va_up (va_up u112.2 15 (upd (u112.2 15) a2.toNatClampNeg r112)) 16 (upd (u112.2 16) a2.toNatClampNeg (0 : Int32))) 17 (upd (u112.2 17) r112.toNatClampNeg (vp_nar .boolean (1 : Int32)))) a2 r112 ls H locs (lv_sub hl [2, 3, 1] rfl) hP hD hS hw
          · have hw := hw.2 h
            refine lv_aload_n hx hb d_Md_place_216 rfl (lv_at hl 2 rfl) ?_
            refine va_get (D := D) (ci := 9) (v := .ref (ad 16)) (C := R_Md) (T := T_Md) (N := 47) hx hb hts i_Md hown hK hP 0 rfl rfl 40 (by decide) (hts _ tw_574) (fun _ h9 => h9) rfl d_Md_place_217 ?_
            refine lv_iload_n hx hb d_Md_place_220 rfl (lv_at hl 3 rfl) ?_
            refine lv_aload_n hx hb d_Md_place_221 rfl (lv_at hl 2 rfl) ?_
            refine lv_iload hx hb d_Md_place_222 (lv_at hl 0 rfl) ?_
            refine lv_iload hx hb d_Md_place_224 (lv_at hl 1 rfl) ?_
            refine lv_iconst (v := 2) hx hb d_Md_place_226 (by decide) ?_
            refine lv_iadd hx hb d_Md_place_227 ?_
            refine gCallVi (b := ad 0) (As := [.int (u112.2 13 a2.toNatClampNeg), .int (r112 + (2 : Int32))]) (rest := [.int a2, .ref (ad 16)]) (c_Md_variableFrom l D cI cS cZ ad  u112.1 (va_up (va_up (va_up u112.2 15 (upd (u112.2 15) a2.toNatClampNeg r112)) 16 (upd (u112.2 16) a2.toNatClampNeg (0 : Int32))) 17 (upd (u112.2 17) r112.toNatClampNeg (vp_nar .boolean (1 : Int32)))) (u112.2 13 a2.toNatClampNeg) (r112 + (2 : Int32)) _ hw) hx hb hml hown hts hK hN hA hS hP hD (cwV 2 hts (gGV tw_802 tw_804 ts_36 tw_11 tw_805) rfl rfl rfl ⟨rfl, by decide, by decide, by decide +kernel⟩ ⟨Nat.le_of_ble_eq_true rfl, Nat.le_of_ble_eq_true rfl⟩) (va_recv (ci := 9) (q0 := 0) hK hP rfl rfl) rfl hl.1 rfl (Nat.le_of_ble_eq_true rfl) d_Md_place_228 (fun r228 u228 H locs hw hP hD hS => ?_)
            have hP : va_P D gCl (mW cI cS cZ ad u228.1 u228.2) H := hP
            have hD : va_D A (mW cI cS cZ ad u228.1 u228.2) := hD
            refine lv_iload hx hb d_Md_place_231 (lv_at hl 1 rfl) ?_
            refine lv_isub hx hb d_Md_place_233 ?_
            refine lv_iconst (v := 2) hx hb d_Md_place_234 (by decide) ?_
            refine lv_isub hx hb d_Md_place_235 ?_
            refine lv_bipush (v := 31) hx hb d_Md_place_236 (by decide) ?_
            refine lv_iand hx hb d_Md_place_238 ?_
            obtain ⟨hin, hw⟩ := hw
            refine va_iast (f := u228.2 16) (i := a2) (x := ((r228 - r112) - (2 : Int32)) &&& (31 : Int32)) hx hb hK hP hD hS 16 0 rfl rfl hin d_Md_place_239 (fun H locs hP hD hS => ?_)
            rw [mW_s16] at hP hD
            have hP : va_P D gCl (mW cI cS cZ ad u228.1 (va_up u228.2 16 (upd (u228.2 16) a2.toNatClampNeg (((r228 - r112) - (2 : Int32)) &&& (31 : Int32))))) H := hP
            have hD : va_D A (mW cI cS cZ ad u228.1 (va_up u228.2 16 (upd (u228.2 16) a2.toNatClampNeg (((r228 - r112) - (2 : Int32)) &&& (31 : Int32))))) := hD
            exact J240 u228.1 (va_up u228.2 16 (upd (u228.2 16) a2.toNatClampNeg (((r228 - r112) - (2 : Int32)) &&& (31 : Int32)))) a2 r112 ls H locs (lv_sub hl [2, 3, 1] rfl) hP hD hS hw
        · have hw := hw.2 h
          refine lv_iinc (k := 2) hx hb d_Md_place_151 hl rfl rfl (by decide) rfl (fun ls hl => ?_)
          have hl : lv_has ls 6 [(2, .int (a2 + Int32.ofInt 1)), (4, .int r112), (0, .ref (ad 0)), (3, .int a3)] := hl
          refine lv_aload_n hx hb d_Md_place_154 rfl (lv_at hl 2 rfl) ?_
          refine va_get (D := D) (ci := 9) (v := .ref (ad 15)) (C := R_Md) (T := T_Md) (N := 47) hx hb hts i_Md hown hK hP 0 rfl rfl 39 (by decide) (hts _ tw_573) (fun _ h9 => h9) rfl d_Md_place_155 ?_
          refine lv_iload_n hx hb d_Md_place_158 rfl (lv_at hl 0 rfl) ?_
          refine lv_iload hx hb d_Md_place_159 (lv_at hl 1 rfl) ?_
          refine lv_bipush (v := 32) hx hb d_Md_place_161 (by decide) ?_
          refine lv_iand hx hb d_Md_place_163 ?_
          refine lv_iload hx hb d_Md_place_164 (lv_at hl 1 rfl) ?_
          refine lv_iconst (v := 1) hx hb d_Md_place_166 (by decide) ?_
          refine lv_iadd hx hb d_Md_place_167 ?_
          refine lv_bipush (v := 31) hx hb d_Md_place_168 (by decide) ?_
          refine lv_iand hx hb d_Md_place_170 ?_
          refine lv_ior hx hb d_Md_place_171 ?_
          obtain ⟨hin, hw⟩ := hw
          refine va_iast (f := upd (u112.2 15) a2.toNatClampNeg r112) (i := a2 + Int32.ofInt 1) (x := (r112 &&& (32 : Int32)) ||| ((r112 + (1 : Int32)) &&& (31 : Int32))) hx hb hK hP hD hS 15 0 rfl rfl hin d_Md_place_172 (fun H locs hP hD hS => ?_)
          rw [mW_s15] at hP hD
          have e9 : va_up (va_up (va_up (va_up u112.2 15 (upd (u112.2 15) a2.toNatClampNeg r112)) 16 (upd (u112.2 16) a2.toNatClampNeg (0 : Int32))) 17 (upd (u112.2 17) r112.toNatClampNeg (vp_nar .boolean (1 : Int32)))) 15 (upd (upd (u112.2 15) a2.toNatClampNeg r112) (a2 + Int32.ofInt 1).toNatClampNeg ((r112 &&& (32 : Int32)) ||| ((r112 + (1 : Int32)) &&& (31 : Int32)))) = (va_up (va_up (va_up u112.2 15 (upd (upd (u112.2 15) a2.toNatClampNeg r112) (a2 + Int32.ofInt 1).toNatClampNeg ((r112 &&& (32 : Int32)) ||| ((r112 + (1 : Int32)) &&& (31 : Int32))))) 16 (upd (u112.2 16) a2.toNatClampNeg (0 : Int32))) 17 (upd (u112.2 17) r112.toNatClampNeg (vp_nar .boolean (1 : Int32)))) := by
            funext k9
            by_cases h9 : k9 = 15
            · subst h9
              simp [va_up]
            · simp only [va_up, if_neg h9]
          rw [e9] at hP hD
          clear e9
          have hP : va_P D gCl (mW cI cS cZ ad u112.1 (va_up (va_up (va_up u112.2 15 (upd (upd (u112.2 15) a2.toNatClampNeg r112) (a2 + Int32.ofInt 1).toNatClampNeg ((r112 &&& (32 : Int32)) ||| ((r112 + (1 : Int32)) &&& (31 : Int32))))) 16 (upd (u112.2 16) a2.toNatClampNeg (0 : Int32))) 17 (upd (u112.2 17) r112.toNatClampNeg (vp_nar .boolean (1 : Int32))))) H := hP
          have hD : va_D A (mW cI cS cZ ad u112.1 (va_up (va_up (va_up u112.2 15 (upd (upd (u112.2 15) a2.toNatClampNeg r112) (a2 + Int32.ofInt 1).toNatClampNeg ((r112 &&& (32 : Int32)) ||| ((r112 + (1 : Int32)) &&& (31 : Int32))))) 16 (upd (u112.2 16) a2.toNatClampNeg (0 : Int32))) 17 (upd (u112.2 17) r112.toNatClampNeg (vp_nar .boolean (1 : Int32))))) := hD
          refine lv_aload_n hx hb d_Md_place_173 rfl (lv_at hl 2 rfl) ?_
          refine va_get (D := D) (ci := 9) (v := .ref (ad 17)) (C := R_Md) (T := T_Md) (N := 47) hx hb hts i_Md hown hK hP 0 rfl rfl 41 (by decide) (hts _ tw_575) (fun _ h9 => h9) rfl d_Md_place_174 ?_
          refine lv_aload_n hx hb d_Md_place_177 rfl (lv_at hl 2 rfl) ?_
          refine va_get (D := D) (ci := 9) (v := .ref (ad 15)) (C := R_Md) (T := T_Md) (N := 47) hx hb hts i_Md hown hK hP 0 rfl rfl 39 (by decide) (hts _ tw_573) (fun _ h9 => h9) rfl d_Md_place_178 ?_
          refine lv_iload_n hx hb d_Md_place_181 rfl (lv_at hl 0 rfl) ?_
          obtain ⟨hin, hw⟩ := hw
          refine va_iald (f := upd (upd (u112.2 15) a2.toNatClampNeg r112) (a2 + Int32.ofInt 1).toNatClampNeg ((r112 &&& (32 : Int32)) ||| ((r112 + (1 : Int32)) &&& (31 : Int32)))) hx hb hK hP 15 0 rfl rfl hin d_Md_place_182 ?_
          refine lv_iconst (v := 1) hx hb d_Md_place_183 (by decide) ?_
          obtain ⟨hin, hw⟩ := hw
          refine va_zast (f := upd (u112.2 17) r112.toNatClampNeg (vp_nar .boolean (1 : Int32))) (i := (upd (upd (u112.2 15) a2.toNatClampNeg r112) (a2 + Int32.ofInt 1).toNatClampNeg ((r112 &&& (32 : Int32)) ||| ((r112 + (1 : Int32)) &&& (31 : Int32)))) (a2 + Int32.ofInt 1).toNatClampNeg) (x := (1 : Int32)) hx hb hK hP hD hS 17 2 rfl rfl hin d_Md_place_184 (fun H locs hP hD hS => ?_)
          rw [mW_s17] at hP hD
          have e9 : va_up (va_up (va_up (va_up u112.2 15 (upd (upd (u112.2 15) a2.toNatClampNeg r112) (a2 + Int32.ofInt 1).toNatClampNeg ((r112 &&& (32 : Int32)) ||| ((r112 + (1 : Int32)) &&& (31 : Int32))))) 16 (upd (u112.2 16) a2.toNatClampNeg (0 : Int32))) 17 (upd (u112.2 17) r112.toNatClampNeg (vp_nar .boolean (1 : Int32)))) 17 (upd (upd (u112.2 17) r112.toNatClampNeg (vp_nar .boolean (1 : Int32))) ((upd (upd (u112.2 15) a2.toNatClampNeg r112) (a2 + Int32.ofInt 1).toNatClampNeg ((r112 &&& (32 : Int32)) ||| ((r112 + (1 : Int32)) &&& (31 : Int32)))) (a2 + Int32.ofInt 1).toNatClampNeg).toNatClampNeg (vp_nar .boolean (1 : Int32))) = (va_up (va_up (va_up u112.2 15 (upd (upd (u112.2 15) a2.toNatClampNeg r112) (a2 + Int32.ofInt 1).toNatClampNeg ((r112 &&& (32 : Int32)) ||| ((r112 + (1 : Int32)) &&& (31 : Int32))))) 16 (upd (u112.2 16) a2.toNatClampNeg (0 : Int32))) 17 (upd (upd (u112.2 17) r112.toNatClampNeg (vp_nar .boolean (1 : Int32))) ((upd (upd (u112.2 15) a2.toNatClampNeg r112) (a2 + Int32.ofInt 1).toNatClampNeg ((r112 &&& (32 : Int32)) ||| ((r112 + (1 : Int32)) &&& (31 : Int32)))) (a2 + Int32.ofInt 1).toNatClampNeg).toNatClampNeg (vp_nar .boolean (1 : Int32)))) := by
            funext k9
            by_cases h9 : k9 = 17
            · subst h9
              simp [va_up]
            · simp only [va_up, if_neg h9]
          rw [e9] at hP hD
          clear e9
          have hP : va_P D gCl (mW cI cS cZ ad u112.1 (va_up (va_up (va_up u112.2 15 (upd (upd (u112.2 15) a2.toNatClampNeg r112) (a2 + Int32.ofInt 1).toNatClampNeg ((r112 &&& (32 : Int32)) ||| ((r112 + (1 : Int32)) &&& (31 : Int32))))) 16 (upd (u112.2 16) a2.toNatClampNeg (0 : Int32))) 17 (upd (upd (u112.2 17) r112.toNatClampNeg (vp_nar .boolean (1 : Int32))) ((upd (upd (u112.2 15) a2.toNatClampNeg r112) (a2 + Int32.ofInt 1).toNatClampNeg ((r112 &&& (32 : Int32)) ||| ((r112 + (1 : Int32)) &&& (31 : Int32)))) (a2 + Int32.ofInt 1).toNatClampNeg).toNatClampNeg (vp_nar .boolean (1 : Int32))))) H := hP
          have hD : va_D A (mW cI cS cZ ad u112.1 (va_up (va_up (va_up u112.2 15 (upd (upd (u112.2 15) a2.toNatClampNeg r112) (a2 + Int32.ofInt 1).toNatClampNeg ((r112 &&& (32 : Int32)) ||| ((r112 + (1 : Int32)) &&& (31 : Int32))))) 16 (upd (u112.2 16) a2.toNatClampNeg (0 : Int32))) 17 (upd (upd (u112.2 17) r112.toNatClampNeg (vp_nar .boolean (1 : Int32))) ((upd (upd (u112.2 15) a2.toNatClampNeg r112) (a2 + Int32.ofInt 1).toNatClampNeg ((r112 &&& (32 : Int32)) ||| ((r112 + (1 : Int32)) &&& (31 : Int32)))) (a2 + Int32.ofInt 1).toNatClampNeg).toNatClampNeg (vp_nar .boolean (1 : Int32))))) := hD
          refine lv_aload_n hx hb d_Md_place_185 rfl (lv_at hl 2 rfl) ?_
          refine va_get (D := D) (ci := 9) (v := .ref (ad 16)) (C := R_Md) (T := T_Md) (N := 47) hx hb hts i_Md hown hK hP 0 rfl rfl 40 (by decide) (hts _ tw_574) (fun _ h9 => h9) rfl d_Md_place_186 ?_
          refine lv_iload_n hx hb d_Md_place_189 rfl (lv_at hl 0 rfl) ?_
          refine lv_iconst (v := 0) hx hb d_Md_place_190 (by decide) ?_
          obtain ⟨hin, hw⟩ := hw
          refine va_iast (f := upd (u112.2 16) a2.toNatClampNeg (0 : Int32)) (i := a2 + Int32.ofInt 1) (x := (0 : Int32)) hx hb hK hP hD hS 16 0 rfl rfl hin d_Md_place_191 (fun H locs hP hD hS => ?_)
          rw [mW_s16] at hP hD
          have e9 : va_up (va_up (va_up (va_up u112.2 15 (upd (upd (u112.2 15) a2.toNatClampNeg r112) (a2 + Int32.ofInt 1).toNatClampNeg ((r112 &&& (32 : Int32)) ||| ((r112 + (1 : Int32)) &&& (31 : Int32))))) 16 (upd (u112.2 16) a2.toNatClampNeg (0 : Int32))) 17 (upd (upd (u112.2 17) r112.toNatClampNeg (vp_nar .boolean (1 : Int32))) ((upd (upd (u112.2 15) a2.toNatClampNeg r112) (a2 + Int32.ofInt 1).toNatClampNeg ((r112 &&& (32 : Int32)) ||| ((r112 + (1 : Int32)) &&& (31 : Int32)))) (a2 + Int32.ofInt 1).toNatClampNeg).toNatClampNeg (vp_nar .boolean (1 : Int32)))) 16 (upd (upd (u112.2 16) a2.toNatClampNeg (0 : Int32)) (a2 + Int32.ofInt 1).toNatClampNeg (0 : Int32)) = (va_up (va_up (va_up u112.2 15 (upd (upd (u112.2 15) a2.toNatClampNeg r112) (a2 + Int32.ofInt 1).toNatClampNeg ((r112 &&& (32 : Int32)) ||| ((r112 + (1 : Int32)) &&& (31 : Int32))))) 16 (upd (upd (u112.2 16) a2.toNatClampNeg (0 : Int32)) (a2 + Int32.ofInt 1).toNatClampNeg (0 : Int32))) 17 (upd (upd (u112.2 17) r112.toNatClampNeg (vp_nar .boolean (1 : Int32))) ((upd (upd (u112.2 15) a2.toNatClampNeg r112) (a2 + Int32.ofInt 1).toNatClampNeg ((r112 &&& (32 : Int32)) ||| ((r112 + (1 : Int32)) &&& (31 : Int32)))) (a2 + Int32.ofInt 1).toNatClampNeg).toNatClampNeg (vp_nar .boolean (1 : Int32)))) := by
            funext k9
            by_cases h9 : k9 = 16
            · subst h9
              simp [va_up]
            · simp only [va_up, if_neg h9]
          rw [e9] at hP hD
          clear e9
          have hP : va_P D gCl (mW cI cS cZ ad u112.1 (va_up (va_up (va_up u112.2 15 (upd (upd (u112.2 15) a2.toNatClampNeg r112) (a2 + Int32.ofInt 1).toNatClampNeg ((r112 &&& (32 : Int32)) ||| ((r112 + (1 : Int32)) &&& (31 : Int32))))) 16 (upd (upd (u112.2 16) a2.toNatClampNeg (0 : Int32)) (a2 + Int32.ofInt 1).toNatClampNeg (0 : Int32))) 17 (upd (upd (u112.2 17) r112.toNatClampNeg (vp_nar .boolean (1 : Int32))) ((upd (upd (u112.2 15) a2.toNatClampNeg r112) (a2 + Int32.ofInt 1).toNatClampNeg ((r112 &&& (32 : Int32)) ||| ((r112 + (1 : Int32)) &&& (31 : Int32)))) (a2 + Int32.ofInt 1).toNatClampNeg).toNatClampNeg (vp_nar .boolean (1 : Int32))))) H := hP
          have hD : va_D A (mW cI cS cZ ad u112.1 (va_up (va_up (va_up u112.2 15 (upd (upd (u112.2 15) a2.toNatClampNeg r112) (a2 + Int32.ofInt 1).toNatClampNeg ((r112 &&& (32 : Int32)) ||| ((r112 + (1 : Int32)) &&& (31 : Int32))))) 16 (upd (upd (u112.2 16) a2.toNatClampNeg (0 : Int32)) (a2 + Int32.ofInt 1).toNatClampNeg (0 : Int32))) 17 (upd (upd (u112.2 17) r112.toNatClampNeg (vp_nar .boolean (1 : Int32))) ((upd (upd (u112.2 15) a2.toNatClampNeg r112) (a2 + Int32.ofInt 1).toNatClampNeg ((r112 &&& (32 : Int32)) ||| ((r112 + (1 : Int32)) &&& (31 : Int32)))) (a2 + Int32.ofInt 1).toNatClampNeg).toNatClampNeg (vp_nar .boolean (1 : Int32))))) := hD
          refine lv_iload hx hb d_Md_place_192 (lv_at hl 1 rfl) ?_
          refine lv_iconst (v := 2) hx hb d_Md_place_194 (by decide) ?_
          refine lv_iadd hx hb d_Md_place_195 ?_
          refine lv_bipush (v := 31) hx hb d_Md_place_196 (by decide) ?_
          refine lv_iand hx hb d_Md_place_198 ?_
          refine lv_istore_n hx hb d_Md_place_199 rfl hl (by decide) rfl (fun ls hl => ?_)
          have hl : lv_has ls 6 [(1, .int ((r112 + (2 : Int32)) &&& (31 : Int32))), (2, .int (a2 + Int32.ofInt 1)), (4, .int r112), (0, .ref (ad 0)), (3, .int a3)] := hl
          refine lv_goto (tgt := 255) hx hb d_Md_place_200 (by decide) ?_
          exact J255 u112.1 (va_up (va_up (va_up u112.2 15 (upd (upd (u112.2 15) a2.toNatClampNeg r112) (a2 + Int32.ofInt 1).toNatClampNeg ((r112 &&& (32 : Int32)) ||| ((r112 + (1 : Int32)) &&& (31 : Int32))))) 16 (upd (upd (u112.2 16) a2.toNatClampNeg (0 : Int32)) (a2 + Int32.ofInt 1).toNatClampNeg (0 : Int32))) 17 (upd (upd (u112.2 17) r112.toNatClampNeg (vp_nar .boolean (1 : Int32))) ((upd (upd (u112.2 15) a2.toNatClampNeg r112) (a2 + Int32.ofInt 1).toNatClampNeg ((r112 &&& (32 : Int32)) ||| ((r112 + (1 : Int32)) &&& (31 : Int32)))) (a2 + Int32.ofInt 1).toNatClampNeg).toNatClampNeg (vp_nar .boolean (1 : Int32)))) ((r112 + (2 : Int32)) &&& (31 : Int32)) (a2 + Int32.ofInt 1) ls H locs (lv_sub hl [3, 0, 1] rfl) hP hD hS hw
      · have hw := hw.2 h
        refine lv_iconst (v := 0) hx hb d_Md_place_122 (by decide) ?_
        exact hret H locs 123 ls (0 : Int32) (u112.1, u112.2) d_Md_place_123 hP hD hS rfl hw
    have J98 : ∀ (σ : Nat → Int32) (α : Nat → Nat → Int32) (a1 : Int32) (a2 : Int32) (t0 : Int32) (ls : Array Slot) (H : Heap) (locs : List Loc), lv_has ls 6 [(0, .ref (ad 0)), (1, .int a1), (2, .int a2)] → va_P D gCl (mW cI cS cZ ad σ α) H → va_D A (mW cI cS cZ ad σ α) → va_S A s.heap H locs → wp_Md_place_J98 XL67 σ α a1 a2 t0 post → W p l e rm_Md_place s m ([.ref (ad 0)] : List Value).toArray below meth c H locs 0 0 Q (F0 m 98 ls [.int t0]) := by
      intro σ α a1 a2 t0 ls H locs hl hP hD hS hw
      unfold wp_Md_place_J98 at hw
      refine lv_istore_n hx hb d_Md_place_98 rfl hl (by decide) rfl (fun ls hl => ?_)
      have hl : lv_has ls 6 [(3, .int t0), (0, .ref (ad 0)), (1, .int a1), (2, .int a2)] := hl
      refine lv_aload_n hx hb d_Md_place_99 rfl (lv_at hl 1 rfl) ?_
      refine lv_iload_n hx hb d_Md_place_100 rfl (lv_at hl 0 rfl) ?_
      refine lv_if_eq (tgt := 110) hx hb d_Md_place_101 (by decide) (fun h => ?_) (fun h => ?_)
      · have hw := hw.1 h
        refine lv_iload_n hx hb d_Md_place_110 rfl (lv_at hl 2 rfl) ?_
        exact J111 σ α a2 t0 a1 ls H locs (lv_sub hl [1, 3, 0] rfl) hP hD hS hw
      · have hw := hw.2 h
        refine lv_iload_n hx hb d_Md_place_104 rfl (lv_at hl 2 rfl) ?_
        refine lv_iconst (v := 1) hx hb d_Md_place_105 (by decide) ?_
        refine lv_iadd hx hb d_Md_place_106 ?_
        refine lv_goto (tgt := 111) hx hb d_Md_place_107 (by decide) ?_
        exact J111 σ α a2 t0 (a1 + (1 : Int32)) ls H locs (lv_sub hl [1, 3, 0] rfl) hP hD hS hw
    have J97 : ∀ (σ : Nat → Int32) (α : Nat → Nat → Int32) (a1 : Int32) (a2 : Int32) (ls : Array Slot) (H : Heap) (locs : List Loc), lv_has ls 6 [(0, .ref (ad 0)), (1, .int a1), (2, .int a2)] → va_P D gCl (mW cI cS cZ ad σ α) H → va_D A (mW cI cS cZ ad σ α) → va_S A s.heap H locs → wp_Md_place_J97 XL67 σ α a1 a2 post → W p l e rm_Md_place s m ([.ref (ad 0)] : List Value).toArray below meth c H locs 0 0 Q (F0 m 97 ls []) := by
      intro σ α a1 a2 ls H locs hl hP hD hS hw
      unfold wp_Md_place_J97 at hw
      refine lv_iconst (v := 0) hx hb d_Md_place_97 (by decide) ?_
      exact J98 σ α a1 a2 (0 : Int32) ls H locs (lv_sub hl [0, 1, 2] rfl) hP hD hS hw
    refine lv_iload_n hx hb d_Md_place_67 rfl (lv_at hl 2 rfl) ?_
    refine lv_aload_n hx hb d_Md_place_68 rfl (lv_at hl 0 rfl) ?_
    refine va_get (D := D) (ci := 9) (v := .int (σ 24)) (C := R_Md) (T := T_Md) (N := 47) hx hb hts i_Md hown hK hP 0 rfl rfl 34 (by decide) (hts _ tw_568) (fun _ h9 => h9) rfl d_Md_place_69 ?_
    refine lv_icmp_ge (tgt := 261) hx hb d_Md_place_72 (by decide) (fun h => ?_) (fun h => ?_)
    · have hw := hw.1 h
      refine lv_iconst (v := 1) hx hb d_Md_place_261 (by decide) ?_
      exact hret H locs 262 ls (1 : Int32) (σ, α) d_Md_place_262 hP hD hS rfl hw
    · have hw := hw.2 h
      refine lv_aload_n hx hb d_Md_place_75 rfl (lv_at hl 0 rfl) ?_
      refine va_get (D := D) (ci := 9) (v := .ref (ad 11)) (C := R_Md) (T := T_Md) (N := 47) hx hb hts i_Md hown hK hP 0 rfl rfl 35 (by decide) (hts _ tw_569) (fun _ h9 => h9) rfl d_Md_place_76 ?_
      refine lv_iload_n hx hb d_Md_place_79 rfl (lv_at hl 2 rfl) ?_
      obtain ⟨hin, hw⟩ := hw
      refine va_iald (f := α 11) hx hb hK hP 11 0 rfl rfl hin d_Md_place_80 ?_
      refine lv_if_ne (tgt := 97) hx hb d_Md_place_81 (by decide) (fun h => ?_) (fun h => ?_)
      · have hw := hw.1 h
        exact J97 σ α a1 a2 ls H locs (lv_sub hl [0, 1, 2] rfl) hP hD hS hw
      · have hw := hw.2 h
        refine lv_aload_n hx hb d_Md_place_84 rfl (lv_at hl 0 rfl) ?_
        refine va_get (D := D) (ci := 9) (v := .ref (ad 12)) (C := R_Md) (T := T_Md) (N := 47) hx hb hts i_Md hown hK hP 0 rfl rfl 36 (by decide) (hts _ tw_570) (fun _ h9 => h9) rfl d_Md_place_85 ?_
        refine lv_iload_n hx hb d_Md_place_88 rfl (lv_at hl 2 rfl) ?_
        obtain ⟨hin, hw⟩ := hw
        refine va_iald (f := α 12) hx hb hK hP 12 0 rfl rfl hin d_Md_place_89 ?_
        refine lv_if_ne (tgt := 97) hx hb d_Md_place_90 (by decide) (fun h => ?_) (fun h => ?_)
        · have hw := hw.1 h
          exact J97 σ α a1 a2 ls H locs (lv_sub hl [0, 1, 2] rfl) hP hD hS hw
        · have hw := hw.2 h
          refine lv_iconst (v := 1) hx hb d_Md_place_93 (by decide) ?_
          refine lv_goto (tgt := 98) hx hb d_Md_place_94 (by decide) ?_
          exact J98 σ α a1 a2 (1 : Int32) ls H locs (lv_sub hl [0, 1, 2] rfl) hP hD hS hw
  have L44 : ∀ (σ : Nat → Int32) (α : Nat → Nat → Int32) (a1 : Int32) (ls : Array Slot) (H : Heap) (locs : List Loc), lv_has ls 6 [(0, .ref (ad 0)), (1, .int a1)] → va_P D gCl (mW cI cS cZ ad σ α) H → va_D A (mW cI cS cZ ad σ α) → va_S A s.heap H locs → wp_Md_place_L44 σ α a1 post → W p l e rm_Md_place s m ([.ref (ad 0)] : List Value).toArray below meth c H locs 0 0 Q (F0 m 44 ls []) := by
    intro σ α a1 ls H locs hl hP hD hS hw
    let XL44 : (Nat → Int32) → (Nat → Nat → Int32) → Int32 → Prop := fun σ α a1 => ∀ (ls : Array Slot) (H : Heap) (locs : List Loc), lv_has ls 6 [(0, .ref (ad 0)), (1, .int a1)] → va_P D gCl (mW cI cS cZ ad σ α) H → va_D A (mW cI cS cZ ad σ α) → va_S A s.heap H locs → W p l e rm_Md_place s m ([.ref (ad 0)] : List Value).toArray below meth c H locs 0 0 Q (F0 m 44 ls [])
    have hX44 : ∀ (σ : Nat → Int32) (α : Nat → Nat → Int32) (a1 : Int32) (ls : Array Slot) (H : Heap) (locs : List Loc), lv_has ls 6 [(0, .ref (ad 0)), (1, .int a1)] → va_P D gCl (mW cI cS cZ ad σ α) H → va_D A (mW cI cS cZ ad σ α) → va_S A s.heap H locs → XL44 σ α a1 → W p l e rm_Md_place s m ([.ref (ad 0)] : List Value).toArray below meth c H locs 0 0 Q (F0 m 44 ls []) := fun σ α a1 ls H locs hl hP hD hS hw => hw ls H locs hl hP hD hS
    refine hw XL44 ?_ ls H locs hl hP hD hS
    clear hw hl hP hD hS
    intro σ α a1 hw ls H locs hl hP hD hS
    unfold wp_Md_place_B44 at hw
    refine lv_iload_n hx hb d_Md_place_44 rfl (lv_at hl 1 rfl) ?_
    refine lv_bipush (v := 16) hx hb d_Md_place_45 (by decide) ?_
    refine lv_icmp_ge (tgt := 63) hx hb d_Md_place_47 (by decide) (fun h => ?_) (fun h => ?_)
    · have hw := hw.1 h
      refine lv_iconst (v := 0) hx hb d_Md_place_63 (by decide) ?_
      refine lv_istore_n hx hb d_Md_place_64 rfl hl (by decide) rfl (fun ls hl => ?_)
      have hl : lv_has ls 6 [(1, .int (0 : Int32)), (0, .ref (ad 0))] := hl
      refine lv_iconst (v := 0) hx hb d_Md_place_65 (by decide) ?_
      refine lv_istore_n hx hb d_Md_place_66 rfl hl (by decide) rfl (fun ls hl => ?_)
      have hl : lv_has ls 6 [(2, .int (0 : Int32)), (1, .int (0 : Int32)), (0, .ref (ad 0))] := hl
      exact L67 σ α (0 : Int32) (0 : Int32) ls H locs (lv_sub hl [2, 1, 0] rfl) hP hD hS hw
    · have hw := hw.2 h
      refine lv_aload_n hx hb d_Md_place_50 rfl (lv_at hl 0 rfl) ?_
      refine va_get (D := D) (ci := 9) (v := .ref (ad 19)) (C := R_Md) (T := T_Md) (N := 47) hx hb hts i_Md hown hK hP 0 rfl rfl 43 (by decide) (hts _ tw_577) (fun _ h9 => h9) rfl d_Md_place_51 ?_
      refine lv_iload_n hx hb d_Md_place_54 rfl (lv_at hl 1 rfl) ?_
      refine lv_iconst (v := (-1)) hx hb d_Md_place_55 (by decide) ?_
      obtain ⟨hin, hw⟩ := hw
      refine va_iast (f := α 19) (i := a1) (x := (-1 : Int32)) hx hb hK hP hD hS 19 0 rfl rfl hin d_Md_place_56 (fun H locs hP hD hS => ?_)
      rw [mW_s19] at hP hD
      have hP : va_P D gCl (mW cI cS cZ ad σ (va_up α 19 (upd (α 19) a1.toNatClampNeg (-1 : Int32)))) H := hP
      have hD : va_D A (mW cI cS cZ ad σ (va_up α 19 (upd (α 19) a1.toNatClampNeg (-1 : Int32)))) := hD
      refine lv_iinc (k := 1) hx hb d_Md_place_57 hl rfl rfl (by decide) rfl (fun ls hl => ?_)
      have hl : lv_has ls 6 [(1, .int (a1 + Int32.ofInt 1)), (0, .ref (ad 0))] := hl
      refine lv_goto (tgt := 44) hx hb d_Md_place_60 (by decide) ?_
      exact hX44 σ (va_up α 19 (upd (α 19) a1.toNatClampNeg (-1 : Int32))) (a1 + Int32.ofInt 1) ls H locs (lv_sub hl [1, 0] rfl) hP hD hS hw
  have L23 : ∀ (σ : Nat → Int32) (α : Nat → Nat → Int32) (a1 : Int32) (ls : Array Slot) (H : Heap) (locs : List Loc), lv_has ls 6 [(0, .ref (ad 0)), (1, .int a1)] → va_P D gCl (mW cI cS cZ ad σ α) H → va_D A (mW cI cS cZ ad σ α) → va_S A s.heap H locs → wp_Md_place_L23 σ α a1 post → W p l e rm_Md_place s m ([.ref (ad 0)] : List Value).toArray below meth c H locs 0 0 Q (F0 m 23 ls []) := by
    intro σ α a1 ls H locs hl hP hD hS hw
    let XL23 : (Nat → Int32) → (Nat → Nat → Int32) → Int32 → Prop := fun σ α a1 => ∀ (ls : Array Slot) (H : Heap) (locs : List Loc), lv_has ls 6 [(0, .ref (ad 0)), (1, .int a1)] → va_P D gCl (mW cI cS cZ ad σ α) H → va_D A (mW cI cS cZ ad σ α) → va_S A s.heap H locs → W p l e rm_Md_place s m ([.ref (ad 0)] : List Value).toArray below meth c H locs 0 0 Q (F0 m 23 ls [])
    have hX23 : ∀ (σ : Nat → Int32) (α : Nat → Nat → Int32) (a1 : Int32) (ls : Array Slot) (H : Heap) (locs : List Loc), lv_has ls 6 [(0, .ref (ad 0)), (1, .int a1)] → va_P D gCl (mW cI cS cZ ad σ α) H → va_D A (mW cI cS cZ ad σ α) → va_S A s.heap H locs → XL23 σ α a1 → W p l e rm_Md_place s m ([.ref (ad 0)] : List Value).toArray below meth c H locs 0 0 Q (F0 m 23 ls []) := fun σ α a1 ls H locs hl hP hD hS hw => hw ls H locs hl hP hD hS
    refine hw XL23 ?_ ls H locs hl hP hD hS
    clear hw hl hP hD hS
    intro σ α a1 hw ls H locs hl hP hD hS
    unfold wp_Md_place_B23 at hw
    refine lv_iload_n hx hb d_Md_place_23 rfl (lv_at hl 1 rfl) ?_
    refine lv_bipush (v := 32) hx hb d_Md_place_24 (by decide) ?_
    refine lv_icmp_ge (tgt := 42) hx hb d_Md_place_26 (by decide) (fun h => ?_) (fun h => ?_)
    · have hw := hw.1 h
      refine lv_iconst (v := 0) hx hb d_Md_place_42 (by decide) ?_
      refine lv_istore_n hx hb d_Md_place_43 rfl hl (by decide) rfl (fun ls hl => ?_)
      have hl : lv_has ls 6 [(1, .int (0 : Int32)), (0, .ref (ad 0))] := hl
      exact L44 σ α (0 : Int32) ls H locs (lv_sub hl [1, 0] rfl) hP hD hS hw
    · have hw := hw.2 h
      refine lv_aload_n hx hb d_Md_place_29 rfl (lv_at hl 0 rfl) ?_
      refine va_get (D := D) (ci := 9) (v := .ref (ad 18)) (C := R_Md) (T := T_Md) (N := 47) hx hb hts i_Md hown hK hP 0 rfl rfl 42 (by decide) (hts _ tw_576) (fun _ h9 => h9) rfl d_Md_place_30 ?_
      refine lv_iload_n hx hb d_Md_place_33 rfl (lv_at hl 1 rfl) ?_
      refine lv_iconst (v := 0) hx hb d_Md_place_34 (by decide) ?_
      obtain ⟨hin, hw⟩ := hw
      refine va_zast (f := α 18) (i := a1) (x := (0 : Int32)) hx hb hK hP hD hS 18 2 rfl rfl hin d_Md_place_35 (fun H locs hP hD hS => ?_)
      rw [mW_s18] at hP hD
      have hP : va_P D gCl (mW cI cS cZ ad σ (va_up α 18 (upd (α 18) a1.toNatClampNeg (vp_nar .boolean (0 : Int32))))) H := hP
      have hD : va_D A (mW cI cS cZ ad σ (va_up α 18 (upd (α 18) a1.toNatClampNeg (vp_nar .boolean (0 : Int32))))) := hD
      refine lv_iinc (k := 1) hx hb d_Md_place_36 hl rfl rfl (by decide) rfl (fun ls hl => ?_)
      have hl : lv_has ls 6 [(1, .int (a1 + Int32.ofInt 1)), (0, .ref (ad 0))] := hl
      refine lv_goto (tgt := 23) hx hb d_Md_place_39 (by decide) ?_
      exact hX23 σ (va_up α 18 (upd (α 18) a1.toNatClampNeg (vp_nar .boolean (0 : Int32)))) (a1 + Int32.ofInt 1) ls H locs (lv_sub hl [1, 0] rfl) hP hD hS hw
  have L2 : ∀ (σ : Nat → Int32) (α : Nat → Nat → Int32) (a1 : Int32) (ls : Array Slot) (H : Heap) (locs : List Loc), lv_has ls 6 [(0, .ref (ad 0)), (1, .int a1)] → va_P D gCl (mW cI cS cZ ad σ α) H → va_D A (mW cI cS cZ ad σ α) → va_S A s.heap H locs → wp_Md_place_L2 σ α a1 post → W p l e rm_Md_place s m ([.ref (ad 0)] : List Value).toArray below meth c H locs 0 0 Q (F0 m 2 ls []) := by
    intro σ α a1 ls H locs hl hP hD hS hw
    let XL2 : (Nat → Int32) → (Nat → Nat → Int32) → Int32 → Prop := fun σ α a1 => ∀ (ls : Array Slot) (H : Heap) (locs : List Loc), lv_has ls 6 [(0, .ref (ad 0)), (1, .int a1)] → va_P D gCl (mW cI cS cZ ad σ α) H → va_D A (mW cI cS cZ ad σ α) → va_S A s.heap H locs → W p l e rm_Md_place s m ([.ref (ad 0)] : List Value).toArray below meth c H locs 0 0 Q (F0 m 2 ls [])
    have hX2 : ∀ (σ : Nat → Int32) (α : Nat → Nat → Int32) (a1 : Int32) (ls : Array Slot) (H : Heap) (locs : List Loc), lv_has ls 6 [(0, .ref (ad 0)), (1, .int a1)] → va_P D gCl (mW cI cS cZ ad σ α) H → va_D A (mW cI cS cZ ad σ α) → va_S A s.heap H locs → XL2 σ α a1 → W p l e rm_Md_place s m ([.ref (ad 0)] : List Value).toArray below meth c H locs 0 0 Q (F0 m 2 ls []) := fun σ α a1 ls H locs hl hP hD hS hw => hw ls H locs hl hP hD hS
    refine hw XL2 ?_ ls H locs hl hP hD hS
    clear hw hl hP hD hS
    intro σ α a1 hw ls H locs hl hP hD hS
    unfold wp_Md_place_B2 at hw
    refine lv_iload_n hx hb d_Md_place_2 rfl (lv_at hl 1 rfl) ?_
    refine lv_bipush (v := 64) hx hb d_Md_place_3 (by decide) ?_
    refine lv_icmp_ge (tgt := 21) hx hb d_Md_place_5 (by decide) (fun h => ?_) (fun h => ?_)
    · have hw := hw.1 h
      refine lv_iconst (v := 0) hx hb d_Md_place_21 (by decide) ?_
      refine lv_istore_n hx hb d_Md_place_22 rfl hl (by decide) rfl (fun ls hl => ?_)
      have hl : lv_has ls 6 [(1, .int (0 : Int32)), (0, .ref (ad 0))] := hl
      exact L23 σ α (0 : Int32) ls H locs (lv_sub hl [1, 0] rfl) hP hD hS hw
    · have hw := hw.2 h
      refine lv_aload_n hx hb d_Md_place_8 rfl (lv_at hl 0 rfl) ?_
      refine va_get (D := D) (ci := 9) (v := .ref (ad 17)) (C := R_Md) (T := T_Md) (N := 47) hx hb hts i_Md hown hK hP 0 rfl rfl 41 (by decide) (hts _ tw_575) (fun _ h9 => h9) rfl d_Md_place_9 ?_
      refine lv_iload_n hx hb d_Md_place_12 rfl (lv_at hl 1 rfl) ?_
      refine lv_iconst (v := 0) hx hb d_Md_place_13 (by decide) ?_
      obtain ⟨hin, hw⟩ := hw
      refine va_zast (f := α 17) (i := a1) (x := (0 : Int32)) hx hb hK hP hD hS 17 2 rfl rfl hin d_Md_place_14 (fun H locs hP hD hS => ?_)
      rw [mW_s17] at hP hD
      have hP : va_P D gCl (mW cI cS cZ ad σ (va_up α 17 (upd (α 17) a1.toNatClampNeg (vp_nar .boolean (0 : Int32))))) H := hP
      have hD : va_D A (mW cI cS cZ ad σ (va_up α 17 (upd (α 17) a1.toNatClampNeg (vp_nar .boolean (0 : Int32))))) := hD
      refine lv_iinc (k := 1) hx hb d_Md_place_15 hl rfl rfl (by decide) rfl (fun ls hl => ?_)
      have hl : lv_has ls 6 [(1, .int (a1 + Int32.ofInt 1)), (0, .ref (ad 0))] := hl
      refine lv_goto (tgt := 2) hx hb d_Md_place_18 (by decide) ?_
      exact hX2 σ (va_up α 17 (upd (α 17) a1.toNatClampNeg (vp_nar .boolean (0 : Int32)))) (a1 + Int32.ofInt 1) ls H locs (lv_sub hl [1, 0] rfl) hP hD hS hw
  unfold wp_Md_place at hw
  have hP : va_P D gCl (mW cI cS cZ ad σ α) s.heap := hP
  have hD : va_D A (mW cI cS cZ ad σ α) := hD
  obtain ⟨H, hH⟩ : ∃ H, H = s.heap := ⟨_, rfl⟩
  obtain ⟨locs, hlocs⟩ : ∃ locs : List Loc, locs = [] := ⟨_, rfl⟩
  have hP : va_P D gCl (mW cI cS cZ ad σ α) H := by rw [hH]; exact hP
  have hS : va_S A s.heap H locs := by rw [hH, hlocs]; exact hS
  suffices K : W p l e rm_Md_place s m ([.ref (ad 0)] : List Value).toArray below meth c H locs 0 0 Q (F0 m 0 ls []) by rw [hH, hlocs] at K; exact K
  clear hH hlocs
  refine lv_iconst (v := 0) hx hb d_Md_place_0 (by decide) ?_
  refine lv_istore_n hx hb d_Md_place_1 rfl hl (by decide) rfl (fun ls hl => ?_)
  have hl : lv_has ls 6 [(1, .int (0 : Int32)), (0, .ref (ad 0))] := hl
  exact L2 σ α (0 : Int32) ls H locs (lv_sub hl [1, 0] rfl) hP hD hS hw
abbrev rm_Md_firstOf : Room := { frames := 0, cells := 0, slots := 0, locals := 0 }
set_option maxHeartbeats 4000000 in
set_option maxRecDepth 100000 in
theorem c_Md_firstOf (l : Launch) (D : va_G) (cI cS cZ : ClassId) (ad : Nat → Nat) (σ : Nat → Int32) (α : Nat → Nat → Int32) (x1 : Int32) (post : Int32 → gS → Prop) (hw : wp_Md_firstOf σ α x1 post) : gMi l y_Md_firstOf b_Md_firstOf 3 .int rm_Md_firstOf D (gT cI cS cZ) (fun u : gS => mW cI cS cZ ad u.1 u.2) [.ref (ad 0), .int x1] (σ, α) post := by
  refine gMi.of (by decide) (Nat.le_of_ble_eq_true rfl) ?_
  intro p e s m below meth c Q A hx hb hml hown hts hK hN hA hS hP hD hret ls hl
  have hl : lv_has ls 3 [(0, .ref (ad 0)), (1, .int x1)] := hl
  have L2 : ∀ (σ : Nat → Int32) (α : Nat → Nat → Int32) (a1 : Int32) (a2 : Int32) (ls : Array Slot) (H : Heap) (locs : List Loc), lv_has ls 3 [(0, .ref (ad 0)), (1, .int a1), (2, .int a2)] → va_P D gCl (mW cI cS cZ ad σ α) H → va_D A (mW cI cS cZ ad σ α) → va_S A s.heap H locs → wp_Md_firstOf_L2 σ α a1 a2 post → W p l e rm_Md_firstOf s m ([.ref (ad 0), .int x1] : List Value).toArray below meth c H locs 0 0 Q (F0 m 2 ls []) := by
    intro σ α a1 a2 ls H locs hl hP hD hS hw
    let XL2 : (Nat → Int32) → (Nat → Nat → Int32) → Int32 → Int32 → Prop := fun σ α a1 a2 => ∀ (ls : Array Slot) (H : Heap) (locs : List Loc), lv_has ls 3 [(0, .ref (ad 0)), (1, .int a1), (2, .int a2)] → va_P D gCl (mW cI cS cZ ad σ α) H → va_D A (mW cI cS cZ ad σ α) → va_S A s.heap H locs → W p l e rm_Md_firstOf s m ([.ref (ad 0), .int x1] : List Value).toArray below meth c H locs 0 0 Q (F0 m 2 ls [])
    have hX2 : ∀ (σ : Nat → Int32) (α : Nat → Nat → Int32) (a1 : Int32) (a2 : Int32) (ls : Array Slot) (H : Heap) (locs : List Loc), lv_has ls 3 [(0, .ref (ad 0)), (1, .int a1), (2, .int a2)] → va_P D gCl (mW cI cS cZ ad σ α) H → va_D A (mW cI cS cZ ad σ α) → va_S A s.heap H locs → XL2 σ α a1 a2 → W p l e rm_Md_firstOf s m ([.ref (ad 0), .int x1] : List Value).toArray below meth c H locs 0 0 Q (F0 m 2 ls []) := fun σ α a1 a2 ls H locs hl hP hD hS hw => hw ls H locs hl hP hD hS
    refine hw XL2 ?_ ls H locs hl hP hD hS
    clear hw hl hP hD hS
    intro σ α a1 a2 hw ls H locs hl hP hD hS
    unfold wp_Md_firstOf_B2 at hw
    refine lv_aload_n hx hb d_Md_firstOf_2 rfl (lv_at hl 0 rfl) ?_
    refine va_get (D := D) (ci := 9) (v := .ref (ad 14)) (C := R_Md) (T := T_Md) (N := 47) hx hb hts i_Md hown hK hP 0 rfl rfl 38 (by decide) (hts _ tw_572) (fun _ h9 => h9) rfl d_Md_firstOf_3 ?_
    refine lv_iload_n hx hb d_Md_firstOf_6 rfl (lv_at hl 2 rfl) ?_
    obtain ⟨hin, hw⟩ := hw
    refine va_iald (f := α 14) hx hb hK hP 14 0 rfl rfl hin d_Md_firstOf_7 ?_
    refine lv_iload_n hx hb d_Md_firstOf_8 rfl (lv_at hl 1 rfl) ?_
    refine lv_icmp_eq (tgt := 18) hx hb d_Md_firstOf_9 (by decide) (fun h => ?_) (fun h => ?_)
    · have hw := hw.1 h
      refine lv_iload_n hx hb d_Md_firstOf_18 rfl (lv_at hl 2 rfl) ?_
      exact hret H locs 19 ls a2 (σ, α) d_Md_firstOf_19 hP hD hS (vp_nar_int _) hw
    · have hw := hw.2 h
      refine lv_iinc (k := 2) hx hb d_Md_firstOf_12 hl rfl rfl (by decide) rfl (fun ls hl => ?_)
      have hl : lv_has ls 3 [(2, .int (a2 + Int32.ofInt 1)), (0, .ref (ad 0)), (1, .int a1)] := hl
      refine lv_goto (tgt := 2) hx hb d_Md_firstOf_15 (by decide) ?_
      exact hX2 σ α a1 (a2 + Int32.ofInt 1) ls H locs (lv_sub hl [1, 2, 0] rfl) hP hD hS hw
  unfold wp_Md_firstOf at hw
  have hP : va_P D gCl (mW cI cS cZ ad σ α) s.heap := hP
  have hD : va_D A (mW cI cS cZ ad σ α) := hD
  obtain ⟨H, hH⟩ : ∃ H, H = s.heap := ⟨_, rfl⟩
  obtain ⟨locs, hlocs⟩ : ∃ locs : List Loc, locs = [] := ⟨_, rfl⟩
  have hP : va_P D gCl (mW cI cS cZ ad σ α) H := by rw [hH]; exact hP
  have hS : va_S A s.heap H locs := by rw [hH, hlocs]; exact hS
  suffices K : W p l e rm_Md_firstOf s m ([.ref (ad 0), .int x1] : List Value).toArray below meth c H locs 0 0 Q (F0 m 0 ls []) by rw [hH, hlocs] at K; exact K
  clear hH hlocs
  refine lv_iconst (v := 0) hx hb d_Md_firstOf_0 (by decide) ?_
  refine lv_istore_n hx hb d_Md_firstOf_1 rfl hl (by decide) rfl (fun ls hl => ?_)
  have hl : lv_has ls 3 [(2, .int (0 : Int32)), (0, .ref (ad 0)), (1, .int x1)] := hl
  exact L2 σ α x1 (0 : Int32) ls H locs (lv_sub hl [1, 2, 0] rfl) hP hD hS hw
abbrev rm_Md_isSecond : Room := { frames := 0, cells := 0, slots := 0, locals := 0 }
set_option maxHeartbeats 4000000 in
set_option maxRecDepth 100000 in
theorem c_Md_isSecond (l : Launch) (D : va_G) (cI cS cZ : ClassId) (ad : Nat → Nat) (σ : Nat → Int32) (α : Nat → Nat → Int32) (x1 : Int32) (post : Int32 → gS → Prop) (hw : wp_Md_isSecond σ α x1 post) : gMi l y_Md_isSecond b_Md_isSecond 2 .boolean rm_Md_isSecond D (gT cI cS cZ) (fun u : gS => mW cI cS cZ ad u.1 u.2) [.ref (ad 0), .int x1] (σ, α) post := by
  refine gMi.of (by decide) (Nat.le_of_ble_eq_true rfl) ?_
  intro p e s m below meth c Q A hx hb hml hown hts hK hN hA hS hP hD hret ls hl
  have hl : lv_has ls 2 [(0, .ref (ad 0)), (1, .int x1)] := hl
  have J35 : ∀ (σ : Nat → Int32) (α : Nat → Nat → Int32) (t0 : Int32) (ls : Array Slot) (H : Heap) (locs : List Loc), lv_has ls 2 [] → va_P D gCl (mW cI cS cZ ad σ α) H → va_D A (mW cI cS cZ ad σ α) → va_S A s.heap H locs → wp_Md_isSecond_J35 σ α t0 post → W p l e rm_Md_isSecond s m ([.ref (ad 0), .int x1] : List Value).toArray below meth c H locs 0 0 Q (F0 m 35 ls [.int t0]) := by
    intro σ α t0 ls H locs hl hP hD hS hw
    unfold wp_Md_isSecond_J35 at hw
    obtain ⟨hn, hw⟩ := hw
    exact hret H locs 35 ls t0 (σ, α) d_Md_isSecond_35 hP hD hS hn hw
  have J34 : ∀ (σ : Nat → Int32) (α : Nat → Nat → Int32) (ls : Array Slot) (H : Heap) (locs : List Loc), lv_has ls 2 [] → va_P D gCl (mW cI cS cZ ad σ α) H → va_D A (mW cI cS cZ ad σ α) → va_S A s.heap H locs → wp_Md_isSecond_J34 σ α post → W p l e rm_Md_isSecond s m ([.ref (ad 0), .int x1] : List Value).toArray below meth c H locs 0 0 Q (F0 m 34 ls []) := by
    intro σ α ls H locs hl hP hD hS hw
    unfold wp_Md_isSecond_J34 at hw
    refine lv_iconst (v := 0) hx hb d_Md_isSecond_34 (by decide) ?_
    exact J35 σ α (0 : Int32) ls H locs (lv_sub hl [] rfl) hP hD hS hw
  unfold wp_Md_isSecond at hw
  have hP : va_P D gCl (mW cI cS cZ ad σ α) s.heap := hP
  have hD : va_D A (mW cI cS cZ ad σ α) := hD
  obtain ⟨H, hH⟩ : ∃ H, H = s.heap := ⟨_, rfl⟩
  obtain ⟨locs, hlocs⟩ : ∃ locs : List Loc, locs = [] := ⟨_, rfl⟩
  have hP : va_P D gCl (mW cI cS cZ ad σ α) H := by rw [hH]; exact hP
  have hS : va_S A s.heap H locs := by rw [hH, hlocs]; exact hS
  suffices K : W p l e rm_Md_isSecond s m ([.ref (ad 0), .int x1] : List Value).toArray below meth c H locs 0 0 Q (F0 m 0 ls []) by rw [hH, hlocs] at K; exact K
  clear hH hlocs
  refine lv_aload_n hx hb d_Md_isSecond_0 rfl (lv_at hl 0 rfl) ?_
  refine va_get (D := D) (ci := 9) (v := .ref (ad 14)) (C := R_Md) (T := T_Md) (N := 47) hx hb hts i_Md hown hK hP 0 rfl rfl 38 (by decide) (hts _ tw_572) (fun _ h9 => h9) rfl d_Md_isSecond_1 ?_
  refine lv_iload_n hx hb d_Md_isSecond_4 rfl (lv_at hl 1 rfl) ?_
  obtain ⟨hin, hw⟩ := hw
  refine va_iald (f := α 14) hx hb hK hP 14 0 rfl rfl hin d_Md_isSecond_5 ?_
  refine lv_aload_n hx hb d_Md_isSecond_6 rfl (lv_at hl 0 rfl) ?_
  refine va_get (D := D) (ci := 9) (v := .ref (ad 14)) (C := R_Md) (T := T_Md) (N := 47) hx hb hts i_Md hown hK hP 0 rfl rfl 38 (by decide) (hts _ tw_572) (fun _ h9 => h9) rfl d_Md_isSecond_7 ?_
  refine lv_iload_n hx hb d_Md_isSecond_10 rfl (lv_at hl 1 rfl) ?_
  refine lv_iconst (v := 2) hx hb d_Md_isSecond_11 (by decide) ?_
  refine lv_isub hx hb d_Md_isSecond_12 ?_
  obtain ⟨hin, hw⟩ := hw
  refine va_iald (f := α 14) hx hb hK hP 14 0 rfl rfl hin d_Md_isSecond_13 ?_
  refine lv_icmp_ne (tgt := 34) hx hb d_Md_isSecond_14 (by decide) (fun h => ?_) (fun h => ?_)
  · have hw := hw.1 h
    exact J34 σ α ls H locs (lv_sub hl [] rfl) hP hD hS hw
  · have hw := hw.2 h
    refine lv_aload_n hx hb d_Md_isSecond_17 rfl (lv_at hl 0 rfl) ?_
    refine va_get (D := D) (ci := 9) (v := .ref (ad 12)) (C := R_Md) (T := T_Md) (N := 47) hx hb hts i_Md hown hK hP 0 rfl rfl 36 (by decide) (hts _ tw_570) (fun _ h9 => h9) rfl d_Md_isSecond_18 ?_
    refine lv_iload_n hx hb d_Md_isSecond_21 rfl (lv_at hl 1 rfl) ?_
    refine lv_iconst (v := 2) hx hb d_Md_isSecond_22 (by decide) ?_
    refine lv_isub hx hb d_Md_isSecond_23 ?_
    obtain ⟨hin, hw⟩ := hw
    refine va_iald (f := α 12) hx hb hK hP 12 0 rfl rfl hin d_Md_isSecond_24 ?_
    refine lv_bipush (v := 11) hx hb d_Md_isSecond_25 (by decide) ?_
    refine lv_icmp_ne (tgt := 34) hx hb d_Md_isSecond_27 (by decide) (fun h => ?_) (fun h => ?_)
    · have hw := hw.1 h
      exact J34 σ α ls H locs (lv_sub hl [] rfl) hP hD hS hw
    · have hw := hw.2 h
      refine lv_iconst (v := 1) hx hb d_Md_isSecond_30 (by decide) ?_
      refine lv_goto (tgt := 35) hx hb d_Md_isSecond_31 (by decide) ?_
      exact J35 σ α (1 : Int32) ls H locs (lv_sub hl [] rfl) hP hD hS hw
abbrev rm_Md_write : Room := { frames := 1, cells := 0, slots := 0, locals := 22 }
set_option maxHeartbeats 4000000 in
set_option maxRecDepth 100000 in
theorem c_Md_write (l : Launch) (D : va_G) (cI cS cZ : ClassId) (ad : Nat → Nat) (σ : Nat → Int32) (α : Nat → Nat → Int32) (x1 : Int32) (post : gS → Prop) (hw : wp_Md_write σ α x1 post) : gMv l y_Md_write b_Md_write 7 rm_Md_write D (gT cI cS cZ) (fun u : gS => mW cI cS cZ ad u.1 u.2) [.ref (ad 0), .int x1] (σ, α) post := by
  refine gMv.of (by decide) (Nat.le_of_ble_eq_true rfl) ?_
  intro p e s m below meth c Q A hx hb hml hown hts hK hN hA hS hP hD hret ls hl
  have hl : lv_has ls 7 [(0, .ref (ad 0)), (1, .int x1)] := hl
  have J221 : ∀ (σ : Nat → Int32) (α : Nat → Nat → Int32) (ls : Array Slot) (H : Heap) (locs : List Loc), lv_has ls 7 [] → va_P D gCl (mW cI cS cZ ad σ α) H → va_D A (mW cI cS cZ ad σ α) → va_S A s.heap H locs → wp_Md_write_J221 σ α post → W p l e rm_Md_write s m ([.ref (ad 0), .int x1] : List Value).toArray below meth c H locs 0 0 Q (F0 m 221 ls []) := by
    intro σ α ls H locs hl hP hD hS hw
    unfold wp_Md_write_J221 at hw
    exact hret H locs 221 ls (σ, α) d_Md_write_221 hP hD hS hw
  have J170 : ∀ (σ : Nat → Int32) (α : Nat → Nat → Int32) (a1 : Int32) (a2 : Int32) (a3 : Int32) (t0 : Int32) (ls : Array Slot) (H : Heap) (locs : List Loc), lv_has ls 7 [(0, .ref (ad 0)), (1, .int a1), (2, .int a2), (3, .int a3)] → va_P D gCl (mW cI cS cZ ad σ α) H → va_D A (mW cI cS cZ ad σ α) → va_S A s.heap H locs → wp_Md_write_J170 σ α a1 a2 a3 t0 post → W p l e rm_Md_write s m ([.ref (ad 0), .int x1] : List Value).toArray below meth c H locs 0 0 Q (F0 m 170 ls [.int t0]) := by
    intro σ α a1 a2 a3 t0 ls H locs hl hP hD hS hw
    unfold wp_Md_write_J170 at hw
    refine lv_istore hx hb d_Md_write_170 hl (by decide) rfl (fun ls hl => ?_)
    have hl : lv_has ls 7 [(6, .int t0), (0, .ref (ad 0)), (1, .int a1), (2, .int a2), (3, .int a3)] := hl
    refine lv_aload_n hx hb d_Md_write_172 rfl (lv_at hl 1 rfl) ?_
    refine va_get (D := D) (ci := 9) (v := .ref (ad 12)) (C := R_Md) (T := T_Md) (N := 47) hx hb hts i_Md hown hK hP 0 rfl rfl 36 (by decide) (hts _ tw_570) (fun _ h9 => h9) rfl d_Md_write_173 ?_
    refine lv_iload_n hx hb d_Md_write_176 rfl (lv_at hl 2 rfl) ?_
    obtain ⟨hin, hw⟩ := hw
    refine va_iald (f := α 12) hx hb hK hP 12 0 rfl rfl hin d_Md_write_177 ?_
    refine lv_iconst (v := 1) hx hb d_Md_write_178 (by decide) ?_
    refine lv_icmp_ne (tgt := 193) hx hb d_Md_write_179 (by decide) (fun h => ?_) (fun h => ?_)
    · have hw := hw.1 h
      refine lv_aload_n hx hb d_Md_write_193 rfl (lv_at hl 1 rfl) ?_
      refine va_get (D := D) (ci := 9) (v := .ref (ad 1)) (C := R_Md) (T := T_Md) (N := 47) hx hb hts i_Md hown hK hP 0 rfl rfl 0 (by decide) (hts _ tw_534) (fun _ h9 => h9) rfl d_Md_write_194 ?_
      refine lv_iload_n hx hb d_Md_write_197 rfl (lv_at hl 3 rfl) ?_
      refine lv_iload_n hx hb d_Md_write_198 rfl (lv_at hl 4 rfl) ?_
      refine lv_iload hx hb d_Md_write_199 (lv_at hl 0 rfl) ?_
      refine lv_iload_n hx hb d_Md_write_201 rfl (lv_at hl 3 rfl) ?_
      refine lv_isub hx hb d_Md_write_202 ?_
      refine lv_iconst (v := 2) hx hb d_Md_write_203 (by decide) ?_
      refine lv_isub hx hb d_Md_write_204 ?_
      refine lv_bipush (v := 31) hx hb d_Md_write_205 (by decide) ?_
      refine lv_iand hx hb d_Md_write_207 ?_
      refine lv_bipush (v := 15) hx hb d_Md_write_208 (by decide) ?_
      refine lv_ishl hx hb d_Md_write_210 ?_
      refine lv_ior hx hb d_Md_write_211 ?_
      refine lv_iload hx hb d_Md_write_212 (lv_at hl 0 rfl) ?_
      refine lv_iconst (v := 5) hx hb d_Md_write_214 (by decide) ?_
      refine lv_ishr hx hb d_Md_write_215 ?_
      refine lv_bipush (v := 20) hx hb d_Md_write_216 (by decide) ?_
      refine lv_ishl hx hb d_Md_write_218 ?_
      refine lv_ior hx hb d_Md_write_219 ?_
      obtain ⟨hin, hw⟩ := hw
      refine va_iast (f := α 1) (i := a2) (x := (a3 ||| ((((t0 - a2) - (2 : Int32)) &&& (31 : Int32)) <<< ((15 : Int32) &&& 31))) ||| ((t0 >>> ((5 : Int32) &&& 31)) <<< ((20 : Int32) &&& 31))) hx hb hK hP hD hS 1 0 rfl rfl hin d_Md_write_220 (fun H locs hP hD hS => ?_)
      rw [mW_s1] at hP hD
      have hP : va_P D gCl (mW cI cS cZ ad σ (va_up α 1 (upd (α 1) a2.toNatClampNeg ((a3 ||| ((((t0 - a2) - (2 : Int32)) &&& (31 : Int32)) <<< ((15 : Int32) &&& 31))) ||| ((t0 >>> ((5 : Int32) &&& 31)) <<< ((20 : Int32) &&& 31)))))) H := hP
      have hD : va_D A (mW cI cS cZ ad σ (va_up α 1 (upd (α 1) a2.toNatClampNeg ((a3 ||| ((((t0 - a2) - (2 : Int32)) &&& (31 : Int32)) <<< ((15 : Int32) &&& 31))) ||| ((t0 >>> ((5 : Int32) &&& 31)) <<< ((20 : Int32) &&& 31)))))) := hD
      exact J221 σ (va_up α 1 (upd (α 1) a2.toNatClampNeg ((a3 ||| ((((t0 - a2) - (2 : Int32)) &&& (31 : Int32)) <<< ((15 : Int32) &&& 31))) ||| ((t0 >>> ((5 : Int32) &&& 31)) <<< ((20 : Int32) &&& 31))))) ls H locs (lv_sub hl [] rfl) hP hD hS hw
    · have hw := hw.2 h
      refine lv_aload_n hx hb d_Md_write_182 rfl (lv_at hl 1 rfl) ?_
      refine va_get (D := D) (ci := 9) (v := .ref (ad 1)) (C := R_Md) (T := T_Md) (N := 47) hx hb hts i_Md hown hK hP 0 rfl rfl 0 (by decide) (hts _ tw_534) (fun _ h9 => h9) rfl d_Md_write_183 ?_
      refine lv_iload_n hx hb d_Md_write_186 rfl (lv_at hl 3 rfl) ?_
      refine lv_ldc hx hb hown (hts _ tw_806) d_Md_write_187 ?_
      obtain ⟨hin, hw⟩ := hw
      refine va_iast (f := α 1) (i := a2) (x := (1015824 : Int32)) hx hb hK hP hD hS 1 0 rfl rfl hin d_Md_write_189 (fun H locs hP hD hS => ?_)
      rw [mW_s1] at hP hD
      have hP : va_P D gCl (mW cI cS cZ ad σ (va_up α 1 (upd (α 1) a2.toNatClampNeg (1015824 : Int32)))) H := hP
      have hD : va_D A (mW cI cS cZ ad σ (va_up α 1 (upd (α 1) a2.toNatClampNeg (1015824 : Int32)))) := hD
      refine lv_goto (tgt := 221) hx hb d_Md_write_190 (by decide) ?_
      exact J221 σ (va_up α 1 (upd (α 1) a2.toNatClampNeg (1015824 : Int32))) ls H locs (lv_sub hl [] rfl) hP hD hS hw
  have J102 : ∀ (σ : Nat → Int32) (α : Nat → Nat → Int32) (a1 : Int32) (a2 : Int32) (a3 : Int32) (a4 : Int32) (t0 : Int32) (ls : Array Slot) (H : Heap) (locs : List Loc), lv_has ls 7 [(0, .ref (ad 0)), (1, .int a1), (2, .int a2), (3, .int a3), (4, .int a4)] → va_P D gCl (mW cI cS cZ ad σ α) H → va_D A (mW cI cS cZ ad σ α) → va_S A s.heap H locs → wp_Md_write_J102 σ α a1 a2 a3 a4 t0 post → W p l e rm_Md_write s m ([.ref (ad 0), .int x1] : List Value).toArray below meth c H locs 0 0 Q (F0 m 102 ls [.int t0]) := by
    intro σ α a1 a2 a3 a4 t0 ls H locs hl hP hD hS hw
    unfold wp_Md_write_J102 at hw
    refine lv_istore hx hb d_Md_write_102 hl (by decide) rfl (fun ls hl => ?_)
    have hl : lv_has ls 7 [(5, .int t0), (0, .ref (ad 0)), (1, .int a1), (2, .int a2), (3, .int a3), (4, .int a4)] := hl
    refine lv_iload hx hb d_Md_write_104 (lv_at hl 5 rfl) ?_
    refine lv_if_eq (tgt := 148) hx hb d_Md_write_106 (by decide) (fun h => ?_) (fun h => ?_)
    · have hw := hw.1 h
      refine lv_iload_n hx hb d_Md_write_148 rfl (lv_at hl 2 rfl) ?_
      refine lv_iconst (v := 1) hx hb d_Md_write_149 (by decide) ?_
      refine lv_iadd hx hb d_Md_write_150 ?_
      refine lv_aload_n hx hb d_Md_write_151 rfl (lv_at hl 1 rfl) ?_
      refine va_get (D := D) (ci := 9) (v := .int (σ 24)) (C := R_Md) (T := T_Md) (N := 47) hx hb hts i_Md hown hK hP 0 rfl rfl 34 (by decide) (hts _ tw_568) (fun _ h9 => h9) rfl d_Md_write_152 ?_
      refine lv_icmp_ge (tgt := 169) hx hb d_Md_write_155 (by decide) (fun h => ?_) (fun h => ?_)
      · have hw := hw.1 h
        refine lv_iconst (v := 0) hx hb d_Md_write_169 (by decide) ?_
        exact J170 σ α a1 a2 a3 (0 : Int32) ls H locs (lv_sub hl [1, 2, 3, 4] rfl) hP hD hS hw
      · have hw := hw.2 h
        refine lv_aload_n hx hb d_Md_write_158 rfl (lv_at hl 1 rfl) ?_
        refine va_get (D := D) (ci := 9) (v := .ref (ad 15)) (C := R_Md) (T := T_Md) (N := 47) hx hb hts i_Md hown hK hP 0 rfl rfl 39 (by decide) (hts _ tw_573) (fun _ h9 => h9) rfl d_Md_write_159 ?_
        refine lv_iload_n hx hb d_Md_write_162 rfl (lv_at hl 2 rfl) ?_
        refine lv_iconst (v := 1) hx hb d_Md_write_163 (by decide) ?_
        refine lv_iadd hx hb d_Md_write_164 ?_
        obtain ⟨hin, hw⟩ := hw
        refine va_iald (f := α 15) hx hb hK hP 15 0 rfl rfl hin d_Md_write_165 ?_
        refine lv_goto (tgt := 170) hx hb d_Md_write_166 (by decide) ?_
        exact J170 σ α a1 a2 a3 (α 15 (a1 + (1 : Int32)).toNatClampNeg) ls H locs (lv_sub hl [1, 2, 3, 4] rfl) hP hD hS hw
    · have hw := hw.2 h
      refine lv_iload hx hb d_Md_write_109 (lv_at hl 0 rfl) ?_
      refine lv_if_eq (tgt := 137) hx hb d_Md_write_111 (by decide) (fun h => ?_) (fun h => ?_)
      · have hw := hw.1 h
        refine lv_aload_n hx hb d_Md_write_137 rfl (lv_at hl 1 rfl) ?_
        refine va_get (D := D) (ci := 9) (v := .ref (ad 15)) (C := R_Md) (T := T_Md) (N := 47) hx hb hts i_Md hown hK hP 0 rfl rfl 39 (by decide) (hts _ tw_573) (fun _ h9 => h9) rfl d_Md_write_138 ?_
        refine lv_iload_n hx hb d_Md_write_141 rfl (lv_at hl 2 rfl) ?_
        refine lv_iconst (v := 2) hx hb d_Md_write_142 (by decide) ?_
        refine lv_iadd hx hb d_Md_write_143 ?_
        obtain ⟨hin, hw⟩ := hw
        refine va_iald (f := α 15) hx hb hK hP 15 0 rfl rfl hin d_Md_write_144 ?_
        refine lv_goto (tgt := 170) hx hb d_Md_write_145 (by decide) ?_
        exact J170 σ α a1 a2 a3 (α 15 (a1 + (2 : Int32)).toNatClampNeg) ls H locs (lv_sub hl [1, 2, 3, 4] rfl) hP hD hS hw
      · have hw := hw.2 h
        refine lv_aload_n hx hb d_Md_write_114 rfl (lv_at hl 1 rfl) ?_
        refine va_get (D := D) (ci := 9) (v := .ref (ad 15)) (C := R_Md) (T := T_Md) (N := 47) hx hb hts i_Md hown hK hP 0 rfl rfl 39 (by decide) (hts _ tw_573) (fun _ h9 => h9) rfl d_Md_write_115 ?_
        refine lv_aload_n hx hb d_Md_write_118 rfl (lv_at hl 1 rfl) ?_
        refine lv_aload_n hx hb d_Md_write_119 rfl (lv_at hl 1 rfl) ?_
        refine va_get (D := D) (ci := 9) (v := .ref (ad 10)) (C := R_Md) (T := T_Md) (N := 47) hx hb hts i_Md hown hK hP 0 rfl rfl 33 (by decide) (hts _ tw_567) (fun _ h9 => h9) rfl d_Md_write_120 ?_
        refine lv_aload_n hx hb d_Md_write_123 rfl (lv_at hl 1 rfl) ?_
        refine va_get (D := D) (ci := 9) (v := .ref (ad 14)) (C := R_Md) (T := T_Md) (N := 47) hx hb hts i_Md hown hK hP 0 rfl rfl 38 (by decide) (hts _ tw_572) (fun _ h9 => h9) rfl d_Md_write_124 ?_
        refine lv_iload_n hx hb d_Md_write_127 rfl (lv_at hl 2 rfl) ?_
        obtain ⟨hin, hw⟩ := hw
        refine va_iald (f := α 14) hx hb hK hP 14 0 rfl rfl hin d_Md_write_128 ?_
        obtain ⟨hin, hw⟩ := hw
        refine va_iald (f := α 10) hx hb hK hP 10 0 rfl rfl hin d_Md_write_129 ?_
        refine gCallVi (b := ad 0) (As := [.int (α 10 (α 14 a1.toNatClampNeg).toNatClampNeg)]) (rest := [.ref (ad 15)]) (c_Md_firstOf l D cI cS cZ ad  σ α (α 10 (α 14 a1.toNatClampNeg).toNatClampNeg) _ hw) hx hb hml hown hts hK hN hA hS hP hD (cwV 1 hts (gGV tw_815 tw_817 ts_39 tw_11 tw_818) rfl rfl rfl ⟨rfl, by decide, by decide, by decide +kernel⟩ ⟨Nat.le_of_ble_eq_true rfl, Nat.le_of_ble_eq_true rfl⟩) (va_recv (ci := 9) (q0 := 0) hK hP rfl rfl) rfl hl.1 rfl (Nat.le_of_ble_eq_true rfl) d_Md_write_130 (fun r130 u130 H locs hw hP hD hS => ?_)
        have hP : va_P D gCl (mW cI cS cZ ad u130.1 u130.2) H := hP
        have hD : va_D A (mW cI cS cZ ad u130.1 u130.2) := hD
        obtain ⟨hin, hw⟩ := hw
        refine va_iald (f := u130.2 15) hx hb hK hP 15 0 rfl rfl hin d_Md_write_133 ?_
        refine lv_goto (tgt := 170) hx hb d_Md_write_134 (by decide) ?_
        exact J170 u130.1 u130.2 a1 a2 a3 (u130.2 15 r130.toNatClampNeg) ls H locs (lv_sub hl [1, 2, 3, 4] rfl) hP hD hS hw
  have J101 : ∀ (σ : Nat → Int32) (α : Nat → Nat → Int32) (a1 : Int32) (a2 : Int32) (a3 : Int32) (a4 : Int32) (ls : Array Slot) (H : Heap) (locs : List Loc), lv_has ls 7 [(0, .ref (ad 0)), (1, .int a1), (2, .int a2), (3, .int a3), (4, .int a4)] → va_P D gCl (mW cI cS cZ ad σ α) H → va_D A (mW cI cS cZ ad σ α) → va_S A s.heap H locs → wp_Md_write_J101 σ α a1 a2 a3 a4 post → W p l e rm_Md_write s m ([.ref (ad 0), .int x1] : List Value).toArray below meth c H locs 0 0 Q (F0 m 101 ls []) := by
    intro σ α a1 a2 a3 a4 ls H locs hl hP hD hS hw
    unfold wp_Md_write_J101 at hw
    refine lv_iconst (v := 0) hx hb d_Md_write_101 (by decide) ?_
    exact J102 σ α a1 a2 a3 a4 (0 : Int32) ls H locs (lv_sub hl [0, 1, 2, 3, 4] rfl) hP hD hS hw
  have J56 : ∀ (σ : Nat → Int32) (α : Nat → Nat → Int32) (a1 : Int32) (a2 : Int32) (a3 : Int32) (t0 : Int32) (ls : Array Slot) (H : Heap) (locs : List Loc), lv_has ls 7 [(0, .ref (ad 0)), (1, .int a1), (2, .int a2), (3, .int a3)] → va_P D gCl (mW cI cS cZ ad σ α) H → va_D A (mW cI cS cZ ad σ α) → va_S A s.heap H locs → wp_Md_write_J56 σ α a1 a2 a3 t0 post → W p l e rm_Md_write s m ([.ref (ad 0), .int x1] : List Value).toArray below meth c H locs 0 0 Q (F0 m 56 ls [.int t0]) := by
    intro σ α a1 a2 a3 t0 ls H locs hl hP hD hS hw
    unfold wp_Md_write_J56 at hw
    refine lv_istore hx hb d_Md_write_56 hl (by decide) rfl (fun ls hl => ?_)
    have hl : lv_has ls 7 [(4, .int t0), (0, .ref (ad 0)), (1, .int a1), (2, .int a2), (3, .int a3)] := hl
    refine lv_iload hx hb d_Md_write_58 (lv_at hl 0 rfl) ?_
    refine lv_if_eq (tgt := 101) hx hb d_Md_write_60 (by decide) (fun h => ?_) (fun h => ?_)
    · have hw := hw.1 h
      exact J101 σ α a1 a2 a3 t0 ls H locs (lv_sub hl [1, 2, 3, 4, 0] rfl) hP hD hS hw
    · have hw := hw.2 h
      refine lv_iload_n hx hb d_Md_write_63 rfl (lv_at hl 2 rfl) ?_
      refine lv_if_le (tgt := 101) hx hb d_Md_write_64 (by decide) (fun h => ?_) (fun h => ?_)
      · have hw := hw.1 h
        exact J101 σ α a1 a2 a3 t0 ls H locs (lv_sub hl [1, 2, 3, 4, 0] rfl) hP hD hS hw
      · have hw := hw.2 h
        refine lv_aload_n hx hb d_Md_write_67 rfl (lv_at hl 1 rfl) ?_
        refine va_get (D := D) (ci := 9) (v := .ref (ad 12)) (C := R_Md) (T := T_Md) (N := 47) hx hb hts i_Md hown hK hP 0 rfl rfl 36 (by decide) (hts _ tw_570) (fun _ h9 => h9) rfl d_Md_write_68 ?_
        refine lv_iload_n hx hb d_Md_write_71 rfl (lv_at hl 2 rfl) ?_
        refine lv_iconst (v := 1) hx hb d_Md_write_72 (by decide) ?_
        refine lv_isub hx hb d_Md_write_73 ?_
        obtain ⟨hin, hw⟩ := hw
        refine va_iald (f := α 12) hx hb hK hP 12 0 rfl rfl hin d_Md_write_74 ?_
        refine lv_if_ne (tgt := 101) hx hb d_Md_write_75 (by decide) (fun h => ?_) (fun h => ?_)
        · have hw := hw.1 h
          exact J101 σ α a1 a2 a3 t0 ls H locs (lv_sub hl [1, 2, 3, 4, 0] rfl) hP hD hS hw
        · have hw := hw.2 h
          refine lv_aload_n hx hb d_Md_write_78 rfl (lv_at hl 1 rfl) ?_
          refine va_get (D := D) (ci := 9) (v := .ref (ad 11)) (C := R_Md) (T := T_Md) (N := 47) hx hb hts i_Md hown hK hP 0 rfl rfl 35 (by decide) (hts _ tw_569) (fun _ h9 => h9) rfl d_Md_write_79 ?_
          refine lv_iload_n hx hb d_Md_write_82 rfl (lv_at hl 2 rfl) ?_
          refine lv_iconst (v := 1) hx hb d_Md_write_83 (by decide) ?_
          refine lv_isub hx hb d_Md_write_84 ?_
          obtain ⟨hin, hw⟩ := hw
          refine va_iald (f := α 11) hx hb hK hP 11 0 rfl rfl hin d_Md_write_85 ?_
          refine lv_if_ne (tgt := 101) hx hb d_Md_write_86 (by decide) (fun h => ?_) (fun h => ?_)
          · have hw := hw.1 h
            exact J101 σ α a1 a2 a3 t0 ls H locs (lv_sub hl [1, 2, 3, 4, 0] rfl) hP hD hS hw
          · have hw := hw.2 h
            refine lv_aload_n hx hb d_Md_write_89 rfl (lv_at hl 1 rfl) ?_
            refine lv_iload_n hx hb d_Md_write_90 rfl (lv_at hl 2 rfl) ?_
            refine gCallVi (b := ad 0) (As := [.int a1]) (rest := []) (c_Md_isSecond l D cI cS cZ ad  σ α a1 _ hw) hx hb hml hown hts hK hN hA hS hP hD (cwV 1 hts (gGV tw_811 tw_813 ts_38 tw_11 tw_814) rfl rfl rfl ⟨rfl, by decide, by decide, by decide +kernel⟩ ⟨Nat.le_of_ble_eq_true rfl, Nat.le_of_ble_eq_true rfl⟩) (va_recv (ci := 9) (q0 := 0) hK hP rfl rfl) rfl hl.1 rfl (Nat.le_of_ble_eq_true rfl) d_Md_write_91 (fun r91 u91 H locs hw hP hD hS => ?_)
            have hP : va_P D gCl (mW cI cS cZ ad u91.1 u91.2) H := hP
            have hD : va_D A (mW cI cS cZ ad u91.1 u91.2) := hD
            refine lv_if_eq (tgt := 101) hx hb d_Md_write_94 (by decide) (fun h => ?_) (fun h => ?_)
            · have hw := hw.1 h
              exact J101 u91.1 u91.2 a1 a2 a3 t0 ls H locs (lv_sub hl [1, 2, 3, 4, 0] rfl) hP hD hS hw
            · have hw := hw.2 h
              refine lv_iconst (v := 1) hx hb d_Md_write_97 (by decide) ?_
              refine lv_goto (tgt := 102) hx hb d_Md_write_98 (by decide) ?_
              exact J102 u91.1 u91.2 a1 a2 a3 t0 (1 : Int32) ls H locs (lv_sub hl [1, 2, 3, 4, 0] rfl) hP hD hS hw
  have J55 : ∀ (σ : Nat → Int32) (α : Nat → Nat → Int32) (a1 : Int32) (a2 : Int32) (a3 : Int32) (ls : Array Slot) (H : Heap) (locs : List Loc), lv_has ls 7 [(0, .ref (ad 0)), (1, .int a1), (2, .int a2), (3, .int a3)] → va_P D gCl (mW cI cS cZ ad σ α) H → va_D A (mW cI cS cZ ad σ α) → va_S A s.heap H locs → wp_Md_write_J55 σ α a1 a2 a3 post → W p l e rm_Md_write s m ([.ref (ad 0), .int x1] : List Value).toArray below meth c H locs 0 0 Q (F0 m 55 ls []) := by
    intro σ α a1 a2 a3 ls H locs hl hP hD hS hw
    unfold wp_Md_write_J55 at hw
    refine lv_iconst (v := 0) hx hb d_Md_write_55 (by decide) ?_
    exact J56 σ α a1 a2 a3 (0 : Int32) ls H locs (lv_sub hl [0, 1, 2, 3] rfl) hP hD hS hw
  unfold wp_Md_write at hw
  have hP : va_P D gCl (mW cI cS cZ ad σ α) s.heap := hP
  have hD : va_D A (mW cI cS cZ ad σ α) := hD
  obtain ⟨H, hH⟩ : ∃ H, H = s.heap := ⟨_, rfl⟩
  obtain ⟨locs, hlocs⟩ : ∃ locs : List Loc, locs = [] := ⟨_, rfl⟩
  have hP : va_P D gCl (mW cI cS cZ ad σ α) H := by rw [hH]; exact hP
  have hS : va_S A s.heap H locs := by rw [hH, hlocs]; exact hS
  suffices K : W p l e rm_Md_write s m ([.ref (ad 0), .int x1] : List Value).toArray below meth c H locs 0 0 Q (F0 m 0 ls []) by rw [hH, hlocs] at K; exact K
  clear hH hlocs
  refine lv_aload_n hx hb d_Md_write_0 rfl (lv_at hl 0 rfl) ?_
  refine va_get (D := D) (ci := 9) (v := .ref (ad 15)) (C := R_Md) (T := T_Md) (N := 47) hx hb hts i_Md hown hK hP 0 rfl rfl 39 (by decide) (hts _ tw_573) (fun _ h9 => h9) rfl d_Md_write_1 ?_
  refine lv_iload_n hx hb d_Md_write_4 rfl (lv_at hl 1 rfl) ?_
  obtain ⟨hin, hw⟩ := hw
  refine va_iald (f := α 15) hx hb hK hP 15 0 rfl rfl hin d_Md_write_5 ?_
  refine lv_istore_n hx hb d_Md_write_6 rfl hl (by decide) rfl (fun ls hl => ?_)
  have hl : lv_has ls 7 [(2, .int (α 15 x1.toNatClampNeg)), (0, .ref (ad 0)), (1, .int x1)] := hl
  refine lv_aload_n hx hb d_Md_write_7 rfl (lv_at hl 1 rfl) ?_
  refine va_get (D := D) (ci := 9) (v := .ref (ad 11)) (C := R_Md) (T := T_Md) (N := 47) hx hb hts i_Md hown hK hP 0 rfl rfl 35 (by decide) (hts _ tw_569) (fun _ h9 => h9) rfl d_Md_write_8 ?_
  refine lv_iload_n hx hb d_Md_write_11 rfl (lv_at hl 2 rfl) ?_
  obtain ⟨hin, hw⟩ := hw
  refine va_iald (f := α 11) hx hb hK hP 11 0 rfl rfl hin d_Md_write_12 ?_
  refine lv_aload_n hx hb d_Md_write_13 rfl (lv_at hl 1 rfl) ?_
  refine va_get (D := D) (ci := 9) (v := .ref (ad 12)) (C := R_Md) (T := T_Md) (N := 47) hx hb hts i_Md hown hK hP 0 rfl rfl 36 (by decide) (hts _ tw_570) (fun _ h9 => h9) rfl d_Md_write_14 ?_
  refine lv_iload_n hx hb d_Md_write_17 rfl (lv_at hl 2 rfl) ?_
  obtain ⟨hin, hw⟩ := hw
  refine va_iald (f := α 12) hx hb hK hP 12 0 rfl rfl hin d_Md_write_18 ?_
  refine lv_iconst (v := 4) hx hb d_Md_write_19 (by decide) ?_
  refine lv_ishl hx hb d_Md_write_20 ?_
  refine lv_ior hx hb d_Md_write_21 ?_
  refine lv_aload_n hx hb d_Md_write_22 rfl (lv_at hl 1 rfl) ?_
  refine va_get (D := D) (ci := 9) (v := .ref (ad 16)) (C := R_Md) (T := T_Md) (N := 47) hx hb hts i_Md hown hK hP 0 rfl rfl 40 (by decide) (hts _ tw_574) (fun _ h9 => h9) rfl d_Md_write_23 ?_
  refine lv_iload_n hx hb d_Md_write_26 rfl (lv_at hl 2 rfl) ?_
  obtain ⟨hin, hw⟩ := hw
  refine va_iald (f := α 16) hx hb hK hP 16 0 rfl rfl hin d_Md_write_27 ?_
  refine lv_bipush (v := 10) hx hb d_Md_write_28 (by decide) ?_
  refine lv_ishl hx hb d_Md_write_30 ?_
  refine lv_ior hx hb d_Md_write_31 ?_
  refine lv_istore_n hx hb d_Md_write_32 rfl hl (by decide) rfl (fun ls hl => ?_)
  have hl : lv_has ls 7 [(3, .int (((α 11 x1.toNatClampNeg) ||| ((α 12 x1.toNatClampNeg) <<< ((4 : Int32) &&& 31))) ||| ((α 16 x1.toNatClampNeg) <<< ((10 : Int32) &&& 31)))), (2, .int (α 15 x1.toNatClampNeg)), (0, .ref (ad 0)), (1, .int x1)] := hl
  refine lv_aload_n hx hb d_Md_write_33 rfl (lv_at hl 2 rfl) ?_
  refine va_get (D := D) (ci := 9) (v := .ref (ad 11)) (C := R_Md) (T := T_Md) (N := 47) hx hb hts i_Md hown hK hP 0 rfl rfl 35 (by decide) (hts _ tw_569) (fun _ h9 => h9) rfl d_Md_write_34 ?_
  refine lv_iload_n hx hb d_Md_write_37 rfl (lv_at hl 3 rfl) ?_
  obtain ⟨hin, hw⟩ := hw
  refine va_iald (f := α 11) hx hb hK hP 11 0 rfl rfl hin d_Md_write_38 ?_
  refine lv_if_ne (tgt := 55) hx hb d_Md_write_39 (by decide) (fun h => ?_) (fun h => ?_)
  · have hw := hw.1 h
    exact J55 σ α x1 (α 15 x1.toNatClampNeg) (((α 11 x1.toNatClampNeg) ||| ((α 12 x1.toNatClampNeg) <<< ((4 : Int32) &&& 31))) ||| ((α 16 x1.toNatClampNeg) <<< ((10 : Int32) &&& 31))) ls H locs (lv_sub hl [2, 3, 1, 0] rfl) hP hD hS hw
  · have hw := hw.2 h
    refine lv_aload_n hx hb d_Md_write_42 rfl (lv_at hl 2 rfl) ?_
    refine va_get (D := D) (ci := 9) (v := .ref (ad 12)) (C := R_Md) (T := T_Md) (N := 47) hx hb hts i_Md hown hK hP 0 rfl rfl 36 (by decide) (hts _ tw_570) (fun _ h9 => h9) rfl d_Md_write_43 ?_
    refine lv_iload_n hx hb d_Md_write_46 rfl (lv_at hl 3 rfl) ?_
    obtain ⟨hin, hw⟩ := hw
    refine va_iald (f := α 12) hx hb hK hP 12 0 rfl rfl hin d_Md_write_47 ?_
    refine lv_if_ne (tgt := 55) hx hb d_Md_write_48 (by decide) (fun h => ?_) (fun h => ?_)
    · have hw := hw.1 h
      exact J55 σ α x1 (α 15 x1.toNatClampNeg) (((α 11 x1.toNatClampNeg) ||| ((α 12 x1.toNatClampNeg) <<< ((4 : Int32) &&& 31))) ||| ((α 16 x1.toNatClampNeg) <<< ((10 : Int32) &&& 31))) ls H locs (lv_sub hl [2, 3, 1, 0] rfl) hP hD hS hw
    · have hw := hw.2 h
      refine lv_iconst (v := 1) hx hb d_Md_write_51 (by decide) ?_
      refine lv_goto (tgt := 56) hx hb d_Md_write_52 (by decide) ?_
      exact J56 σ α x1 (α 15 x1.toNatClampNeg) (((α 11 x1.toNatClampNeg) ||| ((α 12 x1.toNatClampNeg) <<< ((4 : Int32) &&& 31))) ||| ((α 16 x1.toNatClampNeg) <<< ((10 : Int32) &&& 31))) (1 : Int32) ls H locs (lv_sub hl [2, 3, 1, 0] rfl) hP hD hS hw
