abbrev rm_Md_assemble : Room := { frames := 2, cells := 0, slots := 0, locals := 50 }
set_option maxHeartbeats 4000000 in
set_option maxRecDepth 100000 in
theorem c_Md_assemble (l : Launch) (D : va_G) (cI cS cZ : ClassId) (ad : Nat → Nat) (σ : Nat → Int32) (α : Nat → Nat → Int32) (post : Int32 → gS → Prop) (hw : wp_Md_assemble σ α post) : gMi l y_Md_assemble b_Md_assemble 3 .int rm_Md_assemble D (gT cI cS cZ) (fun u : gS => mW cI cS cZ ad u.1 u.2) [.ref (ad 0)] (σ, α) post := by
  refine gMi.of (by decide) (Nat.le_of_ble_eq_true rfl) ?_
  intro p e s m below meth c Q A hx hb hml hown hts hK hN hA hS hP hD hret ls hl
  have hl : lv_has ls 3 [(0, .ref (ad 0))] := hl
  have L182 : ∀ (σ : Nat → Int32) (α : Nat → Nat → Int32) (a2 : Int32) (ls : Array Slot) (H : Heap) (locs : List Loc), lv_has ls 3 [(0, .ref (ad 0)), (2, .int a2)] → va_P D gCl (mW cI cS cZ ad σ α) H → va_D A (mW cI cS cZ ad σ α) → va_S A s.heap H locs → wp_Md_assemble_L182 σ α a2 post → W p l e rm_Md_assemble s m ([.ref (ad 0)] : List Value).toArray below meth c H locs 0 0 Q (F0 m 182 ls []) := by
    intro σ α a2 ls H locs hl hP hD hS hw
    let XL182 : (Nat → Int32) → (Nat → Nat → Int32) → Int32 → Prop := fun σ α a2 => ∀ (ls : Array Slot) (H : Heap) (locs : List Loc), lv_has ls 3 [(0, .ref (ad 0)), (2, .int a2)] → va_P D gCl (mW cI cS cZ ad σ α) H → va_D A (mW cI cS cZ ad σ α) → va_S A s.heap H locs → W p l e rm_Md_assemble s m ([.ref (ad 0)] : List Value).toArray below meth c H locs 0 0 Q (F0 m 182 ls [])
    have hX182 : ∀ (σ : Nat → Int32) (α : Nat → Nat → Int32) (a2 : Int32) (ls : Array Slot) (H : Heap) (locs : List Loc), lv_has ls 3 [(0, .ref (ad 0)), (2, .int a2)] → va_P D gCl (mW cI cS cZ ad σ α) H → va_D A (mW cI cS cZ ad σ α) → va_S A s.heap H locs → XL182 σ α a2 → W p l e rm_Md_assemble s m ([.ref (ad 0)] : List Value).toArray below meth c H locs 0 0 Q (F0 m 182 ls []) := fun σ α a2 ls H locs hl hP hD hS hw => hw ls H locs hl hP hD hS
    refine hw XL182 ?_ ls H locs hl hP hD hS
    clear hw hl hP hD hS
    intro σ α a2 hw ls H locs hl hP hD hS
    unfold wp_Md_assemble_B182 at hw
    refine lv_iload_n hx hb d_Md_assemble_182 rfl (lv_at hl 1 rfl) ?_
    refine lv_bipush (v := 16) hx hb d_Md_assemble_183 (by decide) ?_
    refine lv_icmp_ge (tgt := 206) hx hb d_Md_assemble_185 (by decide) (fun h => ?_) (fun h => ?_)
    · have hw := hw.1 h
      refine lv_aload_n hx hb d_Md_assemble_206 rfl (lv_at hl 0 rfl) ?_
      refine va_get (D := D) (ci := 9) (v := .int (σ 24)) (C := R_Md) (T := T_Md) (N := 47) hx hb hts i_Md hown hK hP 0 rfl rfl 34 (by decide) (hts _ tw_568) (fun _ h9 => h9) rfl d_Md_assemble_207 ?_
      exact hret H locs 210 ls (σ 24) (σ, α) d_Md_assemble_210 hP hD hS (vp_nar_int _) hw
    · have hw := hw.2 h
      refine lv_aload_n hx hb d_Md_assemble_188 rfl (lv_at hl 0 rfl) ?_
      refine va_get (D := D) (ci := 9) (v := .ref (ad 21)) (C := R_Md) (T := T_Md) (N := 47) hx hb hts i_Md hown hK hP 0 rfl rfl 46 (by decide) (hts _ tw_580) (fun _ h9 => h9) rfl d_Md_assemble_189 ?_
      refine lv_iload_n hx hb d_Md_assemble_192 rfl (lv_at hl 1 rfl) ?_
      refine lv_aload_n hx hb d_Md_assemble_193 rfl (lv_at hl 0 rfl) ?_
      refine va_get (D := D) (ci := 9) (v := .ref (ad 19)) (C := R_Md) (T := T_Md) (N := 47) hx hb hts i_Md hown hK hP 0 rfl rfl 43 (by decide) (hts _ tw_577) (fun _ h9 => h9) rfl d_Md_assemble_194 ?_
      refine lv_iload_n hx hb d_Md_assemble_197 rfl (lv_at hl 1 rfl) ?_
      obtain ⟨hin, hw⟩ := hw
      refine va_iald (f := α 19) hx hb hK hP 19 0 rfl rfl hin d_Md_assemble_198 ?_
      obtain ⟨hin, hw⟩ := hw
      refine va_iast (f := α 21) (i := a2) (x := α 19 a2.toNatClampNeg) hx hb hK hP hD hS 21 0 rfl rfl hin d_Md_assemble_199 (fun H locs hP hD hS => ?_)
      rw [mW_s21] at hP hD
      have hP : va_P D gCl (mW cI cS cZ ad σ (va_up α 21 (upd (α 21) a2.toNatClampNeg (α 19 a2.toNatClampNeg)))) H := hP
      have hD : va_D A (mW cI cS cZ ad σ (va_up α 21 (upd (α 21) a2.toNatClampNeg (α 19 a2.toNatClampNeg)))) := hD
      refine lv_iinc (k := 1) hx hb d_Md_assemble_200 hl rfl rfl (by decide) rfl (fun ls hl => ?_)
      have hl : lv_has ls 3 [(2, .int (a2 + Int32.ofInt 1)), (0, .ref (ad 0))] := hl
      refine lv_goto (tgt := 182) hx hb d_Md_assemble_203 (by decide) ?_
      exact hX182 σ (va_up α 21 (upd (α 21) a2.toNatClampNeg (α 19 a2.toNatClampNeg))) (a2 + Int32.ofInt 1) ls H locs (lv_sub hl [1, 0] rfl) hP hD hS hw
  have L150 : ∀ (σ : Nat → Int32) (α : Nat → Nat → Int32) (a2 : Int32) (ls : Array Slot) (H : Heap) (locs : List Loc), lv_has ls 3 [(0, .ref (ad 0)), (2, .int a2)] → va_P D gCl (mW cI cS cZ ad σ α) H → va_D A (mW cI cS cZ ad σ α) → va_S A s.heap H locs → wp_Md_assemble_L150 σ α a2 post → W p l e rm_Md_assemble s m ([.ref (ad 0)] : List Value).toArray below meth c H locs 0 0 Q (F0 m 150 ls []) := by
    intro σ α a2 ls H locs hl hP hD hS hw
    let XL150 : (Nat → Int32) → (Nat → Nat → Int32) → Int32 → Prop := fun σ α a2 => ∀ (ls : Array Slot) (H : Heap) (locs : List Loc), lv_has ls 3 [(0, .ref (ad 0)), (2, .int a2)] → va_P D gCl (mW cI cS cZ ad σ α) H → va_D A (mW cI cS cZ ad σ α) → va_S A s.heap H locs → W p l e rm_Md_assemble s m ([.ref (ad 0)] : List Value).toArray below meth c H locs 0 0 Q (F0 m 150 ls [])
    have hX150 : ∀ (σ : Nat → Int32) (α : Nat → Nat → Int32) (a2 : Int32) (ls : Array Slot) (H : Heap) (locs : List Loc), lv_has ls 3 [(0, .ref (ad 0)), (2, .int a2)] → va_P D gCl (mW cI cS cZ ad σ α) H → va_D A (mW cI cS cZ ad σ α) → va_S A s.heap H locs → XL150 σ α a2 → W p l e rm_Md_assemble s m ([.ref (ad 0)] : List Value).toArray below meth c H locs 0 0 Q (F0 m 150 ls []) := fun σ α a2 ls H locs hl hP hD hS hw => hw ls H locs hl hP hD hS
    refine hw XL150 ?_ ls H locs hl hP hD hS
    clear hw hl hP hD hS
    intro σ α a2 hw ls H locs hl hP hD hS
    unfold wp_Md_assemble_B150 at hw
    refine lv_iload_n hx hb d_Md_assemble_150 rfl (lv_at hl 1 rfl) ?_
    refine lv_aload_n hx hb d_Md_assemble_151 rfl (lv_at hl 0 rfl) ?_
    refine va_get (D := D) (ci := 9) (v := .int (σ 23)) (C := R_Md) (T := T_Md) (N := 47) hx hb hts i_Md hown hK hP 0 rfl rfl 28 (by decide) (hts _ tw_562) (fun _ h9 => h9) rfl d_Md_assemble_152 ?_
    refine lv_icmp_ge (tgt := 180) hx hb d_Md_assemble_155 (by decide) (fun h => ?_) (fun h => ?_)
    · have hw := hw.1 h
      refine lv_iconst (v := 0) hx hb d_Md_assemble_180 (by decide) ?_
      refine lv_istore_n hx hb d_Md_assemble_181 rfl hl (by decide) rfl (fun ls hl => ?_)
      have hl : lv_has ls 3 [(2, .int (0 : Int32)), (0, .ref (ad 0))] := hl
      exact L182 σ α (0 : Int32) ls H locs (lv_sub hl [1, 0] rfl) hP hD hS hw
    · have hw := hw.2 h
      refine lv_aload_n hx hb d_Md_assemble_158 rfl (lv_at hl 0 rfl) ?_
      refine va_get (D := D) (ci := 9) (v := .ref (ad 20)) (C := R_Md) (T := T_Md) (N := 47) hx hb hts i_Md hown hK hP 0 rfl rfl 45 (by decide) (hts _ tw_579) (fun _ h9 => h9) rfl d_Md_assemble_159 ?_
      refine lv_iload_n hx hb d_Md_assemble_162 rfl (lv_at hl 1 rfl) ?_
      refine lv_aload_n hx hb d_Md_assemble_163 rfl (lv_at hl 0 rfl) ?_
      refine va_get (D := D) (ci := 9) (v := .ref (ad 15)) (C := R_Md) (T := T_Md) (N := 47) hx hb hts i_Md hown hK hP 0 rfl rfl 39 (by decide) (hts _ tw_573) (fun _ h9 => h9) rfl d_Md_assemble_164 ?_
      refine lv_aload_n hx hb d_Md_assemble_167 rfl (lv_at hl 0 rfl) ?_
      refine lv_iload_n hx hb d_Md_assemble_168 rfl (lv_at hl 1 rfl) ?_
      refine gCallVi (b := ad 0) (As := [.int a2]) (rest := [.ref (ad 15), .int a2, .ref (ad 20)]) (c_Md_firstOf l D cI cS cZ ad  σ α a2 _ hw) hx hb hml hown hts hK hN hA hS hP hD (cwV 1 hts (gGV tw_815 tw_817 ts_39 tw_11 tw_818) rfl rfl rfl ⟨rfl, by decide, by decide, by decide +kernel⟩ ⟨Nat.le_of_ble_eq_true rfl, Nat.le_of_ble_eq_true rfl⟩) (va_recv (ci := 9) (q0 := 0) hK hP rfl rfl) rfl hl.1 rfl (Nat.le_of_ble_eq_true rfl) d_Md_assemble_169 (fun r169 u169 H locs hw hP hD hS => ?_)
      have hP : va_P D gCl (mW cI cS cZ ad u169.1 u169.2) H := hP
      have hD : va_D A (mW cI cS cZ ad u169.1 u169.2) := hD
      obtain ⟨hin, hw⟩ := hw
      refine va_iald (f := u169.2 15) hx hb hK hP 15 0 rfl rfl hin d_Md_assemble_172 ?_
      obtain ⟨hin, hw⟩ := hw
      refine va_iast (f := u169.2 20) (i := a2) (x := u169.2 15 r169.toNatClampNeg) hx hb hK hP hD hS 20 0 rfl rfl hin d_Md_assemble_173 (fun H locs hP hD hS => ?_)
      rw [mW_s20] at hP hD
      have hP : va_P D gCl (mW cI cS cZ ad u169.1 (va_up u169.2 20 (upd (u169.2 20) a2.toNatClampNeg (u169.2 15 r169.toNatClampNeg)))) H := hP
      have hD : va_D A (mW cI cS cZ ad u169.1 (va_up u169.2 20 (upd (u169.2 20) a2.toNatClampNeg (u169.2 15 r169.toNatClampNeg)))) := hD
      refine lv_iinc (k := 1) hx hb d_Md_assemble_174 hl rfl rfl (by decide) rfl (fun ls hl => ?_)
      have hl : lv_has ls 3 [(2, .int (a2 + Int32.ofInt 1)), (0, .ref (ad 0))] := hl
      refine lv_goto (tgt := 150) hx hb d_Md_assemble_177 (by decide) ?_
      exact hX150 u169.1 (va_up u169.2 20 (upd (u169.2 20) a2.toNatClampNeg (u169.2 15 r169.toNatClampNeg))) (a2 + Int32.ofInt 1) ls H locs (lv_sub hl [1, 0] rfl) hP hD hS hw
  have L121 : ∀ (σ : Nat → Int32) (α : Nat → Nat → Int32) (a2 : Int32) (ls : Array Slot) (H : Heap) (locs : List Loc), lv_has ls 3 [(0, .ref (ad 0)), (2, .int a2)] → va_P D gCl (mW cI cS cZ ad σ α) H → va_D A (mW cI cS cZ ad σ α) → va_S A s.heap H locs → wp_Md_assemble_L121 σ α a2 post → W p l e rm_Md_assemble s m ([.ref (ad 0)] : List Value).toArray below meth c H locs 0 0 Q (F0 m 121 ls []) := by
    intro σ α a2 ls H locs hl hP hD hS hw
    let XL121 : (Nat → Int32) → (Nat → Nat → Int32) → Int32 → Prop := fun σ α a2 => ∀ (ls : Array Slot) (H : Heap) (locs : List Loc), lv_has ls 3 [(0, .ref (ad 0)), (2, .int a2)] → va_P D gCl (mW cI cS cZ ad σ α) H → va_D A (mW cI cS cZ ad σ α) → va_S A s.heap H locs → W p l e rm_Md_assemble s m ([.ref (ad 0)] : List Value).toArray below meth c H locs 0 0 Q (F0 m 121 ls [])
    have hX121 : ∀ (σ : Nat → Int32) (α : Nat → Nat → Int32) (a2 : Int32) (ls : Array Slot) (H : Heap) (locs : List Loc), lv_has ls 3 [(0, .ref (ad 0)), (2, .int a2)] → va_P D gCl (mW cI cS cZ ad σ α) H → va_D A (mW cI cS cZ ad σ α) → va_S A s.heap H locs → XL121 σ α a2 → W p l e rm_Md_assemble s m ([.ref (ad 0)] : List Value).toArray below meth c H locs 0 0 Q (F0 m 121 ls []) := fun σ α a2 ls H locs hl hP hD hS hw => hw ls H locs hl hP hD hS
    refine hw XL121 ?_ ls H locs hl hP hD hS
    clear hw hl hP hD hS
    intro σ α a2 hw ls H locs hl hP hD hS
    unfold wp_Md_assemble_B121 at hw
    refine lv_iload_n hx hb d_Md_assemble_121 rfl (lv_at hl 1 rfl) ?_
    refine lv_aload_n hx hb d_Md_assemble_122 rfl (lv_at hl 0 rfl) ?_
    refine va_get (D := D) (ci := 9) (v := .int (σ 24)) (C := R_Md) (T := T_Md) (N := 47) hx hb hts i_Md hown hK hP 0 rfl rfl 34 (by decide) (hts _ tw_568) (fun _ h9 => h9) rfl d_Md_assemble_123 ?_
    refine lv_icmp_ge (tgt := 140) hx hb d_Md_assemble_126 (by decide) (fun h => ?_) (fun h => ?_)
    · have hw := hw.1 h
      refine lv_aload_n hx hb d_Md_assemble_140 rfl (lv_at hl 0 rfl) ?_
      refine lv_aload_n hx hb d_Md_assemble_141 rfl (lv_at hl 0 rfl) ?_
      refine va_get (D := D) (ci := 9) (v := .int (σ 23)) (C := R_Md) (T := T_Md) (N := 47) hx hb hts i_Md hown hK hP 0 rfl rfl 28 (by decide) (hts _ tw_562) (fun _ h9 => h9) rfl d_Md_assemble_142 ?_
      refine va_put (D := D) (ci := 9) (v := .int (σ 23)) (ty := .int) (C := R_Md) (T := T_Md) (N := 47) hx hb hts i_Md t_Md o_Md n_Md hown hK hP hD hS 0 rfl rfl 44 (by decide) (hts _ tw_578) (fun _ h9 => h9) rfl (by decide +kernel) rfl rfl (Nat.le_of_ble_eq_true rfl) d_Md_assemble_145 (fun H locs hP hD hS => ?_)
      have hP : va_P D gCl (mW cI cS cZ ad (va_up σ 25 (σ 23)) α) H := hP
      have hD : va_D A (mW cI cS cZ ad (va_up σ 25 (σ 23)) α) := hD
      refine lv_iconst (v := 0) hx hb d_Md_assemble_148 (by decide) ?_
      refine lv_istore_n hx hb d_Md_assemble_149 rfl hl (by decide) rfl (fun ls hl => ?_)
      have hl : lv_has ls 3 [(2, .int (0 : Int32)), (0, .ref (ad 0))] := hl
      exact L150 (va_up σ 25 (σ 23)) α (0 : Int32) ls H locs (lv_sub hl [1, 0] rfl) hP hD hS hw
    · have hw := hw.2 h
      refine lv_aload_n hx hb d_Md_assemble_129 rfl (lv_at hl 0 rfl) ?_
      refine lv_iload_n hx hb d_Md_assemble_130 rfl (lv_at hl 1 rfl) ?_
      refine gCallVv (b := ad 0) (As := [.int a2]) (rest := []) (c_Md_write l D cI cS cZ ad  σ α a2 _ hw) hx hb hml hown hts hK hN hA hS hP hD (cwV 1 hts (gGV tw_807 tw_809 ts_37 tw_11 tw_810) rfl rfl rfl ⟨rfl, by decide, by decide, by decide +kernel⟩ ⟨Nat.le_of_ble_eq_true rfl, Nat.le_of_ble_eq_true rfl⟩) (va_recv (ci := 9) (q0 := 0) hK hP rfl rfl) rfl hl.1 rfl (Nat.le_of_ble_eq_true rfl) d_Md_assemble_131 (fun u131 H locs hw hP hD hS => ?_)
      have hP : va_P D gCl (mW cI cS cZ ad u131.1 u131.2) H := hP
      have hD : va_D A (mW cI cS cZ ad u131.1 u131.2) := hD
      refine lv_iinc (k := 1) hx hb d_Md_assemble_134 hl rfl rfl (by decide) rfl (fun ls hl => ?_)
      have hl : lv_has ls 3 [(2, .int (a2 + Int32.ofInt 1)), (0, .ref (ad 0))] := hl
      refine lv_goto (tgt := 121) hx hb d_Md_assemble_137 (by decide) ?_
      exact hX121 u131.1 u131.2 (a2 + Int32.ofInt 1) ls H locs (lv_sub hl [1, 0] rfl) hP hD hS hw
  have L99 : ∀ (σ : Nat → Int32) (α : Nat → Nat → Int32) (a2 : Int32) (ls : Array Slot) (H : Heap) (locs : List Loc), lv_has ls 3 [(0, .ref (ad 0)), (2, .int a2)] → va_P D gCl (mW cI cS cZ ad σ α) H → va_D A (mW cI cS cZ ad σ α) → va_S A s.heap H locs → wp_Md_assemble_L99 σ α a2 post → W p l e rm_Md_assemble s m ([.ref (ad 0)] : List Value).toArray below meth c H locs 0 0 Q (F0 m 99 ls []) := by
    intro σ α a2 ls H locs hl hP hD hS hw
    let XL99 : (Nat → Int32) → (Nat → Nat → Int32) → Int32 → Prop := fun σ α a2 => ∀ (ls : Array Slot) (H : Heap) (locs : List Loc), lv_has ls 3 [(0, .ref (ad 0)), (2, .int a2)] → va_P D gCl (mW cI cS cZ ad σ α) H → va_D A (mW cI cS cZ ad σ α) → va_S A s.heap H locs → W p l e rm_Md_assemble s m ([.ref (ad 0)] : List Value).toArray below meth c H locs 0 0 Q (F0 m 99 ls [])
    have hX99 : ∀ (σ : Nat → Int32) (α : Nat → Nat → Int32) (a2 : Int32) (ls : Array Slot) (H : Heap) (locs : List Loc), lv_has ls 3 [(0, .ref (ad 0)), (2, .int a2)] → va_P D gCl (mW cI cS cZ ad σ α) H → va_D A (mW cI cS cZ ad σ α) → va_S A s.heap H locs → XL99 σ α a2 → W p l e rm_Md_assemble s m ([.ref (ad 0)] : List Value).toArray below meth c H locs 0 0 Q (F0 m 99 ls []) := fun σ α a2 ls H locs hl hP hD hS hw => hw ls H locs hl hP hD hS
    refine hw XL99 ?_ ls H locs hl hP hD hS
    clear hw hl hP hD hS
    intro σ α a2 hw ls H locs hl hP hD hS
    unfold wp_Md_assemble_B99 at hw
    refine lv_iload_n hx hb d_Md_assemble_99 rfl (lv_at hl 1 rfl) ?_
    refine lv_bipush (v := 64) hx hb d_Md_assemble_100 (by decide) ?_
    refine lv_icmp_ge (tgt := 119) hx hb d_Md_assemble_102 (by decide) (fun h => ?_) (fun h => ?_)
    · have hw := hw.1 h
      refine lv_iconst (v := 0) hx hb d_Md_assemble_119 (by decide) ?_
      refine lv_istore_n hx hb d_Md_assemble_120 rfl hl (by decide) rfl (fun ls hl => ?_)
      have hl : lv_has ls 3 [(2, .int (0 : Int32)), (0, .ref (ad 0))] := hl
      exact L121 σ α (0 : Int32) ls H locs (lv_sub hl [1, 0] rfl) hP hD hS hw
    · have hw := hw.2 h
      refine lv_aload_n hx hb d_Md_assemble_105 rfl (lv_at hl 0 rfl) ?_
      refine va_get (D := D) (ci := 9) (v := .ref (ad 1)) (C := R_Md) (T := T_Md) (N := 47) hx hb hts i_Md hown hK hP 0 rfl rfl 0 (by decide) (hts _ tw_534) (fun _ h9 => h9) rfl d_Md_assemble_106 ?_
      refine lv_iload_n hx hb d_Md_assemble_109 rfl (lv_at hl 1 rfl) ?_
      refine lv_ldc hx hb hown (hts _ tw_806) d_Md_assemble_110 ?_
      obtain ⟨hin, hw⟩ := hw
      refine va_iast (f := α 1) (i := a2) (x := (1015824 : Int32)) hx hb hK hP hD hS 1 0 rfl rfl hin d_Md_assemble_112 (fun H locs hP hD hS => ?_)
      rw [mW_s1] at hP hD
      have hP : va_P D gCl (mW cI cS cZ ad σ (va_up α 1 (upd (α 1) a2.toNatClampNeg (1015824 : Int32)))) H := hP
      have hD : va_D A (mW cI cS cZ ad σ (va_up α 1 (upd (α 1) a2.toNatClampNeg (1015824 : Int32)))) := hD
      refine lv_iinc (k := 1) hx hb d_Md_assemble_113 hl rfl rfl (by decide) rfl (fun ls hl => ?_)
      have hl : lv_has ls 3 [(2, .int (a2 + Int32.ofInt 1)), (0, .ref (ad 0))] := hl
      refine lv_goto (tgt := 99) hx hb d_Md_assemble_116 (by decide) ?_
      exact hX99 σ (va_up α 1 (upd (α 1) a2.toNatClampNeg (1015824 : Int32))) (a2 + Int32.ofInt 1) ls H locs (lv_sub hl [1, 0] rfl) hP hD hS hw
  have J95 : ∀ (σ : Nat → Int32) (α : Nat → Nat → Int32) (ls : Array Slot) (H : Heap) (locs : List Loc), lv_has ls 3 [] → va_P D gCl (mW cI cS cZ ad σ α) H → va_D A (mW cI cS cZ ad σ α) → va_S A s.heap H locs → wp_Md_assemble_J95 σ α post → W p l e rm_Md_assemble s m ([.ref (ad 0)] : List Value).toArray below meth c H locs 0 0 Q (F0 m 95 ls []) := by
    intro σ α ls H locs hl hP hD hS hw
    unfold wp_Md_assemble_J95 at hw
    refine lv_iconst (v := (-1)) hx hb d_Md_assemble_95 (by decide) ?_
    exact hret H locs 96 ls (-1 : Int32) (σ, α) d_Md_assemble_96 hP hD hS (vp_nar_int _) hw
  have L22 : ∀ (σ : Nat → Int32) (α : Nat → Nat → Int32) (a1 : Int32) (a2 : Int32) (ls : Array Slot) (H : Heap) (locs : List Loc), lv_has ls 3 [(0, .ref (ad 0)), (1, .int a1), (2, .int a2)] → va_P D gCl (mW cI cS cZ ad σ α) H → va_D A (mW cI cS cZ ad σ α) → va_S A s.heap H locs → wp_Md_assemble_L22 σ α a1 a2 post → W p l e rm_Md_assemble s m ([.ref (ad 0)] : List Value).toArray below meth c H locs 0 0 Q (F0 m 22 ls []) := by
    intro σ α a1 a2 ls H locs hl hP hD hS hw
    let XL22 : (Nat → Int32) → (Nat → Nat → Int32) → Int32 → Int32 → Prop := fun σ α a1 a2 => ∀ (ls : Array Slot) (H : Heap) (locs : List Loc), lv_has ls 3 [(0, .ref (ad 0)), (1, .int a1), (2, .int a2)] → va_P D gCl (mW cI cS cZ ad σ α) H → va_D A (mW cI cS cZ ad σ α) → va_S A s.heap H locs → W p l e rm_Md_assemble s m ([.ref (ad 0)] : List Value).toArray below meth c H locs 0 0 Q (F0 m 22 ls [])
    have hX22 : ∀ (σ : Nat → Int32) (α : Nat → Nat → Int32) (a1 : Int32) (a2 : Int32) (ls : Array Slot) (H : Heap) (locs : List Loc), lv_has ls 3 [(0, .ref (ad 0)), (1, .int a1), (2, .int a2)] → va_P D gCl (mW cI cS cZ ad σ α) H → va_D A (mW cI cS cZ ad σ α) → va_S A s.heap H locs → XL22 σ α a1 a2 → W p l e rm_Md_assemble s m ([.ref (ad 0)] : List Value).toArray below meth c H locs 0 0 Q (F0 m 22 ls []) := fun σ α a1 a2 ls H locs hl hP hD hS hw => hw ls H locs hl hP hD hS
    refine hw XL22 ?_ ls H locs hl hP hD hS
    clear hw hl hP hD hS
    intro σ α a1 a2 hw ls H locs hl hP hD hS
    unfold wp_Md_assemble_B22 at hw
    have J62 : ∀ (σ : Nat → Int32) (α : Nat → Nat → Int32) (a2 : Int32) (t0 : Int32) (ls : Array Slot) (H : Heap) (locs : List Loc), lv_has ls 3 [(0, .ref (ad 0)), (2, .int a2)] → va_P D gCl (mW cI cS cZ ad σ α) H → va_D A (mW cI cS cZ ad σ α) → va_S A s.heap H locs → wp_Md_assemble_J62 XL22 σ α a2 t0 post → W p l e rm_Md_assemble s m ([.ref (ad 0)] : List Value).toArray below meth c H locs 0 0 Q (F0 m 62 ls [.int t0]) := by
      intro σ α a2 t0 ls H locs hl hP hD hS hw
      unfold wp_Md_assemble_J62 at hw
      refine lv_istore_n hx hb d_Md_assemble_62 rfl hl (by decide) rfl (fun ls hl => ?_)
      have hl : lv_has ls 3 [(1, .int t0), (0, .ref (ad 0)), (2, .int a2)] := hl
      refine lv_iinc (k := 2) hx hb d_Md_assemble_63 hl rfl rfl (by decide) rfl (fun ls hl => ?_)
      have hl : lv_has ls 3 [(2, .int (a2 + Int32.ofInt 1)), (1, .int t0), (0, .ref (ad 0))] := hl
      refine lv_goto (tgt := 22) hx hb d_Md_assemble_66 (by decide) ?_
      exact hX22 σ α t0 (a2 + Int32.ofInt 1) ls H locs (lv_sub hl [2, 1, 0] rfl) hP hD hS hw
    have J61 : ∀ (σ : Nat → Int32) (α : Nat → Nat → Int32) (a2 : Int32) (ls : Array Slot) (H : Heap) (locs : List Loc), lv_has ls 3 [(0, .ref (ad 0)), (2, .int a2)] → va_P D gCl (mW cI cS cZ ad σ α) H → va_D A (mW cI cS cZ ad σ α) → va_S A s.heap H locs → wp_Md_assemble_J61 XL22 σ α a2 post → W p l e rm_Md_assemble s m ([.ref (ad 0)] : List Value).toArray below meth c H locs 0 0 Q (F0 m 61 ls []) := by
      intro σ α a2 ls H locs hl hP hD hS hw
      unfold wp_Md_assemble_J61 at hw
      refine lv_iconst (v := 0) hx hb d_Md_assemble_61 (by decide) ?_
      exact J62 σ α a2 (0 : Int32) ls H locs (lv_sub hl [0, 1] rfl) hP hD hS hw
    have J57 : ∀ (σ : Nat → Int32) (α : Nat → Nat → Int32) (a2 : Int32) (ls : Array Slot) (H : Heap) (locs : List Loc), lv_has ls 3 [(0, .ref (ad 0)), (2, .int a2)] → va_P D gCl (mW cI cS cZ ad σ α) H → va_D A (mW cI cS cZ ad σ α) → va_S A s.heap H locs → wp_Md_assemble_J57 XL22 σ α a2 post → W p l e rm_Md_assemble s m ([.ref (ad 0)] : List Value).toArray below meth c H locs 0 0 Q (F0 m 57 ls []) := by
      intro σ α a2 ls H locs hl hP hD hS hw
      unfold wp_Md_assemble_J57 at hw
      refine lv_iconst (v := 1) hx hb d_Md_assemble_57 (by decide) ?_
      refine lv_goto (tgt := 62) hx hb d_Md_assemble_58 (by decide) ?_
      exact J62 σ α a2 (1 : Int32) ls H locs (lv_sub hl [0, 1] rfl) hP hD hS hw
    refine lv_iload_n hx hb d_Md_assemble_22 rfl (lv_at hl 2 rfl) ?_
    refine lv_aload_n hx hb d_Md_assemble_23 rfl (lv_at hl 0 rfl) ?_
    refine va_get (D := D) (ci := 9) (v := .int (σ 23)) (C := R_Md) (T := T_Md) (N := 47) hx hb hts i_Md hown hK hP 0 rfl rfl 28 (by decide) (hts _ tw_562) (fun _ h9 => h9) rfl d_Md_assemble_24 ?_
    refine lv_icmp_ge (tgt := 69) hx hb d_Md_assemble_27 (by decide) (fun h => ?_) (fun h => ?_)
    · have hw := hw.1 h
      refine lv_iload_n hx hb d_Md_assemble_69 rfl (lv_at hl 1 rfl) ?_
      refine lv_if_ne (tgt := 75) hx hb d_Md_assemble_70 (by decide) (fun h => ?_) (fun h => ?_)
      · have hw := hw.1 h
        refine lv_aload_n hx hb d_Md_assemble_75 rfl (lv_at hl 0 rfl) ?_
        refine gCallVv (b := ad 0) (As := []) (rest := []) (c_Md_listAll l D cI cS cZ ad  σ α _ hw) hx hb hml hown hts hK hN hA hS hP hD (cwV 0 hts (gGV tw_786 tw_788 ts_32 tw_11 tw_789) rfl rfl rfl ⟨rfl, by decide, by decide, by decide +kernel⟩ ⟨Nat.le_of_ble_eq_true rfl, Nat.le_of_ble_eq_true rfl⟩) (va_recv (ci := 9) (q0 := 0) hK hP rfl rfl) rfl hl.1 rfl (Nat.le_of_ble_eq_true rfl) d_Md_assemble_76 (fun u76 H locs hw hP hD hS => ?_)
        have hP : va_P D gCl (mW cI cS cZ ad u76.1 u76.2) H := hP
        have hD : va_D A (mW cI cS cZ ad u76.1 u76.2) := hD
        refine lv_aload_n hx hb d_Md_assemble_79 rfl (lv_at hl 0 rfl) ?_
        refine va_get (D := D) (ci := 9) (v := .int (u76.1 24)) (C := R_Md) (T := T_Md) (N := 47) hx hb hts i_Md hown hK hP 0 rfl rfl 34 (by decide) (hts _ tw_568) (fun _ h9 => h9) rfl d_Md_assemble_80 ?_
        refine lv_bipush (v := 64) hx hb d_Md_assemble_83 (by decide) ?_
        refine lv_icmp_gt (tgt := 95) hx hb d_Md_assemble_85 (by decide) (fun h => ?_) (fun h => ?_)
        · have hw := hw.1 h
          exact J95 u76.1 u76.2 ls H locs (lv_sub hl [] rfl) hP hD hS hw
        · have hw := hw.2 h
          refine lv_aload_n hx hb d_Md_assemble_88 rfl (lv_at hl 0 rfl) ?_
          refine gCallVi (b := ad 0) (As := []) (rest := []) (c_Md_place l D cI cS cZ ad  u76.1 u76.2 _ hw) hx hb hml hown hts hK hN hA hS hP hD (cwV 0 hts (gGV tw_794 tw_796 ts_34 tw_11 tw_797) rfl rfl rfl ⟨rfl, by decide, by decide, by decide +kernel⟩ ⟨Nat.le_of_ble_eq_true rfl, Nat.le_of_ble_eq_true rfl⟩) (va_recv (ci := 9) (q0 := 0) hK hP rfl rfl) rfl hl.1 rfl (Nat.le_of_ble_eq_true rfl) d_Md_assemble_89 (fun r89 u89 H locs hw hP hD hS => ?_)
          have hP : va_P D gCl (mW cI cS cZ ad u89.1 u89.2) H := hP
          have hD : va_D A (mW cI cS cZ ad u89.1 u89.2) := hD
          refine lv_if_ne (tgt := 97) hx hb d_Md_assemble_92 (by decide) (fun h => ?_) (fun h => ?_)
          · have hw := hw.1 h
            refine lv_iconst (v := 0) hx hb d_Md_assemble_97 (by decide) ?_
            refine lv_istore_n hx hb d_Md_assemble_98 rfl hl (by decide) rfl (fun ls hl => ?_)
            have hl : lv_has ls 3 [(2, .int (0 : Int32)), (0, .ref (ad 0)), (1, .int a1)] := hl
            exact L99 u89.1 u89.2 (0 : Int32) ls H locs (lv_sub hl [1, 0] rfl) hP hD hS hw
          · have hw := hw.2 h
            exact J95 u89.1 u89.2 ls H locs (lv_sub hl [] rfl) hP hD hS hw
      · have hw := hw.2 h
        refine lv_iconst (v := (-1)) hx hb d_Md_assemble_73 (by decide) ?_
        exact hret H locs 74 ls (-1 : Int32) (σ, α) d_Md_assemble_74 hP hD hS (vp_nar_int _) hw
    · have hw := hw.2 h
      refine lv_iload_n hx hb d_Md_assemble_30 rfl (lv_at hl 1 rfl) ?_
      refine lv_if_eq (tgt := 61) hx hb d_Md_assemble_31 (by decide) (fun h => ?_) (fun h => ?_)
      · have hw := hw.1 h
        exact J61 σ α a2 ls H locs (lv_sub hl [0, 2] rfl) hP hD hS hw
      · have hw := hw.2 h
        refine lv_aload_n hx hb d_Md_assemble_34 rfl (lv_at hl 0 rfl) ?_
        refine va_get (D := D) (ci := 9) (v := .ref (ad 6)) (C := R_Md) (T := T_Md) (N := 47) hx hb hts i_Md hown hK hP 0 rfl rfl 29 (by decide) (hts _ tw_563) (fun _ h9 => h9) rfl d_Md_assemble_35 ?_
        refine lv_iload_n hx hb d_Md_assemble_38 rfl (lv_at hl 2 rfl) ?_
        obtain ⟨hin, hw⟩ := hw
        refine va_iald (f := α 6) hx hb hK hP 6 0 rfl rfl hin d_Md_assemble_39 ?_
        refine lv_iconst (v := 4) hx hb d_Md_assemble_40 (by decide) ?_
        refine lv_icmp_ne (tgt := 57) hx hb d_Md_assemble_41 (by decide) (fun h => ?_) (fun h => ?_)
        · have hw := hw.1 h
          exact J57 σ α a2 ls H locs (lv_sub hl [0, 2] rfl) hP hD hS hw
        · have hw := hw.2 h
          refine lv_aload_n hx hb d_Md_assemble_44 rfl (lv_at hl 0 rfl) ?_
          refine va_get (D := D) (ci := 9) (v := .ref (ad 10)) (C := R_Md) (T := T_Md) (N := 47) hx hb hts i_Md hown hK hP 0 rfl rfl 33 (by decide) (hts _ tw_567) (fun _ h9 => h9) rfl d_Md_assemble_45 ?_
          refine lv_iload_n hx hb d_Md_assemble_48 rfl (lv_at hl 2 rfl) ?_
          obtain ⟨hin, hw⟩ := hw
          refine va_iald (f := α 10) hx hb hK hP 10 0 rfl rfl hin d_Md_assemble_49 ?_
          refine lv_aload_n hx hb d_Md_assemble_50 rfl (lv_at hl 0 rfl) ?_
          refine va_get (D := D) (ci := 9) (v := .int (σ 23)) (C := R_Md) (T := T_Md) (N := 47) hx hb hts i_Md hown hK hP 0 rfl rfl 28 (by decide) (hts _ tw_562) (fun _ h9 => h9) rfl d_Md_assemble_51 ?_
          refine lv_icmp_ge (tgt := 61) hx hb d_Md_assemble_54 (by decide) (fun h => ?_) (fun h => ?_)
          · have hw := hw.1 h
            exact J61 σ α a2 ls H locs (lv_sub hl [0, 2] rfl) hP hD hS hw
          · have hw := hw.2 h
            exact J57 σ α a2 ls H locs (lv_sub hl [0, 2] rfl) hP hD hS hw
  have J19 : ∀ (σ : Nat → Int32) (α : Nat → Nat → Int32) (t0 : Int32) (ls : Array Slot) (H : Heap) (locs : List Loc), lv_has ls 3 [(0, .ref (ad 0))] → va_P D gCl (mW cI cS cZ ad σ α) H → va_D A (mW cI cS cZ ad σ α) → va_S A s.heap H locs → wp_Md_assemble_J19 σ α t0 post → W p l e rm_Md_assemble s m ([.ref (ad 0)] : List Value).toArray below meth c H locs 0 0 Q (F0 m 19 ls [.int t0]) := by
    intro σ α t0 ls H locs hl hP hD hS hw
    unfold wp_Md_assemble_J19 at hw
    refine lv_istore_n hx hb d_Md_assemble_19 rfl hl (by decide) rfl (fun ls hl => ?_)
    have hl : lv_has ls 3 [(1, .int t0), (0, .ref (ad 0))] := hl
    refine lv_iconst (v := 0) hx hb d_Md_assemble_20 (by decide) ?_
    refine lv_istore_n hx hb d_Md_assemble_21 rfl hl (by decide) rfl (fun ls hl => ?_)
    have hl : lv_has ls 3 [(2, .int (0 : Int32)), (1, .int t0), (0, .ref (ad 0))] := hl
    exact L22 σ α t0 (0 : Int32) ls H locs (lv_sub hl [2, 1, 0] rfl) hP hD hS hw
  have J18 : ∀ (σ : Nat → Int32) (α : Nat → Nat → Int32) (ls : Array Slot) (H : Heap) (locs : List Loc), lv_has ls 3 [(0, .ref (ad 0))] → va_P D gCl (mW cI cS cZ ad σ α) H → va_D A (mW cI cS cZ ad σ α) → va_S A s.heap H locs → wp_Md_assemble_J18 σ α post → W p l e rm_Md_assemble s m ([.ref (ad 0)] : List Value).toArray below meth c H locs 0 0 Q (F0 m 18 ls []) := by
    intro σ α ls H locs hl hP hD hS hw
    unfold wp_Md_assemble_J18 at hw
    refine lv_iconst (v := 0) hx hb d_Md_assemble_18 (by decide) ?_
    exact J19 σ α (0 : Int32) ls H locs (lv_sub hl [0] rfl) hP hD hS hw
  unfold wp_Md_assemble at hw
  have hP : va_P D gCl (mW cI cS cZ ad σ α) s.heap := hP
  have hD : va_D A (mW cI cS cZ ad σ α) := hD
  obtain ⟨H, hH⟩ : ∃ H, H = s.heap := ⟨_, rfl⟩
  obtain ⟨locs, hlocs⟩ : ∃ locs : List Loc, locs = [] := ⟨_, rfl⟩
  have hP : va_P D gCl (mW cI cS cZ ad σ α) H := by rw [hH]; exact hP
  have hS : va_S A s.heap H locs := by rw [hH, hlocs]; exact hS
  suffices K : W p l e rm_Md_assemble s m ([.ref (ad 0)] : List Value).toArray below meth c H locs 0 0 Q (F0 m 0 ls []) by rw [hH, hlocs] at K; exact K
  clear hH hlocs
  refine lv_aload_n hx hb d_Md_assemble_0 rfl (lv_at hl 0 rfl) ?_
  refine va_get (D := D) (ci := 9) (v := .int (σ 23)) (C := R_Md) (T := T_Md) (N := 47) hx hb hts i_Md hown hK hP 0 rfl rfl 28 (by decide) (hts _ tw_562) (fun _ h9 => h9) rfl d_Md_assemble_1 ?_
  refine lv_if_le (tgt := 18) hx hb d_Md_assemble_4 (by decide) (fun h => ?_) (fun h => ?_)
  · have hw := hw.1 h
    exact J18 σ α ls H locs (lv_sub hl [0] rfl) hP hD hS hw
  · have hw := hw.2 h
    refine lv_aload_n hx hb d_Md_assemble_7 rfl (lv_at hl 0 rfl) ?_
    refine va_get (D := D) (ci := 9) (v := .int (σ 1)) (C := R_Md) (T := T_Md) (N := 47) hx hb hts i_Md hown hK hP 0 rfl rfl 3 (by decide) (hts _ tw_537) (fun _ h9 => h9) rfl d_Md_assemble_8 ?_
    refine lv_if_ne (tgt := 18) hx hb d_Md_assemble_11 (by decide) (fun h => ?_) (fun h => ?_)
    · have hw := hw.1 h
      exact J18 σ α ls H locs (lv_sub hl [0] rfl) hP hD hS hw
    · have hw := hw.2 h
      refine lv_iconst (v := 1) hx hb d_Md_assemble_14 (by decide) ?_
      refine lv_goto (tgt := 19) hx hb d_Md_assemble_15 (by decide) ?_
      exact J19 σ α (1 : Int32) ls H locs (lv_sub hl [0] rfl) hP hD hS hw
abbrev rm_Md_placed : Room := { frames := 0, cells := 0, slots := 0, locals := 0 }
set_option maxHeartbeats 4000000 in
set_option maxRecDepth 100000 in
theorem c_Md_placed (l : Launch) (D : va_G) (cI cS cZ : ClassId) (ad : Nat → Nat) (σ : Nat → Int32) (α : Nat → Nat → Int32) (x1 : Int32) (post : Int32 → gS → Prop) (hw : wp_Md_placed σ α x1 post) : gMi l y_Md_placed b_Md_placed 2 .int rm_Md_placed D (gT cI cS cZ) (fun u : gS => mW cI cS cZ ad u.1 u.2) [.ref (ad 0), .int x1] (σ, α) post := by
  refine gMi.of (by decide) (Nat.le_of_ble_eq_true rfl) ?_
  intro p e s m below meth c Q A hx hb hml hown hts hK hN hA hS hP hD hret ls hl
  have hl : lv_has ls 2 [(0, .ref (ad 0)), (1, .int x1)] := hl
  have J22 : ∀ (σ : Nat → Int32) (α : Nat → Nat → Int32) (t0 : Int32) (ls : Array Slot) (H : Heap) (locs : List Loc), lv_has ls 2 [] → va_P D gCl (mW cI cS cZ ad σ α) H → va_D A (mW cI cS cZ ad σ α) → va_S A s.heap H locs → wp_Md_placed_J22 σ α t0 post → W p l e rm_Md_placed s m ([.ref (ad 0), .int x1] : List Value).toArray below meth c H locs 0 0 Q (F0 m 22 ls [.int t0]) := by
    intro σ α t0 ls H locs hl hP hD hS hw
    unfold wp_Md_placed_J22 at hw
    exact hret H locs 22 ls t0 (σ, α) d_Md_placed_22 hP hD hS (vp_nar_int _) hw
  have J12 : ∀ (σ : Nat → Int32) (α : Nat → Nat → Int32) (ls : Array Slot) (H : Heap) (locs : List Loc), lv_has ls 2 [] → va_P D gCl (mW cI cS cZ ad σ α) H → va_D A (mW cI cS cZ ad σ α) → va_S A s.heap H locs → wp_Md_placed_J12 σ α post → W p l e rm_Md_placed s m ([.ref (ad 0), .int x1] : List Value).toArray below meth c H locs 0 0 Q (F0 m 12 ls []) := by
    intro σ α ls H locs hl hP hD hS hw
    unfold wp_Md_placed_J12 at hw
    refine lv_iconst (v := (-1)) hx hb d_Md_placed_12 (by decide) ?_
    refine lv_goto (tgt := 22) hx hb d_Md_placed_13 (by decide) ?_
    exact J22 σ α (-1 : Int32) ls H locs (lv_sub hl [] rfl) hP hD hS hw
  unfold wp_Md_placed at hw
  have hP : va_P D gCl (mW cI cS cZ ad σ α) s.heap := hP
  have hD : va_D A (mW cI cS cZ ad σ α) := hD
  obtain ⟨H, hH⟩ : ∃ H, H = s.heap := ⟨_, rfl⟩
  obtain ⟨locs, hlocs⟩ : ∃ locs : List Loc, locs = [] := ⟨_, rfl⟩
  have hP : va_P D gCl (mW cI cS cZ ad σ α) H := by rw [hH]; exact hP
  have hS : va_S A s.heap H locs := by rw [hH, hlocs]; exact hS
  suffices K : W p l e rm_Md_placed s m ([.ref (ad 0), .int x1] : List Value).toArray below meth c H locs 0 0 Q (F0 m 0 ls []) by rw [hH, hlocs] at K; exact K
  clear hH hlocs
  refine lv_iload_n hx hb d_Md_placed_0 rfl (lv_at hl 1 rfl) ?_
  refine lv_if_lt (tgt := 12) hx hb d_Md_placed_1 (by decide) (fun h => ?_) (fun h => ?_)
  · have hw := hw.1 h
    exact J12 σ α ls H locs (lv_sub hl [] rfl) hP hD hS hw
  · have hw := hw.2 h
    refine lv_iload_n hx hb d_Md_placed_4 rfl (lv_at hl 1 rfl) ?_
    refine lv_aload_n hx hb d_Md_placed_5 rfl (lv_at hl 0 rfl) ?_
    refine va_get (D := D) (ci := 9) (v := .int (σ 25)) (C := R_Md) (T := T_Md) (N := 47) hx hb hts i_Md hown hK hP 0 rfl rfl 44 (by decide) (hts _ tw_578) (fun _ h9 => h9) rfl d_Md_placed_6 ?_
    refine lv_icmp_lt (tgt := 16) hx hb d_Md_placed_9 (by decide) (fun h => ?_) (fun h => ?_)
    · have hw := hw.1 h
      refine lv_aload_n hx hb d_Md_placed_16 rfl (lv_at hl 0 rfl) ?_
      refine va_get (D := D) (ci := 9) (v := .ref (ad 20)) (C := R_Md) (T := T_Md) (N := 47) hx hb hts i_Md hown hK hP 0 rfl rfl 45 (by decide) (hts _ tw_579) (fun _ h9 => h9) rfl d_Md_placed_17 ?_
      refine lv_iload_n hx hb d_Md_placed_20 rfl (lv_at hl 1 rfl) ?_
      obtain ⟨hin, hw⟩ := hw
      refine va_iald (f := α 20) hx hb hK hP 20 0 rfl rfl hin d_Md_placed_21 ?_
      exact J22 σ α (α 20 x1.toNatClampNeg) ls H locs (lv_sub hl [] rfl) hP hD hS hw
    · have hw := hw.2 h
      exact J12 σ α ls H locs (lv_sub hl [] rfl) hP hD hS hw
abbrev rm_Md_variable : Room := { frames := 0, cells := 0, slots := 0, locals := 0 }
set_option maxHeartbeats 4000000 in
set_option maxRecDepth 100000 in
theorem c_Md_variable (l : Launch) (D : va_G) (cI cS cZ : ClassId) (ad : Nat → Nat) (σ : Nat → Int32) (α : Nat → Nat → Int32) (x1 : Int32) (post : Int32 → gS → Prop) (hw : wp_Md_variable σ α x1 post) : gMi l y_Md_variable b_Md_variable 2 .int rm_Md_variable D (gT cI cS cZ) (fun u : gS => mW cI cS cZ ad u.1 u.2) [.ref (ad 0), .int x1] (σ, α) post := by
  refine gMi.of (by decide) (Nat.le_of_ble_eq_true rfl) ?_
  intro p e s m below meth c Q A hx hb hml hown hts hK hN hA hS hP hD hret ls hl
  have hl : lv_has ls 2 [(0, .ref (ad 0)), (1, .int x1)] := hl
  have J20 : ∀ (σ : Nat → Int32) (α : Nat → Nat → Int32) (t0 : Int32) (ls : Array Slot) (H : Heap) (locs : List Loc), lv_has ls 2 [] → va_P D gCl (mW cI cS cZ ad σ α) H → va_D A (mW cI cS cZ ad σ α) → va_S A s.heap H locs → wp_Md_variable_J20 σ α t0 post → W p l e rm_Md_variable s m ([.ref (ad 0), .int x1] : List Value).toArray below meth c H locs 0 0 Q (F0 m 20 ls [.int t0]) := by
    intro σ α t0 ls H locs hl hP hD hS hw
    unfold wp_Md_variable_J20 at hw
    exact hret H locs 20 ls t0 (σ, α) d_Md_variable_20 hP hD hS (vp_nar_int _) hw
  have J10 : ∀ (σ : Nat → Int32) (α : Nat → Nat → Int32) (ls : Array Slot) (H : Heap) (locs : List Loc), lv_has ls 2 [] → va_P D gCl (mW cI cS cZ ad σ α) H → va_D A (mW cI cS cZ ad σ α) → va_S A s.heap H locs → wp_Md_variable_J10 σ α post → W p l e rm_Md_variable s m ([.ref (ad 0), .int x1] : List Value).toArray below meth c H locs 0 0 Q (F0 m 10 ls []) := by
    intro σ α ls H locs hl hP hD hS hw
    unfold wp_Md_variable_J10 at hw
    refine lv_iconst (v := (-1)) hx hb d_Md_variable_10 (by decide) ?_
    refine lv_goto (tgt := 20) hx hb d_Md_variable_11 (by decide) ?_
    exact J20 σ α (-1 : Int32) ls H locs (lv_sub hl [] rfl) hP hD hS hw
  unfold wp_Md_variable at hw
  have hP : va_P D gCl (mW cI cS cZ ad σ α) s.heap := hP
  have hD : va_D A (mW cI cS cZ ad σ α) := hD
  obtain ⟨H, hH⟩ : ∃ H, H = s.heap := ⟨_, rfl⟩
  obtain ⟨locs, hlocs⟩ : ∃ locs : List Loc, locs = [] := ⟨_, rfl⟩
  have hP : va_P D gCl (mW cI cS cZ ad σ α) H := by rw [hH]; exact hP
  have hS : va_S A s.heap H locs := by rw [hH, hlocs]; exact hS
  suffices K : W p l e rm_Md_variable s m ([.ref (ad 0), .int x1] : List Value).toArray below meth c H locs 0 0 Q (F0 m 0 ls []) by rw [hH, hlocs] at K; exact K
  clear hH hlocs
  refine lv_iload_n hx hb d_Md_variable_0 rfl (lv_at hl 1 rfl) ?_
  refine lv_if_lt (tgt := 10) hx hb d_Md_variable_1 (by decide) (fun h => ?_) (fun h => ?_)
  · have hw := hw.1 h
    exact J10 σ α ls H locs (lv_sub hl [] rfl) hP hD hS hw
  · have hw := hw.2 h
    refine lv_iload_n hx hb d_Md_variable_4 rfl (lv_at hl 1 rfl) ?_
    refine lv_bipush (v := 15) hx hb d_Md_variable_5 (by decide) ?_
    refine lv_icmp_le (tgt := 14) hx hb d_Md_variable_7 (by decide) (fun h => ?_) (fun h => ?_)
    · have hw := hw.1 h
      refine lv_aload_n hx hb d_Md_variable_14 rfl (lv_at hl 0 rfl) ?_
      refine va_get (D := D) (ci := 9) (v := .ref (ad 21)) (C := R_Md) (T := T_Md) (N := 47) hx hb hts i_Md hown hK hP 0 rfl rfl 46 (by decide) (hts _ tw_580) (fun _ h9 => h9) rfl d_Md_variable_15 ?_
      refine lv_iload_n hx hb d_Md_variable_18 rfl (lv_at hl 1 rfl) ?_
      obtain ⟨hin, hw⟩ := hw
      refine va_iald (f := α 21) hx hb hK hP 21 0 rfl rfl hin d_Md_variable_19 ?_
      exact J20 σ α (α 21 x1.toNatClampNeg) ls H locs (lv_sub hl [] rfl) hP hD hS hw
    · have hw := hw.2 h
      exact J10 σ α ls H locs (lv_sub hl [] rfl) hP hD hS hw
