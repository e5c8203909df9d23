/-! THE CLAIM OUT OF ONE WALK OF THE LAW'S BODY. Your part is whole_start (and what it stands on); all else here is the same for every law, but numbers. -/
def R_law : String := "DelayMachineLaw"
def lw_P (b : Addr) (xs : List Int32) (args : Array Value) (s : State) : Prop := args = #[.ref b] ∧ s.IntsAt b xs ∧ xs.length ≤ 3072 ∧ (Jvm.Cond.and given_1 narrow_1).before args s = true
def lw_Q (_ : Array Value) (s : State) (o : Outcome) (t : State) : Prop := o = .returned (some (.int 1)) ∧ Framed s o t [] 52 1652
def lw_Z (below : List Frame) (a : Array Value) (s : State) : State → Prop := fun t => ∃ o, t.status = .running ∧ Ended t below o ∧ lw_Q a s o t
/-- the law's own end, with 1 on the stack, nothing written that was there before, its room as the claim has it -/
theorem lw_ret {p : Program} {l : Launch} {e : Env} {s : State} {m : MethodId} {below : List Frame} {meth : Method} {c : Code} {b : Nat} (hx : p.tables.exec = Jvm.exec) (hb : c.code = code) (hr : meth.sig.returnType = ret) (hlocks : meth.locks = false) {pc : Nat} {H : Heap} {ls : Array Slot} (hdg : decode code pc = .ok (.ireturn, 1)) : W p l e room_1 s m #[Value.ref b] below meth c H [] 52 1652 (lw_Z below #[Value.ref b] s) (F0 m pc ls [.int 1]) := by
  intro T hT X
  obtain ⟨fs, hret, hrun, hended, hW, hframe⟩ := X.leave (v := some (.int 1)) (hlocks := hlocks) (fun h => by rw [hr] at h; cases h)
  have hmeth' : T.vm.method? m = some meth := X.method'
  refine ⟨T.setFrames fs, ?_, .returned (some (.int 1)), hrun, hended, rfl, ⟨_, rfl⟩, hW, hframe⟩
  jvm_step X.here [X.here.top, hx, hb, hdg, hmeth', hr, ret, narrow_b1]
  (try refine ⟨rfl, ?_⟩); (try refine ⟨rfl, ?_⟩)
  first | (intro acts; rw [hret _ acts rfl rfl rfl]) | rw [hret _ _ rfl rfl rfl]
  exact Steps.refl _
/-- what holds at the law's entry: the machine, the code, the tables' words (any of lw_tbl by 'hts w (by decide +kernel)'), the script of L ints xs at the cell b, what the Statement gives of the start (any of its parts by flat_of_before) -/
def lw_At (p : Program) (s : State) (m : MethodId) (meth : Method) (c : Code) (b L : Nat) (xs : Nat → Int32) : Prop :=
  p.tables.exec = Jvm.exec ∧ c.code = code ∧ meth.sig.returnType = ret ∧ c.maxLocals = 4 ∧ s.vm.findClass R_law = some m.cls ∧ (∀ w ∈ lw_tbl, w.before #[Value.ref b] s = true) ∧ va_X b L xs s s.heap ∧ b < s.heap.size ∧ meth.locks = false ∧ (Jvm.Cond.and given_1 narrow_1).before #[Value.ref b] s = true
set_option maxHeartbeats 8000000 in
set_option maxRecDepth 100000 in
theorem law_L18 {p : Program} {e : Env} {s : State} {m : MethodId} {below : List Frame} {meth : Method} {c : Code} (l : Launch) {b L : Nat} {xs : Nat → Int32} (C0 : lw_At p s m meth c b L xs) (D : va_G) (cI cS cZ : ClassId) (hK : va_K D gCl (gT cI cS cZ) s) (ax am : Nat → Nat) (A : Nat → Prop) (hAe : A = fun q => s.heap.size ≤ q) : ∀ (wc : Nat) (wb : Nat) (kp : Nat → Nat) (tp : Nat → Nat) (σ : Nat → Int32) (α : Nat → Nat → Int32) (μ : Nat → Int32) (β : Nat → Nat → Int32) (a3 : Int32) (ls : Array Slot) (H : Heap) (locs : List Loc), lv_has ls 4 [(0, .ref b), (1, .ref (ax 0)), (2, .ref (am 0)), (3, .int a3)] → va_P D gCl ((xW cI cS cZ ax wc wb kp tp σ α) ++ (mW cI cS cZ am μ β)) H → va_D A ((xW cI cS cZ ax wc wb kp tp σ α) ++ (mW cI cS cZ am μ β)) → va_S A s.heap H locs → wp_law_L18 L xs wc wb kp tp σ α μ β a3 → W p l e room_1 s m #[Value.ref b] below meth c H locs 52 1652 (lw_Z below #[Value.ref b] s) (F0 m 18 ls []) := by
  obtain ⟨hx, hb, hr, hml, hown, hts0, hXs, hbl, hlocks, hgv⟩ := C0
  have hN : gNst s := fun w hw => va_Nw.of (lw_nstO hw) (hts0 w (lw_nstT w hw))
  have hts : ∀ w ∈ lw_g, w.before #[Value.ref b] s = true := fun w h => hts0 w (lw_sub w h)
  have hA : ∀ q, s.heap.size ≤ q → A q := fun q h => by rw [hAe]; exact h
  have hbA : ¬ A b := by rw [hAe]; exact Nat.not_le.mpr hbl
  intro wc wb kp tp σ α μ β a3 ls H locs hl hP hD hS hw
  let XL18 : Nat → Nat → (Nat → Nat) → (Nat → Nat) → (Nat → Int32) → (Nat → Nat → Int32) → (Nat → Int32) → (Nat → Nat → Int32) → Int32 → Prop := fun wc wb kp tp σ α μ β a3 => ∀ (ls : Array Slot) (H : Heap) (locs : List Loc), lv_has ls 4 [(0, .ref b), (1, .ref (ax 0)), (2, .ref (am 0)), (3, .int a3)] → va_P D gCl ((xW cI cS cZ ax wc wb kp tp σ α) ++ (mW cI cS cZ am μ β)) H → va_D A ((xW cI cS cZ ax wc wb kp tp σ α) ++ (mW cI cS cZ am μ β)) → va_S A s.heap H locs → W p l e room_1 s m #[Value.ref b] below meth c H locs 52 1652 (lw_Z below #[Value.ref b] s) (F0 m 18 ls [])
  have hX18 : ∀ (wc : Nat) (wb : Nat) (kp : Nat → Nat) (tp : Nat → Nat) (σ : Nat → Int32) (α : Nat → Nat → Int32) (μ : Nat → Int32) (β : Nat → Nat → Int32) (a3 : Int32) (ls : Array Slot) (H : Heap) (locs : List Loc), lv_has ls 4 [(0, .ref b), (1, .ref (ax 0)), (2, .ref (am 0)), (3, .int a3)] → va_P D gCl ((xW cI cS cZ ax wc wb kp tp σ α) ++ (mW cI cS cZ am μ β)) H → va_D A ((xW cI cS cZ ax wc wb kp tp σ α) ++ (mW cI cS cZ am μ β)) → va_S A s.heap H locs → XL18 wc wb kp tp σ α μ β a3 → W p l e room_1 s m #[Value.ref b] below meth c H locs 52 1652 (lw_Z below #[Value.ref b] s) (F0 m 18 ls []) := fun wc wb kp tp σ α μ β a3 ls H locs hl hP hD hS hw => hw ls H locs hl hP hD hS
  refine hw XL18 ?_ ls H locs hl hP hD hS
  clear hw hl hP hD hS
  have J518 : ∀ (wc : Nat) (wb : Nat) (kp : Nat → Nat) (tp : Nat → Nat) (σ : Nat → Int32) (α : Nat → Nat → Int32) (μ : Nat → Int32) (β : Nat → Nat → Int32) (a3 : Int32) (ls : Array Slot) (H : Heap) (locs : List Loc), lv_has ls 4 [(0, .ref b), (1, .ref (ax 0)), (2, .ref (am 0)), (3, .int a3)] → va_P D gCl ((xW cI cS cZ ax wc wb kp tp σ α) ++ (mW cI cS cZ am μ β)) H → va_D A ((xW cI cS cZ ax wc wb kp tp σ α) ++ (mW cI cS cZ am μ β)) → va_S A s.heap H locs → wp_law_J518 XL18 wc wb kp tp σ α μ β a3 → W p l e room_1 s m #[Value.ref b] below meth c H locs 52 1652 (lw_Z below #[Value.ref b] s) (F0 m 518 ls []) := by
    intro wc wb kp tp σ α μ β a3 ls H locs hl hP hD hS hw
    unfold wp_law_J518 at hw
    refine lv_iinc (k := 3) hx hb d_Lw_law_518 hl rfl rfl (by decide) rfl (fun ls hl => ?_)
    have hl : lv_has ls 4 [(3, .int (a3 + Int32.ofInt 6)), (0, .ref b), (1, .ref (ax 0)), (2, .ref (am 0))] := hl
    refine lv_goto (tgt := 18) hx hb d_Lw_law_521 (by decide) ?_
    exact hX18 wc wb kp tp σ α μ β (a3 + Int32.ofInt 6) ls H locs (lv_sub hl [1, 2, 3, 0] rfl) hP hD hS hw
  intro wc wb kp tp σ α μ β a3 hw ls H locs hl hP hD hS
  unfold wp_law_B18 at hw
  refine lv_iload_n hx hb d_Lw_law_18 rfl (lv_at hl 3 rfl) ?_
  refine lv_aload_n hx hb d_Lw_law_19 rfl (lv_at hl 0 rfl) ?_
  refine va_slen hx hb hXs hbl hbA hS d_Lw_law_20 ?_
  refine lv_bipush (v := 6) hx hb d_Lw_law_21 (by decide) ?_
  refine lv_isub hx hb d_Lw_law_23 ?_
  refine lv_icmp_gt (tgt := 524) hx hb d_Lw_law_24 (by decide) (fun h => ?_) (fun h => ?_)
  · have hw := hw.1 h
    refine lv_iconst (v := 1) hx hb d_Lw_law_524 (by decide) ?_
    refine va_forget (fun q hq => by have h9 := hS.2.2 q hq; rw [hAe] at h9; exact h9) ?_
    exact lw_ret hx hb hr hlocks d_Lw_law_525
  · have hw := hw.2 h
    refine lv_aload_n hx hb d_Lw_law_27 rfl (lv_at hl 0 rfl) ?_
    refine lv_iload_n hx hb d_Lw_law_28 rfl (lv_at hl 3 rfl) ?_
    obtain ⟨hin0, hw⟩ := hw
    refine va_sld hx hb hXs hbl hbA hS hin0 d_Lw_law_29 ?_
    refine lv_bipush (v := 15) hx hb d_Lw_law_30 (by decide) ?_
    refine lv_iand hx hb d_Lw_law_32 ?_
    by_cases h33_0 : ((xs a3.toNatClampNeg) &&& (15 : Int32)) = 0
    · have hw := hw.1 h33_0
      unfold wp_law_C0 at hw
      refine W.eq (g2 := F0 m 33 ls [.int (0 : Int32)]) (by rw [h33_0]) ?_
      refine lv_tableIn (off := 71) (tgt := 104) hx hb d_Lw_law_33 (by decide) (by decide) (by decide) (by decide) ?_
      refine lv_aload_n hx hb d_Lw_law_104 rfl (lv_at hl 1 rfl) ?_
      refine lv_aload_n hx hb d_Lw_law_105 rfl (lv_at hl 0 rfl) ?_
      refine lv_iload_n hx hb d_Lw_law_106 rfl (lv_at hl 3 rfl) ?_
      refine lv_iconst (v := 1) hx hb d_Lw_law_107 (by decide) ?_
      refine lv_iadd hx hb d_Lw_law_108 ?_
      obtain ⟨hin1, hw⟩ := hw
      refine va_sld hx hb hXs hbl hbA hS hin1 d_Lw_law_109 ?_
      refine lv_aload_n hx hb d_Lw_law_110 rfl (lv_at hl 0 rfl) ?_
      refine lv_iload_n hx hb d_Lw_law_111 rfl (lv_at hl 3 rfl) ?_
      refine lv_iconst (v := 2) hx hb d_Lw_law_112 (by decide) ?_
      refine lv_iadd hx hb d_Lw_law_113 ?_
      obtain ⟨hin2, hw⟩ := hw
      refine va_sld hx hb hXs hbl hbA hS hin2 d_Lw_law_114 ?_
      refine lv_aload_n hx hb d_Lw_law_115 rfl (lv_at hl 0 rfl) ?_
      refine lv_iload_n hx hb d_Lw_law_116 rfl (lv_at hl 3 rfl) ?_
      refine lv_iconst (v := 3) hx hb d_Lw_law_117 (by decide) ?_
      refine lv_iadd hx hb d_Lw_law_118 ?_
      obtain ⟨hin3, hw⟩ := hw
      refine va_sld hx hb hXs hbl hbA hS hin3 d_Lw_law_119 ?_
      refine gCallVi2 (wr := (mW cI cS cZ am μ β)) (b := ax 0) (As := [.int (xs (a3 + (1 : Int32)).toNatClampNeg), .int (xs (a3 + (2 : Int32)).toNatClampNeg), .int (xs (a3 + (3 : Int32)).toNatClampNeg)]) (rest := []) (c_Dm_order l D cI cS cZ ax wc wb kp tp σ α (xs (a3 + (1 : Int32)).toNatClampNeg) (xs (a3 + (2 : Int32)).toNatClampNeg) (xs (a3 + (3 : Int32)).toNatClampNeg) _ hw) hx hb hml hown hts hK hN hA hS (gSwP hP) (gSwD hD) (cwV 3 hts (gGV tw_277 tw_278 tw_279 tw_1 tw_280) rfl rfl rfl ⟨rfl, by decide, by decide, by decide +kernel⟩ ⟨Nat.le_of_ble_eq_true rfl, Nat.le_of_ble_eq_true rfl⟩) (va_recv (ci := 0) (q0 := 0) hK (gPl hP) rfl rfl) rfl hl.1 rfl (Nat.le_of_ble_eq_true rfl) d_Lw_law_120 (Nat.le_of_ble_eq_true rfl) (Nat.le_of_ble_eq_true rfl) (fun r120 u120 H locs hw hP hD hS => ?_)
      have hP : va_P D gCl ((xW cI cS cZ ax wc wb kp tp u120.1 u120.2) ++ (mW cI cS cZ am μ β)) H := gSwP hP
      have hD : va_D A ((xW cI cS cZ ax wc wb kp tp u120.1 u120.2) ++ (mW cI cS cZ am μ β)) := gSwD hD
      refine lv_aload_n hx hb d_Lw_law_123 rfl (lv_at hl 2 rfl) ?_
      refine lv_aload_n hx hb d_Lw_law_124 rfl (lv_at hl 0 rfl) ?_
      refine lv_iload_n hx hb d_Lw_law_125 rfl (lv_at hl 3 rfl) ?_
      refine lv_iconst (v := 1) hx hb d_Lw_law_126 (by decide) ?_
      refine lv_iadd hx hb d_Lw_law_127 ?_
      refine va_sld hx hb hXs hbl hbA hS hin1 d_Lw_law_128 ?_
      refine lv_aload_n hx hb d_Lw_law_129 rfl (lv_at hl 0 rfl) ?_
      refine lv_iload_n hx hb d_Lw_law_130 rfl (lv_at hl 3 rfl) ?_
      refine lv_iconst (v := 2) hx hb d_Lw_law_131 (by decide) ?_
      refine lv_iadd hx hb d_Lw_law_132 ?_
      refine va_sld hx hb hXs hbl hbA hS hin2 d_Lw_law_133 ?_
      refine lv_aload_n hx hb d_Lw_law_134 rfl (lv_at hl 0 rfl) ?_
      refine lv_iload_n hx hb d_Lw_law_135 rfl (lv_at hl 3 rfl) ?_
      refine lv_iconst (v := 3) hx hb d_Lw_law_136 (by decide) ?_
      refine lv_iadd hx hb d_Lw_law_137 ?_
      refine va_sld hx hb hXs hbl hbA hS hin3 d_Lw_law_138 ?_
      refine gCallVi2 (wr := (xW cI cS cZ ax wc wb kp tp u120.1 u120.2)) (b := am 0) (As := [.int (xs (a3 + (1 : Int32)).toNatClampNeg), .int (xs (a3 + (2 : Int32)).toNatClampNeg), .int (xs (a3 + (3 : Int32)).toNatClampNeg)]) (rest := [.int r120]) (c_Md_order l D cI cS cZ am μ β (xs (a3 + (1 : Int32)).toNatClampNeg) (xs (a3 + (2 : Int32)).toNatClampNeg) (xs (a3 + (3 : Int32)).toNatClampNeg) _ hw) hx hb hml hown hts hK hN hA hS hP hD (cwV 3 hts (gGV tw_677 tw_678 tw_679 tw_11 tw_680) rfl rfl rfl ⟨rfl, by decide, by decide, by decide +kernel⟩ ⟨Nat.le_of_ble_eq_true rfl, Nat.le_of_ble_eq_true rfl⟩) (va_recv (ci := 9) (q0 := 0) hK (gPr hP) rfl rfl) rfl hl.1 rfl (Nat.le_of_ble_eq_true rfl) d_Lw_law_139 (Nat.le_of_ble_eq_true rfl) (Nat.le_of_ble_eq_true rfl) (fun r139 u139 H locs hw hP hD hS => ?_)
      have hP : va_P D gCl ((xW cI cS cZ ax wc wb kp tp u120.1 u120.2) ++ (mW cI cS cZ am u139.1 u139.2)) H := hP
      have hD : va_D A ((xW cI cS cZ ax wc wb kp tp u120.1 u120.2) ++ (mW cI cS cZ am u139.1 u139.2)) := hD
      refine lv_icmp_eq (tgt := 518) hx hb d_Lw_law_142 (by decide) (fun h => ?_) (fun h => ?_)
      · have hw := hw.1 h
        exact J518 wc wb kp tp u120.1 u120.2 u139.1 u139.2 a3 ls H locs (lv_sub hl [0, 1, 2, 3] rfl) hP hD hS hw
      · have hw := hw.2 h
        refine lv_iconst (v := 0) hx hb d_Lw_law_145 (by decide) ?_
        exact False.elim hw
    by_cases h33_1 : ((xs a3.toNatClampNeg) &&& (15 : Int32)) = 1
    · have hw := hw.2.1 h33_1
      unfold wp_law_C1 at hw
      refine W.eq (g2 := F0 m 33 ls [.int (1 : Int32)]) (by rw [h33_1]) ?_
      refine lv_tableIn (off := 114) (tgt := 147) hx hb d_Lw_law_33 (by decide) (by decide) (by decide) (by decide) ?_
      refine lv_aload_n hx hb d_Lw_law_147 rfl (lv_at hl 1 rfl) ?_
      refine lv_aload_n hx hb d_Lw_law_148 rfl (lv_at hl 0 rfl) ?_
      refine lv_iload_n hx hb d_Lw_law_149 rfl (lv_at hl 3 rfl) ?_
      refine lv_iconst (v := 1) hx hb d_Lw_law_150 (by decide) ?_
      refine lv_iadd hx hb d_Lw_law_151 ?_
      obtain ⟨hin1, hw⟩ := hw
      refine va_sld hx hb hXs hbl hbA hS hin1 d_Lw_law_152 ?_
      refine lv_aload_n hx hb d_Lw_law_153 rfl (lv_at hl 0 rfl) ?_
      refine lv_iload_n hx hb d_Lw_law_154 rfl (lv_at hl 3 rfl) ?_
      refine lv_iconst (v := 2) hx hb d_Lw_law_155 (by decide) ?_
      refine lv_iadd hx hb d_Lw_law_156 ?_
      obtain ⟨hin2, hw⟩ := hw
      refine va_sld hx hb hXs hbl hbA hS hin2 d_Lw_law_157 ?_
      refine lv_aload_n hx hb d_Lw_law_158 rfl (lv_at hl 0 rfl) ?_
      refine lv_iload_n hx hb d_Lw_law_159 rfl (lv_at hl 3 rfl) ?_
      refine lv_iconst (v := 3) hx hb d_Lw_law_160 (by decide) ?_
      refine lv_iadd hx hb d_Lw_law_161 ?_
      obtain ⟨hin3, hw⟩ := hw
      refine va_sld hx hb hXs hbl hbA hS hin3 d_Lw_law_162 ?_
      refine lv_i2s (v := (xs (a3 + (3 : Int32)).toNatClampNeg).toInt16.toInt32) hx hb d_Lw_law_163 rfl ?_
      refine gCallVi2 (wr := (mW cI cS cZ am μ β)) (b := ax 0) (As := [.int (xs (a3 + (1 : Int32)).toNatClampNeg), .int (xs (a3 + (2 : Int32)).toNatClampNeg), .int ((xs (a3 + (3 : Int32)).toNatClampNeg).toInt16.toInt32)]) (rest := []) (c_Dm_word l D cI cS cZ ax wc wb kp tp σ α (xs (a3 + (1 : Int32)).toNatClampNeg) (xs (a3 + (2 : Int32)).toNatClampNeg) ((xs (a3 + (3 : Int32)).toNatClampNeg).toInt16.toInt32) _ hw) hx hb hml hown hts hK hN hA hS (gSwP hP) (gSwD hD) (cwV 3 hts (gGV tw_285 tw_286 tw_287 tw_1 tw_288) rfl rfl rfl ⟨rfl, by decide, by decide, by decide +kernel⟩ ⟨Nat.le_of_ble_eq_true rfl, Nat.le_of_ble_eq_true rfl⟩) (va_recv (ci := 0) (q0 := 0) hK (gPl hP) rfl rfl) rfl hl.1 rfl (Nat.le_of_ble_eq_true rfl) d_Lw_law_164 (Nat.le_of_ble_eq_true rfl) (Nat.le_of_ble_eq_true rfl) (fun r164 u164 H locs hw hP hD hS => ?_)
      have hP : va_P D gCl ((xW cI cS cZ ax wc wb kp tp u164.1 u164.2) ++ (mW cI cS cZ am μ β)) H := gSwP hP
      have hD : va_D A ((xW cI cS cZ ax wc wb kp tp u164.1 u164.2) ++ (mW cI cS cZ am μ β)) := gSwD hD
      refine lv_aload_n hx hb d_Lw_law_167 rfl (lv_at hl 2 rfl) ?_
      refine lv_aload_n hx hb d_Lw_law_168 rfl (lv_at hl 0 rfl) ?_
      refine lv_iload_n hx hb d_Lw_law_169 rfl (lv_at hl 3 rfl) ?_
      refine lv_iconst (v := 1) hx hb d_Lw_law_170 (by decide) ?_
      refine lv_iadd hx hb d_Lw_law_171 ?_
      refine va_sld hx hb hXs hbl hbA hS hin1 d_Lw_law_172 ?_
      refine lv_aload_n hx hb d_Lw_law_173 rfl (lv_at hl 0 rfl) ?_
      refine lv_iload_n hx hb d_Lw_law_174 rfl (lv_at hl 3 rfl) ?_
      refine lv_iconst (v := 2) hx hb d_Lw_law_175 (by decide) ?_
      refine lv_iadd hx hb d_Lw_law_176 ?_
      refine va_sld hx hb hXs hbl hbA hS hin2 d_Lw_law_177 ?_
      refine lv_aload_n hx hb d_Lw_law_178 rfl (lv_at hl 0 rfl) ?_
      refine lv_iload_n hx hb d_Lw_law_179 rfl (lv_at hl 3 rfl) ?_
      refine lv_iconst (v := 3) hx hb d_Lw_law_180 (by decide) ?_
      refine lv_iadd hx hb d_Lw_law_181 ?_
      refine va_sld hx hb hXs hbl hbA hS hin3 d_Lw_law_182 ?_
      refine lv_i2s (v := (xs (a3 + (3 : Int32)).toNatClampNeg).toInt16.toInt32) hx hb d_Lw_law_183 rfl ?_
      refine gCallVi2 (wr := (xW cI cS cZ ax wc wb kp tp u164.1 u164.2)) (b := am 0) (As := [.int (xs (a3 + (1 : Int32)).toNatClampNeg), .int (xs (a3 + (2 : Int32)).toNatClampNeg), .int ((xs (a3 + (3 : Int32)).toNatClampNeg).toInt16.toInt32)]) (rest := [.int r164]) (c_Md_word l D cI cS cZ am μ β (xs (a3 + (1 : Int32)).toNatClampNeg) (xs (a3 + (2 : Int32)).toNatClampNeg) ((xs (a3 + (3 : Int32)).toNatClampNeg).toInt16.toInt32) _ hw) hx hb hml hown hts hK hN hA hS hP hD (cwV 3 hts (gGV tw_685 tw_686 tw_687 tw_11 tw_688) rfl rfl rfl ⟨rfl, by decide, by decide, by decide +kernel⟩ ⟨Nat.le_of_ble_eq_true rfl, Nat.le_of_ble_eq_true rfl⟩) (va_recv (ci := 9) (q0 := 0) hK (gPr hP) rfl rfl) rfl hl.1 rfl (Nat.le_of_ble_eq_true rfl) d_Lw_law_184 (Nat.le_of_ble_eq_true rfl) (Nat.le_of_ble_eq_true rfl) (fun r184 u184 H locs hw hP hD hS => ?_)
      have hP : va_P D gCl ((xW cI cS cZ ax wc wb kp tp u164.1 u164.2) ++ (mW cI cS cZ am u184.1 u184.2)) H := hP
      have hD : va_D A ((xW cI cS cZ ax wc wb kp tp u164.1 u164.2) ++ (mW cI cS cZ am u184.1 u184.2)) := hD
      refine lv_icmp_eq (tgt := 518) hx hb d_Lw_law_187 (by decide) (fun h => ?_) (fun h => ?_)
      · have hw := hw.1 h
        exact J518 wc wb kp tp u164.1 u164.2 u184.1 u184.2 a3 ls H locs (lv_sub hl [0, 1, 2, 3] rfl) hP hD hS hw
      · have hw := hw.2 h
        refine lv_iconst (v := 0) hx hb d_Lw_law_190 (by decide) ?_
        exact False.elim hw
    by_cases h33_2 : ((xs a3.toNatClampNeg) &&& (15 : Int32)) = 2
    · have hw := hw.2.2.1 h33_2
      unfold wp_law_C2 at hw
      refine W.eq (g2 := F0 m 33 ls [.int (2 : Int32)]) (by rw [h33_2]) ?_
      refine lv_tableIn (off := 159) (tgt := 192) hx hb d_Lw_law_33 (by decide) (by decide) (by decide) (by decide) ?_
      refine lv_aload_n hx hb d_Lw_law_192 rfl (lv_at hl 1 rfl) ?_
      refine lv_aload_n hx hb d_Lw_law_193 rfl (lv_at hl 0 rfl) ?_
      refine lv_iload_n hx hb d_Lw_law_194 rfl (lv_at hl 3 rfl) ?_
      refine lv_iconst (v := 1) hx hb d_Lw_law_195 (by decide) ?_
      refine lv_iadd hx hb d_Lw_law_196 ?_
      obtain ⟨hin1, hw⟩ := hw
      refine va_sld hx hb hXs hbl hbA hS hin1 d_Lw_law_197 ?_
      refine lv_i2s (v := (xs (a3 + (1 : Int32)).toNatClampNeg).toInt16.toInt32) hx hb d_Lw_law_198 rfl ?_
      refine gCallVi2 (wr := (mW cI cS cZ am μ β)) (b := ax 0) (As := [.int ((xs (a3 + (1 : Int32)).toNatClampNeg).toInt16.toInt32)]) (rest := []) (c_Dm_card l D cI cS cZ ax wc wb kp tp σ α ((xs (a3 + (1 : Int32)).toNatClampNeg).toInt16.toInt32) _ hw) hx hb hml hown hts hK hN hA hS (gSwP hP) (gSwD hD) (cwV 1 hts (gGV tw_298 tw_299 tw_300 tw_1 tw_301) rfl rfl rfl ⟨rfl, by decide, by decide, by decide +kernel⟩ ⟨Nat.le_of_ble_eq_true rfl, Nat.le_of_ble_eq_true rfl⟩) (va_recv (ci := 0) (q0 := 0) hK (gPl hP) rfl rfl) rfl hl.1 rfl (Nat.le_of_ble_eq_true rfl) d_Lw_law_199 (Nat.le_of_ble_eq_true rfl) (Nat.le_of_ble_eq_true rfl) (fun r199 u199 H locs hw hP hD hS => ?_)
      have hP : va_P D gCl ((xW cI cS cZ ax wc wb kp tp u199.1 u199.2) ++ (mW cI cS cZ am μ β)) H := gSwP hP
      have hD : va_D A ((xW cI cS cZ ax wc wb kp tp u199.1 u199.2) ++ (mW cI cS cZ am μ β)) := gSwD hD
      refine lv_aload_n hx hb d_Lw_law_202 rfl (lv_at hl 2 rfl) ?_
      refine lv_aload_n hx hb d_Lw_law_203 rfl (lv_at hl 0 rfl) ?_
      refine lv_iload_n hx hb d_Lw_law_204 rfl (lv_at hl 3 rfl) ?_
      refine lv_iconst (v := 1) hx hb d_Lw_law_205 (by decide) ?_
      refine lv_iadd hx hb d_Lw_law_206 ?_
      refine va_sld hx hb hXs hbl hbA hS hin1 d_Lw_law_207 ?_
      refine lv_i2s (v := (xs (a3 + (1 : Int32)).toNatClampNeg).toInt16.toInt32) hx hb d_Lw_law_208 rfl ?_
      refine gCallVi2 (wr := (xW cI cS cZ ax wc wb kp tp u199.1 u199.2)) (b := am 0) (As := [.int ((xs (a3 + (1 : Int32)).toNatClampNeg).toInt16.toInt32)]) (rest := [.int r199]) (c_Md_card l D cI cS cZ am μ β ((xs (a3 + (1 : Int32)).toNatClampNeg).toInt16.toInt32) _ hw) hx hb hml hown hts hK hN hA hS hP hD (cwV 1 hts (gGV tw_692 tw_693 tw_694 tw_11 tw_695) rfl rfl rfl ⟨rfl, by decide, by decide, by decide +kernel⟩ ⟨Nat.le_of_ble_eq_true rfl, Nat.le_of_ble_eq_true rfl⟩) (va_recv (ci := 9) (q0 := 0) hK (gPr hP) rfl rfl) rfl hl.1 rfl (Nat.le_of_ble_eq_true rfl) d_Lw_law_209 (Nat.le_of_ble_eq_true rfl) (Nat.le_of_ble_eq_true rfl) (fun r209 u209 H locs hw hP hD hS => ?_)
      have hP : va_P D gCl ((xW cI cS cZ ax wc wb kp tp u199.1 u199.2) ++ (mW cI cS cZ am u209.1 u209.2)) H := hP
      have hD : va_D A ((xW cI cS cZ ax wc wb kp tp u199.1 u199.2) ++ (mW cI cS cZ am u209.1 u209.2)) := hD
      refine lv_icmp_eq (tgt := 518) hx hb d_Lw_law_212 (by decide) (fun h => ?_) (fun h => ?_)
      · have hw := hw.1 h
        exact J518 wc wb kp tp u199.1 u199.2 u209.1 u209.2 a3 ls H locs (lv_sub hl [0, 1, 2, 3] rfl) hP hD hS hw
      · have hw := hw.2 h
        refine lv_iconst (v := 0) hx hb d_Lw_law_215 (by decide) ?_
        exact False.elim hw
    by_cases h33_3 : ((xs a3.toNatClampNeg) &&& (15 : Int32)) = 3
    · have hw := hw.2.2.2.1 h33_3
      unfold wp_law_C3 at hw
      refine W.eq (g2 := F0 m 33 ls [.int (3 : Int32)]) (by rw [h33_3]) ?_
      refine lv_tableIn (off := 184) (tgt := 217) hx hb d_Lw_law_33 (by decide) (by decide) (by decide) (by decide) ?_
      refine lv_aload_n hx hb d_Lw_law_217 rfl (lv_at hl 1 rfl) ?_
      refine lv_aload_n hx hb d_Lw_law_218 rfl (lv_at hl 0 rfl) ?_
      refine lv_iload_n hx hb d_Lw_law_219 rfl (lv_at hl 3 rfl) ?_
      refine lv_iconst (v := 1) hx hb d_Lw_law_220 (by decide) ?_
      refine lv_iadd hx hb d_Lw_law_221 ?_
      obtain ⟨hin1, hw⟩ := hw
      refine va_sld hx hb hXs hbl hbA hS hin1 d_Lw_law_222 ?_
      refine lv_aload_n hx hb d_Lw_law_223 rfl (lv_at hl 0 rfl) ?_
      refine lv_iload_n hx hb d_Lw_law_224 rfl (lv_at hl 3 rfl) ?_
      refine lv_iconst (v := 2) hx hb d_Lw_law_225 (by decide) ?_
      refine lv_iadd hx hb d_Lw_law_226 ?_
      obtain ⟨hin2, hw⟩ := hw
      refine va_sld hx hb hXs hbl hbA hS hin2 d_Lw_law_227 ?_
      refine gCallVi2 (wr := (mW cI cS cZ am μ β)) (b := ax 0) (As := [.int (xs (a3 + (1 : Int32)).toNatClampNeg), .int (xs (a3 + (2 : Int32)).toNatClampNeg)]) (rest := []) (c_Dm_start l D cI cS cZ ax wc wb kp tp σ α (xs (a3 + (1 : Int32)).toNatClampNeg) (xs (a3 + (2 : Int32)).toNatClampNeg) _ hw) hx hb hml hown hts hK hN hA hS (gSwP hP) (gSwD hD) (cwV 2 hts (gGV tw_306 tw_307 tw_308 tw_1 tw_309) rfl rfl rfl ⟨rfl, by decide, by decide, by decide +kernel⟩ ⟨Nat.le_of_ble_eq_true rfl, Nat.le_of_ble_eq_true rfl⟩) (va_recv (ci := 0) (q0 := 0) hK (gPl hP) rfl rfl) rfl hl.1 rfl (Nat.le_of_ble_eq_true rfl) d_Lw_law_228 (Nat.le_of_ble_eq_true rfl) (Nat.le_of_ble_eq_true rfl) (fun r228 u228 H locs hw hP hD hS => ?_)
      have hP : va_P D gCl ((xW cI cS cZ ax wc wb kp tp u228.1 u228.2) ++ (mW cI cS cZ am μ β)) H := gSwP hP
      have hD : va_D A ((xW cI cS cZ ax wc wb kp tp u228.1 u228.2) ++ (mW cI cS cZ am μ β)) := gSwD hD
      refine lv_aload_n hx hb d_Lw_law_231 rfl (lv_at hl 2 rfl) ?_
      refine lv_aload_n hx hb d_Lw_law_232 rfl (lv_at hl 0 rfl) ?_
      refine lv_iload_n hx hb d_Lw_law_233 rfl (lv_at hl 3 rfl) ?_
      refine lv_iconst (v := 1) hx hb d_Lw_law_234 (by decide) ?_
      refine lv_iadd hx hb d_Lw_law_235 ?_
      refine va_sld hx hb hXs hbl hbA hS hin1 d_Lw_law_236 ?_
      refine lv_aload_n hx hb d_Lw_law_237 rfl (lv_at hl 0 rfl) ?_
      refine lv_iload_n hx hb d_Lw_law_238 rfl (lv_at hl 3 rfl) ?_
      refine lv_iconst (v := 2) hx hb d_Lw_law_239 (by decide) ?_
      refine lv_iadd hx hb d_Lw_law_240 ?_
      refine va_sld hx hb hXs hbl hbA hS hin2 d_Lw_law_241 ?_
      refine gCallVi2 (wr := (xW cI cS cZ ax wc wb kp tp u228.1 u228.2)) (b := am 0) (As := [.int (xs (a3 + (1 : Int32)).toNatClampNeg), .int (xs (a3 + (2 : Int32)).toNatClampNeg)]) (rest := [.int r228]) (c_Md_start l D cI cS cZ am μ β (xs (a3 + (1 : Int32)).toNatClampNeg) (xs (a3 + (2 : Int32)).toNatClampNeg) _ hw) hx hb hml hown hts hK hN hA hS hP hD (cwV 2 hts (gGV tw_696 tw_697 tw_698 tw_11 tw_699) rfl rfl rfl ⟨rfl, by decide, by decide, by decide +kernel⟩ ⟨Nat.le_of_ble_eq_true rfl, Nat.le_of_ble_eq_true rfl⟩) (va_recv (ci := 9) (q0 := 0) hK (gPr hP) rfl rfl) rfl hl.1 rfl (Nat.le_of_ble_eq_true rfl) d_Lw_law_242 (Nat.le_of_ble_eq_true rfl) (Nat.le_of_ble_eq_true rfl) (fun r242 u242 H locs hw hP hD hS => ?_)
      have hP : va_P D gCl ((xW cI cS cZ ax wc wb kp tp u228.1 u228.2) ++ (mW cI cS cZ am u242.1 u242.2)) H := hP
      have hD : va_D A ((xW cI cS cZ ax wc wb kp tp u228.1 u228.2) ++ (mW cI cS cZ am u242.1 u242.2)) := hD
      refine lv_icmp_eq (tgt := 518) hx hb d_Lw_law_245 (by decide) (fun h => ?_) (fun h => ?_)
      · have hw := hw.1 h
        exact J518 wc wb kp tp u228.1 u228.2 u242.1 u242.2 a3 ls H locs (lv_sub hl [0, 1, 2, 3] rfl) hP hD hS hw
      · have hw := hw.2 h
        refine lv_iconst (v := 0) hx hb d_Lw_law_248 (by decide) ?_
        exact False.elim hw
    by_cases h33_4 : ((xs a3.toNatClampNeg) &&& (15 : Int32)) = 4
    · have hw := hw.2.2.2.2.1 h33_4
      unfold wp_law_C4 at hw
      refine W.eq (g2 := F0 m 33 ls [.int (4 : Int32)]) (by rw [h33_4]) ?_
      refine lv_tableIn (off := 217) (tgt := 250) hx hb d_Lw_law_33 (by decide) (by decide) (by decide) (by decide) ?_
      refine lv_aload_n hx hb d_Lw_law_250 rfl (lv_at hl 1 rfl) ?_
      refine lv_aload_n hx hb d_Lw_law_251 rfl (lv_at hl 0 rfl) ?_
      refine lv_iload_n hx hb d_Lw_law_252 rfl (lv_at hl 3 rfl) ?_
      refine lv_iconst (v := 1) hx hb d_Lw_law_253 (by decide) ?_
      refine lv_iadd hx hb d_Lw_law_254 ?_
      obtain ⟨hin1, hw⟩ := hw
      refine va_sld hx hb hXs hbl hbA hS hin1 d_Lw_law_255 ?_
      refine gCallVi2 (wr := (mW cI cS cZ am μ β)) (b := ax 0) (As := [.int (xs (a3 + (1 : Int32)).toNatClampNeg)]) (rest := []) (c_Dm_run l D cI cS cZ ax kp tp wc wb σ α (xs (a3 + (1 : Int32)).toNatClampNeg) _ hw) hx hb hml hown hts hK hN hA hS (gSwP hP) (gSwD hD) (cwV 1 hts (gGV tw_326 tw_327 tw_328 tw_1 tw_329) rfl rfl rfl ⟨rfl, by decide, by decide, by decide +kernel⟩ ⟨Nat.le_of_ble_eq_true rfl, Nat.le_of_ble_eq_true rfl⟩) (va_recv (ci := 0) (q0 := 0) hK (gPl hP) rfl rfl) rfl hl.1 rfl (Nat.le_of_ble_eq_true rfl) d_Lw_law_256 (Nat.le_of_ble_eq_true rfl) (Nat.le_of_ble_eq_true rfl) (fun r256 u256 H locs hw hP hD hS => ?_)
      have hP : va_P D gCl ((xW cI cS cZ ax u256.1 u256.2.1 kp tp u256.2.2.1 u256.2.2.2) ++ (mW cI cS cZ am μ β)) H := gSwP hP
      have hD : va_D A ((xW cI cS cZ ax u256.1 u256.2.1 kp tp u256.2.2.1 u256.2.2.2) ++ (mW cI cS cZ am μ β)) := gSwD hD
      refine lv_aload_n hx hb d_Lw_law_259 rfl (lv_at hl 2 rfl) ?_
      refine lv_aload_n hx hb d_Lw_law_260 rfl (lv_at hl 0 rfl) ?_
      refine lv_iload_n hx hb d_Lw_law_261 rfl (lv_at hl 3 rfl) ?_
      refine lv_iconst (v := 1) hx hb d_Lw_law_262 (by decide) ?_
      refine lv_iadd hx hb d_Lw_law_263 ?_
      refine va_sld hx hb hXs hbl hbA hS hin1 d_Lw_law_264 ?_
      refine gCallVi2 (wr := (xW cI cS cZ ax u256.1 u256.2.1 kp tp u256.2.2.1 u256.2.2.2)) (b := am 0) (As := [.int (xs (a3 + (1 : Int32)).toNatClampNeg)]) (rest := [.int r256]) (c_Md_run l D cI cS cZ am μ β (xs (a3 + (1 : Int32)).toNatClampNeg) _ hw) hx hb hml hown hts hK hN hA hS hP hD (cwV 1 hts (gGV tw_700 tw_701 tw_702 tw_11 tw_703) rfl rfl rfl ⟨rfl, by decide, by decide, by decide +kernel⟩ ⟨Nat.le_of_ble_eq_true rfl, Nat.le_of_ble_eq_true rfl⟩) (va_recv (ci := 9) (q0 := 0) hK (gPr hP) rfl rfl) rfl hl.1 rfl (Nat.le_of_ble_eq_true rfl) d_Lw_law_265 (Nat.le_of_ble_eq_true rfl) (Nat.le_of_ble_eq_true rfl) (fun r265 u265 H locs hw hP hD hS => ?_)
      have hP : va_P D gCl ((xW cI cS cZ ax u256.1 u256.2.1 kp tp u256.2.2.1 u256.2.2.2) ++ (mW cI cS cZ am u265.1 u265.2)) H := hP
      have hD : va_D A ((xW cI cS cZ ax u256.1 u256.2.1 kp tp u256.2.2.1 u256.2.2.2) ++ (mW cI cS cZ am u265.1 u265.2)) := hD
      refine lv_icmp_eq (tgt := 518) hx hb d_Lw_law_268 (by decide) (fun h => ?_) (fun h => ?_)
      · have hw := hw.1 h
        exact J518 u256.1 u256.2.1 kp tp u256.2.2.1 u256.2.2.2 u265.1 u265.2 a3 ls H locs (lv_sub hl [0, 1, 2, 3] rfl) hP hD hS hw
      · have hw := hw.2 h
        refine lv_iconst (v := 0) hx hb d_Lw_law_271 (by decide) ?_
        exact False.elim hw
    by_cases h33_5 : ((xs a3.toNatClampNeg) &&& (15 : Int32)) = 5
    · have hw := hw.2.2.2.2.2.1 h33_5
      unfold wp_law_C5 at hw
      refine W.eq (g2 := F0 m 33 ls [.int (5 : Int32)]) (by rw [h33_5]) ?_
      refine lv_tableIn (off := 240) (tgt := 273) hx hb d_Lw_law_33 (by decide) (by decide) (by decide) (by decide) ?_
      refine lv_aload_n hx hb d_Lw_law_273 rfl (lv_at hl 1 rfl) ?_
      refine lv_aload_n hx hb d_Lw_law_274 rfl (lv_at hl 0 rfl) ?_
      refine lv_iload_n hx hb d_Lw_law_275 rfl (lv_at hl 3 rfl) ?_
      refine lv_iconst (v := 1) hx hb d_Lw_law_276 (by decide) ?_
      refine lv_iadd hx hb d_Lw_law_277 ?_
      obtain ⟨hin1, hw⟩ := hw
      refine va_sld hx hb hXs hbl hbA hS hin1 d_Lw_law_278 ?_
      refine gCallVi2 (wr := (mW cI cS cZ am μ β)) (b := ax 0) (As := [.int (xs (a3 + (1 : Int32)).toNatClampNeg)]) (rest := []) (c_Dm_look l D cI cS cZ ax wc wb kp tp σ α (xs (a3 + (1 : Int32)).toNatClampNeg) _ hw) hx hb hml hown hts hK hN hA hS (gSwP hP) (gSwD hD) (cwV 1 hts (gGV tw_415 tw_416 tw_417 tw_1 tw_418) rfl rfl rfl ⟨rfl, by decide, by decide, by decide +kernel⟩ ⟨Nat.le_of_ble_eq_true rfl, Nat.le_of_ble_eq_true rfl⟩) (va_recv (ci := 0) (q0 := 0) hK (gPl hP) rfl rfl) rfl hl.1 rfl (Nat.le_of_ble_eq_true rfl) d_Lw_law_279 (Nat.le_of_ble_eq_true rfl) (Nat.le_of_ble_eq_true rfl) (fun r279 u279 H locs hw hP hD hS => ?_)
      have hP : va_P D gCl ((xW cI cS cZ ax wc wb kp tp u279.1 u279.2) ++ (mW cI cS cZ am μ β)) H := gSwP hP
      have hD : va_D A ((xW cI cS cZ ax wc wb kp tp u279.1 u279.2) ++ (mW cI cS cZ am μ β)) := gSwD hD
      refine lv_aload_n hx hb d_Lw_law_282 rfl (lv_at hl 2 rfl) ?_
      refine lv_aload_n hx hb d_Lw_law_283 rfl (lv_at hl 0 rfl) ?_
      refine lv_iload_n hx hb d_Lw_law_284 rfl (lv_at hl 3 rfl) ?_
      refine lv_iconst (v := 1) hx hb d_Lw_law_285 (by decide) ?_
      refine lv_iadd hx hb d_Lw_law_286 ?_
      refine va_sld hx hb hXs hbl hbA hS hin1 d_Lw_law_287 ?_
      refine gCallVi2 (wr := (xW cI cS cZ ax wc wb kp tp u279.1 u279.2)) (b := am 0) (As := [.int (xs (a3 + (1 : Int32)).toNatClampNeg)]) (rest := [.int r279]) (c_Md_look l D cI cS cZ am μ β (xs (a3 + (1 : Int32)).toNatClampNeg) _ hw) hx hb hml hown hts hK hN hA hS hP hD (cwV 1 hts (gGV tw_755 tw_756 tw_757 tw_11 tw_758) rfl rfl rfl ⟨rfl, by decide, by decide, by decide +kernel⟩ ⟨Nat.le_of_ble_eq_true rfl, Nat.le_of_ble_eq_true rfl⟩) (va_recv (ci := 9) (q0 := 0) hK (gPr hP) rfl rfl) rfl hl.1 rfl (Nat.le_of_ble_eq_true rfl) d_Lw_law_288 (Nat.le_of_ble_eq_true rfl) (Nat.le_of_ble_eq_true rfl) (fun r288 u288 H locs hw hP hD hS => ?_)
      have hP : va_P D gCl ((xW cI cS cZ ax wc wb kp tp u279.1 u279.2) ++ (mW cI cS cZ am u288.1 u288.2)) H := hP
      have hD : va_D A ((xW cI cS cZ ax wc wb kp tp u279.1 u279.2) ++ (mW cI cS cZ am u288.1 u288.2)) := hD
      refine lv_icmp_eq (tgt := 518) hx hb d_Lw_law_291 (by decide) (fun h => ?_) (fun h => ?_)
      · have hw := hw.1 h
        exact J518 wc wb kp tp u279.1 u279.2 u288.1 u288.2 a3 ls H locs (lv_sub hl [0, 1, 2, 3] rfl) hP hD hS hw
      · have hw := hw.2 h
        refine lv_iconst (v := 0) hx hb d_Lw_law_294 (by decide) ?_
        exact False.elim hw
    by_cases h33_6 : ((xs a3.toNatClampNeg) &&& (15 : Int32)) = 6
    · have hw := hw.2.2.2.2.2.2.1 h33_6
      unfold wp_law_C6 at hw
      refine W.eq (g2 := F0 m 33 ls [.int (6 : Int32)]) (by rw [h33_6]) ?_
      refine lv_tableIn (off := 263) (tgt := 296) hx hb d_Lw_law_33 (by decide) (by decide) (by decide) (by decide) ?_
      refine lv_aload_n hx hb d_Lw_law_296 rfl (lv_at hl 1 rfl) ?_
      refine lv_aload_n hx hb d_Lw_law_297 rfl (lv_at hl 0 rfl) ?_
      refine lv_iload_n hx hb d_Lw_law_298 rfl (lv_at hl 3 rfl) ?_
      refine lv_iconst (v := 1) hx hb d_Lw_law_299 (by decide) ?_
      refine lv_iadd hx hb d_Lw_law_300 ?_
      obtain ⟨hin1, hw⟩ := hw
      refine va_sld hx hb hXs hbl hbA hS hin1 d_Lw_law_301 ?_
      refine lv_aload_n hx hb d_Lw_law_302 rfl (lv_at hl 0 rfl) ?_
      refine lv_iload_n hx hb d_Lw_law_303 rfl (lv_at hl 3 rfl) ?_
      refine lv_iconst (v := 2) hx hb d_Lw_law_304 (by decide) ?_
      refine lv_iadd hx hb d_Lw_law_305 ?_
      obtain ⟨hin2, hw⟩ := hw
      refine va_sld hx hb hXs hbl hbA hS hin2 d_Lw_law_306 ?_
      refine gCallVi2 (wr := (mW cI cS cZ am μ β)) (b := ax 0) (As := [.int (xs (a3 + (1 : Int32)).toNatClampNeg), .int (xs (a3 + (2 : Int32)).toNatClampNeg)]) (rest := []) (c_Dm_peek l D cI cS cZ ax wc wb kp tp σ α (xs (a3 + (1 : Int32)).toNatClampNeg) (xs (a3 + (2 : Int32)).toNatClampNeg) _ hw) hx hb hml hown hts hK hN hA hS (gSwP hP) (gSwD hD) (cwV 2 hts (gGV tw_420 tw_421 tw_422 tw_1 tw_423) rfl rfl rfl ⟨rfl, by decide, by decide, by decide +kernel⟩ ⟨Nat.le_of_ble_eq_true rfl, Nat.le_of_ble_eq_true rfl⟩) (va_recv (ci := 0) (q0 := 0) hK (gPl hP) rfl rfl) rfl hl.1 rfl (Nat.le_of_ble_eq_true rfl) d_Lw_law_307 (Nat.le_of_ble_eq_true rfl) (Nat.le_of_ble_eq_true rfl) (fun r307 u307 H locs hw hP hD hS => ?_)
      have hP : va_P D gCl ((xW cI cS cZ ax wc wb kp tp u307.1 u307.2) ++ (mW cI cS cZ am μ β)) H := gSwP hP
      have hD : va_D A ((xW cI cS cZ ax wc wb kp tp u307.1 u307.2) ++ (mW cI cS cZ am μ β)) := gSwD hD
      refine lv_aload_n hx hb d_Lw_law_310 rfl (lv_at hl 2 rfl) ?_
      refine lv_aload_n hx hb d_Lw_law_311 rfl (lv_at hl 0 rfl) ?_
      refine lv_iload_n hx hb d_Lw_law_312 rfl (lv_at hl 3 rfl) ?_
      refine lv_iconst (v := 1) hx hb d_Lw_law_313 (by decide) ?_
      refine lv_iadd hx hb d_Lw_law_314 ?_
      refine va_sld hx hb hXs hbl hbA hS hin1 d_Lw_law_315 ?_
      refine lv_aload_n hx hb d_Lw_law_316 rfl (lv_at hl 0 rfl) ?_
      refine lv_iload_n hx hb d_Lw_law_317 rfl (lv_at hl 3 rfl) ?_
      refine lv_iconst (v := 2) hx hb d_Lw_law_318 (by decide) ?_
      refine lv_iadd hx hb d_Lw_law_319 ?_
      refine va_sld hx hb hXs hbl hbA hS hin2 d_Lw_law_320 ?_
      refine gCallVi2 (wr := (xW cI cS cZ ax wc wb kp tp u307.1 u307.2)) (b := am 0) (As := [.int (xs (a3 + (1 : Int32)).toNatClampNeg), .int (xs (a3 + (2 : Int32)).toNatClampNeg)]) (rest := [.int r307]) (c_Md_peek l D cI cS cZ am μ β (xs (a3 + (1 : Int32)).toNatClampNeg) (xs (a3 + (2 : Int32)).toNatClampNeg) _ hw) hx hb hml hown hts hK hN hA hS hP hD (cwV 2 hts (gGV tw_759 tw_760 tw_761 tw_11 tw_762) rfl rfl rfl ⟨rfl, by decide, by decide, by decide +kernel⟩ ⟨Nat.le_of_ble_eq_true rfl, Nat.le_of_ble_eq_true rfl⟩) (va_recv (ci := 9) (q0 := 0) hK (gPr hP) rfl rfl) rfl hl.1 rfl (Nat.le_of_ble_eq_true rfl) d_Lw_law_321 (Nat.le_of_ble_eq_true rfl) (Nat.le_of_ble_eq_true rfl) (fun r321 u321 H locs hw hP hD hS => ?_)
      have hP : va_P D gCl ((xW cI cS cZ ax wc wb kp tp u307.1 u307.2) ++ (mW cI cS cZ am u321.1 u321.2)) H := hP
      have hD : va_D A ((xW cI cS cZ ax wc wb kp tp u307.1 u307.2) ++ (mW cI cS cZ am u321.1 u321.2)) := hD
      refine lv_icmp_eq (tgt := 518) hx hb d_Lw_law_324 (by decide) (fun h => ?_) (fun h => ?_)
      · have hw := hw.1 h
        exact J518 wc wb kp tp u307.1 u307.2 u321.1 u321.2 a3 ls H locs (lv_sub hl [0, 1, 2, 3] rfl) hP hD hS hw
      · have hw := hw.2 h
        refine lv_iconst (v := 0) hx hb d_Lw_law_327 (by decide) ?_
        exact False.elim hw
    by_cases h33_7 : ((xs a3.toNatClampNeg) &&& (15 : Int32)) = 7
    · have hw := hw.2.2.2.2.2.2.2.1 h33_7
      unfold wp_law_C7 at hw
      refine W.eq (g2 := F0 m 33 ls [.int (7 : Int32)]) (by rw [h33_7]) ?_
      refine lv_tableIn (off := 296) (tgt := 329) hx hb d_Lw_law_33 (by decide) (by decide) (by decide) (by decide) ?_
      refine lv_aload_n hx hb d_Lw_law_329 rfl (lv_at hl 1 rfl) ?_
      refine lv_aload_n hx hb d_Lw_law_330 rfl (lv_at hl 0 rfl) ?_
      refine lv_iload_n hx hb d_Lw_law_331 rfl (lv_at hl 3 rfl) ?_
      refine lv_iconst (v := 1) hx hb d_Lw_law_332 (by decide) ?_
      refine lv_iadd hx hb d_Lw_law_333 ?_
      obtain ⟨hin1, hw⟩ := hw
      refine va_sld hx hb hXs hbl hbA hS hin1 d_Lw_law_334 ?_
      refine lv_aload_n hx hb d_Lw_law_335 rfl (lv_at hl 0 rfl) ?_
      refine lv_iload_n hx hb d_Lw_law_336 rfl (lv_at hl 3 rfl) ?_
      refine lv_iconst (v := 2) hx hb d_Lw_law_337 (by decide) ?_
      refine lv_iadd hx hb d_Lw_law_338 ?_
      obtain ⟨hin2, hw⟩ := hw
      refine va_sld hx hb hXs hbl hbA hS hin2 d_Lw_law_339 ?_
      refine gCallVi2 (wr := (mW cI cS cZ am μ β)) (b := ax 0) (As := [.int (xs (a3 + (1 : Int32)).toNatClampNeg), .int (xs (a3 + (2 : Int32)).toNatClampNeg)]) (rest := []) (c_Dm_read l D cI cS cZ ax wc wb kp tp σ α (xs (a3 + (1 : Int32)).toNatClampNeg) (xs (a3 + (2 : Int32)).toNatClampNeg) _ hw) hx hb hml hown hts hK hN hA hS (gSwP hP) (gSwD hD) (cwV 2 hts (gGV tw_424 tw_425 tw_426 tw_1 tw_427) rfl rfl rfl ⟨rfl, by decide, by decide, by decide +kernel⟩ ⟨Nat.le_of_ble_eq_true rfl, Nat.le_of_ble_eq_true rfl⟩) (va_recv (ci := 0) (q0 := 0) hK (gPl hP) rfl rfl) rfl hl.1 rfl (Nat.le_of_ble_eq_true rfl) d_Lw_law_340 (Nat.le_of_ble_eq_true rfl) (Nat.le_of_ble_eq_true rfl) (fun r340 u340 H locs hw hP hD hS => ?_)
      have hP : va_P D gCl ((xW cI cS cZ ax wc wb kp tp u340.1 u340.2) ++ (mW cI cS cZ am μ β)) H := gSwP hP
      have hD : va_D A ((xW cI cS cZ ax wc wb kp tp u340.1 u340.2) ++ (mW cI cS cZ am μ β)) := gSwD hD
      refine lv_aload_n hx hb d_Lw_law_343 rfl (lv_at hl 2 rfl) ?_
      refine lv_aload_n hx hb d_Lw_law_344 rfl (lv_at hl 0 rfl) ?_
      refine lv_iload_n hx hb d_Lw_law_345 rfl (lv_at hl 3 rfl) ?_
      refine lv_iconst (v := 1) hx hb d_Lw_law_346 (by decide) ?_
      refine lv_iadd hx hb d_Lw_law_347 ?_
      refine va_sld hx hb hXs hbl hbA hS hin1 d_Lw_law_348 ?_
      refine lv_aload_n hx hb d_Lw_law_349 rfl (lv_at hl 0 rfl) ?_
      refine lv_iload_n hx hb d_Lw_law_350 rfl (lv_at hl 3 rfl) ?_
      refine lv_iconst (v := 2) hx hb d_Lw_law_351 (by decide) ?_
      refine lv_iadd hx hb d_Lw_law_352 ?_
      refine va_sld hx hb hXs hbl hbA hS hin2 d_Lw_law_353 ?_
      refine gCallVi2 (wr := (xW cI cS cZ ax wc wb kp tp u340.1 u340.2)) (b := am 0) (As := [.int (xs (a3 + (1 : Int32)).toNatClampNeg), .int (xs (a3 + (2 : Int32)).toNatClampNeg)]) (rest := [.int r340]) (c_Md_read_II l D cI cS cZ am μ β (xs (a3 + (1 : Int32)).toNatClampNeg) (xs (a3 + (2 : Int32)).toNatClampNeg) _ hw) hx hb hml hown hts hK hN hA hS hP hD (cwV 2 hts (gGV tw_763 tw_764 tw_765 tw_11 tw_766) rfl rfl rfl ⟨rfl, by decide, by decide, by decide +kernel⟩ ⟨Nat.le_of_ble_eq_true rfl, Nat.le_of_ble_eq_true rfl⟩) (va_recv (ci := 9) (q0 := 0) hK (gPr hP) rfl rfl) rfl hl.1 rfl (Nat.le_of_ble_eq_true rfl) d_Lw_law_354 (Nat.le_of_ble_eq_true rfl) (Nat.le_of_ble_eq_true rfl) (fun r354 u354 H locs hw hP hD hS => ?_)
      have hP : va_P D gCl ((xW cI cS cZ ax wc wb kp tp u340.1 u340.2) ++ (mW cI cS cZ am u354.1 u354.2)) H := hP
      have hD : va_D A ((xW cI cS cZ ax wc wb kp tp u340.1 u340.2) ++ (mW cI cS cZ am u354.1 u354.2)) := hD
      refine lv_icmp_eq (tgt := 518) hx hb d_Lw_law_357 (by decide) (fun h => ?_) (fun h => ?_)
      · have hw := hw.1 h
        exact J518 wc wb kp tp u340.1 u340.2 u354.1 u354.2 a3 ls H locs (lv_sub hl [0, 1, 2, 3] rfl) hP hD hS hw
      · have hw := hw.2 h
        refine lv_iconst (v := 0) hx hb d_Lw_law_360 (by decide) ?_
        exact False.elim hw
    by_cases h33_8 : ((xs a3.toNatClampNeg) &&& (15 : Int32)) = 8
    · have hw := hw.2.2.2.2.2.2.2.2.1 h33_8
      unfold wp_law_C8 at hw
      refine W.eq (g2 := F0 m 33 ls [.int (8 : Int32)]) (by rw [h33_8]) ?_
      refine lv_tableIn (off := 329) (tgt := 362) hx hb d_Lw_law_33 (by decide) (by decide) (by decide) (by decide) ?_
      refine lv_aload_n hx hb d_Lw_law_362 rfl (lv_at hl 1 rfl) ?_
      refine lv_aload_n hx hb d_Lw_law_363 rfl (lv_at hl 0 rfl) ?_
      refine lv_iload_n hx hb d_Lw_law_364 rfl (lv_at hl 3 rfl) ?_
      refine lv_iconst (v := 1) hx hb d_Lw_law_365 (by decide) ?_
      refine lv_iadd hx hb d_Lw_law_366 ?_
      obtain ⟨hin1, hw⟩ := hw
      refine va_sld hx hb hXs hbl hbA hS hin1 d_Lw_law_367 ?_
      refine gCallVi2 (wr := (mW cI cS cZ am μ β)) (b := ax 0) (As := [.int (xs (a3 + (1 : Int32)).toNatClampNeg)]) (rest := []) (c_Dm_punched l D cI cS cZ ax wc wb kp tp σ α (xs (a3 + (1 : Int32)).toNatClampNeg) _ hw) hx hb hml hown hts hK hN hA hS (gSwP hP) (gSwD hD) (cwV 1 hts (gGV tw_428 tw_429 tw_430 tw_1 tw_431) rfl rfl rfl ⟨rfl, by decide, by decide, by decide +kernel⟩ ⟨Nat.le_of_ble_eq_true rfl, Nat.le_of_ble_eq_true rfl⟩) (va_recv (ci := 0) (q0 := 0) hK (gPl hP) rfl rfl) rfl hl.1 rfl (Nat.le_of_ble_eq_true rfl) d_Lw_law_368 (Nat.le_of_ble_eq_true rfl) (Nat.le_of_ble_eq_true rfl) (fun r368 u368 H locs hw hP hD hS => ?_)
      have hP : va_P D gCl ((xW cI cS cZ ax wc wb kp tp u368.1 u368.2) ++ (mW cI cS cZ am μ β)) H := gSwP hP
      have hD : va_D A ((xW cI cS cZ ax wc wb kp tp u368.1 u368.2) ++ (mW cI cS cZ am μ β)) := gSwD hD
      refine lv_aload_n hx hb d_Lw_law_371 rfl (lv_at hl 2 rfl) ?_
      refine lv_aload_n hx hb d_Lw_law_372 rfl (lv_at hl 0 rfl) ?_
      refine lv_iload_n hx hb d_Lw_law_373 rfl (lv_at hl 3 rfl) ?_
      refine lv_iconst (v := 1) hx hb d_Lw_law_374 (by decide) ?_
      refine lv_iadd hx hb d_Lw_law_375 ?_
      refine va_sld hx hb hXs hbl hbA hS hin1 d_Lw_law_376 ?_
      refine gCallVi2 (wr := (xW cI cS cZ ax wc wb kp tp u368.1 u368.2)) (b := am 0) (As := [.int (xs (a3 + (1 : Int32)).toNatClampNeg)]) (rest := [.int r368]) (c_Md_punched l D cI cS cZ am μ β (xs (a3 + (1 : Int32)).toNatClampNeg) _ hw) hx hb hml hown hts hK hN hA hS hP hD (cwV 1 hts (gGV tw_767 tw_768 tw_769 tw_11 tw_770) rfl rfl rfl ⟨rfl, by decide, by decide, by decide +kernel⟩ ⟨Nat.le_of_ble_eq_true rfl, Nat.le_of_ble_eq_true rfl⟩) (va_recv (ci := 9) (q0 := 0) hK (gPr hP) rfl rfl) rfl hl.1 rfl (Nat.le_of_ble_eq_true rfl) d_Lw_law_377 (Nat.le_of_ble_eq_true rfl) (Nat.le_of_ble_eq_true rfl) (fun r377 u377 H locs hw hP hD hS => ?_)
      have hP : va_P D gCl ((xW cI cS cZ ax wc wb kp tp u368.1 u368.2) ++ (mW cI cS cZ am u377.1 u377.2)) H := hP
      have hD : va_D A ((xW cI cS cZ ax wc wb kp tp u368.1 u368.2) ++ (mW cI cS cZ am u377.1 u377.2)) := hD
      refine lv_icmp_eq (tgt := 518) hx hb d_Lw_law_380 (by decide) (fun h => ?_) (fun h => ?_)
      · have hw := hw.1 h
        exact J518 wc wb kp tp u368.1 u368.2 u377.1 u377.2 a3 ls H locs (lv_sub hl [0, 1, 2, 3] rfl) hP hD hS hw
      · have hw := hw.2 h
        refine lv_iconst (v := 0) hx hb d_Lw_law_383 (by decide) ?_
        exact False.elim hw
    by_cases h33_9 : ((xs a3.toNatClampNeg) &&& (15 : Int32)) = 9
    · have hw := hw.2.2.2.2.2.2.2.2.2.1 h33_9
      unfold wp_law_C9 at hw
      refine W.eq (g2 := F0 m 33 ls [.int (9 : Int32)]) (by rw [h33_9]) ?_
      refine lv_tableIn (off := 352) (tgt := 385) hx hb d_Lw_law_33 (by decide) (by decide) (by decide) (by decide) ?_
      refine lv_aload_n hx hb d_Lw_law_385 rfl (lv_at hl 1 rfl) ?_
      refine lv_aload_n hx hb d_Lw_law_386 rfl (lv_at hl 0 rfl) ?_
      refine lv_iload_n hx hb d_Lw_law_387 rfl (lv_at hl 3 rfl) ?_
      refine lv_iconst (v := 1) hx hb d_Lw_law_388 (by decide) ?_
      refine lv_iadd hx hb d_Lw_law_389 ?_
      obtain ⟨hin1, hw⟩ := hw
      refine va_sld hx hb hXs hbl hbA hS hin1 d_Lw_law_390 ?_
      refine lv_aload_n hx hb d_Lw_law_391 rfl (lv_at hl 0 rfl) ?_
      refine lv_iload_n hx hb d_Lw_law_392 rfl (lv_at hl 3 rfl) ?_
      refine lv_iconst (v := 2) hx hb d_Lw_law_393 (by decide) ?_
      refine lv_iadd hx hb d_Lw_law_394 ?_
      obtain ⟨hin2, hw⟩ := hw
      refine va_sld hx hb hXs hbl hbA hS hin2 d_Lw_law_395 ?_
      refine lv_aload_n hx hb d_Lw_law_396 rfl (lv_at hl 0 rfl) ?_
      refine lv_iload_n hx hb d_Lw_law_397 rfl (lv_at hl 3 rfl) ?_
      refine lv_iconst (v := 3) hx hb d_Lw_law_398 (by decide) ?_
      refine lv_iadd hx hb d_Lw_law_399 ?_
      obtain ⟨hin3, hw⟩ := hw
      refine va_sld hx hb hXs hbl hbA hS hin3 d_Lw_law_400 ?_
      refine lv_aload_n hx hb d_Lw_law_401 rfl (lv_at hl 0 rfl) ?_
      refine lv_iload_n hx hb d_Lw_law_402 rfl (lv_at hl 3 rfl) ?_
      refine lv_iconst (v := 4) hx hb d_Lw_law_403 (by decide) ?_
      refine lv_iadd hx hb d_Lw_law_404 ?_
      obtain ⟨hin4, hw⟩ := hw
      refine va_sld hx hb hXs hbl hbA hS hin4 d_Lw_law_405 ?_
      refine lv_aload_n hx hb d_Lw_law_406 rfl (lv_at hl 0 rfl) ?_
      refine lv_iload_n hx hb d_Lw_law_407 rfl (lv_at hl 3 rfl) ?_
      refine lv_iconst (v := 5) hx hb d_Lw_law_408 (by decide) ?_
      refine lv_iadd hx hb d_Lw_law_409 ?_
      obtain ⟨hin5, hw⟩ := hw
      refine va_sld hx hb hXs hbl hbA hS hin5 d_Lw_law_410 ?_
      refine gCallVi2 (wr := (mW cI cS cZ am μ β)) (b := ax 0) (As := [.int (xs (a3 + (1 : Int32)).toNatClampNeg), .int (xs (a3 + (2 : Int32)).toNatClampNeg), .int (xs (a3 + (3 : Int32)).toNatClampNeg), .int (xs (a3 + (4 : Int32)).toNatClampNeg), .int (xs (a3 + (5 : Int32)).toNatClampNeg)]) (rest := []) (c_Dm_statement l D cI cS cZ ax wc wb kp tp σ α (xs (a3 + (1 : Int32)).toNatClampNeg) (xs (a3 + (2 : Int32)).toNatClampNeg) (xs (a3 + (3 : Int32)).toNatClampNeg) (xs (a3 + (4 : Int32)).toNatClampNeg) (xs (a3 + (5 : Int32)).toNatClampNeg) _ hw) hx hb hml hown hts hK hN hA hS (gSwP hP) (gSwD hD) (cwV 5 hts (gGV tw_432 tw_433 tw_434 tw_1 tw_435) rfl rfl rfl ⟨rfl, by decide, by decide, by decide +kernel⟩ ⟨Nat.le_of_ble_eq_true rfl, Nat.le_of_ble_eq_true rfl⟩) (va_recv (ci := 0) (q0 := 0) hK (gPl hP) rfl rfl) rfl hl.1 rfl (Nat.le_of_ble_eq_true rfl) d_Lw_law_411 (Nat.le_of_ble_eq_true rfl) (Nat.le_of_ble_eq_true rfl) (fun r411 u411 H locs hw hP hD hS => ?_)
      have hP : va_P D gCl ((xW cI cS cZ ax wc wb kp tp u411.1 u411.2) ++ (mW cI cS cZ am μ β)) H := gSwP hP
      have hD : va_D A ((xW cI cS cZ ax wc wb kp tp u411.1 u411.2) ++ (mW cI cS cZ am μ β)) := gSwD hD
      refine lv_aload_n hx hb d_Lw_law_414 rfl (lv_at hl 2 rfl) ?_
      refine lv_aload_n hx hb d_Lw_law_415 rfl (lv_at hl 0 rfl) ?_
      refine lv_iload_n hx hb d_Lw_law_416 rfl (lv_at hl 3 rfl) ?_
      refine lv_iconst (v := 1) hx hb d_Lw_law_417 (by decide) ?_
      refine lv_iadd hx hb d_Lw_law_418 ?_
      refine va_sld hx hb hXs hbl hbA hS hin1 d_Lw_law_419 ?_
      refine lv_aload_n hx hb d_Lw_law_420 rfl (lv_at hl 0 rfl) ?_
      refine lv_iload_n hx hb d_Lw_law_421 rfl (lv_at hl 3 rfl) ?_
      refine lv_iconst (v := 2) hx hb d_Lw_law_422 (by decide) ?_
      refine lv_iadd hx hb d_Lw_law_423 ?_
      refine va_sld hx hb hXs hbl hbA hS hin2 d_Lw_law_424 ?_
      refine lv_aload_n hx hb d_Lw_law_425 rfl (lv_at hl 0 rfl) ?_
      refine lv_iload_n hx hb d_Lw_law_426 rfl (lv_at hl 3 rfl) ?_
      refine lv_iconst (v := 3) hx hb d_Lw_law_427 (by decide) ?_
      refine lv_iadd hx hb d_Lw_law_428 ?_
      refine va_sld hx hb hXs hbl hbA hS hin3 d_Lw_law_429 ?_
      refine lv_aload_n hx hb d_Lw_law_430 rfl (lv_at hl 0 rfl) ?_
      refine lv_iload_n hx hb d_Lw_law_431 rfl (lv_at hl 3 rfl) ?_
      refine lv_iconst (v := 4) hx hb d_Lw_law_432 (by decide) ?_
      refine lv_iadd hx hb d_Lw_law_433 ?_
      refine va_sld hx hb hXs hbl hbA hS hin4 d_Lw_law_434 ?_
      refine lv_aload_n hx hb d_Lw_law_435 rfl (lv_at hl 0 rfl) ?_
      refine lv_iload_n hx hb d_Lw_law_436 rfl (lv_at hl 3 rfl) ?_
      refine lv_iconst (v := 5) hx hb d_Lw_law_437 (by decide) ?_
      refine lv_iadd hx hb d_Lw_law_438 ?_
      refine va_sld hx hb hXs hbl hbA hS hin5 d_Lw_law_439 ?_
      refine gCallVi2 (wr := (xW cI cS cZ ax wc wb kp tp u411.1 u411.2)) (b := am 0) (As := [.int (xs (a3 + (1 : Int32)).toNatClampNeg), .int (xs (a3 + (2 : Int32)).toNatClampNeg), .int (xs (a3 + (3 : Int32)).toNatClampNeg), .int (xs (a3 + (4 : Int32)).toNatClampNeg), .int (xs (a3 + (5 : Int32)).toNatClampNeg)]) (rest := [.int r411]) (c_Md_statement l D cI cS cZ am μ β (xs (a3 + (1 : Int32)).toNatClampNeg) (xs (a3 + (2 : Int32)).toNatClampNeg) (xs (a3 + (3 : Int32)).toNatClampNeg) (xs (a3 + (4 : Int32)).toNatClampNeg) (xs (a3 + (5 : Int32)).toNatClampNeg) _ hw) hx hb hml hown hts hK hN hA hS hP hD (cwV 5 hts (gGV tw_771 tw_772 tw_773 tw_11 tw_774) rfl rfl rfl ⟨rfl, by decide, by decide, by decide +kernel⟩ ⟨Nat.le_of_ble_eq_true rfl, Nat.le_of_ble_eq_true rfl⟩) (va_recv (ci := 9) (q0 := 0) hK (gPr hP) rfl rfl) rfl hl.1 rfl (Nat.le_of_ble_eq_true rfl) d_Lw_law_440 (Nat.le_of_ble_eq_true rfl) (Nat.le_of_ble_eq_true rfl) (fun r440 u440 H locs hw hP hD hS => ?_)
      have hP : va_P D gCl ((xW cI cS cZ ax wc wb kp tp u411.1 u411.2) ++ (mW cI cS cZ am u440.1 u440.2)) H := hP
      have hD : va_D A ((xW cI cS cZ ax wc wb kp tp u411.1 u411.2) ++ (mW cI cS cZ am u440.1 u440.2)) := hD
      refine lv_icmp_eq (tgt := 518) hx hb d_Lw_law_443 (by decide) (fun h => ?_) (fun h => ?_)
      · have hw := hw.1 h
        exact J518 wc wb kp tp u411.1 u411.2 u440.1 u440.2 a3 ls H locs (lv_sub hl [0, 1, 2, 3] rfl) hP hD hS hw
      · have hw := hw.2 h
        refine lv_iconst (v := 0) hx hb d_Lw_law_446 (by decide) ?_
        exact False.elim hw
    by_cases h33_10 : ((xs a3.toNatClampNeg) &&& (15 : Int32)) = 10
    · have hw := hw.2.2.2.2.2.2.2.2.2.2.1 h33_10
      unfold wp_law_C10 at hw
      refine W.eq (g2 := F0 m 33 ls [.int (10 : Int32)]) (by rw [h33_10]) ?_
      refine lv_tableIn (off := 415) (tgt := 448) hx hb d_Lw_law_33 (by decide) (by decide) (by decide) (by decide) ?_
      refine lv_aload_n hx hb d_Lw_law_448 rfl (lv_at hl 1 rfl) ?_
      refine gCallVv2 (wr := (mW cI cS cZ am μ β)) (b := ax 0) (As := []) (rest := []) (c_Dm_clear l D cI cS cZ ax wc wb kp tp σ α _ hw) hx hb hml hown hts hK hN hA hS (gSwP hP) (gSwD hD) (cwV 0 hts (gGV tw_443 tw_444 tw_445 tw_1 tw_446) rfl rfl rfl ⟨rfl, by decide, by decide, by decide +kernel⟩ ⟨Nat.le_of_ble_eq_true rfl, Nat.le_of_ble_eq_true rfl⟩) (va_recv (ci := 0) (q0 := 0) hK (gPl hP) rfl rfl) rfl hl.1 rfl (Nat.le_of_ble_eq_true rfl) d_Lw_law_449 (Nat.le_of_ble_eq_true rfl) (Nat.le_of_ble_eq_true rfl) (fun u449 H locs hw hP hD hS => ?_)
      have hP : va_P D gCl ((xW cI cS cZ ax wc wb kp tp u449.1 u449.2) ++ (mW cI cS cZ am μ β)) H := gSwP hP
      have hD : va_D A ((xW cI cS cZ ax wc wb kp tp u449.1 u449.2) ++ (mW cI cS cZ am μ β)) := gSwD hD
      refine lv_aload_n hx hb d_Lw_law_452 rfl (lv_at hl 2 rfl) ?_
      refine gCallVv2 (wr := (xW cI cS cZ ax wc wb kp tp u449.1 u449.2)) (b := am 0) (As := []) (rest := []) (c_Md_clear l D cI cS cZ am μ β _ hw) hx hb hml hown hts hK hN hA hS hP hD (cwV 0 hts (gGV tw_778 tw_779 tw_780 tw_11 tw_781) rfl rfl rfl ⟨rfl, by decide, by decide, by decide +kernel⟩ ⟨Nat.le_of_ble_eq_true rfl, Nat.le_of_ble_eq_true rfl⟩) (va_recv (ci := 9) (q0 := 0) hK (gPr hP) rfl rfl) rfl hl.1 rfl (Nat.le_of_ble_eq_true rfl) d_Lw_law_453 (Nat.le_of_ble_eq_true rfl) (Nat.le_of_ble_eq_true rfl) (fun u453 H locs hw hP hD hS => ?_)
      have hP : va_P D gCl ((xW cI cS cZ ax wc wb kp tp u449.1 u449.2) ++ (mW cI cS cZ am u453.1 u453.2)) H := hP
      have hD : va_D A ((xW cI cS cZ ax wc wb kp tp u449.1 u449.2) ++ (mW cI cS cZ am u453.1 u453.2)) := hD
      refine lv_goto (tgt := 518) hx hb d_Lw_law_456 (by decide) ?_
      exact J518 wc wb kp tp u449.1 u449.2 u453.1 u453.2 a3 ls H locs (lv_sub hl [0, 1, 2, 3] rfl) hP hD hS hw
    by_cases h33_11 : ((xs a3.toNatClampNeg) &&& (15 : Int32)) = 11
    · have hw := hw.2.2.2.2.2.2.2.2.2.2.2.1 h33_11
      unfold wp_law_C11 at hw
      refine W.eq (g2 := F0 m 33 ls [.int (11 : Int32)]) (by rw [h33_11]) ?_
      refine lv_tableIn (off := 426) (tgt := 459) hx hb d_Lw_law_33 (by decide) (by decide) (by decide) (by decide) ?_
      refine lv_aload_n hx hb d_Lw_law_459 rfl (lv_at hl 1 rfl) ?_
      refine gCallVi2 (wr := (mW cI cS cZ am μ β)) (b := ax 0) (As := []) (rest := []) (c_Dm_assemble l D cI cS cZ ax wc wb kp tp σ α _ hw) hx hb hml hown hts hK hN hA hS (gSwP hP) (gSwD hD) (cwV 0 hts (gGV tw_447 tw_448 tw_449 tw_1 tw_450) rfl rfl rfl ⟨rfl, by decide, by decide, by decide +kernel⟩ ⟨Nat.le_of_ble_eq_true rfl, Nat.le_of_ble_eq_true rfl⟩) (va_recv (ci := 0) (q0 := 0) hK (gPl hP) rfl rfl) rfl hl.1 rfl (Nat.le_of_ble_eq_true rfl) d_Lw_law_460 (Nat.le_of_ble_eq_true rfl) (Nat.le_of_ble_eq_true rfl) (fun r460 u460 H locs hw hP hD hS => ?_)
      have hP : va_P D gCl ((xW cI cS cZ ax wc wb u460.1 u460.2.1 u460.2.2.1 u460.2.2.2) ++ (mW cI cS cZ am μ β)) H := gSwP hP
      have hD : va_D A ((xW cI cS cZ ax wc wb u460.1 u460.2.1 u460.2.2.1 u460.2.2.2) ++ (mW cI cS cZ am μ β)) := gSwD hD
      refine lv_aload_n hx hb d_Lw_law_463 rfl (lv_at hl 2 rfl) ?_
      refine gCallVi2 (wr := (xW cI cS cZ ax wc wb u460.1 u460.2.1 u460.2.2.1 u460.2.2.2)) (b := am 0) (As := []) (rest := [.int r460]) (c_Md_assemble l D cI cS cZ am μ β _ hw) hx hb hml hown hts hK hN hA hS hP hD (cwV 0 hts (gGV tw_782 tw_783 tw_784 tw_11 tw_785) rfl rfl rfl ⟨rfl, by decide, by decide, by decide +kernel⟩ ⟨Nat.le_of_ble_eq_true rfl, Nat.le_of_ble_eq_true rfl⟩) (va_recv (ci := 9) (q0 := 0) hK (gPr hP) rfl rfl) rfl hl.1 rfl (Nat.le_of_ble_eq_true rfl) d_Lw_law_464 (Nat.le_of_ble_eq_true rfl) (Nat.le_of_ble_eq_true rfl) (fun r464 u464 H locs hw hP hD hS => ?_)
      have hP : va_P D gCl ((xW cI cS cZ ax wc wb u460.1 u460.2.1 u460.2.2.1 u460.2.2.2) ++ (mW cI cS cZ am u464.1 u464.2)) H := hP
      have hD : va_D A ((xW cI cS cZ ax wc wb u460.1 u460.2.1 u460.2.2.1 u460.2.2.2) ++ (mW cI cS cZ am u464.1 u464.2)) := hD
      refine lv_icmp_eq (tgt := 518) hx hb d_Lw_law_467 (by decide) (fun h => ?_) (fun h => ?_)
      · have hw := hw.1 h
        exact J518 wc wb u460.1 u460.2.1 u460.2.2.1 u460.2.2.2 u464.1 u464.2 a3 ls H locs (lv_sub hl [0, 1, 2, 3] rfl) hP hD hS hw
      · have hw := hw.2 h
        refine lv_iconst (v := 0) hx hb d_Lw_law_470 (by decide) ?_
        exact False.elim hw
    by_cases h33_12 : ((xs a3.toNatClampNeg) &&& (15 : Int32)) = 12
    · have hw := hw.2.2.2.2.2.2.2.2.2.2.2.2.1 h33_12
      unfold wp_law_C12 at hw
      refine W.eq (g2 := F0 m 33 ls [.int (12 : Int32)]) (by rw [h33_12]) ?_
      refine lv_tableIn (off := 439) (tgt := 472) hx hb d_Lw_law_33 (by decide) (by decide) (by decide) (by decide) ?_
      refine lv_aload_n hx hb d_Lw_law_472 rfl (lv_at hl 1 rfl) ?_
      refine lv_aload_n hx hb d_Lw_law_473 rfl (lv_at hl 0 rfl) ?_
      refine lv_iload_n hx hb d_Lw_law_474 rfl (lv_at hl 3 rfl) ?_
      refine lv_iconst (v := 1) hx hb d_Lw_law_475 (by decide) ?_
      refine lv_iadd hx hb d_Lw_law_476 ?_
      obtain ⟨hin1, hw⟩ := hw
      refine va_sld hx hb hXs hbl hbA hS hin1 d_Lw_law_477 ?_
      refine gCallVi2 (wr := (mW cI cS cZ am μ β)) (b := ax 0) (As := [.int (xs (a3 + (1 : Int32)).toNatClampNeg)]) (rest := []) (c_Dm_placed l D cI cS cZ ax wc wb kp tp σ α (xs (a3 + (1 : Int32)).toNatClampNeg) _ hw) hx hb hml hown hts hK hN hA hS (gSwP hP) (gSwD hD) (cwV 1 hts (gGV tw_519 tw_520 tw_521 tw_1 tw_522) rfl rfl rfl ⟨rfl, by decide, by decide, by decide +kernel⟩ ⟨Nat.le_of_ble_eq_true rfl, Nat.le_of_ble_eq_true rfl⟩) (va_recv (ci := 0) (q0 := 0) hK (gPl hP) rfl rfl) rfl hl.1 rfl (Nat.le_of_ble_eq_true rfl) d_Lw_law_478 (Nat.le_of_ble_eq_true rfl) (Nat.le_of_ble_eq_true rfl) (fun r478 u478 H locs hw hP hD hS => ?_)
      have hP : va_P D gCl ((xW cI cS cZ ax wc wb kp tp u478.1 u478.2) ++ (mW cI cS cZ am μ β)) H := gSwP hP
      have hD : va_D A ((xW cI cS cZ ax wc wb kp tp u478.1 u478.2) ++ (mW cI cS cZ am μ β)) := gSwD hD
      refine lv_aload_n hx hb d_Lw_law_481 rfl (lv_at hl 2 rfl) ?_
      refine lv_aload_n hx hb d_Lw_law_482 rfl (lv_at hl 0 rfl) ?_
      refine lv_iload_n hx hb d_Lw_law_483 rfl (lv_at hl 3 rfl) ?_
      refine lv_iconst (v := 1) hx hb d_Lw_law_484 (by decide) ?_
      refine lv_iadd hx hb d_Lw_law_485 ?_
      refine va_sld hx hb hXs hbl hbA hS hin1 d_Lw_law_486 ?_
      refine gCallVi2 (wr := (xW cI cS cZ ax wc wb kp tp u478.1 u478.2)) (b := am 0) (As := [.int (xs (a3 + (1 : Int32)).toNatClampNeg)]) (rest := [.int r478]) (c_Md_placed l D cI cS cZ am μ β (xs (a3 + (1 : Int32)).toNatClampNeg) _ hw) hx hb hml hown hts hK hN hA hS hP hD (cwV 1 hts (gGV tw_819 tw_820 tw_821 tw_11 tw_822) rfl rfl rfl ⟨rfl, by decide, by decide, by decide +kernel⟩ ⟨Nat.le_of_ble_eq_true rfl, Nat.le_of_ble_eq_true rfl⟩) (va_recv (ci := 9) (q0 := 0) hK (gPr hP) rfl rfl) rfl hl.1 rfl (Nat.le_of_ble_eq_true rfl) d_Lw_law_487 (Nat.le_of_ble_eq_true rfl) (Nat.le_of_ble_eq_true rfl) (fun r487 u487 H locs hw hP hD hS => ?_)
      have hP : va_P D gCl ((xW cI cS cZ ax wc wb kp tp u478.1 u478.2) ++ (mW cI cS cZ am u487.1 u487.2)) H := hP
      have hD : va_D A ((xW cI cS cZ ax wc wb kp tp u478.1 u478.2) ++ (mW cI cS cZ am u487.1 u487.2)) := hD
      refine lv_icmp_eq (tgt := 518) hx hb d_Lw_law_490 (by decide) (fun h => ?_) (fun h => ?_)
      · have hw := hw.1 h
        exact J518 wc wb kp tp u478.1 u478.2 u487.1 u487.2 a3 ls H locs (lv_sub hl [0, 1, 2, 3] rfl) hP hD hS hw
      · have hw := hw.2 h
        refine lv_iconst (v := 0) hx hb d_Lw_law_493 (by decide) ?_
        exact False.elim hw
    by_cases h33_13 : ((xs a3.toNatClampNeg) &&& (15 : Int32)) = 13
    · have hw := hw.2.2.2.2.2.2.2.2.2.2.2.2.2.1 h33_13
      unfold wp_law_C13 at hw
      refine W.eq (g2 := F0 m 33 ls [.int (13 : Int32)]) (by rw [h33_13]) ?_
      refine lv_tableIn (off := 462) (tgt := 495) hx hb d_Lw_law_33 (by decide) (by decide) (by decide) (by decide) ?_
      refine lv_aload_n hx hb d_Lw_law_495 rfl (lv_at hl 1 rfl) ?_
      refine lv_aload_n hx hb d_Lw_law_496 rfl (lv_at hl 0 rfl) ?_
      refine lv_iload_n hx hb d_Lw_law_497 rfl (lv_at hl 3 rfl) ?_
      refine lv_iconst (v := 1) hx hb d_Lw_law_498 (by decide) ?_
      refine lv_iadd hx hb d_Lw_law_499 ?_
      obtain ⟨hin1, hw⟩ := hw
      refine va_sld hx hb hXs hbl hbA hS hin1 d_Lw_law_500 ?_
      refine gCallVi2 (wr := (mW cI cS cZ am μ β)) (b := ax 0) (As := [.int (xs (a3 + (1 : Int32)).toNatClampNeg)]) (rest := []) (c_Dm_variable l D cI cS cZ ax wc wb kp tp σ α (xs (a3 + (1 : Int32)).toNatClampNeg) _ hw) hx hb hml hown hts hK hN hA hS (gSwP hP) (gSwD hD) (cwV 1 hts (gGV tw_523 tw_524 tw_525 tw_1 tw_526) rfl rfl rfl ⟨rfl, by decide, by decide, by decide +kernel⟩ ⟨Nat.le_of_ble_eq_true rfl, Nat.le_of_ble_eq_true rfl⟩) (va_recv (ci := 0) (q0 := 0) hK (gPl hP) rfl rfl) rfl hl.1 rfl (Nat.le_of_ble_eq_true rfl) d_Lw_law_501 (Nat.le_of_ble_eq_true rfl) (Nat.le_of_ble_eq_true rfl) (fun r501 u501 H locs hw hP hD hS => ?_)
      have hP : va_P D gCl ((xW cI cS cZ ax wc wb kp tp u501.1 u501.2) ++ (mW cI cS cZ am μ β)) H := gSwP hP
      have hD : va_D A ((xW cI cS cZ ax wc wb kp tp u501.1 u501.2) ++ (mW cI cS cZ am μ β)) := gSwD hD
      refine lv_aload_n hx hb d_Lw_law_504 rfl (lv_at hl 2 rfl) ?_
      refine lv_aload_n hx hb d_Lw_law_505 rfl (lv_at hl 0 rfl) ?_
      refine lv_iload_n hx hb d_Lw_law_506 rfl (lv_at hl 3 rfl) ?_
      refine lv_iconst (v := 1) hx hb d_Lw_law_507 (by decide) ?_
      refine lv_iadd hx hb d_Lw_law_508 ?_
      refine va_sld hx hb hXs hbl hbA hS hin1 d_Lw_law_509 ?_
      refine gCallVi2 (wr := (xW cI cS cZ ax wc wb kp tp u501.1 u501.2)) (b := am 0) (As := [.int (xs (a3 + (1 : Int32)).toNatClampNeg)]) (rest := [.int r501]) (c_Md_variable l D cI cS cZ am μ β (xs (a3 + (1 : Int32)).toNatClampNeg) _ hw) hx hb hml hown hts hK hN hA hS hP hD (cwV 1 hts (gGV tw_823 tw_824 tw_825 tw_11 tw_826) rfl rfl rfl ⟨rfl, by decide, by decide, by decide +kernel⟩ ⟨Nat.le_of_ble_eq_true rfl, Nat.le_of_ble_eq_true rfl⟩) (va_recv (ci := 9) (q0 := 0) hK (gPr hP) rfl rfl) rfl hl.1 rfl (Nat.le_of_ble_eq_true rfl) d_Lw_law_510 (Nat.le_of_ble_eq_true rfl) (Nat.le_of_ble_eq_true rfl) (fun r510 u510 H locs hw hP hD hS => ?_)
      have hP : va_P D gCl ((xW cI cS cZ ax wc wb kp tp u501.1 u501.2) ++ (mW cI cS cZ am u510.1 u510.2)) H := hP
      have hD : va_D A ((xW cI cS cZ ax wc wb kp tp u501.1 u501.2) ++ (mW cI cS cZ am u510.1 u510.2)) := hD
      refine lv_icmp_eq (tgt := 518) hx hb d_Lw_law_513 (by decide) (fun h => ?_) (fun h => ?_)
      · have hw := hw.1 h
        exact J518 wc wb kp tp u501.1 u501.2 u510.1 u510.2 a3 ls H locs (lv_sub hl [0, 1, 2, 3] rfl) hP hD hS hw
      · have hw := hw.2 h
        refine lv_iconst (v := 0) hx hb d_Lw_law_516 (by decide) ?_
        exact False.elim hw
    have hw := hw.2.2.2.2.2.2.2.2.2.2.2.2.2.2
    have hd : ((xs a3.toNatClampNeg) &&& (15 : Int32)).toInt < 0 ∨ 13 < ((xs a3.toNatClampNeg) &&& (15 : Int32)).toInt := by
      have a0 := lv_neT h33_0 (show (0 : Int32).toInt = 0 from by decide)
      have a1 := lv_neT h33_1 (show (1 : Int32).toInt = 1 from by decide)
      have a2 := lv_neT h33_2 (show (2 : Int32).toInt = 2 from by decide)
      have a3 := lv_neT h33_3 (show (3 : Int32).toInt = 3 from by decide)
      have a4 := lv_neT h33_4 (show (4 : Int32).toInt = 4 from by decide)
      have a5 := lv_neT h33_5 (show (5 : Int32).toInt = 5 from by decide)
      have a6 := lv_neT h33_6 (show (6 : Int32).toInt = 6 from by decide)
      have a7 := lv_neT h33_7 (show (7 : Int32).toInt = 7 from by decide)
      have a8 := lv_neT h33_8 (show (8 : Int32).toInt = 8 from by decide)
      have a9 := lv_neT h33_9 (show (9 : Int32).toInt = 9 from by decide)
      have a10 := lv_neT h33_10 (show (10 : Int32).toInt = 10 from by decide)
      have a11 := lv_neT h33_11 (show (11 : Int32).toInt = 11 from by decide)
      have a12 := lv_neT h33_12 (show (12 : Int32).toInt = 12 from by decide)
      have a13 := lv_neT h33_13 (show (13 : Int32).toInt = 13 from by decide)
      omega
    have hw := hw hd
    refine lv_tableOut (tgt := 518) hx hb d_Lw_law_33 hd (by decide) ?_
    exact J518 wc wb kp tp σ α μ β a3 ls H locs (lv_sub hl [0, 1, 2, 3] rfl) hP hD hS hw
