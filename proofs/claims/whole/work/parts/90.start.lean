set_option maxHeartbeats 8000000 in
set_option maxRecDepth 100000 in
theorem whole_start {p : Program} {e : Env} {s : State} {m : MethodId} {below : List Frame} {meth : Method} {c : Code} (l : Launch) {b L : Nat} {xs : Nat → Int32} (hL : L ≤ 3072) (C0 : lw_At p s m meth c b L xs) : W p l e room_1 s m #[Value.ref b] below meth c s.heap [] 0 0 (lw_Z below #[Value.ref b] s) (entryFrame m ([Value.ref b] : List Value).toArray 4) := by
  have C1 := C0
  obtain ⟨hx, hb, hr, hml, hown, hts0, hXs, hbl, hlocks, hgv⟩ := C1
  have hN : gNst s := fun w hw => va_Nw.of (lw_nstO hw) (hts0 w (lw_nstT w hw))
  have hts : ∀ w ∈ lw_g, w.before #[Value.ref b] s = true := fun w h => hts0 w (lw_sub w h)
  obtain ⟨c0, i0, k0⟩ := u_known (C := R_Dm) (T := T_Dm) (N := 7) hts i_Dm (hts _ tw_14)
  obtain ⟨c1, i1, k1⟩ := u_known (C := R_St) (T := T_St) (N := 2) hts i_St (hts _ tw_22)
  obtain ⟨c2, i2, k2⟩ := u_known (C := R_Rd) (T := T_Rd) (N := 6) hts i_Rd (hts _ tw_42)
  obtain ⟨c3, i3, k3⟩ := u_known (C := R_Pu) (T := T_Pu) (N := 3) hts i_Pu (hts _ tw_67)
  obtain ⟨c4, i4, k4⟩ := u_known (C := R_Mc) (T := T_Mc) (N := 14) hts i_Mc (hts _ tw_85)
  obtain ⟨c5, i5, k5⟩ := u_known (C := R_Mu) (T := T_Mu) (N := 3) hts i_Mu (hts _ tw_91)
  obtain ⟨c6, i6, k6⟩ := u_known (C := R_Wi) (T := T_Wi) (N := 5) hts i_Wi (hts _ tw_108)
  obtain ⟨c7, i7, k7⟩ := u_known (C := R_Pr) (T := T_Pr) (N := 6) hts i_Pr (hts _ tw_183)
  obtain ⟨c8, i8, k8⟩ := u_known (C := R_Pl) (T := T_Pl) (N := 9) hts i_Pl (hts _ tw_215)
  obtain ⟨c9, i9, k9⟩ := u_known (C := R_Md) (T := T_Md) (N := 47) hts i_Md (hts _ tw_529)
  obtain ⟨cI, kcI, mcI, fcI, gcI, ecI⟩ := Cond.arrayClass_spec (hts _ tw_39)
  obtain ⟨cS, kcS, mcS, fcS, gcS, ecS⟩ := Cond.arrayClass_spec (hts _ tw_40)
  obtain ⟨cZ, kcZ, mcZ, fcZ, gcZ, ecZ⟩ := Cond.arrayClass_spec (hts _ tw_676)
  obtain ⟨D, hD0⟩ : ∃ D : va_G, D = (fun k => ([c0, c1, c2, c3, c4, c5, c6, c7, c8, c9] : List ClassId).getD k 0, fun k => ([i0, i1, i2, i3, i4, i5, i6, i7, i8, i9] : List (Nat → Nat)).getD k (fun _ => 0)) := ⟨_, rfl⟩
  have hK : va_K D gCl (gT cI cS cZ) s := by
    rw [hD0]
    refine ⟨fun z q hq => ?_, fun z q hq => ?_⟩
    · have hlt : z < 10 := (List.getElem?_eq_some_iff.mp hq).1
      rcases (show z = 0 ∨ z = 1 ∨ z = 2 ∨ z = 3 ∨ z = 4 ∨ z = 5 ∨ z = 6 ∨ z = 7 ∨ z = 8 ∨ z = 9 by omega) with rfl | rfl | rfl | rfl | rfl | rfl | rfl | rfl | rfl | rfl
      · have e9 := Option.some.inj (hq.symm.trans (rfl : gCl[0]? = some _))
        subst e9
        exact k0
      · have e9 := Option.some.inj (hq.symm.trans (rfl : gCl[1]? = some _))
        subst e9
        exact k1
      · have e9 := Option.some.inj (hq.symm.trans (rfl : gCl[2]? = some _))
        subst e9
        exact k2
      · have e9 := Option.some.inj (hq.symm.trans (rfl : gCl[3]? = some _))
        subst e9
        exact k3
      · have e9 := Option.some.inj (hq.symm.trans (rfl : gCl[4]? = some _))
        subst e9
        exact k4
      · have e9 := Option.some.inj (hq.symm.trans (rfl : gCl[5]? = some _))
        subst e9
        exact k5
      · have e9 := Option.some.inj (hq.symm.trans (rfl : gCl[6]? = some _))
        subst e9
        exact k6
      · have e9 := Option.some.inj (hq.symm.trans (rfl : gCl[7]? = some _))
        subst e9
        exact k7
      · have e9 := Option.some.inj (hq.symm.trans (rfl : gCl[8]? = some _))
        subst e9
        exact k8
      · have e9 := Option.some.inj (hq.symm.trans (rfl : gCl[9]? = some _))
        subst e9
        exact k9
    · have hlt : z < 3 := (List.getElem?_eq_some_iff.mp hq).1
      rcases (show z = 0 ∨ z = 1 ∨ z = 2 by omega) with rfl | rfl | rfl
      · have e9 := Option.some.inj (hq.symm.trans (rfl : (gT cI cS cZ)[0]? = some _))
        subst e9
        exact ⟨fun n z => ⟨fun k h => (by cases h), kcI, gcI, mcI, ecI⟩, fcI⟩
      · have e9 := Option.some.inj (hq.symm.trans (rfl : (gT cI cS cZ)[1]? = some _))
        subst e9
        exact ⟨fun n z => ⟨fun k h => (by cases h), kcS, gcS, mcS, ecS⟩, fcS⟩
      · have e9 := Option.some.inj (hq.symm.trans (rfl : (gT cI cS cZ)[2]? = some _))
        subst e9
        exact ⟨fun n z => ⟨fun k h => (by cases h), kcZ, gcZ, mcZ, ecZ⟩, fcZ⟩
  clear hD0
  obtain ⟨A, hAe⟩ : ∃ A : Nat → Prop, A = fun q => s.heap.size ≤ q := ⟨_, rfl⟩
  have hA : ∀ q, s.heap.size ≤ q → A q := fun q h => by rw [hAe]; exact h
  have hP : va_P D gCl [] s.heap := fun k q hk => by cases hk
  have hD : va_D A [] := ⟨fun i j x y hi _ _ => (by cases hi), fun k q hk => (by cases hk)⟩
  have hS : va_S A s.heap s.heap [] := va_S.rf
  have hl := lv_entry ([.ref b]) (n := 4) (Nat.le_of_ble_eq_true rfl)
  rw [lg_entry_eq]
  generalize (lg_sl ([.ref b]) ++ List.replicate (4 - (lg_sl ([.ref b])).length) Slot.unset).toArray = ls at hl ⊢
  have hl : lv_has ls 4 [(0, .ref b)] := hl
  refine va_new (ci := 0) (fs := [.null, .null, .null, .null, .null, .null, .null]) (C := R_Dm) (T := T_Dm) (N := 7) hx hb hts i_Dm t_Dm o_Dm hown (hts _ tw_13) (hts _ tw_14) (hts _ tw_1) hK hP hD hS hA rfl (fun j hj => by rcases (show j = 0 ∨ j = 1 ∨ j = 2 ∨ j = 3 ∨ j = 4 ∨ j = 5 ∨ j = 6 by omega) with rfl | rfl | rfl | rfl | rfl | rfl | rfl <;> rfl) (Nat.le_of_ble_eq_true rfl) (Nat.le_of_ble_eq_true rfl) d_Lw_law_0 (fun q0 H hP hD hS => ?_)
  refine lv_dup hx hb d_Lw_law_3 rfl ?_
  have hP : va_P D gCl (([] : va_W) ++ [(q0, .inr (0, [.null, .null, .null, .null, .null, .null, .null]))]) H := hP
  have hD : va_D A (([] : va_W) ++ [(q0, .inr (0, [.null, .null, .null, .null, .null, .null, .null]))]) := hD
  refine gCallK (wr := ([] : va_W)) (w0 := [(q0, .inr (0, [.null, .null, .null, .null, .null, .null, .null]))]) (b := q0) (As := []) (rest := [.ref q0]) (k_Dm l D cI cS cZ q0) hx hb hml hown hts hK hN hA hS hP hD (cwI 0 hts (gGI tw_17) rfl rfl rfl (hts _ tw_1) (hts _ tw_15) (hts _ tw_16) rfl (by decide +kernel) ⟨Nat.le_of_ble_eq_true rfl, Nat.le_of_ble_eq_true rfl⟩) rfl hl.1 rfl (Nat.le_of_ble_eq_true rfl) d_Lw_law_4 ⟨(Nat.le_of_ble_eq_true rfl), (Nat.le_of_ble_eq_true rfl)⟩ (fun ax H locs hax hP hD hS => ?_)
  have hP : va_P D gCl (xW cI cS cZ ax (ax 10) (ax 11) (fun k => ax (18 + k)) (fun k => ax (24 + k)) xS0 xA0) H := hP
  have hD : va_D A (xW cI cS cZ ax (ax 10) (ax 11) (fun k => ax (18 + k)) (fun k => ax (24 + k)) xS0 xA0) := hD
  have hl : lv_has ls 4 [(0, .ref b)] := hl
  refine lv_astore_n hx hb d_Lw_law_7 rfl hl (by decide) rfl (fun ls hl => ?_)
  have hl : lv_has ls 4 [(1, .ref q0), (0, .ref b)] := hl
  refine va_new (ci := 9) (fs := [.null, .null, .int 0, .int 0, .int 0, .int 0, .int 0, .int 0, .int 0, .int 0, .int 0, .int 0, .int 0, .int 0, .int 0, .int 0, .int 0, .int 0, .int 0, .int 0, .int 0, .null, .null, .int 0, .int 0, .int 0, .null, .int 0, .int 0, .null, .null, .null, .null, .null, .int 0, .null, .null, .null, .null, .null, .null, .null, .null, .null, .int 0, .null, .null]) (C := R_Md) (T := T_Md) (N := 47) hx hb hts i_Md t_Md o_Md hown (hts _ tw_528) (hts _ tw_529) (hts _ tw_11) hK hP hD hS hA rfl (fun j hj => by rcases (show j = 0 ∨ j = 1 ∨ j = 2 ∨ j = 3 ∨ j = 4 ∨ j = 5 ∨ j = 6 ∨ j = 7 ∨ j = 8 ∨ j = 9 ∨ j = 10 ∨ j = 11 ∨ j = 12 ∨ j = 13 ∨ j = 14 ∨ j = 15 ∨ j = 16 ∨ j = 17 ∨ j = 18 ∨ j = 19 ∨ j = 20 ∨ j = 21 ∨ j = 22 ∨ j = 23 ∨ j = 24 ∨ j = 25 ∨ j = 26 ∨ j = 27 ∨ j = 28 ∨ j = 29 ∨ j = 30 ∨ j = 31 ∨ j = 32 ∨ j = 33 ∨ j = 34 ∨ j = 35 ∨ j = 36 ∨ j = 37 ∨ j = 38 ∨ j = 39 ∨ j = 40 ∨ j = 41 ∨ j = 42 ∨ j = 43 ∨ j = 44 ∨ j = 45 ∨ j = 46 by omega) with rfl | rfl | rfl | rfl | rfl | rfl | rfl | rfl | rfl | rfl | rfl | rfl | rfl | rfl | rfl | rfl | rfl | rfl | rfl | rfl | rfl | rfl | rfl | rfl | rfl | rfl | rfl | rfl | rfl | rfl | rfl | rfl | rfl | rfl | rfl | rfl | rfl | rfl | rfl | rfl | rfl | rfl | rfl | rfl | rfl | rfl | rfl <;> rfl) (Nat.le_of_ble_eq_true rfl) (Nat.le_of_ble_eq_true rfl) d_Lw_law_8 (fun q8 H hP hD hS => ?_)
  refine lv_dup hx hb d_Lw_law_11 rfl ?_
  refine gCallK (wr := (xW cI cS cZ ax (ax 10) (ax 11) (fun k => ax (18 + k)) (fun k => ax (24 + k)) xS0 xA0)) (w0 := [(q8, .inr (9, [.null, .null, .int 0, .int 0, .int 0, .int 0, .int 0, .int 0, .int 0, .int 0, .int 0, .int 0, .int 0, .int 0, .int 0, .int 0, .int 0, .int 0, .int 0, .int 0, .int 0, .null, .null, .int 0, .int 0, .int 0, .null, .int 0, .int 0, .null, .null, .null, .null, .null, .int 0, .null, .null, .null, .null, .null, .null, .null, .null, .null, .int 0, .null, .null]))]) (b := q8) (As := []) (rest := [.ref q8]) (k_Md l D cI cS cZ q8 (fun u => u.1 0 = q8 ∧ mOk u.2.1 u.2.2) (fun ad h => p_Md_init ad q8 h)) hx hb hml hown hts hK hN hA hS hP hD (cwI 0 hts (gGI tw_532) rfl rfl rfl (hts _ tw_11) (hts _ tw_530) (hts _ tw_531) rfl (by decide +kernel) ⟨Nat.le_of_ble_eq_true rfl, Nat.le_of_ble_eq_true rfl⟩) rfl hl.1 rfl (Nat.le_of_ble_eq_true rfl) d_Lw_law_12 ⟨(Nat.le_of_ble_eq_true rfl), (Nat.le_of_ble_eq_true rfl)⟩ (fun um H locs hum hP hD hS => ?_)
  obtain ⟨am, μ, β⟩ := um
  obtain ⟨hm0, hmo⟩ := hum
  have hP : va_P D gCl ((xW cI cS cZ ax (ax 10) (ax 11) (fun k => ax (18 + k)) (fun k => ax (24 + k)) xS0 xA0) ++ (mW cI cS cZ am μ β)) H := hP
  have hD : va_D A ((xW cI cS cZ ax (ax 10) (ax 11) (fun k => ax (18 + k)) (fun k => ax (24 + k)) xS0 xA0) ++ (mW cI cS cZ am μ β)) := hD
  refine lv_astore_n hx hb d_Lw_law_15 rfl hl (by decide) rfl (fun ls hl => ?_)
  have hl : lv_has ls 4 [(2, .ref q8), (1, .ref q0), (0, .ref b)] := hl
  refine lv_iconst (v := 0) hx hb d_Lw_law_16 (by decide) ?_
  refine lv_istore_n hx hb d_Lw_law_17 rfl hl (by decide) rfl (fun ls hl => ?_)
  have hl : lv_has ls 4 [(3, .int 0), (2, .ref q8), (1, .ref q0), (0, .ref b)] := hl
  have hm0 : am 0 = q8 := hm0
  rw [← hax, ← hm0] at hl
  refine W.widen (k := 52) (n := 1652) (Nat.le_of_ble_eq_true rfl) (Nat.le_of_ble_eq_true rfl) ?_
  exact law_L18 l C0 D cI cS cZ hK ax am A hAe (ax 10) (ax 11) (fun k => ax (18 + k)) (fun k => ax (24 + k)) xS0 xA0 μ β 0 ls H locs (lv_sub hl [3, 2, 1, 0] rfl) hP hD hS (p_law hL xs (ax 10) (ax 11) (fun k => ax (18 + k)) (fun k => ax (24 + k)) μ β hmo)
set_option maxHeartbeats 4000000 in
theorem lw_walk (l : Launch) (b : Addr) (xs : List Int32) : MetFree l x (headSpec (Jvm.Cond.code x code maxLocals ret :: tables_1) room_1) (lw_P b xs) (fun _ _ _ _ _ => True) lw_Q := by
  refine MetFree.of_bodyS (code := code) (maxLocals := maxLocals) (ret := ret) (by decide) ?_ ?_
  · intro args s m h hn
    obtain ⟨meth, c, h1, h2, h3, h4, h5, h6, -, -⟩ := Cond.code_spec hn (atoms_spec (ws := Jvm.Cond.code x code maxLocals ret :: tables_1) h _ List.mem_cons_self)
    exact ⟨meth, c, h1, h2, h3, h4, h5, h6⟩
  · intro p e s m args below meth c s₁ B hml0 hP _
    obtain ⟨rfl, hx, hbd, hgv⟩ := hP
    obtain ⟨scr, harrAt, hlist, hof, hsmall⟩ := hx
    obtain ⟨hcb, hkn, -, -⟩ := State.arrayAt?_spec harrAt
    have hown : s.vm.findClass R_law = some m.cls := findClass_of_methodNamed B.named
    have hts0 : ∀ c ∈ (Jvm.Cond.code x code maxLocals ret :: tables_1), c.before #[Value.ref b] s = true := atoms_spec (ws := Jvm.Cond.code x code maxLocals ret :: tables_1) B.pre
    have hts : ∀ w ∈ lw_tbl, w.before #[Value.ref b] s = true := k2_hts_sels lw_privs (fun w hw => hts0 w (List.mem_cons_of_mem _ hw)) lw_privs_ok
    have hml : c.maxLocals = 4 := B.maxLocals_eq (hts0 _ List.mem_cons_self)
    have X₀ : Stand p l e room_1 s m #[Value.ref b] below meth c s₁ [] 0 0 := Stand.of_body B
    have hh0 : s₁.heap = s.heap := by rw [B.state]; rfl
    have hsz : scr.slots.size = xs.length := by rw [← Array.length_toList, hlist, List.length_map]
    have hval : ∀ j : Nat, j < xs.length → scr.slots[j]? = some (.int (xs.getD j 0)) := fun j hj => by
      rw [← Array.getElem?_toList, hlist]
      simp [hj]
    have hbl : b < s.heap.size := (Array.getElem?_eq_some_iff.mp hcb).1
    have hX : va_X b xs.length (fun j => xs.getD j 0) s s.heap := ⟨scr, hcb, hof, hkn, hsz, hval⟩
    have K : W p l e room_1 s m #[Value.ref b] below meth c s₁.heap [] 0 0 (lw_Z below #[Value.ref b] s) (entryFrame m ([Value.ref b] : List Value).toArray 4) := by
      rw [hh0]
      exact whole_start l hbd ⟨B.exec, B.bytes, B.returns, hml, hown, hts, hX, hbl, B.notSynchronized, hgv⟩
    obtain ⟨t, a1, o, b1, b2, b3⟩ := K s₁ rfl X₀
    exact ⟨t, o, a1, b1, b2, b3⟩
theorem lw_pre_spec {args : Array Value} {s : State} (h : (Jvm.Cond.and given_1 narrow_1).before args s = true) (hr : rest_1_c.before args s = true) : ∃ (b : Addr) (xs : List Int32), lw_P b xs args s := by
  have hs := flat_of_before _ h
  have hq := flat_of_before _ hr
  have hc : (Cond.count 1).before args s = true := hs _ (by decide +kernel)
  have harr : (Cond.arrayOf (.arg 0) .int).before args s = true := hs _ (by decide +kernel)
  have hle : (Cond.le (.length (.arg 0)) (.int 3072)).before args s = true := hs _ (by decide +kernel)
  have hlen : (Cond.isInt (.length (.arg 0))).before args s = true := hq _ (by decide +kernel)
  have hall : (Cond.all (.arg 0) (.isInt (.elem (.arg 0) (.index 0)))).before args s = true := hq _ (by decide +kernel)
  obtain ⟨b, xs, hb, hx⟩ := State.ints_of_pre rfl harr hlen hall
  have hsm : xs.length < 2 ^ 31 := hx.choose_spec.2.2.2
  have hev : (Term.length (.arg 0)).eval args s none [] s = some (.int xs.length.toInt32) := hx.length_eval hb
  have hv := Cond.le_ints hev (show (Term.int 3072).eval args s none [] s = some (.int 3072) from rfl)
  have hd : xs.length.toInt32 ≤ 3072 := by
    simpa [Cond.before, Cond.holds, hv] using hle
  have hN : xs.length ≤ 3072 := (Int32.ofNat_le_ofNat hsm (by decide)).mp (show Int32.ofNat xs.length ≤ Int32.ofNat 3072 from hd)
  exact ⟨b, xs, Cond.one_arg hc (show args[0]? = some (.ref b) from hb), hx, hN, h⟩
theorem lw_comes (l : Launch) : Comes l x (Jvm.Cond.code x code maxLocals ret :: tables_1) room_1 (fun tb e args s => Calls_1 tb e args s ∧ rest_1 tb e args s ∧ Pre_1 tb e args s)
    (fun _ _ args s o t => lw_Q args s o t) := by
  intro p e ha hc hk s m args below hf hfit hheap happ hpre
  obtain ⟨b, xs, hP⟩ := lw_pre_spec hpre.2.2 hpre.2.1
  obtain ⟨k, o, h1, h2, h3, hQ⟩ := lw_walk l b xs p e ha hc hk s m args below hf ((Spec.applies_iff_loose hf).mp happ).1 hP trivial
  exact ⟨k, o, h1, h2, h3, hQ⟩
theorem lw_frame {s t : State} {o : Outcome} {args : Array Value} (h : Framed s o t [] 52 1652) :
    Framed s o t (fieldLocs frame_1_writes args s ++ arrayLocs frame_1_arrays args s ++ staticLocs frame_1_statics s) 52 1652 := h
theorem lw_limb (L : Cond) (hL : ∀ (args : Array Value) (s t : State), L.after args s (.returned (some (.int 1))) t = true) :
    ArmFor flags0 classFile x code maxLocals ret World_1 tables_1 room_1 Calls_1 rest_1 Pre_1
      (fun tb e a s o t => postC L tb e a s o t ∧ Framed s o t (fieldLocs frame_1_writes a s ++ arrayLocs frame_1_arrays a s ++ staticLocs frame_1_statics s) 52 1652) := by
  intro l _ _ _ p e ha hc hk s m args below hf hfit hheap happ hpre
  obtain ⟨k, o, h1, h2, h3, rfl, hF⟩ := lw_comes l p e ha hc hk s m args below hf hfit hheap happ hpre
  exact ⟨k, _, h1, h2, h3, hL args s _, lw_frame hF⟩
theorem i_vc : Claimed_1_1 ∧ Claimed_1_2 := ⟨lw_limb limb_1_1 (fun args s t => by simp [limb_1_1, Cond.after, Cond.holds, Cond.value]), lw_limb limb_1_2 (fun args s t => Cond.after_iff.mpr (by
  first | (rw [show limb_1_2 = Cond.eq .result (.int 1) from rfl, Cond.eq_ints (x := 1) (y := 1) rfl rfl]; simp; done) | (simp [limb_1_2, Cond.value, Term.eval]; done)))⟩
