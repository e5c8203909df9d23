abbrev gS : Type := (Nat → Int32) × (Nat → Nat → Int32)
abbrev gSW : Type := Nat × Nat × (Nat → Int32) × (Nat → Nat → Int32)
abbrev gSP : Type := (Nat → Nat) × (Nat → Nat) × (Nat → Int32) × (Nat → Nat → Int32)
abbrev gT (cI cS cZ : ClassId) : List (ClassId × FieldType) := [(cI, .int), (cS, .short), (cZ, .boolean)]
section GK
variable {S : Type}
/-- before a method: the world at a state u, of a heap of sz cells -/
def gPre (D : va_G) (tys : List (ClassId × FieldType)) (Wd : S → va_W) (sz : Nat) (u : S) : State → Prop := fun U => U.heap.size = sz ∧ va_P D gCl (Wd u) U.heap ∧ (va_K D gCl tys U ∧ gNst U) ∧ va_D (fun _ => True) (Wd u)
/-- behind it -/
def gAt (D : va_G) (tys : List (ClassId × FieldType)) (Wd : S → va_W) (A : Nat → Prop) (u : S) (t : State) : Prop := va_P D gCl (Wd u) t.heap ∧ va_K D gCl tys t ∧ va_D A (Wd u)
/-- a method that answers an int (short, boolean), over the world Wd -/
def gMi (l : Launch) (y : MethodName) (cc : ByteArray) (maxL : Nat) (ty : FieldType) (rm : Room) (D : va_G) (tys : List (ClassId × FieldType)) (Wd : S → va_W) (av : List Value) (u : S) (post : Int32 → S → Prop) : Prop :=
  ∀ sz : Nat, Met l y (.code y cc maxL (some ty) :: lw_g) rm (va_Pc av (gPre D tys Wd sz u)) (va_Qi post (gAt D tys Wd (va_A (Wd u) sz)) (va_A (Wd u) sz)) 0 0 (va_A (Wd u) sz)
def gMv (l : Launch) (y : MethodName) (cc : ByteArray) (maxL : Nat) (rm : Room) (D : va_G) (tys : List (ClassId × FieldType)) (Wd : S → va_W) (av : List Value) (u : S) (post : S → Prop) : Prop :=
  ∀ sz : Nat, Met l y (.code y cc maxL none :: lw_g) rm (va_Pc av (gPre D tys Wd sz u)) (va_Qv post (gAt D tys Wd (va_A (Wd u) sz)) (va_A (Wd u) sz)) 0 0 (va_A (Wd u) sz)
theorem gMi.of {l : Launch} {y : MethodName} {cc : ByteArray} {maxL : Nat} {ty : FieldType} {rm : Room} {D : va_G} {tys : List (ClassId × FieldType)} {Wd : S → va_W} {av : List Value} {u : S} {post : Int32 → S → Prop}
    (hy : plainName y.cls = true) (hlen : (lg_sl av).length ≤ maxL)
    (K : ∀ (p : Program) (e : Env) (s : State) (m : MethodId) (below : List Frame) (meth : Method) (c : Code) (Q : State → Prop) (A : Nat → Prop),
      p.tables.exec = Jvm.exec → c.code = cc → c.maxLocals = maxL → s.vm.findClass y.cls = some m.cls → (∀ w ∈ lw_g, w.before av.toArray s = true) → va_K D gCl tys s → gNst s → (∀ q, s.heap.size ≤ q → A q) → va_S A s.heap s.heap [] → va_P D gCl (Wd u) s.heap → va_D A (Wd u) →
      (∀ (H : Heap) (locs : List Loc) (pc : Nat) (ls : Array Slot) (v : Int32) (u1 : S), decode cc pc = .ok (.ireturn, 1) → va_P D gCl (Wd u1) H → va_D A (Wd u1) → va_S A s.heap H locs → narrow ty (.int v) = .int v → post v u1 → W p l e rm s m av.toArray below meth c H locs 0 0 Q (F0 m pc ls [.int v])) →
      ∀ ls : Array Slot, lv_has ls maxL (lv_args 0 av) → W p l e rm s m av.toArray below meth c s.heap [] 0 0 Q (F0 m 0 ls [])) : gMi l y cc maxL ty rm D tys Wd av u post := by
  intro sz
  refine Met.ofW (cc := cc) (maxL := maxL) (ret := some ty) hy rfl ?_
  intro p e s m args below meth c s₁ B hml hv
  obtain ⟨rfl, hsz, hP, ⟨hK, hN⟩, hD0⟩ := hv
  have hts := atoms_spec (ws := Cond.code y cc maxL (some ty) :: lw_g) B.pre
  have hown : s.vm.findClass y.cls = some m.cls := findClass_of_methodNamed B.named
  subst hsz
  have hl := lv_entry av (n := maxL) hlen
  rw [lg_entry_eq]
  exact K p e s m below meth c _ (va_A (Wd u) s.heap.size) B.exec B.bytes hml hown (fun w h => hts w (List.mem_cons_of_mem _ h)) hK hN (fun q h => Or.inr h) va_S.rf hP hD0.self
    (fun H locs pc ls v u1 hd hP1 hD1 hS1 hn hp => W.zret B.exec B.bytes B.returns hn (fun t ht hW => ⟨⟨v, u1, rfl, hp, by rw [ht]; exact hP1, va_K.moved hW.alike hK, hD1⟩, hS1.F ht⟩) hS1.2.2 hd B.notSynchronized) _ hl
theorem gMv.of {l : Launch} {y : MethodName} {cc : ByteArray} {maxL : Nat} {rm : Room} {D : va_G} {tys : List (ClassId × FieldType)} {Wd : S → va_W} {av : List Value} {u : S} {post : S → Prop}
    (hy : plainName y.cls = true) (hlen : (lg_sl av).length ≤ maxL)
    (K : ∀ (p : Program) (e : Env) (s : State) (m : MethodId) (below : List Frame) (meth : Method) (c : Code) (Q : State → Prop) (A : Nat → Prop),
      p.tables.exec = Jvm.exec → c.code = cc → c.maxLocals = maxL → s.vm.findClass y.cls = some m.cls → (∀ w ∈ lw_g, w.before av.toArray s = true) → va_K D gCl tys s → gNst s → (∀ q, s.heap.size ≤ q → A q) → va_S A s.heap s.heap [] → va_P D gCl (Wd u) s.heap → va_D A (Wd u) →
      (∀ (H : Heap) (locs : List Loc) (pc : Nat) (ls : Array Slot) (u1 : S), decode cc pc = .ok (.return_, 1) → va_P D gCl (Wd u1) H → va_D A (Wd u1) → va_S A s.heap H locs → post u1 → W p l e rm s m av.toArray below meth c H locs 0 0 Q (F0 m pc ls [])) →
      ∀ ls : Array Slot, lv_has ls maxL (lv_args 0 av) → W p l e rm s m av.toArray below meth c s.heap [] 0 0 Q (F0 m 0 ls [])) : gMv l y cc maxL rm D tys Wd av u post := by
  intro sz
  refine Met.ofW (cc := cc) (maxL := maxL) (ret := none) hy rfl ?_
  intro p e s m args below meth c s₁ B hml hv
  obtain ⟨rfl, hsz, hP, ⟨hK, hN⟩, hD0⟩ := hv
  have hts := atoms_spec (ws := Cond.code y cc maxL none :: lw_g) B.pre
  have hown : s.vm.findClass y.cls = some m.cls := findClass_of_methodNamed B.named
  subst hsz
  have hl := lv_entry av (n := maxL) hlen
  rw [lg_entry_eq]
  exact K p e s m below meth c _ (va_A (Wd u) s.heap.size) B.exec B.bytes hml hown (fun w h => hts w (List.mem_cons_of_mem _ h)) hK hN (fun q h => Or.inr h) va_S.rf hP hD0.self
    (fun H locs pc ls u1 hd hP1 hD1 hS1 hp => W.vret B.exec B.bytes B.returns (fun t ht hW => ⟨⟨u1, rfl, hp, by rw [ht]; exact hP1, va_K.moved hW.alike hK, hD1⟩, hS1.F ht⟩) hS1.2.2 hd B.notSynchronized) _ hl
end GK
-- the words of a call
theorem gGV {own C : String} {idx maxL : Nat} {y : MethodName} {bytes : ByteArray} {ret : Option FieldType} (h1 : Cond.methodLink own idx y ∈ lw_g) (h2 : Cond.instanceMethod y ∈ lw_g) (h3 : Cond.selects C y y ∈ lw_g) (h4 : Cond.initialized C ∈ lw_g) (h5 : Cond.code y bytes maxL ret ∈ lw_g) : GoodIn lw_g (wsV own idx C y (.code y bytes maxL ret :: lw_g)) := by
  intro w hw
  have h : w ∈ lw_g := by
    unfold wsV at hw
    simp only [List.cons_append, List.nil_append, List.mem_cons] at hw
    rcases hw with rfl | rfl | rfl | rfl | rfl | h
    · exact h1
    · exact h2
    · exact h3
    · exact h4
    · exact h5
    · exact h
  exact ⟨h, lw_good w h⟩
theorem gGS {own : String} {idx maxL : Nat} {y : MethodName} {bytes : ByteArray} {ret : Option FieldType} (h1 : Cond.methodLink own idx y ∈ lw_g) (h2 : Cond.static y ∈ lw_g) (h4 : Cond.initialized y.cls ∈ lw_g) (h5 : Cond.code y bytes maxL ret ∈ lw_g) : GoodIn lw_g (va_wsS own idx y (.code y bytes maxL ret :: lw_g)) := by
  intro w hw
  have h : w ∈ lw_g := by
    unfold va_wsS at hw
    simp only [List.cons_append, List.nil_append, List.mem_cons] at hw
    rcases hw with rfl | rfl | rfl | rfl | h
    · exact h1
    · exact h2
    · exact h4
    · exact h5
    · exact h
  exact ⟨h, lw_good w h⟩
theorem gGI {maxL : Nat} {y : MethodName} {bytes : ByteArray} {ret : Option FieldType} (h5 : Cond.code y bytes maxL ret ∈ lw_g) : GoodIn lw_g (.code y bytes maxL ret :: lw_g) := by
  intro w hw
  have h : w ∈ lw_g := by
    rcases List.mem_cons.mp hw with rfl | h
    · exact h5
    · exact h
  exact ⟨h, lw_good w h⟩
section GC
variable {p : Program} {l : Launch} {e : Env} {R : Room} {s : State} {m : MethodId} {args : Array Value} {below : List Frame} {meth : Method} {c : Code} {H H0 : Heap} {locs : List Loc} {cells slots : Nat} {Q : State → Prop}
variable {cc bytes : ByteArray} {pc nL n index maxL : Nat} {ls : Array Slot} {rest st0 As : List Value} {D : va_G} {tys : List (ClassId × FieldType)} {A : Nat → Prop} {own C : String} {y : MethodName} {ty : FieldType} {rm : Room} {b : Nat} {S : Type} {Wd : S → va_W} {u : S}
theorem gFree (hD : va_D A (Wd u)) (hS : va_S A H0 H locs) (hA : ∀ q, H0.size ≤ q → A q) : ∀ q, va_A (Wd u) H.size q → A q := by
  intro q h
  rcases h with ⟨k, e, h⟩ | h
  · exact hD.2 k (q, e) h
  · exact hA q (Nat.le_trans hS.1 h)
theorem gPreB (D : va_G) (tys : List (ClassId × FieldType)) (Wd : S → va_W) (sz : Nat) (u : S) (av : List Value) : FrameBlind (va_Pc av (gPre D tys Wd sz u)) := by
  intro a U g mk q
  obtain ⟨q0, q1, qP, ⟨qK, qN⟩, qD⟩ := q
  exact ⟨q0, q1, qP, ⟨va_K.moved (u := U) (U := U.calling g mk a) (Vm.Alike.refl U.vm) qK, gNst.same (u := U) (U := U.calling g mk a) rfl qN⟩, qD⟩
theorem gPreAt (hK : va_K D gCl tys s) (hN : gNst s) (hP : va_P D gCl (Wd u) H) (hD : va_D A (Wd u)) (av : List Value) : ∀ U : State, U.heap = H → s.WarmedH U.vm → va_Pc av (gPre D tys Wd H.size u) av.toArray U :=
  fun U hU hW => ⟨rfl, by rw [hU], by rw [hU]; exact hP, ⟨va_K.moved hW.alike hK, gNst.warm hW hN⟩, hD.weaken (fun _ _ _ _ => trivial)⟩
theorem gCallVi {post : Int32 → S → Prop} (hM : gMi l y bytes maxL ty rm D tys Wd (.ref b :: As) u post) (hx : p.tables.exec = Jvm.exec) (hb : c.code = cc) (hml : c.maxLocals = nL) (hown : s.vm.findClass own = some m.cls) (hts : ∀ w ∈ lw_g, w.before args s = true) (hK : va_K D gCl tys s) (hN : gNst s) (hA : ∀ q, H0.size ≤ q → A q) (hS : va_S A H0 H locs) (hP : va_P D gCl (Wd u) H) (hD : va_D A (Wd u))
    (cw : CallW R s args own C index y bytes maxL (some ty) (.code y bytes maxL (some ty) :: lw_g) rm 0 0 n) (hrecv : ∃ cell : Cell, H[b]? = some cell ∧ cell.vm.isStatics = false ∧ s.vm.findClass C = some cell.cls)
    (hn : As.length = n) (hls : ls.size = nL) (hst : st0 = As.reverse ++ .ref b :: rest) (hroom : (rest.map fun v => v.category).sum ≤ 8) (hdg : decode cc pc = .ok (.invokevirtual index, 3))
    (kk : ∀ (r : Int32) (u1 : S) (H1 : Heap) (locs1 : List Loc), post r u1 → va_P D gCl (Wd u1) H1 → va_D A (Wd u1) → va_S A H0 H1 locs1 → W p l e R s m args below meth c H1 locs1 cells slots Q (F0 m (pc + 3) ls (.int r :: rest))) (hc : cells ≤ R.cells := by exact Nat.zero_le _) (hs : slots ≤ R.slots := by exact Nat.zero_le _) : W p l e R s m args below meth c H locs cells slots Q (F0 m pc ls st0) := by
  have hF := gFree hD hS hA
  refine va_calli (va_runV (g := F0 m pc ls st0) ⟨hx, hb, hml, hown, hts⟩ (hM H.size) cw ⟨gPreB D tys Wd H.size u _, hrecv, gPreAt hK hN hP hD _⟩ rfl hn hls hst (lv_room hroom) hdg ⟨hc, hs⟩) hS (fun q _ h => hF q h) hF (fun r u1 t H1 locs1 ht hvm hp hB hz hk hS1 => ?_)
  obtain ⟨hP1, hK1, hD1⟩ := hB
  rw [ht] at hP1
  exact kk r u1 H1 locs1 hp hP1 (hD1.weaken (fun _ _ _ h => hF _ h)) hS1
theorem gCallVv {post : S → Prop} (hM : gMv l y bytes maxL rm D tys Wd (.ref b :: As) u post) (hx : p.tables.exec = Jvm.exec) (hb : c.code = cc) (hml : c.maxLocals = nL) (hown : s.vm.findClass own = some m.cls) (hts : ∀ w ∈ lw_g, w.before args s = true) (hK : va_K D gCl tys s) (hN : gNst s) (hA : ∀ q, H0.size ≤ q → A q) (hS : va_S A H0 H locs) (hP : va_P D gCl (Wd u) H) (hD : va_D A (Wd u))
    (cw : CallW R s args own C index y bytes maxL none (.code y bytes maxL none :: lw_g) rm 0 0 n) (hrecv : ∃ cell : Cell, H[b]? = some cell ∧ cell.vm.isStatics = false ∧ s.vm.findClass C = some cell.cls)
    (hn : As.length = n) (hls : ls.size = nL) (hst : st0 = As.reverse ++ .ref b :: rest) (hroom : (rest.map fun v => v.category).sum ≤ 8) (hdg : decode cc pc = .ok (.invokevirtual index, 3))
    (kk : ∀ (u1 : S) (H1 : Heap) (locs1 : List Loc), post u1 → va_P D gCl (Wd u1) H1 → va_D A (Wd u1) → va_S A H0 H1 locs1 → W p l e R s m args below meth c H1 locs1 cells slots Q (F0 m (pc + 3) ls rest)) (hc : cells ≤ R.cells := by exact Nat.zero_le _) (hs : slots ≤ R.slots := by exact Nat.zero_le _) : W p l e R s m args below meth c H locs cells slots Q (F0 m pc ls st0) := by
  have hF := gFree hD hS hA
  refine va_callv (va_runV (g := F0 m pc ls st0) ⟨hx, hb, hml, hown, hts⟩ (hM H.size) cw ⟨gPreB D tys Wd H.size u _, hrecv, gPreAt hK hN hP hD _⟩ rfl hn hls hst (lv_room hroom) hdg ⟨hc, hs⟩) hS (fun q _ h => hF q h) hF (fun u1 t H1 locs1 ht hvm hp hB hz hk hS1 => ?_)
  obtain ⟨hP1, hK1, hD1⟩ := hB
  rw [ht] at hP1
  exact kk u1 H1 locs1 hp hP1 (hD1.weaken (fun _ _ _ h => hF _ h)) hS1
theorem gCallSi {post : Int32 → S → Prop} (hM : gMi l y bytes maxL ty rm D tys Wd As u post) (hx : p.tables.exec = Jvm.exec) (hb : c.code = cc) (hml : c.maxLocals = nL) (hown : s.vm.findClass own = some m.cls) (hts : ∀ w ∈ lw_g, w.before args s = true) (hK : va_K D gCl tys s) (hN : gNst s) (hA : ∀ q, H0.size ≤ q → A q) (hS : va_S A H0 H locs) (hP : va_P D gCl (Wd u) H) (hD : va_D A (Wd u))
    (cw : CallB R s args own index y bytes maxL (some ty) (.code y bytes maxL (some ty) :: lw_g) rm 0 0 n ∧ (Cond.static y).before args s = true)
    (hn : As.length = n) (hls : ls.size = nL) (hst : st0 = As.reverse ++ rest) (hroom : (rest.map fun v => v.category).sum ≤ 8) (hdg : decode cc pc = .ok (.invokestatic index, 3))
    (kk : ∀ (r : Int32) (u1 : S) (H1 : Heap) (locs1 : List Loc), post r u1 → va_P D gCl (Wd u1) H1 → va_D A (Wd u1) → va_S A H0 H1 locs1 → W p l e R s m args below meth c H1 locs1 cells slots Q (F0 m (pc + 3) ls (.int r :: rest))) (hc : cells ≤ R.cells := by exact Nat.zero_le _) (hs : slots ≤ R.slots := by exact Nat.zero_le _) : W p l e R s m args below meth c H locs cells slots Q (F0 m pc ls st0) := by
  have hF := gFree hD hS hA
  refine va_calli (va_runS (g := F0 m pc ls st0) ⟨hx, hb, hml, hown, hts⟩ (hM H.size) cw ⟨gPreB D tys Wd H.size u _, gPreAt hK hN hP hD _⟩ rfl hn hls hst (lv_room hroom) hdg ⟨hc, hs⟩) hS (fun q _ h => hF q h) hF (fun r u1 t H1 locs1 ht hvm hp hB hz hk hS1 => ?_)
  obtain ⟨hP1, hK1, hD1⟩ := hB
  rw [ht] at hP1
  exact kk r u1 H1 locs1 hp hP1 (hD1.weaken (fun _ _ _ h => hF _ h)) hS1
theorem gCallSv {post : S → Prop} (hM : gMv l y bytes maxL rm D tys Wd As u post) (hx : p.tables.exec = Jvm.exec) (hb : c.code = cc) (hml : c.maxLocals = nL) (hown : s.vm.findClass own = some m.cls) (hts : ∀ w ∈ lw_g, w.before args s = true) (hK : va_K D gCl tys s) (hN : gNst s) (hA : ∀ q, H0.size ≤ q → A q) (hS : va_S A H0 H locs) (hP : va_P D gCl (Wd u) H) (hD : va_D A (Wd u))
    (cw : CallB R s args own index y bytes maxL none (.code y bytes maxL none :: lw_g) rm 0 0 n ∧ (Cond.static y).before args s = true)
    (hn : As.length = n) (hls : ls.size = nL) (hst : st0 = As.reverse ++ rest) (hroom : (rest.map fun v => v.category).sum ≤ 8) (hdg : decode cc pc = .ok (.invokestatic index, 3))
    (kk : ∀ (u1 : S) (H1 : Heap) (locs1 : List Loc), post u1 → va_P D gCl (Wd u1) H1 → va_D A (Wd u1) → va_S A H0 H1 locs1 → W p l e R s m args below meth c H1 locs1 cells slots Q (F0 m (pc + 3) ls rest)) (hc : cells ≤ R.cells := by exact Nat.zero_le _) (hs : slots ≤ R.slots := by exact Nat.zero_le _) : W p l e R s m args below meth c H locs cells slots Q (F0 m pc ls st0) := by
  have hF := gFree hD hS hA
  refine va_callv (va_runS (g := F0 m pc ls st0) ⟨hx, hb, hml, hown, hts⟩ (hM H.size) cw ⟨gPreB D tys Wd H.size u _, gPreAt hK hN hP hD _⟩ rfl hn hls hst (lv_room hroom) hdg ⟨hc, hs⟩) hS (fun q _ h => hF q h) hF (fun u1 t H1 locs1 ht hvm hp hB hz hk hS1 => ?_)
  obtain ⟨hP1, hK1, hD1⟩ := hB
  rw [ht] at hP1
  exact kk u1 H1 locs1 hp hP1 (hD1.weaken (fun _ _ _ h => hF _ h)) hS1
end GC
-- Arrays.fill(int[], int)
def gfill (n : Nat) (v : Int32) (f : Nat → Int32) : Nat → Int32 := fun j => if j < n then v else f j
theorem gfill_0 (v : Int32) (f : Nat → Int32) : gfill 0 v f = f := by funext j; simp [gfill]
theorem gfill_succ {i : Nat} (hi : i < 2 ^ 31) (v : Int32) (f : Nat → Int32) : upd (gfill i v f) (nI i).toNatClampNeg v = gfill (i + 1) v f := by
  rw [nI_clamp hi]
  funext j
  unfold upd gfill
  by_cases h : j = i
  · subst h; simp
  · by_cases h2 : j < i
    · simp [h, h2, Nat.lt_succ_of_lt h2]
    · simp [h, h2, show ¬ j < i + 1 by omega]
abbrev rm_Ar_fill : Room := { frames := 0, cells := 0, slots := 0, locals := 0 }
set_option maxHeartbeats 4000000 in
set_option maxRecDepth 100000 in
theorem c_Ar_fill (l : Launch) (D : va_G) (cI cS cZ : ClassId) (a n : Nat) (hn : n < 2 ^ 31) (f : Nat → Int32) (v : Int32) : gMv l y_Ar_fill b_Ar_fill 4 rm_Ar_fill D (gT cI cS cZ) (fun f : Nat → Int32 => [(a, .inl (cI, n, .inl f))]) [.ref a, .int v] f (fun g => g = gfill n v f) := by
  refine gMv.of (by decide) (Nat.le_of_ble_eq_true rfl) ?_
  intro p e s m below meth c Q A hx hb hml hown hts hK hN hA hS hP hD hret ls hl
  have hl : lv_has ls 4 [(0, .ref a), (1, .int v)] := hl
  have L : ∀ (k i : Nat) (ls : Array Slot) (H : Heap) (locs : List Loc), i + k = n → lv_has ls 4 [(0, .ref a), (1, .int v), (2, .int (nI i)), (3, .int (nI n))] → va_P D gCl [(a, .inl (cI, n, .inl (gfill i v f)))] H → va_D A [(a, .inl (cI, n, .inl (gfill i v f)))] → va_S A s.heap H locs → W p l e rm_Ar_fill s m ([.ref a, .int v] : List Value).toArray below meth c H locs 0 0 Q (F0 m 5 ls []) := by
    intro k
    induction k with
    | zero =>
      intro i ls H locs hi hl hP hD hS
      have hi : i = n := by omega
      subst hi
      refine lv_iload_n hx hb d_Ar_fill_5 rfl (lv_at hl 2 rfl) ?_
      refine lv_iload_n hx hb d_Ar_fill_6 rfl (lv_at hl 3 rfl) ?_
      refine lv_icmp_ge (tgt := 20) hx hb d_Ar_fill_7 (by decide) (fun h => ?_) (fun h => ?_)
      · exact hret H locs 20 ls (gfill i v f) d_Ar_fill_20 hP hD hS rfl
      · exact absurd (Int32.le_refl _) h
    | succ k ih =>
      intro i ls H locs hi hl hP hD hS
      refine lv_iload_n hx hb d_Ar_fill_5 rfl (lv_at hl 2 rfl) ?_
      refine lv_iload_n hx hb d_Ar_fill_6 rfl (lv_at hl 3 rfl) ?_
      refine lv_icmp_ge (tgt := 20) hx hb d_Ar_fill_7 (by decide) (fun h => ?_) (fun h => ?_)
      · exact absurd h (nI_ge (by omega) hn)
      · refine lv_aload_n hx hb d_Ar_fill_10 rfl (lv_at hl 0 rfl) ?_
        refine lv_iload_n hx hb d_Ar_fill_11 rfl (lv_at hl 2 rfl) ?_
        refine lv_iload_n hx hb d_Ar_fill_12 rfl (lv_at hl 1 rfl) ?_
        refine va_iast (f := gfill i v f) (i := nI i) (x := v) hx hb hK hP hD hS 0 0 rfl rfl (vp_in_nI (by omega) hn) d_Ar_fill_13 (fun H locs hP hD hS => ?_)
        have e1 := gfill_succ (i := i) (by omega) v f
        have hP : va_P D gCl [(a, .inl (cI, n, .inl (gfill (i + 1) v f)))] H := by rw [← e1]; exact hP
        have hD : va_D A [(a, .inl (cI, n, .inl (gfill (i + 1) v f)))] := by rw [← e1]; exact hD
        refine lv_iinc (k := 2) hx hb d_Ar_fill_14 hl rfl (show nI i + Int32.ofInt 1 = nI (i + 1) from (nI_succ i).symm) (by decide) rfl (fun ls hl => ?_)
        have hl : lv_has ls 4 [(2, .int (nI (i + 1))), (0, .ref a), (1, .int v), (3, .int (nI n))] := hl
        refine lv_goto (tgt := 5) hx hb d_Ar_fill_17 (by decide) ?_
        exact ih (i + 1) ls H locs (by omega) (lv_sub hl [1, 2, 0, 3] rfl) hP hD hS
  have hP : va_P D gCl [(a, .inl (cI, n, .inl f))] s.heap := hP
  have hD : va_D A [(a, .inl (cI, n, .inl f))] := hD
  refine lv_iconst (v := 0) hx hb d_Ar_fill_0 (by decide) ?_
  refine lv_istore_n hx hb d_Ar_fill_1 rfl hl (by decide) rfl (fun ls hl => ?_)
  have hl : lv_has ls 4 [(2, .int 0), (0, .ref a), (1, .int v)] := hl
  refine lv_aload_n hx hb d_Ar_fill_2 rfl (lv_at hl 1 rfl) ?_
  refine va_alen (v := nI n) hx hb hK hP 0 0 rfl rfl rfl d_Ar_fill_3 ?_
  refine lv_istore_n hx hb d_Ar_fill_4 rfl hl (by decide) rfl (fun ls hl => ?_)
  have hl : lv_has ls 4 [(3, .int (nI n)), (2, .int 0), (0, .ref a), (1, .int v)] := hl
  exact L n 0 ls s.heap [] (by omega) (lv_sub hl [2, 3, 1, 0] rfl) (by rw [gfill_0]; exact hP) (by rw [gfill_0]; exact hD) hS
section GF
variable {p : Program} {l : Launch} {e : Env} {R : Room} {s : State} {m : MethodId} {args : Array Value} {below : List Frame} {meth : Method} {c : Code} {H H0 : Heap} {locs : List Loc} {cells slots : Nat} {Q : State → Prop}
variable {cc : ByteArray} {pc nL index : Nat} {ls : Array Slot} {rest : List Value} {D : va_G} {cI cS cZ : ClassId} {A : Nat → Prop} {own : String} {ws : va_W} {a n : Nat} {f : Nat → Int32} {v : Int32}
theorem gFill (hx : p.tables.exec = Jvm.exec) (hb : c.code = cc) (hml : c.maxLocals = nL) (hown : s.vm.findClass own = some m.cls) (hts : ∀ w ∈ lw_g, w.before args s = true) (hK : va_K D gCl (gT cI cS cZ) s) (hN : gNst s) (hA : ∀ q, H0.size ≤ q → A q) (hS : va_S A H0 H locs) (hP : va_P D gCl ws H) (hD : va_D A ws)
    (q0 : Nat) (ha : ws[q0]? = some (a, .inl (cI, n, .inl f))) (hn : n < 2 ^ 31)
    (cw : CallB R s args own index y_Ar_fill b_Ar_fill 4 none (.code y_Ar_fill b_Ar_fill 4 none :: lw_g) rm_Ar_fill 0 0 2 ∧ (Cond.static y_Ar_fill).before args s = true)
    (hls : ls.size = nL) (hroom : (rest.map fun v => v.category).sum ≤ 8) (hdg : decode cc pc = .ok (.invokestatic index, 3))
    (kk : ∀ (H1 : Heap) (locs1 : List Loc), va_P D gCl (ws.set q0 (a, .inl (cI, n, .inl (gfill n v f)))) H1 → va_D A (ws.set q0 (a, .inl (cI, n, .inl (gfill n v f)))) → va_S A H0 H1 locs1 → W p l e R s m args below meth c H1 locs1 cells slots Q (F0 m (pc + 3) ls rest)) (hc : cells ≤ R.cells := by exact Nat.zero_le _) (hs : slots ≤ R.slots := by exact Nat.zero_le _) : W p l e R s m args below meth c H locs cells slots Q (F0 m pc ls (.int v :: .ref a :: rest)) := by
  have h1 : va_P D gCl [(a, .inl (cI, n, .inl f))] H := fun k q hk => by
    have hz : k < 1 := (List.getElem?_eq_some_iff.mp hk).1
    rw [show k = 0 by omega] at hk
    cases hk
    exact hP q0 _ ha
  have d1 : va_D A [(a, .inl (cI, n, .inl f))] := ⟨fun i j x y hi hj _ => by
    have hz : i < 1 := (List.getElem?_eq_some_iff.mp hi).1
    have hz2 : j < 1 := (List.getElem?_eq_some_iff.mp hj).1
    omega, fun k q hk => by
    have hz : k < 1 := (List.getElem?_eq_some_iff.mp hk).1
    rw [show k = 0 by omega] at hk
    cases hk
    exact hD.2 q0 _ ha⟩
  have hM := c_Ar_fill l D cI cS cZ a n hn f v
  have hF := gFree (Wd := fun f : Nat → Int32 => [(a, .inl (cI, n, .inl f))]) (u := f) d1 hS hA
  refine va_callv (va_runS (g := F0 m pc ls (.int v :: .ref a :: rest)) (As := [.ref a, .int v]) (rest := rest) ⟨hx, hb, hml, hown, hts⟩ (hM H.size) cw ⟨gPreB D _ (fun f : Nat → Int32 => [(a, .inl (cI, n, .inl f))]) H.size f _, gPreAt (Wd := fun f : Nat → Int32 => [(a, .inl (cI, n, .inl f))]) hK hN h1 d1 _⟩ rfl rfl hls rfl (lv_room hroom) hdg ⟨hc, hs⟩) hS (fun q _ h => hF q h) hF (fun u1 t H1 locs1 ht hvm hp hB hz hfr hS1 => ?_)
  obtain ⟨hP1, hK1, hD1⟩ := hB
  rw [ht] at hP1
  subst hp
  refine kk H1 locs1 ?_ (hD.set ha) hS1
  have hl := (List.getElem?_eq_some_iff.mp ha).1
  intro k q hk
  by_cases hq : k = q0
  · subst hq
    rw [List.getElem?_set_self hl] at hk
    cases hk
    exact hP1 0 _ rfl
  · rw [List.getElem?_set_ne (fun h => hq h.symm)] at hk
    refine (hP k q hk).kept (hfr q.1 (hP k q hk).lt (fun h => ?_))
    rcases h with ⟨k2, e2, h⟩ | h
    · have hz2 : k2 < 1 := (List.getElem?_eq_some_iff.mp h).1
      rw [show k2 = 0 by omega] at h
      have h3 : q.1 = a := by have := Option.some.inj h; exact (congrArg Prod.fst this).symm
      exact hq (hD.1 k q0 q _ hk ha h3)
    · have := (hP k q hk).lt
      omega
end GF
-- constructors: out of the object alone a world comes, at addresses that are new
abbrev gSA : Type := (Nat → Nat) × (Nat → Int32) × (Nat → Nat → Int32)
section GQ
variable {S : Type}
def gK (l : Launch) (y : MethodName) (cc : ByteArray) (maxL : Nat) (rm : Room) (D : va_G) (tys : List (ClassId × FieldType)) (av : List Value) (w0 : va_W) (Wd : S → va_W) (post : S → Prop) (mc ms : Nat) : Prop :=
  ∀ sz : Nat, Met l y (.code y cc maxL none :: lw_g) rm (va_Pc av (fun U => U.heap.size = sz ∧ va_P D gCl w0 U.heap ∧ (va_K D gCl tys U ∧ gNst U) ∧ va_D (fun _ => True) w0)) (va_Qv post (gAt D tys Wd (va_A w0 sz)) (va_A w0 sz)) mc ms (va_A w0 sz)
theorem gK.of {l : Launch} {y : MethodName} {cc : ByteArray} {maxL : Nat} {rm : Room} {D : va_G} {tys : List (ClassId × FieldType)} {av : List Value} {w0 : va_W} {Wd : S → va_W} {post : S → Prop} {mc ms : Nat}
    (hy : plainName y.cls = true) (hlen : (lg_sl av).length ≤ maxL)
    (K : ∀ (p : Program) (e : Env) (s : State) (m : MethodId) (below : List Frame) (meth : Method) (c : Code) (Q : State → Prop) (A : Nat → Prop),
      p.tables.exec = Jvm.exec → c.code = cc → c.maxLocals = maxL → s.vm.findClass y.cls = some m.cls → (∀ w ∈ lw_g, w.before av.toArray s = true) → va_K D gCl tys s → gNst s → (∀ q, s.heap.size ≤ q → A q) → va_S A s.heap s.heap [] → va_P D gCl w0 s.heap → va_D A w0 → meth.name = y.name →
      (∀ (H : Heap) (locs : List Loc) (pc : Nat) (ls : Array Slot) (u1 : S), decode cc pc = .ok (.return_, 1) → va_P D gCl (Wd u1) H → va_D A (Wd u1) → va_S A s.heap H locs → post u1 → W p l e rm s m av.toArray below meth c H locs mc ms Q (F0 m pc ls [])) →
      ∀ ls : Array Slot, lv_has ls maxL (lv_args 0 av) → W p l e rm s m av.toArray below meth c s.heap [] 0 0 Q (F0 m 0 ls [])) : gK l y cc maxL rm D tys av w0 Wd post mc ms := by
  intro sz
  refine Met.ofW (cc := cc) (maxL := maxL) (ret := none) hy rfl ?_
  intro p e s m args below meth c s₁ B hml hv
  obtain ⟨rfl, hsz, hP, ⟨hK, hN⟩, hD0⟩ := hv
  have hts := atoms_spec (ws := Cond.code y cc maxL none :: lw_g) B.pre
  have hown : s.vm.findClass y.cls = some m.cls := findClass_of_methodNamed B.named
  subst hsz
  have hl := lv_entry av (n := maxL) hlen
  rw [lg_entry_eq]
  exact K p e s m below meth c _ (va_A w0 s.heap.size) B.exec B.bytes hml hown (fun w h => hts w (List.mem_cons_of_mem _ h)) hK hN (fun q h => Or.inr h) va_S.rf hP hD0.self (name_of_methodNamed B.named B.method).1
    (fun H locs pc ls u1 hd hP1 hD1 hS1 hp => W.vret B.exec B.bytes B.returns (fun t ht hW => ⟨⟨u1, rfl, hp, by rw [ht]; exact hP1, va_K.moved hW.alike hK, hD1⟩, hS1.F ht⟩) hS1.2.2 hd B.notSynchronized) _ hl
end GQ
theorem gPl {D : va_G} {w1 w2 : va_W} {H : Heap} (h : va_P D gCl (w1 ++ w2) H) : va_P D gCl w1 H := fun k q hk => h k q (by rw [List.getElem?_append_left (List.getElem?_eq_some_iff.mp hk).1]; exact hk)
theorem gPr {D : va_G} {w1 w2 : va_W} {H : Heap} (h : va_P D gCl (w1 ++ w2) H) : va_P D gCl w2 H := fun k q hk => h (w1.length + k) q (by rw [List.getElem?_append_right (Nat.le_add_right _ _), Nat.add_sub_cancel_left]; exact hk)
theorem gDl {A : Nat → Prop} {w1 w2 : va_W} (h : va_D A (w1 ++ w2)) : va_D A w1 := by
  have key : ∀ (k : Nat) (q : Nat × va_E), w1[k]? = some q → (w1 ++ w2)[k]? = some q := fun k q hk => by rw [List.getElem?_append_left (List.getElem?_eq_some_iff.mp hk).1]; exact hk
  exact ⟨fun i j x y hi hj e => h.1 i j x y (key i x hi) (key j y hj) e, fun k q hk => h.2 k q (key k q hk)⟩
theorem gDr {A : Nat → Prop} {w1 w2 : va_W} (h : va_D A (w1 ++ w2)) : va_D A w2 := by
  have key : ∀ (k : Nat) (q : Nat × va_E), w2[k]? = some q → (w1 ++ w2)[w1.length + k]? = some q := fun k q hk => by rw [List.getElem?_append_right (Nat.le_add_right _ _), Nat.add_sub_cancel_left]; exact hk
  refine ⟨fun i j x y hi hj e => ?_, fun k q hk => h.2 _ q (key k q hk)⟩
  have := h.1 _ _ x y (key i x hi) (key j y hj) e
  omega
theorem gDx {A : Nat → Prop} {w1 w2 : va_W} (h : va_D A (w1 ++ w2)) : ∀ (i j : Nat) (x y : Nat × va_E), w1[i]? = some x → w2[j]? = some y → x.1 ≠ y.1 := by
  intro i j x y hi hj e
  have h1 : (w1 ++ w2)[i]? = some x := by rw [List.getElem?_append_left (List.getElem?_eq_some_iff.mp hi).1]; exact hi
  have h2 : (w1 ++ w2)[w1.length + j]? = some y := by rw [List.getElem?_append_right (Nat.le_add_right _ _), Nat.add_sub_cancel_left]; exact hj
  have h3 := h.1 _ _ x y h1 h2 e
  have := (List.getElem?_eq_some_iff.mp hi).1
  omega
theorem gSwP {D : va_G} {w1 w2 : va_W} {H : Heap} (h : va_P D gCl (w1 ++ w2) H) : va_P D gCl (w2 ++ w1) H := va_P.app (gPr h) (gPl h)
theorem gSwD {A : Nat → Prop} {w1 w2 : va_W} (h : va_D A (w1 ++ w2)) : va_D A (w2 ++ w1) := va_D.app (gDr h) (gDl h) (fun i j x y hx hy e => gDx h j i y x hy hx e.symm)
/-- behind a call: the rest of the world stays, the callee's part is new -/
theorem gJoin {A : Nat → Prop} {D : va_G} {wr w0 w1 : va_W} {H H1 : Heap} (hP : va_P D gCl (wr ++ w0) H) (hD : va_D A (wr ++ w0)) (hfr : ∀ q : Nat, q < H.size → ¬ va_A w0 H.size q → H1[q]? = H[q]?) (hF : ∀ q, va_A w0 H.size q → A q) (hP1 : va_P D gCl w1 H1) (hD1 : va_D (va_A w0 H.size) w1) : va_P D gCl (wr ++ w1) H1 ∧ va_D A (wr ++ w1) := by
  have hPr := gPl hP
  have out : ∀ (k : Nat) (q : Nat × va_E), wr[k]? = some q → q.1 < H.size ∧ ¬ va_A w0 H.size q.1 := by
    intro k q hk
    have hlt := (hPr k q hk).lt
    refine ⟨hlt, fun h => ?_⟩
    rcases h with ⟨j, e, h⟩ | h
    · exact gDx hD k j q (q.1, e) hk h rfl
    · omega
  refine ⟨va_P.app (fun k q hk => (hPr k q hk).kept (hfr q.1 (out k q hk).1 (out k q hk).2)) hP1, va_D.app (gDl hD) (hD1.weaken (fun k q _ h => hF q.1 h)) (fun i j x y hx hy hxy => ?_)⟩
  exact (out i x hx).2 (by rw [hxy]; exact hD1.2 j y hy)
section GR
variable {p : Program} {l : Launch} {e : Env} {R : Room} {s : State} {m : MethodId} {args : Array Value} {below : List Frame} {meth : Method} {c : Code} {H H0 : Heap} {locs : List Loc} {cells slots : Nat} {Q : State → Prop}
variable {cc bytes : ByteArray} {pc nL n index maxL mc ms : Nat} {ls : Array Slot} {rest st0 As : List Value} {D : va_G} {tys : List (ClassId × FieldType)} {A : Nat → Prop} {own C host : String} {y : MethodName} {ty : FieldType} {rm : Room} {b : Nat} {S : Type} {Wd : S → va_W} {u : S} {wr w0 : va_W}
theorem gFree0 (hD : va_D A w0) (hS : va_S A H0 H locs) (hA : ∀ q, H0.size ≤ q → A q) : ∀ q, va_A w0 H.size q → A q := by
  intro q h
  rcases h with ⟨k, e, h⟩ | h
  · exact hD.2 k (q, e) h
  · exact hA q (Nat.le_trans hS.1 h)
/-- a constructor's call; the object is the last cell of the world -/
theorem gCallK {post : S → Prop} (hM : gK l y bytes maxL rm D tys (.ref b :: As) w0 Wd post mc ms) (hx : p.tables.exec = Jvm.exec) (hb : c.code = cc) (hml : c.maxLocals = nL) (hown : s.vm.findClass own = some m.cls) (hts : ∀ w ∈ lw_g, w.before args s = true) (hK : va_K D gCl tys s) (hN : gNst s) (hA : ∀ q, H0.size ≤ q → A q) (hS : va_S A H0 H locs) (hP : va_P D gCl (wr ++ w0) H) (hD : va_D A (wr ++ w0))
    (cw : CallB R s args own index y bytes maxL none (.code y bytes maxL none :: lw_g) rm mc ms n ∧ y.name = "<init>" ∧ (Cond.instanceMethod y).before args s = true)
    (hn : As.length = n) (hls : ls.size = nL) (hst : st0 = As.reverse ++ .ref b :: rest) (hroom : (rest.map fun v => v.category).sum ≤ 8) (hdg : decode cc pc = .ok (.invokespecial index, 3)) (hc : cells + mc ≤ R.cells ∧ slots + ms ≤ R.slots)
    (kk : ∀ (u1 : S) (H1 : Heap) (locs1 : List Loc), post u1 → va_P D gCl (wr ++ Wd u1) H1 → va_D A (wr ++ Wd u1) → va_S A H0 H1 locs1 → W p l e R s m args below meth c H1 locs1 (cells + mc) (slots + ms) Q (F0 m (pc + 3) ls rest)) : W p l e R s m args below meth c H locs cells slots Q (F0 m pc ls st0) := by
  have hF := gFree0 (gDr hD) hS hA
  refine va_callv (va_runI (g := F0 m pc ls st0) ⟨hx, hb, hml, hown, hts⟩ (hM H.size) cw ⟨fun a U g mk q => by obtain ⟨q0, q1, qP, ⟨qK, qN⟩, qD⟩ := q; exact ⟨q0, q1, qP, ⟨va_K.moved (u := U) (U := U.calling g mk a) (Vm.Alike.refl U.vm) qK, gNst.same (u := U) (U := U.calling g mk a) rfl qN⟩, qD⟩, fun U hU hW => ⟨rfl, by rw [hU], by rw [hU]; exact gPr hP, ⟨va_K.moved hW.alike hK, gNst.warm hW hN⟩, (gDr hD).weaken (fun _ _ _ _ => trivial)⟩⟩ rfl hn hls hst (lv_room hroom) hdg hc) hS (fun q _ h => hF q h) hF (fun u1 t H1 locs1 ht hvm hp hB hz hfr hS1 => ?_)
  obtain ⟨hP1, hK1, hD1⟩ := hB
  rw [ht] at hP1
  obtain ⟨h1, h2⟩ := gJoin hP hD hfr hF hP1 hD1
  exact kk u1 H1 locs1 hp h1 h2 hS1
/-- the same of a hidden constructor of a nest mate -/
theorem gCallKN {post : S → Prop} (hM : gK l y bytes maxL rm D tys (.ref b :: As) w0 Wd post mc ms) (hx : p.tables.exec = Jvm.exec) (hb : c.code = cc) (hml : c.maxLocals = nL) (hown : s.vm.findClass own = some m.cls) (hts : ∀ w ∈ lw_g, w.before args s = true) (hK : va_K D gCl tys s) (hN : gNst s) (hA : ∀ q, H0.size ≤ q → A q) (hS : va_S A H0 H locs) (hP : va_P D gCl (wr ++ w0) H) (hD : va_D A (wr ++ w0))
    (cw : va_CN R s args own index y host bytes maxL none (.code y bytes maxL none :: lw_g) rm mc ms n ∧ y.name = "<init>" ∧ (Cond.instanceMethod y).before args s = true)
    (hn : As.length = n) (hls : ls.size = nL) (hst : st0 = As.reverse ++ .ref b :: rest) (hroom : (rest.map fun v => v.category).sum ≤ 8) (hdg : decode cc pc = .ok (.invokespecial index, 3)) (hc : cells + mc ≤ R.cells ∧ slots + ms ≤ R.slots)
    (kk : ∀ (u1 : S) (H1 : Heap) (locs1 : List Loc), post u1 → va_P D gCl (wr ++ Wd u1) H1 → va_D A (wr ++ Wd u1) → va_S A H0 H1 locs1 → W p l e R s m args below meth c H1 locs1 (cells + mc) (slots + ms) Q (F0 m (pc + 3) ls rest)) : W p l e R s m args below meth c H locs cells slots Q (F0 m pc ls st0) := by
  have hF := gFree0 (gDr hD) hS hA
  refine va_callv (va_runIN (g := F0 m pc ls st0) ⟨hx, hb, hml, hown, hts⟩ (hM H.size) cw ⟨fun a U g mk q => by obtain ⟨q0, q1, qP, ⟨qK, qN⟩, qD⟩ := q; exact ⟨q0, q1, qP, ⟨va_K.moved (u := U) (U := U.calling g mk a) (Vm.Alike.refl U.vm) qK, gNst.same (u := U) (U := U.calling g mk a) rfl qN⟩, qD⟩, fun U hU hW => ⟨rfl, by rw [hU], by rw [hU]; exact gPr hP, ⟨va_K.moved hW.alike hK, gNst.warm hW hN⟩, (gDr hD).weaken (fun _ _ _ _ => trivial)⟩⟩ rfl hn hls hst (lv_room hroom) hdg hc) hS (fun q _ h => hF q h) hF (fun u1 t H1 locs1 ht hvm hp hB hz hfr hS1 => ?_)
  obtain ⟨hP1, hK1, hD1⟩ := hB
  rw [ht] at hP1
  obtain ⟨h1, h2⟩ := gJoin hP hD hfr hF hP1 hD1
  exact kk u1 H1 locs1 hp h1 h2 hS1
/-- calls beside a part of the world that stays: the law's own -/
theorem gCallVi2 {post : Int32 → S → Prop} (hM : gMi l y bytes maxL ty rm D tys Wd (.ref b :: As) u post) (hx : p.tables.exec = Jvm.exec) (hb : c.code = cc) (hml : c.maxLocals = nL) (hown : s.vm.findClass own = some m.cls) (hts : ∀ w ∈ lw_g, w.before args s = true) (hK : va_K D gCl tys s) (hN : gNst s) (hA : ∀ q, H0.size ≤ q → A q) (hS : va_S A H0 H locs) (hP : va_P D gCl (wr ++ Wd u) H) (hD : va_D A (wr ++ Wd u))
    (cw : CallW R s args own C index y bytes maxL (some ty) (.code y bytes maxL (some ty) :: lw_g) rm 0 0 n) (hrecv : ∃ cell : Cell, H[b]? = some cell ∧ cell.vm.isStatics = false ∧ s.vm.findClass C = some cell.cls)
    (hn : As.length = n) (hls : ls.size = nL) (hst : st0 = As.reverse ++ .ref b :: rest) (hroom : (rest.map fun v => v.category).sum ≤ 8) (hdg : decode cc pc = .ok (.invokevirtual index, 3)) (hc : cells ≤ R.cells) (hs : slots ≤ R.slots)
    (kk : ∀ (r : Int32) (u1 : S) (H1 : Heap) (locs1 : List Loc), post r u1 → va_P D gCl (wr ++ Wd u1) H1 → va_D A (wr ++ Wd u1) → va_S A H0 H1 locs1 → W p l e R s m args below meth c H1 locs1 cells slots Q (F0 m (pc + 3) ls (.int r :: rest))) : W p l e R s m args below meth c H locs cells slots Q (F0 m pc ls st0) := by
  have hF := gFree (gDr hD) hS hA
  refine va_calli (va_runV (g := F0 m pc ls st0) ⟨hx, hb, hml, hown, hts⟩ (hM H.size) cw ⟨gPreB D tys Wd H.size u _, hrecv, gPreAt hK hN (gPr hP) (gDr hD) _⟩ rfl hn hls hst (lv_room hroom) hdg ⟨hc, hs⟩) hS (fun q _ h => hF q h) hF (fun r u1 t H1 locs1 ht hvm hp hB hz hfr hS1 => ?_)
  obtain ⟨hP1, hK1, hD1⟩ := hB
  rw [ht] at hP1
  obtain ⟨h1, h2⟩ := gJoin hP hD hfr hF hP1 hD1
  exact kk r u1 H1 locs1 hp h1 h2 hS1
theorem gCallVv2 {post : S → Prop} (hM : gMv l y bytes maxL rm D tys Wd (.ref b :: As) u post) (hx : p.tables.exec = Jvm.exec) (hb : c.code = cc) (hml : c.maxLocals = nL) (hown : s.vm.findClass own = some m.cls) (hts : ∀ w ∈ lw_g, w.before args s = true) (hK : va_K D gCl tys s) (hN : gNst s) (hA : ∀ q, H0.size ≤ q → A q) (hS : va_S A H0 H locs) (hP : va_P D gCl (wr ++ Wd u) H) (hD : va_D A (wr ++ Wd u))
    (cw : CallW R s args own C index y bytes maxL none (.code y bytes maxL none :: lw_g) rm 0 0 n) (hrecv : ∃ cell : Cell, H[b]? = some cell ∧ cell.vm.isStatics = false ∧ s.vm.findClass C = some cell.cls)
    (hn : As.length = n) (hls : ls.size = nL) (hst : st0 = As.reverse ++ .ref b :: rest) (hroom : (rest.map fun v => v.category).sum ≤ 8) (hdg : decode cc pc = .ok (.invokevirtual index, 3)) (hc : cells ≤ R.cells) (hs : slots ≤ R.slots)
    (kk : ∀ (u1 : S) (H1 : Heap) (locs1 : List Loc), post u1 → va_P D gCl (wr ++ Wd u1) H1 → va_D A (wr ++ Wd u1) → va_S A H0 H1 locs1 → W p l e R s m args below meth c H1 locs1 cells slots Q (F0 m (pc + 3) ls rest)) : W p l e R s m args below meth c H locs cells slots Q (F0 m pc ls st0) := by
  have hF := gFree (gDr hD) hS hA
  refine va_callv (va_runV (g := F0 m pc ls st0) ⟨hx, hb, hml, hown, hts⟩ (hM H.size) cw ⟨gPreB D tys Wd H.size u _, hrecv, gPreAt hK hN (gPr hP) (gDr hD) _⟩ rfl hn hls hst (lv_room hroom) hdg ⟨hc, hs⟩) hS (fun q _ h => hF q h) hF (fun u1 t H1 locs1 ht hvm hp hB hz hfr hS1 => ?_)
  obtain ⟨hP1, hK1, hD1⟩ := hB
  rw [ht] at hP1
  obtain ⟨h1, h2⟩ := gJoin hP hD hfr hF hP1 hD1
  exact kk u1 H1 locs1 hp h1 h2 hS1
end GR
