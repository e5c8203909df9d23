section
-- ===== PART A: goes FIRST, ahead of the names: the tables' words, and 'selects' of the private methods out of them =====
/-- a private method of a class that the tables say can be made, by its rows of tables_1 -/
def lw_okq (q : MethodName × Nat) : Prop := (q.1.cls ≠ "java/lang/invoke/MethodHandle" ∧ q.1.cls ≠ "java/lang/invoke/VarHandle") ∧ Cond.instantiable q.1.cls q.2 ∈ tables_1 ∧ Cond.privateMethod q.1 ∈ tables_1 ∧ Cond.instanceMethod q.1 ∈ tables_1
theorem lw_p0 : lw_okq (⟨"DelayMachine$Machine", "takeOrder", "()V"⟩, 14) := ⟨⟨by decide +kernel, by decide +kernel⟩, List.mem_of_getElem? (i := 85) (by decide +kernel), List.mem_of_getElem? (i := 335) (by decide +kernel), List.mem_of_getElem? (i := 336) (by decide +kernel)⟩
theorem lw_p1 : lw_okq (⟨"DelayMachine$Window", "lastOf", "(I)I"⟩, 5) := ⟨⟨by decide +kernel, by decide +kernel⟩, List.mem_of_getElem? (i := 108) (by decide +kernel), List.mem_of_getElem? (i := 343) (by decide +kernel), List.mem_of_getElem? (i := 344) (by decide +kernel)⟩
theorem lw_p2 : lw_okq (⟨"DelayMachine$Machine", "move", "(LDelayMachine$Window;)V"⟩, 14) := ⟨⟨by decide +kernel, by decide +kernel⟩, List.mem_of_getElem? (i := 85) (by decide +kernel), List.mem_of_getElem? (i := 351) (by decide +kernel), List.mem_of_getElem? (i := 352) (by decide +kernel)⟩
theorem lw_p3 : lw_okq (⟨"DelayMachine$Machine", "sourceWord", "(I)S"⟩, 14) := ⟨⟨by decide +kernel, by decide +kernel⟩, List.mem_of_getElem? (i := 85) (by decide +kernel), List.mem_of_getElem? (i := 355) (by decide +kernel), List.mem_of_getElem? (i := 356) (by decide +kernel)⟩
theorem lw_p4 : lw_okq (⟨"DelayMachine$Reader", "offset", "(I)I"⟩, 6) := ⟨⟨by decide +kernel, by decide +kernel⟩, List.mem_of_getElem? (i := 42) (by decide +kernel), List.mem_of_getElem? (i := 363) (by decide +kernel), List.mem_of_getElem? (i := 364) (by decide +kernel)⟩
theorem lw_p5 : lw_okq (⟨"DelayMachine$Machine", "discriminate", "(LDelayMachine$Window;Z)V"⟩, 14) := ⟨⟨by decide +kernel, by decide +kernel⟩, List.mem_of_getElem? (i := 85) (by decide +kernel), List.mem_of_getElem? (i := 370) (by decide +kernel), List.mem_of_getElem? (i := 371) (by decide +kernel)⟩
theorem lw_p6 : lw_okq (⟨"DelayMachine$Machine", "deliver", "(SI)V"⟩, 14) := ⟨⟨by decide +kernel, by decide +kernel⟩, List.mem_of_getElem? (i := 85) (by decide +kernel), List.mem_of_getElem? (i := 374) (by decide +kernel), List.mem_of_getElem? (i := 375) (by decide +kernel)⟩
theorem lw_p7 : lw_okq (⟨"DelayMachine$Machine", "stopBy", "(I)V"⟩, 14) := ⟨⟨by decide +kernel, by decide +kernel⟩, List.mem_of_getElem? (i := 85) (by decide +kernel), List.mem_of_getElem? (i := 394) (by decide +kernel), List.mem_of_getElem? (i := 395) (by decide +kernel)⟩
theorem lw_p8 : lw_okq (⟨"DelayMachine$Placing", "forget", "()V"⟩, 9) := ⟨⟨by decide +kernel, by decide +kernel⟩, List.mem_of_getElem? (i := 215) (by decide +kernel), List.mem_of_getElem? (i := 460) (by decide +kernel), List.mem_of_getElem? (i := 461) (by decide +kernel)⟩
theorem lw_p9 : lw_okq (⟨"DelayMachine$Placing", "freeSpot", "()I"⟩, 9) := ⟨⟨by decide +kernel, by decide +kernel⟩, List.mem_of_getElem? (i := 215) (by decide +kernel), List.mem_of_getElem? (i := 464) (by decide +kernel), List.mem_of_getElem? (i := 465) (by decide +kernel)⟩
theorem lw_p10 : lw_okq (⟨"DelayMachine$Placing", "isFree", "(II)Z"⟩, 9) := ⟨⟨by decide +kernel, by decide +kernel⟩, List.mem_of_getElem? (i := 215) (by decide +kernel), List.mem_of_getElem? (i := 468) (by decide +kernel), List.mem_of_getElem? (i := 469) (by decide +kernel)⟩
theorem lw_p11 : lw_okq (⟨"DelayMachine$Placing", "placeStatement", "(LDelayMachine$Program;I)V"⟩, 9) := ⟨⟨by decide +kernel, by decide +kernel⟩, List.mem_of_getElem? (i := 215) (by decide +kernel), List.mem_of_getElem? (i := 472) (by decide +kernel), List.mem_of_getElem? (i := 473) (by decide +kernel)⟩
theorem lw_p12 : lw_okq (⟨"DelayMachine$Placing", "placeOrder", "(III)V"⟩, 9) := ⟨⟨by decide +kernel, by decide +kernel⟩, List.mem_of_getElem? (i := 215) (by decide +kernel), List.mem_of_getElem? (i := 476) (by decide +kernel), List.mem_of_getElem? (i := 477) (by decide +kernel)⟩
theorem lw_p13 : lw_okq (⟨"DelayMachine$Placing", "variablePlace", "(II)I"⟩, 9) := ⟨⟨by decide +kernel, by decide +kernel⟩, List.mem_of_getElem? (i := 215) (by decide +kernel), List.mem_of_getElem? (i := 480) (by decide +kernel), List.mem_of_getElem? (i := 481) (by decide +kernel)⟩
theorem lw_p14 : lw_okq (⟨"DelayMachine$Placing", "occupy", "(II)V"⟩, 9) := ⟨⟨by decide +kernel, by decide +kernel⟩, List.mem_of_getElem? (i := 215) (by decide +kernel), List.mem_of_getElem? (i := 484) (by decide +kernel), List.mem_of_getElem? (i := 485) (by decide +kernel)⟩
theorem lw_p15 : lw_okq (⟨"DelayMachine$Placing", "lead", "(II)V"⟩, 9) := ⟨⟨by decide +kernel, by decide +kernel⟩, List.mem_of_getElem? (i := 215) (by decide +kernel), List.mem_of_getElem? (i := 488) (by decide +kernel), List.mem_of_getElem? (i := 489) (by decide +kernel)⟩
def lw_privs_1 : List (MethodName × Nat) := [(⟨"DelayMachine$Machine", "takeOrder", "()V"⟩, 14), (⟨"DelayMachine$Window", "lastOf", "(I)I"⟩, 5), (⟨"DelayMachine$Machine", "move", "(LDelayMachine$Window;)V"⟩, 14), (⟨"DelayMachine$Machine", "sourceWord", "(I)S"⟩, 14), (⟨"DelayMachine$Reader", "offset", "(I)I"⟩, 6), (⟨"DelayMachine$Machine", "discriminate", "(LDelayMachine$Window;Z)V"⟩, 14), (⟨"DelayMachine$Machine", "deliver", "(SI)V"⟩, 14), (⟨"DelayMachine$Machine", "stopBy", "(I)V"⟩, 14), (⟨"DelayMachine$Placing", "forget", "()V"⟩, 9), (⟨"DelayMachine$Placing", "freeSpot", "()I"⟩, 9), (⟨"DelayMachine$Placing", "isFree", "(II)Z"⟩, 9), (⟨"DelayMachine$Placing", "placeStatement", "(LDelayMachine$Program;I)V"⟩, 9), (⟨"DelayMachine$Placing", "placeOrder", "(III)V"⟩, 9), (⟨"DelayMachine$Placing", "variablePlace", "(II)I"⟩, 9), (⟨"DelayMachine$Placing", "occupy", "(II)V"⟩, 9), (⟨"DelayMachine$Placing", "lead", "(II)V"⟩, 9)]
theorem lw_r1 : ∀ q ∈ lw_privs_1, lw_okq q := List.forall_mem_cons.mpr ⟨lw_p0, List.forall_mem_cons.mpr ⟨lw_p1, List.forall_mem_cons.mpr ⟨lw_p2, List.forall_mem_cons.mpr ⟨lw_p3, List.forall_mem_cons.mpr ⟨lw_p4, List.forall_mem_cons.mpr ⟨lw_p5, List.forall_mem_cons.mpr ⟨lw_p6, List.forall_mem_cons.mpr ⟨lw_p7, List.forall_mem_cons.mpr ⟨lw_p8, List.forall_mem_cons.mpr ⟨lw_p9, List.forall_mem_cons.mpr ⟨lw_p10, List.forall_mem_cons.mpr ⟨lw_p11, List.forall_mem_cons.mpr ⟨lw_p12, List.forall_mem_cons.mpr ⟨lw_p13, List.forall_mem_cons.mpr ⟨lw_p14, List.forall_mem_cons.mpr ⟨lw_p15, fun _ h => absurd h List.not_mem_nil⟩⟩⟩⟩⟩⟩⟩⟩⟩⟩⟩⟩⟩⟩⟩⟩
theorem lw_p16 : lw_okq (⟨"DelayMachine$Placing", "placeFork", "(I)V"⟩, 9) := ⟨⟨by decide +kernel, by decide +kernel⟩, List.mem_of_getElem? (i := 215) (by decide +kernel), List.mem_of_getElem? (i := 492) (by decide +kernel), List.mem_of_getElem? (i := 493) (by decide +kernel)⟩
theorem lw_p17 : lw_okq (⟨"DelayMachine$Placing", "forkSpot", "()I"⟩, 9) := ⟨⟨by decide +kernel, by decide +kernel⟩, List.mem_of_getElem? (i := 215) (by decide +kernel), List.mem_of_getElem? (i := 496) (by decide +kernel), List.mem_of_getElem? (i := 497) (by decide +kernel)⟩
theorem lw_p18 : lw_okq (⟨"DelayMachine$Placing", "placeStop", "()V"⟩, 9) := ⟨⟨by decide +kernel, by decide +kernel⟩, List.mem_of_getElem? (i := 215) (by decide +kernel), List.mem_of_getElem? (i := 500) (by decide +kernel), List.mem_of_getElem? (i := 501) (by decide +kernel)⟩
theorem lw_p19 : lw_okq (⟨"DelayMachine$Placing", "leadBranches", "(LDelayMachine$Program;)V"⟩, 9) := ⟨⟨by decide +kernel, by decide +kernel⟩, List.mem_of_getElem? (i := 215) (by decide +kernel), List.mem_of_getElem? (i := 509) (by decide +kernel), List.mem_of_getElem? (i := 510) (by decide +kernel)⟩
theorem lw_p20 : lw_okq (⟨"DelayMachine$Placing", "fillWithStops", "()V"⟩, 9) := ⟨⟨by decide +kernel, by decide +kernel⟩, List.mem_of_getElem? (i := 215) (by decide +kernel), List.mem_of_getElem? (i := 513) (by decide +kernel), List.mem_of_getElem? (i := 514) (by decide +kernel)⟩
theorem lw_p21 : lw_okq (⟨"DelayMachineModel", "cycle", "()V"⟩, 47) := ⟨⟨by decide +kernel, by decide +kernel⟩, List.mem_of_getElem? (i := 529) (by decide +kernel), List.mem_of_getElem? (i := 705) (by decide +kernel), List.mem_of_getElem? (i := 706) (by decide +kernel)⟩
theorem lw_p22 : lw_okq (⟨"DelayMachineModel", "read", "()V"⟩, 47) := ⟨⟨by decide +kernel, by decide +kernel⟩, List.mem_of_getElem? (i := 529) (by decide +kernel), List.mem_of_getElem? (i := 709) (by decide +kernel), List.mem_of_getElem? (i := 710) (by decide +kernel)⟩
theorem lw_p23 : lw_okq (⟨"DelayMachineModel", "row", "()I"⟩, 47) := ⟨⟨by decide +kernel, by decide +kernel⟩, List.mem_of_getElem? (i := 529) (by decide +kernel), List.mem_of_getElem? (i := 719) (by decide +kernel), List.mem_of_getElem? (i := 720) (by decide +kernel)⟩
theorem lw_p24 : lw_okq (⟨"DelayMachineModel", "current", "()I"⟩, 47) := ⟨⟨by decide +kernel, by decide +kernel⟩, List.mem_of_getElem? (i := 529) (by decide +kernel), List.mem_of_getElem? (i := 723) (by decide +kernel), List.mem_of_getElem? (i := 724) (by decide +kernel)⟩
theorem lw_p25 : lw_okq (⟨"DelayMachineModel", "get", "(I)S"⟩, 47) := ⟨⟨by decide +kernel, by decide +kernel⟩, List.mem_of_getElem? (i := 529) (by decide +kernel), List.mem_of_getElem? (i := 727) (by decide +kernel), List.mem_of_getElem? (i := 728) (by decide +kernel)⟩
theorem lw_p26 : lw_okq (⟨"DelayMachineModel", "put", "(IS)V"⟩, 47) := ⟨⟨by decide +kernel, by decide +kernel⟩, List.mem_of_getElem? (i := 529) (by decide +kernel), List.mem_of_getElem? (i := 731) (by decide +kernel), List.mem_of_getElem? (i := 732) (by decide +kernel)⟩
theorem lw_p27 : lw_okq (⟨"DelayMachineModel", "discriminate", "(Z)V"⟩, 47) := ⟨⟨by decide +kernel, by decide +kernel⟩, List.mem_of_getElem? (i := 529) (by decide +kernel), List.mem_of_getElem? (i := 735) (by decide +kernel), List.mem_of_getElem? (i := 736) (by decide +kernel)⟩
theorem lw_p28 : lw_okq (⟨"DelayMachineModel", "feed", "()V"⟩, 47) := ⟨⟨by decide +kernel, by decide +kernel⟩, List.mem_of_getElem? (i := 529) (by decide +kernel), List.mem_of_getElem? (i := 739) (by decide +kernel), List.mem_of_getElem? (i := 740) (by decide +kernel)⟩
theorem lw_p29 : lw_okq (⟨"DelayMachineModel", "fail", "(I)V"⟩, 47) := ⟨⟨by decide +kernel, by decide +kernel⟩, List.mem_of_getElem? (i := 529) (by decide +kernel), List.mem_of_getElem? (i := 743) (by decide +kernel), List.mem_of_getElem? (i := 744) (by decide +kernel)⟩
theorem lw_p30 : lw_okq (⟨"DelayMachineModel", "press", "(S)V"⟩, 47) := ⟨⟨by decide +kernel, by decide +kernel⟩, List.mem_of_getElem? (i := 529) (by decide +kernel), List.mem_of_getElem? (i := 747) (by decide +kernel), List.mem_of_getElem? (i := 748) (by decide +kernel)⟩
theorem lw_p31 : lw_okq (⟨"DelayMachineModel", "multiply", "()V"⟩, 47) := ⟨⟨by decide +kernel, by decide +kernel⟩, List.mem_of_getElem? (i := 529) (by decide +kernel), List.mem_of_getElem? (i := 751) (by decide +kernel), List.mem_of_getElem? (i := 752) (by decide +kernel)⟩
def lw_privs_2 : List (MethodName × Nat) := [(⟨"DelayMachine$Placing", "placeFork", "(I)V"⟩, 9), (⟨"DelayMachine$Placing", "forkSpot", "()I"⟩, 9), (⟨"DelayMachine$Placing", "placeStop", "()V"⟩, 9), (⟨"DelayMachine$Placing", "leadBranches", "(LDelayMachine$Program;)V"⟩, 9), (⟨"DelayMachine$Placing", "fillWithStops", "()V"⟩, 9), (⟨"DelayMachineModel", "cycle", "()V"⟩, 47), (⟨"DelayMachineModel", "read", "()V"⟩, 47), (⟨"DelayMachineModel", "row", "()I"⟩, 47), (⟨"DelayMachineModel", "current", "()I"⟩, 47), (⟨"DelayMachineModel", "get", "(I)S"⟩, 47), (⟨"DelayMachineModel", "put", "(IS)V"⟩, 47), (⟨"DelayMachineModel", "discriminate", "(Z)V"⟩, 47), (⟨"DelayMachineModel", "feed", "()V"⟩, 47), (⟨"DelayMachineModel", "fail", "(I)V"⟩, 47), (⟨"DelayMachineModel", "press", "(S)V"⟩, 47), (⟨"DelayMachineModel", "multiply", "()V"⟩, 47)]
theorem lw_r2 : ∀ q ∈ lw_privs_2, lw_okq q := List.forall_mem_cons.mpr ⟨lw_p16, List.forall_mem_cons.mpr ⟨lw_p17, List.forall_mem_cons.mpr ⟨lw_p18, List.forall_mem_cons.mpr ⟨lw_p19, List.forall_mem_cons.mpr ⟨lw_p20, List.forall_mem_cons.mpr ⟨lw_p21, List.forall_mem_cons.mpr ⟨lw_p22, List.forall_mem_cons.mpr ⟨lw_p23, List.forall_mem_cons.mpr ⟨lw_p24, List.forall_mem_cons.mpr ⟨lw_p25, List.forall_mem_cons.mpr ⟨lw_p26, List.forall_mem_cons.mpr ⟨lw_p27, List.forall_mem_cons.mpr ⟨lw_p28, List.forall_mem_cons.mpr ⟨lw_p29, List.forall_mem_cons.mpr ⟨lw_p30, List.forall_mem_cons.mpr ⟨lw_p31, fun _ h => absurd h List.not_mem_nil⟩⟩⟩⟩⟩⟩⟩⟩⟩⟩⟩⟩⟩⟩⟩⟩
theorem lw_p32 : lw_okq (⟨"DelayMachineModel", "listAll", "()V"⟩, 47) := ⟨⟨by decide +kernel, by decide +kernel⟩, List.mem_of_getElem? (i := 529) (by decide +kernel), List.mem_of_getElem? (i := 787) (by decide +kernel), List.mem_of_getElem? (i := 788) (by decide +kernel)⟩
theorem lw_p33 : lw_okq (⟨"DelayMachineModel", "list", "(IIII)V"⟩, 47) := ⟨⟨by decide +kernel, by decide +kernel⟩, List.mem_of_getElem? (i := 529) (by decide +kernel), List.mem_of_getElem? (i := 791) (by decide +kernel), List.mem_of_getElem? (i := 792) (by decide +kernel)⟩
theorem lw_p34 : lw_okq (⟨"DelayMachineModel", "place", "()Z"⟩, 47) := ⟨⟨by decide +kernel, by decide +kernel⟩, List.mem_of_getElem? (i := 529) (by decide +kernel), List.mem_of_getElem? (i := 795) (by decide +kernel), List.mem_of_getElem? (i := 796) (by decide +kernel)⟩
theorem lw_p35 : lw_okq (⟨"DelayMachineModel", "free", "(IZ)I"⟩, 47) := ⟨⟨by decide +kernel, by decide +kernel⟩, List.mem_of_getElem? (i := 529) (by decide +kernel), List.mem_of_getElem? (i := 799) (by decide +kernel), List.mem_of_getElem? (i := 800) (by decide +kernel)⟩
theorem lw_p36 : lw_okq (⟨"DelayMachineModel", "variableFrom", "(II)I"⟩, 47) := ⟨⟨by decide +kernel, by decide +kernel⟩, List.mem_of_getElem? (i := 529) (by decide +kernel), List.mem_of_getElem? (i := 803) (by decide +kernel), List.mem_of_getElem? (i := 804) (by decide +kernel)⟩
theorem lw_p37 : lw_okq (⟨"DelayMachineModel", "write", "(I)V"⟩, 47) := ⟨⟨by decide +kernel, by decide +kernel⟩, List.mem_of_getElem? (i := 529) (by decide +kernel), List.mem_of_getElem? (i := 808) (by decide +kernel), List.mem_of_getElem? (i := 809) (by decide +kernel)⟩
theorem lw_p38 : lw_okq (⟨"DelayMachineModel", "isSecond", "(I)Z"⟩, 47) := ⟨⟨by decide +kernel, by decide +kernel⟩, List.mem_of_getElem? (i := 529) (by decide +kernel), List.mem_of_getElem? (i := 812) (by decide +kernel), List.mem_of_getElem? (i := 813) (by decide +kernel)⟩
theorem lw_p39 : lw_okq (⟨"DelayMachineModel", "firstOf", "(I)I"⟩, 47) := ⟨⟨by decide +kernel, by decide +kernel⟩, List.mem_of_getElem? (i := 529) (by decide +kernel), List.mem_of_getElem? (i := 816) (by decide +kernel), List.mem_of_getElem? (i := 817) (by decide +kernel)⟩
def lw_privs_3 : List (MethodName × Nat) := [(⟨"DelayMachineModel", "listAll", "()V"⟩, 47), (⟨"DelayMachineModel", "list", "(IIII)V"⟩, 47), (⟨"DelayMachineModel", "place", "()Z"⟩, 47), (⟨"DelayMachineModel", "free", "(IZ)I"⟩, 47), (⟨"DelayMachineModel", "variableFrom", "(II)I"⟩, 47), (⟨"DelayMachineModel", "write", "(I)V"⟩, 47), (⟨"DelayMachineModel", "isSecond", "(I)Z"⟩, 47), (⟨"DelayMachineModel", "firstOf", "(I)I"⟩, 47)]
theorem lw_r3 : ∀ q ∈ lw_privs_3, lw_okq q := List.forall_mem_cons.mpr ⟨lw_p32, List.forall_mem_cons.mpr ⟨lw_p33, List.forall_mem_cons.mpr ⟨lw_p34, List.forall_mem_cons.mpr ⟨lw_p35, List.forall_mem_cons.mpr ⟨lw_p36, List.forall_mem_cons.mpr ⟨lw_p37, List.forall_mem_cons.mpr ⟨lw_p38, List.forall_mem_cons.mpr ⟨lw_p39, fun _ h => absurd h List.not_mem_nil⟩⟩⟩⟩⟩⟩⟩⟩
def lw_privs : List (MethodName × Nat) := lw_privs_1 ++ (lw_privs_2 ++ (lw_privs_3))
def lw_tbl : List Cond := k2_sels lw_privs ++ tables_1
theorem lw_privs_ok : ∀ q ∈ lw_privs, lw_okq q := by
  show ∀ q ∈ lw_privs_1 ++ (lw_privs_2 ++ (lw_privs_3)), lw_okq q
  exact List.forall_mem_append.mpr ⟨lw_r1, List.forall_mem_append.mpr ⟨lw_r2, lw_r3⟩⟩
/-- the words that a call hands on -/
def lw_g : List Cond := k2_sels lw_privs ++ tables_1.filter goodWord
theorem lw_sub : ∀ w ∈ lw_g, w ∈ lw_tbl := fun w h => (List.mem_append.mp h).elim (fun h => List.mem_append_left _ h) (fun h => List.mem_append_right _ (List.mem_filter.mp h).1)
theorem lw_good : ∀ w ∈ lw_g, (w.onTables && w.keeps) = true ∨ ∃ ty, w = .arrayClass ty := fun w h => good_of_word ((List.mem_append.mp h).elim (fun h => List.all_eq_true.mp (show (k2_sels lw_privs).all goodWord = true by decide +kernel) w h) (fun h => (List.mem_filter.mp h).2))
/-- links to nest mates: they go from state to state on their own -/
def lw_nst : List Cond := [(Jvm.Cond.fieldLinkNest "DelayMachine" (61 : Nat) "DelayMachine$Store" "orders" "[I" "DelayMachine"), (Jvm.Cond.fieldLinkNest "DelayMachine$Machine" (96 : Nat) "DelayMachine$Store" "orders" "[I" "DelayMachine"), (Jvm.Cond.fieldLinkNest "DelayMachine" (68 : Nat) "DelayMachine$Store" "words" "[S" "DelayMachine"), (Jvm.Cond.fieldLinkNest "DelayMachine$Multiplier" (31 : Nat) "DelayMachine$Store" "words" "[S" "DelayMachine"), (Jvm.Cond.fieldLinkNest "DelayMachine$Machine" (127 : Nat) "DelayMachine$Store" "words" "[S" "DelayMachine"), (Jvm.Cond.fieldLinkNest "DelayMachine" (119 : Nat) "DelayMachine$Punch" "rows" "[S" "DelayMachine"), (Jvm.Cond.fieldLinkNest "DelayMachine" (107 : Nat) "DelayMachine$Punch" "count" "I" "DelayMachine"), (Jvm.Cond.methodLinkNest "DelayMachine$Machine" (25 : Nat) ({ cls := "DelayMachine$Multiplier", name := "<init>", desc := "()V" } : Jvm.MethodName) "DelayMachine"), (Jvm.Cond.fieldLinkNest "DelayMachine" (114 : Nat) "DelayMachine$Multiplier" "left" "I" "DelayMachine"), (Jvm.Cond.methodLinkNest "DelayMachine$Machine" (32 : Nat) ({ cls := "DelayMachine$Window", name := "<init>", desc := "()V" } : Jvm.MethodName) "DelayMachine"), (Jvm.Cond.fieldLinkNest "DelayMachine$Machine" (109 : Nat) "DelayMachine$Window" "source" "I" "DelayMachine"), (Jvm.Cond.fieldLinkNest "DelayMachine$Machine" (116 : Nat) "DelayMachine$Window" "destination" "I" "DelayMachine"), (Jvm.Cond.fieldLinkNest "DelayMachine$Machine" (106 : Nat) "DelayMachine$Window" "leave" "I" "DelayMachine"), (Jvm.Cond.fieldLinkNest "DelayMachine" (110 : Nat) "DelayMachine$Machine" "multiplier" "LDelayMachine$Multiplier;" "DelayMachine"), (Jvm.Cond.fieldLinkNest "DelayMachine" (80 : Nat) "DelayMachine$Machine" "going" "Z" "DelayMachine"), (Jvm.Cond.fieldLinkNest "DelayMachine" (87 : Nat) "DelayMachine$Machine" "fault" "I" "DelayMachine"), (Jvm.Cond.fieldLinkNest "DelayMachine" (91 : Nat) "DelayMachine$Machine" "now" "I" "DelayMachine"), (Jvm.Cond.fieldLinkNest "DelayMachine" (94 : Nat) "DelayMachine$Machine" "latestLine" "I" "DelayMachine"), (Jvm.Cond.fieldLinkNest "DelayMachine" (97 : Nat) "DelayMachine$Machine" "latestPlace" "I" "DelayMachine"), (Jvm.Cond.fieldLinkNest "DelayMachine" (100 : Nat) "DelayMachine$Machine" "ordersTaken" "I" "DelayMachine"), (Jvm.Cond.fieldLinkNest "DelayMachine$Placing" (81 : Nat) "DelayMachine$Program" "operations" "[I" "DelayMachine"), (Jvm.Cond.fieldLinkNest "DelayMachine$Placing" (75 : Nat) "DelayMachine$Program" "as" "[I" "DelayMachine"), (Jvm.Cond.fieldLinkNest "DelayMachine$Placing" (88 : Nat) "DelayMachine$Program" "bs" "[I" "DelayMachine"), (Jvm.Cond.fieldLinkNest "DelayMachine$Placing" (78 : Nat) "DelayMachine$Program" "cs" "[I" "DelayMachine"), (Jvm.Cond.fieldLinkNest "DelayMachine$Placing" (114 : Nat) "DelayMachine$Program" "gotos" "[I" "DelayMachine"), (Jvm.Cond.fieldLinkNest "DelayMachine$Placing" (36 : Nat) "DelayMachine$Program" "count" "I" "DelayMachine"), (Jvm.Cond.fieldLinkNest "DelayMachine" (126 : Nat) "DelayMachine$Program" "count" "I" "DelayMachine"), (Jvm.Cond.fieldLinkNest "DelayMachine" (135 : Nat) "DelayMachine$Placing" "orders" "[I" "DelayMachine"), (Jvm.Cond.fieldLinkNest "DelayMachine" (150 : Nat) "DelayMachine$Placing" "variables" "[I" "DelayMachine"), (Jvm.Cond.fieldLinkNest "DelayMachine" (143 : Nat) "DelayMachine$Placing" "firsts" "[I" "DelayMachine"), (Jvm.Cond.fieldLinkNest "DelayMachine" (142 : Nat) "DelayMachine$Placing" "count" "I" "DelayMachine")]
theorem lw_nstT : ∀ w ∈ lw_nst, w ∈ lw_tbl := List.forall_mem_cons.mpr ⟨List.mem_append_right _ (List.mem_of_getElem? (i := 28) (by decide +kernel)), List.forall_mem_cons.mpr ⟨List.mem_append_right _ (List.mem_of_getElem? (i := 29) (by decide +kernel)), List.forall_mem_cons.mpr ⟨List.mem_append_right _ (List.mem_of_getElem? (i := 31) (by decide +kernel)), List.forall_mem_cons.mpr ⟨List.mem_append_right _ (List.mem_of_getElem? (i := 32) (by decide +kernel)), List.forall_mem_cons.mpr ⟨List.mem_append_right _ (List.mem_of_getElem? (i := 33) (by decide +kernel)), List.forall_mem_cons.mpr ⟨List.mem_append_right _ (List.mem_of_getElem? (i := 73) (by decide +kernel)), List.forall_mem_cons.mpr ⟨List.mem_append_right _ (List.mem_of_getElem? (i := 75) (by decide +kernel)), List.forall_mem_cons.mpr ⟨List.mem_append_right _ (List.mem_of_getElem? (i := 92) (by decide +kernel)), List.forall_mem_cons.mpr ⟨List.mem_append_right _ (List.mem_of_getElem? (i := 98) (by decide +kernel)), List.forall_mem_cons.mpr ⟨List.mem_append_right _ (List.mem_of_getElem? (i := 109) (by decide +kernel)), List.forall_mem_cons.mpr ⟨List.mem_append_right _ (List.mem_of_getElem? (i := 114) (by decide +kernel)), List.forall_mem_cons.mpr ⟨List.mem_append_right _ (List.mem_of_getElem? (i := 116) (by decide +kernel)), List.forall_mem_cons.mpr ⟨List.mem_append_right _ (List.mem_of_getElem? (i := 120) (by decide +kernel)), List.forall_mem_cons.mpr ⟨List.mem_append_right _ (List.mem_of_getElem? (i := 136) (by decide +kernel)), List.forall_mem_cons.mpr ⟨List.mem_append_right _ (List.mem_of_getElem? (i := 140) (by decide +kernel)), List.forall_mem_cons.mpr ⟨List.mem_append_right _ (List.mem_of_getElem? (i := 142) (by decide +kernel)), List.forall_mem_cons.mpr ⟨List.mem_append_right _ (List.mem_of_getElem? (i := 144) (by decide +kernel)), List.forall_mem_cons.mpr ⟨List.mem_append_right _ (List.mem_of_getElem? (i := 148) (by decide +kernel)), List.forall_mem_cons.mpr ⟨List.mem_append_right _ (List.mem_of_getElem? (i := 150) (by decide +kernel)), List.forall_mem_cons.mpr ⟨List.mem_append_right _ (List.mem_of_getElem? (i := 152) (by decide +kernel)), List.forall_mem_cons.mpr ⟨List.mem_append_right _ (List.mem_of_getElem? (i := 189) (by decide +kernel)), List.forall_mem_cons.mpr ⟨List.mem_append_right _ (List.mem_of_getElem? (i := 191) (by decide +kernel)), List.forall_mem_cons.mpr ⟨List.mem_append_right _ (List.mem_of_getElem? (i := 193) (by decide +kernel)), List.forall_mem_cons.mpr ⟨List.mem_append_right _ (List.mem_of_getElem? (i := 195) (by decide +kernel)), List.forall_mem_cons.mpr ⟨List.mem_append_right _ (List.mem_of_getElem? (i := 197) (by decide +kernel)), List.forall_mem_cons.mpr ⟨List.mem_append_right _ (List.mem_of_getElem? (i := 198) (by decide +kernel)), List.forall_mem_cons.mpr ⟨List.mem_append_right _ (List.mem_of_getElem? (i := 200) (by decide +kernel)), List.forall_mem_cons.mpr ⟨List.mem_append_right _ (List.mem_of_getElem? (i := 224) (by decide +kernel)), List.forall_mem_cons.mpr ⟨List.mem_append_right _ (List.mem_of_getElem? (i := 227) (by decide +kernel)), List.forall_mem_cons.mpr ⟨List.mem_append_right _ (List.mem_of_getElem? (i := 229) (by decide +kernel)), List.forall_mem_cons.mpr ⟨List.mem_append_right _ (List.mem_of_getElem? (i := 234) (by decide +kernel)), fun _ h => by cases h⟩⟩⟩⟩⟩⟩⟩⟩⟩⟩⟩⟩⟩⟩⟩⟩⟩⟩⟩⟩⟩⟩⟩⟩⟩⟩⟩⟩⟩⟩⟩
theorem lw_nstK : ∀ w ∈ lw_nst, (∃ a i b n d h, w = .fieldLinkNest a i b n d h) ∨ ∃ a i x h, w = .methodLinkNest a i x h := List.forall_mem_cons.mpr ⟨Or.inl ⟨_, _, _, _, _, _, rfl⟩, List.forall_mem_cons.mpr ⟨Or.inl ⟨_, _, _, _, _, _, rfl⟩, List.forall_mem_cons.mpr ⟨Or.inl ⟨_, _, _, _, _, _, rfl⟩, List.forall_mem_cons.mpr ⟨Or.inl ⟨_, _, _, _, _, _, rfl⟩, List.forall_mem_cons.mpr ⟨Or.inl ⟨_, _, _, _, _, _, rfl⟩, List.forall_mem_cons.mpr ⟨Or.inl ⟨_, _, _, _, _, _, rfl⟩, List.forall_mem_cons.mpr ⟨Or.inl ⟨_, _, _, _, _, _, rfl⟩, List.forall_mem_cons.mpr ⟨Or.inr ⟨_, _, _, _, rfl⟩, List.forall_mem_cons.mpr ⟨Or.inl ⟨_, _, _, _, _, _, rfl⟩, List.forall_mem_cons.mpr ⟨Or.inr ⟨_, _, _, _, rfl⟩, List.forall_mem_cons.mpr ⟨Or.inl ⟨_, _, _, _, _, _, rfl⟩, List.forall_mem_cons.mpr ⟨Or.inl ⟨_, _, _, _, _, _, rfl⟩, List.forall_mem_cons.mpr ⟨Or.inl ⟨_, _, _, _, _, _, rfl⟩, List.forall_mem_cons.mpr ⟨Or.inl ⟨_, _, _, _, _, _, rfl⟩, List.forall_mem_cons.mpr ⟨Or.inl ⟨_, _, _, _, _, _, rfl⟩, List.forall_mem_cons.mpr ⟨Or.inl ⟨_, _, _, _, _, _, rfl⟩, List.forall_mem_cons.mpr ⟨Or.inl ⟨_, _, _, _, _, _, rfl⟩, List.forall_mem_cons.mpr ⟨Or.inl ⟨_, _, _, _, _, _, rfl⟩, List.forall_mem_cons.mpr ⟨Or.inl ⟨_, _, _, _, _, _, rfl⟩, List.forall_mem_cons.mpr ⟨Or.inl ⟨_, _, _, _, _, _, rfl⟩, List.forall_mem_cons.mpr ⟨Or.inl ⟨_, _, _, _, _, _, rfl⟩, List.forall_mem_cons.mpr ⟨Or.inl ⟨_, _, _, _, _, _, rfl⟩, List.forall_mem_cons.mpr ⟨Or.inl ⟨_, _, _, _, _, _, rfl⟩, List.forall_mem_cons.mpr ⟨Or.inl ⟨_, _, _, _, _, _, rfl⟩, List.forall_mem_cons.mpr ⟨Or.inl ⟨_, _, _, _, _, _, rfl⟩, List.forall_mem_cons.mpr ⟨Or.inl ⟨_, _, _, _, _, _, rfl⟩, List.forall_mem_cons.mpr ⟨Or.inl ⟨_, _, _, _, _, _, rfl⟩, List.forall_mem_cons.mpr ⟨Or.inl ⟨_, _, _, _, _, _, rfl⟩, List.forall_mem_cons.mpr ⟨Or.inl ⟨_, _, _, _, _, _, rfl⟩, List.forall_mem_cons.mpr ⟨Or.inl ⟨_, _, _, _, _, _, rfl⟩, List.forall_mem_cons.mpr ⟨Or.inl ⟨_, _, _, _, _, _, rfl⟩, fun _ h => by cases h⟩⟩⟩⟩⟩⟩⟩⟩⟩⟩⟩⟩⟩⟩⟩⟩⟩⟩⟩⟩⟩⟩⟩⟩⟩⟩⟩⟩⟩⟩⟩
theorem tw_1 : (Jvm.Cond.initialized "DelayMachine") ∈ lw_g := List.mem_append_right _ (List.mem_filter.mpr ⟨List.mem_of_getElem? (i := 1) (by decide +kernel), rfl⟩)
theorem tw_2 : (Jvm.Cond.initialized "DelayMachine$Store") ∈ lw_g := List.mem_append_right _ (List.mem_filter.mpr ⟨List.mem_of_getElem? (i := 2) (by decide +kernel), rfl⟩)
theorem tw_3 : (Jvm.Cond.initialized "DelayMachine$Reader") ∈ lw_g := List.mem_append_right _ (List.mem_filter.mpr ⟨List.mem_of_getElem? (i := 3) (by decide +kernel), rfl⟩)
theorem tw_4 : (Jvm.Cond.initialized "DelayMachine$Punch") ∈ lw_g := List.mem_append_right _ (List.mem_filter.mpr ⟨List.mem_of_getElem? (i := 4) (by decide +kernel), rfl⟩)
theorem tw_5 : (Jvm.Cond.initialized "DelayMachine$Machine") ∈ lw_g := List.mem_append_right _ (List.mem_filter.mpr ⟨List.mem_of_getElem? (i := 5) (by decide +kernel), rfl⟩)
theorem tw_6 : (Jvm.Cond.initialized "DelayMachine$Multiplier") ∈ lw_g := List.mem_append_right _ (List.mem_filter.mpr ⟨List.mem_of_getElem? (i := 6) (by decide +kernel), rfl⟩)
theorem tw_7 : (Jvm.Cond.initialized "DelayMachine$Window") ∈ lw_g := List.mem_append_right _ (List.mem_filter.mpr ⟨List.mem_of_getElem? (i := 7) (by decide +kernel), rfl⟩)
theorem tw_8 : (Jvm.Cond.initialized "DelayMachine$Program") ∈ lw_g := List.mem_append_right _ (List.mem_filter.mpr ⟨List.mem_of_getElem? (i := 8) (by decide +kernel), rfl⟩)
theorem tw_9 : (Jvm.Cond.initialized "DelayMachine$Placing") ∈ lw_g := List.mem_append_right _ (List.mem_filter.mpr ⟨List.mem_of_getElem? (i := 9) (by decide +kernel), rfl⟩)
theorem tw_10 : (Jvm.Cond.initialized "java/util/Arrays") ∈ lw_g := List.mem_append_right _ (List.mem_filter.mpr ⟨List.mem_of_getElem? (i := 10) (by decide +kernel), rfl⟩)
theorem tw_11 : (Jvm.Cond.initialized "DelayMachineModel") ∈ lw_g := List.mem_append_right _ (List.mem_filter.mpr ⟨List.mem_of_getElem? (i := 11) (by decide +kernel), rfl⟩)
theorem tw_12 : (Jvm.Cond.initialized "java/lang/System") ∈ lw_g := List.mem_append_right _ (List.mem_filter.mpr ⟨List.mem_of_getElem? (i := 12) (by decide +kernel), rfl⟩)
theorem tw_13 : (Jvm.Cond.classLink "DelayMachineLaw" (7 : Nat) "DelayMachine") ∈ lw_g := List.mem_append_right _ (List.mem_filter.mpr ⟨List.mem_of_getElem? (i := 13) (by decide +kernel), rfl⟩)
theorem tw_14 : (Jvm.Cond.instantiable "DelayMachine" (7 : Nat)) ∈ lw_g := List.mem_append_right _ (List.mem_filter.mpr ⟨List.mem_of_getElem? (i := 14) (by decide +kernel), rfl⟩)
theorem tw_15 : (Jvm.Cond.methodLink "DelayMachineLaw" (9 : Nat) ({ cls := "DelayMachine", name := "<init>", desc := "()V" } : Jvm.MethodName)) ∈ lw_g := List.mem_append_right _ (List.mem_filter.mpr ⟨List.mem_of_getElem? (i := 15) (by decide +kernel), rfl⟩)
theorem tw_16 : (Jvm.Cond.instanceMethod ({ cls := "DelayMachine", name := "<init>", desc := "()V" } : Jvm.MethodName)) ∈ lw_g := List.mem_append_right _ (List.mem_filter.mpr ⟨List.mem_of_getElem? (i := 16) (by decide +kernel), rfl⟩)
theorem tw_17 : (Jvm.Cond.code ({ cls := "DelayMachine", name := "<init>", desc := "()V" } : Jvm.MethodName) prog_1_method_1_code (1 : Nat) (Option.none : Option Jvm.ClassFile.FieldType)) ∈ lw_g := List.mem_append_right _ (List.mem_filter.mpr ⟨List.mem_of_getElem? (i := 17) (by decide +kernel), rfl⟩)
theorem tw_18 : (Jvm.Cond.methodLink "DelayMachine" (3 : Nat) ({ cls := "java/lang/Object", name := "<init>", desc := "()V" } : Jvm.MethodName)) ∈ lw_g := List.mem_append_right _ (List.mem_filter.mpr ⟨List.mem_of_getElem? (i := 18) (by decide +kernel), rfl⟩)
theorem tw_19 : (Jvm.Cond.instanceMethod ({ cls := "java/lang/Object", name := "<init>", desc := "()V" } : Jvm.MethodName)) ∈ lw_g := List.mem_append_right _ (List.mem_filter.mpr ⟨List.mem_of_getElem? (i := 19) (by decide +kernel), rfl⟩)
theorem tw_20 : (Jvm.Cond.code ({ cls := "java/lang/Object", name := "<init>", desc := "()V" } : Jvm.MethodName) object_method_1_code (1 : Nat) (Option.none : Option Jvm.ClassFile.FieldType)) ∈ lw_g := List.mem_append_right _ (List.mem_filter.mpr ⟨List.mem_of_getElem? (i := 20) (by decide +kernel), rfl⟩)
theorem tw_21 : (Jvm.Cond.classLink "DelayMachine" (9 : Nat) "DelayMachine$Store") ∈ lw_g := List.mem_append_right _ (List.mem_filter.mpr ⟨List.mem_of_getElem? (i := 21) (by decide +kernel), rfl⟩)
theorem tw_22 : (Jvm.Cond.instantiable "DelayMachine$Store" (2 : Nat)) ∈ lw_g := List.mem_append_right _ (List.mem_filter.mpr ⟨List.mem_of_getElem? (i := 22) (by decide +kernel), rfl⟩)
theorem tw_23 : (Jvm.Cond.methodLink "DelayMachine" (11 : Nat) ({ cls := "DelayMachine$Store", name := "<init>", desc := "()V" } : Jvm.MethodName)) ∈ lw_g := List.mem_append_right _ (List.mem_filter.mpr ⟨List.mem_of_getElem? (i := 23) (by decide +kernel), rfl⟩)
theorem tw_24 : (Jvm.Cond.instanceMethod ({ cls := "DelayMachine$Store", name := "<init>", desc := "()V" } : Jvm.MethodName)) ∈ lw_g := List.mem_append_right _ (List.mem_filter.mpr ⟨List.mem_of_getElem? (i := 24) (by decide +kernel), rfl⟩)
theorem tw_25 : (Jvm.Cond.code ({ cls := "DelayMachine$Store", name := "<init>", desc := "()V" } : Jvm.MethodName) prog_8_method_1_code (1 : Nat) (Option.none : Option Jvm.ClassFile.FieldType)) ∈ lw_g := List.mem_append_right _ (List.mem_filter.mpr ⟨List.mem_of_getElem? (i := 25) (by decide +kernel), rfl⟩)
theorem tw_26 : (Jvm.Cond.methodLink "DelayMachine$Store" (3 : Nat) ({ cls := "java/lang/Object", name := "<init>", desc := "()V" } : Jvm.MethodName)) ∈ lw_g := List.mem_append_right _ (List.mem_filter.mpr ⟨List.mem_of_getElem? (i := 26) (by decide +kernel), rfl⟩)
theorem tw_27 : (Jvm.Cond.fieldLink "DelayMachine$Store" (9 : Nat) "DelayMachine$Store" "orders" "[I") ∈ lw_g := List.mem_append_right _ (List.mem_filter.mpr ⟨List.mem_of_getElem? (i := 27) (by decide +kernel), rfl⟩)
theorem tw_30 : (Jvm.Cond.fieldLink "DelayMachine$Store" (15 : Nat) "DelayMachine$Store" "words" "[S") ∈ lw_g := List.mem_append_right _ (List.mem_filter.mpr ⟨List.mem_of_getElem? (i := 30) (by decide +kernel), rfl⟩)
theorem tw_39 : (Jvm.Cond.arrayClass Jvm.ClassFile.FieldType.int) ∈ lw_g := List.mem_append_right _ (List.mem_filter.mpr ⟨List.mem_of_getElem? (i := 39) (by decide +kernel), rfl⟩)
theorem tw_40 : (Jvm.Cond.arrayClass Jvm.ClassFile.FieldType.short) ∈ lw_g := List.mem_append_right _ (List.mem_filter.mpr ⟨List.mem_of_getElem? (i := 40) (by decide +kernel), rfl⟩)
theorem tw_41 : (Jvm.Cond.classLink "DelayMachine" (16 : Nat) "DelayMachine$Reader") ∈ lw_g := List.mem_append_right _ (List.mem_filter.mpr ⟨List.mem_of_getElem? (i := 41) (by decide +kernel), rfl⟩)
theorem tw_42 : (Jvm.Cond.instantiable "DelayMachine$Reader" (6 : Nat)) ∈ lw_g := List.mem_append_right _ (List.mem_filter.mpr ⟨List.mem_of_getElem? (i := 42) (by decide +kernel), rfl⟩)
theorem tw_43 : (Jvm.Cond.methodLink "DelayMachine" (18 : Nat) ({ cls := "DelayMachine$Reader", name := "<init>", desc := "()V" } : Jvm.MethodName)) ∈ lw_g := List.mem_append_right _ (List.mem_filter.mpr ⟨List.mem_of_getElem? (i := 43) (by decide +kernel), rfl⟩)
theorem tw_44 : (Jvm.Cond.instanceMethod ({ cls := "DelayMachine$Reader", name := "<init>", desc := "()V" } : Jvm.MethodName)) ∈ lw_g := List.mem_append_right _ (List.mem_filter.mpr ⟨List.mem_of_getElem? (i := 44) (by decide +kernel), rfl⟩)
theorem tw_45 : (Jvm.Cond.code ({ cls := "DelayMachine$Reader", name := "<init>", desc := "()V" } : Jvm.MethodName) prog_7_method_1_code (1 : Nat) (Option.none : Option Jvm.ClassFile.FieldType)) ∈ lw_g := List.mem_append_right _ (List.mem_filter.mpr ⟨List.mem_of_getElem? (i := 45) (by decide +kernel), rfl⟩)
theorem tw_46 : (Jvm.Cond.methodLink "DelayMachine$Reader" (5 : Nat) ({ cls := "java/lang/Object", name := "<init>", desc := "()V" } : Jvm.MethodName)) ∈ lw_g := List.mem_append_right _ (List.mem_filter.mpr ⟨List.mem_of_getElem? (i := 46) (by decide +kernel), rfl⟩)
theorem tw_47 : (Jvm.Cond.fieldLink "DelayMachine$Reader" (11 : Nat) "DelayMachine$Reader" "deck" "[S") ∈ lw_g := List.mem_append_right _ (List.mem_filter.mpr ⟨List.mem_of_getElem? (i := 47) (by decide +kernel), rfl⟩)
theorem tw_48 : (Jvm.Cond.fieldLink "DelayMachine$Reader" (15 : Nat) "DelayMachine$Reader" "came" "I") ∈ lw_g := List.mem_append_right _ (List.mem_filter.mpr ⟨List.mem_of_getElem? (i := 48) (by decide +kernel), rfl⟩)
theorem tw_49 : (Jvm.Cond.fieldLink "DelayMachine$Reader" (19 : Nat) "DelayMachine$Reader" "taken" "I") ∈ lw_g := List.mem_append_right _ (List.mem_filter.mpr ⟨List.mem_of_getElem? (i := 49) (by decide +kernel), rfl⟩)
theorem tw_50 : (Jvm.Cond.fieldLink "DelayMachine$Reader" (22 : Nat) "DelayMachine$Reader" "cardPasses" "Z") ∈ lw_g := List.mem_append_right _ (List.mem_filter.mpr ⟨List.mem_of_getElem? (i := 50) (by decide +kernel), rfl⟩)
theorem tw_51 : (Jvm.Cond.fieldLink "DelayMachine$Reader" (33 : Nat) "DelayMachine$Reader" "fedAt" "I") ∈ lw_g := List.mem_append_right _ (List.mem_filter.mpr ⟨List.mem_of_getElem? (i := 51) (by decide +kernel), rfl⟩)
theorem tw_52 : (Jvm.Cond.fieldLink "DelayMachine$Reader" (26 : Nat) "DelayMachine$Reader" "rowMoved" "Z") ∈ lw_g := List.mem_append_right _ (List.mem_filter.mpr ⟨List.mem_of_getElem? (i := 52) (by decide +kernel), rfl⟩)
theorem tw_66 : (Jvm.Cond.classLink "DelayMachine" (23 : Nat) "DelayMachine$Punch") ∈ lw_g := List.mem_append_right _ (List.mem_filter.mpr ⟨List.mem_of_getElem? (i := 66) (by decide +kernel), rfl⟩)
theorem tw_67 : (Jvm.Cond.instantiable "DelayMachine$Punch" (3 : Nat)) ∈ lw_g := List.mem_append_right _ (List.mem_filter.mpr ⟨List.mem_of_getElem? (i := 67) (by decide +kernel), rfl⟩)
theorem tw_68 : (Jvm.Cond.methodLink "DelayMachine" (25 : Nat) ({ cls := "DelayMachine$Punch", name := "<init>", desc := "()V" } : Jvm.MethodName)) ∈ lw_g := List.mem_append_right _ (List.mem_filter.mpr ⟨List.mem_of_getElem? (i := 68) (by decide +kernel), rfl⟩)
theorem tw_69 : (Jvm.Cond.instanceMethod ({ cls := "DelayMachine$Punch", name := "<init>", desc := "()V" } : Jvm.MethodName)) ∈ lw_g := List.mem_append_right _ (List.mem_filter.mpr ⟨List.mem_of_getElem? (i := 69) (by decide +kernel), rfl⟩)
theorem tw_70 : (Jvm.Cond.code ({ cls := "DelayMachine$Punch", name := "<init>", desc := "()V" } : Jvm.MethodName) prog_6_method_1_code (1 : Nat) (Option.none : Option Jvm.ClassFile.FieldType)) ∈ lw_g := List.mem_append_right _ (List.mem_filter.mpr ⟨List.mem_of_getElem? (i := 70) (by decide +kernel), rfl⟩)
theorem tw_71 : (Jvm.Cond.methodLink "DelayMachine$Punch" (1 : Nat) ({ cls := "java/lang/Object", name := "<init>", desc := "()V" } : Jvm.MethodName)) ∈ lw_g := List.mem_append_right _ (List.mem_filter.mpr ⟨List.mem_of_getElem? (i := 71) (by decide +kernel), rfl⟩)
theorem tw_72 : (Jvm.Cond.fieldLink "DelayMachine$Punch" (9 : Nat) "DelayMachine$Punch" "rows" "[S") ∈ lw_g := List.mem_append_right _ (List.mem_filter.mpr ⟨List.mem_of_getElem? (i := 72) (by decide +kernel), rfl⟩)
theorem tw_74 : (Jvm.Cond.fieldLink "DelayMachine$Punch" (13 : Nat) "DelayMachine$Punch" "count" "I") ∈ lw_g := List.mem_append_right _ (List.mem_filter.mpr ⟨List.mem_of_getElem? (i := 74) (by decide +kernel), rfl⟩)
theorem tw_76 : (Jvm.Cond.fieldLink "DelayMachine$Punch" (17 : Nat) "DelayMachine$Punch" "lastCycle" "I") ∈ lw_g := List.mem_append_right _ (List.mem_filter.mpr ⟨List.mem_of_getElem? (i := 76) (by decide +kernel), rfl⟩)
theorem tw_84 : (Jvm.Cond.classLink "DelayMachine" (30 : Nat) "DelayMachine$Machine") ∈ lw_g := List.mem_append_right _ (List.mem_filter.mpr ⟨List.mem_of_getElem? (i := 84) (by decide +kernel), rfl⟩)
theorem tw_85 : (Jvm.Cond.instantiable "DelayMachine$Machine" (14 : Nat)) ∈ lw_g := List.mem_append_right _ (List.mem_filter.mpr ⟨List.mem_of_getElem? (i := 85) (by decide +kernel), rfl⟩)
theorem tw_86 : (Jvm.Cond.methodLink "DelayMachine" (32 : Nat) ({ cls := "DelayMachine$Machine", name := "<init>", desc := "(LDelayMachine$Store;LDelayMachine$Reader;LDelayMachine$Punch;)V" } : Jvm.MethodName)) ∈ lw_g := List.mem_append_right _ (List.mem_filter.mpr ⟨List.mem_of_getElem? (i := 86) (by decide +kernel), rfl⟩)
theorem tw_87 : (Jvm.Cond.instanceMethod ({ cls := "DelayMachine$Machine", name := "<init>", desc := "(LDelayMachine$Store;LDelayMachine$Reader;LDelayMachine$Punch;)V" } : Jvm.MethodName)) ∈ lw_g := List.mem_append_right _ (List.mem_filter.mpr ⟨List.mem_of_getElem? (i := 87) (by decide +kernel), rfl⟩)
theorem tw_88 : (Jvm.Cond.code ({ cls := "DelayMachine$Machine", name := "<init>", desc := "(LDelayMachine$Store;LDelayMachine$Reader;LDelayMachine$Punch;)V" } : Jvm.MethodName) prog_2_method_1_code (4 : Nat) (Option.none : Option Jvm.ClassFile.FieldType)) ∈ lw_g := List.mem_append_right _ (List.mem_filter.mpr ⟨List.mem_of_getElem? (i := 88) (by decide +kernel), rfl⟩)
theorem tw_89 : (Jvm.Cond.methodLink "DelayMachine$Machine" (3 : Nat) ({ cls := "java/lang/Object", name := "<init>", desc := "()V" } : Jvm.MethodName)) ∈ lw_g := List.mem_append_right _ (List.mem_filter.mpr ⟨List.mem_of_getElem? (i := 89) (by decide +kernel), rfl⟩)
theorem tw_90 : (Jvm.Cond.classLink "DelayMachine$Machine" (23 : Nat) "DelayMachine$Multiplier") ∈ lw_g := List.mem_append_right _ (List.mem_filter.mpr ⟨List.mem_of_getElem? (i := 90) (by decide +kernel), rfl⟩)
theorem tw_91 : (Jvm.Cond.instantiable "DelayMachine$Multiplier" (3 : Nat)) ∈ lw_g := List.mem_append_right _ (List.mem_filter.mpr ⟨List.mem_of_getElem? (i := 91) (by decide +kernel), rfl⟩)
theorem tw_93 : (Jvm.Cond.instanceMethod ({ cls := "DelayMachine$Multiplier", name := "<init>", desc := "()V" } : Jvm.MethodName)) ∈ lw_g := List.mem_append_right _ (List.mem_filter.mpr ⟨List.mem_of_getElem? (i := 93) (by decide +kernel), rfl⟩)
theorem tw_94 : (Jvm.Cond.code ({ cls := "DelayMachine$Multiplier", name := "<init>", desc := "()V" } : Jvm.MethodName) prog_3_method_1_code (1 : Nat) (Option.none : Option Jvm.ClassFile.FieldType)) ∈ lw_g := List.mem_append_right _ (List.mem_filter.mpr ⟨List.mem_of_getElem? (i := 94) (by decide +kernel), rfl⟩)
theorem tw_95 : (Jvm.Cond.methodLink "DelayMachine$Multiplier" (1 : Nat) ({ cls := "java/lang/Object", name := "<init>", desc := "()V" } : Jvm.MethodName)) ∈ lw_g := List.mem_append_right _ (List.mem_filter.mpr ⟨List.mem_of_getElem? (i := 95) (by decide +kernel), rfl⟩)
theorem tw_96 : (Jvm.Cond.fieldLink "DelayMachine$Multiplier" (13 : Nat) "DelayMachine$Multiplier" "factor" "I") ∈ lw_g := List.mem_append_right _ (List.mem_filter.mpr ⟨List.mem_of_getElem? (i := 96) (by decide +kernel), rfl⟩)
theorem tw_97 : (Jvm.Cond.fieldLink "DelayMachine$Multiplier" (7 : Nat) "DelayMachine$Multiplier" "left" "I") ∈ lw_g := List.mem_append_right _ (List.mem_filter.mpr ⟨List.mem_of_getElem? (i := 97) (by decide +kernel), rfl⟩)
theorem tw_99 : (Jvm.Cond.fieldLink "DelayMachine$Multiplier" (16 : Nat) "DelayMachine$Multiplier" "fresh" "Z") ∈ lw_g := List.mem_append_right _ (List.mem_filter.mpr ⟨List.mem_of_getElem? (i := 99) (by decide +kernel), rfl⟩)
theorem tw_107 : (Jvm.Cond.classLink "DelayMachine$Machine" (30 : Nat) "DelayMachine$Window") ∈ lw_g := List.mem_append_right _ (List.mem_filter.mpr ⟨List.mem_of_getElem? (i := 107) (by decide +kernel), rfl⟩)
theorem tw_108 : (Jvm.Cond.instantiable "DelayMachine$Window" (5 : Nat)) ∈ lw_g := List.mem_append_right _ (List.mem_filter.mpr ⟨List.mem_of_getElem? (i := 108) (by decide +kernel), rfl⟩)
theorem tw_110 : (Jvm.Cond.instanceMethod ({ cls := "DelayMachine$Window", name := "<init>", desc := "()V" } : Jvm.MethodName)) ∈ lw_g := List.mem_append_right _ (List.mem_filter.mpr ⟨List.mem_of_getElem? (i := 110) (by decide +kernel), rfl⟩)
theorem tw_111 : (Jvm.Cond.code ({ cls := "DelayMachine$Window", name := "<init>", desc := "()V" } : Jvm.MethodName) prog_9_method_1_code (1 : Nat) (Option.none : Option Jvm.ClassFile.FieldType)) ∈ lw_g := List.mem_append_right _ (List.mem_filter.mpr ⟨List.mem_of_getElem? (i := 111) (by decide +kernel), rfl⟩)
theorem tw_112 : (Jvm.Cond.methodLink "DelayMachine$Window" (3 : Nat) ({ cls := "java/lang/Object", name := "<init>", desc := "()V" } : Jvm.MethodName)) ∈ lw_g := List.mem_append_right _ (List.mem_filter.mpr ⟨List.mem_of_getElem? (i := 112) (by decide +kernel), rfl⟩)
theorem tw_113 : (Jvm.Cond.fieldLink "DelayMachine$Window" (18 : Nat) "DelayMachine$Window" "source" "I") ∈ lw_g := List.mem_append_right _ (List.mem_filter.mpr ⟨List.mem_of_getElem? (i := 113) (by decide +kernel), rfl⟩)
theorem tw_115 : (Jvm.Cond.fieldLink "DelayMachine$Window" (21 : Nat) "DelayMachine$Window" "destination" "I") ∈ lw_g := List.mem_append_right _ (List.mem_filter.mpr ⟨List.mem_of_getElem? (i := 115) (by decide +kernel), rfl⟩)
theorem tw_117 : (Jvm.Cond.fieldLink "DelayMachine$Window" (9 : Nat) "DelayMachine$Window" "first" "I") ∈ lw_g := List.mem_append_right _ (List.mem_filter.mpr ⟨List.mem_of_getElem? (i := 117) (by decide +kernel), rfl⟩)
theorem tw_118 : (Jvm.Cond.fieldLink "DelayMachine$Window" (15 : Nat) "DelayMachine$Window" "last" "I") ∈ lw_g := List.mem_append_right _ (List.mem_filter.mpr ⟨List.mem_of_getElem? (i := 118) (by decide +kernel), rfl⟩)
theorem tw_119 : (Jvm.Cond.fieldLink "DelayMachine$Window" (24 : Nat) "DelayMachine$Window" "leave" "I") ∈ lw_g := List.mem_append_right _ (List.mem_filter.mpr ⟨List.mem_of_getElem? (i := 119) (by decide +kernel), rfl⟩)
theorem tw_132 : (Jvm.Cond.fieldLink "DelayMachine$Machine" (9 : Nat) "DelayMachine$Machine" "store" "LDelayMachine$Store;") ∈ lw_g := List.mem_append_right _ (List.mem_filter.mpr ⟨List.mem_of_getElem? (i := 132) (by decide +kernel), rfl⟩)
theorem tw_133 : (Jvm.Cond.fieldLink "DelayMachine$Machine" (15 : Nat) "DelayMachine$Machine" "reader" "LDelayMachine$Reader;") ∈ lw_g := List.mem_append_right _ (List.mem_filter.mpr ⟨List.mem_of_getElem? (i := 133) (by decide +kernel), rfl⟩)
theorem tw_134 : (Jvm.Cond.fieldLink "DelayMachine$Machine" (19 : Nat) "DelayMachine$Machine" "punch" "LDelayMachine$Punch;") ∈ lw_g := List.mem_append_right _ (List.mem_filter.mpr ⟨List.mem_of_getElem? (i := 134) (by decide +kernel), rfl⟩)
theorem tw_135 : (Jvm.Cond.fieldLink "DelayMachine$Machine" (26 : Nat) "DelayMachine$Machine" "multiplier" "LDelayMachine$Multiplier;") ∈ lw_g := List.mem_append_right _ (List.mem_filter.mpr ⟨List.mem_of_getElem? (i := 135) (by decide +kernel), rfl⟩)
theorem tw_137 : (Jvm.Cond.fieldLink "DelayMachine$Machine" (33 : Nat) "DelayMachine$Machine" "current" "LDelayMachine$Window;") ∈ lw_g := List.mem_append_right _ (List.mem_filter.mpr ⟨List.mem_of_getElem? (i := 137) (by decide +kernel), rfl⟩)
theorem tw_138 : (Jvm.Cond.fieldLink "DelayMachine$Machine" (37 : Nat) "DelayMachine$Machine" "before" "LDelayMachine$Window;") ∈ lw_g := List.mem_append_right _ (List.mem_filter.mpr ⟨List.mem_of_getElem? (i := 138) (by decide +kernel), rfl⟩)
theorem tw_139 : (Jvm.Cond.fieldLink "DelayMachine$Machine" (47 : Nat) "DelayMachine$Machine" "going" "Z") ∈ lw_g := List.mem_append_right _ (List.mem_filter.mpr ⟨List.mem_of_getElem? (i := 139) (by decide +kernel), rfl⟩)
theorem tw_141 : (Jvm.Cond.fieldLink "DelayMachine$Machine" (51 : Nat) "DelayMachine$Machine" "fault" "I") ∈ lw_g := List.mem_append_right _ (List.mem_filter.mpr ⟨List.mem_of_getElem? (i := 141) (by decide +kernel), rfl⟩)
theorem tw_143 : (Jvm.Cond.fieldLink "DelayMachine$Machine" (57 : Nat) "DelayMachine$Machine" "now" "I") ∈ lw_g := List.mem_append_right _ (List.mem_filter.mpr ⟨List.mem_of_getElem? (i := 143) (by decide +kernel), rfl⟩)
theorem tw_145 : (Jvm.Cond.fieldLink "DelayMachine$Machine" (54 : Nat) "DelayMachine$Machine" "nextLine" "I") ∈ lw_g := List.mem_append_right _ (List.mem_filter.mpr ⟨List.mem_of_getElem? (i := 145) (by decide +kernel), rfl⟩)
theorem tw_146 : (Jvm.Cond.fieldLink "DelayMachine$Machine" (60 : Nat) "DelayMachine$Machine" "nextCycle" "I") ∈ lw_g := List.mem_append_right _ (List.mem_filter.mpr ⟨List.mem_of_getElem? (i := 146) (by decide +kernel), rfl⟩)
theorem tw_147 : (Jvm.Cond.fieldLink "DelayMachine$Machine" (40 : Nat) "DelayMachine$Machine" "latestLine" "I") ∈ lw_g := List.mem_append_right _ (List.mem_filter.mpr ⟨List.mem_of_getElem? (i := 147) (by decide +kernel), rfl⟩)
theorem tw_149 : (Jvm.Cond.fieldLink "DelayMachine$Machine" (44 : Nat) "DelayMachine$Machine" "latestPlace" "I") ∈ lw_g := List.mem_append_right _ (List.mem_filter.mpr ⟨List.mem_of_getElem? (i := 149) (by decide +kernel), rfl⟩)
theorem tw_151 : (Jvm.Cond.fieldLink "DelayMachine$Machine" (63 : Nat) "DelayMachine$Machine" "ordersTaken" "I") ∈ lw_g := List.mem_append_right _ (List.mem_filter.mpr ⟨List.mem_of_getElem? (i := 151) (by decide +kernel), rfl⟩)
theorem tw_182 : (Jvm.Cond.classLink "DelayMachine" (39 : Nat) "DelayMachine$Program") ∈ lw_g := List.mem_append_right _ (List.mem_filter.mpr ⟨List.mem_of_getElem? (i := 182) (by decide +kernel), rfl⟩)
theorem tw_183 : (Jvm.Cond.instantiable "DelayMachine$Program" (6 : Nat)) ∈ lw_g := List.mem_append_right _ (List.mem_filter.mpr ⟨List.mem_of_getElem? (i := 183) (by decide +kernel), rfl⟩)
theorem tw_184 : (Jvm.Cond.methodLink "DelayMachine" (41 : Nat) ({ cls := "DelayMachine$Program", name := "<init>", desc := "()V" } : Jvm.MethodName)) ∈ lw_g := List.mem_append_right _ (List.mem_filter.mpr ⟨List.mem_of_getElem? (i := 184) (by decide +kernel), rfl⟩)
theorem tw_185 : (Jvm.Cond.instanceMethod ({ cls := "DelayMachine$Program", name := "<init>", desc := "()V" } : Jvm.MethodName)) ∈ lw_g := List.mem_append_right _ (List.mem_filter.mpr ⟨List.mem_of_getElem? (i := 185) (by decide +kernel), rfl⟩)
theorem tw_186 : (Jvm.Cond.code ({ cls := "DelayMachine$Program", name := "<init>", desc := "()V" } : Jvm.MethodName) prog_5_method_1_code (1 : Nat) (Option.none : Option Jvm.ClassFile.FieldType)) ∈ lw_g := List.mem_append_right _ (List.mem_filter.mpr ⟨List.mem_of_getElem? (i := 186) (by decide +kernel), rfl⟩)
theorem tw_187 : (Jvm.Cond.methodLink "DelayMachine$Program" (3 : Nat) ({ cls := "java/lang/Object", name := "<init>", desc := "()V" } : Jvm.MethodName)) ∈ lw_g := List.mem_append_right _ (List.mem_filter.mpr ⟨List.mem_of_getElem? (i := 187) (by decide +kernel), rfl⟩)
theorem tw_188 : (Jvm.Cond.fieldLink "DelayMachine$Program" (9 : Nat) "DelayMachine$Program" "operations" "[I") ∈ lw_g := List.mem_append_right _ (List.mem_filter.mpr ⟨List.mem_of_getElem? (i := 188) (by decide +kernel), rfl⟩)
theorem tw_190 : (Jvm.Cond.fieldLink "DelayMachine$Program" (15 : Nat) "DelayMachine$Program" "as" "[I") ∈ lw_g := List.mem_append_right _ (List.mem_filter.mpr ⟨List.mem_of_getElem? (i := 190) (by decide +kernel), rfl⟩)
theorem tw_192 : (Jvm.Cond.fieldLink "DelayMachine$Program" (18 : Nat) "DelayMachine$Program" "bs" "[I") ∈ lw_g := List.mem_append_right _ (List.mem_filter.mpr ⟨List.mem_of_getElem? (i := 192) (by decide +kernel), rfl⟩)
theorem tw_194 : (Jvm.Cond.fieldLink "DelayMachine$Program" (21 : Nat) "DelayMachine$Program" "cs" "[I") ∈ lw_g := List.mem_append_right _ (List.mem_filter.mpr ⟨List.mem_of_getElem? (i := 194) (by decide +kernel), rfl⟩)
theorem tw_196 : (Jvm.Cond.fieldLink "DelayMachine$Program" (24 : Nat) "DelayMachine$Program" "gotos" "[I") ∈ lw_g := List.mem_append_right _ (List.mem_filter.mpr ⟨List.mem_of_getElem? (i := 196) (by decide +kernel), rfl⟩)
theorem tw_199 : (Jvm.Cond.fieldLink "DelayMachine$Program" (31 : Nat) "DelayMachine$Program" "count" "I") ∈ lw_g := List.mem_append_right _ (List.mem_filter.mpr ⟨List.mem_of_getElem? (i := 199) (by decide +kernel), rfl⟩)
theorem tw_214 : (Jvm.Cond.classLink "DelayMachine" (46 : Nat) "DelayMachine$Placing") ∈ lw_g := List.mem_append_right _ (List.mem_filter.mpr ⟨List.mem_of_getElem? (i := 214) (by decide +kernel), rfl⟩)
theorem tw_215 : (Jvm.Cond.instantiable "DelayMachine$Placing" (9 : Nat)) ∈ lw_g := List.mem_append_right _ (List.mem_filter.mpr ⟨List.mem_of_getElem? (i := 215) (by decide +kernel), rfl⟩)
theorem tw_216 : (Jvm.Cond.methodLink "DelayMachine" (48 : Nat) ({ cls := "DelayMachine$Placing", name := "<init>", desc := "()V" } : Jvm.MethodName)) ∈ lw_g := List.mem_append_right _ (List.mem_filter.mpr ⟨List.mem_of_getElem? (i := 216) (by decide +kernel), rfl⟩)
theorem tw_217 : (Jvm.Cond.instanceMethod ({ cls := "DelayMachine$Placing", name := "<init>", desc := "()V" } : Jvm.MethodName)) ∈ lw_g := List.mem_append_right _ (List.mem_filter.mpr ⟨List.mem_of_getElem? (i := 217) (by decide +kernel), rfl⟩)
theorem tw_218 : (Jvm.Cond.code ({ cls := "DelayMachine$Placing", name := "<init>", desc := "()V" } : Jvm.MethodName) prog_4_method_1_code (1 : Nat) (Option.none : Option Jvm.ClassFile.FieldType)) ∈ lw_g := List.mem_append_right _ (List.mem_filter.mpr ⟨List.mem_of_getElem? (i := 218) (by decide +kernel), rfl⟩)
theorem tw_219 : (Jvm.Cond.methodLink "DelayMachine$Placing" (3 : Nat) ({ cls := "java/lang/Object", name := "<init>", desc := "()V" } : Jvm.MethodName)) ∈ lw_g := List.mem_append_right _ (List.mem_filter.mpr ⟨List.mem_of_getElem? (i := 219) (by decide +kernel), rfl⟩)
theorem tw_220 : (Jvm.Cond.methodLink "DelayMachine$Placing" (27 : Nat) ({ cls := "java/util/Arrays", name := "fill", desc := "([II)V" } : Jvm.MethodName)) ∈ lw_g := List.mem_append_right _ (List.mem_filter.mpr ⟨List.mem_of_getElem? (i := 220) (by decide +kernel), rfl⟩)
theorem tw_221 : (Jvm.Cond.static ({ cls := "java/util/Arrays", name := "fill", desc := "([II)V" } : Jvm.MethodName)) ∈ lw_g := List.mem_append_right _ (List.mem_filter.mpr ⟨List.mem_of_getElem? (i := 221) (by decide +kernel), rfl⟩)
theorem tw_222 : (Jvm.Cond.code ({ cls := "java/util/Arrays", name := "fill", desc := "([II)V" } : Jvm.MethodName) prog_13_method_103_code (4 : Nat) (Option.none : Option Jvm.ClassFile.FieldType)) ∈ lw_g := List.mem_append_right _ (List.mem_filter.mpr ⟨List.mem_of_getElem? (i := 222) (by decide +kernel), rfl⟩)
theorem tw_223 : (Jvm.Cond.fieldLink "DelayMachine$Placing" (9 : Nat) "DelayMachine$Placing" "orders" "[I") ∈ lw_g := List.mem_append_right _ (List.mem_filter.mpr ⟨List.mem_of_getElem? (i := 223) (by decide +kernel), rfl⟩)
theorem tw_225 : (Jvm.Cond.fieldLink "DelayMachine$Placing" (15 : Nat) "DelayMachine$Placing" "holders" "[I") ∈ lw_g := List.mem_append_right _ (List.mem_filter.mpr ⟨List.mem_of_getElem? (i := 225) (by decide +kernel), rfl⟩)
theorem tw_226 : (Jvm.Cond.fieldLink "DelayMachine$Placing" (18 : Nat) "DelayMachine$Placing" "variables" "[I") ∈ lw_g := List.mem_append_right _ (List.mem_filter.mpr ⟨List.mem_of_getElem? (i := 226) (by decide +kernel), rfl⟩)
theorem tw_228 : (Jvm.Cond.fieldLink "DelayMachine$Placing" (21 : Nat) "DelayMachine$Placing" "firsts" "[I") ∈ lw_g := List.mem_append_right _ (List.mem_filter.mpr ⟨List.mem_of_getElem? (i := 228) (by decide +kernel), rfl⟩)
theorem tw_230 : (Jvm.Cond.fieldLink "DelayMachine$Placing" (24 : Nat) "DelayMachine$Placing" "branches" "[I") ∈ lw_g := List.mem_append_right _ (List.mem_filter.mpr ⟨List.mem_of_getElem? (i := 230) (by decide +kernel), rfl⟩)
theorem tw_231 : (Jvm.Cond.fieldLink "DelayMachine$Placing" (68 : Nat) "DelayMachine$Placing" "from" "I") ∈ lw_g := List.mem_append_right _ (List.mem_filter.mpr ⟨List.mem_of_getElem? (i := 231) (by decide +kernel), rfl⟩)
theorem tw_232 : (Jvm.Cond.fieldLink "DelayMachine$Placing" (71 : Nat) "DelayMachine$Placing" "leader" "I") ∈ lw_g := List.mem_append_right _ (List.mem_filter.mpr ⟨List.mem_of_getElem? (i := 232) (by decide +kernel), rfl⟩)
theorem tw_233 : (Jvm.Cond.fieldLink "DelayMachine$Placing" (74 : Nat) "DelayMachine$Placing" "count" "I") ∈ lw_g := List.mem_append_right _ (List.mem_filter.mpr ⟨List.mem_of_getElem? (i := 233) (by decide +kernel), rfl⟩)
theorem tw_235 : (Jvm.Cond.fieldLink "DelayMachine$Placing" (57 : Nat) "DelayMachine$Placing" "fits" "Z") ∈ lw_g := List.mem_append_right _ (List.mem_filter.mpr ⟨List.mem_of_getElem? (i := 235) (by decide +kernel), rfl⟩)
theorem tw_255 : (Jvm.Cond.fieldLink "DelayMachine" (12 : Nat) "DelayMachine" "store" "LDelayMachine$Store;") ∈ lw_g := List.mem_append_right _ (List.mem_filter.mpr ⟨List.mem_of_getElem? (i := 255) (by decide +kernel), rfl⟩)
theorem tw_256 : (Jvm.Cond.fieldLink "DelayMachine" (19 : Nat) "DelayMachine" "reader" "LDelayMachine$Reader;") ∈ lw_g := List.mem_append_right _ (List.mem_filter.mpr ⟨List.mem_of_getElem? (i := 256) (by decide +kernel), rfl⟩)
theorem tw_257 : (Jvm.Cond.fieldLink "DelayMachine" (26 : Nat) "DelayMachine" "punch" "LDelayMachine$Punch;") ∈ lw_g := List.mem_append_right _ (List.mem_filter.mpr ⟨List.mem_of_getElem? (i := 257) (by decide +kernel), rfl⟩)
theorem tw_258 : (Jvm.Cond.fieldLink "DelayMachine" (35 : Nat) "DelayMachine" "machine" "LDelayMachine$Machine;") ∈ lw_g := List.mem_append_right _ (List.mem_filter.mpr ⟨List.mem_of_getElem? (i := 258) (by decide +kernel), rfl⟩)
theorem tw_259 : (Jvm.Cond.fieldLink "DelayMachine" (42 : Nat) "DelayMachine" "program" "LDelayMachine$Program;") ∈ lw_g := List.mem_append_right _ (List.mem_filter.mpr ⟨List.mem_of_getElem? (i := 259) (by decide +kernel), rfl⟩)
theorem tw_260 : (Jvm.Cond.fieldLink "DelayMachine" (49 : Nat) "DelayMachine" "kept" "LDelayMachine$Placing;") ∈ lw_g := List.mem_append_right _ (List.mem_filter.mpr ⟨List.mem_of_getElem? (i := 260) (by decide +kernel), rfl⟩)
theorem tw_261 : (Jvm.Cond.fieldLink "DelayMachine" (53 : Nat) "DelayMachine" "trial" "LDelayMachine$Placing;") ∈ lw_g := List.mem_append_right _ (List.mem_filter.mpr ⟨List.mem_of_getElem? (i := 261) (by decide +kernel), rfl⟩)
theorem tw_277 : (Jvm.Cond.methodLink "DelayMachineLaw" (13 : Nat) ({ cls := "DelayMachine", name := "order", desc := "(III)Z" } : Jvm.MethodName)) ∈ lw_g := List.mem_append_right _ (List.mem_filter.mpr ⟨List.mem_of_getElem? (i := 277) (by decide +kernel), rfl⟩)
theorem tw_278 : (Jvm.Cond.instanceMethod ({ cls := "DelayMachine", name := "order", desc := "(III)Z" } : Jvm.MethodName)) ∈ lw_g := List.mem_append_right _ (List.mem_filter.mpr ⟨List.mem_of_getElem? (i := 278) (by decide +kernel), rfl⟩)
theorem tw_279 : (Jvm.Cond.selects "DelayMachine" ({ cls := "DelayMachine", name := "order", desc := "(III)Z" } : Jvm.MethodName) ({ cls := "DelayMachine", name := "order", desc := "(III)Z" } : Jvm.MethodName)) ∈ lw_g := List.mem_append_right _ (List.mem_filter.mpr ⟨List.mem_of_getElem? (i := 279) (by decide +kernel), rfl⟩)
theorem tw_280 : (Jvm.Cond.code ({ cls := "DelayMachine", name := "order", desc := "(III)Z" } : Jvm.MethodName) prog_1_method_2_code (5 : Nat) (Option.some Jvm.ClassFile.FieldType.boolean)) ∈ lw_g := List.mem_append_right _ (List.mem_filter.mpr ⟨List.mem_of_getElem? (i := 280) (by decide +kernel), rfl⟩)
theorem tw_281 : (Jvm.Cond.methodLink "DelayMachine" (56 : Nat) ({ cls := "DelayMachine$Store", name := "orderSpot", desc := "(II)I" } : Jvm.MethodName)) ∈ lw_g := List.mem_append_right _ (List.mem_filter.mpr ⟨List.mem_of_getElem? (i := 281) (by decide +kernel), rfl⟩)
theorem tw_282 : (Jvm.Cond.static ({ cls := "DelayMachine$Store", name := "orderSpot", desc := "(II)I" } : Jvm.MethodName)) ∈ lw_g := List.mem_append_right _ (List.mem_filter.mpr ⟨List.mem_of_getElem? (i := 282) (by decide +kernel), rfl⟩)
theorem tw_283 : (Jvm.Cond.code ({ cls := "DelayMachine$Store", name := "orderSpot", desc := "(II)I" } : Jvm.MethodName) prog_8_method_2_code (3 : Nat) (Option.some Jvm.ClassFile.FieldType.int)) ∈ lw_g := List.mem_append_right _ (List.mem_filter.mpr ⟨List.mem_of_getElem? (i := 283) (by decide +kernel), rfl⟩)
theorem tw_284 : (Jvm.Cond.constant "DelayMachine" (60 : Nat) (2097151 : Int32)) ∈ lw_g := List.mem_append_right _ (List.mem_filter.mpr ⟨List.mem_of_getElem? (i := 284) (by decide +kernel), rfl⟩)
theorem tw_285 : (Jvm.Cond.methodLink "DelayMachineLaw" (18 : Nat) ({ cls := "DelayMachine", name := "word", desc := "(IIS)Z" } : Jvm.MethodName)) ∈ lw_g := List.mem_append_right _ (List.mem_filter.mpr ⟨List.mem_of_getElem? (i := 285) (by decide +kernel), rfl⟩)
theorem tw_286 : (Jvm.Cond.instanceMethod ({ cls := "DelayMachine", name := "word", desc := "(IIS)Z" } : Jvm.MethodName)) ∈ lw_g := List.mem_append_right _ (List.mem_filter.mpr ⟨List.mem_of_getElem? (i := 286) (by decide +kernel), rfl⟩)
theorem tw_287 : (Jvm.Cond.selects "DelayMachine" ({ cls := "DelayMachine", name := "word", desc := "(IIS)Z" } : Jvm.MethodName) ({ cls := "DelayMachine", name := "word", desc := "(IIS)Z" } : Jvm.MethodName)) ∈ lw_g := List.mem_append_right _ (List.mem_filter.mpr ⟨List.mem_of_getElem? (i := 287) (by decide +kernel), rfl⟩)
theorem tw_288 : (Jvm.Cond.code ({ cls := "DelayMachine", name := "word", desc := "(IIS)Z" } : Jvm.MethodName) prog_1_method_3_code (5 : Nat) (Option.some Jvm.ClassFile.FieldType.boolean)) ∈ lw_g := List.mem_append_right _ (List.mem_filter.mpr ⟨List.mem_of_getElem? (i := 288) (by decide +kernel), rfl⟩)
theorem tw_289 : (Jvm.Cond.methodLink "DelayMachine" (65 : Nat) ({ cls := "DelayMachine$Store", name := "wordSpot", desc := "(II)I" } : Jvm.MethodName)) ∈ lw_g := List.mem_append_right _ (List.mem_filter.mpr ⟨List.mem_of_getElem? (i := 289) (by decide +kernel), rfl⟩)
theorem tw_290 : (Jvm.Cond.static ({ cls := "DelayMachine$Store", name := "wordSpot", desc := "(II)I" } : Jvm.MethodName)) ∈ lw_g := List.mem_append_right _ (List.mem_filter.mpr ⟨List.mem_of_getElem? (i := 290) (by decide +kernel), rfl⟩)
theorem tw_291 : (Jvm.Cond.code ({ cls := "DelayMachine$Store", name := "wordSpot", desc := "(II)I" } : Jvm.MethodName) prog_8_method_3_code (2 : Nat) (Option.some Jvm.ClassFile.FieldType.int)) ∈ lw_g := List.mem_append_right _ (List.mem_filter.mpr ⟨List.mem_of_getElem? (i := 291) (by decide +kernel), rfl⟩)
theorem tw_292 : (Jvm.Cond.methodLink "DelayMachine$Store" (19 : Nat) ({ cls := "DelayMachine$Store", name := "placesOf", desc := "(I)I" } : Jvm.MethodName)) ∈ lw_g := List.mem_append_right _ (List.mem_filter.mpr ⟨List.mem_of_getElem? (i := 292) (by decide +kernel), rfl⟩)
theorem tw_293 : (Jvm.Cond.static ({ cls := "DelayMachine$Store", name := "placesOf", desc := "(I)I" } : Jvm.MethodName)) ∈ lw_g := List.mem_append_right _ (List.mem_filter.mpr ⟨List.mem_of_getElem? (i := 293) (by decide +kernel), rfl⟩)
theorem tw_294 : (Jvm.Cond.code ({ cls := "DelayMachine$Store", name := "placesOf", desc := "(I)I" } : Jvm.MethodName) prog_8_method_5_code (1 : Nat) (Option.some Jvm.ClassFile.FieldType.int)) ∈ lw_g := List.mem_append_right _ (List.mem_filter.mpr ⟨List.mem_of_getElem? (i := 294) (by decide +kernel), rfl⟩)
theorem tw_295 : (Jvm.Cond.methodLink "DelayMachine$Store" (23 : Nat) ({ cls := "DelayMachine$Store", name := "firstSpot", desc := "(I)I" } : Jvm.MethodName)) ∈ lw_g := List.mem_append_right _ (List.mem_filter.mpr ⟨List.mem_of_getElem? (i := 295) (by decide +kernel), rfl⟩)
theorem tw_296 : (Jvm.Cond.static ({ cls := "DelayMachine$Store", name := "firstSpot", desc := "(I)I" } : Jvm.MethodName)) ∈ lw_g := List.mem_append_right _ (List.mem_filter.mpr ⟨List.mem_of_getElem? (i := 296) (by decide +kernel), rfl⟩)
theorem tw_297 : (Jvm.Cond.code ({ cls := "DelayMachine$Store", name := "firstSpot", desc := "(I)I" } : Jvm.MethodName) prog_8_method_6_code (1 : Nat) (Option.some Jvm.ClassFile.FieldType.int)) ∈ lw_g := List.mem_append_right _ (List.mem_filter.mpr ⟨List.mem_of_getElem? (i := 297) (by decide +kernel), rfl⟩)
theorem tw_298 : (Jvm.Cond.methodLink "DelayMachineLaw" (23 : Nat) ({ cls := "DelayMachine", name := "card", desc := "(S)Z" } : Jvm.MethodName)) ∈ lw_g := List.mem_append_right _ (List.mem_filter.mpr ⟨List.mem_of_getElem? (i := 298) (by decide +kernel), rfl⟩)
theorem tw_299 : (Jvm.Cond.instanceMethod ({ cls := "DelayMachine", name := "card", desc := "(S)Z" } : Jvm.MethodName)) ∈ lw_g := List.mem_append_right _ (List.mem_filter.mpr ⟨List.mem_of_getElem? (i := 299) (by decide +kernel), rfl⟩)
theorem tw_300 : (Jvm.Cond.selects "DelayMachine" ({ cls := "DelayMachine", name := "card", desc := "(S)Z" } : Jvm.MethodName) ({ cls := "DelayMachine", name := "card", desc := "(S)Z" } : Jvm.MethodName)) ∈ lw_g := List.mem_append_right _ (List.mem_filter.mpr ⟨List.mem_of_getElem? (i := 300) (by decide +kernel), rfl⟩)
theorem tw_301 : (Jvm.Cond.code ({ cls := "DelayMachine", name := "card", desc := "(S)Z" } : Jvm.MethodName) prog_1_method_4_code (2 : Nat) (Option.some Jvm.ClassFile.FieldType.boolean)) ∈ lw_g := List.mem_append_right _ (List.mem_filter.mpr ⟨List.mem_of_getElem? (i := 301) (by decide +kernel), rfl⟩)
theorem tw_302 : (Jvm.Cond.methodLink "DelayMachine" (72 : Nat) ({ cls := "DelayMachine$Reader", name := "addRow", desc := "(S)Z" } : Jvm.MethodName)) ∈ lw_g := List.mem_append_right _ (List.mem_filter.mpr ⟨List.mem_of_getElem? (i := 302) (by decide +kernel), rfl⟩)
theorem tw_303 : (Jvm.Cond.instanceMethod ({ cls := "DelayMachine$Reader", name := "addRow", desc := "(S)Z" } : Jvm.MethodName)) ∈ lw_g := List.mem_append_right _ (List.mem_filter.mpr ⟨List.mem_of_getElem? (i := 303) (by decide +kernel), rfl⟩)
theorem tw_304 : (Jvm.Cond.selects "DelayMachine$Reader" ({ cls := "DelayMachine$Reader", name := "addRow", desc := "(S)Z" } : Jvm.MethodName) ({ cls := "DelayMachine$Reader", name := "addRow", desc := "(S)Z" } : Jvm.MethodName)) ∈ lw_g := List.mem_append_right _ (List.mem_filter.mpr ⟨List.mem_of_getElem? (i := 304) (by decide +kernel), rfl⟩)
theorem tw_305 : (Jvm.Cond.code ({ cls := "DelayMachine$Reader", name := "addRow", desc := "(S)Z" } : Jvm.MethodName) prog_7_method_2_code (2 : Nat) (Option.some Jvm.ClassFile.FieldType.boolean)) ∈ lw_g := List.mem_append_right _ (List.mem_filter.mpr ⟨List.mem_of_getElem? (i := 305) (by decide +kernel), rfl⟩)
theorem tw_306 : (Jvm.Cond.methodLink "DelayMachineLaw" (28 : Nat) ({ cls := "DelayMachine", name := "start", desc := "(II)Z" } : Jvm.MethodName)) ∈ lw_g := List.mem_append_right _ (List.mem_filter.mpr ⟨List.mem_of_getElem? (i := 306) (by decide +kernel), rfl⟩)
theorem tw_307 : (Jvm.Cond.instanceMethod ({ cls := "DelayMachine", name := "start", desc := "(II)Z" } : Jvm.MethodName)) ∈ lw_g := List.mem_append_right _ (List.mem_filter.mpr ⟨List.mem_of_getElem? (i := 307) (by decide +kernel), rfl⟩)
theorem tw_308 : (Jvm.Cond.selects "DelayMachine" ({ cls := "DelayMachine", name := "start", desc := "(II)Z" } : Jvm.MethodName) ({ cls := "DelayMachine", name := "start", desc := "(II)Z" } : Jvm.MethodName)) ∈ lw_g := List.mem_append_right _ (List.mem_filter.mpr ⟨List.mem_of_getElem? (i := 308) (by decide +kernel), rfl⟩)
theorem tw_309 : (Jvm.Cond.code ({ cls := "DelayMachine", name := "start", desc := "(II)Z" } : Jvm.MethodName) prog_1_method_5_code (3 : Nat) (Option.some Jvm.ClassFile.FieldType.boolean)) ∈ lw_g := List.mem_append_right _ (List.mem_filter.mpr ⟨List.mem_of_getElem? (i := 309) (by decide +kernel), rfl⟩)
theorem tw_310 : (Jvm.Cond.methodLink "DelayMachine" (76 : Nat) ({ cls := "DelayMachine$Machine", name := "begin", desc := "(II)V" } : Jvm.MethodName)) ∈ lw_g := List.mem_append_right _ (List.mem_filter.mpr ⟨List.mem_of_getElem? (i := 310) (by decide +kernel), rfl⟩)
theorem tw_311 : (Jvm.Cond.instanceMethod ({ cls := "DelayMachine$Machine", name := "begin", desc := "(II)V" } : Jvm.MethodName)) ∈ lw_g := List.mem_append_right _ (List.mem_filter.mpr ⟨List.mem_of_getElem? (i := 311) (by decide +kernel), rfl⟩)
theorem tw_312 : (Jvm.Cond.selects "DelayMachine$Machine" ({ cls := "DelayMachine$Machine", name := "begin", desc := "(II)V" } : Jvm.MethodName) ({ cls := "DelayMachine$Machine", name := "begin", desc := "(II)V" } : Jvm.MethodName)) ∈ lw_g := List.mem_append_right _ (List.mem_filter.mpr ⟨List.mem_of_getElem? (i := 312) (by decide +kernel), rfl⟩)
theorem tw_313 : (Jvm.Cond.code ({ cls := "DelayMachine$Machine", name := "begin", desc := "(II)V" } : Jvm.MethodName) prog_2_method_2_code (3 : Nat) (Option.none : Option Jvm.ClassFile.FieldType)) ∈ lw_g := List.mem_append_right _ (List.mem_filter.mpr ⟨List.mem_of_getElem? (i := 313) (by decide +kernel), rfl⟩)
theorem tw_314 : (Jvm.Cond.methodLink "DelayMachine$Machine" (66 : Nat) ({ cls := "DelayMachine$Window", name := "close", desc := "()V" } : Jvm.MethodName)) ∈ lw_g := List.mem_append_right _ (List.mem_filter.mpr ⟨List.mem_of_getElem? (i := 314) (by decide +kernel), rfl⟩)
theorem tw_315 : (Jvm.Cond.instanceMethod ({ cls := "DelayMachine$Window", name := "close", desc := "()V" } : Jvm.MethodName)) ∈ lw_g := List.mem_append_right _ (List.mem_filter.mpr ⟨List.mem_of_getElem? (i := 315) (by decide +kernel), rfl⟩)
theorem tw_316 : (Jvm.Cond.selects "DelayMachine$Window" ({ cls := "DelayMachine$Window", name := "close", desc := "()V" } : Jvm.MethodName) ({ cls := "DelayMachine$Window", name := "close", desc := "()V" } : Jvm.MethodName)) ∈ lw_g := List.mem_append_right _ (List.mem_filter.mpr ⟨List.mem_of_getElem? (i := 316) (by decide +kernel), rfl⟩)
theorem tw_317 : (Jvm.Cond.code ({ cls := "DelayMachine$Window", name := "close", desc := "()V" } : Jvm.MethodName) prog_9_method_2_code (1 : Nat) (Option.none : Option Jvm.ClassFile.FieldType)) ∈ lw_g := List.mem_append_right _ (List.mem_filter.mpr ⟨List.mem_of_getElem? (i := 317) (by decide +kernel), rfl⟩)
theorem tw_318 : (Jvm.Cond.methodLink "DelayMachine$Machine" (69 : Nat) ({ cls := "DelayMachine$Multiplier", name := "rest", desc := "()V" } : Jvm.MethodName)) ∈ lw_g := List.mem_append_right _ (List.mem_filter.mpr ⟨List.mem_of_getElem? (i := 318) (by decide +kernel), rfl⟩)
theorem tw_319 : (Jvm.Cond.instanceMethod ({ cls := "DelayMachine$Multiplier", name := "rest", desc := "()V" } : Jvm.MethodName)) ∈ lw_g := List.mem_append_right _ (List.mem_filter.mpr ⟨List.mem_of_getElem? (i := 319) (by decide +kernel), rfl⟩)
theorem tw_320 : (Jvm.Cond.selects "DelayMachine$Multiplier" ({ cls := "DelayMachine$Multiplier", name := "rest", desc := "()V" } : Jvm.MethodName) ({ cls := "DelayMachine$Multiplier", name := "rest", desc := "()V" } : Jvm.MethodName)) ∈ lw_g := List.mem_append_right _ (List.mem_filter.mpr ⟨List.mem_of_getElem? (i := 320) (by decide +kernel), rfl⟩)
theorem tw_321 : (Jvm.Cond.code ({ cls := "DelayMachine$Multiplier", name := "rest", desc := "()V" } : Jvm.MethodName) prog_3_method_2_code (1 : Nat) (Option.none : Option Jvm.ClassFile.FieldType)) ∈ lw_g := List.mem_append_right _ (List.mem_filter.mpr ⟨List.mem_of_getElem? (i := 321) (by decide +kernel), rfl⟩)
theorem tw_322 : (Jvm.Cond.methodLink "DelayMachine$Machine" (72 : Nat) ({ cls := "DelayMachine$Reader", name := "rest", desc := "()V" } : Jvm.MethodName)) ∈ lw_g := List.mem_append_right _ (List.mem_filter.mpr ⟨List.mem_of_getElem? (i := 322) (by decide +kernel), rfl⟩)
theorem tw_323 : (Jvm.Cond.instanceMethod ({ cls := "DelayMachine$Reader", name := "rest", desc := "()V" } : Jvm.MethodName)) ∈ lw_g := List.mem_append_right _ (List.mem_filter.mpr ⟨List.mem_of_getElem? (i := 323) (by decide +kernel), rfl⟩)
theorem tw_324 : (Jvm.Cond.selects "DelayMachine$Reader" ({ cls := "DelayMachine$Reader", name := "rest", desc := "()V" } : Jvm.MethodName) ({ cls := "DelayMachine$Reader", name := "rest", desc := "()V" } : Jvm.MethodName)) ∈ lw_g := List.mem_append_right _ (List.mem_filter.mpr ⟨List.mem_of_getElem? (i := 324) (by decide +kernel), rfl⟩)
theorem tw_325 : (Jvm.Cond.code ({ cls := "DelayMachine$Reader", name := "rest", desc := "()V" } : Jvm.MethodName) prog_7_method_4_code (1 : Nat) (Option.none : Option Jvm.ClassFile.FieldType)) ∈ lw_g := List.mem_append_right _ (List.mem_filter.mpr ⟨List.mem_of_getElem? (i := 325) (by decide +kernel), rfl⟩)
theorem tw_326 : (Jvm.Cond.methodLink "DelayMachineLaw" (33 : Nat) ({ cls := "DelayMachine", name := "run", desc := "(I)I" } : Jvm.MethodName)) ∈ lw_g := List.mem_append_right _ (List.mem_filter.mpr ⟨List.mem_of_getElem? (i := 326) (by decide +kernel), rfl⟩)
theorem tw_327 : (Jvm.Cond.instanceMethod ({ cls := "DelayMachine", name := "run", desc := "(I)I" } : Jvm.MethodName)) ∈ lw_g := List.mem_append_right _ (List.mem_filter.mpr ⟨List.mem_of_getElem? (i := 327) (by decide +kernel), rfl⟩)
theorem tw_328 : (Jvm.Cond.selects "DelayMachine" ({ cls := "DelayMachine", name := "run", desc := "(I)I" } : Jvm.MethodName) ({ cls := "DelayMachine", name := "run", desc := "(I)I" } : Jvm.MethodName)) ∈ lw_g := List.mem_append_right _ (List.mem_filter.mpr ⟨List.mem_of_getElem? (i := 328) (by decide +kernel), rfl⟩)
theorem tw_329 : (Jvm.Cond.code ({ cls := "DelayMachine", name := "run", desc := "(I)I" } : Jvm.MethodName) prog_1_method_6_code (3 : Nat) (Option.some Jvm.ClassFile.FieldType.int)) ∈ lw_g := List.mem_append_right _ (List.mem_filter.mpr ⟨List.mem_of_getElem? (i := 329) (by decide +kernel), rfl⟩)
theorem tw_330 : (Jvm.Cond.methodLink "DelayMachine" (84 : Nat) ({ cls := "DelayMachine$Machine", name := "goThroughCycle", desc := "()V" } : Jvm.MethodName)) ∈ lw_g := List.mem_append_right _ (List.mem_filter.mpr ⟨List.mem_of_getElem? (i := 330) (by decide +kernel), rfl⟩)
theorem tw_331 : (Jvm.Cond.instanceMethod ({ cls := "DelayMachine$Machine", name := "goThroughCycle", desc := "()V" } : Jvm.MethodName)) ∈ lw_g := List.mem_append_right _ (List.mem_filter.mpr ⟨List.mem_of_getElem? (i := 331) (by decide +kernel), rfl⟩)
theorem tw_332 : (Jvm.Cond.selects "DelayMachine$Machine" ({ cls := "DelayMachine$Machine", name := "goThroughCycle", desc := "()V" } : Jvm.MethodName) ({ cls := "DelayMachine$Machine", name := "goThroughCycle", desc := "()V" } : Jvm.MethodName)) ∈ lw_g := List.mem_append_right _ (List.mem_filter.mpr ⟨List.mem_of_getElem? (i := 332) (by decide +kernel), rfl⟩)
theorem tw_333 : (Jvm.Cond.code ({ cls := "DelayMachine$Machine", name := "goThroughCycle", desc := "()V" } : Jvm.MethodName) prog_2_method_3_code (1 : Nat) (Option.none : Option Jvm.ClassFile.FieldType)) ∈ lw_g := List.mem_append_right _ (List.mem_filter.mpr ⟨List.mem_of_getElem? (i := 333) (by decide +kernel), rfl⟩)
theorem tw_334 : (Jvm.Cond.methodLink "DelayMachine$Machine" (75 : Nat) ({ cls := "DelayMachine$Machine", name := "takeOrder", desc := "()V" } : Jvm.MethodName)) ∈ lw_g := List.mem_append_right _ (List.mem_filter.mpr ⟨List.mem_of_getElem? (i := 334) (by decide +kernel), rfl⟩)
theorem tw_336 : (Jvm.Cond.instanceMethod ({ cls := "DelayMachine$Machine", name := "takeOrder", desc := "()V" } : Jvm.MethodName)) ∈ lw_g := List.mem_append_right _ (List.mem_filter.mpr ⟨List.mem_of_getElem? (i := 336) (by decide +kernel), rfl⟩)
theorem tw_337 : (Jvm.Cond.code ({ cls := "DelayMachine$Machine", name := "takeOrder", desc := "()V" } : Jvm.MethodName) prog_2_method_4_code (3 : Nat) (Option.none : Option Jvm.ClassFile.FieldType)) ∈ lw_g := List.mem_append_right _ (List.mem_filter.mpr ⟨List.mem_of_getElem? (i := 337) (by decide +kernel), rfl⟩)
theorem tw_338 : (Jvm.Cond.methodLink "DelayMachine$Machine" (102 : Nat) ({ cls := "DelayMachine$Window", name := "open", desc := "(II)V" } : Jvm.MethodName)) ∈ lw_g := List.mem_append_right _ (List.mem_filter.mpr ⟨List.mem_of_getElem? (i := 338) (by decide +kernel), rfl⟩)
theorem tw_339 : (Jvm.Cond.instanceMethod ({ cls := "DelayMachine$Window", name := "open", desc := "(II)V" } : Jvm.MethodName)) ∈ lw_g := List.mem_append_right _ (List.mem_filter.mpr ⟨List.mem_of_getElem? (i := 339) (by decide +kernel), rfl⟩)
theorem tw_340 : (Jvm.Cond.selects "DelayMachine$Window" ({ cls := "DelayMachine$Window", name := "open", desc := "(II)V" } : Jvm.MethodName) ({ cls := "DelayMachine$Window", name := "open", desc := "(II)V" } : Jvm.MethodName)) ∈ lw_g := List.mem_append_right _ (List.mem_filter.mpr ⟨List.mem_of_getElem? (i := 340) (by decide +kernel), rfl⟩)
theorem tw_341 : (Jvm.Cond.code ({ cls := "DelayMachine$Window", name := "open", desc := "(II)V" } : Jvm.MethodName) prog_9_method_3_code (6 : Nat) (Option.none : Option Jvm.ClassFile.FieldType)) ∈ lw_g := List.mem_append_right _ (List.mem_filter.mpr ⟨List.mem_of_getElem? (i := 341) (by decide +kernel), rfl⟩)
theorem tw_342 : (Jvm.Cond.methodLink "DelayMachine$Window" (27 : Nat) ({ cls := "DelayMachine$Window", name := "lastOf", desc := "(I)I" } : Jvm.MethodName)) ∈ lw_g := List.mem_append_right _ (List.mem_filter.mpr ⟨List.mem_of_getElem? (i := 342) (by decide +kernel), rfl⟩)
theorem tw_344 : (Jvm.Cond.instanceMethod ({ cls := "DelayMachine$Window", name := "lastOf", desc := "(I)I" } : Jvm.MethodName)) ∈ lw_g := List.mem_append_right _ (List.mem_filter.mpr ⟨List.mem_of_getElem? (i := 344) (by decide +kernel), rfl⟩)
theorem tw_345 : (Jvm.Cond.code ({ cls := "DelayMachine$Window", name := "lastOf", desc := "(I)I" } : Jvm.MethodName) prog_9_method_4_code (2 : Nat) (Option.some Jvm.ClassFile.FieldType.int)) ∈ lw_g := List.mem_append_right _ (List.mem_filter.mpr ⟨List.mem_of_getElem? (i := 345) (by decide +kernel), rfl⟩)
theorem tw_346 : (Jvm.Cond.methodLink "DelayMachine$Machine" (78 : Nat) ({ cls := "DelayMachine$Window", name := "covers", desc := "(I)Z" } : Jvm.MethodName)) ∈ lw_g := List.mem_append_right _ (List.mem_filter.mpr ⟨List.mem_of_getElem? (i := 346) (by decide +kernel), rfl⟩)
theorem tw_347 : (Jvm.Cond.instanceMethod ({ cls := "DelayMachine$Window", name := "covers", desc := "(I)Z" } : Jvm.MethodName)) ∈ lw_g := List.mem_append_right _ (List.mem_filter.mpr ⟨List.mem_of_getElem? (i := 347) (by decide +kernel), rfl⟩)
theorem tw_348 : (Jvm.Cond.selects "DelayMachine$Window" ({ cls := "DelayMachine$Window", name := "covers", desc := "(I)Z" } : Jvm.MethodName) ({ cls := "DelayMachine$Window", name := "covers", desc := "(I)Z" } : Jvm.MethodName)) ∈ lw_g := List.mem_append_right _ (List.mem_filter.mpr ⟨List.mem_of_getElem? (i := 348) (by decide +kernel), rfl⟩)
theorem tw_349 : (Jvm.Cond.code ({ cls := "DelayMachine$Window", name := "covers", desc := "(I)Z" } : Jvm.MethodName) prog_9_method_5_code (2 : Nat) (Option.some Jvm.ClassFile.FieldType.boolean)) ∈ lw_g := List.mem_append_right _ (List.mem_filter.mpr ⟨List.mem_of_getElem? (i := 349) (by decide +kernel), rfl⟩)
theorem tw_350 : (Jvm.Cond.methodLink "DelayMachine$Machine" (82 : Nat) ({ cls := "DelayMachine$Machine", name := "move", desc := "(LDelayMachine$Window;)V" } : Jvm.MethodName)) ∈ lw_g := List.mem_append_right _ (List.mem_filter.mpr ⟨List.mem_of_getElem? (i := 350) (by decide +kernel), rfl⟩)
theorem tw_352 : (Jvm.Cond.instanceMethod ({ cls := "DelayMachine$Machine", name := "move", desc := "(LDelayMachine$Window;)V" } : Jvm.MethodName)) ∈ lw_g := List.mem_append_right _ (List.mem_filter.mpr ⟨List.mem_of_getElem? (i := 352) (by decide +kernel), rfl⟩)
theorem tw_353 : (Jvm.Cond.code ({ cls := "DelayMachine$Machine", name := "move", desc := "(LDelayMachine$Window;)V" } : Jvm.MethodName) prog_2_method_6_code (3 : Nat) (Option.none : Option Jvm.ClassFile.FieldType)) ∈ lw_g := List.mem_append_right _ (List.mem_filter.mpr ⟨List.mem_of_getElem? (i := 353) (by decide +kernel), rfl⟩)
theorem tw_354 : (Jvm.Cond.methodLink "DelayMachine$Machine" (112 : Nat) ({ cls := "DelayMachine$Machine", name := "sourceWord", desc := "(I)S" } : Jvm.MethodName)) ∈ lw_g := List.mem_append_right _ (List.mem_filter.mpr ⟨List.mem_of_getElem? (i := 354) (by decide +kernel), rfl⟩)
theorem tw_356 : (Jvm.Cond.instanceMethod ({ cls := "DelayMachine$Machine", name := "sourceWord", desc := "(I)S" } : Jvm.MethodName)) ∈ lw_g := List.mem_append_right _ (List.mem_filter.mpr ⟨List.mem_of_getElem? (i := 356) (by decide +kernel), rfl⟩)
theorem tw_357 : (Jvm.Cond.code ({ cls := "DelayMachine$Machine", name := "sourceWord", desc := "(I)S" } : Jvm.MethodName) prog_2_method_8_code (4 : Nat) (Option.some Jvm.ClassFile.FieldType.short)) ∈ lw_g := List.mem_append_right _ (List.mem_filter.mpr ⟨List.mem_of_getElem? (i := 357) (by decide +kernel), rfl⟩)
theorem tw_358 : (Jvm.Cond.methodLink "DelayMachine$Machine" (131 : Nat) ({ cls := "DelayMachine$Reader", name := "moveRow", desc := "(I)S" } : Jvm.MethodName)) ∈ lw_g := List.mem_append_right _ (List.mem_filter.mpr ⟨List.mem_of_getElem? (i := 358) (by decide +kernel), rfl⟩)
theorem tw_359 : (Jvm.Cond.instanceMethod ({ cls := "DelayMachine$Reader", name := "moveRow", desc := "(I)S" } : Jvm.MethodName)) ∈ lw_g := List.mem_append_right _ (List.mem_filter.mpr ⟨List.mem_of_getElem? (i := 359) (by decide +kernel), rfl⟩)
theorem tw_360 : (Jvm.Cond.selects "DelayMachine$Reader" ({ cls := "DelayMachine$Reader", name := "moveRow", desc := "(I)S" } : Jvm.MethodName) ({ cls := "DelayMachine$Reader", name := "moveRow", desc := "(I)S" } : Jvm.MethodName)) ∈ lw_g := List.mem_append_right _ (List.mem_filter.mpr ⟨List.mem_of_getElem? (i := 360) (by decide +kernel), rfl⟩)
theorem tw_361 : (Jvm.Cond.code ({ cls := "DelayMachine$Reader", name := "moveRow", desc := "(I)S" } : Jvm.MethodName) prog_7_method_7_code (3 : Nat) (Option.some Jvm.ClassFile.FieldType.short)) ∈ lw_g := List.mem_append_right _ (List.mem_filter.mpr ⟨List.mem_of_getElem? (i := 361) (by decide +kernel), rfl⟩)
theorem tw_362 : (Jvm.Cond.methodLink "DelayMachine$Reader" (36 : Nat) ({ cls := "DelayMachine$Reader", name := "offset", desc := "(I)I" } : Jvm.MethodName)) ∈ lw_g := List.mem_append_right _ (List.mem_filter.mpr ⟨List.mem_of_getElem? (i := 362) (by decide +kernel), rfl⟩)
theorem tw_364 : (Jvm.Cond.instanceMethod ({ cls := "DelayMachine$Reader", name := "offset", desc := "(I)I" } : Jvm.MethodName)) ∈ lw_g := List.mem_append_right _ (List.mem_filter.mpr ⟨List.mem_of_getElem? (i := 364) (by decide +kernel), rfl⟩)
theorem tw_365 : (Jvm.Cond.code ({ cls := "DelayMachine$Reader", name := "offset", desc := "(I)I" } : Jvm.MethodName) prog_7_method_6_code (4 : Nat) (Option.some Jvm.ClassFile.FieldType.int)) ∈ lw_g := List.mem_append_right _ (List.mem_filter.mpr ⟨List.mem_of_getElem? (i := 365) (by decide +kernel), rfl⟩)
theorem tw_366 : (Jvm.Cond.methodLink "DelayMachine$Machine" (134 : Nat) ({ cls := "DelayMachine$Store", name := "presentedSpot", desc := "(II)I" } : Jvm.MethodName)) ∈ lw_g := List.mem_append_right _ (List.mem_filter.mpr ⟨List.mem_of_getElem? (i := 366) (by decide +kernel), rfl⟩)
theorem tw_367 : (Jvm.Cond.static ({ cls := "DelayMachine$Store", name := "presentedSpot", desc := "(II)I" } : Jvm.MethodName)) ∈ lw_g := List.mem_append_right _ (List.mem_filter.mpr ⟨List.mem_of_getElem? (i := 367) (by decide +kernel), rfl⟩)
theorem tw_368 : (Jvm.Cond.code ({ cls := "DelayMachine$Store", name := "presentedSpot", desc := "(II)I" } : Jvm.MethodName) prog_8_method_4_code (2 : Nat) (Option.some Jvm.ClassFile.FieldType.int)) ∈ lw_g := List.mem_append_right _ (List.mem_filter.mpr ⟨List.mem_of_getElem? (i := 368) (by decide +kernel), rfl⟩)
theorem tw_369 : (Jvm.Cond.methodLink "DelayMachine$Machine" (119 : Nat) ({ cls := "DelayMachine$Machine", name := "discriminate", desc := "(LDelayMachine$Window;Z)V" } : Jvm.MethodName)) ∈ lw_g := List.mem_append_right _ (List.mem_filter.mpr ⟨List.mem_of_getElem? (i := 369) (by decide +kernel), rfl⟩)
theorem tw_371 : (Jvm.Cond.instanceMethod ({ cls := "DelayMachine$Machine", name := "discriminate", desc := "(LDelayMachine$Window;Z)V" } : Jvm.MethodName)) ∈ lw_g := List.mem_append_right _ (List.mem_filter.mpr ⟨List.mem_of_getElem? (i := 371) (by decide +kernel), rfl⟩)
theorem tw_372 : (Jvm.Cond.code ({ cls := "DelayMachine$Machine", name := "discriminate", desc := "(LDelayMachine$Window;Z)V" } : Jvm.MethodName) prog_2_method_7_code (3 : Nat) (Option.none : Option Jvm.ClassFile.FieldType)) ∈ lw_g := List.mem_append_right _ (List.mem_filter.mpr ⟨List.mem_of_getElem? (i := 372) (by decide +kernel), rfl⟩)
theorem tw_373 : (Jvm.Cond.methodLink "DelayMachine$Machine" (123 : Nat) ({ cls := "DelayMachine$Machine", name := "deliver", desc := "(SI)V" } : Jvm.MethodName)) ∈ lw_g := List.mem_append_right _ (List.mem_filter.mpr ⟨List.mem_of_getElem? (i := 373) (by decide +kernel), rfl⟩)
theorem tw_375 : (Jvm.Cond.instanceMethod ({ cls := "DelayMachine$Machine", name := "deliver", desc := "(SI)V" } : Jvm.MethodName)) ∈ lw_g := List.mem_append_right _ (List.mem_filter.mpr ⟨List.mem_of_getElem? (i := 375) (by decide +kernel), rfl⟩)
theorem tw_376 : (Jvm.Cond.code ({ cls := "DelayMachine$Machine", name := "deliver", desc := "(SI)V" } : Jvm.MethodName) prog_2_method_9_code (3 : Nat) (Option.none : Option Jvm.ClassFile.FieldType)) ∈ lw_g := List.mem_append_right _ (List.mem_filter.mpr ⟨List.mem_of_getElem? (i := 376) (by decide +kernel), rfl⟩)
theorem tw_377 : (Jvm.Cond.methodLink "DelayMachine$Machine" (138 : Nat) ({ cls := "DelayMachine$Multiplier", name := "begin", desc := "(SLDelayMachine$Store;)V" } : Jvm.MethodName)) ∈ lw_g := List.mem_append_right _ (List.mem_filter.mpr ⟨List.mem_of_getElem? (i := 377) (by decide +kernel), rfl⟩)
theorem tw_378 : (Jvm.Cond.instanceMethod ({ cls := "DelayMachine$Multiplier", name := "begin", desc := "(SLDelayMachine$Store;)V" } : Jvm.MethodName)) ∈ lw_g := List.mem_append_right _ (List.mem_filter.mpr ⟨List.mem_of_getElem? (i := 378) (by decide +kernel), rfl⟩)
theorem tw_379 : (Jvm.Cond.selects "DelayMachine$Multiplier" ({ cls := "DelayMachine$Multiplier", name := "begin", desc := "(SLDelayMachine$Store;)V" } : Jvm.MethodName) ({ cls := "DelayMachine$Multiplier", name := "begin", desc := "(SLDelayMachine$Store;)V" } : Jvm.MethodName)) ∈ lw_g := List.mem_append_right _ (List.mem_filter.mpr ⟨List.mem_of_getElem? (i := 379) (by decide +kernel), rfl⟩)
theorem tw_380 : (Jvm.Cond.code ({ cls := "DelayMachine$Multiplier", name := "begin", desc := "(SLDelayMachine$Store;)V" } : Jvm.MethodName) prog_3_method_3_code (3 : Nat) (Option.none : Option Jvm.ClassFile.FieldType)) ∈ lw_g := List.mem_append_right _ (List.mem_filter.mpr ⟨List.mem_of_getElem? (i := 380) (by decide +kernel), rfl⟩)
theorem tw_381 : (Jvm.Cond.methodLink "DelayMachine$Multiplier" (20 : Nat) ({ cls := "DelayMachine$Store", name := "setProduct", desc := "(I)V" } : Jvm.MethodName)) ∈ lw_g := List.mem_append_right _ (List.mem_filter.mpr ⟨List.mem_of_getElem? (i := 381) (by decide +kernel), rfl⟩)
theorem tw_382 : (Jvm.Cond.instanceMethod ({ cls := "DelayMachine$Store", name := "setProduct", desc := "(I)V" } : Jvm.MethodName)) ∈ lw_g := List.mem_append_right _ (List.mem_filter.mpr ⟨List.mem_of_getElem? (i := 382) (by decide +kernel), rfl⟩)
theorem tw_383 : (Jvm.Cond.selects "DelayMachine$Store" ({ cls := "DelayMachine$Store", name := "setProduct", desc := "(I)V" } : Jvm.MethodName) ({ cls := "DelayMachine$Store", name := "setProduct", desc := "(I)V" } : Jvm.MethodName)) ∈ lw_g := List.mem_append_right _ (List.mem_filter.mpr ⟨List.mem_of_getElem? (i := 383) (by decide +kernel), rfl⟩)
theorem tw_384 : (Jvm.Cond.code ({ cls := "DelayMachine$Store", name := "setProduct", desc := "(I)V" } : Jvm.MethodName) prog_8_method_8_code (2 : Nat) (Option.none : Option Jvm.ClassFile.FieldType)) ∈ lw_g := List.mem_append_right _ (List.mem_filter.mpr ⟨List.mem_of_getElem? (i := 384) (by decide +kernel), rfl⟩)
theorem tw_385 : (Jvm.Cond.methodLink "DelayMachine$Machine" (142 : Nat) ({ cls := "DelayMachine$Reader", name := "feed", desc := "(I)Z" } : Jvm.MethodName)) ∈ lw_g := List.mem_append_right _ (List.mem_filter.mpr ⟨List.mem_of_getElem? (i := 385) (by decide +kernel), rfl⟩)
theorem tw_386 : (Jvm.Cond.instanceMethod ({ cls := "DelayMachine$Reader", name := "feed", desc := "(I)Z" } : Jvm.MethodName)) ∈ lw_g := List.mem_append_right _ (List.mem_filter.mpr ⟨List.mem_of_getElem? (i := 386) (by decide +kernel), rfl⟩)
theorem tw_387 : (Jvm.Cond.selects "DelayMachine$Reader" ({ cls := "DelayMachine$Reader", name := "feed", desc := "(I)Z" } : Jvm.MethodName) ({ cls := "DelayMachine$Reader", name := "feed", desc := "(I)Z" } : Jvm.MethodName)) ∈ lw_g := List.mem_append_right _ (List.mem_filter.mpr ⟨List.mem_of_getElem? (i := 387) (by decide +kernel), rfl⟩)
theorem tw_388 : (Jvm.Cond.code ({ cls := "DelayMachine$Reader", name := "feed", desc := "(I)Z" } : Jvm.MethodName) prog_7_method_5_code (2 : Nat) (Option.some Jvm.ClassFile.FieldType.boolean)) ∈ lw_g := List.mem_append_right _ (List.mem_filter.mpr ⟨List.mem_of_getElem? (i := 388) (by decide +kernel), rfl⟩)
theorem tw_389 : (Jvm.Cond.methodLink "DelayMachine$Reader" (29 : Nat) ({ cls := "DelayMachine$Reader", name := "rowsLeft", desc := "()I" } : Jvm.MethodName)) ∈ lw_g := List.mem_append_right _ (List.mem_filter.mpr ⟨List.mem_of_getElem? (i := 389) (by decide +kernel), rfl⟩)
theorem tw_390 : (Jvm.Cond.instanceMethod ({ cls := "DelayMachine$Reader", name := "rowsLeft", desc := "()I" } : Jvm.MethodName)) ∈ lw_g := List.mem_append_right _ (List.mem_filter.mpr ⟨List.mem_of_getElem? (i := 390) (by decide +kernel), rfl⟩)
theorem tw_391 : (Jvm.Cond.selects "DelayMachine$Reader" ({ cls := "DelayMachine$Reader", name := "rowsLeft", desc := "()I" } : Jvm.MethodName) ({ cls := "DelayMachine$Reader", name := "rowsLeft", desc := "()I" } : Jvm.MethodName)) ∈ lw_g := List.mem_append_right _ (List.mem_filter.mpr ⟨List.mem_of_getElem? (i := 391) (by decide +kernel), rfl⟩)
theorem tw_392 : (Jvm.Cond.code ({ cls := "DelayMachine$Reader", name := "rowsLeft", desc := "()I" } : Jvm.MethodName) prog_7_method_3_code (1 : Nat) (Option.some Jvm.ClassFile.FieldType.int)) ∈ lw_g := List.mem_append_right _ (List.mem_filter.mpr ⟨List.mem_of_getElem? (i := 392) (by decide +kernel), rfl⟩)
theorem tw_393 : (Jvm.Cond.methodLink "DelayMachine$Machine" (92 : Nat) ({ cls := "DelayMachine$Machine", name := "stopBy", desc := "(I)V" } : Jvm.MethodName)) ∈ lw_g := List.mem_append_right _ (List.mem_filter.mpr ⟨List.mem_of_getElem? (i := 393) (by decide +kernel), rfl⟩)
theorem tw_395 : (Jvm.Cond.instanceMethod ({ cls := "DelayMachine$Machine", name := "stopBy", desc := "(I)V" } : Jvm.MethodName)) ∈ lw_g := List.mem_append_right _ (List.mem_filter.mpr ⟨List.mem_of_getElem? (i := 395) (by decide +kernel), rfl⟩)
theorem tw_396 : (Jvm.Cond.code ({ cls := "DelayMachine$Machine", name := "stopBy", desc := "(I)V" } : Jvm.MethodName) prog_2_method_5_code (2 : Nat) (Option.none : Option Jvm.ClassFile.FieldType)) ∈ lw_g := List.mem_append_right _ (List.mem_filter.mpr ⟨List.mem_of_getElem? (i := 396) (by decide +kernel), rfl⟩)
theorem tw_397 : (Jvm.Cond.methodLink "DelayMachine$Machine" (145 : Nat) ({ cls := "DelayMachine$Punch", name := "take", desc := "(SI)Z" } : Jvm.MethodName)) ∈ lw_g := List.mem_append_right _ (List.mem_filter.mpr ⟨List.mem_of_getElem? (i := 397) (by decide +kernel), rfl⟩)
theorem tw_398 : (Jvm.Cond.instanceMethod ({ cls := "DelayMachine$Punch", name := "take", desc := "(SI)Z" } : Jvm.MethodName)) ∈ lw_g := List.mem_append_right _ (List.mem_filter.mpr ⟨List.mem_of_getElem? (i := 398) (by decide +kernel), rfl⟩)
theorem tw_399 : (Jvm.Cond.selects "DelayMachine$Punch" ({ cls := "DelayMachine$Punch", name := "take", desc := "(SI)Z" } : Jvm.MethodName) ({ cls := "DelayMachine$Punch", name := "take", desc := "(SI)Z" } : Jvm.MethodName)) ∈ lw_g := List.mem_append_right _ (List.mem_filter.mpr ⟨List.mem_of_getElem? (i := 399) (by decide +kernel), rfl⟩)
theorem tw_400 : (Jvm.Cond.code ({ cls := "DelayMachine$Punch", name := "take", desc := "(SI)Z" } : Jvm.MethodName) prog_6_method_2_code (4 : Nat) (Option.some Jvm.ClassFile.FieldType.boolean)) ∈ lw_g := List.mem_append_right _ (List.mem_filter.mpr ⟨List.mem_of_getElem? (i := 400) (by decide +kernel), rfl⟩)
theorem tw_401 : (Jvm.Cond.methodLink "DelayMachine$Machine" (86 : Nat) ({ cls := "DelayMachine$Multiplier", name := "endCycle", desc := "(LDelayMachine$Store;)V" } : Jvm.MethodName)) ∈ lw_g := List.mem_append_right _ (List.mem_filter.mpr ⟨List.mem_of_getElem? (i := 401) (by decide +kernel), rfl⟩)
theorem tw_402 : (Jvm.Cond.instanceMethod ({ cls := "DelayMachine$Multiplier", name := "endCycle", desc := "(LDelayMachine$Store;)V" } : Jvm.MethodName)) ∈ lw_g := List.mem_append_right _ (List.mem_filter.mpr ⟨List.mem_of_getElem? (i := 402) (by decide +kernel), rfl⟩)
theorem tw_403 : (Jvm.Cond.selects "DelayMachine$Multiplier" ({ cls := "DelayMachine$Multiplier", name := "endCycle", desc := "(LDelayMachine$Store;)V" } : Jvm.MethodName) ({ cls := "DelayMachine$Multiplier", name := "endCycle", desc := "(LDelayMachine$Store;)V" } : Jvm.MethodName)) ∈ lw_g := List.mem_append_right _ (List.mem_filter.mpr ⟨List.mem_of_getElem? (i := 403) (by decide +kernel), rfl⟩)
theorem tw_404 : (Jvm.Cond.code ({ cls := "DelayMachine$Multiplier", name := "endCycle", desc := "(LDelayMachine$Store;)V" } : Jvm.MethodName) prog_3_method_4_code (3 : Nat) (Option.none : Option Jvm.ClassFile.FieldType)) ∈ lw_g := List.mem_append_right _ (List.mem_filter.mpr ⟨List.mem_of_getElem? (i := 404) (by decide +kernel), rfl⟩)
theorem tw_405 : (Jvm.Cond.constant "DelayMachine$Multiplier" (26 : Nat) (32768 : Int32)) ∈ lw_g := List.mem_append_right _ (List.mem_filter.mpr ⟨List.mem_of_getElem? (i := 405) (by decide +kernel), rfl⟩)
theorem tw_406 : (Jvm.Cond.methodLink "DelayMachine$Multiplier" (27 : Nat) ({ cls := "DelayMachine$Store", name := "product", desc := "()I" } : Jvm.MethodName)) ∈ lw_g := List.mem_append_right _ (List.mem_filter.mpr ⟨List.mem_of_getElem? (i := 406) (by decide +kernel), rfl⟩)
theorem tw_407 : (Jvm.Cond.instanceMethod ({ cls := "DelayMachine$Store", name := "product", desc := "()I" } : Jvm.MethodName)) ∈ lw_g := List.mem_append_right _ (List.mem_filter.mpr ⟨List.mem_of_getElem? (i := 407) (by decide +kernel), rfl⟩)
theorem tw_408 : (Jvm.Cond.selects "DelayMachine$Store" ({ cls := "DelayMachine$Store", name := "product", desc := "()I" } : Jvm.MethodName) ({ cls := "DelayMachine$Store", name := "product", desc := "()I" } : Jvm.MethodName)) ∈ lw_g := List.mem_append_right _ (List.mem_filter.mpr ⟨List.mem_of_getElem? (i := 408) (by decide +kernel), rfl⟩)
theorem tw_409 : (Jvm.Cond.code ({ cls := "DelayMachine$Store", name := "product", desc := "()I" } : Jvm.MethodName) prog_8_method_7_code (1 : Nat) (Option.some Jvm.ClassFile.FieldType.int)) ∈ lw_g := List.mem_append_right _ (List.mem_filter.mpr ⟨List.mem_of_getElem? (i := 409) (by decide +kernel), rfl⟩)
theorem tw_410 : (Jvm.Cond.constant "DelayMachine$Store" (26 : Nat) (65535 : Int32)) ∈ lw_g := List.mem_append_right _ (List.mem_filter.mpr ⟨List.mem_of_getElem? (i := 410) (by decide +kernel), rfl⟩)
theorem tw_411 : (Jvm.Cond.methodLink "DelayMachine$Machine" (90 : Nat) ({ cls := "DelayMachine$Reader", name := "endCycle", desc := "(I)Z" } : Jvm.MethodName)) ∈ lw_g := List.mem_append_right _ (List.mem_filter.mpr ⟨List.mem_of_getElem? (i := 411) (by decide +kernel), rfl⟩)
theorem tw_412 : (Jvm.Cond.instanceMethod ({ cls := "DelayMachine$Reader", name := "endCycle", desc := "(I)Z" } : Jvm.MethodName)) ∈ lw_g := List.mem_append_right _ (List.mem_filter.mpr ⟨List.mem_of_getElem? (i := 412) (by decide +kernel), rfl⟩)
theorem tw_413 : (Jvm.Cond.selects "DelayMachine$Reader" ({ cls := "DelayMachine$Reader", name := "endCycle", desc := "(I)Z" } : Jvm.MethodName) ({ cls := "DelayMachine$Reader", name := "endCycle", desc := "(I)Z" } : Jvm.MethodName)) ∈ lw_g := List.mem_append_right _ (List.mem_filter.mpr ⟨List.mem_of_getElem? (i := 413) (by decide +kernel), rfl⟩)
theorem tw_414 : (Jvm.Cond.code ({ cls := "DelayMachine$Reader", name := "endCycle", desc := "(I)Z" } : Jvm.MethodName) prog_7_method_8_code (4 : Nat) (Option.some Jvm.ClassFile.FieldType.boolean)) ∈ lw_g := List.mem_append_right _ (List.mem_filter.mpr ⟨List.mem_of_getElem? (i := 414) (by decide +kernel), rfl⟩)
theorem tw_415 : (Jvm.Cond.methodLink "DelayMachineLaw" (38 : Nat) ({ cls := "DelayMachine", name := "look", desc := "(I)I" } : Jvm.MethodName)) ∈ lw_g := List.mem_append_right _ (List.mem_filter.mpr ⟨List.mem_of_getElem? (i := 415) (by decide +kernel), rfl⟩)
theorem tw_416 : (Jvm.Cond.instanceMethod ({ cls := "DelayMachine", name := "look", desc := "(I)I" } : Jvm.MethodName)) ∈ lw_g := List.mem_append_right _ (List.mem_filter.mpr ⟨List.mem_of_getElem? (i := 416) (by decide +kernel), rfl⟩)
theorem tw_417 : (Jvm.Cond.selects "DelayMachine" ({ cls := "DelayMachine", name := "look", desc := "(I)I" } : Jvm.MethodName) ({ cls := "DelayMachine", name := "look", desc := "(I)I" } : Jvm.MethodName)) ∈ lw_g := List.mem_append_right _ (List.mem_filter.mpr ⟨List.mem_of_getElem? (i := 417) (by decide +kernel), rfl⟩)
theorem tw_418 : (Jvm.Cond.code ({ cls := "DelayMachine", name := "look", desc := "(I)I" } : Jvm.MethodName) prog_1_method_7_code (2 : Nat) (Option.some Jvm.ClassFile.FieldType.int)) ∈ lw_g := List.mem_append_right _ (List.mem_filter.mpr ⟨List.mem_of_getElem? (i := 418) (by decide +kernel), rfl⟩)
theorem tw_419 : (Jvm.Cond.methodLink "DelayMachine" (103 : Nat) ({ cls := "DelayMachine$Reader", name := "rowsLeft", desc := "()I" } : Jvm.MethodName)) ∈ lw_g := List.mem_append_right _ (List.mem_filter.mpr ⟨List.mem_of_getElem? (i := 419) (by decide +kernel), rfl⟩)
theorem tw_420 : (Jvm.Cond.methodLink "DelayMachineLaw" (42 : Nat) ({ cls := "DelayMachine", name := "peek", desc := "(II)S" } : Jvm.MethodName)) ∈ lw_g := List.mem_append_right _ (List.mem_filter.mpr ⟨List.mem_of_getElem? (i := 420) (by decide +kernel), rfl⟩)
theorem tw_421 : (Jvm.Cond.instanceMethod ({ cls := "DelayMachine", name := "peek", desc := "(II)S" } : Jvm.MethodName)) ∈ lw_g := List.mem_append_right _ (List.mem_filter.mpr ⟨List.mem_of_getElem? (i := 421) (by decide +kernel), rfl⟩)
theorem tw_422 : (Jvm.Cond.selects "DelayMachine" ({ cls := "DelayMachine", name := "peek", desc := "(II)S" } : Jvm.MethodName) ({ cls := "DelayMachine", name := "peek", desc := "(II)S" } : Jvm.MethodName)) ∈ lw_g := List.mem_append_right _ (List.mem_filter.mpr ⟨List.mem_of_getElem? (i := 422) (by decide +kernel), rfl⟩)
theorem tw_423 : (Jvm.Cond.code ({ cls := "DelayMachine", name := "peek", desc := "(II)S" } : Jvm.MethodName) prog_1_method_8_code (4 : Nat) (Option.some Jvm.ClassFile.FieldType.short)) ∈ lw_g := List.mem_append_right _ (List.mem_filter.mpr ⟨List.mem_of_getElem? (i := 423) (by decide +kernel), rfl⟩)
theorem tw_424 : (Jvm.Cond.methodLink "DelayMachineLaw" (47 : Nat) ({ cls := "DelayMachine", name := "read", desc := "(II)I" } : Jvm.MethodName)) ∈ lw_g := List.mem_append_right _ (List.mem_filter.mpr ⟨List.mem_of_getElem? (i := 424) (by decide +kernel), rfl⟩)
theorem tw_425 : (Jvm.Cond.instanceMethod ({ cls := "DelayMachine", name := "read", desc := "(II)I" } : Jvm.MethodName)) ∈ lw_g := List.mem_append_right _ (List.mem_filter.mpr ⟨List.mem_of_getElem? (i := 425) (by decide +kernel), rfl⟩)
theorem tw_426 : (Jvm.Cond.selects "DelayMachine" ({ cls := "DelayMachine", name := "read", desc := "(II)I" } : Jvm.MethodName) ({ cls := "DelayMachine", name := "read", desc := "(II)I" } : Jvm.MethodName)) ∈ lw_g := List.mem_append_right _ (List.mem_filter.mpr ⟨List.mem_of_getElem? (i := 426) (by decide +kernel), rfl⟩)
theorem tw_427 : (Jvm.Cond.code ({ cls := "DelayMachine", name := "read", desc := "(II)I" } : Jvm.MethodName) prog_1_method_9_code (4 : Nat) (Option.some Jvm.ClassFile.FieldType.int)) ∈ lw_g := List.mem_append_right _ (List.mem_filter.mpr ⟨List.mem_of_getElem? (i := 427) (by decide +kernel), rfl⟩)
theorem tw_428 : (Jvm.Cond.methodLink "DelayMachineLaw" (52 : Nat) ({ cls := "DelayMachine", name := "punched", desc := "(I)S" } : Jvm.MethodName)) ∈ lw_g := List.mem_append_right _ (List.mem_filter.mpr ⟨List.mem_of_getElem? (i := 428) (by decide +kernel), rfl⟩)
theorem tw_429 : (Jvm.Cond.instanceMethod ({ cls := "DelayMachine", name := "punched", desc := "(I)S" } : Jvm.MethodName)) ∈ lw_g := List.mem_append_right _ (List.mem_filter.mpr ⟨List.mem_of_getElem? (i := 429) (by decide +kernel), rfl⟩)
theorem tw_430 : (Jvm.Cond.selects "DelayMachine" ({ cls := "DelayMachine", name := "punched", desc := "(I)S" } : Jvm.MethodName) ({ cls := "DelayMachine", name := "punched", desc := "(I)S" } : Jvm.MethodName)) ∈ lw_g := List.mem_append_right _ (List.mem_filter.mpr ⟨List.mem_of_getElem? (i := 430) (by decide +kernel), rfl⟩)
theorem tw_431 : (Jvm.Cond.code ({ cls := "DelayMachine", name := "punched", desc := "(I)S" } : Jvm.MethodName) prog_1_method_10_code (2 : Nat) (Option.some Jvm.ClassFile.FieldType.short)) ∈ lw_g := List.mem_append_right _ (List.mem_filter.mpr ⟨List.mem_of_getElem? (i := 431) (by decide +kernel), rfl⟩)
theorem tw_432 : (Jvm.Cond.methodLink "DelayMachineLaw" (57 : Nat) ({ cls := "DelayMachine", name := "statement", desc := "(IIIII)I" } : Jvm.MethodName)) ∈ lw_g := List.mem_append_right _ (List.mem_filter.mpr ⟨List.mem_of_getElem? (i := 432) (by decide +kernel), rfl⟩)
theorem tw_433 : (Jvm.Cond.instanceMethod ({ cls := "DelayMachine", name := "statement", desc := "(IIIII)I" } : Jvm.MethodName)) ∈ lw_g := List.mem_append_right _ (List.mem_filter.mpr ⟨List.mem_of_getElem? (i := 433) (by decide +kernel), rfl⟩)
theorem tw_434 : (Jvm.Cond.selects "DelayMachine" ({ cls := "DelayMachine", name := "statement", desc := "(IIIII)I" } : Jvm.MethodName) ({ cls := "DelayMachine", name := "statement", desc := "(IIIII)I" } : Jvm.MethodName)) ∈ lw_g := List.mem_append_right _ (List.mem_filter.mpr ⟨List.mem_of_getElem? (i := 434) (by decide +kernel), rfl⟩)
theorem tw_435 : (Jvm.Cond.code ({ cls := "DelayMachine", name := "statement", desc := "(IIIII)I" } : Jvm.MethodName) prog_1_method_11_code (6 : Nat) (Option.some Jvm.ClassFile.FieldType.int)) ∈ lw_g := List.mem_append_right _ (List.mem_filter.mpr ⟨List.mem_of_getElem? (i := 435) (by decide +kernel), rfl⟩)
theorem tw_436 : (Jvm.Cond.methodLink "DelayMachine" (122 : Nat) ({ cls := "DelayMachine$Program", name := "addStatement", desc := "(IIIII)I" } : Jvm.MethodName)) ∈ lw_g := List.mem_append_right _ (List.mem_filter.mpr ⟨List.mem_of_getElem? (i := 436) (by decide +kernel), rfl⟩)
theorem tw_437 : (Jvm.Cond.instanceMethod ({ cls := "DelayMachine$Program", name := "addStatement", desc := "(IIIII)I" } : Jvm.MethodName)) ∈ lw_g := List.mem_append_right _ (List.mem_filter.mpr ⟨List.mem_of_getElem? (i := 437) (by decide +kernel), rfl⟩)
theorem tw_438 : (Jvm.Cond.selects "DelayMachine$Program" ({ cls := "DelayMachine$Program", name := "addStatement", desc := "(IIIII)I" } : Jvm.MethodName) ({ cls := "DelayMachine$Program", name := "addStatement", desc := "(IIIII)I" } : Jvm.MethodName)) ∈ lw_g := List.mem_append_right _ (List.mem_filter.mpr ⟨List.mem_of_getElem? (i := 438) (by decide +kernel), rfl⟩)
theorem tw_439 : (Jvm.Cond.code ({ cls := "DelayMachine$Program", name := "addStatement", desc := "(IIIII)I" } : Jvm.MethodName) prog_5_method_2_code (9 : Nat) (Option.some Jvm.ClassFile.FieldType.int)) ∈ lw_g := List.mem_append_right _ (List.mem_filter.mpr ⟨List.mem_of_getElem? (i := 439) (by decide +kernel), rfl⟩)
theorem tw_440 : (Jvm.Cond.methodLink "DelayMachine$Program" (27 : Nat) ({ cls := "DelayMachine$Program", name := "isVariable", desc := "(I)Z" } : Jvm.MethodName)) ∈ lw_g := List.mem_append_right _ (List.mem_filter.mpr ⟨List.mem_of_getElem? (i := 440) (by decide +kernel), rfl⟩)
theorem tw_441 : (Jvm.Cond.static ({ cls := "DelayMachine$Program", name := "isVariable", desc := "(I)Z" } : Jvm.MethodName)) ∈ lw_g := List.mem_append_right _ (List.mem_filter.mpr ⟨List.mem_of_getElem? (i := 441) (by decide +kernel), rfl⟩)
theorem tw_442 : (Jvm.Cond.code ({ cls := "DelayMachine$Program", name := "isVariable", desc := "(I)Z" } : Jvm.MethodName) prog_5_method_3_code (1 : Nat) (Option.some Jvm.ClassFile.FieldType.boolean)) ∈ lw_g := List.mem_append_right _ (List.mem_filter.mpr ⟨List.mem_of_getElem? (i := 442) (by decide +kernel), rfl⟩)
theorem tw_443 : (Jvm.Cond.methodLink "DelayMachineLaw" (62 : Nat) ({ cls := "DelayMachine", name := "clear", desc := "()V" } : Jvm.MethodName)) ∈ lw_g := List.mem_append_right _ (List.mem_filter.mpr ⟨List.mem_of_getElem? (i := 443) (by decide +kernel), rfl⟩)
theorem tw_444 : (Jvm.Cond.instanceMethod ({ cls := "DelayMachine", name := "clear", desc := "()V" } : Jvm.MethodName)) ∈ lw_g := List.mem_append_right _ (List.mem_filter.mpr ⟨List.mem_of_getElem? (i := 444) (by decide +kernel), rfl⟩)
theorem tw_445 : (Jvm.Cond.selects "DelayMachine" ({ cls := "DelayMachine", name := "clear", desc := "()V" } : Jvm.MethodName) ({ cls := "DelayMachine", name := "clear", desc := "()V" } : Jvm.MethodName)) ∈ lw_g := List.mem_append_right _ (List.mem_filter.mpr ⟨List.mem_of_getElem? (i := 445) (by decide +kernel), rfl⟩)
theorem tw_446 : (Jvm.Cond.code ({ cls := "DelayMachine", name := "clear", desc := "()V" } : Jvm.MethodName) prog_1_method_12_code (1 : Nat) (Option.none : Option Jvm.ClassFile.FieldType)) ∈ lw_g := List.mem_append_right _ (List.mem_filter.mpr ⟨List.mem_of_getElem? (i := 446) (by decide +kernel), rfl⟩)
theorem tw_447 : (Jvm.Cond.methodLink "DelayMachineLaw" (66 : Nat) ({ cls := "DelayMachine", name := "assemble", desc := "()I" } : Jvm.MethodName)) ∈ lw_g := List.mem_append_right _ (List.mem_filter.mpr ⟨List.mem_of_getElem? (i := 447) (by decide +kernel), rfl⟩)
theorem tw_448 : (Jvm.Cond.instanceMethod ({ cls := "DelayMachine", name := "assemble", desc := "()I" } : Jvm.MethodName)) ∈ lw_g := List.mem_append_right _ (List.mem_filter.mpr ⟨List.mem_of_getElem? (i := 448) (by decide +kernel), rfl⟩)
theorem tw_449 : (Jvm.Cond.selects "DelayMachine" ({ cls := "DelayMachine", name := "assemble", desc := "()I" } : Jvm.MethodName) ({ cls := "DelayMachine", name := "assemble", desc := "()I" } : Jvm.MethodName)) ∈ lw_g := List.mem_append_right _ (List.mem_filter.mpr ⟨List.mem_of_getElem? (i := 449) (by decide +kernel), rfl⟩)
theorem tw_450 : (Jvm.Cond.code ({ cls := "DelayMachine", name := "assemble", desc := "()I" } : Jvm.MethodName) prog_1_method_13_code (2 : Nat) (Option.some Jvm.ClassFile.FieldType.int)) ∈ lw_g := List.mem_append_right _ (List.mem_filter.mpr ⟨List.mem_of_getElem? (i := 450) (by decide +kernel), rfl⟩)
theorem tw_451 : (Jvm.Cond.methodLink "DelayMachine" (127 : Nat) ({ cls := "DelayMachine$Program", name := "allGotosLead", desc := "()Z" } : Jvm.MethodName)) ∈ lw_g := List.mem_append_right _ (List.mem_filter.mpr ⟨List.mem_of_getElem? (i := 451) (by decide +kernel), rfl⟩)
theorem tw_452 : (Jvm.Cond.instanceMethod ({ cls := "DelayMachine$Program", name := "allGotosLead", desc := "()Z" } : Jvm.MethodName)) ∈ lw_g := List.mem_append_right _ (List.mem_filter.mpr ⟨List.mem_of_getElem? (i := 452) (by decide +kernel), rfl⟩)
theorem tw_453 : (Jvm.Cond.selects "DelayMachine$Program" ({ cls := "DelayMachine$Program", name := "allGotosLead", desc := "()Z" } : Jvm.MethodName) ({ cls := "DelayMachine$Program", name := "allGotosLead", desc := "()Z" } : Jvm.MethodName)) ∈ lw_g := List.mem_append_right _ (List.mem_filter.mpr ⟨List.mem_of_getElem? (i := 453) (by decide +kernel), rfl⟩)
theorem tw_454 : (Jvm.Cond.code ({ cls := "DelayMachine$Program", name := "allGotosLead", desc := "()Z" } : Jvm.MethodName) prog_5_method_4_code (2 : Nat) (Option.some Jvm.ClassFile.FieldType.boolean)) ∈ lw_g := List.mem_append_right _ (List.mem_filter.mpr ⟨List.mem_of_getElem? (i := 454) (by decide +kernel), rfl⟩)
theorem tw_455 : (Jvm.Cond.methodLink "DelayMachine" (131 : Nat) ({ cls := "DelayMachine$Placing", name := "placeAll", desc := "(LDelayMachine$Program;)Z" } : Jvm.MethodName)) ∈ lw_g := List.mem_append_right _ (List.mem_filter.mpr ⟨List.mem_of_getElem? (i := 455) (by decide +kernel), rfl⟩)
theorem tw_456 : (Jvm.Cond.instanceMethod ({ cls := "DelayMachine$Placing", name := "placeAll", desc := "(LDelayMachine$Program;)Z" } : Jvm.MethodName)) ∈ lw_g := List.mem_append_right _ (List.mem_filter.mpr ⟨List.mem_of_getElem? (i := 456) (by decide +kernel), rfl⟩)
theorem tw_457 : (Jvm.Cond.selects "DelayMachine$Placing" ({ cls := "DelayMachine$Placing", name := "placeAll", desc := "(LDelayMachine$Program;)Z" } : Jvm.MethodName) ({ cls := "DelayMachine$Placing", name := "placeAll", desc := "(LDelayMachine$Program;)Z" } : Jvm.MethodName)) ∈ lw_g := List.mem_append_right _ (List.mem_filter.mpr ⟨List.mem_of_getElem? (i := 457) (by decide +kernel), rfl⟩)
theorem tw_458 : (Jvm.Cond.code ({ cls := "DelayMachine$Placing", name := "placeAll", desc := "(LDelayMachine$Program;)Z" } : Jvm.MethodName) prog_4_method_2_code (3 : Nat) (Option.some Jvm.ClassFile.FieldType.boolean)) ∈ lw_g := List.mem_append_right _ (List.mem_filter.mpr ⟨List.mem_of_getElem? (i := 458) (by decide +kernel), rfl⟩)
theorem tw_459 : (Jvm.Cond.methodLink "DelayMachine$Placing" (33 : Nat) ({ cls := "DelayMachine$Placing", name := "forget", desc := "()V" } : Jvm.MethodName)) ∈ lw_g := List.mem_append_right _ (List.mem_filter.mpr ⟨List.mem_of_getElem? (i := 459) (by decide +kernel), rfl⟩)
theorem tw_461 : (Jvm.Cond.instanceMethod ({ cls := "DelayMachine$Placing", name := "forget", desc := "()V" } : Jvm.MethodName)) ∈ lw_g := List.mem_append_right _ (List.mem_filter.mpr ⟨List.mem_of_getElem? (i := 461) (by decide +kernel), rfl⟩)
theorem tw_462 : (Jvm.Cond.code ({ cls := "DelayMachine$Placing", name := "forget", desc := "()V" } : Jvm.MethodName) prog_4_method_3_code (1 : Nat) (Option.none : Option Jvm.ClassFile.FieldType)) ∈ lw_g := List.mem_append_right _ (List.mem_filter.mpr ⟨List.mem_of_getElem? (i := 462) (by decide +kernel), rfl⟩)
theorem tw_463 : (Jvm.Cond.methodLink "DelayMachine$Placing" (42 : Nat) ({ cls := "DelayMachine$Placing", name := "freeSpot", desc := "()I" } : Jvm.MethodName)) ∈ lw_g := List.mem_append_right _ (List.mem_filter.mpr ⟨List.mem_of_getElem? (i := 463) (by decide +kernel), rfl⟩)
theorem tw_465 : (Jvm.Cond.instanceMethod ({ cls := "DelayMachine$Placing", name := "freeSpot", desc := "()I" } : Jvm.MethodName)) ∈ lw_g := List.mem_append_right _ (List.mem_filter.mpr ⟨List.mem_of_getElem? (i := 465) (by decide +kernel), rfl⟩)
theorem tw_466 : (Jvm.Cond.code ({ cls := "DelayMachine$Placing", name := "freeSpot", desc := "()I" } : Jvm.MethodName) prog_4_method_10_code (4 : Nat) (Option.some Jvm.ClassFile.FieldType.int)) ∈ lw_g := List.mem_append_right _ (List.mem_filter.mpr ⟨List.mem_of_getElem? (i := 466) (by decide +kernel), rfl⟩)
theorem tw_467 : (Jvm.Cond.methodLink "DelayMachine$Placing" (110 : Nat) ({ cls := "DelayMachine$Placing", name := "isFree", desc := "(II)Z" } : Jvm.MethodName)) ∈ lw_g := List.mem_append_right _ (List.mem_filter.mpr ⟨List.mem_of_getElem? (i := 467) (by decide +kernel), rfl⟩)
theorem tw_469 : (Jvm.Cond.instanceMethod ({ cls := "DelayMachine$Placing", name := "isFree", desc := "(II)Z" } : Jvm.MethodName)) ∈ lw_g := List.mem_append_right _ (List.mem_filter.mpr ⟨List.mem_of_getElem? (i := 469) (by decide +kernel), rfl⟩)
theorem tw_470 : (Jvm.Cond.code ({ cls := "DelayMachine$Placing", name := "isFree", desc := "(II)Z" } : Jvm.MethodName) prog_4_method_12_code (3 : Nat) (Option.some Jvm.ClassFile.FieldType.boolean)) ∈ lw_g := List.mem_append_right _ (List.mem_filter.mpr ⟨List.mem_of_getElem? (i := 470) (by decide +kernel), rfl⟩)
theorem tw_471 : (Jvm.Cond.methodLink "DelayMachine$Placing" (46 : Nat) ({ cls := "DelayMachine$Placing", name := "placeStatement", desc := "(LDelayMachine$Program;I)V" } : Jvm.MethodName)) ∈ lw_g := List.mem_append_right _ (List.mem_filter.mpr ⟨List.mem_of_getElem? (i := 471) (by decide +kernel), rfl⟩)
theorem tw_473 : (Jvm.Cond.instanceMethod ({ cls := "DelayMachine$Placing", name := "placeStatement", desc := "(LDelayMachine$Program;I)V" } : Jvm.MethodName)) ∈ lw_g := List.mem_append_right _ (List.mem_filter.mpr ⟨List.mem_of_getElem? (i := 473) (by decide +kernel), rfl⟩)
theorem tw_474 : (Jvm.Cond.code ({ cls := "DelayMachine$Placing", name := "placeStatement", desc := "(LDelayMachine$Program;I)V" } : Jvm.MethodName) prog_4_method_4_code (5 : Nat) (Option.none : Option Jvm.ClassFile.FieldType)) ∈ lw_g := List.mem_append_right _ (List.mem_filter.mpr ⟨List.mem_of_getElem? (i := 474) (by decide +kernel), rfl⟩)
theorem tw_475 : (Jvm.Cond.methodLink "DelayMachine$Placing" (84 : Nat) ({ cls := "DelayMachine$Placing", name := "placeOrder", desc := "(III)V" } : Jvm.MethodName)) ∈ lw_g := List.mem_append_right _ (List.mem_filter.mpr ⟨List.mem_of_getElem? (i := 475) (by decide +kernel), rfl⟩)
theorem tw_477 : (Jvm.Cond.instanceMethod ({ cls := "DelayMachine$Placing", name := "placeOrder", desc := "(III)V" } : Jvm.MethodName)) ∈ lw_g := List.mem_append_right _ (List.mem_filter.mpr ⟨List.mem_of_getElem? (i := 477) (by decide +kernel), rfl⟩)
theorem tw_478 : (Jvm.Cond.code ({ cls := "DelayMachine$Placing", name := "placeOrder", desc := "(III)V" } : Jvm.MethodName) prog_4_method_5_code (7 : Nat) (Option.none : Option Jvm.ClassFile.FieldType)) ∈ lw_g := List.mem_append_right _ (List.mem_filter.mpr ⟨List.mem_of_getElem? (i := 478) (by decide +kernel), rfl⟩)
theorem tw_479 : (Jvm.Cond.methodLink "DelayMachine$Placing" (95 : Nat) ({ cls := "DelayMachine$Placing", name := "variablePlace", desc := "(II)I" } : Jvm.MethodName)) ∈ lw_g := List.mem_append_right _ (List.mem_filter.mpr ⟨List.mem_of_getElem? (i := 479) (by decide +kernel), rfl⟩)
theorem tw_481 : (Jvm.Cond.instanceMethod ({ cls := "DelayMachine$Placing", name := "variablePlace", desc := "(II)I" } : Jvm.MethodName)) ∈ lw_g := List.mem_append_right _ (List.mem_filter.mpr ⟨List.mem_of_getElem? (i := 481) (by decide +kernel), rfl⟩)
theorem tw_482 : (Jvm.Cond.code ({ cls := "DelayMachine$Placing", name := "variablePlace", desc := "(II)I" } : Jvm.MethodName) prog_4_method_13_code (5 : Nat) (Option.some Jvm.ClassFile.FieldType.int)) ∈ lw_g := List.mem_append_right _ (List.mem_filter.mpr ⟨List.mem_of_getElem? (i := 482) (by decide +kernel), rfl⟩)
theorem tw_483 : (Jvm.Cond.methodLink "DelayMachine$Placing" (99 : Nat) ({ cls := "DelayMachine$Placing", name := "occupy", desc := "(II)V" } : Jvm.MethodName)) ∈ lw_g := List.mem_append_right _ (List.mem_filter.mpr ⟨List.mem_of_getElem? (i := 483) (by decide +kernel), rfl⟩)
theorem tw_485 : (Jvm.Cond.instanceMethod ({ cls := "DelayMachine$Placing", name := "occupy", desc := "(II)V" } : Jvm.MethodName)) ∈ lw_g := List.mem_append_right _ (List.mem_filter.mpr ⟨List.mem_of_getElem? (i := 485) (by decide +kernel), rfl⟩)
theorem tw_486 : (Jvm.Cond.code ({ cls := "DelayMachine$Placing", name := "occupy", desc := "(II)V" } : Jvm.MethodName) prog_4_method_8_code (3 : Nat) (Option.none : Option Jvm.ClassFile.FieldType)) ∈ lw_g := List.mem_append_right _ (List.mem_filter.mpr ⟨List.mem_of_getElem? (i := 486) (by decide +kernel), rfl⟩)
theorem tw_487 : (Jvm.Cond.methodLink "DelayMachine$Placing" (107 : Nat) ({ cls := "DelayMachine$Placing", name := "lead", desc := "(II)V" } : Jvm.MethodName)) ∈ lw_g := List.mem_append_right _ (List.mem_filter.mpr ⟨List.mem_of_getElem? (i := 487) (by decide +kernel), rfl⟩)
theorem tw_489 : (Jvm.Cond.instanceMethod ({ cls := "DelayMachine$Placing", name := "lead", desc := "(II)V" } : Jvm.MethodName)) ∈ lw_g := List.mem_append_right _ (List.mem_filter.mpr ⟨List.mem_of_getElem? (i := 489) (by decide +kernel), rfl⟩)
theorem tw_490 : (Jvm.Cond.code ({ cls := "DelayMachine$Placing", name := "lead", desc := "(II)V" } : Jvm.MethodName) prog_4_method_9_code (4 : Nat) (Option.none : Option Jvm.ClassFile.FieldType)) ∈ lw_g := List.mem_append_right _ (List.mem_filter.mpr ⟨List.mem_of_getElem? (i := 490) (by decide +kernel), rfl⟩)
theorem tw_491 : (Jvm.Cond.methodLink "DelayMachine$Placing" (91 : Nat) ({ cls := "DelayMachine$Placing", name := "placeFork", desc := "(I)V" } : Jvm.MethodName)) ∈ lw_g := List.mem_append_right _ (List.mem_filter.mpr ⟨List.mem_of_getElem? (i := 491) (by decide +kernel), rfl⟩)
theorem tw_493 : (Jvm.Cond.instanceMethod ({ cls := "DelayMachine$Placing", name := "placeFork", desc := "(I)V" } : Jvm.MethodName)) ∈ lw_g := List.mem_append_right _ (List.mem_filter.mpr ⟨List.mem_of_getElem? (i := 493) (by decide +kernel), rfl⟩)
theorem tw_494 : (Jvm.Cond.code ({ cls := "DelayMachine$Placing", name := "placeFork", desc := "(I)V" } : Jvm.MethodName) prog_4_method_7_code (4 : Nat) (Option.none : Option Jvm.ClassFile.FieldType)) ∈ lw_g := List.mem_append_right _ (List.mem_filter.mpr ⟨List.mem_of_getElem? (i := 494) (by decide +kernel), rfl⟩)
theorem tw_495 : (Jvm.Cond.methodLink "DelayMachine$Placing" (104 : Nat) ({ cls := "DelayMachine$Placing", name := "forkSpot", desc := "()I" } : Jvm.MethodName)) ∈ lw_g := List.mem_append_right _ (List.mem_filter.mpr ⟨List.mem_of_getElem? (i := 495) (by decide +kernel), rfl⟩)
theorem tw_497 : (Jvm.Cond.instanceMethod ({ cls := "DelayMachine$Placing", name := "forkSpot", desc := "()I" } : Jvm.MethodName)) ∈ lw_g := List.mem_append_right _ (List.mem_filter.mpr ⟨List.mem_of_getElem? (i := 497) (by decide +kernel), rfl⟩)
theorem tw_498 : (Jvm.Cond.code ({ cls := "DelayMachine$Placing", name := "forkSpot", desc := "()I" } : Jvm.MethodName) prog_4_method_11_code (4 : Nat) (Option.some Jvm.ClassFile.FieldType.int)) ∈ lw_g := List.mem_append_right _ (List.mem_filter.mpr ⟨List.mem_of_getElem? (i := 498) (by decide +kernel), rfl⟩)
theorem tw_499 : (Jvm.Cond.methodLink "DelayMachine$Placing" (54 : Nat) ({ cls := "DelayMachine$Placing", name := "placeStop", desc := "()V" } : Jvm.MethodName)) ∈ lw_g := List.mem_append_right _ (List.mem_filter.mpr ⟨List.mem_of_getElem? (i := 499) (by decide +kernel), rfl⟩)
theorem tw_501 : (Jvm.Cond.instanceMethod ({ cls := "DelayMachine$Placing", name := "placeStop", desc := "()V" } : Jvm.MethodName)) ∈ lw_g := List.mem_append_right _ (List.mem_filter.mpr ⟨List.mem_of_getElem? (i := 501) (by decide +kernel), rfl⟩)
theorem tw_502 : (Jvm.Cond.code ({ cls := "DelayMachine$Placing", name := "placeStop", desc := "()V" } : Jvm.MethodName) prog_4_method_6_code (1 : Nat) (Option.none : Option Jvm.ClassFile.FieldType)) ∈ lw_g := List.mem_append_right _ (List.mem_filter.mpr ⟨List.mem_of_getElem? (i := 502) (by decide +kernel), rfl⟩)
theorem tw_503 : (Jvm.Cond.constant "DelayMachine$Placing" (103 : Nat) (1015824 : Int32)) ∈ lw_g := List.mem_append_right _ (List.mem_filter.mpr ⟨List.mem_of_getElem? (i := 503) (by decide +kernel), rfl⟩)
theorem tw_504 : (Jvm.Cond.methodLink "DelayMachine$Placing" (50 : Nat) ({ cls := "DelayMachine$Program", name := "endsWithHalt", desc := "()Z" } : Jvm.MethodName)) ∈ lw_g := List.mem_append_right _ (List.mem_filter.mpr ⟨List.mem_of_getElem? (i := 504) (by decide +kernel), rfl⟩)
theorem tw_505 : (Jvm.Cond.instanceMethod ({ cls := "DelayMachine$Program", name := "endsWithHalt", desc := "()Z" } : Jvm.MethodName)) ∈ lw_g := List.mem_append_right _ (List.mem_filter.mpr ⟨List.mem_of_getElem? (i := 505) (by decide +kernel), rfl⟩)
theorem tw_506 : (Jvm.Cond.selects "DelayMachine$Program" ({ cls := "DelayMachine$Program", name := "endsWithHalt", desc := "()Z" } : Jvm.MethodName) ({ cls := "DelayMachine$Program", name := "endsWithHalt", desc := "()Z" } : Jvm.MethodName)) ∈ lw_g := List.mem_append_right _ (List.mem_filter.mpr ⟨List.mem_of_getElem? (i := 506) (by decide +kernel), rfl⟩)
theorem tw_507 : (Jvm.Cond.code ({ cls := "DelayMachine$Program", name := "endsWithHalt", desc := "()Z" } : Jvm.MethodName) prog_5_method_5_code (1 : Nat) (Option.some Jvm.ClassFile.FieldType.boolean)) ∈ lw_g := List.mem_append_right _ (List.mem_filter.mpr ⟨List.mem_of_getElem? (i := 507) (by decide +kernel), rfl⟩)
theorem tw_508 : (Jvm.Cond.methodLink "DelayMachine$Placing" (61 : Nat) ({ cls := "DelayMachine$Placing", name := "leadBranches", desc := "(LDelayMachine$Program;)V" } : Jvm.MethodName)) ∈ lw_g := List.mem_append_right _ (List.mem_filter.mpr ⟨List.mem_of_getElem? (i := 508) (by decide +kernel), rfl⟩)
theorem tw_510 : (Jvm.Cond.instanceMethod ({ cls := "DelayMachine$Placing", name := "leadBranches", desc := "(LDelayMachine$Program;)V" } : Jvm.MethodName)) ∈ lw_g := List.mem_append_right _ (List.mem_filter.mpr ⟨List.mem_of_getElem? (i := 510) (by decide +kernel), rfl⟩)
theorem tw_511 : (Jvm.Cond.code ({ cls := "DelayMachine$Placing", name := "leadBranches", desc := "(LDelayMachine$Program;)V" } : Jvm.MethodName) prog_4_method_14_code (3 : Nat) (Option.none : Option Jvm.ClassFile.FieldType)) ∈ lw_g := List.mem_append_right _ (List.mem_filter.mpr ⟨List.mem_of_getElem? (i := 511) (by decide +kernel), rfl⟩)
theorem tw_512 : (Jvm.Cond.methodLink "DelayMachine$Placing" (65 : Nat) ({ cls := "DelayMachine$Placing", name := "fillWithStops", desc := "()V" } : Jvm.MethodName)) ∈ lw_g := List.mem_append_right _ (List.mem_filter.mpr ⟨List.mem_of_getElem? (i := 512) (by decide +kernel), rfl⟩)
theorem tw_514 : (Jvm.Cond.instanceMethod ({ cls := "DelayMachine$Placing", name := "fillWithStops", desc := "()V" } : Jvm.MethodName)) ∈ lw_g := List.mem_append_right _ (List.mem_filter.mpr ⟨List.mem_of_getElem? (i := 514) (by decide +kernel), rfl⟩)
theorem tw_515 : (Jvm.Cond.code ({ cls := "DelayMachine$Placing", name := "fillWithStops", desc := "()V" } : Jvm.MethodName) prog_4_method_15_code (2 : Nat) (Option.none : Option Jvm.ClassFile.FieldType)) ∈ lw_g := List.mem_append_right _ (List.mem_filter.mpr ⟨List.mem_of_getElem? (i := 515) (by decide +kernel), rfl⟩)
theorem tw_516 : (Jvm.Cond.methodLink "DelayMachine" (136 : Nat) ({ cls := "java/lang/System", name := "arraycopy", desc := "(Ljava/lang/Object;ILjava/lang/Object;II)V" } : Jvm.MethodName)) ∈ lw_g := List.mem_append_right _ (List.mem_filter.mpr ⟨List.mem_of_getElem? (i := 516) (by decide +kernel), rfl⟩)
theorem tw_517 : (Jvm.Cond.static ({ cls := "java/lang/System", name := "arraycopy", desc := "(Ljava/lang/Object;ILjava/lang/Object;II)V" } : Jvm.MethodName)) ∈ lw_g := List.mem_append_right _ (List.mem_filter.mpr ⟨List.mem_of_getElem? (i := 517) (by decide +kernel), rfl⟩)
theorem tw_518 : (Jvm.Cond.native ({ cls := "java/lang/System", name := "arraycopy", desc := "(Ljava/lang/Object;ILjava/lang/Object;II)V" } : Jvm.MethodName)) ∈ lw_g := List.mem_append_right _ (List.mem_filter.mpr ⟨List.mem_of_getElem? (i := 518) (by decide +kernel), rfl⟩)
theorem tw_519 : (Jvm.Cond.methodLink "DelayMachineLaw" (71 : Nat) ({ cls := "DelayMachine", name := "placed", desc := "(I)I" } : Jvm.MethodName)) ∈ lw_g := List.mem_append_right _ (List.mem_filter.mpr ⟨List.mem_of_getElem? (i := 519) (by decide +kernel), rfl⟩)
theorem tw_520 : (Jvm.Cond.instanceMethod ({ cls := "DelayMachine", name := "placed", desc := "(I)I" } : Jvm.MethodName)) ∈ lw_g := List.mem_append_right _ (List.mem_filter.mpr ⟨List.mem_of_getElem? (i := 520) (by decide +kernel), rfl⟩)
theorem tw_521 : (Jvm.Cond.selects "DelayMachine" ({ cls := "DelayMachine", name := "placed", desc := "(I)I" } : Jvm.MethodName) ({ cls := "DelayMachine", name := "placed", desc := "(I)I" } : Jvm.MethodName)) ∈ lw_g := List.mem_append_right _ (List.mem_filter.mpr ⟨List.mem_of_getElem? (i := 521) (by decide +kernel), rfl⟩)
theorem tw_522 : (Jvm.Cond.code ({ cls := "DelayMachine", name := "placed", desc := "(I)I" } : Jvm.MethodName) prog_1_method_14_code (2 : Nat) (Option.some Jvm.ClassFile.FieldType.int)) ∈ lw_g := List.mem_append_right _ (List.mem_filter.mpr ⟨List.mem_of_getElem? (i := 522) (by decide +kernel), rfl⟩)
theorem tw_523 : (Jvm.Cond.methodLink "DelayMachineLaw" (75 : Nat) ({ cls := "DelayMachine", name := "variable", desc := "(I)I" } : Jvm.MethodName)) ∈ lw_g := List.mem_append_right _ (List.mem_filter.mpr ⟨List.mem_of_getElem? (i := 523) (by decide +kernel), rfl⟩)
theorem tw_524 : (Jvm.Cond.instanceMethod ({ cls := "DelayMachine", name := "variable", desc := "(I)I" } : Jvm.MethodName)) ∈ lw_g := List.mem_append_right _ (List.mem_filter.mpr ⟨List.mem_of_getElem? (i := 524) (by decide +kernel), rfl⟩)
theorem tw_525 : (Jvm.Cond.selects "DelayMachine" ({ cls := "DelayMachine", name := "variable", desc := "(I)I" } : Jvm.MethodName) ({ cls := "DelayMachine", name := "variable", desc := "(I)I" } : Jvm.MethodName)) ∈ lw_g := List.mem_append_right _ (List.mem_filter.mpr ⟨List.mem_of_getElem? (i := 525) (by decide +kernel), rfl⟩)
theorem tw_526 : (Jvm.Cond.code ({ cls := "DelayMachine", name := "variable", desc := "(I)I" } : Jvm.MethodName) prog_1_method_15_code (2 : Nat) (Option.some Jvm.ClassFile.FieldType.int)) ∈ lw_g := List.mem_append_right _ (List.mem_filter.mpr ⟨List.mem_of_getElem? (i := 526) (by decide +kernel), rfl⟩)
theorem tw_527 : (Jvm.Cond.methodLink "DelayMachine" (146 : Nat) ({ cls := "DelayMachine$Program", name := "isVariable", desc := "(I)Z" } : Jvm.MethodName)) ∈ lw_g := List.mem_append_right _ (List.mem_filter.mpr ⟨List.mem_of_getElem? (i := 527) (by decide +kernel), rfl⟩)
theorem tw_528 : (Jvm.Cond.classLink "DelayMachineLaw" (10 : Nat) "DelayMachineModel") ∈ lw_g := List.mem_append_right _ (List.mem_filter.mpr ⟨List.mem_of_getElem? (i := 528) (by decide +kernel), rfl⟩)
theorem tw_529 : (Jvm.Cond.instantiable "DelayMachineModel" (47 : Nat)) ∈ lw_g := List.mem_append_right _ (List.mem_filter.mpr ⟨List.mem_of_getElem? (i := 529) (by decide +kernel), rfl⟩)
theorem tw_530 : (Jvm.Cond.methodLink "DelayMachineLaw" (12 : Nat) ({ cls := "DelayMachineModel", name := "<init>", desc := "()V" } : Jvm.MethodName)) ∈ lw_g := List.mem_append_right _ (List.mem_filter.mpr ⟨List.mem_of_getElem? (i := 530) (by decide +kernel), rfl⟩)
theorem tw_531 : (Jvm.Cond.instanceMethod ({ cls := "DelayMachineModel", name := "<init>", desc := "()V" } : Jvm.MethodName)) ∈ lw_g := List.mem_append_right _ (List.mem_filter.mpr ⟨List.mem_of_getElem? (i := 531) (by decide +kernel), rfl⟩)
theorem tw_532 : (Jvm.Cond.code ({ cls := "DelayMachineModel", name := "<init>", desc := "()V" } : Jvm.MethodName) prog_11_method_1_code (2 : Nat) (Option.none : Option Jvm.ClassFile.FieldType)) ∈ lw_g := List.mem_append_right _ (List.mem_filter.mpr ⟨List.mem_of_getElem? (i := 532) (by decide +kernel), rfl⟩)
theorem tw_533 : (Jvm.Cond.methodLink "DelayMachineModel" (1 : Nat) ({ cls := "java/lang/Object", name := "<init>", desc := "()V" } : Jvm.MethodName)) ∈ lw_g := List.mem_append_right _ (List.mem_filter.mpr ⟨List.mem_of_getElem? (i := 533) (by decide +kernel), rfl⟩)
theorem tw_534 : (Jvm.Cond.fieldLink "DelayMachineModel" (7 : Nat) "DelayMachineModel" "orders" "[I") ∈ lw_g := List.mem_append_right _ (List.mem_filter.mpr ⟨List.mem_of_getElem? (i := 534) (by decide +kernel), rfl⟩)
theorem tw_535 : (Jvm.Cond.fieldLink "DelayMachineModel" (13 : Nat) "DelayMachineModel" "words" "[S") ∈ lw_g := List.mem_append_right _ (List.mem_filter.mpr ⟨List.mem_of_getElem? (i := 535) (by decide +kernel), rfl⟩)
theorem tw_536 : (Jvm.Cond.fieldLink "DelayMachineModel" (128 : Nat) "DelayMachineModel" "now" "I") ∈ lw_g := List.mem_append_right _ (List.mem_filter.mpr ⟨List.mem_of_getElem? (i := 536) (by decide +kernel), rfl⟩)
theorem tw_537 : (Jvm.Cond.fieldLink "DelayMachineModel" (97 : Nat) "DelayMachineModel" "going" "Z") ∈ lw_g := List.mem_append_right _ (List.mem_filter.mpr ⟨List.mem_of_getElem? (i := 537) (by decide +kernel), rfl⟩)
theorem tw_538 : (Jvm.Cond.fieldLink "DelayMachineModel" (101 : Nat) "DelayMachineModel" "fault" "I") ∈ lw_g := List.mem_append_right _ (List.mem_filter.mpr ⟨List.mem_of_getElem? (i := 538) (by decide +kernel), rfl⟩)
theorem tw_539 : (Jvm.Cond.fieldLink "DelayMachineModel" (131 : Nat) "DelayMachineModel" "due" "I") ∈ lw_g := List.mem_append_right _ (List.mem_filter.mpr ⟨List.mem_of_getElem? (i := 539) (by decide +kernel), rfl⟩)
theorem tw_540 : (Jvm.Cond.fieldLink "DelayMachineModel" (134 : Nat) "DelayMachineModel" "dueLine" "I") ∈ lw_g := List.mem_append_right _ (List.mem_filter.mpr ⟨List.mem_of_getElem? (i := 540) (by decide +kernel), rfl⟩)
theorem tw_541 : (Jvm.Cond.fieldLink "DelayMachineModel" (110 : Nat) "DelayMachineModel" "line" "I") ∈ lw_g := List.mem_append_right _ (List.mem_filter.mpr ⟨List.mem_of_getElem? (i := 541) (by decide +kernel), rfl⟩)
theorem tw_542 : (Jvm.Cond.fieldLink "DelayMachineModel" (113 : Nat) "DelayMachineModel" "place" "I") ∈ lw_g := List.mem_append_right _ (List.mem_filter.mpr ⟨List.mem_of_getElem? (i := 542) (by decide +kernel), rfl⟩)
theorem tw_543 : (Jvm.Cond.fieldLink "DelayMachineModel" (107 : Nat) "DelayMachineModel" "count" "I") ∈ lw_g := List.mem_append_right _ (List.mem_filter.mpr ⟨List.mem_of_getElem? (i := 543) (by decide +kernel), rfl⟩)
theorem tw_544 : (Jvm.Cond.fieldLink "DelayMachineModel" (141 : Nat) "DelayMachineModel" "order" "I") ∈ lw_g := List.mem_append_right _ (List.mem_filter.mpr ⟨List.mem_of_getElem? (i := 544) (by decide +kernel), rfl⟩)
theorem tw_545 : (Jvm.Cond.fieldLink "DelayMachineModel" (116 : Nat) "DelayMachineModel" "opens" "I") ∈ lw_g := List.mem_append_right _ (List.mem_filter.mpr ⟨List.mem_of_getElem? (i := 545) (by decide +kernel), rfl⟩)
theorem tw_546 : (Jvm.Cond.fieldLink "DelayMachineModel" (119 : Nat) "DelayMachineModel" "closes" "I") ∈ lw_g := List.mem_append_right _ (List.mem_filter.mpr ⟨List.mem_of_getElem? (i := 546) (by decide +kernel), rfl⟩)
theorem tw_547 : (Jvm.Cond.fieldLink "DelayMachineModel" (144 : Nat) "DelayMachineModel" "lastOrder" "I") ∈ lw_g := List.mem_append_right _ (List.mem_filter.mpr ⟨List.mem_of_getElem? (i := 547) (by decide +kernel), rfl⟩)
theorem tw_548 : (Jvm.Cond.fieldLink "DelayMachineModel" (122 : Nat) "DelayMachineModel" "lastOpens" "I") ∈ lw_g := List.mem_append_right _ (List.mem_filter.mpr ⟨List.mem_of_getElem? (i := 548) (by decide +kernel), rfl⟩)
theorem tw_549 : (Jvm.Cond.fieldLink "DelayMachineModel" (125 : Nat) "DelayMachineModel" "lastCloses" "I") ∈ lw_g := List.mem_append_right _ (List.mem_filter.mpr ⟨List.mem_of_getElem? (i := 549) (by decide +kernel), rfl⟩)
theorem tw_550 : (Jvm.Cond.fieldLink "DelayMachineModel" (150 : Nat) "DelayMachineModel" "turned" "Z") ∈ lw_g := List.mem_append_right _ (List.mem_filter.mpr ⟨List.mem_of_getElem? (i := 550) (by decide +kernel), rfl⟩)
theorem tw_551 : (Jvm.Cond.fieldLink "DelayMachineModel" (104 : Nat) "DelayMachineModel" "work" "I") ∈ lw_g := List.mem_append_right _ (List.mem_filter.mpr ⟨List.mem_of_getElem? (i := 551) (by decide +kernel), rfl⟩)
theorem tw_552 : (Jvm.Cond.fieldLink "DelayMachineModel" (161 : Nat) "DelayMachineModel" "factor" "I") ∈ lw_g := List.mem_append_right _ (List.mem_filter.mpr ⟨List.mem_of_getElem? (i := 552) (by decide +kernel), rfl⟩)
theorem tw_553 : (Jvm.Cond.fieldLink "DelayMachineModel" (94 : Nat) "DelayMachineModel" "cards" "I") ∈ lw_g := List.mem_append_right _ (List.mem_filter.mpr ⟨List.mem_of_getElem? (i := 553) (by decide +kernel), rfl⟩)
theorem tw_554 : (Jvm.Cond.fieldLink "DelayMachineModel" (91 : Nat) "DelayMachineModel" "came" "I") ∈ lw_g := List.mem_append_right _ (List.mem_filter.mpr ⟨List.mem_of_getElem? (i := 554) (by decide +kernel), rfl⟩)
theorem tw_555 : (Jvm.Cond.fieldLink "DelayMachineModel" (17 : Nat) "DelayMachineModel" "deck" "[S") ∈ lw_g := List.mem_append_right _ (List.mem_filter.mpr ⟨List.mem_of_getElem? (i := 555) (by decide +kernel), rfl⟩)
theorem tw_556 : (Jvm.Cond.fieldLink "DelayMachineModel" (20 : Nat) "DelayMachineModel" "card" "[S") ∈ lw_g := List.mem_append_right _ (List.mem_filter.mpr ⟨List.mem_of_getElem? (i := 556) (by decide +kernel), rfl⟩)
theorem tw_557 : (Jvm.Cond.fieldLink "DelayMachineModel" (23 : Nat) "DelayMachineModel" "fed" "I") ∈ lw_g := List.mem_append_right _ (List.mem_filter.mpr ⟨List.mem_of_getElem? (i := 557) (by decide +kernel), rfl⟩)
theorem tw_558 : (Jvm.Cond.fieldLink "DelayMachineModel" (175 : Nat) "DelayMachineModel" "moved" "Z") ∈ lw_g := List.mem_append_right _ (List.mem_filter.mpr ⟨List.mem_of_getElem? (i := 558) (by decide +kernel), rfl⟩)
theorem tw_559 : (Jvm.Cond.fieldLink "DelayMachineModel" (178 : Nat) "DelayMachineModel" "punches" "I") ∈ lw_g := List.mem_append_right _ (List.mem_filter.mpr ⟨List.mem_of_getElem? (i := 559) (by decide +kernel), rfl⟩)
theorem tw_560 : (Jvm.Cond.fieldLink "DelayMachineModel" (27 : Nat) "DelayMachineModel" "punch" "[S") ∈ lw_g := List.mem_append_right _ (List.mem_filter.mpr ⟨List.mem_of_getElem? (i := 560) (by decide +kernel), rfl⟩)
theorem tw_561 : (Jvm.Cond.fieldLink "DelayMachineModel" (30 : Nat) "DelayMachineModel" "punchedAt" "I") ∈ lw_g := List.mem_append_right _ (List.mem_filter.mpr ⟨List.mem_of_getElem? (i := 561) (by decide +kernel), rfl⟩)
theorem tw_562 : (Jvm.Cond.fieldLink "DelayMachineModel" (206 : Nat) "DelayMachineModel" "statements" "I") ∈ lw_g := List.mem_append_right _ (List.mem_filter.mpr ⟨List.mem_of_getElem? (i := 562) (by decide +kernel), rfl⟩)
theorem tw_563 : (Jvm.Cond.fieldLink "DelayMachineModel" (33 : Nat) "DelayMachineModel" "operation" "[I") ∈ lw_g := List.mem_append_right _ (List.mem_filter.mpr ⟨List.mem_of_getElem? (i := 563) (by decide +kernel), rfl⟩)
theorem tw_564 : (Jvm.Cond.fieldLink "DelayMachineModel" (36 : Nat) "DelayMachineModel" "first" "[I") ∈ lw_g := List.mem_append_right _ (List.mem_filter.mpr ⟨List.mem_of_getElem? (i := 564) (by decide +kernel), rfl⟩)
theorem tw_565 : (Jvm.Cond.fieldLink "DelayMachineModel" (39 : Nat) "DelayMachineModel" "second" "[I") ∈ lw_g := List.mem_append_right _ (List.mem_filter.mpr ⟨List.mem_of_getElem? (i := 565) (by decide +kernel), rfl⟩)
theorem tw_566 : (Jvm.Cond.fieldLink "DelayMachineModel" (42 : Nat) "DelayMachineModel" "third" "[I") ∈ lw_g := List.mem_append_right _ (List.mem_filter.mpr ⟨List.mem_of_getElem? (i := 566) (by decide +kernel), rfl⟩)
theorem tw_567 : (Jvm.Cond.fieldLink "DelayMachineModel" (45 : Nat) "DelayMachineModel" "goTo" "[I") ∈ lw_g := List.mem_append_right _ (List.mem_filter.mpr ⟨List.mem_of_getElem? (i := 567) (by decide +kernel), rfl⟩)
theorem tw_568 : (Jvm.Cond.fieldLink "DelayMachineModel" (209 : Nat) "DelayMachineModel" "listed" "I") ∈ lw_g := List.mem_append_right _ (List.mem_filter.mpr ⟨List.mem_of_getElem? (i := 568) (by decide +kernel), rfl⟩)
theorem tw_569 : (Jvm.Cond.fieldLink "DelayMachineModel" (48 : Nat) "DelayMachineModel" "source" "[I") ∈ lw_g := List.mem_append_right _ (List.mem_filter.mpr ⟨List.mem_of_getElem? (i := 569) (by decide +kernel), rfl⟩)
theorem tw_570 : (Jvm.Cond.fieldLink "DelayMachineModel" (51 : Nat) "DelayMachineModel" "goal" "[I") ∈ lw_g := List.mem_append_right _ (List.mem_filter.mpr ⟨List.mem_of_getElem? (i := 570) (by decide +kernel), rfl⟩)
theorem tw_571 : (Jvm.Cond.fieldLink "DelayMachineModel" (54 : Nat) "DelayMachineModel" "operand" "[I") ∈ lw_g := List.mem_append_right _ (List.mem_filter.mpr ⟨List.mem_of_getElem? (i := 571) (by decide +kernel), rfl⟩)
theorem tw_572 : (Jvm.Cond.fieldLink "DelayMachineModel" (57 : Nat) "DelayMachineModel" "owner" "[I") ∈ lw_g := List.mem_append_right _ (List.mem_filter.mpr ⟨List.mem_of_getElem? (i := 572) (by decide +kernel), rfl⟩)
theorem tw_573 : (Jvm.Cond.fieldLink "DelayMachineModel" (60 : Nat) "DelayMachineModel" "spot" "[I") ∈ lw_g := List.mem_append_right _ (List.mem_filter.mpr ⟨List.mem_of_getElem? (i := 573) (by decide +kernel), rfl⟩)
theorem tw_574 : (Jvm.Cond.fieldLink "DelayMachineModel" (63 : Nat) "DelayMachineModel" "waits" "[I") ∈ lw_g := List.mem_append_right _ (List.mem_filter.mpr ⟨List.mem_of_getElem? (i := 574) (by decide +kernel), rfl⟩)
theorem tw_575 : (Jvm.Cond.fieldLink "DelayMachineModel" (66 : Nat) "DelayMachineModel" "taken" "[Z") ∈ lw_g := List.mem_append_right _ (List.mem_filter.mpr ⟨List.mem_of_getElem? (i := 575) (by decide +kernel), rfl⟩)
theorem tw_576 : (Jvm.Cond.fieldLink "DelayMachineModel" (70 : Nat) "DelayMachineModel" "held" "[Z") ∈ lw_g := List.mem_append_right _ (List.mem_filter.mpr ⟨List.mem_of_getElem? (i := 576) (by decide +kernel), rfl⟩)
theorem tw_577 : (Jvm.Cond.fieldLink "DelayMachineModel" (73 : Nat) "DelayMachineModel" "places" "[I") ∈ lw_g := List.mem_append_right _ (List.mem_filter.mpr ⟨List.mem_of_getElem? (i := 577) (by decide +kernel), rfl⟩)
theorem tw_578 : (Jvm.Cond.fieldLink "DelayMachineModel" (239 : Nat) "DelayMachineModel" "known" "I") ∈ lw_g := List.mem_append_right _ (List.mem_filter.mpr ⟨List.mem_of_getElem? (i := 578) (by decide +kernel), rfl⟩)
theorem tw_579 : (Jvm.Cond.fieldLink "DelayMachineModel" (76 : Nat) "DelayMachineModel" "begins" "[I") ∈ lw_g := List.mem_append_right _ (List.mem_filter.mpr ⟨List.mem_of_getElem? (i := 579) (by decide +kernel), rfl⟩)
theorem tw_580 : (Jvm.Cond.fieldLink "DelayMachineModel" (79 : Nat) "DelayMachineModel" "variables" "[I") ∈ lw_g := List.mem_append_right _ (List.mem_filter.mpr ⟨List.mem_of_getElem? (i := 580) (by decide +kernel), rfl⟩)
theorem tw_676 : (Jvm.Cond.arrayClass Jvm.ClassFile.FieldType.boolean) ∈ lw_g := List.mem_append_right _ (List.mem_filter.mpr ⟨List.mem_of_getElem? (i := 676) (by decide +kernel), rfl⟩)
theorem tw_677 : (Jvm.Cond.methodLink "DelayMachineLaw" (17 : Nat) ({ cls := "DelayMachineModel", name := "order", desc := "(III)Z" } : Jvm.MethodName)) ∈ lw_g := List.mem_append_right _ (List.mem_filter.mpr ⟨List.mem_of_getElem? (i := 677) (by decide +kernel), rfl⟩)
theorem tw_678 : (Jvm.Cond.instanceMethod ({ cls := "DelayMachineModel", name := "order", desc := "(III)Z" } : Jvm.MethodName)) ∈ lw_g := List.mem_append_right _ (List.mem_filter.mpr ⟨List.mem_of_getElem? (i := 678) (by decide +kernel), rfl⟩)
theorem tw_679 : (Jvm.Cond.selects "DelayMachineModel" ({ cls := "DelayMachineModel", name := "order", desc := "(III)Z" } : Jvm.MethodName) ({ cls := "DelayMachineModel", name := "order", desc := "(III)Z" } : Jvm.MethodName)) ∈ lw_g := List.mem_append_right _ (List.mem_filter.mpr ⟨List.mem_of_getElem? (i := 679) (by decide +kernel), rfl⟩)
theorem tw_680 : (Jvm.Cond.code ({ cls := "DelayMachineModel", name := "order", desc := "(III)Z" } : Jvm.MethodName) prog_11_method_4_code (4 : Nat) (Option.some Jvm.ClassFile.FieldType.boolean)) ∈ lw_g := List.mem_append_right _ (List.mem_filter.mpr ⟨List.mem_of_getElem? (i := 680) (by decide +kernel), rfl⟩)
theorem tw_681 : (Jvm.Cond.methodLink "DelayMachineModel" (82 : Nat) ({ cls := "DelayMachineModel", name := "isOrder", desc := "(II)Z" } : Jvm.MethodName)) ∈ lw_g := List.mem_append_right _ (List.mem_filter.mpr ⟨List.mem_of_getElem? (i := 681) (by decide +kernel), rfl⟩)
theorem tw_682 : (Jvm.Cond.static ({ cls := "DelayMachineModel", name := "isOrder", desc := "(II)Z" } : Jvm.MethodName)) ∈ lw_g := List.mem_append_right _ (List.mem_filter.mpr ⟨List.mem_of_getElem? (i := 682) (by decide +kernel), rfl⟩)
theorem tw_683 : (Jvm.Cond.code ({ cls := "DelayMachineModel", name := "isOrder", desc := "(II)Z" } : Jvm.MethodName) prog_11_method_3_code (2 : Nat) (Option.some Jvm.ClassFile.FieldType.boolean)) ∈ lw_g := List.mem_append_right _ (List.mem_filter.mpr ⟨List.mem_of_getElem? (i := 683) (by decide +kernel), rfl⟩)
theorem tw_684 : (Jvm.Cond.constant "DelayMachineModel" (86 : Nat) (2097151 : Int32)) ∈ lw_g := List.mem_append_right _ (List.mem_filter.mpr ⟨List.mem_of_getElem? (i := 684) (by decide +kernel), rfl⟩)
theorem tw_685 : (Jvm.Cond.methodLink "DelayMachineLaw" (22 : Nat) ({ cls := "DelayMachineModel", name := "word", desc := "(IIS)Z" } : Jvm.MethodName)) ∈ lw_g := List.mem_append_right _ (List.mem_filter.mpr ⟨List.mem_of_getElem? (i := 685) (by decide +kernel), rfl⟩)
theorem tw_686 : (Jvm.Cond.instanceMethod ({ cls := "DelayMachineModel", name := "word", desc := "(IIS)Z" } : Jvm.MethodName)) ∈ lw_g := List.mem_append_right _ (List.mem_filter.mpr ⟨List.mem_of_getElem? (i := 686) (by decide +kernel), rfl⟩)
theorem tw_687 : (Jvm.Cond.selects "DelayMachineModel" ({ cls := "DelayMachineModel", name := "word", desc := "(IIS)Z" } : Jvm.MethodName) ({ cls := "DelayMachineModel", name := "word", desc := "(IIS)Z" } : Jvm.MethodName)) ∈ lw_g := List.mem_append_right _ (List.mem_filter.mpr ⟨List.mem_of_getElem? (i := 687) (by decide +kernel), rfl⟩)
theorem tw_688 : (Jvm.Cond.code ({ cls := "DelayMachineModel", name := "word", desc := "(IIS)Z" } : Jvm.MethodName) prog_11_method_5_code (5 : Nat) (Option.some Jvm.ClassFile.FieldType.boolean)) ∈ lw_g := List.mem_append_right _ (List.mem_filter.mpr ⟨List.mem_of_getElem? (i := 688) (by decide +kernel), rfl⟩)
theorem tw_689 : (Jvm.Cond.methodLink "DelayMachineModel" (87 : Nat) ({ cls := "DelayMachineModel", name := "wordAt", desc := "(II)I" } : Jvm.MethodName)) ∈ lw_g := List.mem_append_right _ (List.mem_filter.mpr ⟨List.mem_of_getElem? (i := 689) (by decide +kernel), rfl⟩)
theorem tw_690 : (Jvm.Cond.static ({ cls := "DelayMachineModel", name := "wordAt", desc := "(II)I" } : Jvm.MethodName)) ∈ lw_g := List.mem_append_right _ (List.mem_filter.mpr ⟨List.mem_of_getElem? (i := 690) (by decide +kernel), rfl⟩)
theorem tw_691 : (Jvm.Cond.code ({ cls := "DelayMachineModel", name := "wordAt", desc := "(II)I" } : Jvm.MethodName) prog_11_method_2_code (2 : Nat) (Option.some Jvm.ClassFile.FieldType.int)) ∈ lw_g := List.mem_append_right _ (List.mem_filter.mpr ⟨List.mem_of_getElem? (i := 691) (by decide +kernel), rfl⟩)
theorem tw_692 : (Jvm.Cond.methodLink "DelayMachineLaw" (27 : Nat) ({ cls := "DelayMachineModel", name := "card", desc := "(S)Z" } : Jvm.MethodName)) ∈ lw_g := List.mem_append_right _ (List.mem_filter.mpr ⟨List.mem_of_getElem? (i := 692) (by decide +kernel), rfl⟩)
theorem tw_693 : (Jvm.Cond.instanceMethod ({ cls := "DelayMachineModel", name := "card", desc := "(S)Z" } : Jvm.MethodName)) ∈ lw_g := List.mem_append_right _ (List.mem_filter.mpr ⟨List.mem_of_getElem? (i := 693) (by decide +kernel), rfl⟩)
theorem tw_694 : (Jvm.Cond.selects "DelayMachineModel" ({ cls := "DelayMachineModel", name := "card", desc := "(S)Z" } : Jvm.MethodName) ({ cls := "DelayMachineModel", name := "card", desc := "(S)Z" } : Jvm.MethodName)) ∈ lw_g := List.mem_append_right _ (List.mem_filter.mpr ⟨List.mem_of_getElem? (i := 694) (by decide +kernel), rfl⟩)
theorem tw_695 : (Jvm.Cond.code ({ cls := "DelayMachineModel", name := "card", desc := "(S)Z" } : Jvm.MethodName) prog_11_method_6_code (2 : Nat) (Option.some Jvm.ClassFile.FieldType.boolean)) ∈ lw_g := List.mem_append_right _ (List.mem_filter.mpr ⟨List.mem_of_getElem? (i := 695) (by decide +kernel), rfl⟩)
theorem tw_696 : (Jvm.Cond.methodLink "DelayMachineLaw" (32 : Nat) ({ cls := "DelayMachineModel", name := "start", desc := "(II)Z" } : Jvm.MethodName)) ∈ lw_g := List.mem_append_right _ (List.mem_filter.mpr ⟨List.mem_of_getElem? (i := 696) (by decide +kernel), rfl⟩)
theorem tw_697 : (Jvm.Cond.instanceMethod ({ cls := "DelayMachineModel", name := "start", desc := "(II)Z" } : Jvm.MethodName)) ∈ lw_g := List.mem_append_right _ (List.mem_filter.mpr ⟨List.mem_of_getElem? (i := 697) (by decide +kernel), rfl⟩)
theorem tw_698 : (Jvm.Cond.selects "DelayMachineModel" ({ cls := "DelayMachineModel", name := "start", desc := "(II)Z" } : Jvm.MethodName) ({ cls := "DelayMachineModel", name := "start", desc := "(II)Z" } : Jvm.MethodName)) ∈ lw_g := List.mem_append_right _ (List.mem_filter.mpr ⟨List.mem_of_getElem? (i := 698) (by decide +kernel), rfl⟩)
theorem tw_699 : (Jvm.Cond.code ({ cls := "DelayMachineModel", name := "start", desc := "(II)Z" } : Jvm.MethodName) prog_11_method_7_code (3 : Nat) (Option.some Jvm.ClassFile.FieldType.boolean)) ∈ lw_g := List.mem_append_right _ (List.mem_filter.mpr ⟨List.mem_of_getElem? (i := 699) (by decide +kernel), rfl⟩)
theorem tw_700 : (Jvm.Cond.methodLink "DelayMachineLaw" (37 : Nat) ({ cls := "DelayMachineModel", name := "run", desc := "(I)I" } : Jvm.MethodName)) ∈ lw_g := List.mem_append_right _ (List.mem_filter.mpr ⟨List.mem_of_getElem? (i := 700) (by decide +kernel), rfl⟩)
theorem tw_701 : (Jvm.Cond.instanceMethod ({ cls := "DelayMachineModel", name := "run", desc := "(I)I" } : Jvm.MethodName)) ∈ lw_g := List.mem_append_right _ (List.mem_filter.mpr ⟨List.mem_of_getElem? (i := 701) (by decide +kernel), rfl⟩)
theorem tw_702 : (Jvm.Cond.selects "DelayMachineModel" ({ cls := "DelayMachineModel", name := "run", desc := "(I)I" } : Jvm.MethodName) ({ cls := "DelayMachineModel", name := "run", desc := "(I)I" } : Jvm.MethodName)) ∈ lw_g := List.mem_append_right _ (List.mem_filter.mpr ⟨List.mem_of_getElem? (i := 702) (by decide +kernel), rfl⟩)
theorem tw_703 : (Jvm.Cond.code ({ cls := "DelayMachineModel", name := "run", desc := "(I)I" } : Jvm.MethodName) prog_11_method_21_code (3 : Nat) (Option.some Jvm.ClassFile.FieldType.int)) ∈ lw_g := List.mem_append_right _ (List.mem_filter.mpr ⟨List.mem_of_getElem? (i := 703) (by decide +kernel), rfl⟩)
theorem tw_704 : (Jvm.Cond.methodLink "DelayMachineModel" (199 : Nat) ({ cls := "DelayMachineModel", name := "cycle", desc := "()V" } : Jvm.MethodName)) ∈ lw_g := List.mem_append_right _ (List.mem_filter.mpr ⟨List.mem_of_getElem? (i := 704) (by decide +kernel), rfl⟩)
theorem tw_706 : (Jvm.Cond.instanceMethod ({ cls := "DelayMachineModel", name := "cycle", desc := "()V" } : Jvm.MethodName)) ∈ lw_g := List.mem_append_right _ (List.mem_filter.mpr ⟨List.mem_of_getElem? (i := 706) (by decide +kernel), rfl⟩)
theorem tw_707 : (Jvm.Cond.code ({ cls := "DelayMachineModel", name := "cycle", desc := "()V" } : Jvm.MethodName) prog_11_method_19_code (6 : Nat) (Option.none : Option Jvm.ClassFile.FieldType)) ∈ lw_g := List.mem_append_right _ (List.mem_filter.mpr ⟨List.mem_of_getElem? (i := 707) (by decide +kernel), rfl⟩)
theorem tw_708 : (Jvm.Cond.methodLink "DelayMachineModel" (181 : Nat) ({ cls := "DelayMachineModel", name := "read", desc := "()V" } : Jvm.MethodName)) ∈ lw_g := List.mem_append_right _ (List.mem_filter.mpr ⟨List.mem_of_getElem? (i := 708) (by decide +kernel), rfl⟩)
theorem tw_710 : (Jvm.Cond.instanceMethod ({ cls := "DelayMachineModel", name := "read", desc := "()V" } : Jvm.MethodName)) ∈ lw_g := List.mem_append_right _ (List.mem_filter.mpr ⟨List.mem_of_getElem? (i := 710) (by decide +kernel), rfl⟩)
theorem tw_711 : (Jvm.Cond.code ({ cls := "DelayMachineModel", name := "read", desc := "()V" } : Jvm.MethodName) prog_11_method_10_code (2 : Nat) (Option.none : Option Jvm.ClassFile.FieldType)) ∈ lw_g := List.mem_append_right _ (List.mem_filter.mpr ⟨List.mem_of_getElem? (i := 711) (by decide +kernel), rfl⟩)
theorem tw_712 : (Jvm.Cond.methodLink "DelayMachineModel" (137 : Nat) ({ cls := "DelayMachineModel", name := "waitOf", desc := "(I)I" } : Jvm.MethodName)) ∈ lw_g := List.mem_append_right _ (List.mem_filter.mpr ⟨List.mem_of_getElem? (i := 712) (by decide +kernel), rfl⟩)
theorem tw_713 : (Jvm.Cond.static ({ cls := "DelayMachineModel", name := "waitOf", desc := "(I)I" } : Jvm.MethodName)) ∈ lw_g := List.mem_append_right _ (List.mem_filter.mpr ⟨List.mem_of_getElem? (i := 713) (by decide +kernel), rfl⟩)
theorem tw_714 : (Jvm.Cond.code ({ cls := "DelayMachineModel", name := "waitOf", desc := "(I)I" } : Jvm.MethodName) prog_11_method_8_code (1 : Nat) (Option.some Jvm.ClassFile.FieldType.int)) ∈ lw_g := List.mem_append_right _ (List.mem_filter.mpr ⟨List.mem_of_getElem? (i := 714) (by decide +kernel), rfl⟩)
theorem tw_715 : (Jvm.Cond.methodLink "DelayMachineModel" (147 : Nat) ({ cls := "DelayMachineModel", name := "gapOf", desc := "(I)I" } : Jvm.MethodName)) ∈ lw_g := List.mem_append_right _ (List.mem_filter.mpr ⟨List.mem_of_getElem? (i := 715) (by decide +kernel), rfl⟩)
theorem tw_716 : (Jvm.Cond.static ({ cls := "DelayMachineModel", name := "gapOf", desc := "(I)I" } : Jvm.MethodName)) ∈ lw_g := List.mem_append_right _ (List.mem_filter.mpr ⟨List.mem_of_getElem? (i := 716) (by decide +kernel), rfl⟩)
theorem tw_717 : (Jvm.Cond.code ({ cls := "DelayMachineModel", name := "gapOf", desc := "(I)I" } : Jvm.MethodName) prog_11_method_9_code (2 : Nat) (Option.some Jvm.ClassFile.FieldType.int)) ∈ lw_g := List.mem_append_right _ (List.mem_filter.mpr ⟨List.mem_of_getElem? (i := 717) (by decide +kernel), rfl⟩)
theorem tw_718 : (Jvm.Cond.methodLink "DelayMachineModel" (153 : Nat) ({ cls := "DelayMachineModel", name := "row", desc := "()I" } : Jvm.MethodName)) ∈ lw_g := List.mem_append_right _ (List.mem_filter.mpr ⟨List.mem_of_getElem? (i := 718) (by decide +kernel), rfl⟩)
theorem tw_720 : (Jvm.Cond.instanceMethod ({ cls := "DelayMachineModel", name := "row", desc := "()I" } : Jvm.MethodName)) ∈ lw_g := List.mem_append_right _ (List.mem_filter.mpr ⟨List.mem_of_getElem? (i := 720) (by decide +kernel), rfl⟩)
theorem tw_721 : (Jvm.Cond.code ({ cls := "DelayMachineModel", name := "row", desc := "()I" } : Jvm.MethodName) prog_11_method_11_code (2 : Nat) (Option.some Jvm.ClassFile.FieldType.int)) ∈ lw_g := List.mem_append_right _ (List.mem_filter.mpr ⟨List.mem_of_getElem? (i := 721) (by decide +kernel), rfl⟩)
theorem tw_722 : (Jvm.Cond.methodLink "DelayMachineModel" (184 : Nat) ({ cls := "DelayMachineModel", name := "current", desc := "()I" } : Jvm.MethodName)) ∈ lw_g := List.mem_append_right _ (List.mem_filter.mpr ⟨List.mem_of_getElem? (i := 722) (by decide +kernel), rfl⟩)
theorem tw_724 : (Jvm.Cond.instanceMethod ({ cls := "DelayMachineModel", name := "current", desc := "()I" } : Jvm.MethodName)) ∈ lw_g := List.mem_append_right _ (List.mem_filter.mpr ⟨List.mem_of_getElem? (i := 724) (by decide +kernel), rfl⟩)
theorem tw_725 : (Jvm.Cond.code ({ cls := "DelayMachineModel", name := "current", desc := "()I" } : Jvm.MethodName) prog_11_method_18_code (1 : Nat) (Option.some Jvm.ClassFile.FieldType.int)) ∈ lw_g := List.mem_append_right _ (List.mem_filter.mpr ⟨List.mem_of_getElem? (i := 725) (by decide +kernel), rfl⟩)
theorem tw_726 : (Jvm.Cond.methodLink "DelayMachineModel" (187 : Nat) ({ cls := "DelayMachineModel", name := "get", desc := "(I)S" } : Jvm.MethodName)) ∈ lw_g := List.mem_append_right _ (List.mem_filter.mpr ⟨List.mem_of_getElem? (i := 726) (by decide +kernel), rfl⟩)
theorem tw_728 : (Jvm.Cond.instanceMethod ({ cls := "DelayMachineModel", name := "get", desc := "(I)S" } : Jvm.MethodName)) ∈ lw_g := List.mem_append_right _ (List.mem_filter.mpr ⟨List.mem_of_getElem? (i := 728) (by decide +kernel), rfl⟩)
theorem tw_729 : (Jvm.Cond.code ({ cls := "DelayMachineModel", name := "get", desc := "(I)S" } : Jvm.MethodName) prog_11_method_12_code (4 : Nat) (Option.some Jvm.ClassFile.FieldType.short)) ∈ lw_g := List.mem_append_right _ (List.mem_filter.mpr ⟨List.mem_of_getElem? (i := 729) (by decide +kernel), rfl⟩)
theorem tw_730 : (Jvm.Cond.methodLink "DelayMachineModel" (191 : Nat) ({ cls := "DelayMachineModel", name := "put", desc := "(IS)V" } : Jvm.MethodName)) ∈ lw_g := List.mem_append_right _ (List.mem_filter.mpr ⟨List.mem_of_getElem? (i := 730) (by decide +kernel), rfl⟩)
theorem tw_732 : (Jvm.Cond.instanceMethod ({ cls := "DelayMachineModel", name := "put", desc := "(IS)V" } : Jvm.MethodName)) ∈ lw_g := List.mem_append_right _ (List.mem_filter.mpr ⟨List.mem_of_getElem? (i := 732) (by decide +kernel), rfl⟩)
theorem tw_733 : (Jvm.Cond.code ({ cls := "DelayMachineModel", name := "put", desc := "(IS)V" } : Jvm.MethodName) prog_11_method_14_code (3 : Nat) (Option.none : Option Jvm.ClassFile.FieldType)) ∈ lw_g := List.mem_append_right _ (List.mem_filter.mpr ⟨List.mem_of_getElem? (i := 733) (by decide +kernel), rfl⟩)
theorem tw_734 : (Jvm.Cond.methodLink "DelayMachineModel" (157 : Nat) ({ cls := "DelayMachineModel", name := "discriminate", desc := "(Z)V" } : Jvm.MethodName)) ∈ lw_g := List.mem_append_right _ (List.mem_filter.mpr ⟨List.mem_of_getElem? (i := 734) (by decide +kernel), rfl⟩)
theorem tw_736 : (Jvm.Cond.instanceMethod ({ cls := "DelayMachineModel", name := "discriminate", desc := "(Z)V" } : Jvm.MethodName)) ∈ lw_g := List.mem_append_right _ (List.mem_filter.mpr ⟨List.mem_of_getElem? (i := 736) (by decide +kernel), rfl⟩)
theorem tw_737 : (Jvm.Cond.code ({ cls := "DelayMachineModel", name := "discriminate", desc := "(Z)V" } : Jvm.MethodName) prog_11_method_15_code (2 : Nat) (Option.none : Option Jvm.ClassFile.FieldType)) ∈ lw_g := List.mem_append_right _ (List.mem_filter.mpr ⟨List.mem_of_getElem? (i := 737) (by decide +kernel), rfl⟩)
theorem tw_738 : (Jvm.Cond.methodLink "DelayMachineModel" (164 : Nat) ({ cls := "DelayMachineModel", name := "feed", desc := "()V" } : Jvm.MethodName)) ∈ lw_g := List.mem_append_right _ (List.mem_filter.mpr ⟨List.mem_of_getElem? (i := 738) (by decide +kernel), rfl⟩)
theorem tw_740 : (Jvm.Cond.instanceMethod ({ cls := "DelayMachineModel", name := "feed", desc := "()V" } : Jvm.MethodName)) ∈ lw_g := List.mem_append_right _ (List.mem_filter.mpr ⟨List.mem_of_getElem? (i := 740) (by decide +kernel), rfl⟩)
theorem tw_741 : (Jvm.Cond.code ({ cls := "DelayMachineModel", name := "feed", desc := "()V" } : Jvm.MethodName) prog_11_method_16_code (2 : Nat) (Option.none : Option Jvm.ClassFile.FieldType)) ∈ lw_g := List.mem_append_right _ (List.mem_filter.mpr ⟨List.mem_of_getElem? (i := 741) (by decide +kernel), rfl⟩)
theorem tw_742 : (Jvm.Cond.methodLink "DelayMachineModel" (171 : Nat) ({ cls := "DelayMachineModel", name := "fail", desc := "(I)V" } : Jvm.MethodName)) ∈ lw_g := List.mem_append_right _ (List.mem_filter.mpr ⟨List.mem_of_getElem? (i := 742) (by decide +kernel), rfl⟩)
theorem tw_744 : (Jvm.Cond.instanceMethod ({ cls := "DelayMachineModel", name := "fail", desc := "(I)V" } : Jvm.MethodName)) ∈ lw_g := List.mem_append_right _ (List.mem_filter.mpr ⟨List.mem_of_getElem? (i := 744) (by decide +kernel), rfl⟩)
theorem tw_745 : (Jvm.Cond.code ({ cls := "DelayMachineModel", name := "fail", desc := "(I)V" } : Jvm.MethodName) prog_11_method_13_code (2 : Nat) (Option.none : Option Jvm.ClassFile.FieldType)) ∈ lw_g := List.mem_append_right _ (List.mem_filter.mpr ⟨List.mem_of_getElem? (i := 745) (by decide +kernel), rfl⟩)
theorem tw_746 : (Jvm.Cond.methodLink "DelayMachineModel" (167 : Nat) ({ cls := "DelayMachineModel", name := "press", desc := "(S)V" } : Jvm.MethodName)) ∈ lw_g := List.mem_append_right _ (List.mem_filter.mpr ⟨List.mem_of_getElem? (i := 746) (by decide +kernel), rfl⟩)
theorem tw_748 : (Jvm.Cond.instanceMethod ({ cls := "DelayMachineModel", name := "press", desc := "(S)V" } : Jvm.MethodName)) ∈ lw_g := List.mem_append_right _ (List.mem_filter.mpr ⟨List.mem_of_getElem? (i := 748) (by decide +kernel), rfl⟩)
theorem tw_749 : (Jvm.Cond.code ({ cls := "DelayMachineModel", name := "press", desc := "(S)V" } : Jvm.MethodName) prog_11_method_17_code (2 : Nat) (Option.none : Option Jvm.ClassFile.FieldType)) ∈ lw_g := List.mem_append_right _ (List.mem_filter.mpr ⟨List.mem_of_getElem? (i := 749) (by decide +kernel), rfl⟩)
theorem tw_750 : (Jvm.Cond.methodLink "DelayMachineModel" (195 : Nat) ({ cls := "DelayMachineModel", name := "multiply", desc := "()V" } : Jvm.MethodName)) ∈ lw_g := List.mem_append_right _ (List.mem_filter.mpr ⟨List.mem_of_getElem? (i := 750) (by decide +kernel), rfl⟩)
theorem tw_752 : (Jvm.Cond.instanceMethod ({ cls := "DelayMachineModel", name := "multiply", desc := "()V" } : Jvm.MethodName)) ∈ lw_g := List.mem_append_right _ (List.mem_filter.mpr ⟨List.mem_of_getElem? (i := 752) (by decide +kernel), rfl⟩)
theorem tw_753 : (Jvm.Cond.code ({ cls := "DelayMachineModel", name := "multiply", desc := "()V" } : Jvm.MethodName) prog_11_method_20_code (2 : Nat) (Option.none : Option Jvm.ClassFile.FieldType)) ∈ lw_g := List.mem_append_right _ (List.mem_filter.mpr ⟨List.mem_of_getElem? (i := 753) (by decide +kernel), rfl⟩)
theorem tw_754 : (Jvm.Cond.constant "DelayMachineModel" (198 : Nat) (65535 : Int32)) ∈ lw_g := List.mem_append_right _ (List.mem_filter.mpr ⟨List.mem_of_getElem? (i := 754) (by decide +kernel), rfl⟩)
theorem tw_755 : (Jvm.Cond.methodLink "DelayMachineLaw" (41 : Nat) ({ cls := "DelayMachineModel", name := "look", desc := "(I)I" } : Jvm.MethodName)) ∈ lw_g := List.mem_append_right _ (List.mem_filter.mpr ⟨List.mem_of_getElem? (i := 755) (by decide +kernel), rfl⟩)
theorem tw_756 : (Jvm.Cond.instanceMethod ({ cls := "DelayMachineModel", name := "look", desc := "(I)I" } : Jvm.MethodName)) ∈ lw_g := List.mem_append_right _ (List.mem_filter.mpr ⟨List.mem_of_getElem? (i := 756) (by decide +kernel), rfl⟩)
theorem tw_757 : (Jvm.Cond.selects "DelayMachineModel" ({ cls := "DelayMachineModel", name := "look", desc := "(I)I" } : Jvm.MethodName) ({ cls := "DelayMachineModel", name := "look", desc := "(I)I" } : Jvm.MethodName)) ∈ lw_g := List.mem_append_right _ (List.mem_filter.mpr ⟨List.mem_of_getElem? (i := 757) (by decide +kernel), rfl⟩)
theorem tw_758 : (Jvm.Cond.code ({ cls := "DelayMachineModel", name := "look", desc := "(I)I" } : Jvm.MethodName) prog_11_method_22_code (2 : Nat) (Option.some Jvm.ClassFile.FieldType.int)) ∈ lw_g := List.mem_append_right _ (List.mem_filter.mpr ⟨List.mem_of_getElem? (i := 758) (by decide +kernel), rfl⟩)
theorem tw_759 : (Jvm.Cond.methodLink "DelayMachineLaw" (46 : Nat) ({ cls := "DelayMachineModel", name := "peek", desc := "(II)S" } : Jvm.MethodName)) ∈ lw_g := List.mem_append_right _ (List.mem_filter.mpr ⟨List.mem_of_getElem? (i := 759) (by decide +kernel), rfl⟩)
theorem tw_760 : (Jvm.Cond.instanceMethod ({ cls := "DelayMachineModel", name := "peek", desc := "(II)S" } : Jvm.MethodName)) ∈ lw_g := List.mem_append_right _ (List.mem_filter.mpr ⟨List.mem_of_getElem? (i := 760) (by decide +kernel), rfl⟩)
theorem tw_761 : (Jvm.Cond.selects "DelayMachineModel" ({ cls := "DelayMachineModel", name := "peek", desc := "(II)S" } : Jvm.MethodName) ({ cls := "DelayMachineModel", name := "peek", desc := "(II)S" } : Jvm.MethodName)) ∈ lw_g := List.mem_append_right _ (List.mem_filter.mpr ⟨List.mem_of_getElem? (i := 761) (by decide +kernel), rfl⟩)
theorem tw_762 : (Jvm.Cond.code ({ cls := "DelayMachineModel", name := "peek", desc := "(II)S" } : Jvm.MethodName) prog_11_method_23_code (4 : Nat) (Option.some Jvm.ClassFile.FieldType.short)) ∈ lw_g := List.mem_append_right _ (List.mem_filter.mpr ⟨List.mem_of_getElem? (i := 762) (by decide +kernel), rfl⟩)
theorem tw_763 : (Jvm.Cond.methodLink "DelayMachineLaw" (51 : Nat) ({ cls := "DelayMachineModel", name := "read", desc := "(II)I" } : Jvm.MethodName)) ∈ lw_g := List.mem_append_right _ (List.mem_filter.mpr ⟨List.mem_of_getElem? (i := 763) (by decide +kernel), rfl⟩)
theorem tw_764 : (Jvm.Cond.instanceMethod ({ cls := "DelayMachineModel", name := "read", desc := "(II)I" } : Jvm.MethodName)) ∈ lw_g := List.mem_append_right _ (List.mem_filter.mpr ⟨List.mem_of_getElem? (i := 764) (by decide +kernel), rfl⟩)
theorem tw_765 : (Jvm.Cond.selects "DelayMachineModel" ({ cls := "DelayMachineModel", name := "read", desc := "(II)I" } : Jvm.MethodName) ({ cls := "DelayMachineModel", name := "read", desc := "(II)I" } : Jvm.MethodName)) ∈ lw_g := List.mem_append_right _ (List.mem_filter.mpr ⟨List.mem_of_getElem? (i := 765) (by decide +kernel), rfl⟩)
theorem tw_766 : (Jvm.Cond.code ({ cls := "DelayMachineModel", name := "read", desc := "(II)I" } : Jvm.MethodName) prog_11_method_24_code (3 : Nat) (Option.some Jvm.ClassFile.FieldType.int)) ∈ lw_g := List.mem_append_right _ (List.mem_filter.mpr ⟨List.mem_of_getElem? (i := 766) (by decide +kernel), rfl⟩)
theorem tw_767 : (Jvm.Cond.methodLink "DelayMachineLaw" (56 : Nat) ({ cls := "DelayMachineModel", name := "punched", desc := "(I)S" } : Jvm.MethodName)) ∈ lw_g := List.mem_append_right _ (List.mem_filter.mpr ⟨List.mem_of_getElem? (i := 767) (by decide +kernel), rfl⟩)
theorem tw_768 : (Jvm.Cond.instanceMethod ({ cls := "DelayMachineModel", name := "punched", desc := "(I)S" } : Jvm.MethodName)) ∈ lw_g := List.mem_append_right _ (List.mem_filter.mpr ⟨List.mem_of_getElem? (i := 768) (by decide +kernel), rfl⟩)
theorem tw_769 : (Jvm.Cond.selects "DelayMachineModel" ({ cls := "DelayMachineModel", name := "punched", desc := "(I)S" } : Jvm.MethodName) ({ cls := "DelayMachineModel", name := "punched", desc := "(I)S" } : Jvm.MethodName)) ∈ lw_g := List.mem_append_right _ (List.mem_filter.mpr ⟨List.mem_of_getElem? (i := 769) (by decide +kernel), rfl⟩)
theorem tw_770 : (Jvm.Cond.code ({ cls := "DelayMachineModel", name := "punched", desc := "(I)S" } : Jvm.MethodName) prog_11_method_25_code (2 : Nat) (Option.some Jvm.ClassFile.FieldType.short)) ∈ lw_g := List.mem_append_right _ (List.mem_filter.mpr ⟨List.mem_of_getElem? (i := 770) (by decide +kernel), rfl⟩)
theorem tw_771 : (Jvm.Cond.methodLink "DelayMachineLaw" (61 : Nat) ({ cls := "DelayMachineModel", name := "statement", desc := "(IIIII)I" } : Jvm.MethodName)) ∈ lw_g := List.mem_append_right _ (List.mem_filter.mpr ⟨List.mem_of_getElem? (i := 771) (by decide +kernel), rfl⟩)
theorem tw_772 : (Jvm.Cond.instanceMethod ({ cls := "DelayMachineModel", name := "statement", desc := "(IIIII)I" } : Jvm.MethodName)) ∈ lw_g := List.mem_append_right _ (List.mem_filter.mpr ⟨List.mem_of_getElem? (i := 772) (by decide +kernel), rfl⟩)
theorem tw_773 : (Jvm.Cond.selects "DelayMachineModel" ({ cls := "DelayMachineModel", name := "statement", desc := "(IIIII)I" } : Jvm.MethodName) ({ cls := "DelayMachineModel", name := "statement", desc := "(IIIII)I" } : Jvm.MethodName)) ∈ lw_g := List.mem_append_right _ (List.mem_filter.mpr ⟨List.mem_of_getElem? (i := 773) (by decide +kernel), rfl⟩)
theorem tw_774 : (Jvm.Cond.code ({ cls := "DelayMachineModel", name := "statement", desc := "(IIIII)I" } : Jvm.MethodName) prog_11_method_27_code (7 : Nat) (Option.some Jvm.ClassFile.FieldType.int)) ∈ lw_g := List.mem_append_right _ (List.mem_filter.mpr ⟨List.mem_of_getElem? (i := 774) (by decide +kernel), rfl⟩)
theorem tw_775 : (Jvm.Cond.methodLink "DelayMachineModel" (202 : Nat) ({ cls := "DelayMachineModel", name := "isVariable", desc := "(I)Z" } : Jvm.MethodName)) ∈ lw_g := List.mem_append_right _ (List.mem_filter.mpr ⟨List.mem_of_getElem? (i := 775) (by decide +kernel), rfl⟩)
theorem tw_776 : (Jvm.Cond.static ({ cls := "DelayMachineModel", name := "isVariable", desc := "(I)Z" } : Jvm.MethodName)) ∈ lw_g := List.mem_append_right _ (List.mem_filter.mpr ⟨List.mem_of_getElem? (i := 776) (by decide +kernel), rfl⟩)
theorem tw_777 : (Jvm.Cond.code ({ cls := "DelayMachineModel", name := "isVariable", desc := "(I)Z" } : Jvm.MethodName) prog_11_method_26_code (1 : Nat) (Option.some Jvm.ClassFile.FieldType.boolean)) ∈ lw_g := List.mem_append_right _ (List.mem_filter.mpr ⟨List.mem_of_getElem? (i := 777) (by decide +kernel), rfl⟩)
theorem tw_778 : (Jvm.Cond.methodLink "DelayMachineLaw" (65 : Nat) ({ cls := "DelayMachineModel", name := "clear", desc := "()V" } : Jvm.MethodName)) ∈ lw_g := List.mem_append_right _ (List.mem_filter.mpr ⟨List.mem_of_getElem? (i := 778) (by decide +kernel), rfl⟩)
theorem tw_779 : (Jvm.Cond.instanceMethod ({ cls := "DelayMachineModel", name := "clear", desc := "()V" } : Jvm.MethodName)) ∈ lw_g := List.mem_append_right _ (List.mem_filter.mpr ⟨List.mem_of_getElem? (i := 779) (by decide +kernel), rfl⟩)
theorem tw_780 : (Jvm.Cond.selects "DelayMachineModel" ({ cls := "DelayMachineModel", name := "clear", desc := "()V" } : Jvm.MethodName) ({ cls := "DelayMachineModel", name := "clear", desc := "()V" } : Jvm.MethodName)) ∈ lw_g := List.mem_append_right _ (List.mem_filter.mpr ⟨List.mem_of_getElem? (i := 780) (by decide +kernel), rfl⟩)
theorem tw_781 : (Jvm.Cond.code ({ cls := "DelayMachineModel", name := "clear", desc := "()V" } : Jvm.MethodName) prog_11_method_28_code (1 : Nat) (Option.none : Option Jvm.ClassFile.FieldType)) ∈ lw_g := List.mem_append_right _ (List.mem_filter.mpr ⟨List.mem_of_getElem? (i := 781) (by decide +kernel), rfl⟩)
theorem tw_782 : (Jvm.Cond.methodLink "DelayMachineLaw" (70 : Nat) ({ cls := "DelayMachineModel", name := "assemble", desc := "()I" } : Jvm.MethodName)) ∈ lw_g := List.mem_append_right _ (List.mem_filter.mpr ⟨List.mem_of_getElem? (i := 782) (by decide +kernel), rfl⟩)
theorem tw_783 : (Jvm.Cond.instanceMethod ({ cls := "DelayMachineModel", name := "assemble", desc := "()I" } : Jvm.MethodName)) ∈ lw_g := List.mem_append_right _ (List.mem_filter.mpr ⟨List.mem_of_getElem? (i := 783) (by decide +kernel), rfl⟩)
theorem tw_784 : (Jvm.Cond.selects "DelayMachineModel" ({ cls := "DelayMachineModel", name := "assemble", desc := "()I" } : Jvm.MethodName) ({ cls := "DelayMachineModel", name := "assemble", desc := "()I" } : Jvm.MethodName)) ∈ lw_g := List.mem_append_right _ (List.mem_filter.mpr ⟨List.mem_of_getElem? (i := 784) (by decide +kernel), rfl⟩)
theorem tw_785 : (Jvm.Cond.code ({ cls := "DelayMachineModel", name := "assemble", desc := "()I" } : Jvm.MethodName) prog_11_method_37_code (3 : Nat) (Option.some Jvm.ClassFile.FieldType.int)) ∈ lw_g := List.mem_append_right _ (List.mem_filter.mpr ⟨List.mem_of_getElem? (i := 785) (by decide +kernel), rfl⟩)
theorem tw_786 : (Jvm.Cond.methodLink "DelayMachineModel" (230 : Nat) ({ cls := "DelayMachineModel", name := "listAll", desc := "()V" } : Jvm.MethodName)) ∈ lw_g := List.mem_append_right _ (List.mem_filter.mpr ⟨List.mem_of_getElem? (i := 786) (by decide +kernel), rfl⟩)
theorem tw_788 : (Jvm.Cond.instanceMethod ({ cls := "DelayMachineModel", name := "listAll", desc := "()V" } : Jvm.MethodName)) ∈ lw_g := List.mem_append_right _ (List.mem_filter.mpr ⟨List.mem_of_getElem? (i := 788) (by decide +kernel), rfl⟩)
theorem tw_789 : (Jvm.Cond.code ({ cls := "DelayMachineModel", name := "listAll", desc := "()V" } : Jvm.MethodName) prog_11_method_30_code (5 : Nat) (Option.none : Option Jvm.ClassFile.FieldType)) ∈ lw_g := List.mem_append_right _ (List.mem_filter.mpr ⟨List.mem_of_getElem? (i := 789) (by decide +kernel), rfl⟩)
theorem tw_790 : (Jvm.Cond.methodLink "DelayMachineModel" (212 : Nat) ({ cls := "DelayMachineModel", name := "list", desc := "(IIII)V" } : Jvm.MethodName)) ∈ lw_g := List.mem_append_right _ (List.mem_filter.mpr ⟨List.mem_of_getElem? (i := 790) (by decide +kernel), rfl⟩)
theorem tw_792 : (Jvm.Cond.instanceMethod ({ cls := "DelayMachineModel", name := "list", desc := "(IIII)V" } : Jvm.MethodName)) ∈ lw_g := List.mem_append_right _ (List.mem_filter.mpr ⟨List.mem_of_getElem? (i := 792) (by decide +kernel), rfl⟩)
theorem tw_793 : (Jvm.Cond.code ({ cls := "DelayMachineModel", name := "list", desc := "(IIII)V" } : Jvm.MethodName) prog_11_method_29_code (5 : Nat) (Option.none : Option Jvm.ClassFile.FieldType)) ∈ lw_g := List.mem_append_right _ (List.mem_filter.mpr ⟨List.mem_of_getElem? (i := 793) (by decide +kernel), rfl⟩)
theorem tw_794 : (Jvm.Cond.methodLink "DelayMachineModel" (233 : Nat) ({ cls := "DelayMachineModel", name := "place", desc := "()Z" } : Jvm.MethodName)) ∈ lw_g := List.mem_append_right _ (List.mem_filter.mpr ⟨List.mem_of_getElem? (i := 794) (by decide +kernel), rfl⟩)
theorem tw_796 : (Jvm.Cond.instanceMethod ({ cls := "DelayMachineModel", name := "place", desc := "()Z" } : Jvm.MethodName)) ∈ lw_g := List.mem_append_right _ (List.mem_filter.mpr ⟨List.mem_of_getElem? (i := 796) (by decide +kernel), rfl⟩)
theorem tw_797 : (Jvm.Cond.code ({ cls := "DelayMachineModel", name := "place", desc := "()Z" } : Jvm.MethodName) prog_11_method_32_code (6 : Nat) (Option.some Jvm.ClassFile.FieldType.boolean)) ∈ lw_g := List.mem_append_right _ (List.mem_filter.mpr ⟨List.mem_of_getElem? (i := 797) (by decide +kernel), rfl⟩)
theorem tw_798 : (Jvm.Cond.methodLink "DelayMachineModel" (216 : Nat) ({ cls := "DelayMachineModel", name := "free", desc := "(IZ)I" } : Jvm.MethodName)) ∈ lw_g := List.mem_append_right _ (List.mem_filter.mpr ⟨List.mem_of_getElem? (i := 798) (by decide +kernel), rfl⟩)
theorem tw_800 : (Jvm.Cond.instanceMethod ({ cls := "DelayMachineModel", name := "free", desc := "(IZ)I" } : Jvm.MethodName)) ∈ lw_g := List.mem_append_right _ (List.mem_filter.mpr ⟨List.mem_of_getElem? (i := 800) (by decide +kernel), rfl⟩)
theorem tw_801 : (Jvm.Cond.code ({ cls := "DelayMachineModel", name := "free", desc := "(IZ)I" } : Jvm.MethodName) prog_11_method_31_code (6 : Nat) (Option.some Jvm.ClassFile.FieldType.int)) ∈ lw_g := List.mem_append_right _ (List.mem_filter.mpr ⟨List.mem_of_getElem? (i := 801) (by decide +kernel), rfl⟩)
theorem tw_802 : (Jvm.Cond.methodLink "DelayMachineModel" (220 : Nat) ({ cls := "DelayMachineModel", name := "variableFrom", desc := "(II)I" } : Jvm.MethodName)) ∈ lw_g := List.mem_append_right _ (List.mem_filter.mpr ⟨List.mem_of_getElem? (i := 802) (by decide +kernel), rfl⟩)
theorem tw_804 : (Jvm.Cond.instanceMethod ({ cls := "DelayMachineModel", name := "variableFrom", desc := "(II)I" } : Jvm.MethodName)) ∈ lw_g := List.mem_append_right _ (List.mem_filter.mpr ⟨List.mem_of_getElem? (i := 804) (by decide +kernel), rfl⟩)
theorem tw_805 : (Jvm.Cond.code ({ cls := "DelayMachineModel", name := "variableFrom", desc := "(II)I" } : Jvm.MethodName) prog_11_method_33_code (4 : Nat) (Option.some Jvm.ClassFile.FieldType.int)) ∈ lw_g := List.mem_append_right _ (List.mem_filter.mpr ⟨List.mem_of_getElem? (i := 805) (by decide +kernel), rfl⟩)
theorem tw_806 : (Jvm.Cond.constant "DelayMachineModel" (229 : Nat) (1015824 : Int32)) ∈ lw_g := List.mem_append_right _ (List.mem_filter.mpr ⟨List.mem_of_getElem? (i := 806) (by decide +kernel), rfl⟩)
theorem tw_807 : (Jvm.Cond.methodLink "DelayMachineModel" (236 : Nat) ({ cls := "DelayMachineModel", name := "write", desc := "(I)V" } : Jvm.MethodName)) ∈ lw_g := List.mem_append_right _ (List.mem_filter.mpr ⟨List.mem_of_getElem? (i := 807) (by decide +kernel), rfl⟩)
theorem tw_809 : (Jvm.Cond.instanceMethod ({ cls := "DelayMachineModel", name := "write", desc := "(I)V" } : Jvm.MethodName)) ∈ lw_g := List.mem_append_right _ (List.mem_filter.mpr ⟨List.mem_of_getElem? (i := 809) (by decide +kernel), rfl⟩)
theorem tw_810 : (Jvm.Cond.code ({ cls := "DelayMachineModel", name := "write", desc := "(I)V" } : Jvm.MethodName) prog_11_method_35_code (7 : Nat) (Option.none : Option Jvm.ClassFile.FieldType)) ∈ lw_g := List.mem_append_right _ (List.mem_filter.mpr ⟨List.mem_of_getElem? (i := 810) (by decide +kernel), rfl⟩)
theorem tw_811 : (Jvm.Cond.methodLink "DelayMachineModel" (223 : Nat) ({ cls := "DelayMachineModel", name := "isSecond", desc := "(I)Z" } : Jvm.MethodName)) ∈ lw_g := List.mem_append_right _ (List.mem_filter.mpr ⟨List.mem_of_getElem? (i := 811) (by decide +kernel), rfl⟩)
theorem tw_813 : (Jvm.Cond.instanceMethod ({ cls := "DelayMachineModel", name := "isSecond", desc := "(I)Z" } : Jvm.MethodName)) ∈ lw_g := List.mem_append_right _ (List.mem_filter.mpr ⟨List.mem_of_getElem? (i := 813) (by decide +kernel), rfl⟩)
theorem tw_814 : (Jvm.Cond.code ({ cls := "DelayMachineModel", name := "isSecond", desc := "(I)Z" } : Jvm.MethodName) prog_11_method_36_code (2 : Nat) (Option.some Jvm.ClassFile.FieldType.boolean)) ∈ lw_g := List.mem_append_right _ (List.mem_filter.mpr ⟨List.mem_of_getElem? (i := 814) (by decide +kernel), rfl⟩)
theorem tw_815 : (Jvm.Cond.methodLink "DelayMachineModel" (226 : Nat) ({ cls := "DelayMachineModel", name := "firstOf", desc := "(I)I" } : Jvm.MethodName)) ∈ lw_g := List.mem_append_right _ (List.mem_filter.mpr ⟨List.mem_of_getElem? (i := 815) (by decide +kernel), rfl⟩)
theorem tw_817 : (Jvm.Cond.instanceMethod ({ cls := "DelayMachineModel", name := "firstOf", desc := "(I)I" } : Jvm.MethodName)) ∈ lw_g := List.mem_append_right _ (List.mem_filter.mpr ⟨List.mem_of_getElem? (i := 817) (by decide +kernel), rfl⟩)
theorem tw_818 : (Jvm.Cond.code ({ cls := "DelayMachineModel", name := "firstOf", desc := "(I)I" } : Jvm.MethodName) prog_11_method_34_code (3 : Nat) (Option.some Jvm.ClassFile.FieldType.int)) ∈ lw_g := List.mem_append_right _ (List.mem_filter.mpr ⟨List.mem_of_getElem? (i := 818) (by decide +kernel), rfl⟩)
theorem tw_819 : (Jvm.Cond.methodLink "DelayMachineLaw" (74 : Nat) ({ cls := "DelayMachineModel", name := "placed", desc := "(I)I" } : Jvm.MethodName)) ∈ lw_g := List.mem_append_right _ (List.mem_filter.mpr ⟨List.mem_of_getElem? (i := 819) (by decide +kernel), rfl⟩)
theorem tw_820 : (Jvm.Cond.instanceMethod ({ cls := "DelayMachineModel", name := "placed", desc := "(I)I" } : Jvm.MethodName)) ∈ lw_g := List.mem_append_right _ (List.mem_filter.mpr ⟨List.mem_of_getElem? (i := 820) (by decide +kernel), rfl⟩)
theorem tw_821 : (Jvm.Cond.selects "DelayMachineModel" ({ cls := "DelayMachineModel", name := "placed", desc := "(I)I" } : Jvm.MethodName) ({ cls := "DelayMachineModel", name := "placed", desc := "(I)I" } : Jvm.MethodName)) ∈ lw_g := List.mem_append_right _ (List.mem_filter.mpr ⟨List.mem_of_getElem? (i := 821) (by decide +kernel), rfl⟩)
theorem tw_822 : (Jvm.Cond.code ({ cls := "DelayMachineModel", name := "placed", desc := "(I)I" } : Jvm.MethodName) prog_11_method_38_code (2 : Nat) (Option.some Jvm.ClassFile.FieldType.int)) ∈ lw_g := List.mem_append_right _ (List.mem_filter.mpr ⟨List.mem_of_getElem? (i := 822) (by decide +kernel), rfl⟩)
theorem tw_823 : (Jvm.Cond.methodLink "DelayMachineLaw" (78 : Nat) ({ cls := "DelayMachineModel", name := "variable", desc := "(I)I" } : Jvm.MethodName)) ∈ lw_g := List.mem_append_right _ (List.mem_filter.mpr ⟨List.mem_of_getElem? (i := 823) (by decide +kernel), rfl⟩)
theorem tw_824 : (Jvm.Cond.instanceMethod ({ cls := "DelayMachineModel", name := "variable", desc := "(I)I" } : Jvm.MethodName)) ∈ lw_g := List.mem_append_right _ (List.mem_filter.mpr ⟨List.mem_of_getElem? (i := 824) (by decide +kernel), rfl⟩)
theorem tw_825 : (Jvm.Cond.selects "DelayMachineModel" ({ cls := "DelayMachineModel", name := "variable", desc := "(I)I" } : Jvm.MethodName) ({ cls := "DelayMachineModel", name := "variable", desc := "(I)I" } : Jvm.MethodName)) ∈ lw_g := List.mem_append_right _ (List.mem_filter.mpr ⟨List.mem_of_getElem? (i := 825) (by decide +kernel), rfl⟩)
theorem tw_826 : (Jvm.Cond.code ({ cls := "DelayMachineModel", name := "variable", desc := "(I)I" } : Jvm.MethodName) prog_11_method_39_code (2 : Nat) (Option.some Jvm.ClassFile.FieldType.int)) ∈ lw_g := List.mem_append_right _ (List.mem_filter.mpr ⟨List.mem_of_getElem? (i := 826) (by decide +kernel), rfl⟩)
theorem tn_28 : (Jvm.Cond.fieldLinkNest "DelayMachine" (61 : Nat) "DelayMachine$Store" "orders" "[I" "DelayMachine") ∈ lw_nst := List.mem_of_getElem? (i := 0) rfl
theorem tn_29 : (Jvm.Cond.fieldLinkNest "DelayMachine$Machine" (96 : Nat) "DelayMachine$Store" "orders" "[I" "DelayMachine") ∈ lw_nst := List.mem_of_getElem? (i := 1) rfl
theorem tn_31 : (Jvm.Cond.fieldLinkNest "DelayMachine" (68 : Nat) "DelayMachine$Store" "words" "[S" "DelayMachine") ∈ lw_nst := List.mem_of_getElem? (i := 2) rfl
theorem tn_32 : (Jvm.Cond.fieldLinkNest "DelayMachine$Multiplier" (31 : Nat) "DelayMachine$Store" "words" "[S" "DelayMachine") ∈ lw_nst := List.mem_of_getElem? (i := 3) rfl
theorem tn_33 : (Jvm.Cond.fieldLinkNest "DelayMachine$Machine" (127 : Nat) "DelayMachine$Store" "words" "[S" "DelayMachine") ∈ lw_nst := List.mem_of_getElem? (i := 4) rfl
theorem tn_73 : (Jvm.Cond.fieldLinkNest "DelayMachine" (119 : Nat) "DelayMachine$Punch" "rows" "[S" "DelayMachine") ∈ lw_nst := List.mem_of_getElem? (i := 5) rfl
theorem tn_75 : (Jvm.Cond.fieldLinkNest "DelayMachine" (107 : Nat) "DelayMachine$Punch" "count" "I" "DelayMachine") ∈ lw_nst := List.mem_of_getElem? (i := 6) rfl
theorem tn_92 : (Jvm.Cond.methodLinkNest "DelayMachine$Machine" (25 : Nat) ({ cls := "DelayMachine$Multiplier", name := "<init>", desc := "()V" } : Jvm.MethodName) "DelayMachine") ∈ lw_nst := List.mem_of_getElem? (i := 7) rfl
theorem tn_98 : (Jvm.Cond.fieldLinkNest "DelayMachine" (114 : Nat) "DelayMachine$Multiplier" "left" "I" "DelayMachine") ∈ lw_nst := List.mem_of_getElem? (i := 8) rfl
theorem tn_109 : (Jvm.Cond.methodLinkNest "DelayMachine$Machine" (32 : Nat) ({ cls := "DelayMachine$Window", name := "<init>", desc := "()V" } : Jvm.MethodName) "DelayMachine") ∈ lw_nst := List.mem_of_getElem? (i := 9) rfl
theorem tn_114 : (Jvm.Cond.fieldLinkNest "DelayMachine$Machine" (109 : Nat) "DelayMachine$Window" "source" "I" "DelayMachine") ∈ lw_nst := List.mem_of_getElem? (i := 10) rfl
theorem tn_116 : (Jvm.Cond.fieldLinkNest "DelayMachine$Machine" (116 : Nat) "DelayMachine$Window" "destination" "I" "DelayMachine") ∈ lw_nst := List.mem_of_getElem? (i := 11) rfl
theorem tn_120 : (Jvm.Cond.fieldLinkNest "DelayMachine$Machine" (106 : Nat) "DelayMachine$Window" "leave" "I" "DelayMachine") ∈ lw_nst := List.mem_of_getElem? (i := 12) rfl
theorem tn_136 : (Jvm.Cond.fieldLinkNest "DelayMachine" (110 : Nat) "DelayMachine$Machine" "multiplier" "LDelayMachine$Multiplier;" "DelayMachine") ∈ lw_nst := List.mem_of_getElem? (i := 13) rfl
theorem tn_140 : (Jvm.Cond.fieldLinkNest "DelayMachine" (80 : Nat) "DelayMachine$Machine" "going" "Z" "DelayMachine") ∈ lw_nst := List.mem_of_getElem? (i := 14) rfl
theorem tn_142 : (Jvm.Cond.fieldLinkNest "DelayMachine" (87 : Nat) "DelayMachine$Machine" "fault" "I" "DelayMachine") ∈ lw_nst := List.mem_of_getElem? (i := 15) rfl
theorem tn_144 : (Jvm.Cond.fieldLinkNest "DelayMachine" (91 : Nat) "DelayMachine$Machine" "now" "I" "DelayMachine") ∈ lw_nst := List.mem_of_getElem? (i := 16) rfl
theorem tn_148 : (Jvm.Cond.fieldLinkNest "DelayMachine" (94 : Nat) "DelayMachine$Machine" "latestLine" "I" "DelayMachine") ∈ lw_nst := List.mem_of_getElem? (i := 17) rfl
theorem tn_150 : (Jvm.Cond.fieldLinkNest "DelayMachine" (97 : Nat) "DelayMachine$Machine" "latestPlace" "I" "DelayMachine") ∈ lw_nst := List.mem_of_getElem? (i := 18) rfl
theorem tn_152 : (Jvm.Cond.fieldLinkNest "DelayMachine" (100 : Nat) "DelayMachine$Machine" "ordersTaken" "I" "DelayMachine") ∈ lw_nst := List.mem_of_getElem? (i := 19) rfl
theorem tn_189 : (Jvm.Cond.fieldLinkNest "DelayMachine$Placing" (81 : Nat) "DelayMachine$Program" "operations" "[I" "DelayMachine") ∈ lw_nst := List.mem_of_getElem? (i := 20) rfl
theorem tn_191 : (Jvm.Cond.fieldLinkNest "DelayMachine$Placing" (75 : Nat) "DelayMachine$Program" "as" "[I" "DelayMachine") ∈ lw_nst := List.mem_of_getElem? (i := 21) rfl
theorem tn_193 : (Jvm.Cond.fieldLinkNest "DelayMachine$Placing" (88 : Nat) "DelayMachine$Program" "bs" "[I" "DelayMachine") ∈ lw_nst := List.mem_of_getElem? (i := 22) rfl
theorem tn_195 : (Jvm.Cond.fieldLinkNest "DelayMachine$Placing" (78 : Nat) "DelayMachine$Program" "cs" "[I" "DelayMachine") ∈ lw_nst := List.mem_of_getElem? (i := 23) rfl
theorem tn_197 : (Jvm.Cond.fieldLinkNest "DelayMachine$Placing" (114 : Nat) "DelayMachine$Program" "gotos" "[I" "DelayMachine") ∈ lw_nst := List.mem_of_getElem? (i := 24) rfl
theorem tn_198 : (Jvm.Cond.fieldLinkNest "DelayMachine$Placing" (36 : Nat) "DelayMachine$Program" "count" "I" "DelayMachine") ∈ lw_nst := List.mem_of_getElem? (i := 25) rfl
theorem tn_200 : (Jvm.Cond.fieldLinkNest "DelayMachine" (126 : Nat) "DelayMachine$Program" "count" "I" "DelayMachine") ∈ lw_nst := List.mem_of_getElem? (i := 26) rfl
theorem tn_224 : (Jvm.Cond.fieldLinkNest "DelayMachine" (135 : Nat) "DelayMachine$Placing" "orders" "[I" "DelayMachine") ∈ lw_nst := List.mem_of_getElem? (i := 27) rfl
theorem tn_227 : (Jvm.Cond.fieldLinkNest "DelayMachine" (150 : Nat) "DelayMachine$Placing" "variables" "[I" "DelayMachine") ∈ lw_nst := List.mem_of_getElem? (i := 28) rfl
theorem tn_229 : (Jvm.Cond.fieldLinkNest "DelayMachine" (143 : Nat) "DelayMachine$Placing" "firsts" "[I" "DelayMachine") ∈ lw_nst := List.mem_of_getElem? (i := 29) rfl
theorem tn_234 : (Jvm.Cond.fieldLinkNest "DelayMachine" (142 : Nat) "DelayMachine$Placing" "count" "I" "DelayMachine") ∈ lw_nst := List.mem_of_getElem? (i := 30) rfl
theorem ts_0 : Cond.selects "DelayMachine$Machine" ⟨"DelayMachine$Machine", "takeOrder", "()V"⟩ ⟨"DelayMachine$Machine", "takeOrder", "()V"⟩ ∈ lw_g := List.mem_append_left _ (List.mem_of_getElem? (i := 0) (by decide +kernel))
theorem ts_1 : Cond.selects "DelayMachine$Window" ⟨"DelayMachine$Window", "lastOf", "(I)I"⟩ ⟨"DelayMachine$Window", "lastOf", "(I)I"⟩ ∈ lw_g := List.mem_append_left _ (List.mem_of_getElem? (i := 1) (by decide +kernel))
theorem ts_2 : Cond.selects "DelayMachine$Machine" ⟨"DelayMachine$Machine", "move", "(LDelayMachine$Window;)V"⟩ ⟨"DelayMachine$Machine", "move", "(LDelayMachine$Window;)V"⟩ ∈ lw_g := List.mem_append_left _ (List.mem_of_getElem? (i := 2) (by decide +kernel))
theorem ts_3 : Cond.selects "DelayMachine$Machine" ⟨"DelayMachine$Machine", "sourceWord", "(I)S"⟩ ⟨"DelayMachine$Machine", "sourceWord", "(I)S"⟩ ∈ lw_g := List.mem_append_left _ (List.mem_of_getElem? (i := 3) (by decide +kernel))
theorem ts_4 : Cond.selects "DelayMachine$Reader" ⟨"DelayMachine$Reader", "offset", "(I)I"⟩ ⟨"DelayMachine$Reader", "offset", "(I)I"⟩ ∈ lw_g := List.mem_append_left _ (List.mem_of_getElem? (i := 4) (by decide +kernel))
theorem ts_5 : Cond.selects "DelayMachine$Machine" ⟨"DelayMachine$Machine", "discriminate", "(LDelayMachine$Window;Z)V"⟩ ⟨"DelayMachine$Machine", "discriminate", "(LDelayMachine$Window;Z)V"⟩ ∈ lw_g := List.mem_append_left _ (List.mem_of_getElem? (i := 5) (by decide +kernel))
theorem ts_6 : Cond.selects "DelayMachine$Machine" ⟨"DelayMachine$Machine", "deliver", "(SI)V"⟩ ⟨"DelayMachine$Machine", "deliver", "(SI)V"⟩ ∈ lw_g := List.mem_append_left _ (List.mem_of_getElem? (i := 6) (by decide +kernel))
theorem ts_7 : Cond.selects "DelayMachine$Machine" ⟨"DelayMachine$Machine", "stopBy", "(I)V"⟩ ⟨"DelayMachine$Machine", "stopBy", "(I)V"⟩ ∈ lw_g := List.mem_append_left _ (List.mem_of_getElem? (i := 7) (by decide +kernel))
theorem ts_8 : Cond.selects "DelayMachine$Placing" ⟨"DelayMachine$Placing", "forget", "()V"⟩ ⟨"DelayMachine$Placing", "forget", "()V"⟩ ∈ lw_g := List.mem_append_left _ (List.mem_of_getElem? (i := 8) (by decide +kernel))
theorem ts_9 : Cond.selects "DelayMachine$Placing" ⟨"DelayMachine$Placing", "freeSpot", "()I"⟩ ⟨"DelayMachine$Placing", "freeSpot", "()I"⟩ ∈ lw_g := List.mem_append_left _ (List.mem_of_getElem? (i := 9) (by decide +kernel))
theorem ts_10 : Cond.selects "DelayMachine$Placing" ⟨"DelayMachine$Placing", "isFree", "(II)Z"⟩ ⟨"DelayMachine$Placing", "isFree", "(II)Z"⟩ ∈ lw_g := List.mem_append_left _ (List.mem_of_getElem? (i := 10) (by decide +kernel))
theorem ts_11 : Cond.selects "DelayMachine$Placing" ⟨"DelayMachine$Placing", "placeStatement", "(LDelayMachine$Program;I)V"⟩ ⟨"DelayMachine$Placing", "placeStatement", "(LDelayMachine$Program;I)V"⟩ ∈ lw_g := List.mem_append_left _ (List.mem_of_getElem? (i := 11) (by decide +kernel))
theorem ts_12 : Cond.selects "DelayMachine$Placing" ⟨"DelayMachine$Placing", "placeOrder", "(III)V"⟩ ⟨"DelayMachine$Placing", "placeOrder", "(III)V"⟩ ∈ lw_g := List.mem_append_left _ (List.mem_of_getElem? (i := 12) (by decide +kernel))
theorem ts_13 : Cond.selects "DelayMachine$Placing" ⟨"DelayMachine$Placing", "variablePlace", "(II)I"⟩ ⟨"DelayMachine$Placing", "variablePlace", "(II)I"⟩ ∈ lw_g := List.mem_append_left _ (List.mem_of_getElem? (i := 13) (by decide +kernel))
theorem ts_14 : Cond.selects "DelayMachine$Placing" ⟨"DelayMachine$Placing", "occupy", "(II)V"⟩ ⟨"DelayMachine$Placing", "occupy", "(II)V"⟩ ∈ lw_g := List.mem_append_left _ (List.mem_of_getElem? (i := 14) (by decide +kernel))
theorem ts_15 : Cond.selects "DelayMachine$Placing" ⟨"DelayMachine$Placing", "lead", "(II)V"⟩ ⟨"DelayMachine$Placing", "lead", "(II)V"⟩ ∈ lw_g := List.mem_append_left _ (List.mem_of_getElem? (i := 15) (by decide +kernel))
theorem ts_16 : Cond.selects "DelayMachine$Placing" ⟨"DelayMachine$Placing", "placeFork", "(I)V"⟩ ⟨"DelayMachine$Placing", "placeFork", "(I)V"⟩ ∈ lw_g := List.mem_append_left _ (List.mem_of_getElem? (i := 16) (by decide +kernel))
theorem ts_17 : Cond.selects "DelayMachine$Placing" ⟨"DelayMachine$Placing", "forkSpot", "()I"⟩ ⟨"DelayMachine$Placing", "forkSpot", "()I"⟩ ∈ lw_g := List.mem_append_left _ (List.mem_of_getElem? (i := 17) (by decide +kernel))
theorem ts_18 : Cond.selects "DelayMachine$Placing" ⟨"DelayMachine$Placing", "placeStop", "()V"⟩ ⟨"DelayMachine$Placing", "placeStop", "()V"⟩ ∈ lw_g := List.mem_append_left _ (List.mem_of_getElem? (i := 18) (by decide +kernel))
theorem ts_19 : Cond.selects "DelayMachine$Placing" ⟨"DelayMachine$Placing", "leadBranches", "(LDelayMachine$Program;)V"⟩ ⟨"DelayMachine$Placing", "leadBranches", "(LDelayMachine$Program;)V"⟩ ∈ lw_g := List.mem_append_left _ (List.mem_of_getElem? (i := 19) (by decide +kernel))
theorem ts_20 : Cond.selects "DelayMachine$Placing" ⟨"DelayMachine$Placing", "fillWithStops", "()V"⟩ ⟨"DelayMachine$Placing", "fillWithStops", "()V"⟩ ∈ lw_g := List.mem_append_left _ (List.mem_of_getElem? (i := 20) (by decide +kernel))
theorem ts_21 : Cond.selects "DelayMachineModel" ⟨"DelayMachineModel", "cycle", "()V"⟩ ⟨"DelayMachineModel", "cycle", "()V"⟩ ∈ lw_g := List.mem_append_left _ (List.mem_of_getElem? (i := 21) (by decide +kernel))
theorem ts_22 : Cond.selects "DelayMachineModel" ⟨"DelayMachineModel", "read", "()V"⟩ ⟨"DelayMachineModel", "read", "()V"⟩ ∈ lw_g := List.mem_append_left _ (List.mem_of_getElem? (i := 22) (by decide +kernel))
theorem ts_23 : Cond.selects "DelayMachineModel" ⟨"DelayMachineModel", "row", "()I"⟩ ⟨"DelayMachineModel", "row", "()I"⟩ ∈ lw_g := List.mem_append_left _ (List.mem_of_getElem? (i := 23) (by decide +kernel))
theorem ts_24 : Cond.selects "DelayMachineModel" ⟨"DelayMachineModel", "current", "()I"⟩ ⟨"DelayMachineModel", "current", "()I"⟩ ∈ lw_g := List.mem_append_left _ (List.mem_of_getElem? (i := 24) (by decide +kernel))
theorem ts_25 : Cond.selects "DelayMachineModel" ⟨"DelayMachineModel", "get", "(I)S"⟩ ⟨"DelayMachineModel", "get", "(I)S"⟩ ∈ lw_g := List.mem_append_left _ (List.mem_of_getElem? (i := 25) (by decide +kernel))
theorem ts_26 : Cond.selects "DelayMachineModel" ⟨"DelayMachineModel", "put", "(IS)V"⟩ ⟨"DelayMachineModel", "put", "(IS)V"⟩ ∈ lw_g := List.mem_append_left _ (List.mem_of_getElem? (i := 26) (by decide +kernel))
theorem ts_27 : Cond.selects "DelayMachineModel" ⟨"DelayMachineModel", "discriminate", "(Z)V"⟩ ⟨"DelayMachineModel", "discriminate", "(Z)V"⟩ ∈ lw_g := List.mem_append_left _ (List.mem_of_getElem? (i := 27) (by decide +kernel))
theorem ts_28 : Cond.selects "DelayMachineModel" ⟨"DelayMachineModel", "feed", "()V"⟩ ⟨"DelayMachineModel", "feed", "()V"⟩ ∈ lw_g := List.mem_append_left _ (List.mem_of_getElem? (i := 28) (by decide +kernel))
theorem ts_29 : Cond.selects "DelayMachineModel" ⟨"DelayMachineModel", "fail", "(I)V"⟩ ⟨"DelayMachineModel", "fail", "(I)V"⟩ ∈ lw_g := List.mem_append_left _ (List.mem_of_getElem? (i := 29) (by decide +kernel))
theorem ts_30 : Cond.selects "DelayMachineModel" ⟨"DelayMachineModel", "press", "(S)V"⟩ ⟨"DelayMachineModel", "press", "(S)V"⟩ ∈ lw_g := List.mem_append_left _ (List.mem_of_getElem? (i := 30) (by decide +kernel))
theorem ts_31 : Cond.selects "DelayMachineModel" ⟨"DelayMachineModel", "multiply", "()V"⟩ ⟨"DelayMachineModel", "multiply", "()V"⟩ ∈ lw_g := List.mem_append_left _ (List.mem_of_getElem? (i := 31) (by decide +kernel))
theorem ts_32 : Cond.selects "DelayMachineModel" ⟨"DelayMachineModel", "listAll", "()V"⟩ ⟨"DelayMachineModel", "listAll", "()V"⟩ ∈ lw_g := List.mem_append_left _ (List.mem_of_getElem? (i := 32) (by decide +kernel))
theorem ts_33 : Cond.selects "DelayMachineModel" ⟨"DelayMachineModel", "list", "(IIII)V"⟩ ⟨"DelayMachineModel", "list", "(IIII)V"⟩ ∈ lw_g := List.mem_append_left _ (List.mem_of_getElem? (i := 33) (by decide +kernel))
theorem ts_34 : Cond.selects "DelayMachineModel" ⟨"DelayMachineModel", "place", "()Z"⟩ ⟨"DelayMachineModel", "place", "()Z"⟩ ∈ lw_g := List.mem_append_left _ (List.mem_of_getElem? (i := 34) (by decide +kernel))
theorem ts_35 : Cond.selects "DelayMachineModel" ⟨"DelayMachineModel", "free", "(IZ)I"⟩ ⟨"DelayMachineModel", "free", "(IZ)I"⟩ ∈ lw_g := List.mem_append_left _ (List.mem_of_getElem? (i := 35) (by decide +kernel))
theorem ts_36 : Cond.selects "DelayMachineModel" ⟨"DelayMachineModel", "variableFrom", "(II)I"⟩ ⟨"DelayMachineModel", "variableFrom", "(II)I"⟩ ∈ lw_g := List.mem_append_left _ (List.mem_of_getElem? (i := 36) (by decide +kernel))
theorem ts_37 : Cond.selects "DelayMachineModel" ⟨"DelayMachineModel", "write", "(I)V"⟩ ⟨"DelayMachineModel", "write", "(I)V"⟩ ∈ lw_g := List.mem_append_left _ (List.mem_of_getElem? (i := 37) (by decide +kernel))
theorem ts_38 : Cond.selects "DelayMachineModel" ⟨"DelayMachineModel", "isSecond", "(I)Z"⟩ ⟨"DelayMachineModel", "isSecond", "(I)Z"⟩ ∈ lw_g := List.mem_append_left _ (List.mem_of_getElem? (i := 38) (by decide +kernel))
theorem ts_39 : Cond.selects "DelayMachineModel" ⟨"DelayMachineModel", "firstOf", "(I)I"⟩ ⟨"DelayMachineModel", "firstOf", "(I)I"⟩ ∈ lw_g := List.mem_append_left _ (List.mem_of_getElem? (i := 39) (by decide +kernel))
def gNst (U : State) : Prop := ∀ w ∈ lw_nst, va_Nw w U
theorem lw_nstO {w : Cond} (h : w ∈ lw_nst) : w.onTables = true := by
  rcases lw_nstK w h with ⟨a, i, b, n, d, x, rfl⟩ | ⟨a, i, x, y, rfl⟩ <;> rfl
theorem gNst.same {u U : State} (e : u.vm = U.vm) (h : gNst u) : gNst U := fun w hw => va_Nw.same (lw_nstO hw) e (h w hw)
theorem gNst.warm {s U : State} (hW : s.WarmedH U.vm) (h : gNst s) : gNst U := by
  intro w hw
  have z := h w hw
  rcases lw_nstK w hw with ⟨a, i, b, n, d, x, rfl⟩ | ⟨a, i, x, y, rfl⟩
  · exact va_Nw.warmF hW z
  · exact va_Nw.warmM hW z
end
section
theorem in_places {big ws : List Cond} (ps : List Nat) (hp : ws = ps.filterMap (fun i => big[i]?)) : ∀ w ∈ ws, w ∈ big := by
  intro w hw
  rw [hp] at hw
  obtain ⟨i, -, hi⟩ := List.mem_filterMap.mp hw
  first | exact List.mem_of_getElem? hi | exact List.getElem?_mem hi
def R_Dm : String := "DelayMachine"
def T_Dm : u_T := fun k => match k with
  | 0 => ("DelayMachine", "store", "LDelayMachine$Store;", true)
  | 1 => ("DelayMachine", "reader", "LDelayMachine$Reader;", true)
  | 2 => ("DelayMachine", "punch", "LDelayMachine$Punch;", true)
  | 3 => ("DelayMachine", "machine", "LDelayMachine$Machine;", true)
  | 4 => ("DelayMachine", "program", "LDelayMachine$Program;", true)
  | 5 => ("DelayMachine", "kept", "LDelayMachine$Placing;", false)
  | _ => ("DelayMachine", "trial", "LDelayMachine$Placing;", false)
def t_Dm : Nat → FieldType := fun k => match k with
  | 0 => .object "DelayMachine$Store"
  | 1 => .object "DelayMachine$Reader"
  | 2 => .object "DelayMachine$Punch"
  | 3 => .object "DelayMachine$Machine"
  | 4 => .object "DelayMachine$Program"
  | 5 => .object "DelayMachine$Placing"
  | _ => .object "DelayMachine$Placing"
theorem n_Dm : ∀ a, a < 7 → ∀ b, b < 7 → a ≠ b → (T_Dm a).2.1 ≠ (T_Dm b).2.1 := by decide +kernel
theorem o_Dm : ∀ k, k < 7 → parseFieldDescriptor (T_Dm k).2.2.1 = some (t_Dm k) := by decide +kernel
theorem i_Dm : ∀ w ∈ u_ws R_Dm T_Dm 7, w ∈ lw_g := fun w h => List.mem_append_right _ (List.mem_filter.mpr ⟨in_places [262, 264, 266, 268, 270, 272, 274] (by decide +kernel) w h, List.all_eq_true.mp (show (u_ws R_Dm T_Dm 7).all goodWord = true by decide +kernel) w h⟩)
def R_St : String := "DelayMachine$Store"
def T_St : u_T := fun k => match k with
  | 0 => ("DelayMachine$Store", "orders", "[I", true)
  | _ => ("DelayMachine$Store", "words", "[S", true)
def t_St : Nat → FieldType := fun k => match k with
  | 0 => .array .int
  | _ => .array .short
theorem n_St : ∀ a, a < 2 → ∀ b, b < 2 → a ≠ b → (T_St a).2.1 ≠ (T_St b).2.1 := by decide +kernel
theorem o_St : ∀ k, k < 2 → parseFieldDescriptor (T_St k).2.2.1 = some (t_St k) := by decide +kernel
theorem i_St : ∀ w ∈ u_ws R_St T_St 2, w ∈ lw_g := fun w h => List.mem_append_right _ (List.mem_filter.mpr ⟨in_places [34, 36] (by decide +kernel) w h, List.all_eq_true.mp (show (u_ws R_St T_St 2).all goodWord = true by decide +kernel) w h⟩)
def R_Rd : String := "DelayMachine$Reader"
def T_Rd : u_T := fun k => match k with
  | 0 => ("DelayMachine$Reader", "deck", "[S", true)
  | 1 => ("DelayMachine$Reader", "came", "I", false)
  | 2 => ("DelayMachine$Reader", "taken", "I", false)
  | 3 => ("DelayMachine$Reader", "cardPasses", "Z", false)
  | 4 => ("DelayMachine$Reader", "fedAt", "I", false)
  | _ => ("DelayMachine$Reader", "rowMoved", "Z", false)
def t_Rd : Nat → FieldType := fun k => match k with
  | 0 => .array .short
  | 1 => .int
  | 2 => .int
  | 3 => .boolean
  | 4 => .int
  | _ => .boolean
theorem n_Rd : ∀ a, a < 6 → ∀ b, b < 6 → a ≠ b → (T_Rd a).2.1 ≠ (T_Rd b).2.1 := by decide +kernel
theorem o_Rd : ∀ k, k < 6 → parseFieldDescriptor (T_Rd k).2.2.1 = some (t_Rd k) := by decide +kernel
theorem i_Rd : ∀ w ∈ u_ws R_Rd T_Rd 6, w ∈ lw_g := fun w h => List.mem_append_right _ (List.mem_filter.mpr ⟨in_places [53, 55, 57, 59, 61, 63] (by decide +kernel) w h, List.all_eq_true.mp (show (u_ws R_Rd T_Rd 6).all goodWord = true by decide +kernel) w h⟩)
def R_Pu : String := "DelayMachine$Punch"
def T_Pu : u_T := fun k => match k with
  | 0 => ("DelayMachine$Punch", "rows", "[S", true)
  | 1 => ("DelayMachine$Punch", "count", "I", false)
  | _ => ("DelayMachine$Punch", "lastCycle", "I", false)
def t_Pu : Nat → FieldType := fun k => match k with
  | 0 => .array .short
  | 1 => .int
  | _ => .int
theorem n_Pu : ∀ a, a < 3 → ∀ b, b < 3 → a ≠ b → (T_Pu a).2.1 ≠ (T_Pu b).2.1 := by decide +kernel
theorem o_Pu : ∀ k, k < 3 → parseFieldDescriptor (T_Pu k).2.2.1 = some (t_Pu k) := by decide +kernel
theorem i_Pu : ∀ w ∈ u_ws R_Pu T_Pu 3, w ∈ lw_g := fun w h => List.mem_append_right _ (List.mem_filter.mpr ⟨in_places [77, 79, 81] (by decide +kernel) w h, List.all_eq_true.mp (show (u_ws R_Pu T_Pu 3).all goodWord = true by decide +kernel) w h⟩)
def R_Mc : String := "DelayMachine$Machine"
def T_Mc : u_T := fun k => match k with
  | 0 => ("DelayMachine$Machine", "store", "LDelayMachine$Store;", true)
  | 1 => ("DelayMachine$Machine", "reader", "LDelayMachine$Reader;", true)
  | 2 => ("DelayMachine$Machine", "punch", "LDelayMachine$Punch;", true)
  | 3 => ("DelayMachine$Machine", "multiplier", "LDelayMachine$Multiplier;", true)
  | 4 => ("DelayMachine$Machine", "current", "LDelayMachine$Window;", false)
  | 5 => ("DelayMachine$Machine", "before", "LDelayMachine$Window;", false)
  | 6 => ("DelayMachine$Machine", "going", "Z", false)
  | 7 => ("DelayMachine$Machine", "fault", "I", false)
  | 8 => ("DelayMachine$Machine", "now", "I", false)
  | 9 => ("DelayMachine$Machine", "nextLine", "I", false)
  | 10 => ("DelayMachine$Machine", "nextCycle", "I", false)
  | 11 => ("DelayMachine$Machine", "latestLine", "I", false)
  | 12 => ("DelayMachine$Machine", "latestPlace", "I", false)
  | _ => ("DelayMachine$Machine", "ordersTaken", "I", false)
def t_Mc : Nat → FieldType := fun k => match k with
  | 0 => .object "DelayMachine$Store"
  | 1 => .object "DelayMachine$Reader"
  | 2 => .object "DelayMachine$Punch"
  | 3 => .object "DelayMachine$Multiplier"
  | 4 => .object "DelayMachine$Window"
  | 5 => .object "DelayMachine$Window"
  | 6 => .boolean
  | 7 => .int
  | 8 => .int
  | 9 => .int
  | 10 => .int
  | 11 => .int
  | 12 => .int
  | _ => .int
theorem n_Mc : ∀ a, a < 14 → ∀ b, b < 14 → a ≠ b → (T_Mc a).2.1 ≠ (T_Mc b).2.1 := by decide +kernel
theorem o_Mc : ∀ k, k < 14 → parseFieldDescriptor (T_Mc k).2.2.1 = some (t_Mc k) := by decide +kernel
theorem i_Mc : ∀ w ∈ u_ws R_Mc T_Mc 14, w ∈ lw_g := fun w h => List.mem_append_right _ (List.mem_filter.mpr ⟨in_places [153, 155, 157, 159, 161, 163, 165, 167, 169, 171, 173, 175, 177, 179] (by decide +kernel) w h, List.all_eq_true.mp (show (u_ws R_Mc T_Mc 14).all goodWord = true by decide +kernel) w h⟩)
def R_Mu : String := "DelayMachine$Multiplier"
def T_Mu : u_T := fun k => match k with
  | 0 => ("DelayMachine$Multiplier", "factor", "I", false)
  | 1 => ("DelayMachine$Multiplier", "left", "I", false)
  | _ => ("DelayMachine$Multiplier", "fresh", "Z", false)
def t_Mu : Nat → FieldType := fun k => match k with
  | 0 => .int
  | 1 => .int
  | _ => .boolean
theorem n_Mu : ∀ a, a < 3 → ∀ b, b < 3 → a ≠ b → (T_Mu a).2.1 ≠ (T_Mu b).2.1 := by decide +kernel
theorem o_Mu : ∀ k, k < 3 → parseFieldDescriptor (T_Mu k).2.2.1 = some (t_Mu k) := by decide +kernel
theorem i_Mu : ∀ w ∈ u_ws R_Mu T_Mu 3, w ∈ lw_g := fun w h => List.mem_append_right _ (List.mem_filter.mpr ⟨in_places [100, 102, 104] (by decide +kernel) w h, List.all_eq_true.mp (show (u_ws R_Mu T_Mu 3).all goodWord = true by decide +kernel) w h⟩)
def R_Wi : String := "DelayMachine$Window"
def T_Wi : u_T := fun k => match k with
  | 0 => ("DelayMachine$Window", "source", "I", false)
  | 1 => ("DelayMachine$Window", "destination", "I", false)
  | 2 => ("DelayMachine$Window", "first", "I", false)
  | 3 => ("DelayMachine$Window", "last", "I", false)
  | _ => ("DelayMachine$Window", "leave", "I", false)
def t_Wi : Nat → FieldType := fun k => match k with
  | 0 => .int
  | 1 => .int
  | 2 => .int
  | 3 => .int
  | _ => .int
theorem n_Wi : ∀ a, a < 5 → ∀ b, b < 5 → a ≠ b → (T_Wi a).2.1 ≠ (T_Wi b).2.1 := by decide +kernel
theorem o_Wi : ∀ k, k < 5 → parseFieldDescriptor (T_Wi k).2.2.1 = some (t_Wi k) := by decide +kernel
theorem i_Wi : ∀ w ∈ u_ws R_Wi T_Wi 5, w ∈ lw_g := fun w h => List.mem_append_right _ (List.mem_filter.mpr ⟨in_places [121, 123, 125, 127, 129] (by decide +kernel) w h, List.all_eq_true.mp (show (u_ws R_Wi T_Wi 5).all goodWord = true by decide +kernel) w h⟩)
def R_Pr : String := "DelayMachine$Program"
def T_Pr : u_T := fun k => match k with
  | 0 => ("DelayMachine$Program", "operations", "[I", true)
  | 1 => ("DelayMachine$Program", "as", "[I", true)
  | 2 => ("DelayMachine$Program", "bs", "[I", true)
  | 3 => ("DelayMachine$Program", "cs", "[I", true)
  | 4 => ("DelayMachine$Program", "gotos", "[I", true)
  | _ => ("DelayMachine$Program", "count", "I", false)
def t_Pr : Nat → FieldType := fun k => match k with
  | 0 => .array .int
  | 1 => .array .int
  | 2 => .array .int
  | 3 => .array .int
  | 4 => .array .int
  | _ => .int
theorem n_Pr : ∀ a, a < 6 → ∀ b, b < 6 → a ≠ b → (T_Pr a).2.1 ≠ (T_Pr b).2.1 := by decide +kernel
theorem o_Pr : ∀ k, k < 6 → parseFieldDescriptor (T_Pr k).2.2.1 = some (t_Pr k) := by decide +kernel
theorem i_Pr : ∀ w ∈ u_ws R_Pr T_Pr 6, w ∈ lw_g := fun w h => List.mem_append_right _ (List.mem_filter.mpr ⟨in_places [201, 203, 205, 207, 209, 211] (by decide +kernel) w h, List.all_eq_true.mp (show (u_ws R_Pr T_Pr 6).all goodWord = true by decide +kernel) w h⟩)
def R_Pl : String := "DelayMachine$Placing"
def T_Pl : u_T := fun k => match k with
  | 0 => ("DelayMachine$Placing", "orders", "[I", true)
  | 1 => ("DelayMachine$Placing", "holders", "[I", true)
  | 2 => ("DelayMachine$Placing", "variables", "[I", true)
  | 3 => ("DelayMachine$Placing", "firsts", "[I", true)
  | 4 => ("DelayMachine$Placing", "branches", "[I", true)
  | 5 => ("DelayMachine$Placing", "from", "I", false)
  | 6 => ("DelayMachine$Placing", "leader", "I", false)
  | 7 => ("DelayMachine$Placing", "count", "I", false)
  | _ => ("DelayMachine$Placing", "fits", "Z", false)
def t_Pl : Nat → FieldType := fun k => match k with
  | 0 => .array .int
  | 1 => .array .int
  | 2 => .array .int
  | 3 => .array .int
  | 4 => .array .int
  | 5 => .int
  | 6 => .int
  | 7 => .int
  | _ => .boolean
theorem n_Pl : ∀ a, a < 9 → ∀ b, b < 9 → a ≠ b → (T_Pl a).2.1 ≠ (T_Pl b).2.1 := by decide +kernel
theorem o_Pl : ∀ k, k < 9 → parseFieldDescriptor (T_Pl k).2.2.1 = some (t_Pl k) := by decide +kernel
theorem i_Pl : ∀ w ∈ u_ws R_Pl T_Pl 9, w ∈ lw_g := fun w h => List.mem_append_right _ (List.mem_filter.mpr ⟨in_places [236, 238, 240, 242, 244, 246, 248, 250, 252] (by decide +kernel) w h, List.all_eq_true.mp (show (u_ws R_Pl T_Pl 9).all goodWord = true by decide +kernel) w h⟩)
def R_Md : String := "DelayMachineModel"
def T_Md : u_T := fun k => match k with
  | 0 => ("DelayMachineModel", "orders", "[I", true)
  | 1 => ("DelayMachineModel", "words", "[S", true)
  | 2 => ("DelayMachineModel", "now", "I", false)
  | 3 => ("DelayMachineModel", "going", "Z", false)
  | 4 => ("DelayMachineModel", "fault", "I", false)
  | 5 => ("DelayMachineModel", "due", "I", false)
  | 6 => ("DelayMachineModel", "dueLine", "I", false)
  | 7 => ("DelayMachineModel", "line", "I", false)
  | 8 => ("DelayMachineModel", "place", "I", false)
  | 9 => ("DelayMachineModel", "count", "I", false)
  | 10 => ("DelayMachineModel", "order", "I", false)
  | 11 => ("DelayMachineModel", "opens", "I", false)
  | 12 => ("DelayMachineModel", "closes", "I", false)
  | 13 => ("DelayMachineModel", "lastOrder", "I", false)
  | 14 => ("DelayMachineModel", "lastOpens", "I", false)
  | 15 => ("DelayMachineModel", "lastCloses", "I", false)
  | 16 => ("DelayMachineModel", "turned", "Z", false)
  | 17 => ("DelayMachineModel", "work", "I", false)
  | 18 => ("DelayMachineModel", "factor", "I", false)
  | 19 => ("DelayMachineModel", "cards", "I", false)
  | 20 => ("DelayMachineModel", "came", "I", false)
  | 21 => ("DelayMachineModel", "deck", "[S", true)
  | 22 => ("DelayMachineModel", "card", "[S", true)
  | 23 => ("DelayMachineModel", "fed", "I", false)
  | 24 => ("DelayMachineModel", "moved", "Z", false)
  | 25 => ("DelayMachineModel", "punches", "I", false)
  | 26 => ("DelayMachineModel", "punch", "[S", true)
  | 27 => ("DelayMachineModel", "punchedAt", "I", false)
  | 28 => ("DelayMachineModel", "statements", "I", false)
  | 29 => ("DelayMachineModel", "operation", "[I", true)
  | 30 => ("DelayMachineModel", "first", "[I", true)
  | 31 => ("DelayMachineModel", "second", "[I", true)
  | 32 => ("DelayMachineModel", "third", "[I", true)
  | 33 => ("DelayMachineModel", "goTo", "[I", true)
  | 34 => ("DelayMachineModel", "listed", "I", false)
  | 35 => ("DelayMachineModel", "source", "[I", true)
  | 36 => ("DelayMachineModel", "goal", "[I", true)
  | 37 => ("DelayMachineModel", "operand", "[I", true)
  | 38 => ("DelayMachineModel", "owner", "[I", true)
  | 39 => ("DelayMachineModel", "spot", "[I", true)
  | 40 => ("DelayMachineModel", "waits", "[I", true)
  | 41 => ("DelayMachineModel", "taken", "[Z", true)
  | 42 => ("DelayMachineModel", "held", "[Z", true)
  | 43 => ("DelayMachineModel", "places", "[I", true)
  | 44 => ("DelayMachineModel", "known", "I", false)
  | 45 => ("DelayMachineModel", "begins", "[I", true)
  | _ => ("DelayMachineModel", "variables", "[I", true)
def t_Md : Nat → FieldType := fun k => match k with
  | 0 => .array .int
  | 1 => .array .short
  | 2 => .int
  | 3 => .boolean
  | 4 => .int
  | 5 => .int
  | 6 => .int
  | 7 => .int
  | 8 => .int
  | 9 => .int
  | 10 => .int
  | 11 => .int
  | 12 => .int
  | 13 => .int
  | 14 => .int
  | 15 => .int
  | 16 => .boolean
  | 17 => .int
  | 18 => .int
  | 19 => .int
  | 20 => .int
  | 21 => .array .short
  | 22 => .array .short
  | 23 => .int
  | 24 => .boolean
  | 25 => .int
  | 26 => .array .short
  | 27 => .int
  | 28 => .int
  | 29 => .array .int
  | 30 => .array .int
  | 31 => .array .int
  | 32 => .array .int
  | 33 => .array .int
  | 34 => .int
  | 35 => .array .int
  | 36 => .array .int
  | 37 => .array .int
  | 38 => .array .int
  | 39 => .array .int
  | 40 => .array .int
  | 41 => .array .boolean
  | 42 => .array .boolean
  | 43 => .array .int
  | 44 => .int
  | 45 => .array .int
  | _ => .array .int
theorem n_Md : ∀ a, a < 47 → ∀ b, b < 47 → a ≠ b → (T_Md a).2.1 ≠ (T_Md b).2.1 := by decide +kernel
theorem o_Md : ∀ k, k < 47 → parseFieldDescriptor (T_Md k).2.2.1 = some (t_Md k) := by decide +kernel
theorem i_Md : ∀ w ∈ u_ws R_Md T_Md 47, w ∈ lw_g := fun w h => List.mem_append_right _ (List.mem_filter.mpr ⟨in_places [581, 583, 585, 587, 589, 591, 593, 595, 597, 599, 601, 603, 605, 607, 609, 611, 613, 615, 617, 619, 621, 623, 625, 627, 629, 631, 633, 635, 637, 639, 641, 643, 645, 647, 649, 651, 653, 655, 657, 659, 661, 663, 665, 667, 669, 671, 673] (by decide +kernel) w h, List.all_eq_true.mp (show (u_ws R_Md T_Md 47).all goodWord = true by decide +kernel) w h⟩)
abbrev gCl : List vw_C := [(R_Dm, T_Dm, 7), (R_St, T_St, 2), (R_Rd, T_Rd, 6), (R_Pu, T_Pu, 3), (R_Mc, T_Mc, 14), (R_Mu, T_Mu, 3), (R_Wi, T_Wi, 5), (R_Pr, T_Pr, 6), (R_Pl, T_Pl, 9), (R_Md, T_Md, 47)]
abbrev b_Dm_init : ByteArray := prog_1_method_1_code
def y_Dm_init : MethodName := ⟨R_Dm, "<init>", "()V"⟩
abbrev b_Dm_order : ByteArray := prog_1_method_2_code
def y_Dm_order : MethodName := ⟨R_Dm, "order", "(III)Z"⟩
abbrev b_Dm_word : ByteArray := prog_1_method_3_code
def y_Dm_word : MethodName := ⟨R_Dm, "word", "(IIS)Z"⟩
abbrev b_Dm_card : ByteArray := prog_1_method_4_code
def y_Dm_card : MethodName := ⟨R_Dm, "card", "(S)Z"⟩
abbrev b_Dm_start : ByteArray := prog_1_method_5_code
def y_Dm_start : MethodName := ⟨R_Dm, "start", "(II)Z"⟩
abbrev b_Dm_run : ByteArray := prog_1_method_6_code
def y_Dm_run : MethodName := ⟨R_Dm, "run", "(I)I"⟩
abbrev b_Dm_look : ByteArray := prog_1_method_7_code
def y_Dm_look : MethodName := ⟨R_Dm, "look", "(I)I"⟩
abbrev b_Dm_peek : ByteArray := prog_1_method_8_code
def y_Dm_peek : MethodName := ⟨R_Dm, "peek", "(II)S"⟩
abbrev b_Dm_read : ByteArray := prog_1_method_9_code
def y_Dm_read : MethodName := ⟨R_Dm, "read", "(II)I"⟩
abbrev b_Dm_punched : ByteArray := prog_1_method_10_code
def y_Dm_punched : MethodName := ⟨R_Dm, "punched", "(I)S"⟩
abbrev b_Dm_statement : ByteArray := prog_1_method_11_code
def y_Dm_statement : MethodName := ⟨R_Dm, "statement", "(IIIII)I"⟩
abbrev b_Dm_clear : ByteArray := prog_1_method_12_code
def y_Dm_clear : MethodName := ⟨R_Dm, "clear", "()V"⟩
abbrev b_Dm_assemble : ByteArray := prog_1_method_13_code
def y_Dm_assemble : MethodName := ⟨R_Dm, "assemble", "()I"⟩
abbrev b_Dm_placed : ByteArray := prog_1_method_14_code
def y_Dm_placed : MethodName := ⟨R_Dm, "placed", "(I)I"⟩
abbrev b_Dm_variable : ByteArray := prog_1_method_15_code
def y_Dm_variable : MethodName := ⟨R_Dm, "variable", "(I)I"⟩
abbrev b_Md_init : ByteArray := prog_11_method_1_code
def y_Md_init : MethodName := ⟨R_Md, "<init>", "()V"⟩
abbrev b_Md_wordAt : ByteArray := prog_11_method_2_code
def y_Md_wordAt : MethodName := ⟨R_Md, "wordAt", "(II)I"⟩
abbrev b_Md_isOrder : ByteArray := prog_11_method_3_code
def y_Md_isOrder : MethodName := ⟨R_Md, "isOrder", "(II)Z"⟩
abbrev b_Md_order : ByteArray := prog_11_method_4_code
def y_Md_order : MethodName := ⟨R_Md, "order", "(III)Z"⟩
abbrev b_Md_word : ByteArray := prog_11_method_5_code
def y_Md_word : MethodName := ⟨R_Md, "word", "(IIS)Z"⟩
abbrev b_Md_card : ByteArray := prog_11_method_6_code
def y_Md_card : MethodName := ⟨R_Md, "card", "(S)Z"⟩
abbrev b_Md_start : ByteArray := prog_11_method_7_code
def y_Md_start : MethodName := ⟨R_Md, "start", "(II)Z"⟩
abbrev b_Md_waitOf : ByteArray := prog_11_method_8_code
def y_Md_waitOf : MethodName := ⟨R_Md, "waitOf", "(I)I"⟩
abbrev b_Md_gapOf : ByteArray := prog_11_method_9_code
def y_Md_gapOf : MethodName := ⟨R_Md, "gapOf", "(I)I"⟩
abbrev b_Md_read_0 : ByteArray := prog_11_method_10_code
def y_Md_read_0 : MethodName := ⟨R_Md, "read", "()V"⟩
abbrev b_Md_row : ByteArray := prog_11_method_11_code
def y_Md_row : MethodName := ⟨R_Md, "row", "()I"⟩
abbrev b_Md_get : ByteArray := prog_11_method_12_code
def y_Md_get : MethodName := ⟨R_Md, "get", "(I)S"⟩
abbrev b_Md_fail : ByteArray := prog_11_method_13_code
def y_Md_fail : MethodName := ⟨R_Md, "fail", "(I)V"⟩
abbrev b_Md_put : ByteArray := prog_11_method_14_code
def y_Md_put : MethodName := ⟨R_Md, "put", "(IS)V"⟩
abbrev b_Md_discriminate : ByteArray := prog_11_method_15_code
def y_Md_discriminate : MethodName := ⟨R_Md, "discriminate", "(Z)V"⟩
abbrev b_Md_feed : ByteArray := prog_11_method_16_code
def y_Md_feed : MethodName := ⟨R_Md, "feed", "()V"⟩
abbrev b_Md_press : ByteArray := prog_11_method_17_code
def y_Md_press : MethodName := ⟨R_Md, "press", "(S)V"⟩
abbrev b_Md_current : ByteArray := prog_11_method_18_code
def y_Md_current : MethodName := ⟨R_Md, "current", "()I"⟩
abbrev b_Md_cycle : ByteArray := prog_11_method_19_code
def y_Md_cycle : MethodName := ⟨R_Md, "cycle", "()V"⟩
abbrev b_Md_multiply : ByteArray := prog_11_method_20_code
def y_Md_multiply : MethodName := ⟨R_Md, "multiply", "()V"⟩
abbrev b_Md_run : ByteArray := prog_11_method_21_code
def y_Md_run : MethodName := ⟨R_Md, "run", "(I)I"⟩
abbrev b_Md_look : ByteArray := prog_11_method_22_code
def y_Md_look : MethodName := ⟨R_Md, "look", "(I)I"⟩
abbrev b_Md_peek : ByteArray := prog_11_method_23_code
def y_Md_peek : MethodName := ⟨R_Md, "peek", "(II)S"⟩
abbrev b_Md_read_II : ByteArray := prog_11_method_24_code
def y_Md_read_II : MethodName := ⟨R_Md, "read", "(II)I"⟩
abbrev b_Md_punched : ByteArray := prog_11_method_25_code
def y_Md_punched : MethodName := ⟨R_Md, "punched", "(I)S"⟩
abbrev b_Md_isVariable : ByteArray := prog_11_method_26_code
def y_Md_isVariable : MethodName := ⟨R_Md, "isVariable", "(I)Z"⟩
abbrev b_Md_statement : ByteArray := prog_11_method_27_code
def y_Md_statement : MethodName := ⟨R_Md, "statement", "(IIIII)I"⟩
abbrev b_Md_clear : ByteArray := prog_11_method_28_code
def y_Md_clear : MethodName := ⟨R_Md, "clear", "()V"⟩
abbrev b_Md_list : ByteArray := prog_11_method_29_code
def y_Md_list : MethodName := ⟨R_Md, "list", "(IIII)V"⟩
abbrev b_Md_listAll : ByteArray := prog_11_method_30_code
def y_Md_listAll : MethodName := ⟨R_Md, "listAll", "()V"⟩
abbrev b_Md_free : ByteArray := prog_11_method_31_code
def y_Md_free : MethodName := ⟨R_Md, "free", "(IZ)I"⟩
abbrev b_Md_place : ByteArray := prog_11_method_32_code
def y_Md_place : MethodName := ⟨R_Md, "place", "()Z"⟩
abbrev b_Md_variableFrom : ByteArray := prog_11_method_33_code
def y_Md_variableFrom : MethodName := ⟨R_Md, "variableFrom", "(II)I"⟩
abbrev b_Md_firstOf : ByteArray := prog_11_method_34_code
def y_Md_firstOf : MethodName := ⟨R_Md, "firstOf", "(I)I"⟩
abbrev b_Md_write : ByteArray := prog_11_method_35_code
def y_Md_write : MethodName := ⟨R_Md, "write", "(I)V"⟩
abbrev b_Md_isSecond : ByteArray := prog_11_method_36_code
def y_Md_isSecond : MethodName := ⟨R_Md, "isSecond", "(I)Z"⟩
abbrev b_Md_assemble : ByteArray := prog_11_method_37_code
def y_Md_assemble : MethodName := ⟨R_Md, "assemble", "()I"⟩
abbrev b_Md_placed : ByteArray := prog_11_method_38_code
def y_Md_placed : MethodName := ⟨R_Md, "placed", "(I)I"⟩
abbrev b_Md_variable : ByteArray := prog_11_method_39_code
def y_Md_variable : MethodName := ⟨R_Md, "variable", "(I)I"⟩
abbrev b_Mc_init : ByteArray := prog_2_method_1_code
def y_Mc_init : MethodName := ⟨R_Mc, "<init>", "(LDelayMachine$Store;LDelayMachine$Reader;LDelayMachine$Punch;)V"⟩
abbrev b_Mc_begin : ByteArray := prog_2_method_2_code
def y_Mc_begin : MethodName := ⟨R_Mc, "begin", "(II)V"⟩
abbrev b_Mc_goThroughCycle : ByteArray := prog_2_method_3_code
def y_Mc_goThroughCycle : MethodName := ⟨R_Mc, "goThroughCycle", "()V"⟩
abbrev b_Mc_takeOrder : ByteArray := prog_2_method_4_code
def y_Mc_takeOrder : MethodName := ⟨R_Mc, "takeOrder", "()V"⟩
abbrev b_Mc_stopBy : ByteArray := prog_2_method_5_code
def y_Mc_stopBy : MethodName := ⟨R_Mc, "stopBy", "(I)V"⟩
abbrev b_Mc_move : ByteArray := prog_2_method_6_code
def y_Mc_move : MethodName := ⟨R_Mc, "move", "(LDelayMachine$Window;)V"⟩
abbrev b_Mc_discriminate : ByteArray := prog_2_method_7_code
def y_Mc_discriminate : MethodName := ⟨R_Mc, "discriminate", "(LDelayMachine$Window;Z)V"⟩
abbrev b_Mc_sourceWord : ByteArray := prog_2_method_8_code
def y_Mc_sourceWord : MethodName := ⟨R_Mc, "sourceWord", "(I)S"⟩
abbrev b_Mc_deliver : ByteArray := prog_2_method_9_code
def y_Mc_deliver : MethodName := ⟨R_Mc, "deliver", "(SI)V"⟩
abbrev b_Mu_init : ByteArray := prog_3_method_1_code
def y_Mu_init : MethodName := ⟨R_Mu, "<init>", "()V"⟩
abbrev b_Mu_rest : ByteArray := prog_3_method_2_code
def y_Mu_rest : MethodName := ⟨R_Mu, "rest", "()V"⟩
abbrev b_Mu_begin : ByteArray := prog_3_method_3_code
def y_Mu_begin : MethodName := ⟨R_Mu, "begin", "(SLDelayMachine$Store;)V"⟩
abbrev b_Mu_endCycle : ByteArray := prog_3_method_4_code
def y_Mu_endCycle : MethodName := ⟨R_Mu, "endCycle", "(LDelayMachine$Store;)V"⟩
abbrev b_Pl_init : ByteArray := prog_4_method_1_code
def y_Pl_init : MethodName := ⟨R_Pl, "<init>", "()V"⟩
abbrev b_Pl_placeAll : ByteArray := prog_4_method_2_code
def y_Pl_placeAll : MethodName := ⟨R_Pl, "placeAll", "(LDelayMachine$Program;)Z"⟩
abbrev b_Pl_forget : ByteArray := prog_4_method_3_code
def y_Pl_forget : MethodName := ⟨R_Pl, "forget", "()V"⟩
abbrev b_Pl_placeStatement : ByteArray := prog_4_method_4_code
def y_Pl_placeStatement : MethodName := ⟨R_Pl, "placeStatement", "(LDelayMachine$Program;I)V"⟩
abbrev b_Pl_placeOrder : ByteArray := prog_4_method_5_code
def y_Pl_placeOrder : MethodName := ⟨R_Pl, "placeOrder", "(III)V"⟩
abbrev b_Pl_placeStop : ByteArray := prog_4_method_6_code
def y_Pl_placeStop : MethodName := ⟨R_Pl, "placeStop", "()V"⟩
abbrev b_Pl_placeFork : ByteArray := prog_4_method_7_code
def y_Pl_placeFork : MethodName := ⟨R_Pl, "placeFork", "(I)V"⟩
abbrev b_Pl_occupy : ByteArray := prog_4_method_8_code
def y_Pl_occupy : MethodName := ⟨R_Pl, "occupy", "(II)V"⟩
abbrev b_Pl_lead : ByteArray := prog_4_method_9_code
def y_Pl_lead : MethodName := ⟨R_Pl, "lead", "(II)V"⟩
abbrev b_Pl_freeSpot : ByteArray := prog_4_method_10_code
def y_Pl_freeSpot : MethodName := ⟨R_Pl, "freeSpot", "()I"⟩
abbrev b_Pl_forkSpot : ByteArray := prog_4_method_11_code
def y_Pl_forkSpot : MethodName := ⟨R_Pl, "forkSpot", "()I"⟩
abbrev b_Pl_isFree : ByteArray := prog_4_method_12_code
def y_Pl_isFree : MethodName := ⟨R_Pl, "isFree", "(II)Z"⟩
abbrev b_Pl_variablePlace : ByteArray := prog_4_method_13_code
def y_Pl_variablePlace : MethodName := ⟨R_Pl, "variablePlace", "(II)I"⟩
abbrev b_Pl_leadBranches : ByteArray := prog_4_method_14_code
def y_Pl_leadBranches : MethodName := ⟨R_Pl, "leadBranches", "(LDelayMachine$Program;)V"⟩
abbrev b_Pl_fillWithStops : ByteArray := prog_4_method_15_code
def y_Pl_fillWithStops : MethodName := ⟨R_Pl, "fillWithStops", "()V"⟩
abbrev b_Pr_init : ByteArray := prog_5_method_1_code
def y_Pr_init : MethodName := ⟨R_Pr, "<init>", "()V"⟩
abbrev b_Pr_addStatement : ByteArray := prog_5_method_2_code
def y_Pr_addStatement : MethodName := ⟨R_Pr, "addStatement", "(IIIII)I"⟩
abbrev b_Pr_isVariable : ByteArray := prog_5_method_3_code
def y_Pr_isVariable : MethodName := ⟨R_Pr, "isVariable", "(I)Z"⟩
abbrev b_Pr_allGotosLead : ByteArray := prog_5_method_4_code
def y_Pr_allGotosLead : MethodName := ⟨R_Pr, "allGotosLead", "()Z"⟩
abbrev b_Pr_endsWithHalt : ByteArray := prog_5_method_5_code
def y_Pr_endsWithHalt : MethodName := ⟨R_Pr, "endsWithHalt", "()Z"⟩
abbrev b_Pu_init : ByteArray := prog_6_method_1_code
def y_Pu_init : MethodName := ⟨R_Pu, "<init>", "()V"⟩
abbrev b_Pu_take : ByteArray := prog_6_method_2_code
def y_Pu_take : MethodName := ⟨R_Pu, "take", "(SI)Z"⟩
abbrev b_Rd_init : ByteArray := prog_7_method_1_code
def y_Rd_init : MethodName := ⟨R_Rd, "<init>", "()V"⟩
abbrev b_Rd_addRow : ByteArray := prog_7_method_2_code
def y_Rd_addRow : MethodName := ⟨R_Rd, "addRow", "(S)Z"⟩
abbrev b_Rd_rowsLeft : ByteArray := prog_7_method_3_code
def y_Rd_rowsLeft : MethodName := ⟨R_Rd, "rowsLeft", "()I"⟩
abbrev b_Rd_rest : ByteArray := prog_7_method_4_code
def y_Rd_rest : MethodName := ⟨R_Rd, "rest", "()V"⟩
abbrev b_Rd_feed : ByteArray := prog_7_method_5_code
def y_Rd_feed : MethodName := ⟨R_Rd, "feed", "(I)Z"⟩
abbrev b_Rd_offset : ByteArray := prog_7_method_6_code
def y_Rd_offset : MethodName := ⟨R_Rd, "offset", "(I)I"⟩
abbrev b_Rd_moveRow : ByteArray := prog_7_method_7_code
def y_Rd_moveRow : MethodName := ⟨R_Rd, "moveRow", "(I)S"⟩
abbrev b_Rd_endCycle : ByteArray := prog_7_method_8_code
def y_Rd_endCycle : MethodName := ⟨R_Rd, "endCycle", "(I)Z"⟩
abbrev b_St_init : ByteArray := prog_8_method_1_code
def y_St_init : MethodName := ⟨R_St, "<init>", "()V"⟩
abbrev b_St_orderSpot : ByteArray := prog_8_method_2_code
def y_St_orderSpot : MethodName := ⟨R_St, "orderSpot", "(II)I"⟩
abbrev b_St_wordSpot : ByteArray := prog_8_method_3_code
def y_St_wordSpot : MethodName := ⟨R_St, "wordSpot", "(II)I"⟩
abbrev b_St_presentedSpot : ByteArray := prog_8_method_4_code
def y_St_presentedSpot : MethodName := ⟨R_St, "presentedSpot", "(II)I"⟩
abbrev b_St_placesOf : ByteArray := prog_8_method_5_code
def y_St_placesOf : MethodName := ⟨R_St, "placesOf", "(I)I"⟩
abbrev b_St_firstSpot : ByteArray := prog_8_method_6_code
def y_St_firstSpot : MethodName := ⟨R_St, "firstSpot", "(I)I"⟩
abbrev b_St_product : ByteArray := prog_8_method_7_code
def y_St_product : MethodName := ⟨R_St, "product", "()I"⟩
abbrev b_St_setProduct : ByteArray := prog_8_method_8_code
def y_St_setProduct : MethodName := ⟨R_St, "setProduct", "(I)V"⟩
abbrev b_Wi_init : ByteArray := prog_9_method_1_code
def y_Wi_init : MethodName := ⟨R_Wi, "<init>", "()V"⟩
abbrev b_Wi_close : ByteArray := prog_9_method_2_code
def y_Wi_close : MethodName := ⟨R_Wi, "close", "()V"⟩
abbrev b_Wi_open : ByteArray := prog_9_method_3_code
def y_Wi_open : MethodName := ⟨R_Wi, "open", "(II)V"⟩
abbrev b_Wi_lastOf : ByteArray := prog_9_method_4_code
def y_Wi_lastOf : MethodName := ⟨R_Wi, "lastOf", "(I)I"⟩
abbrev b_Wi_covers : ByteArray := prog_9_method_5_code
def y_Wi_covers : MethodName := ⟨R_Wi, "covers", "(I)Z"⟩
abbrev b_Lw_law : ByteArray := code
def y_Lw_law : MethodName := ⟨"DelayMachineLaw", "law", "([I)Z"⟩
abbrev b_Ar_fill : ByteArray := prog_13_method_103_code
def y_Ar_fill : MethodName := ⟨"java/util/Arrays", "fill", "([II)V"⟩
end
section
theorem d_Ar_fill_0 : decode b_Ar_fill 0 = .ok (.iconst 0, 1) := by decide +kernel
theorem d_Ar_fill_1 : decode b_Ar_fill 1 = .ok (.istore_n 2, 1) := by decide +kernel
theorem d_Ar_fill_2 : decode b_Ar_fill 2 = .ok (.aload_n 0, 1) := by decide +kernel
theorem d_Ar_fill_3 : decode b_Ar_fill 3 = .ok (.arraylength, 1) := by decide +kernel
theorem d_Ar_fill_4 : decode b_Ar_fill 4 = .ok (.istore_n 3, 1) := by decide +kernel
theorem d_Ar_fill_5 : decode b_Ar_fill 5 = .ok (.iload_n 2, 1) := by decide +kernel
theorem d_Ar_fill_6 : decode b_Ar_fill 6 = .ok (.iload_n 3, 1) := by decide +kernel
theorem d_Ar_fill_7 : decode b_Ar_fill 7 = .ok (.if_icmp .ge 13, 3) := by decide +kernel
theorem d_Ar_fill_10 : decode b_Ar_fill 10 = .ok (.aload_n 0, 1) := by decide +kernel
theorem d_Ar_fill_11 : decode b_Ar_fill 11 = .ok (.iload_n 2, 1) := by decide +kernel
theorem d_Ar_fill_12 : decode b_Ar_fill 12 = .ok (.iload_n 1, 1) := by decide +kernel
theorem d_Ar_fill_13 : decode b_Ar_fill 13 = .ok (.iastore, 1) := by decide +kernel
theorem d_Ar_fill_14 : decode b_Ar_fill 14 = .ok (.iinc 2 1, 3) := by decide +kernel
theorem d_Ar_fill_17 : decode b_Ar_fill 17 = .ok (.goto (-12), 3) := by decide +kernel
theorem d_Ar_fill_20 : decode b_Ar_fill 20 = .ok (.return_, 1) := by decide +kernel
end
section
abbrev gS : Type := (Nat → Int32) × (Nat → Nat → Int32)
abbrev gSW : Type := Nat × Nat × (Nat → Int32) × (Nat → Nat → Int32)
abbrev gSP : Type := (Nat → Nat) × (Nat → Nat) × (Nat → Int32) × (Nat → Nat → Int32)
abbrev gT (cI cS cZ : ClassId) : List (ClassId × FieldType) := [(cI, .int), (cS, .short), (cZ, .boolean)]
section GK
variable {S : Type}
/-- before a method: the world at a state u, of a heap of sz cells -/
def gPre (D : va_G) (tys : List (ClassId × FieldType)) (Wd : S → va_W) (sz : Nat) (u : S) : State → Prop := fun U => U.heap.size = sz ∧ va_P D gCl (Wd u) U.heap ∧ (va_K D gCl tys U ∧ gNst U) ∧ va_D (fun _ => True) (Wd u)
/-- behind it -/
def gAt (D : va_G) (tys : List (ClassId × FieldType)) (Wd : S → va_W) (A : Nat → Prop) (u : S) (t : State) : Prop := va_P D gCl (Wd u) t.heap ∧ va_K D gCl tys t ∧ va_D A (Wd u)
/-- a method that answers an int (short, boolean), over the world Wd -/
def gMi (l : Launch) (y : MethodName) (cc : ByteArray) (maxL : Nat) (ty : FieldType) (rm : Room) (D : va_G) (tys : List (ClassId × FieldType)) (Wd : S → va_W) (av : List Value) (u : S) (post : Int32 → S → Prop) : Prop :=
  ∀ sz : Nat, Met l y (.code y cc maxL (some ty) :: lw_g) rm (va_Pc av (gPre D tys Wd sz u)) (va_Qi post (gAt D tys Wd (va_A (Wd u) sz)) (va_A (Wd u) sz)) 0 0 (va_A (Wd u) sz)
def gMv (l : Launch) (y : MethodName) (cc : ByteArray) (maxL : Nat) (rm : Room) (D : va_G) (tys : List (ClassId × FieldType)) (Wd : S → va_W) (av : List Value) (u : S) (post : S → Prop) : Prop :=
  ∀ sz : Nat, Met l y (.code y cc maxL none :: lw_g) rm (va_Pc av (gPre D tys Wd sz u)) (va_Qv post (gAt D tys Wd (va_A (Wd u) sz)) (va_A (Wd u) sz)) 0 0 (va_A (Wd u) sz)
theorem gMi.of {l : Launch} {y : MethodName} {cc : ByteArray} {maxL : Nat} {ty : FieldType} {rm : Room} {D : va_G} {tys : List (ClassId × FieldType)} {Wd : S → va_W} {av : List Value} {u : S} {post : Int32 → S → Prop}
    (hy : plainName y.cls = true) (hlen : (lg_sl av).length ≤ maxL)
    (K : ∀ (p : Program) (e : Env) (s : State) (m : MethodId) (below : List Frame) (meth : Method) (c : Code) (Q : State → Prop) (A : Nat → Prop),
      p.tables.exec = Jvm.exec → c.code = cc → c.maxLocals = maxL → s.vm.findClass y.cls = some m.cls → (∀ w ∈ lw_g, w.before av.toArray s = true) → va_K D gCl tys s → gNst s → (∀ q, s.heap.size ≤ q → A q) → va_S A s.heap s.heap [] → va_P D gCl (Wd u) s.heap → va_D A (Wd u) →
      (∀ (H : Heap) (locs : List Loc) (pc : Nat) (ls : Array Slot) (v : Int32) (u1 : S), decode cc pc = .ok (.ireturn, 1) → va_P D gCl (Wd u1) H → va_D A (Wd u1) → va_S A s.heap H locs → narrow ty (.int v) = .int v → post v u1 → W p l e rm s m av.toArray below meth c H locs 0 0 Q (F0 m pc ls [.int v])) →
      ∀ ls : Array Slot, lv_has ls maxL (lv_args 0 av) → W p l e rm s m av.toArray below meth c s.heap [] 0 0 Q (F0 m 0 ls [])) : gMi l y cc maxL ty rm D tys Wd av u post := by
  intro sz
  refine Met.ofW (cc := cc) (maxL := maxL) (ret := some ty) hy rfl ?_
  intro p e s m args below meth c s₁ B hml hv
  obtain ⟨rfl, hsz, hP, ⟨hK, hN⟩, hD0⟩ := hv
  have hts := atoms_spec (ws := Cond.code y cc maxL (some ty) :: lw_g) B.pre
  have hown : s.vm.findClass y.cls = some m.cls := findClass_of_methodNamed B.named
  subst hsz
  have hl := lv_entry av (n := maxL) hlen
  rw [lg_entry_eq]
  exact K p e s m below meth c _ (va_A (Wd u) s.heap.size) B.exec B.bytes hml hown (fun w h => hts w (List.mem_cons_of_mem _ h)) hK hN (fun q h => Or.inr h) va_S.rf hP hD0.self
    (fun H locs pc ls v u1 hd hP1 hD1 hS1 hn hp => W.zret B.exec B.bytes B.returns hn (fun t ht hW => ⟨⟨v, u1, rfl, hp, by rw [ht]; exact hP1, va_K.moved hW.alike hK, hD1⟩, hS1.F ht⟩) hS1.2.2 hd B.notSynchronized) _ hl
theorem gMv.of {l : Launch} {y : MethodName} {cc : ByteArray} {maxL : Nat} {rm : Room} {D : va_G} {tys : List (ClassId × FieldType)} {Wd : S → va_W} {av : List Value} {u : S} {post : S → Prop}
    (hy : plainName y.cls = true) (hlen : (lg_sl av).length ≤ maxL)
    (K : ∀ (p : Program) (e : Env) (s : State) (m : MethodId) (below : List Frame) (meth : Method) (c : Code) (Q : State → Prop) (A : Nat → Prop),
      p.tables.exec = Jvm.exec → c.code = cc → c.maxLocals = maxL → s.vm.findClass y.cls = some m.cls → (∀ w ∈ lw_g, w.before av.toArray s = true) → va_K D gCl tys s → gNst s → (∀ q, s.heap.size ≤ q → A q) → va_S A s.heap s.heap [] → va_P D gCl (Wd u) s.heap → va_D A (Wd u) →
      (∀ (H : Heap) (locs : List Loc) (pc : Nat) (ls : Array Slot) (u1 : S), decode cc pc = .ok (.return_, 1) → va_P D gCl (Wd u1) H → va_D A (Wd u1) → va_S A s.heap H locs → post u1 → W p l e rm s m av.toArray below meth c H locs 0 0 Q (F0 m pc ls [])) →
      ∀ ls : Array Slot, lv_has ls maxL (lv_args 0 av) → W p l e rm s m av.toArray below meth c s.heap [] 0 0 Q (F0 m 0 ls [])) : gMv l y cc maxL rm D tys Wd av u post := by
  intro sz
  refine Met.ofW (cc := cc) (maxL := maxL) (ret := none) hy rfl ?_
  intro p e s m args below meth c s₁ B hml hv
  obtain ⟨rfl, hsz, hP, ⟨hK, hN⟩, hD0⟩ := hv
  have hts := atoms_spec (ws := Cond.code y cc maxL none :: lw_g) B.pre
  have hown : s.vm.findClass y.cls = some m.cls := findClass_of_methodNamed B.named
  subst hsz
  have hl := lv_entry av (n := maxL) hlen
  rw [lg_entry_eq]
  exact K p e s m below meth c _ (va_A (Wd u) s.heap.size) B.exec B.bytes hml hown (fun w h => hts w (List.mem_cons_of_mem _ h)) hK hN (fun q h => Or.inr h) va_S.rf hP hD0.self
    (fun H locs pc ls u1 hd hP1 hD1 hS1 hp => W.vret B.exec B.bytes B.returns (fun t ht hW => ⟨⟨u1, rfl, hp, by rw [ht]; exact hP1, va_K.moved hW.alike hK, hD1⟩, hS1.F ht⟩) hS1.2.2 hd B.notSynchronized) _ hl
end GK
-- the words of a call
theorem gGV {own C : String} {idx maxL : Nat} {y : MethodName} {bytes : ByteArray} {ret : Option FieldType} (h1 : Cond.methodLink own idx y ∈ lw_g) (h2 : Cond.instanceMethod y ∈ lw_g) (h3 : Cond.selects C y y ∈ lw_g) (h4 : Cond.initialized C ∈ lw_g) (h5 : Cond.code y bytes maxL ret ∈ lw_g) : GoodIn lw_g (wsV own idx C y (.code y bytes maxL ret :: lw_g)) := by
  intro w hw
  have h : w ∈ lw_g := by
    unfold wsV at hw
    simp only [List.cons_append, List.nil_append, List.mem_cons] at hw
    rcases hw with rfl | rfl | rfl | rfl | rfl | h
    · exact h1
    · exact h2
    · exact h3
    · exact h4
    · exact h5
    · exact h
  exact ⟨h, lw_good w h⟩
theorem gGS {own : String} {idx maxL : Nat} {y : MethodName} {bytes : ByteArray} {ret : Option FieldType} (h1 : Cond.methodLink own idx y ∈ lw_g) (h2 : Cond.static y ∈ lw_g) (h4 : Cond.initialized y.cls ∈ lw_g) (h5 : Cond.code y bytes maxL ret ∈ lw_g) : GoodIn lw_g (va_wsS own idx y (.code y bytes maxL ret :: lw_g)) := by
  intro w hw
  have h : w ∈ lw_g := by
    unfold va_wsS at hw
    simp only [List.cons_append, List.nil_append, List.mem_cons] at hw
    rcases hw with rfl | rfl | rfl | rfl | h
    · exact h1
    · exact h2
    · exact h4
    · exact h5
    · exact h
  exact ⟨h, lw_good w h⟩
theorem gGI {maxL : Nat} {y : MethodName} {bytes : ByteArray} {ret : Option FieldType} (h5 : Cond.code y bytes maxL ret ∈ lw_g) : GoodIn lw_g (.code y bytes maxL ret :: lw_g) := by
  intro w hw
  have h : w ∈ lw_g := by
    rcases List.mem_cons.mp hw with rfl | h
    · exact h5
    · exact h
  exact ⟨h, lw_good w h⟩
section GC
variable {p : Program} {l : Launch} {e : Env} {R : Room} {s : State} {m : MethodId} {args : Array Value} {below : List Frame} {meth : Method} {c : Code} {H H0 : Heap} {locs : List Loc} {cells slots : Nat} {Q : State → Prop}
variable {cc bytes : ByteArray} {pc nL n index maxL : Nat} {ls : Array Slot} {rest st0 As : List Value} {D : va_G} {tys : List (ClassId × FieldType)} {A : Nat → Prop} {own C : String} {y : MethodName} {ty : FieldType} {rm : Room} {b : Nat} {S : Type} {Wd : S → va_W} {u : S}
theorem gFree (hD : va_D A (Wd u)) (hS : va_S A H0 H locs) (hA : ∀ q, H0.size ≤ q → A q) : ∀ q, va_A (Wd u) H.size q → A q := by
  intro q h
  rcases h with ⟨k, e, h⟩ | h
  · exact hD.2 k (q, e) h
  · exact hA q (Nat.le_trans hS.1 h)
theorem gPreB (D : va_G) (tys : List (ClassId × FieldType)) (Wd : S → va_W) (sz : Nat) (u : S) (av : List Value) : FrameBlind (va_Pc av (gPre D tys Wd sz u)) := by
  intro a U g mk q
  obtain ⟨q0, q1, qP, ⟨qK, qN⟩, qD⟩ := q
  exact ⟨q0, q1, qP, ⟨va_K.moved (u := U) (U := U.calling g mk a) (Vm.Alike.refl U.vm) qK, gNst.same (u := U) (U := U.calling g mk a) rfl qN⟩, qD⟩
theorem gPreAt (hK : va_K D gCl tys s) (hN : gNst s) (hP : va_P D gCl (Wd u) H) (hD : va_D A (Wd u)) (av : List Value) : ∀ U : State, U.heap = H → s.WarmedH U.vm → va_Pc av (gPre D tys Wd H.size u) av.toArray U :=
  fun U hU hW => ⟨rfl, by rw [hU], by rw [hU]; exact hP, ⟨va_K.moved hW.alike hK, gNst.warm hW hN⟩, hD.weaken (fun _ _ _ _ => trivial)⟩
theorem gCallVi {post : Int32 → S → Prop} (hM : gMi l y bytes maxL ty rm D tys Wd (.ref b :: As) u post) (hx : p.tables.exec = Jvm.exec) (hb : c.code = cc) (hml : c.maxLocals = nL) (hown : s.vm.findClass own = some m.cls) (hts : ∀ w ∈ lw_g, w.before args s = true) (hK : va_K D gCl tys s) (hN : gNst s) (hA : ∀ q, H0.size ≤ q → A q) (hS : va_S A H0 H locs) (hP : va_P D gCl (Wd u) H) (hD : va_D A (Wd u))
    (cw : CallW R s args own C index y bytes maxL (some ty) (.code y bytes maxL (some ty) :: lw_g) rm 0 0 n) (hrecv : ∃ cell : Cell, H[b]? = some cell ∧ cell.vm.isStatics = false ∧ s.vm.findClass C = some cell.cls)
    (hn : As.length = n) (hls : ls.size = nL) (hst : st0 = As.reverse ++ .ref b :: rest) (hroom : (rest.map fun v => v.category).sum ≤ 8) (hdg : decode cc pc = .ok (.invokevirtual index, 3))
    (kk : ∀ (r : Int32) (u1 : S) (H1 : Heap) (locs1 : List Loc), post r u1 → va_P D gCl (Wd u1) H1 → va_D A (Wd u1) → va_S A H0 H1 locs1 → W p l e R s m args below meth c H1 locs1 cells slots Q (F0 m (pc + 3) ls (.int r :: rest))) (hc : cells ≤ R.cells := by exact Nat.zero_le _) (hs : slots ≤ R.slots := by exact Nat.zero_le _) : W p l e R s m args below meth c H locs cells slots Q (F0 m pc ls st0) := by
  have hF := gFree hD hS hA
  refine va_calli (va_runV (g := F0 m pc ls st0) ⟨hx, hb, hml, hown, hts⟩ (hM H.size) cw ⟨gPreB D tys Wd H.size u _, hrecv, gPreAt hK hN hP hD _⟩ rfl hn hls hst (lv_room hroom) hdg ⟨hc, hs⟩) hS (fun q _ h => hF q h) hF (fun r u1 t H1 locs1 ht hvm hp hB hz hk hS1 => ?_)
  obtain ⟨hP1, hK1, hD1⟩ := hB
  rw [ht] at hP1
  exact kk r u1 H1 locs1 hp hP1 (hD1.weaken (fun _ _ _ h => hF _ h)) hS1
theorem gCallVv {post : S → Prop} (hM : gMv l y bytes maxL rm D tys Wd (.ref b :: As) u post) (hx : p.tables.exec = Jvm.exec) (hb : c.code = cc) (hml : c.maxLocals = nL) (hown : s.vm.findClass own = some m.cls) (hts : ∀ w ∈ lw_g, w.before args s = true) (hK : va_K D gCl tys s) (hN : gNst s) (hA : ∀ q, H0.size ≤ q → A q) (hS : va_S A H0 H locs) (hP : va_P D gCl (Wd u) H) (hD : va_D A (Wd u))
    (cw : CallW R s args own C index y bytes maxL none (.code y bytes maxL none :: lw_g) rm 0 0 n) (hrecv : ∃ cell : Cell, H[b]? = some cell ∧ cell.vm.isStatics = false ∧ s.vm.findClass C = some cell.cls)
    (hn : As.length = n) (hls : ls.size = nL) (hst : st0 = As.reverse ++ .ref b :: rest) (hroom : (rest.map fun v => v.category).sum ≤ 8) (hdg : decode cc pc = .ok (.invokevirtual index, 3))
    (kk : ∀ (u1 : S) (H1 : Heap) (locs1 : List Loc), post u1 → va_P D gCl (Wd u1) H1 → va_D A (Wd u1) → va_S A H0 H1 locs1 → W p l e R s m args below meth c H1 locs1 cells slots Q (F0 m (pc + 3) ls rest)) (hc : cells ≤ R.cells := by exact Nat.zero_le _) (hs : slots ≤ R.slots := by exact Nat.zero_le _) : W p l e R s m args below meth c H locs cells slots Q (F0 m pc ls st0) := by
  have hF := gFree hD hS hA
  refine va_callv (va_runV (g := F0 m pc ls st0) ⟨hx, hb, hml, hown, hts⟩ (hM H.size) cw ⟨gPreB D tys Wd H.size u _, hrecv, gPreAt hK hN hP hD _⟩ rfl hn hls hst (lv_room hroom) hdg ⟨hc, hs⟩) hS (fun q _ h => hF q h) hF (fun u1 t H1 locs1 ht hvm hp hB hz hk hS1 => ?_)
  obtain ⟨hP1, hK1, hD1⟩ := hB
  rw [ht] at hP1
  exact kk u1 H1 locs1 hp hP1 (hD1.weaken (fun _ _ _ h => hF _ h)) hS1
theorem gCallSi {post : Int32 → S → Prop} (hM : gMi l y bytes maxL ty rm D tys Wd As u post) (hx : p.tables.exec = Jvm.exec) (hb : c.code = cc) (hml : c.maxLocals = nL) (hown : s.vm.findClass own = some m.cls) (hts : ∀ w ∈ lw_g, w.before args s = true) (hK : va_K D gCl tys s) (hN : gNst s) (hA : ∀ q, H0.size ≤ q → A q) (hS : va_S A H0 H locs) (hP : va_P D gCl (Wd u) H) (hD : va_D A (Wd u))
    (cw : CallB R s args own index y bytes maxL (some ty) (.code y bytes maxL (some ty) :: lw_g) rm 0 0 n ∧ (Cond.static y).before args s = true)
    (hn : As.length = n) (hls : ls.size = nL) (hst : st0 = As.reverse ++ rest) (hroom : (rest.map fun v => v.category).sum ≤ 8) (hdg : decode cc pc = .ok (.invokestatic index, 3))
    (kk : ∀ (r : Int32) (u1 : S) (H1 : Heap) (locs1 : List Loc), post r u1 → va_P D gCl (Wd u1) H1 → va_D A (Wd u1) → va_S A H0 H1 locs1 → W p l e R s m args below meth c H1 locs1 cells slots Q (F0 m (pc + 3) ls (.int r :: rest))) (hc : cells ≤ R.cells := by exact Nat.zero_le _) (hs : slots ≤ R.slots := by exact Nat.zero_le _) : W p l e R s m args below meth c H locs cells slots Q (F0 m pc ls st0) := by
  have hF := gFree hD hS hA
  refine va_calli (va_runS (g := F0 m pc ls st0) ⟨hx, hb, hml, hown, hts⟩ (hM H.size) cw ⟨gPreB D tys Wd H.size u _, gPreAt hK hN hP hD _⟩ rfl hn hls hst (lv_room hroom) hdg ⟨hc, hs⟩) hS (fun q _ h => hF q h) hF (fun r u1 t H1 locs1 ht hvm hp hB hz hk hS1 => ?_)
  obtain ⟨hP1, hK1, hD1⟩ := hB
  rw [ht] at hP1
  exact kk r u1 H1 locs1 hp hP1 (hD1.weaken (fun _ _ _ h => hF _ h)) hS1
theorem gCallSv {post : S → Prop} (hM : gMv l y bytes maxL rm D tys Wd As u post) (hx : p.tables.exec = Jvm.exec) (hb : c.code = cc) (hml : c.maxLocals = nL) (hown : s.vm.findClass own = some m.cls) (hts : ∀ w ∈ lw_g, w.before args s = true) (hK : va_K D gCl tys s) (hN : gNst s) (hA : ∀ q, H0.size ≤ q → A q) (hS : va_S A H0 H locs) (hP : va_P D gCl (Wd u) H) (hD : va_D A (Wd u))
    (cw : CallB R s args own index y bytes maxL none (.code y bytes maxL none :: lw_g) rm 0 0 n ∧ (Cond.static y).before args s = true)
    (hn : As.length = n) (hls : ls.size = nL) (hst : st0 = As.reverse ++ rest) (hroom : (rest.map fun v => v.category).sum ≤ 8) (hdg : decode cc pc = .ok (.invokestatic index, 3))
    (kk : ∀ (u1 : S) (H1 : Heap) (locs1 : List Loc), post u1 → va_P D gCl (Wd u1) H1 → va_D A (Wd u1) → va_S A H0 H1 locs1 → W p l e R s m args below meth c H1 locs1 cells slots Q (F0 m (pc + 3) ls rest)) (hc : cells ≤ R.cells := by exact Nat.zero_le _) (hs : slots ≤ R.slots := by exact Nat.zero_le _) : W p l e R s m args below meth c H locs cells slots Q (F0 m pc ls st0) := by
  have hF := gFree hD hS hA
  refine va_callv (va_runS (g := F0 m pc ls st0) ⟨hx, hb, hml, hown, hts⟩ (hM H.size) cw ⟨gPreB D tys Wd H.size u _, gPreAt hK hN hP hD _⟩ rfl hn hls hst (lv_room hroom) hdg ⟨hc, hs⟩) hS (fun q _ h => hF q h) hF (fun u1 t H1 locs1 ht hvm hp hB hz hk hS1 => ?_)
  obtain ⟨hP1, hK1, hD1⟩ := hB
  rw [ht] at hP1
  exact kk u1 H1 locs1 hp hP1 (hD1.weaken (fun _ _ _ h => hF _ h)) hS1
end GC
-- Arrays.fill(int[], int)
def gfill (n : Nat) (v : Int32) (f : Nat → Int32) : Nat → Int32 := fun j => if j < n then v else f j
theorem gfill_0 (v : Int32) (f : Nat → Int32) : gfill 0 v f = f := by funext j; simp [gfill]
theorem gfill_succ {i : Nat} (hi : i < 2 ^ 31) (v : Int32) (f : Nat → Int32) : upd (gfill i v f) (nI i).toNatClampNeg v = gfill (i + 1) v f := by
  rw [nI_clamp hi]
  funext j
  unfold upd gfill
  by_cases h : j = i
  · subst h; simp
  · by_cases h2 : j < i
    · simp [h, h2, Nat.lt_succ_of_lt h2]
    · simp [h, h2, show ¬ j < i + 1 by omega]
abbrev rm_Ar_fill : Room := { frames := 0, cells := 0, slots := 0, locals := 0 }
set_option maxHeartbeats 4000000 in
set_option maxRecDepth 100000 in
theorem c_Ar_fill (l : Launch) (D : va_G) (cI cS cZ : ClassId) (a n : Nat) (hn : n < 2 ^ 31) (f : Nat → Int32) (v : Int32) : gMv l y_Ar_fill b_Ar_fill 4 rm_Ar_fill D (gT cI cS cZ) (fun f : Nat → Int32 => [(a, .inl (cI, n, .inl f))]) [.ref a, .int v] f (fun g => g = gfill n v f) := by
  refine gMv.of (by decide) (Nat.le_of_ble_eq_true rfl) ?_
  intro p e s m below meth c Q A hx hb hml hown hts hK hN hA hS hP hD hret ls hl
  have hl : lv_has ls 4 [(0, .ref a), (1, .int v)] := hl
  have L : ∀ (k i : Nat) (ls : Array Slot) (H : Heap) (locs : List Loc), i + k = n → lv_has ls 4 [(0, .ref a), (1, .int v), (2, .int (nI i)), (3, .int (nI n))] → va_P D gCl [(a, .inl (cI, n, .inl (gfill i v f)))] H → va_D A [(a, .inl (cI, n, .inl (gfill i v f)))] → va_S A s.heap H locs → W p l e rm_Ar_fill s m ([.ref a, .int v] : List Value).toArray below meth c H locs 0 0 Q (F0 m 5 ls []) := by
    intro k
    induction k with
    | zero =>
      intro i ls H locs hi hl hP hD hS
      have hi : i = n := by omega
      subst hi
      refine lv_iload_n hx hb d_Ar_fill_5 rfl (lv_at hl 2 rfl) ?_
      refine lv_iload_n hx hb d_Ar_fill_6 rfl (lv_at hl 3 rfl) ?_
      refine lv_icmp_ge (tgt := 20) hx hb d_Ar_fill_7 (by decide) (fun h => ?_) (fun h => ?_)
      · exact hret H locs 20 ls (gfill i v f) d_Ar_fill_20 hP hD hS rfl
      · exact absurd (Int32.le_refl _) h
    | succ k ih =>
      intro i ls H locs hi hl hP hD hS
      refine lv_iload_n hx hb d_Ar_fill_5 rfl (lv_at hl 2 rfl) ?_
      refine lv_iload_n hx hb d_Ar_fill_6 rfl (lv_at hl 3 rfl) ?_
      refine lv_icmp_ge (tgt := 20) hx hb d_Ar_fill_7 (by decide) (fun h => ?_) (fun h => ?_)
      · exact absurd h (nI_ge (by omega) hn)
      · refine lv_aload_n hx hb d_Ar_fill_10 rfl (lv_at hl 0 rfl) ?_
        refine lv_iload_n hx hb d_Ar_fill_11 rfl (lv_at hl 2 rfl) ?_
        refine lv_iload_n hx hb d_Ar_fill_12 rfl (lv_at hl 1 rfl) ?_
        refine va_iast (f := gfill i v f) (i := nI i) (x := v) hx hb hK hP hD hS 0 0 rfl rfl (vp_in_nI (by omega) hn) d_Ar_fill_13 (fun H locs hP hD hS => ?_)
        have e1 := gfill_succ (i := i) (by omega) v f
        have hP : va_P D gCl [(a, .inl (cI, n, .inl (gfill (i + 1) v f)))] H := by rw [← e1]; exact hP
        have hD : va_D A [(a, .inl (cI, n, .inl (gfill (i + 1) v f)))] := by rw [← e1]; exact hD
        refine lv_iinc (k := 2) hx hb d_Ar_fill_14 hl rfl (show nI i + Int32.ofInt 1 = nI (i + 1) from (nI_succ i).symm) (by decide) rfl (fun ls hl => ?_)
        have hl : lv_has ls 4 [(2, .int (nI (i + 1))), (0, .ref a), (1, .int v), (3, .int (nI n))] := hl
        refine lv_goto (tgt := 5) hx hb d_Ar_fill_17 (by decide) ?_
        exact ih (i + 1) ls H locs (by omega) (lv_sub hl [1, 2, 0, 3] rfl) hP hD hS
  have hP : va_P D gCl [(a, .inl (cI, n, .inl f))] s.heap := hP
  have hD : va_D A [(a, .inl (cI, n, .inl f))] := hD
  refine lv_iconst (v := 0) hx hb d_Ar_fill_0 (by decide) ?_
  refine lv_istore_n hx hb d_Ar_fill_1 rfl hl (by decide) rfl (fun ls hl => ?_)
  have hl : lv_has ls 4 [(2, .int 0), (0, .ref a), (1, .int v)] := hl
  refine lv_aload_n hx hb d_Ar_fill_2 rfl (lv_at hl 1 rfl) ?_
  refine va_alen (v := nI n) hx hb hK hP 0 0 rfl rfl rfl d_Ar_fill_3 ?_
  refine lv_istore_n hx hb d_Ar_fill_4 rfl hl (by decide) rfl (fun ls hl => ?_)
  have hl : lv_has ls 4 [(3, .int (nI n)), (2, .int 0), (0, .ref a), (1, .int v)] := hl
  exact L n 0 ls s.heap [] (by omega) (lv_sub hl [2, 3, 1, 0] rfl) (by rw [gfill_0]; exact hP) (by rw [gfill_0]; exact hD) hS
section GF
variable {p : Program} {l : Launch} {e : Env} {R : Room} {s : State} {m : MethodId} {args : Array Value} {below : List Frame} {meth : Method} {c : Code} {H H0 : Heap} {locs : List Loc} {cells slots : Nat} {Q : State → Prop}
variable {cc : ByteArray} {pc nL index : Nat} {ls : Array Slot} {rest : List Value} {D : va_G} {cI cS cZ : ClassId} {A : Nat → Prop} {own : String} {ws : va_W} {a n : Nat} {f : Nat → Int32} {v : Int32}
theorem gFill (hx : p.tables.exec = Jvm.exec) (hb : c.code = cc) (hml : c.maxLocals = nL) (hown : s.vm.findClass own = some m.cls) (hts : ∀ w ∈ lw_g, w.before args s = true) (hK : va_K D gCl (gT cI cS cZ) s) (hN : gNst s) (hA : ∀ q, H0.size ≤ q → A q) (hS : va_S A H0 H locs) (hP : va_P D gCl ws H) (hD : va_D A ws)
    (q0 : Nat) (ha : ws[q0]? = some (a, .inl (cI, n, .inl f))) (hn : n < 2 ^ 31)
    (cw : CallB R s args own index y_Ar_fill b_Ar_fill 4 none (.code y_Ar_fill b_Ar_fill 4 none :: lw_g) rm_Ar_fill 0 0 2 ∧ (Cond.static y_Ar_fill).before args s = true)
    (hls : ls.size = nL) (hroom : (rest.map fun v => v.category).sum ≤ 8) (hdg : decode cc pc = .ok (.invokestatic index, 3))
    (kk : ∀ (H1 : Heap) (locs1 : List Loc), va_P D gCl (ws.set q0 (a, .inl (cI, n, .inl (gfill n v f)))) H1 → va_D A (ws.set q0 (a, .inl (cI, n, .inl (gfill n v f)))) → va_S A H0 H1 locs1 → W p l e R s m args below meth c H1 locs1 cells slots Q (F0 m (pc + 3) ls rest)) (hc : cells ≤ R.cells := by exact Nat.zero_le _) (hs : slots ≤ R.slots := by exact Nat.zero_le _) : W p l e R s m args below meth c H locs cells slots Q (F0 m pc ls (.int v :: .ref a :: rest)) := by
  have h1 : va_P D gCl [(a, .inl (cI, n, .inl f))] H := fun k q hk => by
    have hz : k < 1 := (List.getElem?_eq_some_iff.mp hk).1
    rw [show k = 0 by omega] at hk
    cases hk
    exact hP q0 _ ha
  have d1 : va_D A [(a, .inl (cI, n, .inl f))] := ⟨fun i j x y hi hj _ => by
    have hz : i < 1 := (List.getElem?_eq_some_iff.mp hi).1
    have hz2 : j < 1 := (List.getElem?_eq_some_iff.mp hj).1
    omega, fun k q hk => by
    have hz : k < 1 := (List.getElem?_eq_some_iff.mp hk).1
    rw [show k = 0 by omega] at hk
    cases hk
    exact hD.2 q0 _ ha⟩
  have hM := c_Ar_fill l D cI cS cZ a n hn f v
  have hF := gFree (Wd := fun f : Nat → Int32 => [(a, .inl (cI, n, .inl f))]) (u := f) d1 hS hA
  refine va_callv (va_runS (g := F0 m pc ls (.int v :: .ref a :: rest)) (As := [.ref a, .int v]) (rest := rest) ⟨hx, hb, hml, hown, hts⟩ (hM H.size) cw ⟨gPreB D _ (fun f : Nat → Int32 => [(a, .inl (cI, n, .inl f))]) H.size f _, gPreAt (Wd := fun f : Nat → Int32 => [(a, .inl (cI, n, .inl f))]) hK hN h1 d1 _⟩ rfl rfl hls rfl (lv_room hroom) hdg ⟨hc, hs⟩) hS (fun q _ h => hF q h) hF (fun u1 t H1 locs1 ht hvm hp hB hz hfr hS1 => ?_)
  obtain ⟨hP1, hK1, hD1⟩ := hB
  rw [ht] at hP1
  subst hp
  refine kk H1 locs1 ?_ (hD.set ha) hS1
  have hl := (List.getElem?_eq_some_iff.mp ha).1
  intro k q hk
  by_cases hq : k = q0
  · subst hq
    rw [List.getElem?_set_self hl] at hk
    cases hk
    exact hP1 0 _ rfl
  · rw [List.getElem?_set_ne (fun h => hq h.symm)] at hk
    refine (hP k q hk).kept (hfr q.1 (hP k q hk).lt (fun h => ?_))
    rcases h with ⟨k2, e2, h⟩ | h
    · have hz2 : k2 < 1 := (List.getElem?_eq_some_iff.mp h).1
      rw [show k2 = 0 by omega] at h
      have h3 : q.1 = a := by have := Option.some.inj h; exact (congrArg Prod.fst this).symm
      exact hq (hD.1 k q0 q _ hk ha h3)
    · have := (hP k q hk).lt
      omega
end GF
-- constructors: out of the object alone a world comes, at addresses that are new
abbrev gSA : Type := (Nat → Nat) × (Nat → Int32) × (Nat → Nat → Int32)
section GQ
variable {S : Type}
def gK (l : Launch) (y : MethodName) (cc : ByteArray) (maxL : Nat) (rm : Room) (D : va_G) (tys : List (ClassId × FieldType)) (av : List Value) (w0 : va_W) (Wd : S → va_W) (post : S → Prop) (mc ms : Nat) : Prop :=
  ∀ sz : Nat, Met l y (.code y cc maxL none :: lw_g) rm (va_Pc av (fun U => U.heap.size = sz ∧ va_P D gCl w0 U.heap ∧ (va_K D gCl tys U ∧ gNst U) ∧ va_D (fun _ => True) w0)) (va_Qv post (gAt D tys Wd (va_A w0 sz)) (va_A w0 sz)) mc ms (va_A w0 sz)
theorem gK.of {l : Launch} {y : MethodName} {cc : ByteArray} {maxL : Nat} {rm : Room} {D : va_G} {tys : List (ClassId × FieldType)} {av : List Value} {w0 : va_W} {Wd : S → va_W} {post : S → Prop} {mc ms : Nat}
    (hy : plainName y.cls = true) (hlen : (lg_sl av).length ≤ maxL)
    (K : ∀ (p : Program) (e : Env) (s : State) (m : MethodId) (below : List Frame) (meth : Method) (c : Code) (Q : State → Prop) (A : Nat → Prop),
      p.tables.exec = Jvm.exec → c.code = cc → c.maxLocals = maxL → s.vm.findClass y.cls = some m.cls → (∀ w ∈ lw_g, w.before av.toArray s = true) → va_K D gCl tys s → gNst s → (∀ q, s.heap.size ≤ q → A q) → va_S A s.heap s.heap [] → va_P D gCl w0 s.heap → va_D A w0 → meth.name = y.name →
      (∀ (H : Heap) (locs : List Loc) (pc : Nat) (ls : Array Slot) (u1 : S), decode cc pc = .ok (.return_, 1) → va_P D gCl (Wd u1) H → va_D A (Wd u1) → va_S A s.heap H locs → post u1 → W p l e rm s m av.toArray below meth c H locs mc ms Q (F0 m pc ls [])) →
      ∀ ls : Array Slot, lv_has ls maxL (lv_args 0 av) → W p l e rm s m av.toArray below meth c s.heap [] 0 0 Q (F0 m 0 ls [])) : gK l y cc maxL rm D tys av w0 Wd post mc ms := by
  intro sz
  refine Met.ofW (cc := cc) (maxL := maxL) (ret := none) hy rfl ?_
  intro p e s m args below meth c s₁ B hml hv
  obtain ⟨rfl, hsz, hP, ⟨hK, hN⟩, hD0⟩ := hv
  have hts := atoms_spec (ws := Cond.code y cc maxL none :: lw_g) B.pre
  have hown : s.vm.findClass y.cls = some m.cls := findClass_of_methodNamed B.named
  subst hsz
  have hl := lv_entry av (n := maxL) hlen
  rw [lg_entry_eq]
  exact K p e s m below meth c _ (va_A w0 s.heap.size) B.exec B.bytes hml hown (fun w h => hts w (List.mem_cons_of_mem _ h)) hK hN (fun q h => Or.inr h) va_S.rf hP hD0.self (name_of_methodNamed B.named B.method).1
    (fun H locs pc ls u1 hd hP1 hD1 hS1 hp => W.vret B.exec B.bytes B.returns (fun t ht hW => ⟨⟨u1, rfl, hp, by rw [ht]; exact hP1, va_K.moved hW.alike hK, hD1⟩, hS1.F ht⟩) hS1.2.2 hd B.notSynchronized) _ hl
end GQ
theorem gPl {D : va_G} {w1 w2 : va_W} {H : Heap} (h : va_P D gCl (w1 ++ w2) H) : va_P D gCl w1 H := fun k q hk => h k q (by rw [List.getElem?_append_left (List.getElem?_eq_some_iff.mp hk).1]; exact hk)
theorem gPr {D : va_G} {w1 w2 : va_W} {H : Heap} (h : va_P D gCl (w1 ++ w2) H) : va_P D gCl w2 H := fun k q hk => h (w1.length + k) q (by rw [List.getElem?_append_right (Nat.le_add_right _ _), Nat.add_sub_cancel_left]; exact hk)
theorem gDl {A : Nat → Prop} {w1 w2 : va_W} (h : va_D A (w1 ++ w2)) : va_D A w1 := by
  have key : ∀ (k : Nat) (q : Nat × va_E), w1[k]? = some q → (w1 ++ w2)[k]? = some q := fun k q hk => by rw [List.getElem?_append_left (List.getElem?_eq_some_iff.mp hk).1]; exact hk
  exact ⟨fun i j x y hi hj e => h.1 i j x y (key i x hi) (key j y hj) e, fun k q hk => h.2 k q (key k q hk)⟩
theorem gDr {A : Nat → Prop} {w1 w2 : va_W} (h : va_D A (w1 ++ w2)) : va_D A w2 := by
  have key : ∀ (k : Nat) (q : Nat × va_E), w2[k]? = some q → (w1 ++ w2)[w1.length + k]? = some q := fun k q hk => by rw [List.getElem?_append_right (Nat.le_add_right _ _), Nat.add_sub_cancel_left]; exact hk
  refine ⟨fun i j x y hi hj e => ?_, fun k q hk => h.2 _ q (key k q hk)⟩
  have := h.1 _ _ x y (key i x hi) (key j y hj) e
  omega
theorem gDx {A : Nat → Prop} {w1 w2 : va_W} (h : va_D A (w1 ++ w2)) : ∀ (i j : Nat) (x y : Nat × va_E), w1[i]? = some x → w2[j]? = some y → x.1 ≠ y.1 := by
  intro i j x y hi hj e
  have h1 : (w1 ++ w2)[i]? = some x := by rw [List.getElem?_append_left (List.getElem?_eq_some_iff.mp hi).1]; exact hi
  have h2 : (w1 ++ w2)[w1.length + j]? = some y := by rw [List.getElem?_append_right (Nat.le_add_right _ _), Nat.add_sub_cancel_left]; exact hj
  have h3 := h.1 _ _ x y h1 h2 e
  have := (List.getElem?_eq_some_iff.mp hi).1
  omega
theorem gSwP {D : va_G} {w1 w2 : va_W} {H : Heap} (h : va_P D gCl (w1 ++ w2) H) : va_P D gCl (w2 ++ w1) H := va_P.app (gPr h) (gPl h)
theorem gSwD {A : Nat → Prop} {w1 w2 : va_W} (h : va_D A (w1 ++ w2)) : va_D A (w2 ++ w1) := va_D.app (gDr h) (gDl h) (fun i j x y hx hy e => gDx h j i y x hy hx e.symm)
/-- behind a call: the rest of the world stays, the callee's part is new -/
theorem gJoin {A : Nat → Prop} {D : va_G} {wr w0 w1 : va_W} {H H1 : Heap} (hP : va_P D gCl (wr ++ w0) H) (hD : va_D A (wr ++ w0)) (hfr : ∀ q : Nat, q < H.size → ¬ va_A w0 H.size q → H1[q]? = H[q]?) (hF : ∀ q, va_A w0 H.size q → A q) (hP1 : va_P D gCl w1 H1) (hD1 : va_D (va_A w0 H.size) w1) : va_P D gCl (wr ++ w1) H1 ∧ va_D A (wr ++ w1) := by
  have hPr := gPl hP
  have out : ∀ (k : Nat) (q : Nat × va_E), wr[k]? = some q → q.1 < H.size ∧ ¬ va_A w0 H.size q.1 := by
    intro k q hk
    have hlt := (hPr k q hk).lt
    refine ⟨hlt, fun h => ?_⟩
    rcases h with ⟨j, e, h⟩ | h
    · exact gDx hD k j q (q.1, e) hk h rfl
    · omega
  refine ⟨va_P.app (fun k q hk => (hPr k q hk).kept (hfr q.1 (out k q hk).1 (out k q hk).2)) hP1, va_D.app (gDl hD) (hD1.weaken (fun k q _ h => hF q.1 h)) (fun i j x y hx hy hxy => ?_)⟩
  exact (out i x hx).2 (by rw [hxy]; exact hD1.2 j y hy)
section GR
variable {p : Program} {l : Launch} {e : Env} {R : Room} {s : State} {m : MethodId} {args : Array Value} {below : List Frame} {meth : Method} {c : Code} {H H0 : Heap} {locs : List Loc} {cells slots : Nat} {Q : State → Prop}
variable {cc bytes : ByteArray} {pc nL n index maxL mc ms : Nat} {ls : Array Slot} {rest st0 As : List Value} {D : va_G} {tys : List (ClassId × FieldType)} {A : Nat → Prop} {own C host : String} {y : MethodName} {ty : FieldType} {rm : Room} {b : Nat} {S : Type} {Wd : S → va_W} {u : S} {wr w0 : va_W}
theorem gFree0 (hD : va_D A w0) (hS : va_S A H0 H locs) (hA : ∀ q, H0.size ≤ q → A q) : ∀ q, va_A w0 H.size q → A q := by
  intro q h
  rcases h with ⟨k, e, h⟩ | h
  · exact hD.2 k (q, e) h
  · exact hA q (Nat.le_trans hS.1 h)
/-- a constructor's call; the object is the last cell of the world -/
theorem gCallK {post : S → Prop} (hM : gK l y bytes maxL rm D tys (.ref b :: As) w0 Wd post mc ms) (hx : p.tables.exec = Jvm.exec) (hb : c.code = cc) (hml : c.maxLocals = nL) (hown : s.vm.findClass own = some m.cls) (hts : ∀ w ∈ lw_g, w.before args s = true) (hK : va_K D gCl tys s) (hN : gNst s) (hA : ∀ q, H0.size ≤ q → A q) (hS : va_S A H0 H locs) (hP : va_P D gCl (wr ++ w0) H) (hD : va_D A (wr ++ w0))
    (cw : CallB R s args own index y bytes maxL none (.code y bytes maxL none :: lw_g) rm mc ms n ∧ y.name = "<init>" ∧ (Cond.instanceMethod y).before args s = true)
    (hn : As.length = n) (hls : ls.size = nL) (hst : st0 = As.reverse ++ .ref b :: rest) (hroom : (rest.map fun v => v.category).sum ≤ 8) (hdg : decode cc pc = .ok (.invokespecial index, 3)) (hc : cells + mc ≤ R.cells ∧ slots + ms ≤ R.slots)
    (kk : ∀ (u1 : S) (H1 : Heap) (locs1 : List Loc), post u1 → va_P D gCl (wr ++ Wd u1) H1 → va_D A (wr ++ Wd u1) → va_S A H0 H1 locs1 → W p l e R s m args below meth c H1 locs1 (cells + mc) (slots + ms) Q (F0 m (pc + 3) ls rest)) : W p l e R s m args below meth c H locs cells slots Q (F0 m pc ls st0) := by
  have hF := gFree0 (gDr hD) hS hA
  refine va_callv (va_runI (g := F0 m pc ls st0) ⟨hx, hb, hml, hown, hts⟩ (hM H.size) cw ⟨fun a U g mk q => by obtain ⟨q0, q1, qP, ⟨qK, qN⟩, qD⟩ := q; exact ⟨q0, q1, qP, ⟨va_K.moved (u := U) (U := U.calling g mk a) (Vm.Alike.refl U.vm) qK, gNst.same (u := U) (U := U.calling g mk a) rfl qN⟩, qD⟩, fun U hU hW => ⟨rfl, by rw [hU], by rw [hU]; exact gPr hP, ⟨va_K.moved hW.alike hK, gNst.warm hW hN⟩, (gDr hD).weaken (fun _ _ _ _ => trivial)⟩⟩ rfl hn hls hst (lv_room hroom) hdg hc) hS (fun q _ h => hF q h) hF (fun u1 t H1 locs1 ht hvm hp hB hz hfr hS1 => ?_)
  obtain ⟨hP1, hK1, hD1⟩ := hB
  rw [ht] at hP1
  obtain ⟨h1, h2⟩ := gJoin hP hD hfr hF hP1 hD1
  exact kk u1 H1 locs1 hp h1 h2 hS1
/-- the same of a hidden constructor of a nest mate -/
theorem gCallKN {post : S → Prop} (hM : gK l y bytes maxL rm D tys (.ref b :: As) w0 Wd post mc ms) (hx : p.tables.exec = Jvm.exec) (hb : c.code = cc) (hml : c.maxLocals = nL) (hown : s.vm.findClass own = some m.cls) (hts : ∀ w ∈ lw_g, w.before args s = true) (hK : va_K D gCl tys s) (hN : gNst s) (hA : ∀ q, H0.size ≤ q → A q) (hS : va_S A H0 H locs) (hP : va_P D gCl (wr ++ w0) H) (hD : va_D A (wr ++ w0))
    (cw : va_CN R s args own index y host bytes maxL none (.code y bytes maxL none :: lw_g) rm mc ms n ∧ y.name = "<init>" ∧ (Cond.instanceMethod y).before args s = true)
    (hn : As.length = n) (hls : ls.size = nL) (hst : st0 = As.reverse ++ .ref b :: rest) (hroom : (rest.map fun v => v.category).sum ≤ 8) (hdg : decode cc pc = .ok (.invokespecial index, 3)) (hc : cells + mc ≤ R.cells ∧ slots + ms ≤ R.slots)
    (kk : ∀ (u1 : S) (H1 : Heap) (locs1 : List Loc), post u1 → va_P D gCl (wr ++ Wd u1) H1 → va_D A (wr ++ Wd u1) → va_S A H0 H1 locs1 → W p l e R s m args below meth c H1 locs1 (cells + mc) (slots + ms) Q (F0 m (pc + 3) ls rest)) : W p l e R s m args below meth c H locs cells slots Q (F0 m pc ls st0) := by
  have hF := gFree0 (gDr hD) hS hA
  refine va_callv (va_runIN (g := F0 m pc ls st0) ⟨hx, hb, hml, hown, hts⟩ (hM H.size) cw ⟨fun a U g mk q => by obtain ⟨q0, q1, qP, ⟨qK, qN⟩, qD⟩ := q; exact ⟨q0, q1, qP, ⟨va_K.moved (u := U) (U := U.calling g mk a) (Vm.Alike.refl U.vm) qK, gNst.same (u := U) (U := U.calling g mk a) rfl qN⟩, qD⟩, fun U hU hW => ⟨rfl, by rw [hU], by rw [hU]; exact gPr hP, ⟨va_K.moved hW.alike hK, gNst.warm hW hN⟩, (gDr hD).weaken (fun _ _ _ _ => trivial)⟩⟩ rfl hn hls hst (lv_room hroom) hdg hc) hS (fun q _ h => hF q h) hF (fun u1 t H1 locs1 ht hvm hp hB hz hfr hS1 => ?_)
  obtain ⟨hP1, hK1, hD1⟩ := hB
  rw [ht] at hP1
  obtain ⟨h1, h2⟩ := gJoin hP hD hfr hF hP1 hD1
  exact kk u1 H1 locs1 hp h1 h2 hS1
/-- calls beside a part of the world that stays: the law's own -/
theorem gCallVi2 {post : Int32 → S → Prop} (hM : gMi l y bytes maxL ty rm D tys Wd (.ref b :: As) u post) (hx : p.tables.exec = Jvm.exec) (hb : c.code = cc) (hml : c.maxLocals = nL) (hown : s.vm.findClass own = some m.cls) (hts : ∀ w ∈ lw_g, w.before args s = true) (hK : va_K D gCl tys s) (hN : gNst s) (hA : ∀ q, H0.size ≤ q → A q) (hS : va_S A H0 H locs) (hP : va_P D gCl (wr ++ Wd u) H) (hD : va_D A (wr ++ Wd u))
    (cw : CallW R s args own C index y bytes maxL (some ty) (.code y bytes maxL (some ty) :: lw_g) rm 0 0 n) (hrecv : ∃ cell : Cell, H[b]? = some cell ∧ cell.vm.isStatics = false ∧ s.vm.findClass C = some cell.cls)
    (hn : As.length = n) (hls : ls.size = nL) (hst : st0 = As.reverse ++ .ref b :: rest) (hroom : (rest.map fun v => v.category).sum ≤ 8) (hdg : decode cc pc = .ok (.invokevirtual index, 3)) (hc : cells ≤ R.cells) (hs : slots ≤ R.slots)
    (kk : ∀ (r : Int32) (u1 : S) (H1 : Heap) (locs1 : List Loc), post r u1 → va_P D gCl (wr ++ Wd u1) H1 → va_D A (wr ++ Wd u1) → va_S A H0 H1 locs1 → W p l e R s m args below meth c H1 locs1 cells slots Q (F0 m (pc + 3) ls (.int r :: rest))) : W p l e R s m args below meth c H locs cells slots Q (F0 m pc ls st0) := by
  have hF := gFree (gDr hD) hS hA
  refine va_calli (va_runV (g := F0 m pc ls st0) ⟨hx, hb, hml, hown, hts⟩ (hM H.size) cw ⟨gPreB D tys Wd H.size u _, hrecv, gPreAt hK hN (gPr hP) (gDr hD) _⟩ rfl hn hls hst (lv_room hroom) hdg ⟨hc, hs⟩) hS (fun q _ h => hF q h) hF (fun r u1 t H1 locs1 ht hvm hp hB hz hfr hS1 => ?_)
  obtain ⟨hP1, hK1, hD1⟩ := hB
  rw [ht] at hP1
  obtain ⟨h1, h2⟩ := gJoin hP hD hfr hF hP1 hD1
  exact kk r u1 H1 locs1 hp h1 h2 hS1
theorem gCallVv2 {post : S → Prop} (hM : gMv l y bytes maxL rm D tys Wd (.ref b :: As) u post) (hx : p.tables.exec = Jvm.exec) (hb : c.code = cc) (hml : c.maxLocals = nL) (hown : s.vm.findClass own = some m.cls) (hts : ∀ w ∈ lw_g, w.before args s = true) (hK : va_K D gCl tys s) (hN : gNst s) (hA : ∀ q, H0.size ≤ q → A q) (hS : va_S A H0 H locs) (hP : va_P D gCl (wr ++ Wd u) H) (hD : va_D A (wr ++ Wd u))
    (cw : CallW R s args own C index y bytes maxL none (.code y bytes maxL none :: lw_g) rm 0 0 n) (hrecv : ∃ cell : Cell, H[b]? = some cell ∧ cell.vm.isStatics = false ∧ s.vm.findClass C = some cell.cls)
    (hn : As.length = n) (hls : ls.size = nL) (hst : st0 = As.reverse ++ .ref b :: rest) (hroom : (rest.map fun v => v.category).sum ≤ 8) (hdg : decode cc pc = .ok (.invokevirtual index, 3)) (hc : cells ≤ R.cells) (hs : slots ≤ R.slots)
    (kk : ∀ (u1 : S) (H1 : Heap) (locs1 : List Loc), post u1 → va_P D gCl (wr ++ Wd u1) H1 → va_D A (wr ++ Wd u1) → va_S A H0 H1 locs1 → W p l e R s m args below meth c H1 locs1 cells slots Q (F0 m (pc + 3) ls rest)) : W p l e R s m args below meth c H locs cells slots Q (F0 m pc ls st0) := by
  have hF := gFree (gDr hD) hS hA
  refine va_callv (va_runV (g := F0 m pc ls st0) ⟨hx, hb, hml, hown, hts⟩ (hM H.size) cw ⟨gPreB D tys Wd H.size u _, hrecv, gPreAt hK hN (gPr hP) (gDr hD) _⟩ rfl hn hls hst (lv_room hroom) hdg ⟨hc, hs⟩) hS (fun q _ h => hF q h) hF (fun u1 t H1 locs1 ht hvm hp hB hz hfr hS1 => ?_)
  obtain ⟨hP1, hK1, hD1⟩ := hB
  rw [ht] at hP1
  obtain ⟨h1, h2⟩ := gJoin hP hD hfr hF hP1 hD1
  exact kk u1 H1 locs1 hp h1 h2 hS1
end GR
end
section
def xW (cI cS cZ : ClassId) (ad : Nat → Nat) (wc wb : Nat) (kp tp : Nat → Nat) (σ : Nat → Int32) (α : Nat → Nat → Int32) : va_W := [(ad 0, .inr (0, [.ref (ad 1), .ref (ad 4), .ref (ad 6), .ref (ad 8), .ref (ad 12), .ref (kp 0), .ref (tp 0)])), (ad 1, .inr (1, [.ref (ad 2), .ref (ad 3)])), (ad 2, .inl (cI, 64, .inl (α 2))), (ad 3, .inl (cS, 132, .inl (α 3))), (ad 4, .inr (2, [.ref (ad 5), .int (σ 0), .int (σ 1), .int (σ 2), .int (σ 3), .int (σ 4)])), (ad 5, .inl (cS, 48, .inl (α 5))), (ad 6, .inr (3, [.ref (ad 7), .int (σ 5), .int (σ 6)])), (ad 7, .inl (cS, 60, .inl (α 7))), (ad 8, .inr (4, [.ref (ad 1), .ref (ad 4), .ref (ad 6), .ref (ad 9), .ref (wc), .ref (wb), .int (σ 7), .int (σ 8), .int (σ 9), .int (σ 10), .int (σ 11), .int (σ 12), .int (σ 13), .int (σ 14)])), (ad 9, .inr (5, [.int (σ 15), .int (σ 16), .int (σ 17)])), (wc, .inr (6, [.int (σ 18), .int (σ 19), .int (σ 20), .int (σ 21), .int (σ 22)])), (wb, .inr (6, [.int (σ 23), .int (σ 24), .int (σ 25), .int (σ 26), .int (σ 27)])), (ad 12, .inr (7, [.ref (ad 13), .ref (ad 14), .ref (ad 15), .ref (ad 16), .ref (ad 17), .int (σ 28)])), (ad 13, .inl (cI, 12, .inl (α 13))), (ad 14, .inl (cI, 12, .inl (α 14))), (ad 15, .inl (cI, 12, .inl (α 15))), (ad 16, .inl (cI, 12, .inl (α 16))), (ad 17, .inl (cI, 12, .inl (α 17))), (kp 0, .inr (8, [.ref (kp 1), .ref (kp 2), .ref (kp 3), .ref (kp 4), .ref (kp 5), .int (σ 29), .int (σ 30), .int (σ 31), .int (σ 32)])), (kp 1, .inl (cI, 64, .inl (α 19))), (kp 2, .inl (cI, 32, .inl (α 20))), (kp 3, .inl (cI, 16, .inl (α 21))), (kp 4, .inl (cI, 12, .inl (α 22))), (kp 5, .inl (cI, 12, .inl (α 23))), (tp 0, .inr (8, [.ref (tp 1), .ref (tp 2), .ref (tp 3), .ref (tp 4), .ref (tp 5), .int (σ 33), .int (σ 34), .int (σ 35), .int (σ 36)])), (tp 1, .inl (cI, 64, .inl (α 25))), (tp 2, .inl (cI, 32, .inl (α 26))), (tp 3, .inl (cI, 16, .inl (α 27))), (tp 4, .inl (cI, 12, .inl (α 28))), (tp 5, .inl (cI, 12, .inl (α 29)))]
def mW (cI cS cZ : ClassId) (ad : Nat → Nat) (σ : Nat → Int32) (α : Nat → Nat → Int32) : va_W := [(ad 0, .inr (9, [.ref (ad 1), .ref (ad 2), .int (σ 0), .int (σ 1), .int (σ 2), .int (σ 3), .int (σ 4), .int (σ 5), .int (σ 6), .int (σ 7), .int (σ 8), .int (σ 9), .int (σ 10), .int (σ 11), .int (σ 12), .int (σ 13), .int (σ 14), .int (σ 15), .int (σ 16), .int (σ 17), .int (σ 18), .ref (ad 3), .ref (ad 4), .int (σ 19), .int (σ 20), .int (σ 21), .ref (ad 5), .int (σ 22), .int (σ 23), .ref (ad 6), .ref (ad 7), .ref (ad 8), .ref (ad 9), .ref (ad 10), .int (σ 24), .ref (ad 11), .ref (ad 12), .ref (ad 13), .ref (ad 14), .ref (ad 15), .ref (ad 16), .ref (ad 17), .ref (ad 18), .ref (ad 19), .int (σ 25), .ref (ad 20), .ref (ad 21)])), (ad 1, .inl (cI, 64, .inl (α 1))), (ad 2, .inl (cS, 132, .inl (α 2))), (ad 3, .inl (cS, 48, .inl (α 3))), (ad 4, .inl (cS, 12, .inl (α 4))), (ad 5, .inl (cS, 60, .inl (α 5))), (ad 6, .inl (cI, 12, .inl (α 6))), (ad 7, .inl (cI, 12, .inl (α 7))), (ad 8, .inl (cI, 12, .inl (α 8))), (ad 9, .inl (cI, 12, .inl (α 9))), (ad 10, .inl (cI, 12, .inl (α 10))), (ad 11, .inl (cI, 64, .inl (α 11))), (ad 12, .inl (cI, 64, .inl (α 12))), (ad 13, .inl (cI, 64, .inl (α 13))), (ad 14, .inl (cI, 64, .inl (α 14))), (ad 15, .inl (cI, 64, .inl (α 15))), (ad 16, .inl (cI, 64, .inl (α 16))), (ad 17, .inl (cZ, 64, .inl (α 17))), (ad 18, .inl (cZ, 32, .inl (α 18))), (ad 19, .inl (cI, 16, .inl (α 19))), (ad 20, .inl (cI, 12, .inl (α 20))), (ad 21, .inl (cI, 16, .inl (α 21)))]
def wp_St_orderSpot_J39 (σ : Nat → Int32) (α : Nat → Nat → Int32) (t0 : Int32) (post : Int32 → gS → Prop) : Prop := post t0 (σ, α)
def wp_St_orderSpot_J24 (σ : Nat → Int32) (α : Nat → Nat → Int32) (a0 : Int32) (a1 : Int32) (t0 : Int32) (post : Int32 → gS → Prop) : Prop := (t0 = 0 → wp_St_orderSpot_J39 σ α (-1 : Int32) post) ∧ (¬ t0 = 0 → wp_St_orderSpot_J39 σ α ((a0 * (32 : Int32)) + a1) post)
def wp_St_orderSpot_J23 (σ : Nat → Int32) (α : Nat → Nat → Int32) (a0 : Int32) (a1 : Int32) (post : Int32 → gS → Prop) : Prop := wp_St_orderSpot_J24 σ α a0 a1 (0 : Int32) post
def wp_St_orderSpot (σ : Nat → Int32) (α : Nat → Nat → Int32) (x0 : Int32) (x1 : Int32) (post : Int32 → gS → Prop) : Prop := (x0 < 0 → wp_St_orderSpot_J23 σ α x0 x1 post) ∧ (¬ x0 < 0 → ((2 : Int32) ≤ x0 → wp_St_orderSpot_J23 σ α x0 x1 post) ∧ (¬ (2 : Int32) ≤ x0 → (x1 < 0 → wp_St_orderSpot_J23 σ α x0 x1 post) ∧ (¬ x1 < 0 → ((32 : Int32) ≤ x1 → wp_St_orderSpot_J23 σ α x0 x1 post) ∧ (¬ (32 : Int32) ≤ x1 → wp_St_orderSpot_J24 σ α x0 x1 (1 : Int32) post))))
def wp_Dm_order_J22 (σ : Nat → Int32) (α : Nat → Nat → Int32) (post : Int32 → gS → Prop) : Prop := post (0 : Int32) (σ, α)
def wp_Dm_order (σ : Nat → Int32) (α : Nat → Nat → Int32) (x1 : Int32) (x2 : Int32) (x3 : Int32) (post : Int32 → gS → Prop) : Prop := wp_St_orderSpot σ α x1 x2 (fun (r2 : Int32) (u2 : gS) => (r2 < 0 → wp_Dm_order_J22 u2.1 u2.2 post) ∧ (¬ r2 < 0 → (x3 < 0 → wp_Dm_order_J22 u2.1 u2.2 post) ∧ (¬ x3 < 0 → (x3 ≤ (2097151 : Int32) → vp_in r2 64 ∧ (post (1 : Int32) (u2.1, (va_up u2.2 2 (upd (u2.2 2) r2.toNatClampNeg x3))))) ∧ (¬ x3 ≤ (2097151 : Int32) → wp_Dm_order_J22 u2.1 u2.2 post))))
def wp_St_placesOf_J38 (σ : Nat → Int32) (α : Nat → Nat → Int32) (t0 : Int32) (post : Int32 → gS → Prop) : Prop := post t0 (σ, α)
def wp_St_placesOf_J25 (σ : Nat → Int32) (α : Nat → Nat → Int32) (post : Int32 → gS → Prop) : Prop := post (1 : Int32) (σ, α)
def wp_St_placesOf_J13 (σ : Nat → Int32) (α : Nat → Nat → Int32) (a0 : Int32) (post : Int32 → gS → Prop) : Prop := (a0 = (6 : Int32) → wp_St_placesOf_J25 σ α post) ∧ (¬ a0 = (6 : Int32) → (¬ a0 = (7 : Int32) → (¬ a0 = (8 : Int32) → wp_St_placesOf_J38 σ α (0 : Int32) post) ∧ (a0 = (8 : Int32) → wp_St_placesOf_J38 σ α (2 : Int32) post)) ∧ (a0 = (7 : Int32) → wp_St_placesOf_J25 σ α post))
def wp_St_placesOf (σ : Nat → Int32) (α : Nat → Nat → Int32) (x0 : Int32) (post : Int32 → gS → Prop) : Prop := (x0 < (2 : Int32) → wp_St_placesOf_J13 σ α x0 post) ∧ (¬ x0 < (2 : Int32) → ((5 : Int32) < x0 → wp_St_placesOf_J13 σ α x0 post) ∧ (¬ (5 : Int32) < x0 → post (32 : Int32) (σ, α)))
def wp_St_firstSpot (σ : Nat → Int32) (α : Nat → Nat → Int32) (x0 : Int32) (post : Int32 → gS → Prop) : Prop := (x0 = 6 → post (128 : Int32) (σ, α)) ∧ (x0 = 7 → post (129 : Int32) (σ, α)) ∧ (x0 = 8 → post (130 : Int32) (σ, α)) ∧ (x0.toInt < 6 ∨ 8 < x0.toInt → post ((x0 - (2 : Int32)) * (32 : Int32)) (σ, α))
def wp_St_wordSpot_J22 (σ : Nat → Int32) (α : Nat → Nat → Int32) (t0 : Int32) (post : Int32 → gS → Prop) : Prop := post t0 (σ, α)
def wp_St_wordSpot_J21 (σ : Nat → Int32) (α : Nat → Nat → Int32) (post : Int32 → gS → Prop) : Prop := wp_St_wordSpot_J22 σ α (-1 : Int32) post
def wp_St_wordSpot (σ : Nat → Int32) (α : Nat → Nat → Int32) (x0 : Int32) (x1 : Int32) (post : Int32 → gS → Prop) : Prop := (x1 < 0 → wp_St_wordSpot_J21 σ α post) ∧ (¬ x1 < 0 → wp_St_placesOf σ α x0 (fun (r6 : Int32) (u6 : gS) => (r6 ≤ x1 → wp_St_wordSpot_J21 u6.1 u6.2 post) ∧ (¬ r6 ≤ x1 → wp_St_firstSpot u6.1 u6.2 x0 (fun (r13 : Int32) (u13 : gS) => wp_St_wordSpot_J22 u13.1 u13.2 (r13 + x1) post))))
def wp_Dm_word (σ : Nat → Int32) (α : Nat → Nat → Int32) (x1 : Int32) (x2 : Int32) (x3 : Int32) (post : Int32 → gS → Prop) : Prop := wp_St_wordSpot σ α x1 x2 (fun (r2 : Int32) (u2 : gS) => (0 ≤ r2 → vp_in r2 132 ∧ (post (1 : Int32) (u2.1, (va_up u2.2 3 (upd (u2.2 3) r2.toNatClampNeg (vp_nar .short x3)))))) ∧ (¬ 0 ≤ r2 → post (0 : Int32) (u2.1, u2.2)))
def wp_Rd_addRow (σ : Nat → Int32) (α : Nat → Nat → Int32) (x1 : Int32) (post : Int32 → gS → Prop) : Prop := ((σ 0) < (48 : Int32) → vp_in (σ 0) 48 ∧ (post (1 : Int32) ((va_up σ 0 ((σ 0) + (1 : Int32))), (va_up α 5 (upd (α 5) (σ 0).toNatClampNeg (vp_nar .short x1)))))) ∧ (¬ (σ 0) < (48 : Int32) → post (0 : Int32) (σ, α))
def wp_Dm_card (σ : Nat → Int32) (α : Nat → Nat → Int32) (x1 : Int32) (post : Int32 → gS → Prop) : Prop := wp_Rd_addRow σ α x1 (fun (r5 : Int32) (u5 : gS) => narrow .boolean (.int r5) = .int r5 ∧ (post r5 (u5.1, u5.2)))
def wp_Wi_close_10 (σ : Nat → Int32) (α : Nat → Nat → Int32) (post : gS → Prop) : Prop := post ((va_up (va_up σ 20 (1 : Int32)) 21 (0 : Int32)), α)
def wp_Wi_close_11 (σ : Nat → Int32) (α : Nat → Nat → Int32) (post : gS → Prop) : Prop := post ((va_up (va_up σ 25 (1 : Int32)) 26 (0 : Int32)), α)
def wp_Mu_rest (σ : Nat → Int32) (α : Nat → Nat → Int32) (post : gS → Prop) : Prop := post ((va_up σ 16 (0 : Int32)), α)
def wp_Rd_rest (σ : Nat → Int32) (α : Nat → Nat → Int32) (post : gS → Prop) : Prop := post ((va_up (va_up σ 2 (0 : Int32)) 4 (0 : Int32)), α)
def wp_Mc_begin (σ : Nat → Int32) (α : Nat → Nat → Int32) (x1 : Int32) (x2 : Int32) (post : gS → Prop) : Prop := wp_Wi_close_10 (va_up (va_up (va_up (va_up (va_up (va_up (va_up σ 7 (1 : Int32)) 8 (0 : Int32)) 10 x1) 11 ((σ 9) + ((x2 - (σ 9)) &&& (31 : Int32)))) 12 (-1 : Int32)) 13 (-1 : Int32)) 14 (0 : Int32)) α (fun (u52 : gS) => wp_Wi_close_11 u52.1 u52.2 (fun (u59 : gS) => wp_Mu_rest u59.1 u59.2 (fun (u66 : gS) => wp_Rd_rest u66.1 u66.2 (fun (u73 : gS) => post (u73.1, u73.2)))))
def wp_Dm_start (σ : Nat → Int32) (α : Nat → Nat → Int32) (x1 : Int32) (x2 : Int32) (post : Int32 → gS → Prop) : Prop := wp_St_orderSpot σ α x1 x2 (fun (r2 : Int32) (u2 : gS) => (0 ≤ r2 → wp_Mc_begin u2.1 u2.2 x1 x2 (fun (u16 : gS) => post (1 : Int32) (u16.1, u16.2))) ∧ (¬ 0 ≤ r2 → post (0 : Int32) (u2.1, u2.2)))
def wp_Wi_lastOf_10_J28 (σ : Nat → Int32) (α : Nat → Nat → Int32) (t0 : Int32) (post : Int32 → gS → Prop) : Prop := post t0 (σ, α)
def wp_Wi_lastOf_10 (σ : Nat → Int32) (α : Nat → Nat → Int32) (x1 : Int32) (post : Int32 → gS → Prop) : Prop := (¬ x1 = (2 : Int32) → (¬ x1 = (1 : Int32) → wp_Wi_lastOf_10_J28 σ α (σ 20) post) ∧ (x1 = (1 : Int32) → wp_Wi_lastOf_10_J28 σ α ((σ 20) + (1 : Int32)) post)) ∧ (x1 = (2 : Int32) → post (σ 22) (σ, α))
def wp_Wi_open_10_J51 (σ : Nat → Int32) (α : Nat → Nat → Int32) (a1 : Int32) (a2 : Int32) (a3 : Int32) (t0 : Int32) (post : gS → Prop) : Prop := wp_Wi_lastOf_10 (va_up (va_up σ 20 ((a2 + (2 : Int32)) + a3)) 22 ((a2 + (2 : Int32)) + t0)) α ((a1 >>> ((8 : Int32) &&& 31)) &&& (3 : Int32)) (fun (r80 : Int32) (u80 : gS) => post ((va_up u80.1 21 r80), u80.2))
def wp_Wi_open_10 (σ : Nat → Int32) (α : Nat → Nat → Int32) (x1 : Int32) (x2 : Int32) (post : gS → Prop) : Prop := (((x1 >>> ((10 : Int32) &&& 31)) &&& (31 : Int32)) ≤ ((x1 >>> ((15 : Int32) &&& 31)) &&& (31 : Int32)) → wp_Wi_open_10_J51 (va_up (va_up σ 18 (x1 &&& (15 : Int32))) 19 ((x1 >>> ((4 : Int32) &&& 31)) &&& (15 : Int32))) α x1 x2 ((x1 >>> ((10 : Int32) &&& 31)) &&& (31 : Int32)) ((x1 >>> ((15 : Int32) &&& 31)) &&& (31 : Int32)) post) ∧ (¬ ((x1 >>> ((10 : Int32) &&& 31)) &&& (31 : Int32)) ≤ ((x1 >>> ((15 : Int32) &&& 31)) &&& (31 : Int32)) → wp_Wi_open_10_J51 (va_up (va_up σ 18 (x1 &&& (15 : Int32))) 19 ((x1 >>> ((4 : Int32) &&& 31)) &&& (15 : Int32))) α x1 x2 ((x1 >>> ((10 : Int32) &&& 31)) &&& (31 : Int32)) (((x1 >>> ((15 : Int32) &&& 31)) &&& (31 : Int32)) + (32 : Int32)) post)
def wp_Mc_takeOrder (wc : Nat) (wb : Nat) (σ : Nat → Int32) (α : Nat → Nat → Int32) (post : gSW → Prop) : Prop := vp_in (((σ 10) * (32 : Int32)) + ((σ 9) &&& (31 : Int32))) 64 ∧ (wp_Wi_open_10 (va_up (va_up (va_up (va_up (va_up (va_up (va_up (va_up (va_up (va_up (va_up (va_up (va_up σ 12 (σ 10)) 13 ((σ 9) &&& (31 : Int32))) 14 ((σ 14) + (1 : Int32))) 18 (σ 23)) 19 (σ 24)) 20 (σ 25)) 21 (σ 26)) 22 (σ 27)) 23 (σ 18)) 24 (σ 19)) 25 (σ 20)) 26 (σ 21)) 27 (σ 22)) α (α 2 (((σ 10) * (32 : Int32)) + ((σ 9) &&& (31 : Int32))).toNatClampNeg) (σ 9) (fun (u77 : gS) => post (wb, wc, (va_up (va_up u77.1 10 (((α 2 (((σ 10) * (32 : Int32)) + ((σ 9) &&& (31 : Int32))).toNatClampNeg) >>> ((20 : Int32) &&& 31)) &&& (1 : Int32))) 11 (u77.1 22)), u77.2)))
def wp_Wi_covers_11_J21 (σ : Nat → Int32) (α : Nat → Nat → Int32) (t0 : Int32) (post : Int32 → gS → Prop) : Prop := narrow .boolean (.int t0) = .int t0 ∧ (post t0 (σ, α))
def wp_Wi_covers_11_J20 (σ : Nat → Int32) (α : Nat → Nat → Int32) (post : Int32 → gS → Prop) : Prop := wp_Wi_covers_11_J21 σ α (0 : Int32) post
def wp_Wi_covers_11 (σ : Nat → Int32) (α : Nat → Nat → Int32) (x1 : Int32) (post : Int32 → gS → Prop) : Prop := (x1 < (σ 25) → wp_Wi_covers_11_J20 σ α post) ∧ (¬ x1 < (σ 25) → ((σ 26) < x1 → wp_Wi_covers_11_J20 σ α post) ∧ (¬ (σ 26) < x1 → wp_Wi_covers_11_J21 σ α (1 : Int32) post))
def wp_Wi_covers_10_J21 (σ : Nat → Int32) (α : Nat → Nat → Int32) (t0 : Int32) (post : Int32 → gS → Prop) : Prop := narrow .boolean (.int t0) = .int t0 ∧ (post t0 (σ, α))
def wp_Wi_covers_10_J20 (σ : Nat → Int32) (α : Nat → Nat → Int32) (post : Int32 → gS → Prop) : Prop := wp_Wi_covers_10_J21 σ α (0 : Int32) post
def wp_Wi_covers_10 (σ : Nat → Int32) (α : Nat → Nat → Int32) (x1 : Int32) (post : Int32 → gS → Prop) : Prop := (x1 < (σ 20) → wp_Wi_covers_10_J20 σ α post) ∧ (¬ x1 < (σ 20) → ((σ 21) < x1 → wp_Wi_covers_10_J20 σ α post) ∧ (¬ (σ 21) < x1 → wp_Wi_covers_10_J21 σ α (1 : Int32) post))
def wp_Rd_offset_J50 (σ : Nat → Int32) (α : Nat → Nat → Int32) (t0 : Int32) (post : Int32 → gS → Prop) : Prop := post t0 (σ, α)
def wp_Rd_offset_J49 (σ : Nat → Int32) (α : Nat → Nat → Int32) (post : Int32 → gS → Prop) : Prop := wp_Rd_offset_J50 σ α (-1 : Int32) post
def wp_Rd_offset_J33 (σ : Nat → Int32) (α : Nat → Nat → Int32) (a2 : Int32) (t0 : Int32) (post : Int32 → gS → Prop) : Prop := ((σ 2) = 0 → wp_Rd_offset_J49 σ α post) ∧ (¬ (σ 2) = 0 → (t0 = 0 → wp_Rd_offset_J49 σ α post) ∧ (¬ t0 = 0 → wp_Rd_offset_J50 σ α a2 post))
def wp_Rd_offset_J32 (σ : Nat → Int32) (α : Nat → Nat → Int32) (a2 : Int32) (post : Int32 → gS → Prop) : Prop := wp_Rd_offset_J33 σ α a2 (0 : Int32) post
def wp_Rd_offset (σ : Nat → Int32) (α : Nat → Nat → Int32) (x1 : Int32) (post : Int32 → gS → Prop) : Prop := (((x1 - (σ 3)) - (40 : Int32)) < 0 → wp_Rd_offset_J32 σ α ((x1 - (σ 3)) - (40 : Int32)) post) ∧ (¬ ((x1 - (σ 3)) - (40 : Int32)) < 0 → ((90 : Int32) < ((x1 - (σ 3)) - (40 : Int32)) → wp_Rd_offset_J32 σ α ((x1 - (σ 3)) - (40 : Int32)) post) ∧ (¬ (90 : Int32) < ((x1 - (σ 3)) - (40 : Int32)) → ((3 : Int32) ≤ (((x1 - (σ 3)) - (40 : Int32)) - ((x1 - (σ 3)) - (40 : Int32)) / (8 : Int32) * (8 : Int32)) → wp_Rd_offset_J32 σ α ((x1 - (σ 3)) - (40 : Int32)) post) ∧ (¬ (3 : Int32) ≤ (((x1 - (σ 3)) - (40 : Int32)) - ((x1 - (σ 3)) - (40 : Int32)) / (8 : Int32) * (8 : Int32)) → wp_Rd_offset_J33 σ α ((x1 - (σ 3)) - (40 : Int32)) (1 : Int32) post)))
def wp_Rd_moveRow (σ : Nat → Int32) (α : Nat → Nat → Int32) (x1 : Int32) (post : Int32 → gS → Prop) : Prop := wp_Rd_offset σ α x1 (fun (r2 : Int32) (u2 : gS) => (0 ≤ r2 → vp_in (((u2.1 1) - (12 : Int32)) + (r2 / (8 : Int32))) 48 ∧ (narrow .short (.int (u2.2 5 (((u2.1 1) - (12 : Int32)) + (r2 / (8 : Int32))).toNatClampNeg)) = .int (u2.2 5 (((u2.1 1) - (12 : Int32)) + (r2 / (8 : Int32))).toNatClampNeg) ∧ (post (u2.2 5 (((u2.1 1) - (12 : Int32)) + (r2 / (8 : Int32))).toNatClampNeg) ((va_up u2.1 4 (1 : Int32)), u2.2)))) ∧ (¬ 0 ≤ r2 → post (0 : Int32) (u2.1, u2.2)))
def wp_St_presentedSpot (σ : Nat → Int32) (α : Nat → Nat → Int32) (x0 : Int32) (x1 : Int32) (post : Int32 → gS → Prop) : Prop := wp_St_firstSpot σ α x0 (fun (r1 : Int32) (u1 : gS) => wp_St_placesOf u1.1 u1.2 x0 (fun (r6 : Int32) (u6 : gS) => post (r1 + (x1 &&& (r6 - (1 : Int32)))) (u6.1, u6.2)))
def wp_Mc_sourceWord_J148 (σ : Nat → Int32) (α : Nat → Nat → Int32) (a1 : Int32) (post : Int32 → gS → Prop) : Prop := wp_St_presentedSpot σ α a1 (σ 9) (fun (r160 : Int32) (u160 : gS) => vp_in r160 132 ∧ (narrow .short (.int (u160.2 3 r160.toNatClampNeg)) = .int (u160.2 3 r160.toNatClampNeg) ∧ (post (u160.2 3 r160.toNatClampNeg) (u160.1, u160.2))))
def wp_Mc_sourceWord (σ : Nat → Int32) (α : Nat → Nat → Int32) (x1 : Int32) (post : Int32 → gS → Prop) : Prop := (x1 = 0 → post (0 : Int32) (σ, α)) ∧ (x1 = 1 → post (1 : Int32) (σ, α)) ∧ (x1 = 2 → wp_Mc_sourceWord_J148 σ α x1 post) ∧ (x1 = 3 → wp_Mc_sourceWord_J148 σ α x1 post) ∧ (x1 = 4 → wp_Mc_sourceWord_J148 σ α x1 post) ∧ (x1 = 5 → wp_Mc_sourceWord_J148 σ α x1 post) ∧ (x1 = 6 → wp_Mc_sourceWord_J148 σ α x1 post) ∧ (x1 = 7 → wp_Mc_sourceWord_J148 σ α x1 post) ∧ (x1 = 8 → wp_Mc_sourceWord_J148 σ α x1 post) ∧ (x1 = 9 → narrow .short (.int (((α 3 (128 : Int32).toNatClampNeg) &&& (α 3 (129 : Int32).toNatClampNeg)).toInt16.toInt32)) = .int (((α 3 (128 : Int32).toNatClampNeg) &&& (α 3 (129 : Int32).toNatClampNeg)).toInt16.toInt32) ∧ (post (((α 3 (128 : Int32).toNatClampNeg) &&& (α 3 (129 : Int32).toNatClampNeg)).toInt16.toInt32) (σ, α))) ∧ (x1 = 10 → narrow .short (.int (((α 3 (128 : Int32).toNatClampNeg) ^^^ (α 3 (129 : Int32).toNatClampNeg)).toInt16.toInt32)) = .int (((α 3 (128 : Int32).toNatClampNeg) ^^^ (α 3 (129 : Int32).toNatClampNeg)).toInt16.toInt32) ∧ (post (((α 3 (128 : Int32).toNatClampNeg) ^^^ (α 3 (129 : Int32).toNatClampNeg)).toInt16.toInt32) (σ, α))) ∧ (x1 = 11 → post (-1 : Int32) (σ, α)) ∧ (x1 = 12 → narrow .short (.int (((α 3 (128 : Int32).toNatClampNeg) >>> ((1 : Int32) &&& 31)).toInt16.toInt32)) = .int (((α 3 (128 : Int32).toNatClampNeg) >>> ((1 : Int32) &&& 31)).toInt16.toInt32) ∧ (post (((α 3 (128 : Int32).toNatClampNeg) >>> ((1 : Int32) &&& 31)).toInt16.toInt32) (σ, α))) ∧ (x1 = 13 → wp_Rd_moveRow σ α (σ 9) (fun (r133 : Int32) (u133 : gS) => narrow .short (.int r133) = .int r133 ∧ (post r133 (u133.1, u133.2)))) ∧ (x1 = 14 → narrow .short (.int (((α 3 (128 : Int32).toNatClampNeg) ^^^ (-1 : Int32)).toInt16.toInt32)) = .int (((α 3 (128 : Int32).toNatClampNeg) ^^^ (-1 : Int32)).toInt16.toInt32) ∧ (post (((α 3 (128 : Int32).toNatClampNeg) ^^^ (-1 : Int32)).toInt16.toInt32) (σ, α))) ∧ (x1 = 15 → narrow .short (.int ((σ 9).toInt16.toInt32)) = .int ((σ 9).toInt16.toInt32) ∧ (post ((σ 9).toInt16.toInt32) (σ, α))) ∧ (x1.toInt < 0 ∨ 15 < x1.toInt → wp_Mc_sourceWord_J148 σ α x1 post)
def wp_St_setProduct (σ : Nat → Int32) (α : Nat → Nat → Int32) (x1 : Int32) (post : gS → Prop) : Prop := post (σ, (va_up α 3 (upd (upd (α 3) (130 : Int32).toNatClampNeg (vp_nar .short x1.toInt16.toInt32)) (131 : Int32).toNatClampNeg (vp_nar .short ((x1 >>> ((16 : Int32) &&& 31)).toInt16.toInt32)))))
def wp_Mu_begin (σ : Nat → Int32) (α : Nat → Nat → Int32) (x1 : Int32) (post : gS → Prop) : Prop := wp_St_setProduct (va_up (va_up (va_up σ 15 x1) 16 (16 : Int32)) 17 (1 : Int32)) α (0 : Int32) (fun (u18 : gS) => post (u18.1, u18.2))
def wp_Rd_rowsLeft (σ : Nat → Int32) (α : Nat → Nat → Int32) (post : Int32 → gS → Prop) : Prop := post ((σ 0) - (σ 1)) (σ, α)
def wp_Rd_feed_J16 (σ : Nat → Int32) (α : Nat → Nat → Int32) (post : Int32 → gS → Prop) : Prop := post (0 : Int32) (σ, α)
def wp_Rd_feed (σ : Nat → Int32) (α : Nat → Nat → Int32) (x1 : Int32) (post : Int32 → gS → Prop) : Prop := (¬ (σ 2) = 0 → wp_Rd_feed_J16 σ α post) ∧ ((σ 2) = 0 → wp_Rd_rowsLeft σ α (fun (r8 : Int32) (u8 : gS) => ((12 : Int32) ≤ r8 → post (1 : Int32) ((va_up (va_up (va_up u8.1 1 ((u8.1 1) + (12 : Int32))) 2 (1 : Int32)) 3 x1), u8.2)) ∧ (¬ (12 : Int32) ≤ r8 → wp_Rd_feed_J16 u8.1 u8.2 post)))
def wp_Mc_stopBy_J17 (σ : Nat → Int32) (α : Nat → Nat → Int32) (post : gS → Prop) : Prop := post (σ, α)
def wp_Mc_stopBy (σ : Nat → Int32) (α : Nat → Nat → Int32) (x1 : Int32) (post : gS → Prop) : Prop := (¬ (σ 8) = 0 → wp_Mc_stopBy_J17 (va_up σ 7 (0 : Int32)) α post) ∧ ((σ 8) = 0 → wp_Mc_stopBy_J17 (va_up (va_up σ 7 (0 : Int32)) 8 x1) α post)
def wp_Pu_take_J37 (σ : Nat → Int32) (α : Nat → Nat → Int32) (post : Int32 → gS → Prop) : Prop := post (0 : Int32) (σ, α)
def wp_Pu_take_J23 (σ : Nat → Int32) (α : Nat → Nat → Int32) (a1 : Int32) (a2 : Int32) (t0 : Int32) (post : Int32 → gS → Prop) : Prop := (¬ t0 = 0 → wp_Pu_take_J37 σ α post) ∧ (t0 = 0 → ((σ 5) < (60 : Int32) → vp_in (σ 5) 60 ∧ (post (1 : Int32) ((va_up (va_up σ 5 ((σ 5) + (1 : Int32))) 6 a2), (va_up α 7 (upd (α 7) (σ 5).toNatClampNeg (vp_nar .short a1)))))) ∧ (¬ (σ 5) < (60 : Int32) → wp_Pu_take_J37 σ α post))
def wp_Pu_take_J22 (σ : Nat → Int32) (α : Nat → Nat → Int32) (a1 : Int32) (a2 : Int32) (post : Int32 → gS → Prop) : Prop := wp_Pu_take_J23 σ α a1 a2 (0 : Int32) post
def wp_Pu_take (σ : Nat → Int32) (α : Nat → Nat → Int32) (x1 : Int32) (x2 : Int32) (post : Int32 → gS → Prop) : Prop := ((σ 5) ≤ 0 → wp_Pu_take_J22 σ α x1 x2 post) ∧ (¬ (σ 5) ≤ 0 → ((6 : Int32) ≤ (x2 - (σ 6)) → wp_Pu_take_J22 σ α x1 x2 post) ∧ (¬ (6 : Int32) ≤ (x2 - (σ 6)) → wp_Pu_take_J23 σ α x1 x2 (1 : Int32) post))
def wp_Mc_deliver_J206 (σ : Nat → Int32) (α : Nat → Nat → Int32) (post : gS → Prop) : Prop := post (σ, α)
def wp_Mc_deliver_J189 (σ : Nat → Int32) (α : Nat → Nat → Int32) (a1 : Int32) (a2 : Int32) (post : gS → Prop) : Prop := wp_St_presentedSpot σ α a2 (σ 9) (fun (r201 : Int32) (u201 : gS) => vp_in r201 132 ∧ (wp_Mc_deliver_J206 u201.1 (va_up u201.2 3 (upd (u201.2 3) r201.toNatClampNeg (vp_nar .short a1))) post))
def wp_Mc_deliver (σ : Nat → Int32) (α : Nat → Nat → Int32) (x1 : Int32) (x2 : Int32) (post : gS → Prop) : Prop := (x2 = 0 → wp_Mc_deliver_J206 σ α post) ∧ (x2 = 1 → wp_Mc_deliver_J206 (va_up σ 7 (0 : Int32)) α post) ∧ (x2 = 2 → wp_Mc_deliver_J189 σ α x1 x2 post) ∧ (x2 = 3 → wp_Mc_deliver_J189 σ α x1 x2 post) ∧ (x2 = 4 → wp_Mc_deliver_J189 σ α x1 x2 post) ∧ (x2 = 5 → wp_Mc_deliver_J189 σ α x1 x2 post) ∧ (x2 = 6 → wp_Mc_deliver_J189 σ α x1 x2 post) ∧ (x2 = 7 → wp_Mc_deliver_J189 σ α x1 x2 post) ∧ (x2 = 8 → wp_Mc_deliver_J189 σ α x1 x2 post) ∧ (x2 = 9 → wp_Mc_deliver_J206 σ (va_up α 3 (upd (α 3) (128 : Int32).toNatClampNeg (vp_nar .short (((α 3 (128 : Int32).toNatClampNeg) + x1).toInt16.toInt32)))) post) ∧ (x2 = 10 → wp_Mc_deliver_J206 σ (va_up α 3 (upd (α 3) (128 : Int32).toNatClampNeg (vp_nar .short (((α 3 (128 : Int32).toNatClampNeg) - x1).toInt16.toInt32)))) post) ∧ (x2 = 11 → wp_Mc_deliver_J189 σ α x1 x2 post) ∧ (x2 = 12 → wp_Mc_deliver_J189 σ α x1 x2 post) ∧ (x2 = 13 → wp_Mu_begin σ α x1 (fun (u138 : gS) => wp_Mc_deliver_J206 u138.1 u138.2 post)) ∧ (x2 = 14 → wp_Rd_feed σ α (σ 9) (fun (r152 : Int32) (u152 : gS) => (¬ r152 = 0 → wp_Mc_deliver_J206 u152.1 u152.2 post) ∧ (r152 = 0 → wp_Mc_stopBy u152.1 u152.2 (2 : Int32) (fun (u160 : gS) => wp_Mc_deliver_J206 u160.1 u160.2 post)))) ∧ (x2 = 15 → wp_Pu_take σ α x1 (σ 9) (fun (r175 : Int32) (u175 : gS) => (¬ r175 = 0 → wp_Mc_deliver_J206 u175.1 u175.2 post) ∧ (r175 = 0 → wp_Mc_stopBy u175.1 u175.2 (3 : Int32) (fun (u183 : gS) => wp_Mc_deliver_J206 u183.1 u183.2 post)))) ∧ (x2.toInt < 0 ∨ 15 < x2.toInt → wp_Mc_deliver_J189 σ α x1 x2 post)
def wp_Mc_discriminate_10_J22 (σ : Nat → Int32) (α : Nat → Nat → Int32) (post : gS → Prop) : Prop := post (σ, α)
def wp_Mc_discriminate_10 (σ : Nat → Int32) (α : Nat → Nat → Int32) (x2 : Int32) (post : gS → Prop) : Prop := (x2 = 0 → wp_Mc_discriminate_10_J22 σ α post) ∧ (¬ x2 = 0 → wp_Mc_discriminate_10_J22 (va_up σ 11 ((σ 22) + (1 : Int32))) α post)
def wp_Mc_move_10_J83 (σ : Nat → Int32) (α : Nat → Nat → Int32) (post : gS → Prop) : Prop := post (σ, α)
def wp_Mc_move_10_J68 (σ : Nat → Int32) (α : Nat → Nat → Int32) (t0 : Int32) (post : gS → Prop) : Prop := wp_Mc_discriminate_10 σ α t0 (fun (u68 : gS) => wp_Mc_move_10_J83 u68.1 u68.2 post)
def wp_Mc_move_10_J51 (σ : Nat → Int32) (α : Nat → Nat → Int32) (t0 : Int32) (post : gS → Prop) : Prop := wp_Mc_discriminate_10 σ α t0 (fun (u51 : gS) => wp_Mc_move_10_J83 u51.1 u51.2 post)
def wp_Mc_move_10 (σ : Nat → Int32) (α : Nat → Nat → Int32) (post : gS → Prop) : Prop := wp_Mc_sourceWord σ α (σ 18) (fun (r5 : Int32) (u5 : gS) => ((u5.1 19) = 11 → (0 ≤ r5 → wp_Mc_move_10_J51 u5.1 u5.2 (0 : Int32) post) ∧ (¬ 0 ≤ r5 → wp_Mc_move_10_J51 u5.1 u5.2 (1 : Int32) post)) ∧ ((u5.1 19) = 12 → (r5 = 0 → wp_Mc_move_10_J68 u5.1 u5.2 (0 : Int32) post) ∧ (¬ r5 = 0 → wp_Mc_move_10_J68 u5.1 u5.2 (1 : Int32) post)) ∧ (¬ (u5.1 19) = 11 ∧ ¬ (u5.1 19) = 12 → wp_Mc_deliver u5.1 u5.2 r5 (u5.1 19) (fun (u80 : gS) => wp_Mc_move_10_J83 u80.1 u80.2 post)))
def wp_Mc_discriminate_11_J22 (σ : Nat → Int32) (α : Nat → Nat → Int32) (post : gS → Prop) : Prop := post (σ, α)
def wp_Mc_discriminate_11 (σ : Nat → Int32) (α : Nat → Nat → Int32) (x2 : Int32) (post : gS → Prop) : Prop := (x2 = 0 → wp_Mc_discriminate_11_J22 σ α post) ∧ (¬ x2 = 0 → wp_Mc_discriminate_11_J22 σ α post)
def wp_Mc_move_11_J83 (σ : Nat → Int32) (α : Nat → Nat → Int32) (post : gS → Prop) : Prop := post (σ, α)
def wp_Mc_move_11_J68 (σ : Nat → Int32) (α : Nat → Nat → Int32) (t0 : Int32) (post : gS → Prop) : Prop := wp_Mc_discriminate_11 σ α t0 (fun (u68 : gS) => wp_Mc_move_11_J83 u68.1 u68.2 post)
def wp_Mc_move_11_J51 (σ : Nat → Int32) (α : Nat → Nat → Int32) (t0 : Int32) (post : gS → Prop) : Prop := wp_Mc_discriminate_11 σ α t0 (fun (u51 : gS) => wp_Mc_move_11_J83 u51.1 u51.2 post)
def wp_Mc_move_11 (σ : Nat → Int32) (α : Nat → Nat → Int32) (post : gS → Prop) : Prop := wp_Mc_sourceWord σ α (σ 23) (fun (r5 : Int32) (u5 : gS) => ((u5.1 24) = 11 → (0 ≤ r5 → wp_Mc_move_11_J51 u5.1 u5.2 (0 : Int32) post) ∧ (¬ 0 ≤ r5 → wp_Mc_move_11_J51 u5.1 u5.2 (1 : Int32) post)) ∧ ((u5.1 24) = 12 → (r5 = 0 → wp_Mc_move_11_J68 u5.1 u5.2 (0 : Int32) post) ∧ (¬ r5 = 0 → wp_Mc_move_11_J68 u5.1 u5.2 (1 : Int32) post)) ∧ (¬ (u5.1 24) = 11 ∧ ¬ (u5.1 24) = 12 → wp_Mc_deliver u5.1 u5.2 r5 (u5.1 24) (fun (u80 : gS) => wp_Mc_move_11_J83 u80.1 u80.2 post)))
def wp_St_product (σ : Nat → Int32) (α : Nat → Nat → Int32) (post : Int32 → gS → Prop) : Prop := post (((α 3 (131 : Int32).toNatClampNeg) <<< ((16 : Int32) &&& 31)) ||| ((α 3 (130 : Int32).toNatClampNeg) &&& (65535 : Int32))) (σ, α)
def wp_Mu_endCycle_J60 (σ : Nat → Int32) (α : Nat → Nat → Int32) (t0 : Int32) (t1 : Int32) (post : gS → Prop) : Prop := wp_St_setProduct σ α (t1 + t0) (fun (u61 : gS) => post ((va_up (va_up u61.1 15 ((u61.1 15) <<< ((1 : Int32) &&& 31))) 16 ((u61.1 16) - (1 : Int32))), u61.2))
def wp_Mu_endCycle_J36 (σ : Nat → Int32) (α : Nat → Nat → Int32) (t0 : Int32) (post : gS → Prop) : Prop := wp_St_product σ α (fun (r40 : Int32) (u40 : gS) => (t0 = 0 → wp_Mu_endCycle_J60 u40.1 u40.2 (0 : Int32) ((2 : Int32) * r40) post) ∧ (¬ t0 = 0 → wp_Mu_endCycle_J60 u40.1 u40.2 (u40.2 3 (129 : Int32).toNatClampNeg) ((2 : Int32) * r40) post))
def wp_Mu_endCycle (σ : Nat → Int32) (α : Nat → Nat → Int32) (post : gS → Prop) : Prop := ((σ 17) = 0 → (¬ (σ 16) = 0 → (((σ 15) &&& (32768 : Int32)) = 0 → wp_Mu_endCycle_J36 σ α (0 : Int32) post) ∧ (¬ ((σ 15) &&& (32768 : Int32)) = 0 → wp_Mu_endCycle_J36 σ α (1 : Int32) post)) ∧ ((σ 16) = 0 → post (σ, α))) ∧ (¬ (σ 17) = 0 → post ((va_up σ 17 (0 : Int32)), α))
def wp_Rd_endCycle_J49 (σ : Nat → Int32) (α : Nat → Nat → Int32) (a3 : Int32) (post : Int32 → gS → Prop) : Prop := narrow .boolean (.int a3) = .int a3 ∧ (post a3 (σ, α))
def wp_Rd_endCycle_J32 (σ : Nat → Int32) (α : Nat → Nat → Int32) (a2 : Int32) (t0 : Int32) (post : Int32 → gS → Prop) : Prop := (¬ a2 = (90 : Int32) → wp_Rd_endCycle_J49 (va_up σ 4 (0 : Int32)) α t0 post) ∧ (a2 = (90 : Int32) → wp_Rd_endCycle_J49 (va_up (va_up σ 2 (0 : Int32)) 4 (0 : Int32)) α t0 post)
def wp_Rd_endCycle_J18 (σ : Nat → Int32) (α : Nat → Nat → Int32) (post : Int32 → gS → Prop) : Prop := post (0 : Int32) (σ, α)
def wp_Rd_endCycle (σ : Nat → Int32) (α : Nat → Nat → Int32) (x1 : Int32) (post : Int32 → gS → Prop) : Prop := wp_Rd_offset σ α x1 (fun (r2 : Int32) (u2 : gS) => (r2 < 0 → wp_Rd_endCycle_J18 u2.1 u2.2 post) ∧ (¬ r2 < 0 → ((r2 - r2 / (8 : Int32) * (8 : Int32)) = (2 : Int32) → (¬ (u2.1 4) = 0 → wp_Rd_endCycle_J32 u2.1 u2.2 r2 (0 : Int32) post) ∧ ((u2.1 4) = 0 → wp_Rd_endCycle_J32 u2.1 u2.2 r2 (1 : Int32) post)) ∧ (¬ (r2 - r2 / (8 : Int32) * (8 : Int32)) = (2 : Int32) → wp_Rd_endCycle_J18 u2.1 u2.2 post)))
def wp_Mc_goThroughCycle_J92 (wc : Nat) (wb : Nat) (σ : Nat → Int32) (α : Nat → Nat → Int32) (post : gSW → Prop) : Prop := post (wc, wb, (va_up σ 9 ((σ 9) + (1 : Int32))), α)
def wp_Mc_goThroughCycle_J62 (wc : Nat) (wb : Nat) (σ : Nat → Int32) (α : Nat → Nat → Int32) (post : gSW → Prop) : Prop := wp_Mu_endCycle σ α (fun (u70 : gS) => wp_Rd_endCycle u70.1 u70.2 (u70.1 9) (fun (r81 : Int32) (u81 : gS) => (r81 = 0 → wp_Mc_goThroughCycle_J92 wc wb u81.1 u81.2 post) ∧ (¬ r81 = 0 → wp_Mc_stopBy u81.1 u81.2 (1 : Int32) (fun (u89 : gS) => wp_Mc_goThroughCycle_J92 wc wb u89.1 u89.2 post))))
def wp_Mc_goThroughCycle_J15 (wc : Nat) (wb : Nat) (σ : Nat → Int32) (α : Nat → Nat → Int32) (post : gSW → Prop) : Prop := wp_Wi_covers_11 σ α (σ 9) (fun (r23 : Int32) (u23 : gS) => (r23 = 0 → wp_Wi_covers_10 u23.1 u23.2 (u23.1 9) (fun (r48 : Int32) (u48 : gS) => (r48 = 0 → wp_Mc_goThroughCycle_J62 wc wb u48.1 u48.2 post) ∧ (¬ r48 = 0 → wp_Mc_move_10 u48.1 u48.2 (fun (u59 : gS) => wp_Mc_goThroughCycle_J62 wc wb u59.1 u59.2 post)))) ∧ (¬ r23 = 0 → wp_Mc_move_11 u23.1 u23.2 (fun (u34 : gS) => wp_Mc_goThroughCycle_J62 wc wb u34.1 u34.2 post)))
def wp_Mc_goThroughCycle (wc : Nat) (wb : Nat) (σ : Nat → Int32) (α : Nat → Nat → Int32) (post : gSW → Prop) : Prop := (¬ (σ 9) = (σ 11) → wp_Mc_goThroughCycle_J15 wc wb σ α post) ∧ ((σ 9) = (σ 11) → wp_Mc_takeOrder wc wb σ α (fun (u12 : gSW) => wp_Mc_goThroughCycle_J15 u12.1 u12.2.1 u12.2.2.1 u12.2.2.2 post))
def wp_Dm_run_B15 (XL15 : Nat → Nat → (Nat → Int32) → (Nat → Nat → Int32) → Int32 → Int32 → Prop) (wc : Nat) (wb : Nat) (σ : Nat → Int32) (α : Nat → Nat → Int32) (a1 : Int32) (a2 : Int32) (post : Int32 → gSW → Prop) : Prop := (a1 ≤ a2 → post a1 (wc, wb, σ, α)) ∧ (¬ a1 ≤ a2 → (¬ (σ 7) = 0 → wp_Mc_goThroughCycle wc wb σ α (fun (u36 : gSW) => XL15 u36.1 u36.2.1 u36.2.2.1 u36.2.2.2 a1 (a2 + Int32.ofInt 1))) ∧ ((σ 7) = 0 → post a2 (wc, wb, σ, α)))
def wp_Dm_run_L15 (wc : Nat) (wb : Nat) (σ : Nat → Int32) (α : Nat → Nat → Int32) (a1 : Int32) (a2 : Int32) (post : Int32 → gSW → Prop) : Prop := ∀ XL15 : Nat → Nat → (Nat → Int32) → (Nat → Nat → Int32) → Int32 → Int32 → Prop, (∀ (wc : Nat) (wb : Nat) (σ : Nat → Int32) (α : Nat → Nat → Int32) (a1 : Int32) (a2 : Int32), wp_Dm_run_B15 XL15 wc wb σ α a1 a2 post → XL15 wc wb σ α a1 a2) → XL15 wc wb σ α a1 a2
def wp_Dm_run_J11 (wc : Nat) (wb : Nat) (σ : Nat → Int32) (α : Nat → Nat → Int32) (post : Int32 → gSW → Prop) : Prop := post (-1 : Int32) (wc, wb, σ, α)
def wp_Dm_run (wc : Nat) (wb : Nat) (σ : Nat → Int32) (α : Nat → Nat → Int32) (x1 : Int32) (post : Int32 → gSW → Prop) : Prop := (x1 < 0 → wp_Dm_run_J11 wc wb σ α post) ∧ (¬ x1 < 0 → (x1 ≤ (2000 : Int32) → wp_Dm_run_L15 wc wb σ α x1 (0 : Int32) post) ∧ (¬ x1 ≤ (2000 : Int32) → wp_Dm_run_J11 wc wb σ α post))
def wp_Dm_look_J67 (σ : Nat → Int32) (α : Nat → Nat → Int32) (t0 : Int32) (post : Int32 → gS → Prop) : Prop := post t0 (σ, α)
def wp_Dm_look (σ : Nat → Int32) (α : Nat → Nat → Int32) (x1 : Int32) (post : Int32 → gS → Prop) : Prop := (x1 = 0 → ((σ 7) = 0 → wp_Dm_look_J67 σ α (0 : Int32) post) ∧ (¬ (σ 7) = 0 → wp_Dm_look_J67 σ α (1 : Int32) post)) ∧ (x1 = 1 → post (σ 8) (σ, α)) ∧ (x1 = 2 → post (σ 9) (σ, α)) ∧ (x1 = 3 → post (σ 12) (σ, α)) ∧ (x1 = 4 → post (σ 13) (σ, α)) ∧ (x1 = 5 → post (σ 14) (σ, α)) ∧ (x1 = 6 → wp_Rd_rowsLeft σ α (fun (r112 : Int32) (u112 : gS) => post r112 (u112.1, u112.2))) ∧ (x1 = 7 → post (σ 5) (σ, α)) ∧ (x1 = 8 → post (σ 16) (σ, α)) ∧ (x1.toInt < 0 ∨ 8 < x1.toInt → post (-1 : Int32) (σ, α))
def wp_Dm_peek_J23 (σ : Nat → Int32) (α : Nat → Nat → Int32) (t0 : Int32) (post : Int32 → gS → Prop) : Prop := narrow .short (.int t0) = .int t0 ∧ (post t0 (σ, α))
def wp_Dm_peek (σ : Nat → Int32) (α : Nat → Nat → Int32) (x1 : Int32) (x2 : Int32) (post : Int32 → gS → Prop) : Prop := wp_St_wordSpot σ α x1 x2 (fun (r2 : Int32) (u2 : gS) => (0 ≤ r2 → vp_in r2 132 ∧ (wp_Dm_peek_J23 u2.1 u2.2 (u2.2 3 r2.toNatClampNeg) post)) ∧ (¬ 0 ≤ r2 → wp_Dm_peek_J23 u2.1 u2.2 (0 : Int32) post))
def wp_Dm_read_J23 (σ : Nat → Int32) (α : Nat → Nat → Int32) (t0 : Int32) (post : Int32 → gS → Prop) : Prop := post t0 (σ, α)
def wp_Dm_read (σ : Nat → Int32) (α : Nat → Nat → Int32) (x1 : Int32) (x2 : Int32) (post : Int32 → gS → Prop) : Prop := wp_St_orderSpot σ α x1 x2 (fun (r2 : Int32) (u2 : gS) => (0 ≤ r2 → vp_in r2 64 ∧ (wp_Dm_read_J23 u2.1 u2.2 (u2.2 2 r2.toNatClampNeg) post)) ∧ (¬ 0 ≤ r2 → wp_Dm_read_J23 u2.1 u2.2 (-1 : Int32) post))
def wp_Dm_punched_J28 (σ : Nat → Int32) (α : Nat → Nat → Int32) (t0 : Int32) (post : Int32 → gS → Prop) : Prop := narrow .short (.int t0) = .int t0 ∧ (post t0 (σ, α))
def wp_Dm_punched_J15 (σ : Nat → Int32) (α : Nat → Nat → Int32) (post : Int32 → gS → Prop) : Prop := wp_Dm_punched_J28 σ α (0 : Int32) post
def wp_Dm_punched (σ : Nat → Int32) (α : Nat → Nat → Int32) (x1 : Int32) (post : Int32 → gS → Prop) : Prop := (x1 < 0 → wp_Dm_punched_J15 σ α post) ∧ (¬ x1 < 0 → (x1 < (σ 5) → vp_in x1 60 ∧ (wp_Dm_punched_J28 σ α (α 7 x1.toNatClampNeg) post)) ∧ (¬ x1 < (σ 5) → wp_Dm_punched_J15 σ α post))
def wp_Pr_isVariable_J15 (σ : Nat → Int32) (α : Nat → Nat → Int32) (t0 : Int32) (post : Int32 → gS → Prop) : Prop := narrow .boolean (.int t0) = .int t0 ∧ (post t0 (σ, α))
def wp_Pr_isVariable_J14 (σ : Nat → Int32) (α : Nat → Nat → Int32) (post : Int32 → gS → Prop) : Prop := wp_Pr_isVariable_J15 σ α (0 : Int32) post
def wp_Pr_isVariable (σ : Nat → Int32) (α : Nat → Nat → Int32) (x0 : Int32) (post : Int32 → gS → Prop) : Prop := (x0 < 0 → wp_Pr_isVariable_J14 σ α post) ∧ (¬ x0 < 0 → ((16 : Int32) ≤ x0 → wp_Pr_isVariable_J14 σ α post) ∧ (¬ (16 : Int32) ≤ x0 → wp_Pr_isVariable_J15 σ α (1 : Int32) post))
def wp_Pr_addStatement_J94 (σ : Nat → Int32) (α : Nat → Nat → Int32) (post : Int32 → gS → Prop) : Prop := post (-1 : Int32) (σ, α)
def wp_Pr_addStatement_J68 (σ : Nat → Int32) (α : Nat → Nat → Int32) (a1 : Int32) (a2 : Int32) (a3 : Int32) (a4 : Int32) (a5 : Int32) (a6 : Int32) (a7 : Int32) (t0 : Int32) (post : Int32 → gS → Prop) : Prop := ((12 : Int32) ≤ (σ 28) → wp_Pr_addStatement_J94 σ α post) ∧ (¬ (12 : Int32) ≤ (σ 28) → (a6 = 0 → wp_Pr_addStatement_J94 σ α post) ∧ (¬ a6 = 0 → (a7 = 0 → wp_Pr_addStatement_J94 σ α post) ∧ (¬ a7 = 0 → (¬ t0 = 0 → vp_in (σ 28) 12 ∧ (vp_in (σ 28) 12 ∧ (vp_in (σ 28) 12 ∧ (vp_in (σ 28) 12 ∧ (vp_in (σ 28) 12 ∧ (post (((σ 28) + (1 : Int32)) - (1 : Int32)) ((va_up σ 28 ((σ 28) + (1 : Int32))), (va_up (va_up (va_up (va_up (va_up α 13 (upd (α 13) (σ 28).toNatClampNeg a1)) 14 (upd (α 14) (σ 28).toNatClampNeg a2)) 15 (upd (α 15) (σ 28).toNatClampNeg a3)) 16 (upd (α 16) (σ 28).toNatClampNeg a4)) 17 (upd (α 17) (σ 28).toNatClampNeg a5))))))))) ∧ (t0 = 0 → wp_Pr_addStatement_J94 σ α post))))
def wp_Pr_addStatement_J67 (σ : Nat → Int32) (α : Nat → Nat → Int32) (a1 : Int32) (a2 : Int32) (a3 : Int32) (a4 : Int32) (a5 : Int32) (a6 : Int32) (a7 : Int32) (post : Int32 → gS → Prop) : Prop := wp_Pr_addStatement_J68 σ α a1 a2 a3 a4 a5 a6 a7 (0 : Int32) post
def wp_Pr_addStatement_J63 (σ : Nat → Int32) (α : Nat → Nat → Int32) (a1 : Int32) (a2 : Int32) (a3 : Int32) (a4 : Int32) (a5 : Int32) (a6 : Int32) (a7 : Int32) (post : Int32 → gS → Prop) : Prop := wp_Pr_addStatement_J68 σ α a1 a2 a3 a4 a5 a6 a7 (1 : Int32) post
def wp_Pr_addStatement_J44 (σ : Nat → Int32) (α : Nat → Nat → Int32) (a1 : Int32) (a2 : Int32) (a3 : Int32) (a4 : Int32) (a5 : Int32) (a6 : Int32) (t0 : Int32) (post : Int32 → gS → Prop) : Prop := (¬ a1 = (4 : Int32) → wp_Pr_addStatement_J63 σ α a1 a2 a3 a4 a5 a6 t0 post) ∧ (a1 = (4 : Int32) → (a5 < 0 → wp_Pr_addStatement_J67 σ α a1 a2 a3 a4 a5 a6 t0 post) ∧ (¬ a5 < 0 → ((12 : Int32) ≤ a5 → wp_Pr_addStatement_J67 σ α a1 a2 a3 a4 a5 a6 t0 post) ∧ (¬ (12 : Int32) ≤ a5 → wp_Pr_addStatement_J63 σ α a1 a2 a3 a4 a5 a6 t0 post)))
def wp_Pr_addStatement_J43 (σ : Nat → Int32) (α : Nat → Nat → Int32) (a1 : Int32) (a2 : Int32) (a3 : Int32) (a4 : Int32) (a5 : Int32) (a6 : Int32) (post : Int32 → gS → Prop) : Prop := wp_Pr_addStatement_J44 σ α a1 a2 a3 a4 a5 a6 (0 : Int32) post
def wp_Pr_addStatement_J15 (σ : Nat → Int32) (α : Nat → Nat → Int32) (a1 : Int32) (a2 : Int32) (a3 : Int32) (a4 : Int32) (a5 : Int32) (t0 : Int32) (post : Int32 → gS → Prop) : Prop := wp_Pr_isVariable σ α a2 (fun (r18 : Int32) (u18 : gS) => (r18 = 0 → wp_Pr_addStatement_J43 u18.1 u18.2 a1 a2 a3 a4 a5 t0 post) ∧ (¬ r18 = 0 → wp_Pr_isVariable u18.1 u18.2 a3 (fun (r25 : Int32) (u25 : gS) => (r25 = 0 → wp_Pr_addStatement_J43 u25.1 u25.2 a1 a2 a3 a4 a5 t0 post) ∧ (¬ r25 = 0 → wp_Pr_isVariable u25.1 u25.2 a4 (fun (r33 : Int32) (u33 : gS) => (r33 = 0 → wp_Pr_addStatement_J43 u33.1 u33.2 a1 a2 a3 a4 a5 t0 post) ∧ (¬ r33 = 0 → wp_Pr_addStatement_J44 u33.1 u33.2 a1 a2 a3 a4 a5 t0 (1 : Int32) post))))))
def wp_Pr_addStatement_J14 (σ : Nat → Int32) (α : Nat → Nat → Int32) (a1 : Int32) (a2 : Int32) (a3 : Int32) (a4 : Int32) (a5 : Int32) (post : Int32 → gS → Prop) : Prop := wp_Pr_addStatement_J15 σ α a1 a2 a3 a4 a5 (0 : Int32) post
def wp_Pr_addStatement (σ : Nat → Int32) (α : Nat → Nat → Int32) (x1 : Int32) (x2 : Int32) (x3 : Int32) (x4 : Int32) (x5 : Int32) (post : Int32 → gS → Prop) : Prop := (x1 < 0 → wp_Pr_addStatement_J14 σ α x1 x2 x3 x4 x5 post) ∧ (¬ x1 < 0 → ((7 : Int32) ≤ x1 → wp_Pr_addStatement_J14 σ α x1 x2 x3 x4 x5 post) ∧ (¬ (7 : Int32) ≤ x1 → wp_Pr_addStatement_J15 σ α x1 x2 x3 x4 x5 (1 : Int32) post))
def wp_Dm_statement (σ : Nat → Int32) (α : Nat → Nat → Int32) (x1 : Int32) (x2 : Int32) (x3 : Int32) (x4 : Int32) (x5 : Int32) (post : Int32 → gS → Prop) : Prop := wp_Pr_addStatement σ α x1 x2 x3 x4 x5 (fun (r11 : Int32) (u11 : gS) => post r11 (u11.1, u11.2))
def wp_Dm_clear (σ : Nat → Int32) (α : Nat → Nat → Int32) (post : gS → Prop) : Prop := post ((va_up σ 28 (0 : Int32)), α)
def wp_Pr_allGotosLead_J35 (XL2 : (Nat → Int32) → (Nat → Nat → Int32) → Int32 → Prop) (σ : Nat → Int32) (α : Nat → Nat → Int32) (a1 : Int32) (post : Int32 → gS → Prop) : Prop := XL2 σ α (a1 + Int32.ofInt 1)
def wp_Pr_allGotosLead_B2 (XL2 : (Nat → Int32) → (Nat → Nat → Int32) → Int32 → Prop) (σ : Nat → Int32) (α : Nat → Nat → Int32) (a1 : Int32) (post : Int32 → gS → Prop) : Prop := ((σ 28) ≤ a1 → post (1 : Int32) (σ, α)) ∧ (¬ (σ 28) ≤ a1 → vp_in a1 12 ∧ ((¬ (α 13 a1.toNatClampNeg) = (4 : Int32) → wp_Pr_allGotosLead_J35 XL2 σ α a1 post) ∧ ((α 13 a1.toNatClampNeg) = (4 : Int32) → vp_in a1 12 ∧ (((α 17 a1.toNatClampNeg) < (σ 28) → wp_Pr_allGotosLead_J35 XL2 σ α a1 post) ∧ (¬ (α 17 a1.toNatClampNeg) < (σ 28) → post (0 : Int32) (σ, α))))))
def wp_Pr_allGotosLead_L2 (σ : Nat → Int32) (α : Nat → Nat → Int32) (a1 : Int32) (post : Int32 → gS → Prop) : Prop := ∀ XL2 : (Nat → Int32) → (Nat → Nat → Int32) → Int32 → Prop, (∀ (σ : Nat → Int32) (α : Nat → Nat → Int32) (a1 : Int32), wp_Pr_allGotosLead_B2 XL2 σ α a1 post → XL2 σ α a1) → XL2 σ α a1
def wp_Pr_allGotosLead (σ : Nat → Int32) (α : Nat → Nat → Int32) (post : Int32 → gS → Prop) : Prop := wp_Pr_allGotosLead_L2 σ α (0 : Int32) post
def wp_Pl_forget (σ : Nat → Int32) (α : Nat → Nat → Int32) (post : gS → Prop) : Prop := post ((va_up (va_up (va_up (va_up σ 33 (0 : Int32)) 34 (-1 : Int32)) 35 (0 : Int32)) 36 (1 : Int32)), (va_up (va_up (va_up (va_up (va_up α 25 (gfill 64 (-1 : Int32) (α 25))) 26 (gfill 32 (-1 : Int32) (α 26))) 27 (gfill 16 (-1 : Int32) (α 27))) 28 (gfill 12 (-1 : Int32) (α 28))) 29 (gfill 12 (-1 : Int32) (α 29))))
def wp_Pr_endsWithHalt_J28 (σ : Nat → Int32) (α : Nat → Nat → Int32) (t0 : Int32) (post : Int32 → gS → Prop) : Prop := narrow .boolean (.int t0) = .int t0 ∧ (post t0 (σ, α))
def wp_Pr_endsWithHalt_J27 (σ : Nat → Int32) (α : Nat → Nat → Int32) (post : Int32 → gS → Prop) : Prop := wp_Pr_endsWithHalt_J28 σ α (0 : Int32) post
def wp_Pr_endsWithHalt (σ : Nat → Int32) (α : Nat → Nat → Int32) (post : Int32 → gS → Prop) : Prop := ((σ 28) ≤ 0 → wp_Pr_endsWithHalt_J27 σ α post) ∧ (¬ (σ 28) ≤ 0 → vp_in ((σ 28) - (1 : Int32)) 12 ∧ ((¬ (α 13 ((σ 28) - (1 : Int32)).toNatClampNeg) = (6 : Int32) → wp_Pr_endsWithHalt_J27 σ α post) ∧ ((α 13 ((σ 28) - (1 : Int32)).toNatClampNeg) = (6 : Int32) → wp_Pr_endsWithHalt_J28 σ α (1 : Int32) post)))
def wp_Pl_isFree_J20 (σ : Nat → Int32) (α : Nat → Nat → Int32) (t0 : Int32) (post : Int32 → gS → Prop) : Prop := narrow .boolean (.int t0) = .int t0 ∧ (post t0 (σ, α))
def wp_Pl_isFree (σ : Nat → Int32) (α : Nat → Nat → Int32) (x1 : Int32) (x2 : Int32) (post : Int32 → gS → Prop) : Prop := vp_in ((x1 * (32 : Int32)) + x2) 64 ∧ ((¬ (α 25 ((x1 * (32 : Int32)) + x2).toNatClampNeg) = (-1 : Int32) → wp_Pl_isFree_J20 σ α (0 : Int32) post) ∧ ((α 25 ((x1 * (32 : Int32)) + x2).toNatClampNeg) = (-1 : Int32) → wp_Pl_isFree_J20 σ α (1 : Int32) post))
def wp_Pl_freeSpot_B20 (XL2 : (Nat → Int32) → (Nat → Nat → Int32) → Int32 → Prop) (XL20 : (Nat → Int32) → (Nat → Nat → Int32) → Int32 → Int32 → Int32 → Prop) (σ : Nat → Int32) (α : Nat → Nat → Int32) (a1 : Int32) (a2 : Int32) (a3 : Int32) (post : Int32 → gS → Prop) : Prop := ((2 : Int32) ≤ a3 → XL2 σ α (a1 + Int32.ofInt 1)) ∧ (¬ (2 : Int32) ≤ a3 → wp_Pl_isFree σ α a3 a2 (fun (r28 : Int32) (u28 : gS) => (r28 = 0 → XL20 u28.1 u28.2 a1 a2 (a3 + Int32.ofInt 1)) ∧ (¬ r28 = 0 → post ((a3 * (32 : Int32)) + a2) (u28.1, u28.2))))
def wp_Pl_freeSpot_L20 (XL2 : (Nat → Int32) → (Nat → Nat → Int32) → Int32 → Prop) (σ : Nat → Int32) (α : Nat → Nat → Int32) (a1 : Int32) (a2 : Int32) (a3 : Int32) (post : Int32 → gS → Prop) : Prop := ∀ XL20 : (Nat → Int32) → (Nat → Nat → Int32) → Int32 → Int32 → Int32 → Prop, (∀ (σ : Nat → Int32) (α : Nat → Nat → Int32) (a1 : Int32) (a2 : Int32) (a3 : Int32), wp_Pl_freeSpot_B20 XL2 XL20 σ α a1 a2 a3 post → XL20 σ α a1 a2 a3) → XL20 σ α a1 a2 a3
def wp_Pl_freeSpot_B2 (XL2 : (Nat → Int32) → (Nat → Nat → Int32) → Int32 → Prop) (σ : Nat → Int32) (α : Nat → Nat → Int32) (a1 : Int32) (post : Int32 → gS → Prop) : Prop := ((32 : Int32) ≤ a1 → post (-1 : Int32) (σ, α)) ∧ (¬ (32 : Int32) ≤ a1 → wp_Pl_freeSpot_L20 XL2 σ α a1 (((σ 33) + a1) &&& (31 : Int32)) (0 : Int32) post)
def wp_Pl_freeSpot_L2 (σ : Nat → Int32) (α : Nat → Nat → Int32) (a1 : Int32) (post : Int32 → gS → Prop) : Prop := ∀ XL2 : (Nat → Int32) → (Nat → Nat → Int32) → Int32 → Prop, (∀ (σ : Nat → Int32) (α : Nat → Nat → Int32) (a1 : Int32), wp_Pl_freeSpot_B2 XL2 σ α a1 post → XL2 σ α a1) → XL2 σ α a1
def wp_Pl_freeSpot (σ : Nat → Int32) (α : Nat → Nat → Int32) (post : Int32 → gS → Prop) : Prop := wp_Pl_freeSpot_L2 σ α (0 : Int32) post
def wp_Pl_variablePlace_J59 (σ : Nat → Int32) (α : Nat → Nat → Int32) (a1 : Int32) (post : Int32 → gS → Prop) : Prop := vp_in a1 16 ∧ (post (α 27 a1.toNatClampNeg) (σ, α))
def wp_Pl_variablePlace_J53 (XL2 : (Nat → Int32) → (Nat → Nat → Int32) → Int32 → Int32 → Int32 → Prop) (σ : Nat → Int32) (α : Nat → Nat → Int32) (a1 : Int32) (a2 : Int32) (a3 : Int32) (post : Int32 → gS → Prop) : Prop := XL2 σ α a1 a2 (a3 + Int32.ofInt 1)
def wp_Pl_variablePlace_B2 (XL2 : (Nat → Int32) → (Nat → Nat → Int32) → Int32 → Int32 → Int32 → Prop) (σ : Nat → Int32) (α : Nat → Nat → Int32) (a1 : Int32) (a2 : Int32) (a3 : Int32) (post : Int32 → gS → Prop) : Prop := ((32 : Int32) ≤ a3 → wp_Pl_variablePlace_J59 σ α a1 post) ∧ (¬ (32 : Int32) ≤ a3 → vp_in a1 16 ∧ ((¬ (α 27 a1.toNatClampNeg) = (-1 : Int32) → wp_Pl_variablePlace_J59 σ α a1 post) ∧ ((α 27 a1.toNatClampNeg) = (-1 : Int32) → vp_in ((a2 + a3) &&& (31 : Int32)) 32 ∧ ((¬ (α 26 ((a2 + a3) &&& (31 : Int32)).toNatClampNeg) = (-1 : Int32) → wp_Pl_variablePlace_J53 XL2 σ α a1 a2 a3 post) ∧ ((α 26 ((a2 + a3) &&& (31 : Int32)).toNatClampNeg) = (-1 : Int32) → vp_in ((a2 + a3) &&& (31 : Int32)) 32 ∧ (vp_in a1 16 ∧ (wp_Pl_variablePlace_J53 XL2 σ (va_up (va_up α 26 (upd (α 26) ((a2 + a3) &&& (31 : Int32)).toNatClampNeg a1)) 27 (upd (α 27) a1.toNatClampNeg ((a2 + a3) &&& (31 : Int32)))) a1 a2 a3 post)))))))
def wp_Pl_variablePlace_L2 (σ : Nat → Int32) (α : Nat → Nat → Int32) (a1 : Int32) (a2 : Int32) (a3 : Int32) (post : Int32 → gS → Prop) : Prop := ∀ XL2 : (Nat → Int32) → (Nat → Nat → Int32) → Int32 → Int32 → Int32 → Prop, (∀ (σ : Nat → Int32) (α : Nat → Nat → Int32) (a1 : Int32) (a2 : Int32) (a3 : Int32), wp_Pl_variablePlace_B2 XL2 σ α a1 a2 a3 post → XL2 σ α a1 a2 a3) → XL2 σ α a1 a2 a3
def wp_Pl_variablePlace (σ : Nat → Int32) (α : Nat → Nat → Int32) (x1 : Int32) (x2 : Int32) (post : Int32 → gS → Prop) : Prop := wp_Pl_variablePlace_L2 σ α x1 x2 (0 : Int32) post
def wp_Pl_lead (σ : Nat → Int32) (α : Nat → Nat → Int32) (x1 : Int32) (x2 : Int32) (post : gS → Prop) : Prop := vp_in x1 64 ∧ (vp_in x1 64 ∧ (post (σ, (va_up α 25 (upd (α 25) x1.toNatClampNeg ((α 25 x1.toNatClampNeg) ||| (((((x2 - x1) - (2 : Int32)) &&& (31 : Int32)) <<< ((15 : Int32) &&& 31)) ||| ((x2 / (32 : Int32)) <<< ((20 : Int32) &&& 31)))))))))
def wp_Pl_occupy_J16 (σ : Nat → Int32) (α : Nat → Nat → Int32) (a1 : Int32) (a2 : Int32) (post : gS → Prop) : Prop := vp_in a1 64 ∧ (post ((va_up (va_up σ 34 a1) 35 ((σ 35) + (1 : Int32))), (va_up α 25 (upd (α 25) a1.toNatClampNeg a2))))
def wp_Pl_occupy (σ : Nat → Int32) (α : Nat → Nat → Int32) (x1 : Int32) (x2 : Int32) (post : gS → Prop) : Prop := ((σ 34) < 0 → wp_Pl_occupy_J16 σ α x1 x2 post) ∧ (¬ (σ 34) < 0 → wp_Pl_lead σ α (σ 34) x1 (fun (u13 : gS) => wp_Pl_occupy_J16 u13.1 u13.2 x1 x2 post))
def wp_Pl_placeOrder_J55 (σ : Nat → Int32) (α : Nat → Nat → Int32) (a1 : Int32) (a2 : Int32) (a4 : Int32) (a5 : Int32) (t0 : Int32) (post : gS → Prop) : Prop := wp_Pl_occupy σ α a4 ((a1 ||| (a2 <<< ((4 : Int32) &&& 31))) ||| (t0 <<< ((10 : Int32) &&& 31))) (fun (u71 : gS) => post ((va_up u71.1 33 ((a5 + t0) &&& (31 : Int32))), u71.2))
def wp_Pl_placeOrder_J18 (σ : Nat → Int32) (α : Nat → Nat → Int32) (post : gS → Prop) : Prop := post ((va_up σ 36 (0 : Int32)), α)
def wp_Pl_placeOrder (σ : Nat → Int32) (α : Nat → Nat → Int32) (x1 : Int32) (x2 : Int32) (x3 : Int32) (post : gS → Prop) : Prop := wp_Pl_freeSpot σ α (fun (r1 : Int32) (u1 : gS) => ((u1.1 36) = 0 → wp_Pl_placeOrder_J18 u1.1 u1.2 post) ∧ (¬ (u1.1 36) = 0 → (0 ≤ r1 → (¬ x3 = (-1 : Int32) → wp_Pl_variablePlace u1.1 u1.2 x3 ((r1 + (2 : Int32)) &&& (31 : Int32)) (fun (r46 : Int32) (u46 : gS) => wp_Pl_placeOrder_J55 u46.1 u46.2 x1 x2 r1 ((r1 + (2 : Int32)) &&& (31 : Int32)) ((r46 - ((r1 + (2 : Int32)) &&& (31 : Int32))) &&& (31 : Int32)) post)) ∧ (x3 = (-1 : Int32) → wp_Pl_placeOrder_J55 u1.1 u1.2 x1 x2 r1 ((r1 + (2 : Int32)) &&& (31 : Int32)) (0 : Int32) post)) ∧ (¬ 0 ≤ r1 → wp_Pl_placeOrder_J18 u1.1 u1.2 post)))
def wp_Pl_placeStop_J30 (σ : Nat → Int32) (α : Nat → Nat → Int32) (post : gS → Prop) : Prop := post (σ, α)
def wp_Pl_placeStop (σ : Nat → Int32) (α : Nat → Nat → Int32) (post : gS → Prop) : Prop := wp_Pl_placeOrder σ α (0 : Int32) (1 : Int32) (-1 : Int32) (fun (u4 : gS) => ((u4.1 36) = 0 → wp_Pl_placeStop_J30 u4.1 u4.2 post) ∧ (¬ (u4.1 36) = 0 → vp_in (u4.1 34) 64 ∧ (wp_Pl_placeStop_J30 (va_up u4.1 34 (-1 : Int32)) (va_up u4.2 25 (upd (u4.2 25) (u4.1 34).toNatClampNeg (1015824 : Int32))) post)))
def wp_Pl_forkSpot_J55 (XL2 : (Nat → Int32) → (Nat → Nat → Int32) → Int32 → Prop) (XL20 : (Nat → Int32) → (Nat → Nat → Int32) → Int32 → Int32 → Int32 → Prop) (σ : Nat → Int32) (α : Nat → Nat → Int32) (a1 : Int32) (a2 : Int32) (a3 : Int32) (post : Int32 → gS → Prop) : Prop := XL20 σ α a1 a2 (a3 + Int32.ofInt 1)
def wp_Pl_forkSpot_B20 (XL2 : (Nat → Int32) → (Nat → Nat → Int32) → Int32 → Prop) (XL20 : (Nat → Int32) → (Nat → Nat → Int32) → Int32 → Int32 → Int32 → Prop) (σ : Nat → Int32) (α : Nat → Nat → Int32) (a1 : Int32) (a2 : Int32) (a3 : Int32) (post : Int32 → gS → Prop) : Prop := ((2 : Int32) ≤ a3 → XL2 σ α (a1 + Int32.ofInt 1)) ∧ (¬ (2 : Int32) ≤ a3 → wp_Pl_isFree σ α a3 a2 (fun (r28 : Int32) (u28 : gS) => (r28 = 0 → wp_Pl_forkSpot_J55 XL2 XL20 u28.1 u28.2 a1 a2 a3 post) ∧ (¬ r28 = 0 → wp_Pl_isFree u28.1 u28.2 a3 ((a2 + (1 : Int32)) &&& (31 : Int32)) (fun (r42 : Int32) (u42 : gS) => (r42 = 0 → wp_Pl_forkSpot_J55 XL2 XL20 u42.1 u42.2 a1 a2 a3 post) ∧ (¬ r42 = 0 → post ((a3 * (32 : Int32)) + a2) (u42.1, u42.2))))))
def wp_Pl_forkSpot_L20 (XL2 : (Nat → Int32) → (Nat → Nat → Int32) → Int32 → Prop) (σ : Nat → Int32) (α : Nat → Nat → Int32) (a1 : Int32) (a2 : Int32) (a3 : Int32) (post : Int32 → gS → Prop) : Prop := ∀ XL20 : (Nat → Int32) → (Nat → Nat → Int32) → Int32 → Int32 → Int32 → Prop, (∀ (σ : Nat → Int32) (α : Nat → Nat → Int32) (a1 : Int32) (a2 : Int32) (a3 : Int32), wp_Pl_forkSpot_B20 XL2 XL20 σ α a1 a2 a3 post → XL20 σ α a1 a2 a3) → XL20 σ α a1 a2 a3
def wp_Pl_forkSpot_B2 (XL2 : (Nat → Int32) → (Nat → Nat → Int32) → Int32 → Prop) (σ : Nat → Int32) (α : Nat → Nat → Int32) (a1 : Int32) (post : Int32 → gS → Prop) : Prop := ((32 : Int32) ≤ a1 → post (-1 : Int32) (σ, α)) ∧ (¬ (32 : Int32) ≤ a1 → wp_Pl_forkSpot_L20 XL2 σ α a1 (((σ 33) + a1) &&& (31 : Int32)) (0 : Int32) post)
def wp_Pl_forkSpot_L2 (σ : Nat → Int32) (α : Nat → Nat → Int32) (a1 : Int32) (post : Int32 → gS → Prop) : Prop := ∀ XL2 : (Nat → Int32) → (Nat → Nat → Int32) → Int32 → Prop, (∀ (σ : Nat → Int32) (α : Nat → Nat → Int32) (a1 : Int32), wp_Pl_forkSpot_B2 XL2 σ α a1 post → XL2 σ α a1) → XL2 σ α a1
def wp_Pl_forkSpot (σ : Nat → Int32) (α : Nat → Nat → Int32) (post : Int32 → gS → Prop) : Prop := wp_Pl_forkSpot_L2 σ α (1 : Int32) post
def wp_Pl_placeFork_J16 (σ : Nat → Int32) (α : Nat → Nat → Int32) (post : gS → Prop) : Prop := post ((va_up σ 36 (0 : Int32)), α)
def wp_Pl_placeFork (σ : Nat → Int32) (α : Nat → Nat → Int32) (x1 : Int32) (post : gS → Prop) : Prop := wp_Pl_forkSpot σ α (fun (r1 : Int32) (u1 : gS) => ((u1.1 36) = 0 → wp_Pl_placeFork_J16 u1.1 u1.2 post) ∧ (¬ (u1.1 36) = 0 → (0 ≤ r1 → wp_Pl_occupy u1.1 u1.2 r1 (0 : Int32) (fun (u37 : gS) => vp_in ((r1 &&& (32 : Int32)) ||| ((r1 + (1 : Int32)) &&& (31 : Int32))) 64 ∧ (vp_in x1 12 ∧ (post ((va_up (va_up u37.1 33 ((r1 + (2 : Int32)) &&& (31 : Int32))) 35 ((u37.1 35) + (1 : Int32))), (va_up (va_up u37.2 25 (upd (u37.2 25) ((r1 &&& (32 : Int32)) ||| ((r1 + (1 : Int32)) &&& (31 : Int32))).toNatClampNeg (0 : Int32))) 29 (upd (u37.2 29) x1.toNatClampNeg ((r1 &&& (32 : Int32)) ||| ((r1 + (1 : Int32)) &&& (31 : Int32)))))))))) ∧ (¬ 0 ≤ r1 → wp_Pl_placeFork_J16 u1.1 u1.2 post)))
def wp_Pl_placeStatement_J189 (σ : Nat → Int32) (α : Nat → Nat → Int32) (post : gS → Prop) : Prop := post (σ, α)
def wp_Pl_placeStatement (σ : Nat → Int32) (α : Nat → Nat → Int32) (x2 : Int32) (post : gS → Prop) : Prop := vp_in x2 12 ∧ (vp_in x2 12 ∧ (vp_in x2 12 ∧ (((α 13 x2.toNatClampNeg) = 0 → wp_Pl_placeOrder σ α (2 : Int32) (6 : Int32) (α 14 x2.toNatClampNeg) (fun (u65 : gS) => vp_in x2 12 ∧ (wp_Pl_placeOrder u65.1 u65.2 (2 : Int32) (9 : Int32) (u65.2 15 x2.toNatClampNeg) (fun (u78 : gS) => wp_Pl_placeOrder u78.1 u78.2 (6 : Int32) (2 : Int32) (α 16 x2.toNatClampNeg) (fun (u87 : gS) => wp_Pl_placeStatement_J189 u87.1 u87.2 post))))) ∧ ((α 13 x2.toNatClampNeg) = 1 → wp_Pl_placeOrder σ α (2 : Int32) (6 : Int32) (α 14 x2.toNatClampNeg) (fun (u98 : gS) => vp_in x2 12 ∧ (wp_Pl_placeOrder u98.1 u98.2 (2 : Int32) (10 : Int32) (u98.2 15 x2.toNatClampNeg) (fun (u111 : gS) => wp_Pl_placeOrder u111.1 u111.2 (6 : Int32) (2 : Int32) (α 16 x2.toNatClampNeg) (fun (u120 : gS) => wp_Pl_placeStatement_J189 u120.1 u120.2 post))))) ∧ ((α 13 x2.toNatClampNeg) = 2 → wp_Pl_placeOrder σ α (2 : Int32) (6 : Int32) (α 14 x2.toNatClampNeg) (fun (u131 : gS) => wp_Pl_placeOrder u131.1 u131.2 (6 : Int32) (2 : Int32) (α 16 x2.toNatClampNeg) (fun (u140 : gS) => wp_Pl_placeStatement_J189 u140.1 u140.2 post))) ∧ ((α 13 x2.toNatClampNeg) = 3 → wp_Pl_placeOrder σ α (2 : Int32) (15 : Int32) (α 14 x2.toNatClampNeg) (fun (u151 : gS) => wp_Pl_placeStatement_J189 u151.1 u151.2 post)) ∧ ((α 13 x2.toNatClampNeg) = 4 → wp_Pl_placeOrder σ α (2 : Int32) (11 : Int32) (α 14 x2.toNatClampNeg) (fun (u162 : gS) => wp_Pl_placeFork u162.1 u162.2 x2 (fun (u167 : gS) => wp_Pl_placeStatement_J189 u167.1 u167.2 post))) ∧ ((α 13 x2.toNatClampNeg) = 5 → wp_Pl_placeOrder σ α (13 : Int32) (2 : Int32) (α 16 x2.toNatClampNeg) (fun (u179 : gS) => wp_Pl_placeStatement_J189 u179.1 u179.2 post)) ∧ ((α 13 x2.toNatClampNeg).toInt < 0 ∨ 5 < (α 13 x2.toNatClampNeg).toInt → wp_Pl_placeStop σ α (fun (u186 : gS) => wp_Pl_placeStatement_J189 u186.1 u186.2 post)))))
def wp_Pl_leadBranches_J41 (XL2 : (Nat → Int32) → (Nat → Nat → Int32) → Int32 → Prop) (σ : Nat → Int32) (α : Nat → Nat → Int32) (a2 : Int32) (post : gS → Prop) : Prop := XL2 σ α (a2 + Int32.ofInt 1)
def wp_Pl_leadBranches_B2 (XL2 : (Nat → Int32) → (Nat → Nat → Int32) → Int32 → Prop) (σ : Nat → Int32) (α : Nat → Nat → Int32) (a2 : Int32) (post : gS → Prop) : Prop := ((σ 28) ≤ a2 → post (σ, α)) ∧ (¬ (σ 28) ≤ a2 → vp_in a2 12 ∧ (((α 29 a2.toNatClampNeg) = (-1 : Int32) → wp_Pl_leadBranches_J41 XL2 σ α a2 post) ∧ (¬ (α 29 a2.toNatClampNeg) = (-1 : Int32) → vp_in a2 12 ∧ (vp_in a2 12 ∧ (vp_in (α 17 a2.toNatClampNeg) 12 ∧ (wp_Pl_lead σ α (α 29 a2.toNatClampNeg) (α 28 (α 17 a2.toNatClampNeg).toNatClampNeg) (fun (u38 : gS) => wp_Pl_leadBranches_J41 XL2 u38.1 u38.2 a2 post)))))))
def wp_Pl_leadBranches_L2 (σ : Nat → Int32) (α : Nat → Nat → Int32) (a2 : Int32) (post : gS → Prop) : Prop := ∀ XL2 : (Nat → Int32) → (Nat → Nat → Int32) → Int32 → Prop, (∀ (σ : Nat → Int32) (α : Nat → Nat → Int32) (a2 : Int32), wp_Pl_leadBranches_B2 XL2 σ α a2 post → XL2 σ α a2) → XL2 σ α a2
def wp_Pl_leadBranches (σ : Nat → Int32) (α : Nat → Nat → Int32) (post : gS → Prop) : Prop := wp_Pl_leadBranches_L2 σ α (0 : Int32) post
def wp_Pl_fillWithStops_J26 (XL2 : (Nat → Int32) → (Nat → Nat → Int32) → Int32 → Prop) (σ : Nat → Int32) (α : Nat → Nat → Int32) (a1 : Int32) (post : gS → Prop) : Prop := XL2 σ α (a1 + Int32.ofInt 1)
def wp_Pl_fillWithStops_B2 (XL2 : (Nat → Int32) → (Nat → Nat → Int32) → Int32 → Prop) (σ : Nat → Int32) (α : Nat → Nat → Int32) (a1 : Int32) (post : gS → Prop) : Prop := ((64 : Int32) ≤ a1 → post (σ, α)) ∧ (¬ (64 : Int32) ≤ a1 → vp_in a1 64 ∧ ((¬ (α 25 a1.toNatClampNeg) = (-1 : Int32) → wp_Pl_fillWithStops_J26 XL2 σ α a1 post) ∧ ((α 25 a1.toNatClampNeg) = (-1 : Int32) → vp_in a1 64 ∧ (wp_Pl_fillWithStops_J26 XL2 σ (va_up α 25 (upd (α 25) a1.toNatClampNeg (1015824 : Int32))) a1 post))))
def wp_Pl_fillWithStops_L2 (σ : Nat → Int32) (α : Nat → Nat → Int32) (a1 : Int32) (post : gS → Prop) : Prop := ∀ XL2 : (Nat → Int32) → (Nat → Nat → Int32) → Int32 → Prop, (∀ (σ : Nat → Int32) (α : Nat → Nat → Int32) (a1 : Int32), wp_Pl_fillWithStops_B2 XL2 σ α a1 post → XL2 σ α a1) → XL2 σ α a1
def wp_Pl_fillWithStops (σ : Nat → Int32) (α : Nat → Nat → Int32) (post : gS → Prop) : Prop := wp_Pl_fillWithStops_L2 σ α (0 : Int32) post
def wp_Pl_placeAll_J63 (σ : Nat → Int32) (α : Nat → Nat → Int32) (post : Int32 → gS → Prop) : Prop := narrow .boolean (.int (σ 36)) = .int (σ 36) ∧ (post (σ 36) (σ, α))
def wp_Pl_placeAll_J47 (σ : Nat → Int32) (α : Nat → Nat → Int32) (post : Int32 → gS → Prop) : Prop := ((σ 36) = 0 → wp_Pl_placeAll_J63 σ α post) ∧ (¬ (σ 36) = 0 → wp_Pl_leadBranches σ α (fun (u56 : gS) => wp_Pl_fillWithStops u56.1 u56.2 (fun (u60 : gS) => wp_Pl_placeAll_J63 u60.1 u60.2 post)))
def wp_Pl_placeAll_B6 (XL6 : (Nat → Int32) → (Nat → Nat → Int32) → Int32 → Prop) (σ : Nat → Int32) (α : Nat → Nat → Int32) (a2 : Int32) (post : Int32 → gS → Prop) : Prop := ((σ 28) ≤ a2 → wp_Pr_endsWithHalt σ α (fun (r37 : Int32) (u37 : gS) => (¬ r37 = 0 → wp_Pl_placeAll_J47 u37.1 u37.2 post) ∧ (r37 = 0 → wp_Pl_placeStop u37.1 u37.2 (fun (u44 : gS) => wp_Pl_placeAll_J47 u44.1 u44.2 post)))) ∧ (¬ (σ 28) ≤ a2 → wp_Pl_freeSpot σ α (fun (r20 : Int32) (u20 : gS) => vp_in a2 12 ∧ (wp_Pl_placeStatement u20.1 (va_up u20.2 28 (upd (u20.2 28) a2.toNatClampNeg r20)) a2 (fun (u27 : gS) => XL6 u27.1 u27.2 (a2 + Int32.ofInt 1)))))
def wp_Pl_placeAll_L6 (σ : Nat → Int32) (α : Nat → Nat → Int32) (a2 : Int32) (post : Int32 → gS → Prop) : Prop := ∀ XL6 : (Nat → Int32) → (Nat → Nat → Int32) → Int32 → Prop, (∀ (σ : Nat → Int32) (α : Nat → Nat → Int32) (a2 : Int32), wp_Pl_placeAll_B6 XL6 σ α a2 post → XL6 σ α a2) → XL6 σ α a2
def wp_Pl_placeAll (σ : Nat → Int32) (α : Nat → Nat → Int32) (post : Int32 → gS → Prop) : Prop := wp_Pl_forget σ α (fun (u1 : gS) => wp_Pl_placeAll_L6 u1.1 u1.2 (0 : Int32) post)
def wp_Dm_assemble_J30 (kp : Nat → Nat) (tp : Nat → Nat) (σ : Nat → Int32) (α : Nat → Nat → Int32) (post : Int32 → gSP → Prop) : Prop := post (-1 : Int32) (kp, tp, σ, α)
def wp_Dm_assemble (kp : Nat → Nat) (tp : Nat → Nat) (σ : Nat → Int32) (α : Nat → Nat → Int32) (post : Int32 → gSP → Prop) : Prop := (¬ (σ 7) = 0 → wp_Dm_assemble_J30 kp tp σ α post) ∧ ((σ 7) = 0 → ((σ 28) = 0 → wp_Dm_assemble_J30 kp tp σ α post) ∧ (¬ (σ 28) = 0 → wp_Pr_allGotosLead σ α (fun (r24 : Int32) (u24 : gS) => (¬ r24 = 0 → wp_Pl_placeAll u24.1 u24.2 (fun (r40 : Int32) (u40 : gS) => (¬ r40 = 0 → post (u40.1 35) (tp, kp, (va_up (va_up (va_up (va_up (va_up (va_up (va_up (va_up u40.1 29 (u40.1 33)) 30 (u40.1 34)) 31 (u40.1 35)) 32 (u40.1 36)) 33 (u40.1 29)) 34 (u40.1 30)) 35 (u40.1 31)) 36 (u40.1 32)), (va_up (va_up (va_up (va_up (va_up (va_up (va_up (va_up (va_up (va_up (va_up u40.2 2 (va_cpy (u40.2 25) (u40.2 2) (0 : Int32).toNatClampNeg (0 : Int32).toNatClampNeg (64 : Int32).toNatClampNeg)) 19 (u40.2 25)) 20 (u40.2 26)) 21 (u40.2 27)) 22 (u40.2 28)) 23 (u40.2 29)) 25 (u40.2 19)) 26 (u40.2 20)) 27 (u40.2 21)) 28 (u40.2 22)) 29 (u40.2 23)))) ∧ (r40 = 0 → post (-1 : Int32) (kp, tp, u40.1, u40.2)))) ∧ (r24 = 0 → wp_Dm_assemble_J30 kp tp u24.1 u24.2 post))))
def wp_Dm_placed_J23 (σ : Nat → Int32) (α : Nat → Nat → Int32) (t0 : Int32) (post : Int32 → gS → Prop) : Prop := post t0 (σ, α)
def wp_Dm_placed_J10 (σ : Nat → Int32) (α : Nat → Nat → Int32) (post : Int32 → gS → Prop) : Prop := wp_Dm_placed_J23 σ α (-1 : Int32) post
def wp_Dm_placed (σ : Nat → Int32) (α : Nat → Nat → Int32) (x1 : Int32) (post : Int32 → gS → Prop) : Prop := (x1 < 0 → wp_Dm_placed_J10 σ α post) ∧ (¬ x1 < 0 → (x1 < (12 : Int32) → vp_in x1 12 ∧ (wp_Dm_placed_J23 σ α (α 22 x1.toNatClampNeg) post)) ∧ (¬ x1 < (12 : Int32) → wp_Dm_placed_J10 σ α post))
def wp_Dm_variable_J20 (σ : Nat → Int32) (α : Nat → Nat → Int32) (t0 : Int32) (post : Int32 → gS → Prop) : Prop := post t0 (σ, α)
def wp_Dm_variable (σ : Nat → Int32) (α : Nat → Nat → Int32) (x1 : Int32) (post : Int32 → gS → Prop) : Prop := wp_Pr_isVariable σ α x1 (fun (r1 : Int32) (u1 : gS) => (r1 = 0 → wp_Dm_variable_J20 u1.1 u1.2 (-1 : Int32) post) ∧ (¬ r1 = 0 → vp_in x1 16 ∧ (wp_Dm_variable_J20 u1.1 u1.2 (u1.2 21 x1.toNatClampNeg) post)))
def wp_Md_isOrder_J24 (σ : Nat → Int32) (α : Nat → Nat → Int32) (t0 : Int32) (post : Int32 → gS → Prop) : Prop := narrow .boolean (.int t0) = .int t0 ∧ (post t0 (σ, α))
def wp_Md_isOrder_J23 (σ : Nat → Int32) (α : Nat → Nat → Int32) (post : Int32 → gS → Prop) : Prop := wp_Md_isOrder_J24 σ α (0 : Int32) post
def wp_Md_isOrder_J9 (σ : Nat → Int32) (α : Nat → Nat → Int32) (a1 : Int32) (post : Int32 → gS → Prop) : Prop := (a1 < 0 → wp_Md_isOrder_J23 σ α post) ∧ (¬ a1 < 0 → ((32 : Int32) ≤ a1 → wp_Md_isOrder_J23 σ α post) ∧ (¬ (32 : Int32) ≤ a1 → wp_Md_isOrder_J24 σ α (1 : Int32) post))
def wp_Md_isOrder (σ : Nat → Int32) (α : Nat → Nat → Int32) (x0 : Int32) (x1 : Int32) (post : Int32 → gS → Prop) : Prop := (x0 = 0 → wp_Md_isOrder_J9 σ α x1 post) ∧ (¬ x0 = 0 → (¬ x0 = (1 : Int32) → wp_Md_isOrder_J23 σ α post) ∧ (x0 = (1 : Int32) → wp_Md_isOrder_J9 σ α x1 post))
def wp_Md_order_J18 (σ : Nat → Int32) (α : Nat → Nat → Int32) (post : Int32 → gS → Prop) : Prop := post (0 : Int32) (σ, α)
def wp_Md_order (σ : Nat → Int32) (α : Nat → Nat → Int32) (x1 : Int32) (x2 : Int32) (x3 : Int32) (post : Int32 → gS → Prop) : Prop := wp_Md_isOrder σ α x1 x2 (fun (r2 : Int32) (u2 : gS) => (r2 = 0 → wp_Md_order_J18 u2.1 u2.2 post) ∧ (¬ r2 = 0 → (x3 < 0 → wp_Md_order_J18 u2.1 u2.2 post) ∧ (¬ x3 < 0 → (x3 ≤ (2097151 : Int32) → vp_in (((32 : Int32) * x1) + x2) 64 ∧ (post (1 : Int32) (u2.1, (va_up u2.2 1 (upd (u2.2 1) (((32 : Int32) * x1) + x2).toNatClampNeg x3))))) ∧ (¬ x3 ≤ (2097151 : Int32) → wp_Md_order_J18 u2.1 u2.2 post))))
def wp_Md_wordAt_J87 (σ : Nat → Int32) (α : Nat → Nat → Int32) (t0 : Int32) (post : Int32 → gS → Prop) : Prop := post t0 (σ, α)
def wp_Md_wordAt_J86 (σ : Nat → Int32) (α : Nat → Nat → Int32) (post : Int32 → gS → Prop) : Prop := wp_Md_wordAt_J87 σ α (-1 : Int32) post
def wp_Md_wordAt_J78 (σ : Nat → Int32) (α : Nat → Nat → Int32) (a1 : Int32) (post : Int32 → gS → Prop) : Prop := wp_Md_wordAt_J87 σ α ((130 : Int32) + a1) post
def wp_Md_wordAt_J62 (σ : Nat → Int32) (α : Nat → Nat → Int32) (t0 : Int32) (post : Int32 → gS → Prop) : Prop := post t0 (σ, α)
def wp_Md_wordAt_J46 (σ : Nat → Int32) (α : Nat → Nat → Int32) (a0 : Int32) (a1 : Int32) (post : Int32 → gS → Prop) : Prop := (¬ a1 = 0 → wp_Md_wordAt_J62 σ α (-1 : Int32) post) ∧ (a1 = 0 → wp_Md_wordAt_J62 σ α (((128 : Int32) + a0) - (6 : Int32)) post)
def wp_Md_wordAt_J34 (σ : Nat → Int32) (α : Nat → Nat → Int32) (a0 : Int32) (a1 : Int32) (post : Int32 → gS → Prop) : Prop := (a0 = (6 : Int32) → wp_Md_wordAt_J46 σ α a0 a1 post) ∧ (¬ a0 = (6 : Int32) → (¬ a0 = (7 : Int32) → (¬ a0 = (8 : Int32) → wp_Md_wordAt_J86 σ α post) ∧ (a0 = (8 : Int32) → (a1 = 0 → wp_Md_wordAt_J78 σ α a1 post) ∧ (¬ a1 = 0 → (¬ a1 = (1 : Int32) → wp_Md_wordAt_J86 σ α post) ∧ (a1 = (1 : Int32) → wp_Md_wordAt_J78 σ α a1 post)))) ∧ (a0 = (7 : Int32) → wp_Md_wordAt_J46 σ α a0 a1 post))
def wp_Md_wordAt_J33 (σ : Nat → Int32) (α : Nat → Nat → Int32) (t0 : Int32) (post : Int32 → gS → Prop) : Prop := post t0 (σ, α)
def wp_Md_wordAt_J32 (σ : Nat → Int32) (α : Nat → Nat → Int32) (post : Int32 → gS → Prop) : Prop := wp_Md_wordAt_J33 σ α (-1 : Int32) post
def wp_Md_wordAt (σ : Nat → Int32) (α : Nat → Nat → Int32) (x0 : Int32) (x1 : Int32) (post : Int32 → gS → Prop) : Prop := (x0 ≤ (1 : Int32) → wp_Md_wordAt_J34 σ α x0 x1 post) ∧ (¬ x0 ≤ (1 : Int32) → ((6 : Int32) ≤ x0 → wp_Md_wordAt_J34 σ α x0 x1 post) ∧ (¬ (6 : Int32) ≤ x0 → (x1 < 0 → wp_Md_wordAt_J32 σ α post) ∧ (¬ x1 < 0 → ((32 : Int32) ≤ x1 → wp_Md_wordAt_J32 σ α post) ∧ (¬ (32 : Int32) ≤ x1 → wp_Md_wordAt_J33 σ α (((32 : Int32) * (x0 - (2 : Int32))) + x1) post))))
def wp_Md_word_J30 (σ : Nat → Int32) (α : Nat → Nat → Int32) (t0 : Int32) (post : Int32 → gS → Prop) : Prop := narrow .boolean (.int t0) = .int t0 ∧ (post t0 (σ, α))
def wp_Md_word_J20 (σ : Nat → Int32) (α : Nat → Nat → Int32) (a4 : Int32) (post : Int32 → gS → Prop) : Prop := (a4 < 0 → wp_Md_word_J30 σ α (0 : Int32) post) ∧ (¬ a4 < 0 → wp_Md_word_J30 σ α (1 : Int32) post)
def wp_Md_word (σ : Nat → Int32) (α : Nat → Nat → Int32) (x1 : Int32) (x2 : Int32) (x3 : Int32) (post : Int32 → gS → Prop) : Prop := wp_Md_wordAt σ α x1 x2 (fun (r2 : Int32) (u2 : gS) => (r2 < 0 → wp_Md_word_J20 u2.1 u2.2 r2 post) ∧ (¬ r2 < 0 → vp_in r2 132 ∧ (wp_Md_word_J20 u2.1 (va_up u2.2 2 (upd (u2.2 2) r2.toNatClampNeg (vp_nar .short x3))) r2 post)))
def wp_Md_card (σ : Nat → Int32) (α : Nat → Nat → Int32) (x1 : Int32) (post : Int32 → gS → Prop) : Prop := (¬ (σ 18) = (48 : Int32) → vp_in (σ 17) 48 ∧ (post (1 : Int32) ((va_up (va_up σ 17 ((σ 17) + (1 : Int32))) 18 ((σ 18) + (1 : Int32))), (va_up α 3 (upd (α 3) (σ 17).toNatClampNeg (vp_nar .short x1)))))) ∧ ((σ 18) = (48 : Int32) → post (0 : Int32) (σ, α))
def wp_Md_start_B73 (XL73 : (Nat → Int32) → (Nat → Nat → Int32) → Int32 → Int32 → Prop) (σ : Nat → Int32) (α : Nat → Nat → Int32) (a1 : Int32) (a2 : Int32) (post : Int32 → gS → Prop) : Prop := (((σ 3) - (σ 3) / (32 : Int32) * (32 : Int32)) = a2 → post (1 : Int32) ((va_up σ 4 a1), α)) ∧ (¬ ((σ 3) - (σ 3) / (32 : Int32) * (32 : Int32)) = a2 → XL73 (va_up σ 3 ((σ 3) + (1 : Int32))) α a1 a2)
def wp_Md_start_L73 (σ : Nat → Int32) (α : Nat → Nat → Int32) (a1 : Int32) (a2 : Int32) (post : Int32 → gS → Prop) : Prop := ∀ XL73 : (Nat → Int32) → (Nat → Nat → Int32) → Int32 → Int32 → Prop, (∀ (σ : Nat → Int32) (α : Nat → Nat → Int32) (a1 : Int32) (a2 : Int32), wp_Md_start_B73 XL73 σ α a1 a2 post → XL73 σ α a1 a2) → XL73 σ α a1 a2
def wp_Md_start (σ : Nat → Int32) (α : Nat → Nat → Int32) (x1 : Int32) (x2 : Int32) (post : Int32 → gS → Prop) : Prop := wp_Md_isOrder σ α x1 x2 (fun (r2 : Int32) (u2 : gS) => (¬ r2 = 0 → wp_Md_start_L73 (va_up (va_up (va_up (va_up (va_up (va_up (va_up (va_up (va_up (va_up (va_up (va_up u2.1 1 (1 : Int32)) 2 (0 : Int32)) 3 (u2.1 0)) 5 (-1 : Int32)) 6 (-1 : Int32)) 7 (0 : Int32)) 9 (0 : Int32)) 10 (-1 : Int32)) 12 (0 : Int32)) 13 (-1 : Int32)) 15 (0 : Int32)) 19 (-1 : Int32)) u2.2 x1 x2 post) ∧ (r2 = 0 → post (0 : Int32) (u2.1, u2.2)))
def wp_Md_waitOf (σ : Nat → Int32) (α : Nat → Nat → Int32) (x0 : Int32) (post : Int32 → gS → Prop) : Prop := post ((x0 >>> ((10 : Int32) &&& 31)) &&& (31 : Int32)) (σ, α)
def wp_Md_gapOf_J24 (σ : Nat → Int32) (α : Nat → Nat → Int32) (t0 : Int32) (post : Int32 → gS → Prop) : Prop := post t0 (σ, α)
def wp_Md_gapOf (σ : Nat → Int32) (α : Nat → Nat → Int32) (x0 : Int32) (post : Int32 → gS → Prop) : Prop := wp_Md_waitOf σ α x0 (fun (r10 : Int32) (u10 : gS) => (r10 ≤ ((x0 >>> ((15 : Int32) &&& 31)) &&& (31 : Int32)) → wp_Md_gapOf_J24 u10.1 u10.2 ((x0 >>> ((15 : Int32) &&& 31)) &&& (31 : Int32)) post) ∧ (¬ r10 ≤ ((x0 >>> ((15 : Int32) &&& 31)) &&& (31 : Int32)) → wp_Md_gapOf_J24 u10.1 u10.2 (((x0 >>> ((15 : Int32) &&& 31)) &&& (31 : Int32)) + (32 : Int32)) post))
def wp_Md_read_0_J143 (σ : Nat → Int32) (α : Nat → Nat → Int32) (t0 : Int32) (post : gS → Prop) : Prop := wp_Md_gapOf (va_up σ 10 t0) α (σ 8) (fun (r157 : Int32) (u157 : gS) => post ((va_up (va_up (va_up u157.1 3 (((σ 0) + (2 : Int32)) + r157)) 4 ((u157.1 8) >>> ((20 : Int32) &&& 31))) 14 (0 : Int32)), u157.2))
def wp_Md_read_0 (σ : Nat → Int32) (α : Nat → Nat → Int32) (post : gS → Prop) : Prop := vp_in (((32 : Int32) * (σ 4)) + ((σ 0) - (σ 0) / (32 : Int32) * (32 : Int32))) 64 ∧ (wp_Md_waitOf (va_up (va_up (va_up (va_up (va_up (va_up (va_up σ 5 (σ 4)) 6 ((σ 0) - (σ 0) / (32 : Int32) * (32 : Int32))) 7 ((σ 7) + (1 : Int32))) 8 (α 1 (((32 : Int32) * (σ 4)) + ((σ 0) - (σ 0) / (32 : Int32) * (32 : Int32))).toNatClampNeg)) 11 (σ 8)) 12 (σ 9)) 13 (σ 10)) α (α 1 (((32 : Int32) * (σ 4)) + ((σ 0) - (σ 0) / (32 : Int32) * (32 : Int32))).toNatClampNeg) (fun (r95 : Int32) (u95 : gS) => (¬ (((α 1 (((32 : Int32) * (σ 4)) + ((σ 0) - (σ 0) / (32 : Int32) * (32 : Int32))).toNatClampNeg) >>> ((8 : Int32) &&& 31)) &&& (3 : Int32)) = (1 : Int32) → (¬ (((α 1 (((32 : Int32) * (σ 4)) + ((σ 0) - (σ 0) / (32 : Int32) * (32 : Int32))).toNatClampNeg) >>> ((8 : Int32) &&& 31)) &&& (3 : Int32)) = (2 : Int32) → wp_Md_read_0_J143 (va_up u95.1 9 (((σ 0) + (2 : Int32)) + r95)) u95.2 (((σ 0) + (2 : Int32)) + r95) post) ∧ ((((α 1 (((32 : Int32) * (σ 4)) + ((σ 0) - (σ 0) / (32 : Int32) * (32 : Int32))).toNatClampNeg) >>> ((8 : Int32) &&& 31)) &&& (3 : Int32)) = (2 : Int32) → wp_Md_gapOf (va_up u95.1 9 (((σ 0) + (2 : Int32)) + r95)) u95.2 (u95.1 8) (fun (r132 : Int32) (u132 : gS) => wp_Md_read_0_J143 u132.1 u132.2 (((u95.1 0) + (2 : Int32)) + r132) post))) ∧ ((((α 1 (((32 : Int32) * (σ 4)) + ((σ 0) - (σ 0) / (32 : Int32) * (32 : Int32))).toNatClampNeg) >>> ((8 : Int32) &&& 31)) &&& (3 : Int32)) = (1 : Int32) → wp_Md_read_0_J143 (va_up u95.1 9 (((σ 0) + (2 : Int32)) + r95)) u95.2 ((((σ 0) + (2 : Int32)) + r95) + (1 : Int32)) post)))
def wp_Md_row_J49 (σ : Nat → Int32) (α : Nat → Nat → Int32) (t0 : Int32) (post : Int32 → gS → Prop) : Prop := post t0 (σ, α)
def wp_Md_row_J41 (σ : Nat → Int32) (α : Nat → Nat → Int32) (post : Int32 → gS → Prop) : Prop := wp_Md_row_J49 σ α (-1 : Int32) post
def wp_Md_row (σ : Nat → Int32) (α : Nat → Nat → Int32) (post : Int32 → gS → Prop) : Prop := ((σ 19) < 0 → wp_Md_row_J41 σ α post) ∧ (¬ (σ 19) < 0 → ((((σ 0) - (σ 19)) - (40 : Int32)) < 0 → wp_Md_row_J41 σ α post) ∧ (¬ (((σ 0) - (σ 19)) - (40 : Int32)) < 0 → ((2 : Int32) < ((((σ 0) - (σ 19)) - (40 : Int32)) - (((σ 0) - (σ 19)) - (40 : Int32)) / (8 : Int32) * (8 : Int32)) → wp_Md_row_J41 σ α post) ∧ (¬ (2 : Int32) < ((((σ 0) - (σ 19)) - (40 : Int32)) - (((σ 0) - (σ 19)) - (40 : Int32)) / (8 : Int32) * (8 : Int32)) → (((((σ 0) - (σ 19)) - (40 : Int32)) / (8 : Int32)) ≤ (11 : Int32) → wp_Md_row_J49 σ α ((((σ 0) - (σ 19)) - (40 : Int32)) / (8 : Int32)) post) ∧ (¬ ((((σ 0) - (σ 19)) - (40 : Int32)) / (8 : Int32)) ≤ (11 : Int32) → wp_Md_row_J41 σ α post))))
def wp_Md_get_J187 (σ : Nat → Int32) (α : Nat → Nat → Int32) (t0 : Int32) (post : Int32 → gS → Prop) : Prop := narrow .short (.int t0) = .int t0 ∧ (post t0 (σ, α))
def wp_Md_get_J96 (σ : Nat → Int32) (α : Nat → Nat → Int32) (a1 : Int32) (post : Int32 → gS → Prop) : Prop := vp_in (((32 : Int32) * (a1 - (2 : Int32))) + ((σ 0) - (σ 0) / (32 : Int32) * (32 : Int32))) 132 ∧ (narrow .short (.int (α 2 (((32 : Int32) * (a1 - (2 : Int32))) + ((σ 0) - (σ 0) / (32 : Int32) * (32 : Int32))).toNatClampNeg)) = .int (α 2 (((32 : Int32) * (a1 - (2 : Int32))) + ((σ 0) - (σ 0) / (32 : Int32) * (32 : Int32))).toNatClampNeg) ∧ (post (α 2 (((32 : Int32) * (a1 - (2 : Int32))) + ((σ 0) - (σ 0) / (32 : Int32) * (32 : Int32))).toNatClampNeg) (σ, α)))
def wp_Md_get (σ : Nat → Int32) (α : Nat → Nat → Int32) (x1 : Int32) (post : Int32 → gS → Prop) : Prop := (x1 = 0 → post (0 : Int32) (σ, α)) ∧ (x1 = 1 → post (1 : Int32) (σ, α)) ∧ (x1 = 2 → wp_Md_get_J96 σ α x1 post) ∧ (x1 = 3 → wp_Md_get_J96 σ α x1 post) ∧ (x1 = 4 → wp_Md_get_J96 σ α x1 post) ∧ (x1 = 5 → wp_Md_get_J96 σ α x1 post) ∧ (x1 = 6 → narrow .short (.int (α 2 (128 : Int32).toNatClampNeg)) = .int (α 2 (128 : Int32).toNatClampNeg) ∧ (post (α 2 (128 : Int32).toNatClampNeg) (σ, α))) ∧ (x1 = 7 → narrow .short (.int (α 2 (129 : Int32).toNatClampNeg)) = .int (α 2 (129 : Int32).toNatClampNeg) ∧ (post (α 2 (129 : Int32).toNatClampNeg) (σ, α))) ∧ (x1 = 8 → vp_in ((130 : Int32) + ((σ 0) - (σ 0) / (2 : Int32) * (2 : Int32))) 132 ∧ (narrow .short (.int (α 2 ((130 : Int32) + ((σ 0) - (σ 0) / (2 : Int32) * (2 : Int32))).toNatClampNeg)) = .int (α 2 ((130 : Int32) + ((σ 0) - (σ 0) / (2 : Int32) * (2 : Int32))).toNatClampNeg) ∧ (post (α 2 ((130 : Int32) + ((σ 0) - (σ 0) / (2 : Int32) * (2 : Int32))).toNatClampNeg) (σ, α)))) ∧ (x1 = 9 → narrow .short (.int (((α 2 (128 : Int32).toNatClampNeg) &&& (α 2 (129 : Int32).toNatClampNeg)).toInt16.toInt32)) = .int (((α 2 (128 : Int32).toNatClampNeg) &&& (α 2 (129 : Int32).toNatClampNeg)).toInt16.toInt32) ∧ (post (((α 2 (128 : Int32).toNatClampNeg) &&& (α 2 (129 : Int32).toNatClampNeg)).toInt16.toInt32) (σ, α))) ∧ (x1 = 10 → narrow .short (.int (((α 2 (128 : Int32).toNatClampNeg) ^^^ (α 2 (129 : Int32).toNatClampNeg)).toInt16.toInt32)) = .int (((α 2 (128 : Int32).toNatClampNeg) ^^^ (α 2 (129 : Int32).toNatClampNeg)).toInt16.toInt32) ∧ (post (((α 2 (128 : Int32).toNatClampNeg) ^^^ (α 2 (129 : Int32).toNatClampNeg)).toInt16.toInt32) (σ, α))) ∧ (x1 = 11 → post (-1 : Int32) (σ, α)) ∧ (x1 = 12 → narrow .short (.int (((α 2 (128 : Int32).toNatClampNeg) >>> ((1 : Int32) &&& 31)).toInt16.toInt32)) = .int (((α 2 (128 : Int32).toNatClampNeg) >>> ((1 : Int32) &&& 31)).toInt16.toInt32) ∧ (post (((α 2 (128 : Int32).toNatClampNeg) >>> ((1 : Int32) &&& 31)).toInt16.toInt32) (σ, α))) ∧ (x1 = 13 → wp_Md_row σ α (fun (r168 : Int32) (u168 : gS) => (0 ≤ r168 → wp_Md_row u168.1 u168.2 (fun (r183 : Int32) (u183 : gS) => vp_in r183 12 ∧ (wp_Md_get_J187 u183.1 u183.2 (u183.2 4 r183.toNatClampNeg) post))) ∧ (¬ 0 ≤ r168 → wp_Md_get_J187 u168.1 u168.2 (0 : Int32) post))) ∧ (x1 = 14 → narrow .short (.int (((α 2 (128 : Int32).toNatClampNeg) ^^^ (-1 : Int32)).toInt16.toInt32)) = .int (((α 2 (128 : Int32).toNatClampNeg) ^^^ (-1 : Int32)).toInt16.toInt32) ∧ (post (((α 2 (128 : Int32).toNatClampNeg) ^^^ (-1 : Int32)).toInt16.toInt32) (σ, α))) ∧ (x1.toInt < 0 ∨ 14 < x1.toInt → narrow .short (.int ((σ 0).toInt16.toInt32)) = .int ((σ 0).toInt16.toInt32) ∧ (post ((σ 0).toInt16.toInt32) (σ, α)))
def wp_Md_fail_J16 (σ : Nat → Int32) (α : Nat → Nat → Int32) (t0 : Int32) (post : gS → Prop) : Prop := post ((va_up (va_up σ 1 (0 : Int32)) 2 t0), α)
def wp_Md_fail (σ : Nat → Int32) (α : Nat → Nat → Int32) (x1 : Int32) (post : gS → Prop) : Prop := (¬ (σ 2) = 0 → wp_Md_fail_J16 σ α (σ 2) post) ∧ ((σ 2) = 0 → wp_Md_fail_J16 σ α x1 post)
def wp_Md_feed_B76 (XL76 : (Nat → Int32) → (Nat → Nat → Int32) → Int32 → Prop) (σ : Nat → Int32) (α : Nat → Nat → Int32) (a1 : Int32) (post : gS → Prop) : Prop := ((σ 17) ≤ a1 → post ((va_up (va_up σ 19 (σ 0)) 20 (0 : Int32)), α)) ∧ (¬ (σ 17) ≤ a1 → vp_in (a1 + (12 : Int32)) 48 ∧ (vp_in a1 48 ∧ (XL76 σ (va_up α 3 (upd (α 3) a1.toNatClampNeg (vp_nar .short (α 3 (a1 + (12 : Int32)).toNatClampNeg)))) (a1 + Int32.ofInt 1))))
def wp_Md_feed_L76 (σ : Nat → Int32) (α : Nat → Nat → Int32) (a1 : Int32) (post : gS → Prop) : Prop := ∀ XL76 : (Nat → Int32) → (Nat → Nat → Int32) → Int32 → Prop, (∀ (σ : Nat → Int32) (α : Nat → Nat → Int32) (a1 : Int32), wp_Md_feed_B76 XL76 σ α a1 post → XL76 σ α a1) → XL76 σ α a1
def wp_Md_feed_B39 (XL39 : (Nat → Int32) → (Nat → Nat → Int32) → Int32 → Prop) (σ : Nat → Int32) (α : Nat → Nat → Int32) (a1 : Int32) (post : gS → Prop) : Prop := ((12 : Int32) ≤ a1 → wp_Md_feed_L76 (va_up σ 17 ((σ 17) - (12 : Int32))) α (0 : Int32) post) ∧ (¬ (12 : Int32) ≤ a1 → vp_in a1 48 ∧ (vp_in a1 12 ∧ (XL39 σ (va_up α 4 (upd (α 4) a1.toNatClampNeg (vp_nar .short (α 3 a1.toNatClampNeg)))) (a1 + Int32.ofInt 1))))
def wp_Md_feed_L39 (σ : Nat → Int32) (α : Nat → Nat → Int32) (a1 : Int32) (post : gS → Prop) : Prop := ∀ XL39 : (Nat → Int32) → (Nat → Nat → Int32) → Int32 → Prop, (∀ (σ : Nat → Int32) (α : Nat → Nat → Int32) (a1 : Int32), wp_Md_feed_B39 XL39 σ α a1 post → XL39 σ α a1) → XL39 σ α a1
def wp_Md_feed_J37 (σ : Nat → Int32) (α : Nat → Nat → Int32) (post : gS → Prop) : Prop := wp_Md_feed_L39 σ α (0 : Int32) post
def wp_Md_feed_J31 (σ : Nat → Int32) (α : Nat → Nat → Int32) (post : gS → Prop) : Prop := wp_Md_fail σ α (2 : Int32) (fun (u33 : gS) => post (u33.1, u33.2))
def wp_Md_feed (σ : Nat → Int32) (α : Nat → Nat → Int32) (post : gS → Prop) : Prop := ((σ 17) < (12 : Int32) → wp_Md_feed_J31 σ α post) ∧ (¬ (σ 17) < (12 : Int32) → ((σ 19) < 0 → wp_Md_feed_J37 σ α post) ∧ (¬ (σ 19) < 0 → (((σ 19) + (130 : Int32)) < (σ 0) → wp_Md_feed_J37 σ α post) ∧ (¬ ((σ 19) + (130 : Int32)) < (σ 0) → wp_Md_feed_J31 σ α post)))
def wp_Md_press_J23 (σ : Nat → Int32) (α : Nat → Nat → Int32) (post : gS → Prop) : Prop := wp_Md_fail σ α (3 : Int32) (fun (u25 : gS) => post (u25.1, u25.2))
def wp_Md_press (σ : Nat → Int32) (α : Nat → Nat → Int32) (x1 : Int32) (post : gS → Prop) : Prop := ((σ 21) = (60 : Int32) → wp_Md_press_J23 σ α post) ∧ (¬ (σ 21) = (60 : Int32) → ((6 : Int32) ≤ ((σ 0) - (σ 22)) → vp_in (σ 21) 60 ∧ (post ((va_up (va_up σ 21 ((σ 21) + (1 : Int32))) 22 (σ 0)), (va_up α 5 (upd (α 5) (σ 21).toNatClampNeg (vp_nar .short x1)))))) ∧ (¬ (6 : Int32) ≤ ((σ 0) - (σ 22)) → wp_Md_press_J23 σ α post))
def wp_Md_discriminate_J22 (σ : Nat → Int32) (α : Nat → Nat → Int32) (post : gS → Prop) : Prop := post (σ, α)
def wp_Md_discriminate (σ : Nat → Int32) (α : Nat → Nat → Int32) (x1 : Int32) (post : gS → Prop) : Prop := (x1 = 0 → wp_Md_discriminate_J22 σ α post) ∧ (¬ x1 = 0 → (¬ (σ 14) = 0 → wp_Md_discriminate_J22 σ α post) ∧ ((σ 14) = 0 → ((σ 0) < (σ 3) → post ((va_up (va_up σ 3 ((σ 3) + (1 : Int32))) 14 (1 : Int32)), α)) ∧ (¬ (σ 0) < (σ 3) → wp_Md_discriminate_J22 σ α post)))
def wp_Md_put_J265 (σ : Nat → Int32) (α : Nat → Nat → Int32) (post : gS → Prop) : Prop := post (σ, α)
def wp_Md_put_J215 (σ : Nat → Int32) (α : Nat → Nat → Int32) (t0 : Int32) (post : gS → Prop) : Prop := wp_Md_discriminate σ α t0 (fun (u215 : gS) => wp_Md_put_J265 u215.1 u215.2 post)
def wp_Md_put_J187 (σ : Nat → Int32) (α : Nat → Nat → Int32) (a1 : Int32) (a2 : Int32) (post : gS → Prop) : Prop := (¬ a1 = (11 : Int32) → (a2 = 0 → wp_Md_put_J215 σ α (0 : Int32) post) ∧ (¬ a2 = 0 → wp_Md_put_J215 σ α (1 : Int32) post)) ∧ (a1 = (11 : Int32) → (0 ≤ a2 → wp_Md_put_J215 σ α (0 : Int32) post) ∧ (¬ 0 ≤ a2 → wp_Md_put_J215 σ α (1 : Int32) post))
def wp_Md_put_J182 (σ : Nat → Int32) (α : Nat → Nat → Int32) (t0 : Int32) (t1 : Int32) (post : gS → Prop) : Prop := vp_in t1 132 ∧ (wp_Md_put_J265 σ (va_up α 2 (upd (α 2) t1.toNatClampNeg (vp_nar .short t0.toInt16.toInt32))) post)
def wp_Md_put_J146 (σ : Nat → Int32) (α : Nat → Nat → Int32) (a1 : Int32) (a2 : Int32) (post : gS → Prop) : Prop := (¬ a1 = (9 : Int32) → wp_Md_put_J182 σ α ((α 2 (128 : Int32).toNatClampNeg) - a2) (128 : Int32) post) ∧ (a1 = (9 : Int32) → wp_Md_put_J182 σ α ((α 2 (128 : Int32).toNatClampNeg) + a2) (128 : Int32) post)
def wp_Md_put_J110 (σ : Nat → Int32) (α : Nat → Nat → Int32) (a1 : Int32) (a2 : Int32) (post : gS → Prop) : Prop := vp_in (((128 : Int32) + a1) - (6 : Int32)) 132 ∧ (wp_Md_put_J265 σ (va_up α 2 (upd (α 2) (((128 : Int32) + a1) - (6 : Int32)).toNatClampNeg (vp_nar .short a2))) post)
def wp_Md_put_J87 (σ : Nat → Int32) (α : Nat → Nat → Int32) (a1 : Int32) (a2 : Int32) (post : gS → Prop) : Prop := vp_in (((32 : Int32) * (a1 - (2 : Int32))) + ((σ 0) - (σ 0) / (32 : Int32) * (32 : Int32))) 132 ∧ (wp_Md_put_J265 σ (va_up α 2 (upd (α 2) (((32 : Int32) * (a1 - (2 : Int32))) + ((σ 0) - (σ 0) / (32 : Int32) * (32 : Int32))).toNatClampNeg (vp_nar .short a2))) post)
def wp_Md_put (σ : Nat → Int32) (α : Nat → Nat → Int32) (x1 : Int32) (x2 : Int32) (post : gS → Prop) : Prop := (x1 = 0 → wp_Md_put_J265 σ α post) ∧ (x1 = 1 → wp_Md_put_J265 (va_up σ 1 (0 : Int32)) α post) ∧ (x1 = 2 → wp_Md_put_J87 σ α x1 x2 post) ∧ (x1 = 3 → wp_Md_put_J87 σ α x1 x2 post) ∧ (x1 = 4 → wp_Md_put_J87 σ α x1 x2 post) ∧ (x1 = 5 → wp_Md_put_J87 σ α x1 x2 post) ∧ (x1 = 6 → wp_Md_put_J110 σ α x1 x2 post) ∧ (x1 = 7 → wp_Md_put_J110 σ α x1 x2 post) ∧ (x1 = 8 → vp_in ((130 : Int32) + ((σ 0) - (σ 0) / (2 : Int32) * (2 : Int32))) 132 ∧ (wp_Md_put_J265 σ (va_up α 2 (upd (α 2) ((130 : Int32) + ((σ 0) - (σ 0) / (2 : Int32) * (2 : Int32))).toNatClampNeg (vp_nar .short x2))) post)) ∧ (x1 = 9 → wp_Md_put_J146 σ α x1 x2 post) ∧ (x1 = 10 → wp_Md_put_J146 σ α x1 x2 post) ∧ (x1 = 11 → wp_Md_put_J187 σ α x1 x2 post) ∧ (x1 = 12 → wp_Md_put_J187 σ α x1 x2 post) ∧ (x1 = 13 → wp_Md_put_J265 (va_up (va_up σ 15 (17 : Int32)) 16 x2) (va_up α 2 (upd (upd (α 2) (130 : Int32).toNatClampNeg (vp_nar .short (0 : Int32))) (131 : Int32).toNatClampNeg (vp_nar .short (0 : Int32)))) post) ∧ (x1 = 14 → wp_Md_feed σ α (fun (u254 : gS) => wp_Md_put_J265 u254.1 u254.2 post)) ∧ (x1.toInt < 0 ∨ 14 < x1.toInt → wp_Md_press σ α x2 (fun (u262 : gS) => wp_Md_put_J265 u262.1 u262.2 post))
def wp_Md_current_J59 (σ : Nat → Int32) (α : Nat → Nat → Int32) (t0 : Int32) (post : Int32 → gS → Prop) : Prop := post t0 (σ, α)
def wp_Md_current_J58 (σ : Nat → Int32) (α : Nat → Nat → Int32) (post : Int32 → gS → Prop) : Prop := wp_Md_current_J59 σ α (-1 : Int32) post
def wp_Md_current_J29 (σ : Nat → Int32) (α : Nat → Nat → Int32) (post : Int32 → gS → Prop) : Prop := ((σ 0) < (σ 12) → wp_Md_current_J58 σ α post) ∧ (¬ (σ 0) < (σ 12) → ((σ 13) < (σ 0) → wp_Md_current_J58 σ α post) ∧ (¬ (σ 13) < (σ 0) → wp_Md_current_J59 σ α (σ 11) post))
def wp_Md_current (σ : Nat → Int32) (α : Nat → Nat → Int32) (post : Int32 → gS → Prop) : Prop := ((σ 0) < (σ 9) → wp_Md_current_J29 σ α post) ∧ (¬ (σ 0) < (σ 9) → ((σ 10) < (σ 0) → wp_Md_current_J29 σ α post) ∧ (¬ (σ 10) < (σ 0) → wp_Md_current_J59 σ α (σ 8) post))
def wp_Md_multiply_J74 (σ : Nat → Int32) (α : Nat → Nat → Int32) (t0 : Int32) (t1 : Int32) (post : gS → Prop) : Prop := post ((va_up σ 16 (((σ 16) <<< ((1 : Int32) &&& 31)).toInt16.toInt32)), (va_up α 2 (upd (upd (α 2) (130 : Int32).toNatClampNeg (vp_nar .short ((t1 + t0).toInt16.toInt32))) (131 : Int32).toNatClampNeg (vp_nar .short (((t1 + t0) >>> ((16 : Int32) &&& 31)).toInt16.toInt32)))))
def wp_Md_multiply (σ : Nat → Int32) (α : Nat → Nat → Int32) (post : gS → Prop) : Prop := (¬ (σ 15) = 0 → (¬ ((σ 15) - (1 : Int32)) = (16 : Int32) → (0 ≤ (σ 16) → wp_Md_multiply_J74 (va_up σ 15 ((σ 15) - (1 : Int32))) α (0 : Int32) ((2 : Int32) * (((α 2 (131 : Int32).toNatClampNeg) <<< ((16 : Int32) &&& 31)) ||| ((α 2 (130 : Int32).toNatClampNeg) &&& (65535 : Int32)))) post) ∧ (¬ 0 ≤ (σ 16) → wp_Md_multiply_J74 (va_up σ 15 ((σ 15) - (1 : Int32))) α (α 2 (129 : Int32).toNatClampNeg) ((2 : Int32) * (((α 2 (131 : Int32).toNatClampNeg) <<< ((16 : Int32) &&& 31)) ||| ((α 2 (130 : Int32).toNatClampNeg) &&& (65535 : Int32)))) post)) ∧ (((σ 15) - (1 : Int32)) = (16 : Int32) → post ((va_up σ 15 ((σ 15) - (1 : Int32))), α))) ∧ ((σ 15) = 0 → post (σ, α))
def wp_Md_cycle_J209 (σ : Nat → Int32) (α : Nat → Nat → Int32) (post : gS → Prop) : Prop := post ((va_up σ 0 ((σ 0) + (1 : Int32))), α)
def wp_Md_cycle_J181 (σ : Nat → Int32) (α : Nat → Nat → Int32) (a1 : Int32) (a2 : Int32) (post : gS → Prop) : Prop := wp_Md_multiply σ α (fun (u182 : gS) => (a1 < 0 → wp_Md_cycle_J209 u182.1 u182.2 post) ∧ (¬ a1 < 0 → (¬ (a2 - a2 / (8 : Int32) * (8 : Int32)) = (2 : Int32) → wp_Md_cycle_J209 u182.1 u182.2 post) ∧ ((a2 - a2 / (8 : Int32) * (8 : Int32)) = (2 : Int32) → (¬ (u182.1 20) = 0 → wp_Md_cycle_J209 u182.1 u182.2 post) ∧ ((u182.1 20) = 0 → wp_Md_fail u182.1 u182.2 (1 : Int32) (fun (u206 : gS) => wp_Md_cycle_J209 u206.1 u206.2 post)))))
def wp_Md_cycle_J168 (σ : Nat → Int32) (α : Nat → Nat → Int32) (a1 : Int32) (a2 : Int32) (a4 : Int32) (a5 : Int32) (post : gS → Prop) : Prop := wp_Md_put σ α ((a4 >>> ((4 : Int32) &&& 31)) &&& (15 : Int32)) a5 (fun (u178 : gS) => wp_Md_cycle_J181 u178.1 u178.2 a1 a2 post)
def wp_Md_cycle_J137 (σ : Nat → Int32) (α : Nat → Nat → Int32) (a1 : Int32) (a2 : Int32) (a3 : Int32) (a4 : Int32) (a5 : Int32) (t0 : Int32) (post : gS → Prop) : Prop := (narrow .boolean (.int t0) = .int t0 ∧ fits .boolean (.int t0) = true) ∧ ((¬ a3 = 0 → wp_Md_cycle_J168 (va_up σ 20 t0) α a1 a2 a4 a5 post) ∧ (a3 = 0 → (((a4 >>> ((4 : Int32) &&& 31)) &&& (15 : Int32)) = (11 : Int32) → wp_Md_cycle_J181 (va_up σ 20 t0) α a1 a2 post) ∧ (¬ ((a4 >>> ((4 : Int32) &&& 31)) &&& (15 : Int32)) = (11 : Int32) → (((a4 >>> ((4 : Int32) &&& 31)) &&& (15 : Int32)) = (12 : Int32) → wp_Md_cycle_J181 (va_up σ 20 t0) α a1 a2 post) ∧ (¬ ((a4 >>> ((4 : Int32) &&& 31)) &&& (15 : Int32)) = (12 : Int32) → wp_Md_cycle_J168 (va_up σ 20 t0) α a1 a2 a4 a5 post))))
def wp_Md_cycle_J136 (σ : Nat → Int32) (α : Nat → Nat → Int32) (a1 : Int32) (a2 : Int32) (a3 : Int32) (a4 : Int32) (a5 : Int32) (post : gS → Prop) : Prop := wp_Md_cycle_J137 σ α a1 a2 a3 a4 a5 (0 : Int32) post
def wp_Md_cycle_J132 (σ : Nat → Int32) (α : Nat → Nat → Int32) (a1 : Int32) (a2 : Int32) (a3 : Int32) (a4 : Int32) (a5 : Int32) (post : gS → Prop) : Prop := wp_Md_cycle_J137 σ α a1 a2 a3 a4 a5 (1 : Int32) post
def wp_Md_cycle_J87 (σ : Nat → Int32) (α : Nat → Nat → Int32) (a1 : Int32) (a2 : Int32) (t0 : Int32) (post : gS → Prop) : Prop := wp_Md_current σ α (fun (r89 : Int32) (u89 : gS) => (r89 < 0 → wp_Md_cycle_J181 u89.1 u89.2 a1 a2 post) ∧ (¬ r89 < 0 → wp_Md_get u89.1 u89.2 (r89 &&& (15 : Int32)) (fun (r105 : Int32) (u105 : gS) => (¬ (u105.1 20) = 0 → wp_Md_cycle_J132 u105.1 u105.2 a1 a2 t0 r89 r105 post) ∧ ((u105.1 20) = 0 → (a1 < 0 → wp_Md_cycle_J136 u105.1 u105.2 a1 a2 t0 r89 r105 post) ∧ (¬ a1 < 0 → (¬ (r89 &&& (15 : Int32)) = (13 : Int32) → wp_Md_cycle_J136 u105.1 u105.2 a1 a2 t0 r89 r105 post) ∧ ((r89 &&& (15 : Int32)) = (13 : Int32) → wp_Md_cycle_J132 u105.1 u105.2 a1 a2 t0 r89 r105 post))))))
def wp_Md_cycle_J86 (σ : Nat → Int32) (α : Nat → Nat → Int32) (a1 : Int32) (a2 : Int32) (post : gS → Prop) : Prop := wp_Md_cycle_J87 σ α a1 a2 (0 : Int32) post
def wp_Md_cycle_J57 (σ : Nat → Int32) (α : Nat → Nat → Int32) (a1 : Int32) (a2 : Int32) (t0 : Int32) (post : gS → Prop) : Prop := (narrow .boolean (.int t0) = .int t0 ∧ fits .boolean (.int t0) = true) ∧ (((σ 0) < (σ 9) → wp_Md_cycle_J86 (va_up σ 20 t0) α a1 a2 post) ∧ (¬ (σ 0) < (σ 9) → ((σ 10) < (σ 0) → wp_Md_cycle_J86 (va_up σ 20 t0) α a1 a2 post) ∧ (¬ (σ 10) < (σ 0) → wp_Md_cycle_J87 (va_up σ 20 t0) α a1 a2 (1 : Int32) post)))
def wp_Md_cycle_J56 (σ : Nat → Int32) (α : Nat → Nat → Int32) (a1 : Int32) (a2 : Int32) (post : gS → Prop) : Prop := wp_Md_cycle_J57 σ α a1 a2 (0 : Int32) post
def wp_Md_cycle_J52 (σ : Nat → Int32) (α : Nat → Nat → Int32) (a1 : Int32) (a2 : Int32) (post : gS → Prop) : Prop := wp_Md_cycle_J57 σ α a1 a2 (1 : Int32) post
def wp_Md_cycle_J15 (σ : Nat → Int32) (α : Nat → Nat → Int32) (post : gS → Prop) : Prop := wp_Md_row σ α (fun (r16 : Int32) (u16 : gS) => ((u16.1 20) = 0 → wp_Md_cycle_J56 u16.1 u16.2 r16 (((u16.1 0) - (u16.1 19)) - (40 : Int32)) post) ∧ (¬ (u16.1 20) = 0 → (r16 < 0 → wp_Md_cycle_J52 u16.1 u16.2 r16 (((u16.1 0) - (u16.1 19)) - (40 : Int32)) post) ∧ (¬ r16 < 0 → (((((u16.1 0) - (u16.1 19)) - (40 : Int32)) - (((u16.1 0) - (u16.1 19)) - (40 : Int32)) / (8 : Int32) * (8 : Int32)) = 0 → wp_Md_cycle_J56 u16.1 u16.2 r16 (((u16.1 0) - (u16.1 19)) - (40 : Int32)) post) ∧ (¬ ((((u16.1 0) - (u16.1 19)) - (40 : Int32)) - (((u16.1 0) - (u16.1 19)) - (40 : Int32)) / (8 : Int32) * (8 : Int32)) = 0 → wp_Md_cycle_J52 u16.1 u16.2 r16 (((u16.1 0) - (u16.1 19)) - (40 : Int32)) post))))
def wp_Md_cycle (σ : Nat → Int32) (α : Nat → Nat → Int32) (post : gS → Prop) : Prop := (¬ (σ 0) = (σ 3) → wp_Md_cycle_J15 σ α post) ∧ ((σ 0) = (σ 3) → wp_Md_read_0 σ α (fun (u12 : gS) => wp_Md_cycle_J15 u12.1 u12.2 post))
def wp_Md_run_J37 (σ : Nat → Int32) (α : Nat → Nat → Int32) (a2 : Int32) (post : Int32 → gS → Prop) : Prop := post a2 (σ, α)
def wp_Md_run_B15 (XL15 : (Nat → Int32) → (Nat → Nat → Int32) → Int32 → Int32 → Prop) (σ : Nat → Int32) (α : Nat → Nat → Int32) (a1 : Int32) (a2 : Int32) (post : Int32 → gS → Prop) : Prop := (a1 ≤ a2 → wp_Md_run_J37 σ α a2 post) ∧ (¬ a1 ≤ a2 → ((σ 1) = 0 → wp_Md_run_J37 σ α a2 post) ∧ (¬ (σ 1) = 0 → wp_Md_cycle σ α (fun (u28 : gS) => XL15 u28.1 u28.2 a1 (a2 + Int32.ofInt 1))))
def wp_Md_run_L15 (σ : Nat → Int32) (α : Nat → Nat → Int32) (a1 : Int32) (a2 : Int32) (post : Int32 → gS → Prop) : Prop := ∀ XL15 : (Nat → Int32) → (Nat → Nat → Int32) → Int32 → Int32 → Prop, (∀ (σ : Nat → Int32) (α : Nat → Nat → Int32) (a1 : Int32) (a2 : Int32), wp_Md_run_B15 XL15 σ α a1 a2 post → XL15 σ α a1 a2) → XL15 σ α a1 a2
def wp_Md_run_J11 (σ : Nat → Int32) (α : Nat → Nat → Int32) (post : Int32 → gS → Prop) : Prop := post (-1 : Int32) (σ, α)
def wp_Md_run (σ : Nat → Int32) (α : Nat → Nat → Int32) (x1 : Int32) (post : Int32 → gS → Prop) : Prop := (x1 < 0 → wp_Md_run_J11 σ α post) ∧ (¬ x1 < 0 → (x1 ≤ (2000 : Int32) → wp_Md_run_L15 σ α x1 (0 : Int32) post) ∧ (¬ x1 ≤ (2000 : Int32) → wp_Md_run_J11 σ α post))
def wp_Md_look_J106 (σ : Nat → Int32) (α : Nat → Nat → Int32) (t0 : Int32) (post : Int32 → gS → Prop) : Prop := post t0 (σ, α)
def wp_Md_look_J90 (σ : Nat → Int32) (α : Nat → Nat → Int32) (t0 : Int32) (post : Int32 → gS → Prop) : Prop := post t0 (σ, α)
def wp_Md_look_J64 (σ : Nat → Int32) (α : Nat → Nat → Int32) (t0 : Int32) (post : Int32 → gS → Prop) : Prop := post t0 (σ, α)
def wp_Md_look (σ : Nat → Int32) (α : Nat → Nat → Int32) (x1 : Int32) (post : Int32 → gS → Prop) : Prop := (x1 = 0 → ((σ 1) = 0 → wp_Md_look_J64 σ α (0 : Int32) post) ∧ (¬ (σ 1) = 0 → wp_Md_look_J64 σ α (1 : Int32) post)) ∧ (x1 = 1 → post (σ 2) (σ, α)) ∧ (x1 = 2 → post (σ 0) (σ, α)) ∧ (x1 = 3 → (¬ (σ 7) = 0 → wp_Md_look_J90 σ α (σ 5) post) ∧ ((σ 7) = 0 → wp_Md_look_J90 σ α (-1 : Int32) post)) ∧ (x1 = 4 → (¬ (σ 7) = 0 → wp_Md_look_J106 σ α (σ 6) post) ∧ ((σ 7) = 0 → wp_Md_look_J106 σ α (-1 : Int32) post)) ∧ (x1 = 5 → post (σ 7) (σ, α)) ∧ (x1 = 6 → post (σ 17) (σ, α)) ∧ (x1 = 7 → post (σ 21) (σ, α)) ∧ (x1 = 8 → post (σ 15) (σ, α)) ∧ (x1.toInt < 0 ∨ 8 < x1.toInt → post (-1 : Int32) (σ, α))
def wp_Md_peek_J20 (σ : Nat → Int32) (α : Nat → Nat → Int32) (t0 : Int32) (post : Int32 → gS → Prop) : Prop := narrow .short (.int t0) = .int t0 ∧ (post t0 (σ, α))
def wp_Md_peek (σ : Nat → Int32) (α : Nat → Nat → Int32) (x1 : Int32) (x2 : Int32) (post : Int32 → gS → Prop) : Prop := wp_Md_wordAt σ α x1 x2 (fun (r2 : Int32) (u2 : gS) => (0 ≤ r2 → vp_in r2 132 ∧ (wp_Md_peek_J20 u2.1 u2.2 (u2.2 2 r2.toNatClampNeg) post)) ∧ (¬ 0 ≤ r2 → wp_Md_peek_J20 u2.1 u2.2 (0 : Int32) post))
def wp_Md_read_II_J23 (σ : Nat → Int32) (α : Nat → Nat → Int32) (t0 : Int32) (post : Int32 → gS → Prop) : Prop := post t0 (σ, α)
def wp_Md_read_II (σ : Nat → Int32) (α : Nat → Nat → Int32) (x1 : Int32) (x2 : Int32) (post : Int32 → gS → Prop) : Prop := wp_Md_isOrder σ α x1 x2 (fun (r2 : Int32) (u2 : gS) => (r2 = 0 → wp_Md_read_II_J23 u2.1 u2.2 (-1 : Int32) post) ∧ (¬ r2 = 0 → vp_in (((32 : Int32) * x1) + x2) 64 ∧ (wp_Md_read_II_J23 u2.1 u2.2 (u2.2 1 (((32 : Int32) * x1) + x2).toNatClampNeg) post)))
def wp_Md_punched_J22 (σ : Nat → Int32) (α : Nat → Nat → Int32) (t0 : Int32) (post : Int32 → gS → Prop) : Prop := narrow .short (.int t0) = .int t0 ∧ (post t0 (σ, α))
def wp_Md_punched_J12 (σ : Nat → Int32) (α : Nat → Nat → Int32) (post : Int32 → gS → Prop) : Prop := wp_Md_punched_J22 σ α (0 : Int32) post
def wp_Md_punched (σ : Nat → Int32) (α : Nat → Nat → Int32) (x1 : Int32) (post : Int32 → gS → Prop) : Prop := (x1 < 0 → wp_Md_punched_J12 σ α post) ∧ (¬ x1 < 0 → (x1 < (σ 21) → vp_in x1 60 ∧ (wp_Md_punched_J22 σ α (α 5 x1.toNatClampNeg) post)) ∧ (¬ x1 < (σ 21) → wp_Md_punched_J12 σ α post))
def wp_Md_isVariable_J15 (σ : Nat → Int32) (α : Nat → Nat → Int32) (t0 : Int32) (post : Int32 → gS → Prop) : Prop := narrow .boolean (.int t0) = .int t0 ∧ (post t0 (σ, α))
def wp_Md_isVariable_J14 (σ : Nat → Int32) (α : Nat → Nat → Int32) (post : Int32 → gS → Prop) : Prop := wp_Md_isVariable_J15 σ α (0 : Int32) post
def wp_Md_isVariable (σ : Nat → Int32) (α : Nat → Nat → Int32) (x0 : Int32) (post : Int32 → gS → Prop) : Prop := (x0 < 0 → wp_Md_isVariable_J14 σ α post) ∧ (¬ x0 < 0 → ((16 : Int32) ≤ x0 → wp_Md_isVariable_J14 σ α post) ∧ (¬ (16 : Int32) ≤ x0 → wp_Md_isVariable_J15 σ α (1 : Int32) post))
def wp_Md_statement_J70 (σ : Nat → Int32) (α : Nat → Nat → Int32) (post : Int32 → gS → Prop) : Prop := post (-1 : Int32) (σ, α)
def wp_Md_statement_J54 (σ : Nat → Int32) (α : Nat → Nat → Int32) (a1 : Int32) (a2 : Int32) (a3 : Int32) (a4 : Int32) (a5 : Int32) (t0 : Int32) (post : Int32 → gS → Prop) : Prop := ((σ 23) = (12 : Int32) → wp_Md_statement_J70 σ α post) ∧ (¬ (σ 23) = (12 : Int32) → (¬ t0 = 0 → vp_in (σ 23) 12 ∧ (vp_in (σ 23) 12 ∧ (vp_in (σ 23) 12 ∧ (vp_in (σ 23) 12 ∧ (vp_in (σ 23) 12 ∧ (post (((σ 23) + (1 : Int32)) - (1 : Int32)) ((va_up σ 23 ((σ 23) + (1 : Int32))), (va_up (va_up (va_up (va_up (va_up α 6 (upd (α 6) (σ 23).toNatClampNeg a1)) 7 (upd (α 7) (σ 23).toNatClampNeg a2)) 8 (upd (α 8) (σ 23).toNatClampNeg a3)) 9 (upd (α 9) (σ 23).toNatClampNeg a4)) 10 (upd (α 10) (σ 23).toNatClampNeg a5))))))))) ∧ (t0 = 0 → wp_Md_statement_J70 σ α post))
def wp_Md_statement_J53 (σ : Nat → Int32) (α : Nat → Nat → Int32) (a1 : Int32) (a2 : Int32) (a3 : Int32) (a4 : Int32) (a5 : Int32) (post : Int32 → gS → Prop) : Prop := wp_Md_statement_J54 σ α a1 a2 a3 a4 a5 (0 : Int32) post
def wp_Md_statement_J49 (σ : Nat → Int32) (α : Nat → Nat → Int32) (a1 : Int32) (a2 : Int32) (a3 : Int32) (a4 : Int32) (a5 : Int32) (post : Int32 → gS → Prop) : Prop := wp_Md_statement_J54 σ α a1 a2 a3 a4 a5 (1 : Int32) post
def wp_Md_statement (σ : Nat → Int32) (α : Nat → Nat → Int32) (x1 : Int32) (x2 : Int32) (x3 : Int32) (x4 : Int32) (x5 : Int32) (post : Int32 → gS → Prop) : Prop := (x1 < 0 → wp_Md_statement_J53 σ α x1 x2 x3 x4 x5 post) ∧ (¬ x1 < 0 → ((6 : Int32) < x1 → wp_Md_statement_J53 σ α x1 x2 x3 x4 x5 post) ∧ (¬ (6 : Int32) < x1 → wp_Md_isVariable σ α x2 (fun (r11 : Int32) (u11 : gS) => (r11 = 0 → wp_Md_statement_J53 u11.1 u11.2 x1 x2 x3 x4 x5 post) ∧ (¬ r11 = 0 → wp_Md_isVariable u11.1 u11.2 x3 (fun (r18 : Int32) (u18 : gS) => (r18 = 0 → wp_Md_statement_J53 u18.1 u18.2 x1 x2 x3 x4 x5 post) ∧ (¬ r18 = 0 → wp_Md_isVariable u18.1 u18.2 x4 (fun (r26 : Int32) (u26 : gS) => (r26 = 0 → wp_Md_statement_J53 u26.1 u26.2 x1 x2 x3 x4 x5 post) ∧ (¬ r26 = 0 → (¬ x1 = (4 : Int32) → wp_Md_statement_J49 u26.1 u26.2 x1 x2 x3 x4 x5 post) ∧ (x1 = (4 : Int32) → (x5 < 0 → wp_Md_statement_J53 u26.1 u26.2 x1 x2 x3 x4 x5 post) ∧ (¬ x5 < 0 → ((11 : Int32) < x5 → wp_Md_statement_J53 u26.1 u26.2 x1 x2 x3 x4 x5 post) ∧ (¬ (11 : Int32) < x5 → wp_Md_statement_J49 u26.1 u26.2 x1 x2 x3 x4 x5 post)))))))))))
def wp_Md_clear (σ : Nat → Int32) (α : Nat → Nat → Int32) (post : gS → Prop) : Prop := post ((va_up σ 23 (0 : Int32)), α)
def wp_Md_list (σ : Nat → Int32) (α : Nat → Nat → Int32) (x1 : Int32) (x2 : Int32) (x3 : Int32) (x4 : Int32) (post : gS → Prop) : Prop := vp_in (σ 24) 64 ∧ (vp_in (σ 24) 64 ∧ (vp_in (σ 24) 64 ∧ (vp_in (σ 24) 64 ∧ (post ((va_up σ 24 ((σ 24) + (1 : Int32))), (va_up (va_up (va_up (va_up α 11 (upd (α 11) (σ 24).toNatClampNeg x1)) 12 (upd (α 12) (σ 24).toNatClampNeg x2)) 13 (upd (α 13) (σ 24).toNatClampNeg x3)) 14 (upd (α 14) (σ 24).toNatClampNeg x4)))))))
def wp_Md_listAll_J238 (σ : Nat → Int32) (α : Nat → Nat → Int32) (post : gS → Prop) : Prop := post (σ, α)
def wp_Md_listAll_J208 (XL7 : (Nat → Int32) → (Nat → Nat → Int32) → Int32 → Prop) (σ : Nat → Int32) (α : Nat → Nat → Int32) (a1 : Int32) (post : gS → Prop) : Prop := XL7 σ α (a1 + Int32.ofInt 1)
def wp_Md_listAll_J107 (XL7 : (Nat → Int32) → (Nat → Nat → Int32) → Int32 → Prop) (σ : Nat → Int32) (α : Nat → Nat → Int32) (a1 : Int32) (a3 : Int32) (a4 : Int32) (t0 : Int32) (t1 : Int32) (post : gS → Prop) : Prop := wp_Md_list σ α t1 t0 a3 a1 (fun (u109 : gS) => wp_Md_list u109.1 u109.2 (6 : Int32) (2 : Int32) a4 a1 (fun (u119 : gS) => wp_Md_listAll_J208 XL7 u119.1 u119.2 a1 post))
def wp_Md_listAll_J80 (XL7 : (Nat → Int32) → (Nat → Nat → Int32) → Int32 → Prop) (σ : Nat → Int32) (α : Nat → Nat → Int32) (a1 : Int32) (a2 : Int32) (a3 : Int32) (a4 : Int32) (post : gS → Prop) : Prop := wp_Md_list σ α (2 : Int32) (6 : Int32) a2 a1 (fun (u86 : gS) => vp_in a1 12 ∧ ((¬ (u86.2 6 a1.toNatClampNeg) = 0 → wp_Md_listAll_J107 XL7 u86.1 u86.2 a1 a3 a4 (10 : Int32) (2 : Int32) post) ∧ ((u86.2 6 a1.toNatClampNeg) = 0 → wp_Md_listAll_J107 XL7 u86.1 u86.2 a1 a3 a4 (9 : Int32) (2 : Int32) post)))
def wp_Md_listAll_B7 (XL7 : (Nat → Int32) → (Nat → Nat → Int32) → Int32 → Prop) (σ : Nat → Int32) (α : Nat → Nat → Int32) (a1 : Int32) (post : gS → Prop) : Prop := ((σ 23) ≤ a1 → vp_in ((σ 23) - (1 : Int32)) 12 ∧ (((α 6 ((σ 23) - (1 : Int32)).toNatClampNeg) = (6 : Int32) → wp_Md_listAll_J238 σ α post) ∧ (¬ (α 6 ((σ 23) - (1 : Int32)).toNatClampNeg) = (6 : Int32) → wp_Md_list σ α (0 : Int32) (1 : Int32) (-1 : Int32) (-1 : Int32) (fun (u235 : gS) => wp_Md_listAll_J238 u235.1 u235.2 post)))) ∧ (¬ (σ 23) ≤ a1 → vp_in a1 12 ∧ (vp_in a1 12 ∧ (vp_in a1 12 ∧ (vp_in a1 12 ∧ (((α 6 a1.toNatClampNeg) = 0 → wp_Md_listAll_J80 XL7 σ α a1 (α 7 a1.toNatClampNeg) (α 8 a1.toNatClampNeg) (α 9 a1.toNatClampNeg) post) ∧ ((α 6 a1.toNatClampNeg) = 1 → wp_Md_listAll_J80 XL7 σ α a1 (α 7 a1.toNatClampNeg) (α 8 a1.toNatClampNeg) (α 9 a1.toNatClampNeg) post) ∧ ((α 6 a1.toNatClampNeg) = 2 → wp_Md_list σ α (2 : Int32) (6 : Int32) (α 7 a1.toNatClampNeg) a1 (fun (u131 : gS) => wp_Md_list u131.1 u131.2 (6 : Int32) (2 : Int32) (α 9 a1.toNatClampNeg) a1 (fun (u141 : gS) => wp_Md_listAll_J208 XL7 u141.1 u141.2 a1 post))) ∧ ((α 6 a1.toNatClampNeg) = 3 → wp_Md_list σ α (2 : Int32) (15 : Int32) (α 7 a1.toNatClampNeg) a1 (fun (u153 : gS) => wp_Md_listAll_J208 XL7 u153.1 u153.2 a1 post)) ∧ ((α 6 a1.toNatClampNeg) = 4 → wp_Md_list σ α (2 : Int32) (11 : Int32) (α 7 a1.toNatClampNeg) a1 (fun (u165 : gS) => wp_Md_list u165.1 u165.2 (0 : Int32) (0 : Int32) (-1 : Int32) a1 (fun (u173 : gS) => wp_Md_list u173.1 u173.2 (0 : Int32) (0 : Int32) (-1 : Int32) a1 (fun (u181 : gS) => wp_Md_listAll_J208 XL7 u181.1 u181.2 a1 post)))) ∧ ((α 6 a1.toNatClampNeg) = 5 → wp_Md_list σ α (13 : Int32) (2 : Int32) (α 9 a1.toNatClampNeg) a1 (fun (u194 : gS) => wp_Md_listAll_J208 XL7 u194.1 u194.2 a1 post)) ∧ ((α 6 a1.toNatClampNeg).toInt < 0 ∨ 5 < (α 6 a1.toNatClampNeg).toInt → wp_Md_list σ α (0 : Int32) (1 : Int32) (-1 : Int32) a1 (fun (u205 : gS) => wp_Md_listAll_J208 XL7 u205.1 u205.2 a1 post)))))))
def wp_Md_listAll_L7 (σ : Nat → Int32) (α : Nat → Nat → Int32) (a1 : Int32) (post : gS → Prop) : Prop := ∀ XL7 : (Nat → Int32) → (Nat → Nat → Int32) → Int32 → Prop, (∀ (σ : Nat → Int32) (α : Nat → Nat → Int32) (a1 : Int32), wp_Md_listAll_B7 XL7 σ α a1 post → XL7 σ α a1) → XL7 σ α a1
def wp_Md_listAll (σ : Nat → Int32) (α : Nat → Nat → Int32) (post : gS → Prop) : Prop := wp_Md_listAll_L7 (va_up σ 24 (0 : Int32)) α (0 : Int32) post
def wp_Md_free_J98 (XL2 : (Nat → Int32) → (Nat → Nat → Int32) → Int32 → Int32 → Int32 → Prop) (σ : Nat → Int32) (α : Nat → Nat → Int32) (a1 : Int32) (a2 : Int32) (a3 : Int32) (post : Int32 → gS → Prop) : Prop := XL2 σ α a1 a2 (a3 + Int32.ofInt 1)
def wp_Md_free_J66 (XL2 : (Nat → Int32) → (Nat → Nat → Int32) → Int32 → Int32 → Int32 → Prop) (σ : Nat → Int32) (α : Nat → Nat → Int32) (a1 : Int32) (a2 : Int32) (a3 : Int32) (a4 : Int32) (a5 : Int32) (post : Int32 → gS → Prop) : Prop := vp_in ((32 : Int32) + a4) 64 ∧ ((¬ (α 17 ((32 : Int32) + a4).toNatClampNeg) = 0 → wp_Md_free_J98 XL2 σ α a1 a2 a3 post) ∧ ((α 17 ((32 : Int32) + a4).toNatClampNeg) = 0 → vp_in ((32 : Int32) + a5) 64 ∧ ((¬ (α 17 ((32 : Int32) + a5).toNatClampNeg) = 0 → wp_Md_free_J98 XL2 σ α a1 a2 a3 post) ∧ ((α 17 ((32 : Int32) + a5).toNatClampNeg) = 0 → post ((32 : Int32) + a4) (σ, α)))))
def wp_Md_free_J41 (XL2 : (Nat → Int32) → (Nat → Nat → Int32) → Int32 → Int32 → Int32 → Prop) (σ : Nat → Int32) (α : Nat → Nat → Int32) (a1 : Int32) (a2 : Int32) (a3 : Int32) (a4 : Int32) (t0 : Int32) (post : Int32 → gS → Prop) : Prop := vp_in a4 64 ∧ ((¬ (α 17 a4.toNatClampNeg) = 0 → wp_Md_free_J66 XL2 σ α a1 a2 a3 a4 t0 post) ∧ ((α 17 a4.toNatClampNeg) = 0 → vp_in t0 64 ∧ ((¬ (α 17 t0.toNatClampNeg) = 0 → wp_Md_free_J66 XL2 σ α a1 a2 a3 a4 t0 post) ∧ ((α 17 t0.toNatClampNeg) = 0 → post a4 (σ, α)))))
def wp_Md_free_J14 (XL2 : (Nat → Int32) → (Nat → Nat → Int32) → Int32 → Int32 → Int32 → Prop) (σ : Nat → Int32) (α : Nat → Nat → Int32) (a1 : Int32) (a2 : Int32) (a3 : Int32) (t0 : Int32) (t1 : Int32) (post : Int32 → gS → Prop) : Prop := (t0 ≤ t1 → post (-1 : Int32) (σ, α)) ∧ (¬ t0 ≤ t1 → (a2 = 0 → wp_Md_free_J41 XL2 σ α a1 a2 a3 ((a1 + a3) &&& (31 : Int32)) ((a1 + a3) &&& (31 : Int32)) post) ∧ (¬ a2 = 0 → wp_Md_free_J41 XL2 σ α a1 a2 a3 ((a1 + a3) &&& (31 : Int32)) ((((a1 + a3) &&& (31 : Int32)) + (1 : Int32)) &&& (31 : Int32)) post))
def wp_Md_free_B2 (XL2 : (Nat → Int32) → (Nat → Nat → Int32) → Int32 → Int32 → Int32 → Prop) (σ : Nat → Int32) (α : Nat → Nat → Int32) (a1 : Int32) (a2 : Int32) (a3 : Int32) (post : Int32 → gS → Prop) : Prop := (a2 = 0 → wp_Md_free_J14 XL2 σ α a1 a2 a3 (32 : Int32) a3 post) ∧ (¬ a2 = 0 → wp_Md_free_J14 XL2 σ α a1 a2 a3 (31 : Int32) a3 post)
def wp_Md_free_L2 (σ : Nat → Int32) (α : Nat → Nat → Int32) (a1 : Int32) (a2 : Int32) (a3 : Int32) (post : Int32 → gS → Prop) : Prop := ∀ XL2 : (Nat → Int32) → (Nat → Nat → Int32) → Int32 → Int32 → Int32 → Prop, (∀ (σ : Nat → Int32) (α : Nat → Nat → Int32) (a1 : Int32) (a2 : Int32) (a3 : Int32), wp_Md_free_B2 XL2 σ α a1 a2 a3 post → XL2 σ α a1 a2 a3) → XL2 σ α a1 a2 a3
def wp_Md_free (σ : Nat → Int32) (α : Nat → Nat → Int32) (x1 : Int32) (x2 : Int32) (post : Int32 → gS → Prop) : Prop := wp_Md_free_L2 σ α x1 x2 (0 : Int32) post
def wp_Md_variableFrom_J30 (XL5 : (Nat → Int32) → (Nat → Nat → Int32) → Int32 → Int32 → Prop) (σ : Nat → Int32) (α : Nat → Nat → Int32) (a1 : Int32) (a3 : Int32) (post : Int32 → gS → Prop) : Prop := XL5 σ α a1 ((a3 + (1 : Int32)) &&& (31 : Int32))
def wp_Md_variableFrom_B5 (XL5 : (Nat → Int32) → (Nat → Nat → Int32) → Int32 → Int32 → Prop) (σ : Nat → Int32) (α : Nat → Nat → Int32) (a1 : Int32) (a3 : Int32) (post : Int32 → gS → Prop) : Prop := vp_in a1 16 ∧ ((0 ≤ (α 19 a1.toNatClampNeg) → vp_in a1 16 ∧ (vp_in (α 19 a1.toNatClampNeg) 32 ∧ (vp_in a1 16 ∧ (post (α 19 a1.toNatClampNeg) (σ, (va_up α 18 (upd (α 18) (α 19 a1.toNatClampNeg).toNatClampNeg (vp_nar .boolean (1 : Int32))))))))) ∧ (¬ 0 ≤ (α 19 a1.toNatClampNeg) → vp_in a3 32 ∧ ((¬ (α 18 a3.toNatClampNeg) = 0 → wp_Md_variableFrom_J30 XL5 σ α a1 a3 post) ∧ ((α 18 a3.toNatClampNeg) = 0 → vp_in a1 16 ∧ (wp_Md_variableFrom_J30 XL5 σ (va_up α 19 (upd (α 19) a1.toNatClampNeg a3)) a1 a3 post)))))
def wp_Md_variableFrom_L5 (σ : Nat → Int32) (α : Nat → Nat → Int32) (a1 : Int32) (a3 : Int32) (post : Int32 → gS → Prop) : Prop := ∀ XL5 : (Nat → Int32) → (Nat → Nat → Int32) → Int32 → Int32 → Prop, (∀ (σ : Nat → Int32) (α : Nat → Nat → Int32) (a1 : Int32) (a3 : Int32), wp_Md_variableFrom_B5 XL5 σ α a1 a3 post → XL5 σ α a1 a3) → XL5 σ α a1 a3
def wp_Md_variableFrom (σ : Nat → Int32) (α : Nat → Nat → Int32) (x1 : Int32) (x2 : Int32) (post : Int32 → gS → Prop) : Prop := wp_Md_variableFrom_L5 σ α x1 (x2 &&& (31 : Int32)) post
def wp_Md_place_J255 (XL67 : (Nat → Int32) → (Nat → Nat → Int32) → Int32 → Int32 → Prop) (σ : Nat → Int32) (α : Nat → Nat → Int32) (a1 : Int32) (a2 : Int32) (post : Int32 → gS → Prop) : Prop := XL67 σ α a1 (a2 + Int32.ofInt 1)
def wp_Md_place_J240 (XL67 : (Nat → Int32) → (Nat → Nat → Int32) → Int32 → Int32 → Prop) (σ : Nat → Int32) (α : Nat → Nat → Int32) (a2 : Int32) (a4 : Int32) (post : Int32 → gS → Prop) : Prop := vp_in a2 64 ∧ (wp_Md_place_J255 XL67 σ α (((a4 + (2 : Int32)) + (α 16 a2.toNatClampNeg)) &&& (31 : Int32)) a2 post)
def wp_Md_place_J111 (XL67 : (Nat → Int32) → (Nat → Nat → Int32) → Int32 → Int32 → Prop) (σ : Nat → Int32) (α : Nat → Nat → Int32) (a2 : Int32) (a3 : Int32) (t0 : Int32) (post : Int32 → gS → Prop) : Prop := wp_Md_free σ α t0 a3 (fun (r112 : Int32) (u112 : gS) => (0 ≤ r112 → vp_in r112 64 ∧ (vp_in a2 64 ∧ (vp_in a2 64 ∧ ((a3 = 0 → vp_in a2 64 ∧ (((u112.2 13 a2.toNatClampNeg) < 0 → wp_Md_place_J240 XL67 u112.1 (va_up (va_up (va_up u112.2 15 (upd (u112.2 15) a2.toNatClampNeg r112)) 16 (upd (u112.2 16) a2.toNatClampNeg (0 : Int32))) 17 (upd (u112.2 17) r112.toNatClampNeg (vp_nar .boolean (1 : Int32)))) a2 r112 post) ∧ (¬ (u112.2 13 a2.toNatClampNeg) < 0 → wp_Md_variableFrom u112.1 (va_up (va_up (va_up u112.2 15 (upd (u112.2 15) a2.toNatClampNeg r112)) 16 (upd (u112.2 16) a2.toNatClampNeg (0 : Int32))) 17 (upd (u112.2 17) r112.toNatClampNeg (vp_nar .boolean (1 : Int32)))) (u112.2 13 a2.toNatClampNeg) (r112 + (2 : Int32)) (fun (r228 : Int32) (u228 : gS) => vp_in a2 64 ∧ (wp_Md_place_J240 XL67 u228.1 (va_up u228.2 16 (upd (u228.2 16) a2.toNatClampNeg (((r228 - r112) - (2 : Int32)) &&& (31 : Int32)))) a2 r112 post))))) ∧ (¬ a3 = 0 → vp_in (a2 + Int32.ofInt 1) 64 ∧ (vp_in (a2 + Int32.ofInt 1) 64 ∧ (vp_in ((upd (upd (u112.2 15) a2.toNatClampNeg r112) (a2 + Int32.ofInt 1).toNatClampNeg ((r112 &&& (32 : Int32)) ||| ((r112 + (1 : Int32)) &&& (31 : Int32)))) (a2 + Int32.ofInt 1).toNatClampNeg) 64 ∧ (vp_in (a2 + Int32.ofInt 1) 64 ∧ (wp_Md_place_J255 XL67 u112.1 (va_up (va_up (va_up u112.2 15 (upd (upd (u112.2 15) a2.toNatClampNeg r112) (a2 + Int32.ofInt 1).toNatClampNeg ((r112 &&& (32 : Int32)) ||| ((r112 + (1 : Int32)) &&& (31 : Int32))))) 16 (upd (upd (u112.2 16) a2.toNatClampNeg (0 : Int32)) (a2 + Int32.ofInt 1).toNatClampNeg (0 : Int32))) 17 (upd (upd (u112.2 17) r112.toNatClampNeg (vp_nar .boolean (1 : Int32))) ((upd (upd (u112.2 15) a2.toNatClampNeg r112) (a2 + Int32.ofInt 1).toNatClampNeg ((r112 &&& (32 : Int32)) ||| ((r112 + (1 : Int32)) &&& (31 : Int32)))) (a2 + Int32.ofInt 1).toNatClampNeg).toNatClampNeg (vp_nar .boolean (1 : Int32)))) ((r112 + (2 : Int32)) &&& (31 : Int32)) (a2 + Int32.ofInt 1) post))))))))) ∧ (¬ 0 ≤ r112 → post (0 : Int32) (u112.1, u112.2)))
def wp_Md_place_J98 (XL67 : (Nat → Int32) → (Nat → Nat → Int32) → Int32 → Int32 → Prop) (σ : Nat → Int32) (α : Nat → Nat → Int32) (a1 : Int32) (a2 : Int32) (t0 : Int32) (post : Int32 → gS → Prop) : Prop := (t0 = 0 → wp_Md_place_J111 XL67 σ α a2 t0 a1 post) ∧ (¬ t0 = 0 → wp_Md_place_J111 XL67 σ α a2 t0 (a1 + (1 : Int32)) post)
def wp_Md_place_J97 (XL67 : (Nat → Int32) → (Nat → Nat → Int32) → Int32 → Int32 → Prop) (σ : Nat → Int32) (α : Nat → Nat → Int32) (a1 : Int32) (a2 : Int32) (post : Int32 → gS → Prop) : Prop := wp_Md_place_J98 XL67 σ α a1 a2 (0 : Int32) post
def wp_Md_place_B67 (XL67 : (Nat → Int32) → (Nat → Nat → Int32) → Int32 → Int32 → Prop) (σ : Nat → Int32) (α : Nat → Nat → Int32) (a1 : Int32) (a2 : Int32) (post : Int32 → gS → Prop) : Prop := ((σ 24) ≤ a2 → post (1 : Int32) (σ, α)) ∧ (¬ (σ 24) ≤ a2 → vp_in a2 64 ∧ ((¬ (α 11 a2.toNatClampNeg) = 0 → wp_Md_place_J97 XL67 σ α a1 a2 post) ∧ ((α 11 a2.toNatClampNeg) = 0 → vp_in a2 64 ∧ ((¬ (α 12 a2.toNatClampNeg) = 0 → wp_Md_place_J97 XL67 σ α a1 a2 post) ∧ ((α 12 a2.toNatClampNeg) = 0 → wp_Md_place_J98 XL67 σ α a1 a2 (1 : Int32) post)))))
def wp_Md_place_L67 (σ : Nat → Int32) (α : Nat → Nat → Int32) (a1 : Int32) (a2 : Int32) (post : Int32 → gS → Prop) : Prop := ∀ XL67 : (Nat → Int32) → (Nat → Nat → Int32) → Int32 → Int32 → Prop, (∀ (σ : Nat → Int32) (α : Nat → Nat → Int32) (a1 : Int32) (a2 : Int32), wp_Md_place_B67 XL67 σ α a1 a2 post → XL67 σ α a1 a2) → XL67 σ α a1 a2
def wp_Md_place_B44 (XL44 : (Nat → Int32) → (Nat → Nat → Int32) → Int32 → Prop) (σ : Nat → Int32) (α : Nat → Nat → Int32) (a1 : Int32) (post : Int32 → gS → Prop) : Prop := ((16 : Int32) ≤ a1 → wp_Md_place_L67 σ α (0 : Int32) (0 : Int32) post) ∧ (¬ (16 : Int32) ≤ a1 → vp_in a1 16 ∧ (XL44 σ (va_up α 19 (upd (α 19) a1.toNatClampNeg (-1 : Int32))) (a1 + Int32.ofInt 1)))
def wp_Md_place_L44 (σ : Nat → Int32) (α : Nat → Nat → Int32) (a1 : Int32) (post : Int32 → gS → Prop) : Prop := ∀ XL44 : (Nat → Int32) → (Nat → Nat → Int32) → Int32 → Prop, (∀ (σ : Nat → Int32) (α : Nat → Nat → Int32) (a1 : Int32), wp_Md_place_B44 XL44 σ α a1 post → XL44 σ α a1) → XL44 σ α a1
def wp_Md_place_B23 (XL23 : (Nat → Int32) → (Nat → Nat → Int32) → Int32 → Prop) (σ : Nat → Int32) (α : Nat → Nat → Int32) (a1 : Int32) (post : Int32 → gS → Prop) : Prop := ((32 : Int32) ≤ a1 → wp_Md_place_L44 σ α (0 : Int32) post) ∧ (¬ (32 : Int32) ≤ a1 → vp_in a1 32 ∧ (XL23 σ (va_up α 18 (upd (α 18) a1.toNatClampNeg (vp_nar .boolean (0 : Int32)))) (a1 + Int32.ofInt 1)))
def wp_Md_place_L23 (σ : Nat → Int32) (α : Nat → Nat → Int32) (a1 : Int32) (post : Int32 → gS → Prop) : Prop := ∀ XL23 : (Nat → Int32) → (Nat → Nat → Int32) → Int32 → Prop, (∀ (σ : Nat → Int32) (α : Nat → Nat → Int32) (a1 : Int32), wp_Md_place_B23 XL23 σ α a1 post → XL23 σ α a1) → XL23 σ α a1
def wp_Md_place_B2 (XL2 : (Nat → Int32) → (Nat → Nat → Int32) → Int32 → Prop) (σ : Nat → Int32) (α : Nat → Nat → Int32) (a1 : Int32) (post : Int32 → gS → Prop) : Prop := ((64 : Int32) ≤ a1 → wp_Md_place_L23 σ α (0 : Int32) post) ∧ (¬ (64 : Int32) ≤ a1 → vp_in a1 64 ∧ (XL2 σ (va_up α 17 (upd (α 17) a1.toNatClampNeg (vp_nar .boolean (0 : Int32)))) (a1 + Int32.ofInt 1)))
def wp_Md_place_L2 (σ : Nat → Int32) (α : Nat → Nat → Int32) (a1 : Int32) (post : Int32 → gS → Prop) : Prop := ∀ XL2 : (Nat → Int32) → (Nat → Nat → Int32) → Int32 → Prop, (∀ (σ : Nat → Int32) (α : Nat → Nat → Int32) (a1 : Int32), wp_Md_place_B2 XL2 σ α a1 post → XL2 σ α a1) → XL2 σ α a1
def wp_Md_place (σ : Nat → Int32) (α : Nat → Nat → Int32) (post : Int32 → gS → Prop) : Prop := wp_Md_place_L2 σ α (0 : Int32) post
def wp_Md_firstOf_B2 (XL2 : (Nat → Int32) → (Nat → Nat → Int32) → Int32 → Int32 → Prop) (σ : Nat → Int32) (α : Nat → Nat → Int32) (a1 : Int32) (a2 : Int32) (post : Int32 → gS → Prop) : Prop := vp_in a2 64 ∧ (((α 14 a2.toNatClampNeg) = a1 → post a2 (σ, α)) ∧ (¬ (α 14 a2.toNatClampNeg) = a1 → XL2 σ α a1 (a2 + Int32.ofInt 1)))
def wp_Md_firstOf_L2 (σ : Nat → Int32) (α : Nat → Nat → Int32) (a1 : Int32) (a2 : Int32) (post : Int32 → gS → Prop) : Prop := ∀ XL2 : (Nat → Int32) → (Nat → Nat → Int32) → Int32 → Int32 → Prop, (∀ (σ : Nat → Int32) (α : Nat → Nat → Int32) (a1 : Int32) (a2 : Int32), wp_Md_firstOf_B2 XL2 σ α a1 a2 post → XL2 σ α a1 a2) → XL2 σ α a1 a2
def wp_Md_firstOf (σ : Nat → Int32) (α : Nat → Nat → Int32) (x1 : Int32) (post : Int32 → gS → Prop) : Prop := wp_Md_firstOf_L2 σ α x1 (0 : Int32) post
def wp_Md_isSecond_J35 (σ : Nat → Int32) (α : Nat → Nat → Int32) (t0 : Int32) (post : Int32 → gS → Prop) : Prop := narrow .boolean (.int t0) = .int t0 ∧ (post t0 (σ, α))
def wp_Md_isSecond_J34 (σ : Nat → Int32) (α : Nat → Nat → Int32) (post : Int32 → gS → Prop) : Prop := wp_Md_isSecond_J35 σ α (0 : Int32) post
def wp_Md_isSecond (σ : Nat → Int32) (α : Nat → Nat → Int32) (x1 : Int32) (post : Int32 → gS → Prop) : Prop := vp_in x1 64 ∧ (vp_in (x1 - (2 : Int32)) 64 ∧ ((¬ (α 14 x1.toNatClampNeg) = (α 14 (x1 - (2 : Int32)).toNatClampNeg) → wp_Md_isSecond_J34 σ α post) ∧ ((α 14 x1.toNatClampNeg) = (α 14 (x1 - (2 : Int32)).toNatClampNeg) → vp_in (x1 - (2 : Int32)) 64 ∧ ((¬ (α 12 (x1 - (2 : Int32)).toNatClampNeg) = (11 : Int32) → wp_Md_isSecond_J34 σ α post) ∧ ((α 12 (x1 - (2 : Int32)).toNatClampNeg) = (11 : Int32) → wp_Md_isSecond_J35 σ α (1 : Int32) post)))))
def wp_Md_write_J221 (σ : Nat → Int32) (α : Nat → Nat → Int32) (post : gS → Prop) : Prop := post (σ, α)
def wp_Md_write_J170 (σ : Nat → Int32) (α : Nat → Nat → Int32) (a1 : Int32) (a2 : Int32) (a3 : Int32) (t0 : Int32) (post : gS → Prop) : Prop := vp_in a1 64 ∧ ((¬ (α 12 a1.toNatClampNeg) = (1 : Int32) → vp_in a2 64 ∧ (wp_Md_write_J221 σ (va_up α 1 (upd (α 1) a2.toNatClampNeg ((a3 ||| ((((t0 - a2) - (2 : Int32)) &&& (31 : Int32)) <<< ((15 : Int32) &&& 31))) ||| ((t0 >>> ((5 : Int32) &&& 31)) <<< ((20 : Int32) &&& 31))))) post)) ∧ ((α 12 a1.toNatClampNeg) = (1 : Int32) → vp_in a2 64 ∧ (wp_Md_write_J221 σ (va_up α 1 (upd (α 1) a2.toNatClampNeg (1015824 : Int32))) post)))
def wp_Md_write_J102 (σ : Nat → Int32) (α : Nat → Nat → Int32) (a1 : Int32) (a2 : Int32) (a3 : Int32) (a4 : Int32) (t0 : Int32) (post : gS → Prop) : Prop := (a4 = 0 → ((σ 24) ≤ (a1 + (1 : Int32)) → wp_Md_write_J170 σ α a1 a2 a3 (0 : Int32) post) ∧ (¬ (σ 24) ≤ (a1 + (1 : Int32)) → vp_in (a1 + (1 : Int32)) 64 ∧ (wp_Md_write_J170 σ α a1 a2 a3 (α 15 (a1 + (1 : Int32)).toNatClampNeg) post))) ∧ (¬ a4 = 0 → (t0 = 0 → vp_in (a1 + (2 : Int32)) 64 ∧ (wp_Md_write_J170 σ α a1 a2 a3 (α 15 (a1 + (2 : Int32)).toNatClampNeg) post)) ∧ (¬ t0 = 0 → vp_in a1 64 ∧ (vp_in (α 14 a1.toNatClampNeg) 12 ∧ (wp_Md_firstOf σ α (α 10 (α 14 a1.toNatClampNeg).toNatClampNeg) (fun (r130 : Int32) (u130 : gS) => vp_in r130 64 ∧ (wp_Md_write_J170 u130.1 u130.2 a1 a2 a3 (u130.2 15 r130.toNatClampNeg) post))))))
def wp_Md_write_J101 (σ : Nat → Int32) (α : Nat → Nat → Int32) (a1 : Int32) (a2 : Int32) (a3 : Int32) (a4 : Int32) (post : gS → Prop) : Prop := wp_Md_write_J102 σ α a1 a2 a3 a4 (0 : Int32) post
def wp_Md_write_J56 (σ : Nat → Int32) (α : Nat → Nat → Int32) (a1 : Int32) (a2 : Int32) (a3 : Int32) (t0 : Int32) (post : gS → Prop) : Prop := (t0 = 0 → wp_Md_write_J101 σ α a1 a2 a3 t0 post) ∧ (¬ t0 = 0 → (a1 ≤ 0 → wp_Md_write_J101 σ α a1 a2 a3 t0 post) ∧ (¬ a1 ≤ 0 → vp_in (a1 - (1 : Int32)) 64 ∧ ((¬ (α 12 (a1 - (1 : Int32)).toNatClampNeg) = 0 → wp_Md_write_J101 σ α a1 a2 a3 t0 post) ∧ ((α 12 (a1 - (1 : Int32)).toNatClampNeg) = 0 → vp_in (a1 - (1 : Int32)) 64 ∧ ((¬ (α 11 (a1 - (1 : Int32)).toNatClampNeg) = 0 → wp_Md_write_J101 σ α a1 a2 a3 t0 post) ∧ ((α 11 (a1 - (1 : Int32)).toNatClampNeg) = 0 → wp_Md_isSecond σ α a1 (fun (r91 : Int32) (u91 : gS) => (r91 = 0 → wp_Md_write_J101 u91.1 u91.2 a1 a2 a3 t0 post) ∧ (¬ r91 = 0 → wp_Md_write_J102 u91.1 u91.2 a1 a2 a3 t0 (1 : Int32) post))))))))
def wp_Md_write_J55 (σ : Nat → Int32) (α : Nat → Nat → Int32) (a1 : Int32) (a2 : Int32) (a3 : Int32) (post : gS → Prop) : Prop := wp_Md_write_J56 σ α a1 a2 a3 (0 : Int32) post
def wp_Md_write (σ : Nat → Int32) (α : Nat → Nat → Int32) (x1 : Int32) (post : gS → Prop) : Prop := vp_in x1 64 ∧ (vp_in x1 64 ∧ (vp_in x1 64 ∧ (vp_in x1 64 ∧ (vp_in x1 64 ∧ ((¬ (α 11 x1.toNatClampNeg) = 0 → wp_Md_write_J55 σ α x1 (α 15 x1.toNatClampNeg) (((α 11 x1.toNatClampNeg) ||| ((α 12 x1.toNatClampNeg) <<< ((4 : Int32) &&& 31))) ||| ((α 16 x1.toNatClampNeg) <<< ((10 : Int32) &&& 31))) post) ∧ ((α 11 x1.toNatClampNeg) = 0 → vp_in x1 64 ∧ ((¬ (α 12 x1.toNatClampNeg) = 0 → wp_Md_write_J55 σ α x1 (α 15 x1.toNatClampNeg) (((α 11 x1.toNatClampNeg) ||| ((α 12 x1.toNatClampNeg) <<< ((4 : Int32) &&& 31))) ||| ((α 16 x1.toNatClampNeg) <<< ((10 : Int32) &&& 31))) post) ∧ ((α 12 x1.toNatClampNeg) = 0 → wp_Md_write_J56 σ α x1 (α 15 x1.toNatClampNeg) (((α 11 x1.toNatClampNeg) ||| ((α 12 x1.toNatClampNeg) <<< ((4 : Int32) &&& 31))) ||| ((α 16 x1.toNatClampNeg) <<< ((10 : Int32) &&& 31))) (1 : Int32) post))))))))
def wp_Md_assemble_B182 (XL182 : (Nat → Int32) → (Nat → Nat → Int32) → Int32 → Prop) (σ : Nat → Int32) (α : Nat → Nat → Int32) (a2 : Int32) (post : Int32 → gS → Prop) : Prop := ((16 : Int32) ≤ a2 → post (σ 24) (σ, α)) ∧ (¬ (16 : Int32) ≤ a2 → vp_in a2 16 ∧ (vp_in a2 16 ∧ (XL182 σ (va_up α 21 (upd (α 21) a2.toNatClampNeg (α 19 a2.toNatClampNeg))) (a2 + Int32.ofInt 1))))
def wp_Md_assemble_L182 (σ : Nat → Int32) (α : Nat → Nat → Int32) (a2 : Int32) (post : Int32 → gS → Prop) : Prop := ∀ XL182 : (Nat → Int32) → (Nat → Nat → Int32) → Int32 → Prop, (∀ (σ : Nat → Int32) (α : Nat → Nat → Int32) (a2 : Int32), wp_Md_assemble_B182 XL182 σ α a2 post → XL182 σ α a2) → XL182 σ α a2
def wp_Md_assemble_B150 (XL150 : (Nat → Int32) → (Nat → Nat → Int32) → Int32 → Prop) (σ : Nat → Int32) (α : Nat → Nat → Int32) (a2 : Int32) (post : Int32 → gS → Prop) : Prop := ((σ 23) ≤ a2 → wp_Md_assemble_L182 σ α (0 : Int32) post) ∧ (¬ (σ 23) ≤ a2 → wp_Md_firstOf σ α a2 (fun (r169 : Int32) (u169 : gS) => vp_in r169 64 ∧ (vp_in a2 12 ∧ (XL150 u169.1 (va_up u169.2 20 (upd (u169.2 20) a2.toNatClampNeg (u169.2 15 r169.toNatClampNeg))) (a2 + Int32.ofInt 1)))))
def wp_Md_assemble_L150 (σ : Nat → Int32) (α : Nat → Nat → Int32) (a2 : Int32) (post : Int32 → gS → Prop) : Prop := ∀ XL150 : (Nat → Int32) → (Nat → Nat → Int32) → Int32 → Prop, (∀ (σ : Nat → Int32) (α : Nat → Nat → Int32) (a2 : Int32), wp_Md_assemble_B150 XL150 σ α a2 post → XL150 σ α a2) → XL150 σ α a2
def wp_Md_assemble_B121 (XL121 : (Nat → Int32) → (Nat → Nat → Int32) → Int32 → Prop) (σ : Nat → Int32) (α : Nat → Nat → Int32) (a2 : Int32) (post : Int32 → gS → Prop) : Prop := ((σ 24) ≤ a2 → wp_Md_assemble_L150 (va_up σ 25 (σ 23)) α (0 : Int32) post) ∧ (¬ (σ 24) ≤ a2 → wp_Md_write σ α a2 (fun (u131 : gS) => XL121 u131.1 u131.2 (a2 + Int32.ofInt 1)))
def wp_Md_assemble_L121 (σ : Nat → Int32) (α : Nat → Nat → Int32) (a2 : Int32) (post : Int32 → gS → Prop) : Prop := ∀ XL121 : (Nat → Int32) → (Nat → Nat → Int32) → Int32 → Prop, (∀ (σ : Nat → Int32) (α : Nat → Nat → Int32) (a2 : Int32), wp_Md_assemble_B121 XL121 σ α a2 post → XL121 σ α a2) → XL121 σ α a2
def wp_Md_assemble_B99 (XL99 : (Nat → Int32) → (Nat → Nat → Int32) → Int32 → Prop) (σ : Nat → Int32) (α : Nat → Nat → Int32) (a2 : Int32) (post : Int32 → gS → Prop) : Prop := ((64 : Int32) ≤ a2 → wp_Md_assemble_L121 σ α (0 : Int32) post) ∧ (¬ (64 : Int32) ≤ a2 → vp_in a2 64 ∧ (XL99 σ (va_up α 1 (upd (α 1) a2.toNatClampNeg (1015824 : Int32))) (a2 + Int32.ofInt 1)))
def wp_Md_assemble_L99 (σ : Nat → Int32) (α : Nat → Nat → Int32) (a2 : Int32) (post : Int32 → gS → Prop) : Prop := ∀ XL99 : (Nat → Int32) → (Nat → Nat → Int32) → Int32 → Prop, (∀ (σ : Nat → Int32) (α : Nat → Nat → Int32) (a2 : Int32), wp_Md_assemble_B99 XL99 σ α a2 post → XL99 σ α a2) → XL99 σ α a2
def wp_Md_assemble_J95 (σ : Nat → Int32) (α : Nat → Nat → Int32) (post : Int32 → gS → Prop) : Prop := post (-1 : Int32) (σ, α)
def wp_Md_assemble_J62 (XL22 : (Nat → Int32) → (Nat → Nat → Int32) → Int32 → Int32 → Prop) (σ : Nat → Int32) (α : Nat → Nat → Int32) (a2 : Int32) (t0 : Int32) (post : Int32 → gS → Prop) : Prop := XL22 σ α t0 (a2 + Int32.ofInt 1)
def wp_Md_assemble_J61 (XL22 : (Nat → Int32) → (Nat → Nat → Int32) → Int32 → Int32 → Prop) (σ : Nat → Int32) (α : Nat → Nat → Int32) (a2 : Int32) (post : Int32 → gS → Prop) : Prop := wp_Md_assemble_J62 XL22 σ α a2 (0 : Int32) post
def wp_Md_assemble_J57 (XL22 : (Nat → Int32) → (Nat → Nat → Int32) → Int32 → Int32 → Prop) (σ : Nat → Int32) (α : Nat → Nat → Int32) (a2 : Int32) (post : Int32 → gS → Prop) : Prop := wp_Md_assemble_J62 XL22 σ α a2 (1 : Int32) post
def wp_Md_assemble_B22 (XL22 : (Nat → Int32) → (Nat → Nat → Int32) → Int32 → Int32 → Prop) (σ : Nat → Int32) (α : Nat → Nat → Int32) (a1 : Int32) (a2 : Int32) (post : Int32 → gS → Prop) : Prop := ((σ 23) ≤ a2 → (¬ a1 = 0 → wp_Md_listAll σ α (fun (u76 : gS) => ((64 : Int32) < (u76.1 24) → wp_Md_assemble_J95 u76.1 u76.2 post) ∧ (¬ (64 : Int32) < (u76.1 24) → wp_Md_place u76.1 u76.2 (fun (r89 : Int32) (u89 : gS) => (¬ r89 = 0 → wp_Md_assemble_L99 u89.1 u89.2 (0 : Int32) post) ∧ (r89 = 0 → wp_Md_assemble_J95 u89.1 u89.2 post))))) ∧ (a1 = 0 → post (-1 : Int32) (σ, α))) ∧ (¬ (σ 23) ≤ a2 → (a1 = 0 → wp_Md_assemble_J61 XL22 σ α a2 post) ∧ (¬ a1 = 0 → vp_in a2 12 ∧ ((¬ (α 6 a2.toNatClampNeg) = (4 : Int32) → wp_Md_assemble_J57 XL22 σ α a2 post) ∧ ((α 6 a2.toNatClampNeg) = (4 : Int32) → vp_in a2 12 ∧ (((σ 23) ≤ (α 10 a2.toNatClampNeg) → wp_Md_assemble_J61 XL22 σ α a2 post) ∧ (¬ (σ 23) ≤ (α 10 a2.toNatClampNeg) → wp_Md_assemble_J57 XL22 σ α a2 post))))))
def wp_Md_assemble_L22 (σ : Nat → Int32) (α : Nat → Nat → Int32) (a1 : Int32) (a2 : Int32) (post : Int32 → gS → Prop) : Prop := ∀ XL22 : (Nat → Int32) → (Nat → Nat → Int32) → Int32 → Int32 → Prop, (∀ (σ : Nat → Int32) (α : Nat → Nat → Int32) (a1 : Int32) (a2 : Int32), wp_Md_assemble_B22 XL22 σ α a1 a2 post → XL22 σ α a1 a2) → XL22 σ α a1 a2
def wp_Md_assemble_J19 (σ : Nat → Int32) (α : Nat → Nat → Int32) (t0 : Int32) (post : Int32 → gS → Prop) : Prop := wp_Md_assemble_L22 σ α t0 (0 : Int32) post
def wp_Md_assemble_J18 (σ : Nat → Int32) (α : Nat → Nat → Int32) (post : Int32 → gS → Prop) : Prop := wp_Md_assemble_J19 σ α (0 : Int32) post
def wp_Md_assemble (σ : Nat → Int32) (α : Nat → Nat → Int32) (post : Int32 → gS → Prop) : Prop := ((σ 23) ≤ 0 → wp_Md_assemble_J18 σ α post) ∧ (¬ (σ 23) ≤ 0 → (¬ (σ 1) = 0 → wp_Md_assemble_J18 σ α post) ∧ ((σ 1) = 0 → wp_Md_assemble_J19 σ α (1 : Int32) post))
def wp_Md_placed_J22 (σ : Nat → Int32) (α : Nat → Nat → Int32) (t0 : Int32) (post : Int32 → gS → Prop) : Prop := post t0 (σ, α)
def wp_Md_placed_J12 (σ : Nat → Int32) (α : Nat → Nat → Int32) (post : Int32 → gS → Prop) : Prop := wp_Md_placed_J22 σ α (-1 : Int32) post
def wp_Md_placed (σ : Nat → Int32) (α : Nat → Nat → Int32) (x1 : Int32) (post : Int32 → gS → Prop) : Prop := (x1 < 0 → wp_Md_placed_J12 σ α post) ∧ (¬ x1 < 0 → (x1 < (σ 25) → vp_in x1 12 ∧ (wp_Md_placed_J22 σ α (α 20 x1.toNatClampNeg) post)) ∧ (¬ x1 < (σ 25) → wp_Md_placed_J12 σ α post))
def wp_Md_variable_J20 (σ : Nat → Int32) (α : Nat → Nat → Int32) (t0 : Int32) (post : Int32 → gS → Prop) : Prop := post t0 (σ, α)
def wp_Md_variable_J10 (σ : Nat → Int32) (α : Nat → Nat → Int32) (post : Int32 → gS → Prop) : Prop := wp_Md_variable_J20 σ α (-1 : Int32) post
def wp_Md_variable (σ : Nat → Int32) (α : Nat → Nat → Int32) (x1 : Int32) (post : Int32 → gS → Prop) : Prop := (x1 < 0 → wp_Md_variable_J10 σ α post) ∧ (¬ x1 < 0 → (x1 ≤ (15 : Int32) → vp_in x1 16 ∧ (wp_Md_variable_J20 σ α (α 21 x1.toNatClampNeg) post)) ∧ (¬ x1 ≤ (15 : Int32) → wp_Md_variable_J10 σ α post))
def wp_Md_init_B186 (XL186 : (Nat → Nat) → (Nat → Int32) → (Nat → Nat → Int32) → Int32 → Prop) (ad : Nat → Nat) (σ : Nat → Int32) (α : Nat → Nat → Int32) (a1 : Int32) (post : gSA → Prop) : Prop := ((16 : Int32) ≤ a1 → post (ad, σ, α)) ∧ (¬ (16 : Int32) ≤ a1 → vp_in a1 16 ∧ (XL186 ad σ (va_up α 21 (upd (α 21) a1.toNatClampNeg (-1 : Int32))) (a1 + Int32.ofInt 1)))
def wp_Md_init_L186 (ad : Nat → Nat) (σ : Nat → Int32) (α : Nat → Nat → Int32) (a1 : Int32) (post : gSA → Prop) : Prop := ∀ XL186 : (Nat → Nat) → (Nat → Int32) → (Nat → Nat → Int32) → Int32 → Prop, (∀ (ad : Nat → Nat) (σ : Nat → Int32) (α : Nat → Nat → Int32) (a1 : Int32), wp_Md_init_B186 XL186 ad σ α a1 post → XL186 ad σ α a1) → XL186 ad σ α a1
def wp_Md_init (ad : Nat → Nat) (σ : Nat → Int32) (α : Nat → Nat → Int32) (post : gSA → Prop) : Prop := wp_Md_init_L186 ad σ α (0 : Int32) post
def mS0 : Nat → Int32 := (va_up (va_up (fun _ => (0 : Int32)) 19 (-1 : Int32)) 22 (-6 : Int32))
def mA0 : Nat → Nat → Int32 := (fun _ _ => (0 : Int32))
def wp_law_J518 (XL18 : Nat → Nat → (Nat → Nat) → (Nat → Nat) → (Nat → Int32) → (Nat → Nat → Int32) → (Nat → Int32) → (Nat → Nat → Int32) → Int32 → Prop) (wc : Nat) (wb : Nat) (kp : Nat → Nat) (tp : Nat → Nat) (σ : Nat → Int32) (α : Nat → Nat → Int32) (μ : Nat → Int32) (β : Nat → Nat → Int32) (a3 : Int32) : Prop := XL18 wc wb kp tp σ α μ β (a3 + Int32.ofInt 6)
def wp_law_C0 (XL18 : Nat → Nat → (Nat → Nat) → (Nat → Nat) → (Nat → Int32) → (Nat → Nat → Int32) → (Nat → Int32) → (Nat → Nat → Int32) → Int32 → Prop) (L : Nat) (xs : Nat → Int32) (wc : Nat) (wb : Nat) (kp : Nat → Nat) (tp : Nat → Nat) (σ : Nat → Int32) (α : Nat → Nat → Int32) (μ : Nat → Int32) (β : Nat → Nat → Int32) (a3 : Int32) : Prop := vp_in (a3 + (1 : Int32)) L ∧ (vp_in (a3 + (2 : Int32)) L ∧ (vp_in (a3 + (3 : Int32)) L ∧ (wp_Dm_order σ α (xs (a3 + (1 : Int32)).toNatClampNeg) (xs (a3 + (2 : Int32)).toNatClampNeg) (xs (a3 + (3 : Int32)).toNatClampNeg) (fun (r120 : Int32) (u120 : gS) => wp_Md_order μ β (xs (a3 + (1 : Int32)).toNatClampNeg) (xs (a3 + (2 : Int32)).toNatClampNeg) (xs (a3 + (3 : Int32)).toNatClampNeg) (fun (r139 : Int32) (u139 : gS) => (r120 = r139 → wp_law_J518 XL18 wc wb kp tp u120.1 u120.2 u139.1 u139.2 a3) ∧ (¬ r120 = r139 → False))))))
def wp_law_C1 (XL18 : Nat → Nat → (Nat → Nat) → (Nat → Nat) → (Nat → Int32) → (Nat → Nat → Int32) → (Nat → Int32) → (Nat → Nat → Int32) → Int32 → Prop) (L : Nat) (xs : Nat → Int32) (wc : Nat) (wb : Nat) (kp : Nat → Nat) (tp : Nat → Nat) (σ : Nat → Int32) (α : Nat → Nat → Int32) (μ : Nat → Int32) (β : Nat → Nat → Int32) (a3 : Int32) : Prop := vp_in (a3 + (1 : Int32)) L ∧ (vp_in (a3 + (2 : Int32)) L ∧ (vp_in (a3 + (3 : Int32)) L ∧ (wp_Dm_word σ α (xs (a3 + (1 : Int32)).toNatClampNeg) (xs (a3 + (2 : Int32)).toNatClampNeg) ((xs (a3 + (3 : Int32)).toNatClampNeg).toInt16.toInt32) (fun (r164 : Int32) (u164 : gS) => wp_Md_word μ β (xs (a3 + (1 : Int32)).toNatClampNeg) (xs (a3 + (2 : Int32)).toNatClampNeg) ((xs (a3 + (3 : Int32)).toNatClampNeg).toInt16.toInt32) (fun (r184 : Int32) (u184 : gS) => (r164 = r184 → wp_law_J518 XL18 wc wb kp tp u164.1 u164.2 u184.1 u184.2 a3) ∧ (¬ r164 = r184 → False))))))
def wp_law_C2 (XL18 : Nat → Nat → (Nat → Nat) → (Nat → Nat) → (Nat → Int32) → (Nat → Nat → Int32) → (Nat → Int32) → (Nat → Nat → Int32) → Int32 → Prop) (L : Nat) (xs : Nat → Int32) (wc : Nat) (wb : Nat) (kp : Nat → Nat) (tp : Nat → Nat) (σ : Nat → Int32) (α : Nat → Nat → Int32) (μ : Nat → Int32) (β : Nat → Nat → Int32) (a3 : Int32) : Prop := vp_in (a3 + (1 : Int32)) L ∧ (wp_Dm_card σ α ((xs (a3 + (1 : Int32)).toNatClampNeg).toInt16.toInt32) (fun (r199 : Int32) (u199 : gS) => wp_Md_card μ β ((xs (a3 + (1 : Int32)).toNatClampNeg).toInt16.toInt32) (fun (r209 : Int32) (u209 : gS) => (r199 = r209 → wp_law_J518 XL18 wc wb kp tp u199.1 u199.2 u209.1 u209.2 a3) ∧ (¬ r199 = r209 → False))))
def wp_law_C3 (XL18 : Nat → Nat → (Nat → Nat) → (Nat → Nat) → (Nat → Int32) → (Nat → Nat → Int32) → (Nat → Int32) → (Nat → Nat → Int32) → Int32 → Prop) (L : Nat) (xs : Nat → Int32) (wc : Nat) (wb : Nat) (kp : Nat → Nat) (tp : Nat → Nat) (σ : Nat → Int32) (α : Nat → Nat → Int32) (μ : Nat → Int32) (β : Nat → Nat → Int32) (a3 : Int32) : Prop := vp_in (a3 + (1 : Int32)) L ∧ (vp_in (a3 + (2 : Int32)) L ∧ (wp_Dm_start σ α (xs (a3 + (1 : Int32)).toNatClampNeg) (xs (a3 + (2 : Int32)).toNatClampNeg) (fun (r228 : Int32) (u228 : gS) => wp_Md_start μ β (xs (a3 + (1 : Int32)).toNatClampNeg) (xs (a3 + (2 : Int32)).toNatClampNeg) (fun (r242 : Int32) (u242 : gS) => (r228 = r242 → wp_law_J518 XL18 wc wb kp tp u228.1 u228.2 u242.1 u242.2 a3) ∧ (¬ r228 = r242 → False)))))
def wp_law_C4 (XL18 : Nat → Nat → (Nat → Nat) → (Nat → Nat) → (Nat → Int32) → (Nat → Nat → Int32) → (Nat → Int32) → (Nat → Nat → Int32) → Int32 → Prop) (L : Nat) (xs : Nat → Int32) (wc : Nat) (wb : Nat) (kp : Nat → Nat) (tp : Nat → Nat) (σ : Nat → Int32) (α : Nat → Nat → Int32) (μ : Nat → Int32) (β : Nat → Nat → Int32) (a3 : Int32) : Prop := vp_in (a3 + (1 : Int32)) L ∧ (wp_Dm_run wc wb σ α (xs (a3 + (1 : Int32)).toNatClampNeg) (fun (r256 : Int32) (u256 : gSW) => wp_Md_run μ β (xs (a3 + (1 : Int32)).toNatClampNeg) (fun (r265 : Int32) (u265 : gS) => (r256 = r265 → wp_law_J518 XL18 u256.1 u256.2.1 kp tp u256.2.2.1 u256.2.2.2 u265.1 u265.2 a3) ∧ (¬ r256 = r265 → False))))
def wp_law_C5 (XL18 : Nat → Nat → (Nat → Nat) → (Nat → Nat) → (Nat → Int32) → (Nat → Nat → Int32) → (Nat → Int32) → (Nat → Nat → Int32) → Int32 → Prop) (L : Nat) (xs : Nat → Int32) (wc : Nat) (wb : Nat) (kp : Nat → Nat) (tp : Nat → Nat) (σ : Nat → Int32) (α : Nat → Nat → Int32) (μ : Nat → Int32) (β : Nat → Nat → Int32) (a3 : Int32) : Prop := vp_in (a3 + (1 : Int32)) L ∧ (wp_Dm_look σ α (xs (a3 + (1 : Int32)).toNatClampNeg) (fun (r279 : Int32) (u279 : gS) => wp_Md_look μ β (xs (a3 + (1 : Int32)).toNatClampNeg) (fun (r288 : Int32) (u288 : gS) => (r279 = r288 → wp_law_J518 XL18 wc wb kp tp u279.1 u279.2 u288.1 u288.2 a3) ∧ (¬ r279 = r288 → False))))
def wp_law_C6 (XL18 : Nat → Nat → (Nat → Nat) → (Nat → Nat) → (Nat → Int32) → (Nat → Nat → Int32) → (Nat → Int32) → (Nat → Nat → Int32) → Int32 → Prop) (L : Nat) (xs : Nat → Int32) (wc : Nat) (wb : Nat) (kp : Nat → Nat) (tp : Nat → Nat) (σ : Nat → Int32) (α : Nat → Nat → Int32) (μ : Nat → Int32) (β : Nat → Nat → Int32) (a3 : Int32) : Prop := vp_in (a3 + (1 : Int32)) L ∧ (vp_in (a3 + (2 : Int32)) L ∧ (wp_Dm_peek σ α (xs (a3 + (1 : Int32)).toNatClampNeg) (xs (a3 + (2 : Int32)).toNatClampNeg) (fun (r307 : Int32) (u307 : gS) => wp_Md_peek μ β (xs (a3 + (1 : Int32)).toNatClampNeg) (xs (a3 + (2 : Int32)).toNatClampNeg) (fun (r321 : Int32) (u321 : gS) => (r307 = r321 → wp_law_J518 XL18 wc wb kp tp u307.1 u307.2 u321.1 u321.2 a3) ∧ (¬ r307 = r321 → False)))))
def wp_law_C7 (XL18 : Nat → Nat → (Nat → Nat) → (Nat → Nat) → (Nat → Int32) → (Nat → Nat → Int32) → (Nat → Int32) → (Nat → Nat → Int32) → Int32 → Prop) (L : Nat) (xs : Nat → Int32) (wc : Nat) (wb : Nat) (kp : Nat → Nat) (tp : Nat → Nat) (σ : Nat → Int32) (α : Nat → Nat → Int32) (μ : Nat → Int32) (β : Nat → Nat → Int32) (a3 : Int32) : Prop := vp_in (a3 + (1 : Int32)) L ∧ (vp_in (a3 + (2 : Int32)) L ∧ (wp_Dm_read σ α (xs (a3 + (1 : Int32)).toNatClampNeg) (xs (a3 + (2 : Int32)).toNatClampNeg) (fun (r340 : Int32) (u340 : gS) => wp_Md_read_II μ β (xs (a3 + (1 : Int32)).toNatClampNeg) (xs (a3 + (2 : Int32)).toNatClampNeg) (fun (r354 : Int32) (u354 : gS) => (r340 = r354 → wp_law_J518 XL18 wc wb kp tp u340.1 u340.2 u354.1 u354.2 a3) ∧ (¬ r340 = r354 → False)))))
def wp_law_C8 (XL18 : Nat → Nat → (Nat → Nat) → (Nat → Nat) → (Nat → Int32) → (Nat → Nat → Int32) → (Nat → Int32) → (Nat → Nat → Int32) → Int32 → Prop) (L : Nat) (xs : Nat → Int32) (wc : Nat) (wb : Nat) (kp : Nat → Nat) (tp : Nat → Nat) (σ : Nat → Int32) (α : Nat → Nat → Int32) (μ : Nat → Int32) (β : Nat → Nat → Int32) (a3 : Int32) : Prop := vp_in (a3 + (1 : Int32)) L ∧ (wp_Dm_punched σ α (xs (a3 + (1 : Int32)).toNatClampNeg) (fun (r368 : Int32) (u368 : gS) => wp_Md_punched μ β (xs (a3 + (1 : Int32)).toNatClampNeg) (fun (r377 : Int32) (u377 : gS) => (r368 = r377 → wp_law_J518 XL18 wc wb kp tp u368.1 u368.2 u377.1 u377.2 a3) ∧ (¬ r368 = r377 → False))))
def wp_law_C9 (XL18 : Nat → Nat → (Nat → Nat) → (Nat → Nat) → (Nat → Int32) → (Nat → Nat → Int32) → (Nat → Int32) → (Nat → Nat → Int32) → Int32 → Prop) (L : Nat) (xs : Nat → Int32) (wc : Nat) (wb : Nat) (kp : Nat → Nat) (tp : Nat → Nat) (σ : Nat → Int32) (α : Nat → Nat → Int32) (μ : Nat → Int32) (β : Nat → Nat → Int32) (a3 : Int32) : Prop := vp_in (a3 + (1 : Int32)) L ∧ (vp_in (a3 + (2 : Int32)) L ∧ (vp_in (a3 + (3 : Int32)) L ∧ (vp_in (a3 + (4 : Int32)) L ∧ (vp_in (a3 + (5 : Int32)) L ∧ (wp_Dm_statement σ α (xs (a3 + (1 : Int32)).toNatClampNeg) (xs (a3 + (2 : Int32)).toNatClampNeg) (xs (a3 + (3 : Int32)).toNatClampNeg) (xs (a3 + (4 : Int32)).toNatClampNeg) (xs (a3 + (5 : Int32)).toNatClampNeg) (fun (r411 : Int32) (u411 : gS) => wp_Md_statement μ β (xs (a3 + (1 : Int32)).toNatClampNeg) (xs (a3 + (2 : Int32)).toNatClampNeg) (xs (a3 + (3 : Int32)).toNatClampNeg) (xs (a3 + (4 : Int32)).toNatClampNeg) (xs (a3 + (5 : Int32)).toNatClampNeg) (fun (r440 : Int32) (u440 : gS) => (r411 = r440 → wp_law_J518 XL18 wc wb kp tp u411.1 u411.2 u440.1 u440.2 a3) ∧ (¬ r411 = r440 → False))))))))
def wp_law_C10 (XL18 : Nat → Nat → (Nat → Nat) → (Nat → Nat) → (Nat → Int32) → (Nat → Nat → Int32) → (Nat → Int32) → (Nat → Nat → Int32) → Int32 → Prop) (L : Nat) (xs : Nat → Int32) (wc : Nat) (wb : Nat) (kp : Nat → Nat) (tp : Nat → Nat) (σ : Nat → Int32) (α : Nat → Nat → Int32) (μ : Nat → Int32) (β : Nat → Nat → Int32) (a3 : Int32) : Prop := wp_Dm_clear σ α (fun (u449 : gS) => wp_Md_clear μ β (fun (u453 : gS) => wp_law_J518 XL18 wc wb kp tp u449.1 u449.2 u453.1 u453.2 a3))
def wp_law_C11 (XL18 : Nat → Nat → (Nat → Nat) → (Nat → Nat) → (Nat → Int32) → (Nat → Nat → Int32) → (Nat → Int32) → (Nat → Nat → Int32) → Int32 → Prop) (L : Nat) (xs : Nat → Int32) (wc : Nat) (wb : Nat) (kp : Nat → Nat) (tp : Nat → Nat) (σ : Nat → Int32) (α : Nat → Nat → Int32) (μ : Nat → Int32) (β : Nat → Nat → Int32) (a3 : Int32) : Prop := wp_Dm_assemble kp tp σ α (fun (r460 : Int32) (u460 : gSP) => wp_Md_assemble μ β (fun (r464 : Int32) (u464 : gS) => (r460 = r464 → wp_law_J518 XL18 wc wb u460.1 u460.2.1 u460.2.2.1 u460.2.2.2 u464.1 u464.2 a3) ∧ (¬ r460 = r464 → False)))
def wp_law_C12 (XL18 : Nat → Nat → (Nat → Nat) → (Nat → Nat) → (Nat → Int32) → (Nat → Nat → Int32) → (Nat → Int32) → (Nat → Nat → Int32) → Int32 → Prop) (L : Nat) (xs : Nat → Int32) (wc : Nat) (wb : Nat) (kp : Nat → Nat) (tp : Nat → Nat) (σ : Nat → Int32) (α : Nat → Nat → Int32) (μ : Nat → Int32) (β : Nat → Nat → Int32) (a3 : Int32) : Prop := vp_in (a3 + (1 : Int32)) L ∧ (wp_Dm_placed σ α (xs (a3 + (1 : Int32)).toNatClampNeg) (fun (r478 : Int32) (u478 : gS) => wp_Md_placed μ β (xs (a3 + (1 : Int32)).toNatClampNeg) (fun (r487 : Int32) (u487 : gS) => (r478 = r487 → wp_law_J518 XL18 wc wb kp tp u478.1 u478.2 u487.1 u487.2 a3) ∧ (¬ r478 = r487 → False))))
def wp_law_C13 (XL18 : Nat → Nat → (Nat → Nat) → (Nat → Nat) → (Nat → Int32) → (Nat → Nat → Int32) → (Nat → Int32) → (Nat → Nat → Int32) → Int32 → Prop) (L : Nat) (xs : Nat → Int32) (wc : Nat) (wb : Nat) (kp : Nat → Nat) (tp : Nat → Nat) (σ : Nat → Int32) (α : Nat → Nat → Int32) (μ : Nat → Int32) (β : Nat → Nat → Int32) (a3 : Int32) : Prop := vp_in (a3 + (1 : Int32)) L ∧ (wp_Dm_variable σ α (xs (a3 + (1 : Int32)).toNatClampNeg) (fun (r501 : Int32) (u501 : gS) => wp_Md_variable μ β (xs (a3 + (1 : Int32)).toNatClampNeg) (fun (r510 : Int32) (u510 : gS) => (r501 = r510 → wp_law_J518 XL18 wc wb kp tp u501.1 u501.2 u510.1 u510.2 a3) ∧ (¬ r501 = r510 → False))))
def wp_law_B18 (XL18 : Nat → Nat → (Nat → Nat) → (Nat → Nat) → (Nat → Int32) → (Nat → Nat → Int32) → (Nat → Int32) → (Nat → Nat → Int32) → Int32 → Prop) (L : Nat) (xs : Nat → Int32) (wc : Nat) (wb : Nat) (kp : Nat → Nat) (tp : Nat → Nat) (σ : Nat → Int32) (α : Nat → Nat → Int32) (μ : Nat → Int32) (β : Nat → Nat → Int32) (a3 : Int32) : Prop := (((Int32.ofNat L) - (6 : Int32)) < a3 → True) ∧ (¬ ((Int32.ofNat L) - (6 : Int32)) < a3 → vp_in a3 L ∧ ((((xs a3.toNatClampNeg) &&& (15 : Int32)) = 0 → wp_law_C0 XL18 L xs wc wb kp tp σ α μ β a3) ∧ (((xs a3.toNatClampNeg) &&& (15 : Int32)) = 1 → wp_law_C1 XL18 L xs wc wb kp tp σ α μ β a3) ∧ (((xs a3.toNatClampNeg) &&& (15 : Int32)) = 2 → wp_law_C2 XL18 L xs wc wb kp tp σ α μ β a3) ∧ (((xs a3.toNatClampNeg) &&& (15 : Int32)) = 3 → wp_law_C3 XL18 L xs wc wb kp tp σ α μ β a3) ∧ (((xs a3.toNatClampNeg) &&& (15 : Int32)) = 4 → wp_law_C4 XL18 L xs wc wb kp tp σ α μ β a3) ∧ (((xs a3.toNatClampNeg) &&& (15 : Int32)) = 5 → wp_law_C5 XL18 L xs wc wb kp tp σ α μ β a3) ∧ (((xs a3.toNatClampNeg) &&& (15 : Int32)) = 6 → wp_law_C6 XL18 L xs wc wb kp tp σ α μ β a3) ∧ (((xs a3.toNatClampNeg) &&& (15 : Int32)) = 7 → wp_law_C7 XL18 L xs wc wb kp tp σ α μ β a3) ∧ (((xs a3.toNatClampNeg) &&& (15 : Int32)) = 8 → wp_law_C8 XL18 L xs wc wb kp tp σ α μ β a3) ∧ (((xs a3.toNatClampNeg) &&& (15 : Int32)) = 9 → wp_law_C9 XL18 L xs wc wb kp tp σ α μ β a3) ∧ (((xs a3.toNatClampNeg) &&& (15 : Int32)) = 10 → wp_law_C10 XL18 L xs wc wb kp tp σ α μ β a3) ∧ (((xs a3.toNatClampNeg) &&& (15 : Int32)) = 11 → wp_law_C11 XL18 L xs wc wb kp tp σ α μ β a3) ∧ (((xs a3.toNatClampNeg) &&& (15 : Int32)) = 12 → wp_law_C12 XL18 L xs wc wb kp tp σ α μ β a3) ∧ (((xs a3.toNatClampNeg) &&& (15 : Int32)) = 13 → wp_law_C13 XL18 L xs wc wb kp tp σ α μ β a3) ∧ (((xs a3.toNatClampNeg) &&& (15 : Int32)).toInt < 0 ∨ 13 < ((xs a3.toNatClampNeg) &&& (15 : Int32)).toInt → wp_law_J518 XL18 wc wb kp tp σ α μ β a3)))
def wp_law_L18 (L : Nat) (xs : Nat → Int32) (wc : Nat) (wb : Nat) (kp : Nat → Nat) (tp : Nat → Nat) (σ : Nat → Int32) (α : Nat → Nat → Int32) (μ : Nat → Int32) (β : Nat → Nat → Int32) (a3 : Int32) : Prop := ∀ XL18 : Nat → Nat → (Nat → Nat) → (Nat → Nat) → (Nat → Int32) → (Nat → Nat → Int32) → (Nat → Int32) → (Nat → Nat → Int32) → Int32 → Prop, (∀ (wc : Nat) (wb : Nat) (kp : Nat → Nat) (tp : Nat → Nat) (σ : Nat → Int32) (α : Nat → Nat → Int32) (μ : Nat → Int32) (β : Nat → Nat → Int32) (a3 : Int32), wp_law_B18 XL18 L xs wc wb kp tp σ α μ β a3 → XL18 wc wb kp tp σ α μ β a3) → XL18 wc wb kp tp σ α μ β a3
end
section
-- pure rows: what relates the two states (σ, α) and (μ, β)
theorem bs_t {c A B : Prop} (h : c) (b : B) : (¬ c → A) ∧ (c → B) := ⟨fun x => absurd h x, fun _ => b⟩
theorem bs_f {c A B : Prop} (h : ¬ c) (a : A) : (¬ c → A) ∧ (c → B) := ⟨fun _ => a, fun x => absurd x h⟩
/-- a value that a short keeps -/
def qS (x : Int32) : Prop := narrow .short (.int x) = .int x
theorem qS_nar (x : Int32) : qS (vp_nar .short x) := by
  unfold qS
  rw [vp_nar_short]
  exact pk_ns x
theorem qS_s (x : Int32) : qS x.toInt16.toInt32 := pk_ns x
theorem qS_0 : qS 0 := rfl
theorem qS_id {x : Int32} (h : qS x) : vp_nar .short x = x := by
  have h : narrow .short (.int x) = .int x := h
  simp only [vp_nar, h]
theorem qS_upd {f : Nat → Int32} {k : Nat} {x : Int32} (h : ∀ j, qS (f j)) (hx : qS x) : ∀ j, qS (upd f k x j) := by
  intro j
  unfold upd
  split
  · exact hx
  · exact h j
theorem q_idx (i j : Nat) : nI i * 32 + nI j = nI (32 * i + j) := by
  show nI i * nI 32 + nI j = _
  rw [pk_mul, nI_add, Nat.mul_comm]
theorem q_idx' (i j : Nat) : 32 * nI i + nI j = nI (32 * i + j) := by
  show nI 32 * nI i + nI j = _
  rw [pk_mul, nI_add]
theorem q_sw {x : Int32} {lo hi : Int} (A B : Int32) (ha : A.toInt = lo) (hb : B.toInt = hi) (h : x.toInt < lo ∨ hi < x.toInt) : x < A ∨ B < x := by
  rw [← ha, ← hb] at h
  rcases h with h | h
  · exact Or.inl (Int32.lt_iff_toInt_lt.mpr h)
  · exact Or.inr (Int32.lt_iff_toInt_lt.mpr h)
def rGo (g m : Int32) : Prop := g = m ∧ (m = 0 ∨ m = 1)
def rLat (n : Nat) (l p c ml mp mc : Int32) : Prop := c = mc ∧ ∃ k : Nat, k ≤ n ∧ mc = nI k ∧ (k = 0 → l = -1 ∧ p = -1) ∧ (0 < k → l = ml ∧ p = mp)
def rOrd (a b : Nat → Int32) : Prop := a = b ∧ ∀ j, j < 64 → ∃ o : Nat, o < 2097152 ∧ a j = nI o
def rWrd (a b : Nat → Int32) : Prop := a = b ∧ ∀ j, qS (a j)
def rDeck (ca ta : Int32) (a : Nat → Int32) (ma mc : Int32) (b b4 : Nat → Int32) : Prop := ∃ c t : Nat, t ≤ c ∧ c ≤ 48 ∧ ca = nI c ∧ ta = nI t ∧ ma = nI (c - t) ∧ mc = nI c ∧ (∀ j, j < c - t → b j = a (t + j)) ∧ (∀ j, qS (a j)) ∧ (∀ j, qS (b j)) ∧ (∀ j, qS (b4 j))
def rPun (n : Nat) (k0 q0 : Int32) (a : Nat → Int32) (k1 q1 : Int32) (b : Nat → Int32) : Prop := a = b ∧ (∀ j, qS (a j)) ∧ ∃ k : Nat, k ≤ 60 ∧ k0 = nI k ∧ k1 = nI k ∧ ((k = 0 ∧ q1 = -6) ∨ (0 < k ∧ ∃ q : Nat, q ≤ n ∧ q0 = nI q ∧ q1 = nI q))
def rMul (l fr w : Int32) : Prop := fr = 0 ∧ ∃ k : Nat, k ≤ 16 ∧ l = nI k ∧ w = nI k
def rProg (s0 s1 : Int32) (o a b c g o' a' b' c' g' : Nat → Int32) : Prop := o = o' ∧ a = a' ∧ b = b' ∧ c = c' ∧ g = g' ∧ ∃ s : Nat, s ≤ 12 ∧ s0 = nI s ∧ s1 = nI s ∧ ∀ j, j < s → (∃ k : Nat, k < 7 ∧ o j = nI k) ∧ (∃ k : Nat, k < 16 ∧ a j = nI k) ∧ (∃ k : Nat, k < 16 ∧ b j = nI k) ∧ (∃ k : Nat, k < 16 ∧ c j = nI k) ∧ (o j = 4 → ∃ k : Nat, k < 12 ∧ g j = nI k)
def rKept (f v : Nat → Int32) (kn : Int32) (bg vs : Nat → Int32) : Prop := (∃ k : Nat, k ≤ 12 ∧ kn = nI k ∧ ∀ j, j < 12 → f j = if j < k then bg j else -1) ∧ ∀ j, j < 16 → v j = vs j
def rDue (n d : Nat) (d0 l0 d1 l1 : Int32) : Prop := n ≤ d ∧ d < 2 ^ 29 + 200 ∧ d0 = nI d ∧ d1 = nI d ∧ ∃ l : Nat, l < 2 ∧ l0 = nI l ∧ l1 = nI l
def rShut (f l mf ml : Int32) : Prop := f = 1 ∧ l = 0 ∧ mf = 0 ∧ ml = -1
def rCur (d F : Nat) (s t f l v o mf ml tu : Int32) : Prop := ∃ k L V : Nat, k < 2097152 ∧ o = nI k ∧ s = nI (k % 16) ∧ t = nI (k / 16 % 16) ∧ f = nI F ∧ mf = nI F ∧ l = nI L ∧ ml = nI L ∧ v = nI V ∧ L ≤ V + 1 ∧ V < 2 ^ 29 + 100 ∧ ((tu = 0 ∧ d = V) ∨ (tu = 1 ∧ d = V + 1))
def rBef (F : Nat) (s t f l o mf ml : Int32) : Prop := ∃ k G L : Nat, k < 2097152 ∧ o = nI k ∧ s = nI (k % 16) ∧ t = nI (k / 16 % 16) ∧ f = nI G ∧ mf = nI G ∧ G < 2 ^ 30 ∧ l = nI L ∧ ml = nI L ∧ L < F
def rWins (d : Nat) (s t f l v s' t' f' l' o mf ml o' mf' ml' tu : Int32) : Prop := (rShut f' l' mf' ml' ∧ rShut f l mf ml) ∨ ∃ F : Nat, F < 2 ^ 30 ∧ rCur d F s t f l v o mf ml tu ∧ (rShut f' l' mf' ml' ∨ rBef F s' t' f' l' o' mf' ml')
def rFac (w fx fm : Int32) : Prop := w = 0 ∨ (fx.toInt16.toInt32 = fm ∧ qS fm)
def qM (n f : Nat) : Prop := f + 40 < n ∧ ((n - (f + 40)) % 8 = 1 ∨ (n - (f + 40)) % 8 = 2)
def rCard (n : Nat) (ps fa rm ta : Int32) (a : Nat → Int32) (fe mo : Int32) (b : Nat → Int32) : Prop :=
  (ps = 0 ∧ rm = 0 ∧ (fe = -1 ∨ ∃ f : Nat, fe = nI f ∧ f + 130 < n)) ∨
  ∃ f t : Nat, ps = 1 ∧ fa = nI f ∧ fe = nI f ∧ f < n ∧ n ≤ f + 130 ∧ ta = nI t ∧ 12 ≤ t ∧ t ≤ 48 ∧ (∀ i, i < 12 → b i = a (t - 12 + i)) ∧ (rm = 0 ∨ rm = 1) ∧ (mo = 0 ∨ mo = 1) ∧ (qM n f → rm = mo) ∧ (¬ qM n f → rm = 0)
/-- what stands between two calls -/
def Rel (n : Nat) (σ : Nat → Int32) (α : Nat → Nat → Int32) (μ : Nat → Int32) (β : Nat → Nat → Int32) : Prop :=
  σ 9 = nI n ∧ μ 0 = nI n ∧ rGo (σ 7) (μ 1) ∧ σ 8 = μ 2 ∧ rLat n (σ 12) (σ 13) (σ 14) (μ 5) (μ 6) (μ 7) ∧ rOrd (α 2) (β 1) ∧ rWrd (α 3) (β 2) ∧
  rDeck (σ 0) (σ 1) (α 5) (μ 17) (μ 18) (β 3) (β 4) ∧ rPun n (σ 5) (σ 6) (α 7) (μ 21) (μ 22) (β 5) ∧ rMul (σ 16) (σ 17) (μ 15) ∧
  rProg (σ 28) (μ 23) (α 13) (α 14) (α 15) (α 16) (α 17) (β 6) (β 7) (β 8) (β 9) (β 10) ∧ rKept (α 22) (α 21) (μ 25) (β 20) (β 21) ∧
  (μ 1 ≠ 0 → (∃ d : Nat, rDue n d (σ 11) (σ 10) (μ 3) (μ 4) ∧ rWins d (σ 18) (σ 19) (σ 20) (σ 21) (σ 22) (σ 23) (σ 24) (σ 25) (σ 26) (μ 8) (μ 9) (μ 10) (μ 11) (μ 12) (μ 13) (μ 14)) ∧
    rFac (μ 15) (σ 15) (μ 16) ∧ rCard n (σ 2) (σ 3) (σ 4) (σ 1) (α 5) (μ 19) (μ 20) (β 4))
-- places of orders
def qO (l p : Int32) : Prop := ¬ l < 0 ∧ ¬ 2 ≤ l ∧ ¬ p < 0 ∧ ¬ 32 ≤ p
theorem qO_nI {l p : Int32} (h : qO l p) : ∃ i j : Nat, i < 2 ∧ j < 32 ∧ l = nI i ∧ p = nI j := by
  obtain ⟨h1, h2, h3, h4⟩ := h
  obtain ⟨i, hi, rfl⟩ := nI_of h1
  obtain ⟨j, hj, rfl⟩ := nI_of h3
  refine ⟨i, j, ?_, ?_, rfl, rfl⟩
  · exact Nat.lt_of_not_le (fun h => h2 (nI_le h hi))
  · exact Nat.lt_of_not_le (fun h => h4 (nI_le h hj))
section PA
variable {σ μ : Nat → Int32} {α β : Nat → Nat → Int32} {n : Nat} {l p x1 x2 x3 : Int32}
theorem s_orderSpot {post : Int32 → gS → Prop} (hn : ¬ qO l p → post (-1) (σ, α)) (hy : qO l p → post (l * 32 + p) (σ, α)) : wp_St_orderSpot σ α l p post := by
  unfold wp_St_orderSpot wp_St_orderSpot_J23 wp_St_orderSpot_J24 wp_St_orderSpot_J39
  have N : ¬ qO l p → ((0 : Int32) = 0 → post (-1) (σ, α)) ∧ (¬ (0 : Int32) = 0 → post (l * 32 + p) (σ, α)) := fun q => br_t rfl (hn q)
  exact ⟨fun h => N (fun q => q.1 h), fun h1 => ⟨fun h => N (fun q => q.2.1 h), fun h2 => ⟨fun h => N (fun q => q.2.2.1 h), fun h3 => ⟨fun h => N (fun q => q.2.2.2 h), fun h4 => br_f (by decide) (hy ⟨h1, h2, h3, h4⟩)⟩⟩⟩⟩
theorem s_isOrder {post : Int32 → gS → Prop} (hn : ¬ qO l p → post 0 (μ, β)) (hy : qO l p → post 1 (μ, β)) : wp_Md_isOrder μ β l p post := by
  unfold wp_Md_isOrder wp_Md_isOrder_J9 wp_Md_isOrder_J23 wp_Md_isOrder_J24
  have K : ¬ l < 0 → ¬ 2 ≤ l → (p < 0 → narrow .boolean (.int (0 : Int32)) = .int (0 : Int32) ∧ post 0 (μ, β)) ∧ (¬ p < 0 → ((32 : Int32) ≤ p → narrow .boolean (.int (0 : Int32)) = .int (0 : Int32) ∧ post 0 (μ, β)) ∧ (¬ (32 : Int32) ≤ p → narrow .boolean (.int (1 : Int32)) = .int (1 : Int32) ∧ post 1 (μ, β))) :=
    fun a b => ⟨fun h => ⟨rfl, hn (fun q => q.2.2.1 h)⟩, fun h => ⟨fun h2 => ⟨rfl, hn (fun q => q.2.2.2 h2)⟩, fun h2 => ⟨rfl, hy ⟨a, b, h, h2⟩⟩⟩⟩
  refine ⟨fun h => K (by rw [h]; decide) (by rw [h]; decide), fun h0 => ⟨fun h1 => ⟨rfl, hn (fun q => ?_)⟩, fun h => K (by rw [h]; decide) (by rw [h]; decide)⟩⟩
  have a := q.1
  have b := q.2.1
  grind
theorem x_order {post : Int32 → gS → Prop} (hn : ¬ (qO x1 x2 ∧ ¬ x3 < 0 ∧ x3 ≤ 2097151) → post 0 (σ, α)) (hy : qO x1 x2 → ¬ x3 < 0 → x3 ≤ 2097151 → vp_in (x1 * 32 + x2) 64 ∧ post 1 (σ, va_up α 2 (upd (α 2) (x1 * 32 + x2).toNatClampNeg x3))) : wp_Dm_order σ α x1 x2 x3 post := by
  unfold wp_Dm_order wp_Dm_order_J22
  refine s_orderSpot (fun q => br_t (by decide) (hn (fun z => q z.1))) (fun q => ?_)
  refine br_f ?_ ⟨fun h => hn (fun z => z.2.1 h), fun h => ⟨fun h2 => hy q h h2, fun h2 => hn (fun z => h2 z.2.2)⟩⟩
  obtain ⟨i, j, hi, hj, rfl, rfl⟩ := qO_nI q
  rw [q_idx]
  exact nI_pos (by omega)
theorem m_order {post : Int32 → gS → Prop} (hn : ¬ (qO x1 x2 ∧ ¬ x3 < 0 ∧ x3 ≤ 2097151) → post 0 (μ, β)) (hy : qO x1 x2 → ¬ x3 < 0 → x3 ≤ 2097151 → vp_in (32 * x1 + x2) 64 ∧ post 1 (μ, va_up β 1 (upd (β 1) (32 * x1 + x2).toNatClampNeg x3))) : wp_Md_order μ β x1 x2 x3 post := by
  unfold wp_Md_order wp_Md_order_J18
  refine s_isOrder (fun q => br_t rfl (hn (fun z => q z.1))) (fun q => ?_)
  exact br_f (by decide) ⟨fun h => hn (fun z => z.2.1 h), fun h => ⟨fun h2 => hy q h h2, fun h2 => hn (fun z => h2 z.2.2)⟩⟩
theorem p_order {Q : Int32 → gS → Int32 → gS → Prop} (hQ : ∀ r u r' u', r = r' ∧ Rel n u.1 u.2 u'.1 u'.2 → Q r u r' u') (h : Rel n σ α μ β) : wp_Dm_order σ α x1 x2 x3 (fun r u => wp_Md_order μ β x1 x2 x3 (Q r u)) := by
  refine x_order (fun q => m_order (fun _ => hQ _ _ _ _ ⟨rfl, h⟩) (fun a b c => absurd ⟨a, b, c⟩ q)) (fun q a b => ?_)
  obtain ⟨hN, hM, hG, hF, hL, hO, hW, hD, hP, hU, hS, hK, hR⟩ := h
  obtain ⟨i, j, hi, hj, rfl, rfl⟩ := qO_nI q
  rw [q_idx]
  refine ⟨vp_in_nI (by omega) (by decide), m_order (fun z => absurd ⟨q, a, b⟩ z) (fun _ _ _ => ?_)⟩
  rw [q_idx']
  refine ⟨vp_in_nI (by omega) (by decide), hQ _ _ _ _ ⟨rfl, hN, hM, hG, hF, hL, ?_, hW, hD, hP, hU, hS, hK, hR⟩⟩
  show rOrd (upd (α 2) (nI (32 * i + j)).toNatClampNeg x3) (upd (β 1) (nI (32 * i + j)).toNatClampNeg x3)
  obtain ⟨e, hb⟩ := hO
  refine ⟨by rw [e], fun k hk => ?_⟩
  unfold upd
  split
  · obtain ⟨o, ho, rfl⟩ := nI_of2 (x := x3) (M := 2097151) (n := 2097151) (by decide) a b
    exact ⟨o, by omega, rfl⟩
  · exact hb k hk
theorem p_read {Q : Int32 → gS → Int32 → gS → Prop} (hQ : ∀ r u r' u', r = r' ∧ Rel n u.1 u.2 u'.1 u'.2 → Q r u r' u') (h : Rel n σ α μ β) : wp_Dm_read σ α x1 x2 (fun r u => wp_Md_read_II μ β x1 x2 (Q r u)) := by
  unfold wp_Dm_read wp_Dm_read_J23 wp_Md_read_II wp_Md_read_II_J23
  refine s_orderSpot (fun q => br_f (by decide) (s_isOrder (fun _ => br_t rfl (hQ _ _ _ _ ⟨rfl, h⟩)) (fun a => absurd a q))) (fun q => ?_)
  obtain ⟨i, j, hi, hj, rfl, rfl⟩ := qO_nI q
  rw [q_idx]
  refine br_t (nI_pos' (by omega)) ⟨vp_in_nI (by omega) (by decide), s_isOrder (fun z => absurd q z) (fun _ => br_f (by decide) ?_)⟩
  rw [q_idx']
  refine ⟨vp_in_nI (by omega) (by decide), hQ _ _ _ _ ⟨?_, h⟩⟩
  show α 2 _ = β 1 _
  rw [h.2.2.2.2.2.1.1]
theorem p_clear {Q : gS → gS → Prop} (hQ : ∀ u u', Rel n u.1 u.2 u'.1 u'.2 → Q u u') (h : Rel n σ α μ β) : wp_Dm_clear σ α (fun u => wp_Md_clear μ β (Q u)) := by
  unfold wp_Dm_clear wp_Md_clear
  obtain ⟨hN, hM, hG, hF, hL, hO, hW, hD, hP, hU, hS, hK, hR⟩ := h
  refine hQ _ _ ⟨hN, hM, hG, hF, hL, hO, hW, hD, hP, hU, ?_, hK, hR⟩
  obtain ⟨e1, e2, e3, e4, e5, s, hs, -, -, -⟩ := hS
  exact ⟨e1, e2, e3, e4, e5, 0, by omega, rfl, rfl, fun j hj => absurd hj (Nat.not_lt_zero j)⟩
end PA
end
section
-- pure rows: the calls without loops
theorem q_in {x : Int32} {n : Nat} (N : Int32) (hN : N.toInt = n) (h0 : ¬ x < 0) (h : x < N) : vp_in x n := by
  rw [vp_in_iff]
  have h1 := Int32.lt_iff_toInt_lt.mp h
  have k : (0 : Int32).toInt = 0 := by decide
  have h2 : ¬ x.toInt < (0 : Int32).toInt := fun z => h0 (Int32.lt_iff_toInt_lt.mpr z)
  rw [k] at h2
  omega
theorem q_upself {γ : Type} (f : Nat → γ) (k : Nat) : va_up f k (f k) = f := by
  funext j
  unfold va_up
  split
  · rename_i h
    rw [h]
  · rfl
theorem q_sub31 (a b : Nat) (ha : a < 2 ^ 31) (hb : b < 2 ^ 31) : (nI a - nI b) &&& 31 = nI ((a + 32 - b % 32) % 32) := by
  rw [pk_and _ 5 (by decide)]
  congr 1
  have e : (nI a - nI b).toBitVec.toNat = (2 ^ 32 - b + a) % 2 ^ 32 := by
    rw [Int32.toBitVec_sub, BitVec.toNat_sub, pk_tn (by omega), pk_tn (by omega)]
  rw [e]
  omega
def qF (l : Int32) : Int32 := if l = 6 then 128 else if l = 7 then 129 else if l = 8 then 130 else (l - 2) * 32
def qP (l : Int32) : Int32 := if 2 ≤ l ∧ l ≤ 5 then 32 else if l = 6 ∨ l = 7 then 1 else if l = 8 then 2 else 0
def qK (l p : Int32) : Int32 := if p < 0 ∨ qP l ≤ p then -1 else qF l + p
section PB
variable {σ μ : Nat → Int32} {α β : Nat → Nat → Int32} {n : Nat} {l p x1 x2 x3 x4 x5 : Int32}
theorem s_placesOf {post : Int32 → gS → Prop} (hp : post (qP l) (σ, α)) : wp_St_placesOf σ α l post := by
  have hp' : ∀ r, r = qP l → post r (σ, α) := fun r e => by rw [e]; exact hp
  simp only [wp_St_placesOf, wp_St_placesOf_J13, wp_St_placesOf_J25, wp_St_placesOf_J38]
  repeat' (first | intro _ | apply And.intro)
  all_goals exact hp' _ (by unfold qP; grind)
theorem s_firstSpot {post : Int32 → gS → Prop} (hp : post (qF l) (σ, α)) : wp_St_firstSpot σ α l post := by
  have hp' : ∀ r, r = qF l → post r (σ, α) := fun r e => by rw [e]; exact hp
  unfold wp_St_firstSpot
  refine ⟨fun h => hp' _ (by rw [h]; decide), fun h => hp' _ (by rw [h]; decide), fun h => hp' _ (by rw [h]; decide), fun h => hp' _ ?_⟩
  have h := q_sw 6 8 (by decide) (by decide) h
  unfold qF
  grind
theorem s_wordSpot {post : Int32 → gS → Prop} (hp : post (qK l p) (σ, α)) : wp_St_wordSpot σ α l p post := by
  have e1 : p < 0 ∨ qP l ≤ p → qK l p = -1 := fun h => if_pos h
  have e2 : ¬ (p < 0 ∨ qP l ≤ p) → qK l p = qF l + p := fun h => if_neg h
  unfold wp_St_wordSpot wp_St_wordSpot_J21 wp_St_wordSpot_J22
  refine ⟨fun h => ?_, fun h => s_placesOf ⟨fun h2 => ?_, fun h2 => s_firstSpot ?_⟩⟩
  · rw [e1 (Or.inl h)] at hp
    exact hp
  · rw [e1 (Or.inr h2)] at hp
    exact hp
  · rw [e2 (fun z => z.elim h h2)] at hp
    exact hp
theorem s_wordAt {post : Int32 → gS → Prop} (hp : post (qK l p) (μ, β)) : wp_Md_wordAt μ β l p post := by
  have hp' : ∀ r, r = qK l p → post r (μ, β) := fun r e => by rw [e]; exact hp
  simp only [wp_Md_wordAt, wp_Md_wordAt_J32, wp_Md_wordAt_J33, wp_Md_wordAt_J34, wp_Md_wordAt_J46, wp_Md_wordAt_J62, wp_Md_wordAt_J78, wp_Md_wordAt_J86, wp_Md_wordAt_J87]
  repeat' (first | intro _ | apply And.intro)
  all_goals exact hp' _ (by unfold qK qF qP; grind)
theorem qK_in (h : ¬ qK l p < 0) : vp_in (qK l p) 132 := by
  refine q_in 132 (by decide) h ?_
  unfold qK qF qP at *
  grind
theorem p_word {Q : Int32 → gS → Int32 → gS → Prop} (hQ : ∀ r u r' u', r = r' ∧ Rel n u.1 u.2 u'.1 u'.2 → Q r u r' u') (h : Rel n σ α μ β) : wp_Dm_word σ α x1 x2 x3 (fun r u => wp_Md_word μ β x1 x2 x3 (Q r u)) := by
  unfold wp_Dm_word wp_Md_word wp_Md_word_J20 wp_Md_word_J30
  refine s_wordSpot ⟨fun h0 => ?_, fun h0 => ?_⟩
  · have hq : ¬ qK x1 x2 < 0 := by grind
    obtain ⟨hN, hM, hG, hF, hL, hO, hW, hD, hP, hU, hS, hK, hR⟩ := h
    refine ⟨qK_in hq, s_wordAt (br_f hq ⟨qK_in hq, br_f hq ⟨rfl, hQ _ _ _ _ ⟨rfl, hN, hM, hG, hF, hL, hO, ?_, hD, hP, hU, hS, hK, hR⟩⟩⟩)⟩
    show rWrd (upd (α 3) _ _) (upd (β 2) _ _)
    exact ⟨by rw [hW.1], qS_upd hW.2 (qS_nar _)⟩
  · have hq : qK x1 x2 < 0 := by grind
    exact s_wordAt (br_t hq (br_t hq ⟨rfl, hQ _ _ _ _ ⟨rfl, h⟩⟩))
theorem p_peek {Q : Int32 → gS → Int32 → gS → Prop} (hQ : ∀ r u r' u', r = r' ∧ Rel n u.1 u.2 u'.1 u'.2 → Q r u r' u') (h : Rel n σ α μ β) : wp_Dm_peek σ α x1 x2 (fun r u => wp_Md_peek μ β x1 x2 (Q r u)) := by
  unfold wp_Dm_peek wp_Dm_peek_J23 wp_Md_peek wp_Md_peek_J20
  have hW := h.2.2.2.2.2.2.1
  refine s_wordSpot ⟨fun h0 => ?_, fun h0 => ⟨rfl, s_wordAt (br_f h0 ⟨rfl, hQ _ _ _ _ ⟨rfl, h⟩⟩)⟩⟩
  have hq : ¬ qK x1 x2 < 0 := by grind
  refine ⟨qK_in hq, hW.2 _, s_wordAt (br_t h0 ⟨qK_in hq, ?_, hQ _ _ _ _ ⟨?_, h⟩⟩)⟩
  · show qS (β 2 _)
    rw [← hW.1]
    exact hW.2 _
  · show α 3 _ = β 2 _
    rw [hW.1]
theorem p_card {Q : Int32 → gS → Int32 → gS → Prop} (hQ : ∀ r u r' u', r = r' ∧ Rel n u.1 u.2 u'.1 u'.2 → Q r u r' u') (h : Rel n σ α μ β) : wp_Dm_card σ α x1 (fun r u => wp_Md_card μ β x1 (Q r u)) := by
  unfold wp_Dm_card wp_Rd_addRow wp_Md_card
  obtain ⟨hN, hM, hG, hF, hL, hO, hW, hD, hP, hU, hS, hK, hR⟩ := h
  have hD0 := hD
  obtain ⟨c, t, htc, hc, e0, e1, e17, e18, hd, ha, hb, hb4⟩ := hD
  refine ⟨fun q => ?_, fun q => ?_⟩
  · have hlt : c < 48 := by
      rw [e0] at q
      exact (nI_ltI (b := 48) (by omega) (by decide)).mp q
    have hv : vp_in (σ 0) 48 := by rw [e0]; exact vp_in_nI hlt (by decide)
    refine ⟨hv, rfl, bs_f ?_ ⟨?_, hQ _ _ _ _ ⟨rfl, hN, hM, hG, hF, hL, hO, hW, ?_, hP, hU, hS, hK, ?_⟩⟩⟩
    · rw [e18]
      intro z
      have := (nI_eq (a := c) (b := 48) (by omega) (by decide)).mp z
      omega
    · rw [e17]
      exact vp_in_nI (by omega) (by decide)
    · show rDeck (σ 0 + 1) (σ 1) (upd (α 5) (σ 0).toNatClampNeg (vp_nar .short x1)) (μ 17 + 1) (μ 18 + 1) (upd (β 3) (μ 17).toNatClampNeg (vp_nar .short x1)) (β 4)
      rw [e0, e17, e18, nI_clamp (by omega), nI_clamp (by omega), nI_1, nI_1]
      refine ⟨c + 1, t, by omega, by omega, rfl, e1, ?_, rfl, ?_, qS_upd ha (qS_nar _), qS_upd hb (qS_nar _), hb4⟩
      · rw [show c + 1 - t = c - t + 1 by omega]
      · intro j hj
        by_cases z : j = c - t
        · rw [z, pk_us, show t + (c - t) = c by omega, pk_us]
        · rw [pk_un z, pk_un (by omega)]
          exact hd j (by omega)
    · intro g
      obtain ⟨r1, r2, r3⟩ := hR g
      refine ⟨r1, r2, ?_⟩
      show rCard n (σ 2) (σ 3) (σ 4) (σ 1) (upd (α 5) (σ 0).toNatClampNeg (vp_nar .short x1)) (μ 19) (μ 20) (β 4)
      rcases r3 with r | ⟨f, t', k1, k2, k3, k4, k5, k6, k7, k8, k9, k10, k11, k12, k13⟩
      · exact Or.inl r
      · refine Or.inr ⟨f, t', k1, k2, k3, k4, k5, k6, k7, k8, fun i hi => ?_, k10, k11, k12, k13⟩
        have ht : t' = t := (nI_eq (by omega) (by omega)).mp (k6.symm.trans e1)
        rw [k9 i hi, pk_un]
        rw [e0, nI_clamp (by omega)]
        omega
  · refine ⟨rfl, bs_t ?_ (hQ _ _ _ _ ⟨rfl, hN, hM, hG, hF, hL, hO, hW, hD0, hP, hU, hS, hK, hR⟩)⟩
    have hc2 : c = 48 := by
      rcases Nat.lt_or_ge c 48 with z | z
      · exact absurd (by rw [e0]; exact nI_lt z (by decide)) q
      · omega
    rw [e18, hc2]
    rfl
theorem p_punched {Q : Int32 → gS → Int32 → gS → Prop} (hQ : ∀ r u r' u', r = r' ∧ Rel n u.1 u.2 u'.1 u'.2 → Q r u r' u') (h : Rel n σ α μ β) : wp_Dm_punched σ α x1 (fun r u => wp_Md_punched μ β x1 (Q r u)) := by
  unfold wp_Dm_punched wp_Dm_punched_J15 wp_Dm_punched_J28 wp_Md_punched wp_Md_punched_J12 wp_Md_punched_J22
  obtain ⟨e7, hq7, k, hk, e5, e21, -⟩ := h.2.2.2.2.2.2.2.2.1
  have e : σ 5 = μ 21 := by rw [e5, e21]
  refine ⟨fun q => ⟨rfl, br_t q ⟨rfl, hQ _ _ _ _ ⟨rfl, h⟩⟩⟩, fun q => ⟨fun q2 => ?_, fun q2 => ⟨rfl, br_f q (br_f (by rw [← e]; exact q2) ⟨rfl, hQ _ _ _ _ ⟨rfl, h⟩⟩)⟩⟩⟩
  have hv : vp_in x1 60 := by
    obtain ⟨j, hj, rfl⟩ := nI_of q
    rw [e5] at q2
    have := (nI_ltI hj (by omega)).mp q2
    exact vp_in_nI (by omega) (by decide)
  refine ⟨hv, hq7 _, br_f q (br_t (by rw [← e]; exact q2) ⟨hv, ?_, hQ _ _ _ _ ⟨?_, h⟩⟩)⟩
  · show qS (β 5 _)
    rw [← e7]
    exact hq7 _
  · show α 7 _ = β 5 _
    rw [e7]
def qX (σ : Nat → Int32) (x : Int32) : Int32 := if x = 0 then (if σ 7 = 0 then 0 else 1) else if x = 1 then σ 8 else if x = 2 then σ 9 else if x = 3 then σ 12 else if x = 4 then σ 13 else if x = 5 then σ 14 else if x = 6 then σ 0 - σ 1 else if x = 7 then σ 5 else if x = 8 then σ 16 else -1
def qL (μ : Nat → Int32) (x : Int32) : Int32 := if x = 0 then (if μ 1 = 0 then 0 else 1) else if x = 1 then μ 2 else if x = 2 then μ 0 else if x = 3 then (if μ 7 = 0 then -1 else μ 5) else if x = 4 then (if μ 7 = 0 then -1 else μ 6) else if x = 5 then μ 7 else if x = 6 then μ 17 else if x = 7 then μ 21 else if x = 8 then μ 15 else -1
theorem x_look {post : Int32 → gS → Prop} (hp : post (qX σ x1) (σ, α)) : wp_Dm_look σ α x1 post := by
  have hp' : ∀ r, r = qX σ x1 → post r (σ, α) := fun r e => by rw [e]; exact hp
  simp only [wp_Dm_look, wp_Dm_look_J67, wp_Rd_rowsLeft]
  refine ⟨fun e => ⟨fun e2 => ?_, fun e2 => ?_⟩, fun e => ?_, fun e => ?_, fun e => ?_, fun e => ?_, fun e => ?_, fun e => ?_, fun e => ?_, fun e => ?_, fun e => ?_⟩
  all_goals first
    | exact hp' _ (by unfold qX; grind)
    | (have e := q_sw 0 8 (by decide) (by decide) e
       exact hp' _ (by unfold qX; grind))
theorem m_look {post : Int32 → gS → Prop} (hp : post (qL μ x1) (μ, β)) : wp_Md_look μ β x1 post := by
  have hp' : ∀ r, r = qL μ x1 → post r (μ, β) := fun r e => by rw [e]; exact hp
  simp only [wp_Md_look, wp_Md_look_J64, wp_Md_look_J90, wp_Md_look_J106]
  refine ⟨fun e => ⟨fun e2 => ?_, fun e2 => ?_⟩, fun e => ?_, fun e => ?_, fun e => ⟨fun e2 => ?_, fun e2 => ?_⟩, fun e => ⟨fun e2 => ?_, fun e2 => ?_⟩, fun e => ?_, fun e => ?_, fun e => ?_, fun e => ?_, fun e => ?_⟩
  all_goals first
    | exact hp' _ (by unfold qL; grind)
    | (have e := q_sw 0 8 (by decide) (by decide) e
       exact hp' _ (by unfold qL; grind))
theorem p_look {Q : Int32 → gS → Int32 → gS → Prop} (hQ : ∀ r u r' u', r = r' ∧ Rel n u.1 u.2 u'.1 u'.2 → Q r u r' u') (hn : n < 2 ^ 30) (h : Rel n σ α μ β) : wp_Dm_look σ α x1 (fun r u => wp_Md_look μ β x1 (Q r u)) := by
  refine x_look (m_look (hQ _ _ _ _ ⟨?_, h⟩))
  obtain ⟨hN, hM, hG, hF, hL, hO, hW, hD, hP, hU, hS, hK, hR⟩ := h
  obtain ⟨eG, -⟩ := hG
  obtain ⟨c, t, htc, hc, e0, e1, e17, -⟩ := hD
  obtain ⟨-, -, k, -, e5, e21, -⟩ := hP
  obtain ⟨-, w, -, e16, e15⟩ := hU
  obtain ⟨e14, q, hq, e7, hz, hp⟩ := hL
  have a1 : σ 9 = μ 0 := by rw [hN, hM]
  have a2 : σ 0 - σ 1 = μ 17 := by rw [e0, e1, e17, pk_sub htc]
  have a3 : σ 5 = μ 21 := by rw [e5, e21]
  have a4 : σ 16 = μ 15 := by rw [e16, e15]
  have a5 : σ 12 = (if μ 7 = 0 then -1 else μ 5) ∧ σ 13 = (if μ 7 = 0 then -1 else μ 6) := by
    rcases Nat.eq_zero_or_pos q with z | z
    · have e : μ 7 = 0 := by rw [e7, z]; rfl
      rw [if_pos e, if_pos e]
      exact hz z
    · have e : ¬ μ 7 = 0 := by rw [e7]; exact nI_ne0 z (by omega)
      rw [if_neg e, if_neg e]
      exact hp z
  unfold qX qL
  rw [eG, hF, a1, a5.1, a5.2, e14, a2, a3, a4]
-- statements
def qV (x : Int32) : Prop := ¬ x < 0 ∧ ¬ 16 ≤ x
theorem s_isVariable {post : Int32 → gS → Prop} (hn : ¬ qV x1 → post 0 (σ, α)) (hy : qV x1 → post 1 (σ, α)) : wp_Pr_isVariable σ α x1 post := by
  unfold wp_Pr_isVariable wp_Pr_isVariable_J14 wp_Pr_isVariable_J15
  exact ⟨fun h => ⟨rfl, hn (fun q => q.1 h)⟩, fun h => ⟨fun h2 => ⟨rfl, hn (fun q => q.2 h2)⟩, fun h2 => ⟨rfl, hy ⟨h, h2⟩⟩⟩⟩
theorem s_isVariableM {post : Int32 → gS → Prop} (hn : ¬ qV x1 → post 0 (μ, β)) (hy : qV x1 → post 1 (μ, β)) : wp_Md_isVariable μ β x1 post := by
  unfold wp_Md_isVariable wp_Md_isVariable_J14 wp_Md_isVariable_J15
  exact ⟨fun h => ⟨rfl, hn (fun q => q.1 h)⟩, fun h => ⟨fun h2 => ⟨rfl, hn (fun q => q.2 h2)⟩, fun h2 => ⟨rfl, hy ⟨h, h2⟩⟩⟩⟩
theorem qV_nI (h : qV x1) : ∃ j : Nat, j < 16 ∧ x1 = nI j := by
  obtain ⟨i, hi, rfl⟩ := nI_of h.1
  exact ⟨i, Nat.lt_of_not_le (fun z => h.2 (nI_le z hi)), rfl⟩
def qG (x1 x5 : Int32) : Prop := x1 = 4 → ¬ x5 < 0 ∧ ¬ 12 ≤ x5
def qT (x1 x2 x3 x4 x5 : Int32) : Prop := (¬ x1 < 0 ∧ ¬ 7 ≤ x1) ∧ qV x2 ∧ qV x3 ∧ qV x4 ∧ qG x1 x5
def qSt (f : Nat → Nat → Int32) (a b c d e k : Nat) (x1 x2 x3 x4 x5 : Int32) : Nat → Nat → Int32 := va_up (va_up (va_up (va_up (va_up f a (upd (f a) k x1)) b (upd (f b) k x2)) c (upd (f c) k x3)) d (upd (f d) k x4)) e (upd (f e) k x5)
theorem x_statement {post : Int32 → gS → Prop} (hn : ¬ (¬ 12 ≤ σ 28 ∧ qT x1 x2 x3 x4 x5) → post (-1) (σ, α)) (hy : ¬ 12 ≤ σ 28 → qT x1 x2 x3 x4 x5 → vp_in (σ 28) 12 ∧ post (σ 28 + 1 - 1) (va_up σ 28 (σ 28 + 1), qSt α 13 14 15 16 17 (σ 28).toNatClampNeg x1 x2 x3 x4 x5)) : wp_Pr_addStatement σ α x1 x2 x3 x4 x5 post := by
  have J68 : ∀ a6 a7 t0 : Int32, (¬ a6 = 0 → ¬ a7 = 0 → ¬ t0 = 0 → qT x1 x2 x3 x4 x5) → (a6 = 0 ∨ a7 = 0 ∨ t0 = 0 → ¬ qT x1 x2 x3 x4 x5) → wp_Pr_addStatement_J68 σ α x1 x2 x3 x4 x5 a6 a7 t0 post := by
    intro a6 a7 t0 g b
    unfold wp_Pr_addStatement_J68 wp_Pr_addStatement_J94
    refine ⟨fun h => hn (fun z => z.1 h), fun h => ⟨fun h2 => hn (fun z => b (Or.inl h2) z.2), fun h2 => ⟨fun h3 => hn (fun z => b (Or.inr (Or.inl h3)) z.2), fun h3 => ⟨fun h4 => ?_, fun h4 => hn (fun z => b (Or.inr (Or.inr h4)) z.2)⟩⟩⟩⟩
    have k := hy h (g h2 h3 h4)
    exact ⟨k.1, k.1, k.1, k.1, k.1, k.2⟩
  have J44 : ∀ a6 a7 : Int32, (¬ a6 = 0 ↔ (¬ x1 < 0 ∧ ¬ 7 ≤ x1)) → (¬ a7 = 0 ↔ (qV x2 ∧ qV x3 ∧ qV x4)) → wp_Pr_addStatement_J44 σ α x1 x2 x3 x4 x5 a6 a7 post := by
    intro a6 a7 g6 g7
    have b6 : a6 = 0 → ¬ (¬ x1 < 0 ∧ ¬ 7 ≤ x1) := fun e z => (g6.mpr z) e
    have b7 : a7 = 0 → ¬ (qV x2 ∧ qV x3 ∧ qV x4) := fun e z => (g7.mpr z) e
    have Y : qG x1 x5 → wp_Pr_addStatement_J68 σ α x1 x2 x3 x4 x5 a6 a7 1 post := fun q => J68 a6 a7 1 (fun h6 h7 _ => ⟨g6.mp h6, (g7.mp h7).1, (g7.mp h7).2.1, (g7.mp h7).2.2, q⟩) (fun z t => by
      rcases z with z | z | z
      · exact b6 z t.1
      · exact b7 z ⟨t.2.1, t.2.2.1, t.2.2.2.1⟩
      · exact absurd z (by decide))
    have Z : ¬ qG x1 x5 → wp_Pr_addStatement_J68 σ α x1 x2 x3 x4 x5 a6 a7 0 post := fun q => J68 a6 a7 0 (fun _ _ h => absurd rfl h) (fun _ t => q t.2.2.2.2)
    unfold wp_Pr_addStatement_J44 wp_Pr_addStatement_J63 wp_Pr_addStatement_J67
    exact ⟨fun h => Y (fun e => absurd e h), fun h => ⟨fun h2 => Z (fun q => (q h).1 h2), fun h2 => ⟨fun h3 => Z (fun q => (q h).2 h3), fun h3 => Y (fun _ => ⟨h2, h3⟩)⟩⟩⟩
  have J15 : ∀ a6 : Int32, (¬ a6 = 0 ↔ (¬ x1 < 0 ∧ ¬ 7 ≤ x1)) → wp_Pr_addStatement_J15 σ α x1 x2 x3 x4 x5 a6 post := by
    intro a6 g6
    have N : ¬ (qV x2 ∧ qV x3 ∧ qV x4) → wp_Pr_addStatement_J44 σ α x1 x2 x3 x4 x5 a6 0 post := fun q => J44 a6 0 g6 ⟨fun z => absurd rfl z, fun z => absurd z q⟩
    unfold wp_Pr_addStatement_J15 wp_Pr_addStatement_J43
    refine s_isVariable (fun q => br_t rfl (N (fun z => q z.1))) (fun q2 => br_f (by decide) ?_)
    refine s_isVariable (fun q => br_t rfl (N (fun z => q z.2.1))) (fun q3 => br_f (by decide) ?_)
    refine s_isVariable (fun q => br_t rfl (N (fun z => q z.2.2))) (fun q4 => br_f (by decide) ?_)
    exact J44 a6 1 g6 ⟨fun _ => ⟨q2, q3, q4⟩, fun _ => by decide⟩
  unfold wp_Pr_addStatement wp_Pr_addStatement_J14
  refine ⟨fun h => J15 0 ⟨fun z => absurd rfl z, fun z => absurd h z.1⟩, fun h => ⟨fun h2 => J15 0 ⟨fun z => absurd rfl z, fun z => absurd h2 z.2⟩, fun h2 => J15 1 ⟨fun _ => ⟨h, h2⟩, fun _ => by decide⟩⟩⟩
theorem m_statement {post : Int32 → gS → Prop} (hn : ¬ (¬ μ 23 = 12 ∧ qT x1 x2 x3 x4 x5) → post (-1) (μ, β)) (hy : ¬ μ 23 = 12 → qT x1 x2 x3 x4 x5 → vp_in (μ 23) 12 ∧ post (μ 23 + 1 - 1) (va_up μ 23 (μ 23 + 1), qSt β 6 7 8 9 10 (μ 23).toNatClampNeg x1 x2 x3 x4 x5)) : wp_Md_statement μ β x1 x2 x3 x4 x5 post := by
  have N : ¬ qT x1 x2 x3 x4 x5 → wp_Md_statement_J54 μ β x1 x2 x3 x4 x5 0 post := by
    intro q
    unfold wp_Md_statement_J54 wp_Md_statement_J70
    exact ⟨fun h => hn (fun z => z.1 h), fun h => ⟨fun h2 => absurd rfl h2, fun _ => hn (fun z => q z.2)⟩⟩
  have Y : qT x1 x2 x3 x4 x5 → wp_Md_statement_J54 μ β x1 x2 x3 x4 x5 1 post := by
    intro q
    unfold wp_Md_statement_J54 wp_Md_statement_J70
    refine ⟨fun h => hn (fun z => z.1 h), fun h => ⟨fun _ => ?_, fun h2 => absurd h2 (by decide)⟩⟩
    have k := hy h q
    exact ⟨k.1, k.1, k.1, k.1, k.1, k.2⟩
  have s7 : ¬ 6 < x1 ↔ ¬ 7 ≤ x1 := by grind
  have s12 : ¬ 11 < x5 ↔ ¬ 12 ≤ x5 := by grind
  unfold wp_Md_statement wp_Md_statement_J49 wp_Md_statement_J53
  refine ⟨fun h => N (fun q => q.1.1 h), fun h => ⟨fun h2 => N (fun q => (s7.mpr q.1.2) h2), fun h2 => ?_⟩⟩
  refine s_isVariableM (fun q => br_t rfl (N (fun z => q z.2.1))) (fun q2 => br_f (by decide) ?_)
  refine s_isVariableM (fun q => br_t rfl (N (fun z => q z.2.2.1))) (fun q3 => br_f (by decide) ?_)
  refine s_isVariableM (fun q => br_t rfl (N (fun z => q z.2.2.2.1))) (fun q4 => br_f (by decide) ?_)
  refine ⟨fun h3 => Y ⟨⟨h, s7.mp h2⟩, q2, q3, q4, fun e => absurd e h3⟩, fun h3 => ⟨fun h4 => N (fun q => (q.2.2.2.2 h3).1 h4), fun h4 => ⟨fun h5 => N (fun q => (s12.mpr (q.2.2.2.2 h3).2) h5), fun h5 => Y ⟨⟨h, s7.mp h2⟩, q2, q3, q4, fun _ => ⟨h4, s12.mp h5⟩⟩⟩⟩⟩
theorem p_statement {Q : Int32 → gS → Int32 → gS → Prop} (hQ : ∀ r u r' u', r = r' ∧ Rel n u.1 u.2 u'.1 u'.2 → Q r u r' u') (h : Rel n σ α μ β) : wp_Dm_statement σ α x1 x2 x3 x4 x5 (fun r u => wp_Md_statement μ β x1 x2 x3 x4 x5 (Q r u)) := by
  unfold wp_Dm_statement
  have h0 := h
  obtain ⟨hN, hM, hG, hF, hL, hO, hW, hD, hP, hU, hS, hK, hR⟩ := h
  obtain ⟨f1, f2, f3, f4, f5, s, hs, e28, e23, hv⟩ := hS
  have hb : ¬ 12 ≤ σ 28 ↔ s < 12 := by
    rw [e28]
    constructor
    · intro z
      exact Nat.lt_of_not_le (fun y => z (nI_le (a := 12) y (by omega)))
    · intro z
      exact nI_ge (b := 12) z (by decide)
  have hm : ¬ μ 23 = 12 ↔ s < 12 := by
    rw [e23]
    constructor
    · intro z
      have : s ≠ 12 := fun y => z (by rw [y]; rfl)
      omega
    · intro z y
      have := (nI_eq (a := s) (b := 12) (by omega) (by decide)).mp y
      omega
  refine x_statement (fun q => m_statement (fun _ => hQ _ _ _ _ ⟨rfl, h0⟩) (fun a b => absurd ⟨hb.mpr (hm.mp a), b⟩ q)) (fun a q => ?_)
  have hs12 := hb.mp a
  refine ⟨by rw [e28]; exact vp_in_nI hs12 (by decide), m_statement (fun z => absurd ⟨hm.mpr hs12, q⟩ z) (fun _ _ => ⟨by rw [e23]; exact vp_in_nI hs12 (by decide), hQ _ _ _ _ ⟨?_, hN, hM, hG, hF, hL, hO, hW, hD, hP, hU, ?_, hK, hR⟩⟩)⟩
  · rw [e28, e23]
  · show rProg (σ 28 + 1) (μ 23 + 1) (upd (α 13) (σ 28).toNatClampNeg x1) (upd (α 14) (σ 28).toNatClampNeg x2) (upd (α 15) (σ 28).toNatClampNeg x3) (upd (α 16) (σ 28).toNatClampNeg x4) (upd (α 17) (σ 28).toNatClampNeg x5) (upd (β 6) (μ 23).toNatClampNeg x1) (upd (β 7) (μ 23).toNatClampNeg x2) (upd (β 8) (μ 23).toNatClampNeg x3) (upd (β 9) (μ 23).toNatClampNeg x4) (upd (β 10) (μ 23).toNatClampNeg x5)
    rw [e28, e23, nI_clamp (by omega), nI_1]
    refine ⟨by rw [f1], by rw [f2], by rw [f3], by rw [f4], by rw [f5], s + 1, by omega, rfl, rfl, fun j hj => ?_⟩
    by_cases z : j = s
    · subst z
      rw [pk_us, pk_us, pk_us, pk_us, pk_us]
      obtain ⟨q1, q2, q3, q4, q5⟩ := q
      refine ⟨?_, qV_nI q2, qV_nI q3, qV_nI q4, fun e => ?_⟩
      · obtain ⟨i, hi, rfl⟩ := nI_of q1.1
        exact ⟨i, Nat.lt_of_not_le (fun z => q1.2 (nI_le z hi)), rfl⟩
      · obtain ⟨i, hi, rfl⟩ := nI_of (q5 e).1
        exact ⟨i, Nat.lt_of_not_le (fun z => (q5 e).2 (nI_le z hi)), rfl⟩
    · rw [pk_un z, pk_un z, pk_un z, pk_un z, pk_un z]
      exact hv j (by omega)
theorem p_placed {Q : Int32 → gS → Int32 → gS → Prop} (hQ : ∀ r u r' u', r = r' ∧ Rel n u.1 u.2 u'.1 u'.2 → Q r u r' u') (h : Rel n σ α μ β) : wp_Dm_placed σ α x1 (fun r u => wp_Md_placed μ β x1 (Q r u)) := by
  unfold wp_Dm_placed wp_Dm_placed_J10 wp_Dm_placed_J23 wp_Md_placed wp_Md_placed_J12 wp_Md_placed_J22
  obtain ⟨k, hk, e25, hf⟩ := h.2.2.2.2.2.2.2.2.2.2.2.1.1
  refine ⟨fun q => br_t q (hQ _ _ _ _ ⟨rfl, h⟩), fun q => ⟨fun q2 => ?_, fun q2 => br_f q (br_f ?_ (hQ _ _ _ _ ⟨rfl, h⟩))⟩⟩
  · obtain ⟨j, hj, rfl⟩ := nI_of q
    have hj12 : j < 12 := (nI_ltI (b := 12) hj (by decide)).mp q2
    have hv : vp_in (nI j) 12 := vp_in_nI hj12 (by decide)
    refine ⟨hv, br_f q ?_⟩
    have hfj := hf j hj12
    rw [e25]
    rcases Nat.lt_or_ge j k with z | z
    · refine br_t (nI_lt z (by omega)) ⟨hv, hQ _ _ _ _ ⟨?_, h⟩⟩
      show α 22 (nI j).toNatClampNeg = β 20 (nI j).toNatClampNeg
      rw [nI_clamp hj, hfj, if_pos z]
    · refine br_f (nI_nlt z (by omega)) (hQ _ _ _ _ ⟨?_, h⟩)
      show α 22 (nI j).toNatClampNeg = -1
      rw [nI_clamp hj, hfj, if_neg (by omega)]
  · intro z
    obtain ⟨j, hj, rfl⟩ := nI_of q
    rw [e25] at z
    have := (nI_ltI hj (by omega)).mp z
    exact q2 (nI_lt (b := 12) (by omega) (by decide))
theorem p_variable {Q : Int32 → gS → Int32 → gS → Prop} (hQ : ∀ r u r' u', r = r' ∧ Rel n u.1 u.2 u'.1 u'.2 → Q r u r' u') (h : Rel n σ α μ β) : wp_Dm_variable σ α x1 (fun r u => wp_Md_variable μ β x1 (Q r u)) := by
  unfold wp_Dm_variable wp_Dm_variable_J20 wp_Md_variable wp_Md_variable_J10 wp_Md_variable_J20
  have hf := h.2.2.2.2.2.2.2.2.2.2.2.1.2
  have s15 : x1 ≤ 15 ↔ ¬ 16 ≤ x1 := by grind
  refine s_isVariable (fun q => br_t rfl ⟨fun _ => hQ _ _ _ _ ⟨rfl, h⟩, fun a => ⟨fun b => absurd ⟨a, s15.mp b⟩ q, fun _ => hQ _ _ _ _ ⟨rfl, h⟩⟩⟩) (fun q => br_f (by decide) ?_)
  obtain ⟨j, hj, rfl⟩ := qV_nI q
  have hv : vp_in (nI j) 16 := vp_in_nI hj (by decide)
  refine ⟨hv, br_f q.1 (br_t (s15.mpr q.2) ⟨hv, hQ _ _ _ _ ⟨?_, h⟩⟩)⟩
  show α 21 (nI j).toNatClampNeg = β 21 (nI j).toNatClampNeg
  rw [nI_clamp (by omega)]
  exact hf j hj
-- start
theorem m_L73 {post : Int32 → gS → Prop} (j : Nat) (hp0 : j < 32) : ∀ (k d : Nat), d + k < 2 ^ 30 → (d + k) % 32 = j → (∀ i, i < k → (d + i) % 32 ≠ j) → post 1 (va_up (va_up μ 3 (nI (d + k))) 4 l, β) → wp_Md_start_L73 (va_up μ 3 (nI d)) β l (nI j) post := by
  intro k d h1 h2 h3 hp X hX
  induction k generalizing d with
  | zero =>
    apply hX
    show (nI d - nI d / 32 * 32 = nI j → post 1 (va_up (va_up μ 3 (nI d)) 4 l, β)) ∧ (¬ nI d - nI d / 32 * 32 = nI j → X (va_up (va_up μ 3 (nI d)) 3 (nI d + 1)) β l (nI j))
    refine br_t ?_ hp
    have e : nI d - nI d / 32 * 32 = nI (d % 32) := pk_rem (d := 32) (by omega) (by decide) (by decide)
    rw [e]
    congr 1
  | succ k ih =>
    apply hX
    show (nI d - nI d / 32 * 32 = nI j → post 1 (va_up (va_up μ 3 (nI d)) 4 l, β)) ∧ (¬ nI d - nI d / 32 * 32 = nI j → X (va_up (va_up μ 3 (nI d)) 3 (nI d + 1)) β l (nI j))
    refine br_f ?_ ?_
    · have e : nI d - nI d / 32 * 32 = nI (d % 32) := pk_rem (d := 32) (by omega) (by decide) (by decide)
      rw [e]
      intro z
      exact h3 0 (by omega) ((nI_eq (by omega) (by omega)).mp z)
    · rw [bx_uu, nI_1]
      refine ih (d + 1) (by omega) (by rw [← h2]; congr 1; omega) (fun i hi => ?_) ?_
      · have := h3 (i + 1) (by omega)
        rw [show d + 1 + i = d + (i + 1) by omega]
        exact this
      · rw [show d + 1 + k = d + (k + 1) by omega]
        exact hp
theorem m_start {post : Int32 → gS → Prop} (j k d : Nat) (h3 : μ 3 = nI d) (hp0 : j < 32) (h1 : d + k < 2 ^ 30) (h2 : (d + k) % 32 = j) (hk : ∀ i, i < k → (d + i) % 32 ≠ j) (hp : post 1 (va_up (va_up μ 3 (nI (d + k))) 4 l, β)) : wp_Md_start_L73 μ β l (nI j) post := by
  have t := m_L73 (μ := μ) (β := β) (l := l) (post := post) j hp0 k d h1 h2 hk hp
  have e : va_up μ 3 (nI d) = μ := by rw [← h3]; exact q_upself μ 3
  rw [e] at t
  exact t
theorem p_start {Q : Int32 → gS → Int32 → gS → Prop} (hQ : ∀ r u r' u', r = r' ∧ Rel n u.1 u.2 u'.1 u'.2 → Q r u r' u') (hn : n < 2 ^ 29) (h : Rel n σ α μ β) : wp_Dm_start σ α x1 x2 (fun r u => wp_Md_start μ β x1 x2 (Q r u)) := by
  unfold wp_Dm_start wp_Md_start
  refine s_orderSpot (fun q => br_f (by decide) (s_isOrder (fun _ => bs_t rfl (hQ _ _ _ _ ⟨rfl, h⟩)) (fun a => absurd a q))) (fun q => ?_)
  obtain ⟨i, j, hi, hj, rfl, rfl⟩ := qO_nI q
  rw [q_idx]
  refine br_t (nI_pos' (by omega)) ?_
  unfold wp_Mc_begin wp_Wi_close_10 wp_Wi_close_11 wp_Mu_rest wp_Rd_rest
  refine s_isOrder (fun z => absurd q z) (fun _ => bs_f (by decide) ?_)
  obtain ⟨hN, hM, hG, hF, hL, hO, hW, hD, hP, hU, hS, hK, hR⟩ := h
  have hk : ∃ k : Nat, k = (j + 32 - n % 32) % 32 := ⟨_, rfl⟩
  obtain ⟨k, hk⟩ := hk
  refine m_start j k n hM hj (by omega) (by omega) (fun i hi => by omega) ?_
  refine hQ _ _ _ _ ⟨rfl, hN, hM, ⟨rfl, Or.inr rfl⟩, rfl, ⟨rfl, 0, Nat.zero_le _, rfl, fun _ => ⟨rfl, rfl⟩, fun z => absurd z (Nat.lt_irrefl 0)⟩, hO, hW, hD, hP, ⟨hU.1, 0, by omega, rfl, rfl⟩, hS, hK, fun _ => ⟨⟨n + k, ⟨by omega, by omega, ?_, rfl, i, hi, rfl, rfl⟩, Or.inl ⟨⟨rfl, rfl, rfl, rfl⟩, ⟨rfl, rfl, rfl, rfl⟩⟩⟩, Or.inl rfl, Or.inl ⟨rfl, rfl, Or.inl rfl⟩⟩⟩
  show σ 9 + ((nI j - σ 9) &&& 31) = nI (n + k)
  rw [hN, q_sub31 j n (by omega) (by omega), nI_add, ← hk]
end PB
end
section
-- pure rows: one cycle, its parts
theorem c128 : (128 : Int32).toNatClampNeg = 128 := by decide
theorem c129 : (129 : Int32).toNatClampNeg = 129 := by decide
theorem c130 : (130 : Int32).toNatClampNeg = 130 := by decide
theorem c131 : (131 : Int32).toNatClampNeg = 131 := by decide
theorem io1 : Int32.ofInt 1 = 1 := by decide
theorem qS_16 {x : Int32} (h : qS x) : x.toInt16.toInt32 = x := by
  rw [← vp_nar_short]
  exact qS_id h
theorem q_fld {k : Nat} (hk : k < 2 ^ 31) (s m : Int32) (a b : Nat) (hs : (s.toBitVec.smod 32).toNat = a) (hm : m.toBitVec.toNat = 2 ^ b - 1) : (nI k >>> s) &&& m = nI (k / 2 ^ a % 2 ^ b) := by
  rw [pk_shrN hk s a hs, pk_andN _ b hm]
  exact Nat.lt_of_le_of_lt (Nat.div_le_self _ _) (by omega)
theorem q_wait {k : Nat} (hk : k < 2 ^ 31) : (nI k >>> ((10 : Int32) &&& 31)) &&& 31 = nI (k / 1024 % 32) := q_fld hk _ _ 10 5 (by decide) (by decide)
theorem q_time {k : Nat} (hk : k < 2 ^ 31) : (nI k >>> ((15 : Int32) &&& 31)) &&& 31 = nI (k / 32768 % 32) := q_fld hk _ _ 15 5 (by decide) (by decide)
theorem q_kind {k : Nat} (hk : k < 2 ^ 31) : (nI k >>> ((8 : Int32) &&& 31)) &&& 3 = nI (k / 256 % 4) := q_fld hk _ _ 8 2 (by decide) (by decide)
theorem q_dest {k : Nat} (hk : k < 2 ^ 31) : (nI k >>> ((4 : Int32) &&& 31)) &&& 15 = nI (k / 16 % 16) := q_fld hk _ _ 4 4 (by decide) (by decide)
theorem q_next {k : Nat} (hk : k < 2 ^ 31) : (nI k >>> ((20 : Int32) &&& 31)) &&& 1 = nI (k / 1048576 % 2) := q_fld hk _ _ 20 1 (by decide) (by decide)
theorem q_nextM {k : Nat} (hk : k < 2 ^ 31) : nI k >>> ((20 : Int32) &&& 31) = nI (k / 1048576) := pk_shrN hk _ 20 (by decide)
theorem q_src {k : Nat} (hk : k < 2 ^ 31) : nI k &&& 15 = nI (k % 16) := pk_andN (by omega) 4 (by decide)
theorem q_a31 {k : Nat} (hk : k < 2 ^ 31) : nI k &&& 31 = nI (k % 32) := pk_andN (by omega) 5 (by decide)
theorem q_r32 {k : Nat} (hk : k < 2 ^ 31) : nI k - nI k / 32 * 32 = nI (k % 32) := pk_rem (d := 32) hk (by decide) (by decide)
theorem q_r2 {k : Nat} (hk : k < 2 ^ 31) : nI k - nI k / 2 * 2 = nI (k % 2) := pk_rem (d := 2) hk (by decide) (by decide)
theorem q_r8 {k : Nat} (hk : k < 2 ^ 31) : nI k - nI k / 8 * 8 = nI (k % 8) := pk_rem (d := 8) hk (by decide) (by decide)
theorem q_d8 {k : Nat} (hk : k < 2 ^ 31) : nI k / 8 = nI (k / 8) := pk_div (d := 8) hk (by decide) (by decide)
theorem q_2 (n w : Nat) : nI n + 2 + nI w = nI (n + 2 + w) := by
  show nI n + nI 2 + nI w = _
  rw [nI_add, nI_add]
theorem q_e16 {s k : Nat} (hs : s < 16) (hk : k < 16) (e : nI s = nI k) : s = k := (nI_eq (by omega) (by omega)).mp e
/-- between the reading of an order and the end of the cycle n -/
def Mid (n : Nat) (σ : Nat → Int32) (α : Nat → Nat → Int32) (μ : Nat → Int32) (β : Nat → Nat → Int32) : Prop :=
  σ 9 = nI n ∧ μ 0 = nI n ∧ rGo (σ 7) (μ 1) ∧ σ 8 = μ 2 ∧ rLat (n + 1) (σ 12) (σ 13) (σ 14) (μ 5) (μ 6) (μ 7) ∧ rOrd (α 2) (β 1) ∧ rWrd (α 3) (β 2) ∧
  rDeck (σ 0) (σ 1) (α 5) (μ 17) (μ 18) (β 3) (β 4) ∧ rPun n (σ 5) (σ 6) (α 7) (μ 21) (μ 22) (β 5) ∧
  rProg (σ 28) (μ 23) (α 13) (α 14) (α 15) (α 16) (α 17) (β 6) (β 7) (β 8) (β 9) (β 10) ∧ rKept (α 22) (α 21) (μ 25) (β 20) (β 21) ∧
  (∃ d : Nat, rDue (n + 1) d (σ 11) (σ 10) (μ 3) (μ 4) ∧ rWins d (σ 18) (σ 19) (σ 20) (σ 21) (σ 22) (σ 23) (σ 24) (σ 25) (σ 26) (μ 8) (μ 9) (μ 10) (μ 11) (μ 12) (μ 13) (μ 14))
def qGap (w t : Nat) : Nat := if t < w then t + 32 else t
def qLast (c f v : Nat) : Nat := if c = 2 then v else if c = 1 then f + 1 else f
section PC
variable {σ μ : Nat → Int32} {α β : Nat → Nat → Int32} {n : Nat}
theorem x_open {post : gS → Prop} {k : Nat} (hk : k < 2097152) (hn : n < 2 ^ 29) (hp : post (va_up (va_up (va_up (va_up (va_up σ 18 (nI (k % 16))) 19 (nI (k / 16 % 16))) 20 (nI (n + 2 + k / 1024 % 32))) 22 (nI (n + 2 + qGap (k / 1024 % 32) (k / 32768 % 32)))) 21 (nI (qLast (k / 256 % 4) (n + 2 + k / 1024 % 32) (n + 2 + qGap (k / 1024 % 32) (k / 32768 % 32)))), α)) : wp_Wi_open_10 σ α (nI k) (nI n) post := by
  have hk31 : k < 2 ^ 31 := by omega
  have J : ∀ g : Nat, g = qGap (k / 1024 % 32) (k / 32768 % 32) → wp_Wi_open_10_J51 (va_up (va_up σ 18 (nI (k % 16))) 19 (nI (k / 16 % 16))) α (nI k) (nI n) (nI (k / 1024 % 32)) (nI g) post := by
    intro g hg
    unfold wp_Wi_open_10_J51 wp_Wi_lastOf_10 wp_Wi_lastOf_10_J28
    rw [q_2, q_2, q_kind hk31]
    rw [← hg] at hp
    unfold qLast at hp
    refine ⟨fun h => ⟨fun h2 => ?_, fun h2 => ?_⟩, fun h => ?_⟩
    · rw [if_neg (fun z => h (by rw [z]; rfl)), if_neg (fun z => h2 (by rw [z]; rfl))] at hp
      exact hp
    · have z : k / 256 % 4 = 1 := (nI_eq (b := 1) (by omega) (by decide)).mp h2
      rw [if_neg (by omega), if_pos z, ← nI_1] at hp
      exact hp
    · have z : k / 256 % 4 = 2 := (nI_eq (b := 2) (by omega) (by decide)).mp h
      rw [if_pos z] at hp
      exact hp
  unfold wp_Wi_open_10
  rw [q_wait hk31, q_time hk31, q_src hk31, q_dest hk31]
  refine ⟨fun h => J _ ?_, fun h => ?_⟩
  · have := (nI_leI (by omega) (by omega)).mp h
    exact (if_neg (by omega)).symm
  · have e : nI (k / 32768 % 32) + 32 = nI (k / 32768 % 32 + 32) := nI_add _ 32
    rw [e]
    refine J _ ?_
    have : ¬ k / 1024 % 32 ≤ k / 32768 % 32 := fun z => h (nI_le z (by omega))
    exact (if_pos (by omega)).symm
theorem m_gapOf {post : Int32 → gS → Prop} {k : Nat} (hk : k < 2097152) (hp : post (nI (qGap (k / 1024 % 32) (k / 32768 % 32))) (μ, β)) : wp_Md_gapOf μ β (nI k) post := by
  have hk31 : k < 2 ^ 31 := by omega
  unfold wp_Md_gapOf wp_Md_waitOf wp_Md_gapOf_J24
  rw [q_wait hk31, q_time hk31]
  unfold qGap at hp
  refine ⟨fun h => ?_, fun h => ?_⟩
  · have := (nI_leI (by omega) (by omega)).mp h
    rw [if_neg (by omega)] at hp
    exact hp
  · have : ¬ k / 1024 % 32 ≤ k / 32768 % 32 := fun z => h (nI_le z (by omega))
    rw [if_pos (by omega), ← nI_add] at hp
    exact hp
/-- the reading of an order, if one is due -/
theorem c_read {wc wb : Nat} (hn : n < 2 ^ 29) (h : Rel n σ α μ β) (g : μ 1 ≠ 0) : ∃ (wc' wb' : Nat) (σ' μ' : Nat → Int32), (∀ post, wp_Mc_goThroughCycle_J15 wc' wb' σ' α post → wp_Mc_goThroughCycle wc wb σ α post) ∧ (∀ post, wp_Md_cycle_J15 μ' β post → wp_Md_cycle μ β post) ∧ Mid n σ' α μ' β ∧ rMul (σ' 16) (σ' 17) (μ' 15) ∧ rFac (μ' 15) (σ' 15) (μ' 16) ∧ rCard n (σ' 2) (σ' 3) (σ' 4) (σ' 1) (α 5) (μ' 19) (μ' 20) (β 4) := by
  obtain ⟨hN, hM, hG, hF, hL, hO, hW, hD, hP, hU, hS, hK, hR⟩ := h
  obtain ⟨⟨d, ⟨d1, d2, d3, d4, l, hl, d5, d6⟩, hw⟩, hfac, hcard⟩ := hR g
  obtain ⟨eL, q, hq, e7, hz, hp⟩ := hL
  by_cases hnd : n = d
  · -- an order is read
    have hx : σ 9 = σ 11 := by rw [hN, d3, hnd]
    have hy : μ 0 = μ 3 := by rw [hM, d4, hnd]
    obtain ⟨k, hk, ek⟩ := hO.2 (32 * l + n % 32) (by omega)
    have i1 : σ 10 * 32 + (σ 9 &&& 31) = nI (32 * l + n % 32) := by rw [d5, hN, q_a31 (by omega), q_idx]
    have i2 : 32 * μ 4 + (μ 0 - μ 0 / 32 * 32) = nI (32 * l + n % 32) := by rw [d6, hM, q_r32 (by omega), q_idx']
    have ok : α 2 (nI (32 * l + n % 32)).toNatClampNeg = nI k := by rw [nI_clamp (by omega)]; exact ek
    have ok' : β 1 (nI (32 * l + n % 32)).toNatClampNeg = nI k := by rw [← hO.1]; exact ok
    have hk31 : k < 2 ^ 31 := by omega
    obtain ⟨w, hwd⟩ : ∃ w, w = k / 1024 % 32 := ⟨_, rfl⟩
    obtain ⟨gp, hgd⟩ : ∃ gp, gp = qGap w (k / 32768 % 32) := ⟨_, rfl⟩
    have hwg : w ≤ gp ∧ gp ≤ 63 := by
      rw [hgd]
      unfold qGap
      split <;> omega
    obtain ⟨L, hLd⟩ : ∃ L, L = qLast (k / 256 % 4) (n + 2 + w) (n + 2 + gp) := ⟨_, rfl⟩
    have hLb : L ≤ n + 2 + gp + 1 := by
      rw [hLd]
      unfold qLast
      split
      · omega
      · split <;> omega
    refine ⟨wb, wc, (va_up (va_up (va_up (va_up (va_up (va_up (va_up (va_up (va_up (va_up (va_up (va_up (va_up (va_up (va_up (va_up (va_up (va_up (va_up (va_up σ 12 (σ 10)) 13 (nI (n % 32))) 14 (σ 14 + 1)) 18 (σ 23)) 19 (σ 24)) 20 (σ 25)) 21 (σ 26)) 22 (σ 27)) 23 (σ 18)) 24 (σ 19)) 25 (σ 20)) 26 (σ 21)) 27 (σ 22)) 18 (nI (k % 16))) 19 (nI (k / 16 % 16))) 20 (nI (n + 2 + w))) 22 (nI (n + 2 + gp))) 21 (nI L)) 10 (nI (k / 1048576 % 2))) 11 (nI (n + 2 + gp))),
      (va_up (va_up (va_up (va_up (va_up (va_up (va_up (va_up (va_up (va_up (va_up (va_up μ 5 (μ 4)) 6 (nI (n % 32))) 7 (μ 7 + 1)) 8 (nI k)) 11 (μ 8)) 12 (μ 9)) 13 (μ 10)) 9 (nI (n + 2 + w))) 10 (nI L)) 3 (nI (n + 2 + gp))) 4 (nI (k / 1048576))) 14 0), ?_, ?_, ?_, hU, hfac, hcard⟩
    · intro post hpost
      unfold wp_Mc_goThroughCycle
      refine bs_t hx ?_
      unfold wp_Mc_takeOrder
      rw [i1, ok]
      refine ⟨vp_in_nI (by omega) (by decide), ?_⟩
      rw [hN, q_a31 (by omega)]
      refine x_open hk (by omega) ?_
      rw [q_next hk31, ← hwd, ← hgd, ← hLd]
      exact hpost
    · intro post hpost
      unfold wp_Md_cycle
      refine bs_t hy ?_
      have J : ∀ (t0 : Int32) (μ1 : Nat → Int32), t0 = nI L → μ1 0 = nI n → μ1 8 = nI k → (wp_Md_cycle_J15 (va_up (va_up (va_up (va_up μ1 10 (nI L)) 3 (nI (n + 2 + gp))) 4 (nI (k / 1048576))) 14 0) β post) → wp_Md_read_0_J143 μ1 β t0 (fun u12 => wp_Md_cycle_J15 u12.1 u12.2 post) := by
        intro t0 μ1 e1 e2 e3 hh
        unfold wp_Md_read_0_J143
        rw [e3, e1, e2]
        refine m_gapOf hk ?_
        rw [q_2, ← hwd, ← hgd]
        have e4 : (va_up μ1 10 (nI L)) 8 = nI k := e3
        show wp_Md_cycle_J15 (va_up (va_up (va_up (va_up μ1 10 (nI L)) 3 (nI (n + 2 + gp))) 4 ((va_up μ1 10 (nI L)) 8 >>> ((20 : Int32) &&& 31))) 14 0) β post
        rw [e4, q_nextM hk31]
        exact hh
      unfold wp_Md_read_0 wp_Md_waitOf
      rw [i2, ok']
      refine ⟨vp_in_nI (by omega) (by decide), ?_⟩
      rw [hM, q_r32 (by omega), q_wait hk31, q_kind hk31, ← hwd]
      dsimp only
      rw [q_2]
      refine ⟨fun h1 => ⟨fun h2 => ?_, fun h2 => ?_⟩, fun h1 => ?_⟩
      · refine J _ _ ?_ hM rfl hpost
        rw [hLd]
        unfold qLast
        rw [if_neg (fun z => h2 (by rw [z]; rfl)), if_neg (fun z => h1 (by rw [z]; rfl))]
      · have z : k / 256 % 4 = 2 := (nI_eq (b := 2) (by omega) (by decide)).mp h2
        refine m_gapOf (μ := _) hk ?_
        refine J _ _ ?_ hM rfl hpost
        show μ 0 + 2 + nI (qGap (k / 1024 % 32) (k / 32768 % 32)) = nI L
        rw [hM, q_2, ← hwd, ← hgd, hLd]
        unfold qLast
        rw [if_pos z]
      · have z : k / 256 % 4 = 1 := (nI_eq (b := 1) (by omega) (by decide)).mp h1
        refine J _ _ ?_ hM rfl hpost
        rw [hLd, nI_1]
        unfold qLast
        rw [if_neg (by omega), if_pos z]
    · refine ⟨hN, hM, hG, hF, ⟨?_, q + 1, by omega, ?_, fun z => absurd z (by omega), fun _ => ⟨?_, rfl⟩⟩, hO, hW, hD, hP, hS, hK, n + 2 + gp, ⟨by omega, by omega, rfl, rfl, k / 1048576, by omega, ?_, rfl⟩, Or.inr ⟨n + 2 + w, by omega, ⟨k, L, n + 2 + gp, hk, rfl, rfl, rfl, rfl, rfl, rfl, rfl, rfl, hLb, by omega, Or.inl ⟨rfl, rfl⟩⟩, ?_⟩⟩
      · show σ 14 + 1 = μ 7 + 1
        rw [eL]
      · show μ 7 + 1 = nI (q + 1)
        rw [e7, nI_1]
      · show σ 10 = μ 4
        rw [d5, d6]
      · show nI (k / 1048576 % 2) = nI (k / 1048576)
        rw [Nat.mod_eq_of_lt (by omega)]
      · rcases hw with ⟨-, hw⟩ | ⟨F, hF2, ⟨k0, L0, V0, a1, a2, a3, a4, a5, a6, a7, a8, a9, a10, a11, a12⟩, -⟩
        · exact Or.inl hw
        · refine Or.inr ⟨k0, F, L0, a1, a2, a3, a4, a5, a6, hF2, a7, a8, ?_⟩
          rcases a12 with ⟨-, z⟩ | ⟨-, z⟩ <;> omega
  · have hx : ¬ σ 9 = σ 11 := by
      rw [hN, d3]
      intro z
      exact hnd ((nI_eq (by omega) (by omega)).mp z)
    have hy : ¬ μ 0 = μ 3 := by
      rw [hM, d4]
      intro z
      exact hnd ((nI_eq (by omega) (by omega)).mp z)
    refine ⟨wc, wb, σ, μ, ?_, ?_, ?_, hU, hfac, hcard⟩
    · intro post hpost
      unfold wp_Mc_goThroughCycle
      exact bs_f hx hpost
    · intro post hpost
      unfold wp_Md_cycle
      exact bs_f hy hpost
    · exact ⟨hN, hM, hG, hF, ⟨eL, q, by omega, e7, hz, hp⟩, hO, hW, hD, hP, hS, hK, d, ⟨by omega, by omega, d3, d4, l, hl, d5, d6⟩, hw⟩
end PC
end
section
-- pure rows: the reader's row, sources
def rNo (n : Nat) (ps fa rm ta : Int32) (a : Nat → Int32) (fe mo : Int32) (b : Nat → Int32) : Prop :=
  rm = 0 ∧ ((ps = 0 ∧ (fe = -1 ∨ ∃ f : Nat, fe = nI f ∧ f + 130 < n)) ∨
    ∃ f t : Nat, ps = 1 ∧ fa = nI f ∧ fe = nI f ∧ f ≤ n ∧ n < f + 130 ∧ (n < f + 40 ∨ 2 < (n - (f + 40)) % 8) ∧ ta = nI t ∧ 12 ≤ t ∧ t ≤ 48 ∧ (∀ i, i < 12 → b i = a (t - 12 + i)) ∧ (mo = 0 ∨ mo = 1))
def rIn (n : Nat) (ps fa rm ta : Int32) (a : Nat → Int32) (fe mo : Int32) (b : Nat → Int32) (a1 a2 : Int32) : Prop :=
  ∃ f t x : Nat, ps = 1 ∧ fa = nI f ∧ fe = nI f ∧ f + 40 + x = n ∧ x ≤ 90 ∧ x % 8 ≤ 2 ∧ ta = nI t ∧ 12 ≤ t ∧ t ≤ 48 ∧ (∀ i, i < 12 → b i = a (t - 12 + i)) ∧ rm = mo ∧ (mo = 0 ∨ mo = 1) ∧ a1 = nI (x / 8) ∧ a2 = nI x
def rCardM (n : Nat) (ps fa rm ta : Int32) (a : Nat → Int32) (fe mo : Int32) (b : Nat → Int32) (a1 a2 : Int32) : Prop := (a1 = -1 ∧ rNo n ps fa rm ta a fe mo b) ∨ rIn n ps fa rm ta a fe mo b a1 a2
section PD
variable {σ μ : Nat → Int32} {α β : Nat → Nat → Int32} {n : Nat}
theorem q_40 {f x : Nat} (h : f + 40 + x = n) : nI n - nI f - 40 = nI x := by
  show nI n - nI f - nI 40 = nI x
  rw [pk_sub (by omega), pk_sub (by omega)]
  congr 1
  omega
theorem q_40n {f : Nat} (h : n < f + 40) (hf : f ≤ n) : nI n - nI f - 40 < 0 := by
  show nI n - nI f - nI 40 < 0
  rw [pk_sub hf]
  exact pk_sneg (by decide) (by omega)
theorem m_row_x {post : Int32 → gS → Prop} {f x : Nat} (hM : μ 0 = nI n) (e19 : μ 19 = nI f) (hx : f + 40 + x = n) (hn : n < 2 ^ 29) (hy : x % 8 ≤ 2 ∧ x ≤ 95 → post (nI (x / 8)) (μ, β)) (hno : ¬ (x % 8 ≤ 2 ∧ x ≤ 95) → post (-1) (μ, β)) : wp_Md_row μ β post := by
  unfold wp_Md_row wp_Md_row_J41 wp_Md_row_J49
  rw [hM, e19, q_40 hx, q_r8 (by omega), q_d8 (by omega)]
  refine br_f (nI_pos (by omega)) (br_f (nI_pos (by omega)) ⟨fun h => ?_, fun h => ⟨fun h2 => ?_, fun h2 => ?_⟩⟩)
  · have := (nI_ltI (a := 2) (by decide) (by omega)).mp h
    exact hno (by omega)
  · have a : ¬ 2 < x % 8 := fun z => h (nI_lt (a := 2) z (by omega))
    have b := (nI_leI (b := 11) (by omega) (by decide)).mp h2
    exact hy (by omega)
  · have b : ¬ x / 8 ≤ 11 := fun z => h2 (nI_le (b := 11) z (by decide))
    exact hno (by omega)
theorem m_row_no {post : Int32 → gS → Prop} {ps fa rm ta mo : Int32} {a b : Nat → Int32} (hM : μ 0 = nI n) (hn : n < 2 ^ 29) (h : rNo n ps fa rm ta a (μ 19) mo b) (hp : post (-1) (μ, β)) : wp_Md_row μ β post := by
  have neg : ∀ f : Nat, μ 19 = nI f → n < f + 40 → f ≤ n → wp_Md_row μ β post := by
    intro f e z z2
    unfold wp_Md_row wp_Md_row_J41 wp_Md_row_J49
    refine br_f (by rw [e]; exact nI_pos (by omega)) (br_t ?_ hp)
    rw [hM, e]
    exact q_40n z z2
  obtain ⟨-, ⟨-, h | ⟨f, e, h⟩⟩ | ⟨f, t, -, -, e, h1, h2, h3, -⟩⟩ := h
  · unfold wp_Md_row wp_Md_row_J41 wp_Md_row_J49
    exact br_t (by rw [h]; decide) hp
  · exact m_row_x (x := n - (f + 40)) hM e (by omega) hn (fun z => absurd z (by omega)) (fun _ => hp)
  · rcases Nat.lt_or_ge n (f + 40) with z | z
    · exact neg f e z h1
    · exact m_row_x (x := n - (f + 40)) hM e (by omega) hn (fun y => absurd y (by omega)) (fun _ => hp)
theorem x_off_0 {post : Int32 → gS → Prop} {x1 : Int32} (h : σ 2 = 0) (hp : post (-1) (σ, α)) : wp_Rd_offset σ α x1 post := by
  unfold wp_Rd_offset wp_Rd_offset_J32 wp_Rd_offset_J33 wp_Rd_offset_J49 wp_Rd_offset_J50
  exact ⟨fun _ => br_t h hp, fun _ => ⟨fun _ => br_t h hp, fun _ => ⟨fun _ => br_t h hp, fun _ => br_t h hp⟩⟩⟩
theorem x_off_1 {post : Int32 → gS → Prop} {f : Nat} (h : σ 2 = 1) (e3 : σ 3 = nI f) (hf : f ≤ n) (hn : n < 2 ^ 29) (hno : n < f + 40 ∨ 90 < n - (f + 40) ∨ 2 < (n - (f + 40)) % 8 → post (-1) (σ, α)) (hy : ¬ (n < f + 40 ∨ 90 < n - (f + 40) ∨ 2 < (n - (f + 40)) % 8) → post (nI (n - (f + 40))) (σ, α)) : wp_Rd_offset σ α (nI n) post := by
  have h0 : ¬ σ 2 = 0 := by rw [h]; decide
  unfold wp_Rd_offset wp_Rd_offset_J32 wp_Rd_offset_J33 wp_Rd_offset_J49 wp_Rd_offset_J50
  rw [e3]
  rcases Nat.lt_or_ge n (f + 40) with z | z
  · exact br_t (q_40n z hf) (br_f h0 (br_t rfl (hno (Or.inl z))))
  · rw [q_40 (x := n - (f + 40)) (by omega), q_r8 (by omega)]
    refine br_f (nI_pos (by omega)) ⟨fun a => br_f h0 (br_t rfl (hno ?_)), fun a => ⟨fun b => br_f h0 (br_t rfl (hno ?_)), fun b => br_f h0 (br_f (by decide) (hy ?_))⟩⟩
    · exact Or.inr (Or.inl ((nI_ltI (a := 90) (by decide) (by omega)).mp a))
    · have := (nI_leI (a := 3) (by decide) (by omega)).mp b
      exact Or.inr (Or.inr (by omega))
    · have a' : ¬ 90 < n - (f + 40) := fun y => a (nI_lt (a := 90) y (by omega))
      have b' : ¬ 3 ≤ (n - (f + 40)) % 8 := fun y => b (nI_le (a := 3) y (by omega))
      omega
theorem x_off_no {post : Int32 → gS → Prop} {mo fe : Int32} {b : Nat → Int32} (hn : n < 2 ^ 29) (h : rNo n (σ 2) (σ 3) (σ 4) (σ 1) (α 5) fe mo b) (hp : post (-1) (σ, α)) : wp_Rd_offset σ α (nI n) post := by
  obtain ⟨-, ⟨h, -⟩ | ⟨f, t, h, e, -, h1, h2, h3, -⟩⟩ := h
  · exact x_off_0 h hp
  · refine x_off_1 h e h1 hn (fun _ => hp) (fun z => absurd ?_ z)
    rcases h3 with h3 | h3
    · exact Or.inl h3
    · exact Or.inr (Or.inr h3)
/-- the reader's row at the beginning of a cycle -/
theorem c_row (hn : n < 2 ^ 29) (hM : μ 0 = nI n) (hc : rCard n (σ 2) (σ 3) (σ 4) (σ 1) (α 5) (μ 19) (μ 20) (β 4)) : ∃ a1 a2 t0 : Int32, (∀ post, wp_Md_cycle_J57 μ β a1 a2 t0 post → wp_Md_cycle_J15 μ β post) ∧ (t0 = 0 ∨ t0 = 1) ∧ rCardM n (σ 2) (σ 3) (σ 4) (σ 1) (α 5) (μ 19) t0 (β 4) a1 a2 := by
  have NO : rNo n (σ 2) (σ 3) (σ 4) (σ 1) (α 5) (μ 19) (if μ 20 = 0 then 0 else 1) (β 4) → ∃ a1 a2 t0 : Int32, (∀ post, wp_Md_cycle_J57 μ β a1 a2 t0 post → wp_Md_cycle_J15 μ β post) ∧ (t0 = 0 ∨ t0 = 1) ∧ rCardM n (σ 2) (σ 3) (σ 4) (σ 1) (α 5) (μ 19) t0 (β 4) a1 a2 := by
    intro h
    refine ⟨-1, μ 0 - μ 19 - 40, if μ 20 = 0 then 0 else 1, ?_, ?_, Or.inl ⟨rfl, h⟩⟩
    · intro post hp
      unfold wp_Md_cycle_J15 wp_Md_cycle_J52 wp_Md_cycle_J56
      refine m_row_no hM hn h ?_
      refine ⟨fun z => ?_, fun z => br_t (by decide) ?_⟩
      · have z : μ 20 = 0 := z
        rw [if_pos z] at hp
        exact hp
      · have z : ¬ μ 20 = 0 := z
        rw [if_neg z] at hp
        exact hp
    · split
      · exact Or.inl rfl
      · exact Or.inr rfl
  rcases hc with ⟨h1, h2, h3⟩ | ⟨f, t, k1, k2, k3, k4, k5, k6, k7, k8, k9, k10, k11, k12, k13⟩
  · exact NO ⟨h2, Or.inl ⟨h1, h3⟩⟩
  · by_cases hin : f + 40 ≤ n ∧ (n - (f + 40)) % 8 ≤ 2
    · obtain ⟨x, hx⟩ : ∃ x, x = n - (f + 40) := ⟨_, rfl⟩
      rw [← hx] at hin
      refine ⟨nI (x / 8), nI x, if μ 20 = 0 then 0 else if x % 8 = 0 then 0 else 1, ?_, ?_, Or.inr ⟨f, t, x, k1, k2, k3, by omega, by omega, hin.2, k6, k7, k8, k9, ?_, ?_, rfl, rfl⟩⟩
      · intro post hp
        unfold wp_Md_cycle_J15 wp_Md_cycle_J52 wp_Md_cycle_J56
        refine m_row_x (x := x) hM k3 (by omega) hn (fun _ => ?_) (fun z => absurd ⟨hin.2, by omega⟩ z)
        have e : μ 0 - μ 19 - 40 = nI x := by rw [hM, k3]; exact q_40 (by omega)
        refine ⟨fun z => ?_, fun z => br_f (nI_pos (by omega)) ?_⟩
        · have z : μ 20 = 0 := z
          rw [if_pos z] at hp
          show wp_Md_cycle_J57 μ β (nI (x / 8)) (μ 0 - μ 19 - 40) 0 post
          rw [e]
          exact hp
        · have z : ¬ μ 20 = 0 := z
          rw [if_neg z] at hp
          show ((μ 0 - μ 19 - 40) - (μ 0 - μ 19 - 40) / 8 * 8 = 0 → wp_Md_cycle_J57 μ β (nI (x / 8)) (μ 0 - μ 19 - 40) 0 post) ∧ (¬ (μ 0 - μ 19 - 40) - (μ 0 - μ 19 - 40) / 8 * 8 = 0 → wp_Md_cycle_J57 μ β (nI (x / 8)) (μ 0 - μ 19 - 40) 1 post)
          rw [e, q_r8 (by omega)]
          refine ⟨fun y => ?_, fun y => ?_⟩
          · have y : x % 8 = 0 := (nI_eq (b := 0) (by omega) (by decide)).mp y
            rw [if_pos y] at hp
            exact hp
          · rw [if_neg (fun w => y (by rw [w]; rfl))] at hp
            exact hp
      · split
        · exact Or.inl rfl
        · split
          · exact Or.inl rfl
          · exact Or.inr rfl
      · by_cases z : x % 8 = 0
        · rw [k13 (fun q => by have := q.2; omega)]
          rw [if_pos z]
          split <;> rfl
        · rw [k12 ⟨by omega, by omega⟩, if_neg z]
          rcases k11 with e | e
          · rw [if_pos e, e]
          · rw [if_neg (by rw [e]; decide), e]
      · split
        · exact Or.inl rfl
        · split
          · exact Or.inl rfl
          · exact Or.inr rfl
    · refine NO ⟨k13 (fun q => by have := q.1; have := q.2; omega), Or.inr ⟨f, t, k1, k2, k3, by omega, by omega, by omega, k6, k7, k8, k9, ?_⟩⟩
      split
      · exact Or.inl rfl
      · exact Or.inr rfl
-- sources
def qSp (n s : Nat) : Nat := if s < 6 then 32 * (s - 2) + n % 32 else if s = 6 then 128 else if s = 7 then 129 else 130 + n % 2
theorem qSp_lt {s : Nat} (h2 : 2 ≤ s) (h8 : s ≤ 8) : qSp n s < 132 := by
  unfold qSp
  split
  · omega
  · split
    · omega
    · split <;> omega
theorem s_presentedSpot {post : Int32 → gS → Prop} {s : Nat} (h2 : 2 ≤ s) (h8 : s ≤ 8) (hn : n < 2 ^ 29) (hp : post (nI (qSp n s)) (σ, α)) : wp_St_presentedSpot σ α (nI s) (nI n) post := by
  unfold wp_St_presentedSpot
  refine s_firstSpot (s_placesOf ?_)
  have e : qF (nI s) + (nI n &&& (qP (nI s) - 1)) = nI (qSp n s) := by
    rcases (show s = 2 ∨ s = 3 ∨ s = 4 ∨ s = 5 ∨ s = 6 ∨ s = 7 ∨ s = 8 by omega) with rfl | rfl | rfl | rfl | rfl | rfl | rfl
    · rw [show qF (nI 2) = nI 0 by decide, show qP (nI 2) - 1 = 31 by decide, q_a31 (by omega), nI_add]
      rfl
    · rw [show qF (nI 3) = nI 32 by decide, show qP (nI 3) - 1 = 31 by decide, q_a31 (by omega), nI_add]
      rfl
    · rw [show qF (nI 4) = nI 64 by decide, show qP (nI 4) - 1 = 31 by decide, q_a31 (by omega), nI_add]
      rfl
    · rw [show qF (nI 5) = nI 96 by decide, show qP (nI 5) - 1 = 31 by decide, q_a31 (by omega), nI_add]
      rfl
    · rw [show qF (nI 6) = nI 128 by decide, show qP (nI 6) - 1 = 0 by decide, pk_andN (by omega) 0 (by decide), nI_add]
      rw [show n % 2 ^ 0 = 0 by omega]
      rfl
    · rw [show qF (nI 7) = nI 129 by decide, show qP (nI 7) - 1 = 0 by decide, pk_andN (by omega) 0 (by decide), nI_add]
      rw [show n % 2 ^ 0 = 0 by omega]
      rfl
    · rw [show qF (nI 8) = nI 130 by decide, show qP (nI 8) - 1 = 1 by decide, pk_andN (by omega) 1 (by decide), nI_add]
      rfl
  show post (qF (nI s) + (nI n &&& (qP (nI s) - 1))) (σ, α)
  rw [e]
  exact hp
def qSrc (w : Nat → Int32) (n s : Nat) : Int32 := if s = 0 then 0 else if s = 1 then 1 else if s < 9 then w (qSp n s) else if s = 9 then (w 128 &&& w 129).toInt16.toInt32 else if s = 10 then (w 128 ^^^ w 129).toInt16.toInt32 else if s = 11 then -1 else if s = 12 then (w 128 >>> ((1 : Int32) &&& 31)).toInt16.toInt32 else if s = 14 then (w 128 ^^^ (-1)).toInt16.toInt32 else (nI n).toInt16.toInt32
theorem qSrc_s {w : Nat → Int32} {s : Nat} (hw : ∀ j, qS (w j)) : qS (qSrc w n s) := by
  unfold qSrc
  split
  · exact qS_0
  · split
    · exact (show qS 1 from rfl)
    · split
      · exact hw _
      · split
        · exact qS_s _
        · split
          · exact qS_s _
          · split
            · exact (show qS (-1) from rfl)
            · split
              · exact qS_s _
              · split
                · exact qS_s _
                · exact qS_s _
theorem x_J148 {post : Int32 → gS → Prop} {s : Nat} (h2 : 2 ≤ s) (h8 : s ≤ 8) (hn : n < 2 ^ 29) (hN : σ 9 = nI n) (hw : ∀ j, qS (α 3 j)) (hp : post (α 3 (qSp n s)) (σ, α)) : wp_Mc_sourceWord_J148 σ α (nI s) post := by
  unfold wp_Mc_sourceWord_J148
  rw [hN]
  have := qSp_lt (n := n) h2 h8
  refine s_presentedSpot h2 h8 hn ⟨vp_in_nI this (by decide), hw _, ?_⟩
  rw [nI_clamp (by omega)]
  exact hp
theorem x_src {post : Int32 → gS → Prop} {s : Nat} (hs : s < 16) (h13 : s ≠ 13) (hn : n < 2 ^ 29) (hN : σ 9 = nI n) (hw : ∀ j, qS (α 3 j)) (hp : post (qSrc (α 3) n s) (σ, α)) : wp_Mc_sourceWord σ α (nI s) post := by
  unfold wp_Mc_sourceWord
  rw [c128, c129]
  refine ⟨fun e => ?_, fun e => ?_, fun e => ?_, fun e => ?_, fun e => ?_, fun e => ?_, fun e => ?_, fun e => ?_, fun e => ?_, fun e => ?_, fun e => ?_, fun e => ?_, fun e => ?_, fun e => ?_, fun e => ?_, fun e => ?_, fun e => ?_⟩
  · have e := q_e16 (k := 0) hs (by decide) e
    subst e
    exact hp
  · have e := q_e16 (k := 1) hs (by decide) e
    subst e
    exact hp
  · have e := q_e16 (k := 2) hs (by decide) e
    subst e
    exact x_J148 (by decide) (by decide) hn hN hw hp
  · have e := q_e16 (k := 3) hs (by decide) e
    subst e
    exact x_J148 (by decide) (by decide) hn hN hw hp
  · have e := q_e16 (k := 4) hs (by decide) e
    subst e
    exact x_J148 (by decide) (by decide) hn hN hw hp
  · have e := q_e16 (k := 5) hs (by decide) e
    subst e
    exact x_J148 (by decide) (by decide) hn hN hw hp
  · have e := q_e16 (k := 6) hs (by decide) e
    subst e
    exact x_J148 (by decide) (by decide) hn hN hw hp
  · have e := q_e16 (k := 7) hs (by decide) e
    subst e
    exact x_J148 (by decide) (by decide) hn hN hw hp
  · have e := q_e16 (k := 8) hs (by decide) e
    subst e
    exact x_J148 (by decide) (by decide) hn hN hw hp
  · have e := q_e16 (k := 9) hs (by decide) e
    subst e
    exact ⟨pk_ns _, hp⟩
  · have e := q_e16 (k := 10) hs (by decide) e
    subst e
    exact ⟨pk_ns _, hp⟩
  · have e := q_e16 (k := 11) hs (by decide) e
    subst e
    exact hp
  · have e := q_e16 (k := 12) hs (by decide) e
    subst e
    exact ⟨pk_ns _, hp⟩
  · exact absurd (q_e16 (k := 13) hs (by decide) e) h13
  · have e := q_e16 (k := 14) hs (by decide) e
    subst e
    exact ⟨pk_ns _, hp⟩
  · have e := q_e16 (k := 15) hs (by decide) e
    subst e
    rw [hN]
    exact ⟨pk_ns _, hp⟩
  · rw [nI_toInt (by omega)] at e
    omega
theorem m_J96 {post : Int32 → gS → Prop} {s : Nat} (h2 : 2 ≤ s) (h8 : s ≤ 5) (hn : n < 2 ^ 29) (hM : μ 0 = nI n) (hw : ∀ j, qS (β 2 j)) (hp : post (β 2 (32 * (s - 2) + n % 32)) (μ, β)) : wp_Md_get_J96 μ β (nI s) post := by
  unfold wp_Md_get_J96
  have e : 32 * (nI s - 2) + (μ 0 - μ 0 / 32 * 32) = nI (32 * (s - 2) + n % 32) := by
    rw [hM, q_r32 (by omega)]
    show 32 * (nI s - nI 2) + _ = _
    rw [pk_sub h2, q_idx']
  rw [e]
  refine ⟨vp_in_nI (by omega) (by decide), hw _, ?_⟩
  rw [nI_clamp (by omega)]
  exact hp
theorem m_get {post : Int32 → gS → Prop} {s : Nat} (hs : s < 16) (h13 : s ≠ 13) (hn : n < 2 ^ 29) (hM : μ 0 = nI n) (hw : ∀ j, qS (β 2 j)) (hp : post (qSrc (β 2) n s) (μ, β)) : wp_Md_get μ β (nI s) post := by
  unfold wp_Md_get
  rw [c128, c129]
  refine ⟨fun e => ?_, fun e => ?_, fun e => ?_, fun e => ?_, fun e => ?_, fun e => ?_, fun e => ?_, fun e => ?_, fun e => ?_, fun e => ?_, fun e => ?_, fun e => ?_, fun e => ?_, fun e => ?_, fun e => ?_, fun e => ?_⟩
  · have e := q_e16 (k := 0) hs (by decide) e
    subst e
    exact hp
  · have e := q_e16 (k := 1) hs (by decide) e
    subst e
    exact hp
  · have e := q_e16 (k := 2) hs (by decide) e
    subst e
    exact m_J96 (by decide) (by decide) hn hM hw hp
  · have e := q_e16 (k := 3) hs (by decide) e
    subst e
    exact m_J96 (by decide) (by decide) hn hM hw hp
  · have e := q_e16 (k := 4) hs (by decide) e
    subst e
    exact m_J96 (by decide) (by decide) hn hM hw hp
  · have e := q_e16 (k := 5) hs (by decide) e
    subst e
    exact m_J96 (by decide) (by decide) hn hM hw hp
  · have e := q_e16 (k := 6) hs (by decide) e
    subst e
    exact ⟨hw _, hp⟩
  · have e := q_e16 (k := 7) hs (by decide) e
    subst e
    exact ⟨hw _, hp⟩
  · have e := q_e16 (k := 8) hs (by decide) e
    subst e
    have e : 130 + (μ 0 - μ 0 / 2 * 2) = nI (130 + n % 2) := by
      rw [hM, q_r2 (by omega)]
      exact nI_add 130 _
    rw [e]
    refine ⟨vp_in_nI (by omega) (by decide), hw _, ?_⟩
    rw [nI_clamp (by omega)]
    exact hp
  · have e := q_e16 (k := 9) hs (by decide) e
    subst e
    exact ⟨pk_ns _, hp⟩
  · have e := q_e16 (k := 10) hs (by decide) e
    subst e
    exact ⟨pk_ns _, hp⟩
  · have e := q_e16 (k := 11) hs (by decide) e
    subst e
    exact hp
  · have e := q_e16 (k := 12) hs (by decide) e
    subst e
    exact ⟨pk_ns _, hp⟩
  · exact absurd (q_e16 (k := 13) hs (by decide) e) h13
  · have e := q_e16 (k := 14) hs (by decide) e
    subst e
    exact ⟨pk_ns _, hp⟩
  · rw [nI_toInt (by omega)] at e
    have e : s = 15 := by omega
    subst e
    rw [hM]
    exact ⟨pk_ns _, hp⟩
/-- the word of a source, and that a row was moved -/
theorem c_src {a1 a2 : Int32} {s : Nat} (hs : s < 16) (hn : n < 2 ^ 29) (hN : σ 9 = nI n) (hM : μ 0 = nI n) (hW : rWrd (α 3) (β 2)) (h5 : ∀ j, qS (α 5 j)) (hb : μ 20 = 0 ∨ μ 20 = 1) (hc : rCardM n (σ 2) (σ 3) (σ 4) (σ 1) (α 5) (μ 19) (μ 20) (β 4) a1 a2) : ∃ (v t1 : Int32) (σ' : Nat → Int32), qS v ∧ (∀ post, post v (σ', α) → wp_Mc_sourceWord σ α (nI s) post) ∧ (∀ post, post v (μ, β) → wp_Md_get μ β (nI s) post) ∧ (σ' = σ ∨ σ' = va_up σ 4 1) ∧ (t1 = 0 ∨ t1 = 1) ∧ (∀ A B : Prop, (t1 = 1 → A) → (t1 = 0 → B) → (¬ μ 20 = 0 → A) ∧ (μ 20 = 0 → (a1 < 0 → B) ∧ (¬ a1 < 0 → (¬ nI s = 13 → B) ∧ (nI s = 13 → A)))) ∧ rCardM n (σ' 2) (σ' 3) (σ' 4) (σ' 1) (α 5) (μ 19) t1 (β 4) a1 a2 := by
  have hw' : ∀ j, qS (β 2 j) := by rw [← hW.1]; exact hW.2
  have keep : (s ≠ 13 ∨ a1 < 0) → ∀ A B : Prop, (μ 20 = 1 → A) → (μ 20 = 0 → B) → (¬ μ 20 = 0 → A) ∧ (μ 20 = 0 → (a1 < 0 → B) ∧ (¬ a1 < 0 → (¬ nI s = 13 → B) ∧ (nI s = 13 → A))) := by
    intro h A B ha hb2
    refine ⟨fun z => ha (hb.resolve_left z), fun z => ⟨fun _ => hb2 z, fun y => ⟨fun _ => hb2 z, fun w => ?_⟩⟩⟩
    rcases h with h | h
    · exact absurd (q_e16 (k := 13) hs (by decide) w) h
    · exact absurd h y
  by_cases h13 : s = 13
  · subst h13
    rcases hc with ⟨e1, hno⟩ | hin
    · refine ⟨0, μ 20, σ, rfl, ?_, ?_, Or.inl rfl, hb, keep (Or.inr (by rw [e1]; decide)), Or.inl ⟨e1, hno⟩⟩
      · intro post hp
        unfold wp_Mc_sourceWord
        refine ⟨fun e => absurd e (by decide), fun e => absurd e (by decide), fun e => absurd e (by decide), fun e => absurd e (by decide), fun e => absurd e (by decide), fun e => absurd e (by decide), fun e => absurd e (by decide), fun e => absurd e (by decide), fun e => absurd e (by decide), fun e => absurd e (by decide), fun e => absurd e (by decide), fun e => absurd e (by decide), fun e => absurd e (by decide), fun _ => ?_, fun e => absurd e (by decide), fun e => absurd e (by decide), fun e => absurd e (by decide)⟩
        rw [hN]
        unfold wp_Rd_moveRow
        exact x_off_no hn hno (br_f (by decide) ⟨rfl, hp⟩)
      · intro post hp
        unfold wp_Md_get wp_Md_get_J187
        refine ⟨fun e => absurd e (by decide), fun e => absurd e (by decide), fun e => absurd e (by decide), fun e => absurd e (by decide), fun e => absurd e (by decide), fun e => absurd e (by decide), fun e => absurd e (by decide), fun e => absurd e (by decide), fun e => absurd e (by decide), fun e => absurd e (by decide), fun e => absurd e (by decide), fun e => absurd e (by decide), fun e => absurd e (by decide), fun _ => ?_, fun e => absurd e (by decide), fun e => absurd e (by decide)⟩
        exact m_row_no hM hn hno (br_f (by decide) ⟨rfl, hp⟩)
    · obtain ⟨f, t, x, k1, k2, k3, k4, k5, k6, k7, k8, k9, k10, k11, k12, k13, k14⟩ := hin
      have hv := k10 (x / 8) (by omega)
      refine ⟨α 5 (t - 12 + x / 8), 1, va_up σ 4 1, h5 _, ?_, ?_, Or.inr rfl, Or.inr rfl, ?_, Or.inr ⟨f, t, x, k1, k2, k3, k4, k5, k6, k7, k8, k9, k10, rfl, Or.inr rfl, k13, k14⟩⟩
      · intro post hp
        unfold wp_Mc_sourceWord
        refine ⟨fun e => absurd e (by decide), fun e => absurd e (by decide), fun e => absurd e (by decide), fun e => absurd e (by decide), fun e => absurd e (by decide), fun e => absurd e (by decide), fun e => absurd e (by decide), fun e => absurd e (by decide), fun e => absurd e (by decide), fun e => absurd e (by decide), fun e => absurd e (by decide), fun e => absurd e (by decide), fun e => absurd e (by decide), fun _ => ?_, fun e => absurd e (by decide), fun e => absurd e (by decide), fun e => absurd e (by decide)⟩
        rw [hN]
        unfold wp_Rd_moveRow
        refine x_off_1 k1 k2 (by omega) hn (fun z => absurd z (by omega)) (fun _ => ?_)
        rw [show n - (f + 40) = x by omega]
        refine br_t (nI_pos' (by omega)) ?_
        have e : σ 1 - 12 + nI x / 8 = nI (t - 12 + x / 8) := by
          rw [k7, q_d8 (by omega)]
          show nI t - nI 12 + _ = _
          rw [pk_sub k8, nI_add]
        show vp_in (σ 1 - 12 + nI x / 8) 48 ∧ (narrow .short (.int (α 5 (σ 1 - 12 + nI x / 8).toNatClampNeg)) = .int (α 5 (σ 1 - 12 + nI x / 8).toNatClampNeg) ∧ (narrow .short (.int (α 5 (σ 1 - 12 + nI x / 8).toNatClampNeg)) = .int (α 5 (σ 1 - 12 + nI x / 8).toNatClampNeg) ∧ post (α 5 (σ 1 - 12 + nI x / 8).toNatClampNeg) (va_up σ 4 1, α)))
        rw [e, nI_clamp (by omega)]
        exact ⟨vp_in_nI (by omega) (by decide), h5 _, h5 _, hp⟩
      · intro post hp
        unfold wp_Md_get wp_Md_get_J187
        refine ⟨fun e => absurd e (by decide), fun e => absurd e (by decide), fun e => absurd e (by decide), fun e => absurd e (by decide), fun e => absurd e (by decide), fun e => absurd e (by decide), fun e => absurd e (by decide), fun e => absurd e (by decide), fun e => absurd e (by decide), fun e => absurd e (by decide), fun e => absurd e (by decide), fun e => absurd e (by decide), fun e => absurd e (by decide), fun _ => ?_, fun e => absurd e (by decide), fun e => absurd e (by decide)⟩
        refine m_row_x (x := x) hM k3 k4 hn (fun _ => br_t (nI_pos' (by omega)) ?_) (fun z => absurd ⟨k6, by omega⟩ z)
        refine m_row_x (x := x) hM k3 k4 hn (fun _ => ?_) (fun z => absurd ⟨k6, by omega⟩ z)
        show vp_in (nI (x / 8)) 12 ∧ (narrow .short (.int (β 4 (nI (x / 8)).toNatClampNeg)) = .int (β 4 (nI (x / 8)).toNatClampNeg) ∧ post (β 4 (nI (x / 8)).toNatClampNeg) (μ, β))
        rw [nI_clamp (by omega), hv]
        exact ⟨vp_in_nI (by omega) (by decide), h5 _, hp⟩
      · intro A B ha _
        refine ⟨fun _ => ha rfl, fun _ => br_f (by rw [k13]; exact nI_pos (by omega)) ⟨fun z => absurd rfl z, fun _ => ha rfl⟩⟩
  · exact ⟨qSrc (α 3) n s, μ 20, σ, qSrc_s hW.2, fun post hp => x_src hs h13 hn hN hW.2 hp, fun post hp => m_get hs h13 hn hM hw' (by rw [← hW.1]; exact hp), Or.inl rfl, hb, keep (Or.inl h13), hc⟩
end PD
end
section
-- pure rows: destinations
def rMulM (l fr w fx fm : Int32) : Prop := (fr = 0 ∧ (∃ k : Nat, k ≤ 16 ∧ l = nI k ∧ w = nI k) ∧ rFac w fx fm) ∨ (fr = 1 ∧ l = 16 ∧ w = 17 ∧ fx.toInt16.toInt32 = fm ∧ qS fm)
def St (n : Nat) (a1 a2 : Int32) (σ : Nat → Int32) (α : Nat → Nat → Int32) (μ : Nat → Int32) (β : Nat → Nat → Int32) : Prop :=
  Mid n σ α μ β ∧ rMulM (σ 16) (σ 17) (μ 15) (σ 15) (μ 16) ∧ rCardM n (σ 2) (σ 3) (σ 4) (σ 1) (α 5) (μ 19) (μ 20) (β 4) a1 a2
section PE
variable {σ μ : Nat → Int32} {α β : Nat → Nat → Int32} {n : Nat} {a1 a2 : Int32}
theorem c_fail0 (x : Int32) (hF : σ 8 = μ 2) : ∃ s : Int32, (∀ post, post (va_up (va_up σ 7 0) 8 s, α) → wp_Mc_stopBy σ α x post) ∧ (∀ post, post (va_up (va_up μ 1 0) 2 s, β) → wp_Md_fail μ β x post) := by
  by_cases z : σ 8 = 0
  · refine ⟨x, fun post hp => ?_, fun post hp => ?_⟩
    · unfold wp_Mc_stopBy wp_Mc_stopBy_J17
      exact bs_t z hp
    · unfold wp_Md_fail wp_Md_fail_J16
      exact bs_t (by rw [← hF]; exact z) hp
  · refine ⟨σ 8, fun post hp => ?_, fun post hp => ?_⟩
    · have e : va_up (va_up σ 7 0) 8 (σ 8) = va_up σ 7 0 := q_upself (va_up σ 7 0) 8
      rw [e] at hp
      unfold wp_Mc_stopBy wp_Mc_stopBy_J17
      exact bs_f z hp
    · unfold wp_Md_fail wp_Md_fail_J16
      refine bs_f (by rw [← hF]; exact z) ?_
      rw [← hF]
      exact hp
theorem c_fail (x : Int32) (h : St n a1 a2 σ α μ β) : ∃ σ' μ' : Nat → Int32, (∀ post, post (σ', α) → wp_Mc_stopBy σ α x post) ∧ (∀ post, post (μ', β) → wp_Md_fail μ β x post) ∧ St n a1 a2 σ' α μ' β := by
  obtain ⟨⟨hN, hM, hG, hF, hL, hO, hW, hD, hP, hS, hK, hE⟩, hU, hC⟩ := h
  obtain ⟨s, f1, f2⟩ := c_fail0 (α := α) (β := β) x hF
  exact ⟨_, _, f1, f2, ⟨hN, hM, ⟨rfl, Or.inl rfl⟩, rfl, hL, hO, hW, hD, hP, hS, hK, hE⟩, hU, hC⟩
theorem x_J189 {post : gS → Prop} {v : Int32} {s : Nat} (h2 : 2 ≤ s) (h8 : s ≤ 8) (hn : n < 2 ^ 29) (hN : σ 9 = nI n) (hp : post (σ, va_up α 3 (upd (α 3) (qSp n s) (vp_nar .short v)))) : wp_Mc_deliver_J189 σ α v (nI s) post := by
  unfold wp_Mc_deliver_J189 wp_Mc_deliver_J206
  rw [hN]
  have := qSp_lt (n := n) h2 h8
  refine s_presentedSpot h2 h8 hn ⟨vp_in_nI this (by decide), ?_⟩
  rw [nI_clamp (by omega)]
  exact hp
theorem m_J87 {post : gS → Prop} {v : Int32} {s : Nat} (h2 : 2 ≤ s) (h8 : s ≤ 5) (hn : n < 2 ^ 29) (hM : μ 0 = nI n) (hp : post (μ, va_up β 2 (upd (β 2) (32 * (s - 2) + n % 32) (vp_nar .short v)))) : wp_Md_put_J87 μ β (nI s) v post := by
  unfold wp_Md_put_J87 wp_Md_put_J265
  have e : 32 * (nI s - 2) + (μ 0 - μ 0 / 32 * 32) = nI (32 * (s - 2) + n % 32) := by
    rw [hM, q_r32 (by omega)]
    show 32 * (nI s - nI 2) + _ = _
    rw [pk_sub h2, q_idx']
  rw [e]
  refine ⟨vp_in_nI (by omega) (by decide), ?_⟩
  rw [nI_clamp (by omega)]
  exact hp
-- a card is fed
def qSh (B : Nat → Int32) (i : Nat) : Nat → Int32 := fun j => if j < i then B (j + 12) else B j
def qCp (a b : Nat → Int32) (i : Nat) : Nat → Int32 := fun j => if j < i then a j else b j
theorem qSh_s {B : Nat → Int32} {i : Nat} (h : ∀ j, qS (B j)) : ∀ j, qS (qSh B i j) := by
  intro j
  unfold qSh
  split
  · exact h _
  · exact h _
theorem qCp_s {a b : Nat → Int32} {i : Nat} (h : ∀ j, qS (a j)) (h2 : ∀ j, qS (b j)) : ∀ j, qS (qCp a b i j) := by
  intro j
  unfold qCp
  split
  · exact h _
  · exact h2 _
theorem qSh_0 (B : Nat → Int32) : qSh B 0 = B := by
  funext j
  exact if_neg (Nat.not_lt_zero j)
theorem qCp_0 (a b : Nat → Int32) : qCp a b 0 = b := by
  funext j
  exact if_neg (Nat.not_lt_zero j)
theorem qSh_up {B : Nat → Int32} {i : Nat} (h : ∀ j, qS (B j)) : upd (qSh B i) i (vp_nar .short (qSh B i (i + 12))) = qSh B (i + 1) := by
  have e : qSh B i (i + 12) = B (i + 12) := if_neg (by omega)
  rw [e, qS_id (h _)]
  funext j
  unfold upd qSh
  by_cases z : j = i
  · rw [if_pos z, if_pos (by omega), z]
  · rw [if_neg z]
    by_cases y : j < i
    · rw [if_pos y, if_pos (by omega)]
    · rw [if_neg y, if_neg (by omega)]
theorem qCp_up {a b : Nat → Int32} {i : Nat} (h : ∀ j, qS (a j)) : upd (qCp a b i) i (vp_nar .short (a i)) = qCp a b (i + 1) := by
  rw [qS_id (h _)]
  funext j
  unfold upd qCp
  by_cases z : j = i
  · rw [if_pos z, if_pos (by omega), z]
  · rw [if_neg z]
    by_cases y : j < i
    · rw [if_pos y, if_pos (by omega)]
    · rw [if_neg y, if_neg (by omega)]
theorem m_L76 {post : gS → Prop} {B : Nat → Int32} {c : Nat} (hc : c + 12 ≤ 48) (e17 : μ 17 = nI c) (hB : ∀ j, qS (B j)) (hp : post (va_up (va_up μ 19 (μ 0)) 20 0, va_up β 3 (qSh B c))) : ∀ k i : Nat, i + k = c → wp_Md_feed_L76 μ (va_up β 3 (qSh B i)) (nI i) post := by
  intro k i hik X hX
  induction k generalizing i with
  | zero =>
    apply hX
    unfold wp_Md_feed_B76
    refine br_t (by rw [e17]; exact nI_le (by omega) (by omega)) ?_
    rw [show i = c by omega]
    exact hp
  | succ k ih =>
    apply hX
    unfold wp_Md_feed_B76
    rw [io1]
    have e12 : nI i + 12 = nI (i + 12) := nI_add i 12
    refine br_f (by rw [e17]; exact nI_ge (by omega) (by omega)) ?_
    rw [e12]
    refine ⟨vp_in_nI (by omega) (by decide), vp_in_nI (by omega) (by decide), ?_⟩
    rw [bx_uu, nI_clamp (by omega), nI_clamp (by omega), nI_1]
    show X μ (va_up β 3 (upd (qSh B i) i (vp_nar .short (qSh B i (i + 12))))) (nI (i + 1))
    rw [qSh_up hB]
    exact ih (i + 1) (by omega)
theorem m_L39 {post : gS → Prop} {c : Nat} (h12 : 12 ≤ c) (hc : c ≤ 48) (e17 : μ 17 = nI c) (hB : ∀ j, qS (β 3 j)) (hp : post (va_up (va_up (va_up μ 17 (nI (c - 12))) 19 (μ 0)) 20 0, va_up (va_up β 4 (qCp (β 3) (β 4) 12)) 3 (qSh (β 3) (c - 12)))) : ∀ k i : Nat, i + k = 12 → wp_Md_feed_L39 μ (va_up β 4 (qCp (β 3) (β 4) i)) (nI i) post := by
  intro k i hik X hX
  induction k generalizing i with
  | zero =>
    apply hX
    unfold wp_Md_feed_B39
    refine br_t (nI_le (a := 12) (by omega) (by omega)) ?_
    have e : μ 17 - 12 = nI (c - 12) := by
      rw [e17]
      exact pk_sub (b := 12) h12
    rw [e, show i = 12 by omega]
    have t := m_L76 (μ := va_up μ 17 (nI (c - 12))) (β := va_up β 4 (qCp (β 3) (β 4) 12)) (post := post) (B := β 3) (c := c - 12) (by omega) rfl hB hp (c - 12) 0 (by omega)
    have e3 : va_up (va_up β 4 (qCp (β 3) (β 4) 12)) 3 (qSh (β 3) 0) = va_up β 4 (qCp (β 3) (β 4) 12) := by rw [qSh_0]; exact q_upself (va_up β 4 (qCp (β 3) (β 4) 12)) 3
    rw [e3] at t
    exact t
  | succ k ih =>
    apply hX
    unfold wp_Md_feed_B39
    rw [io1]
    refine br_f (nI_ge (b := 12) (by omega) (by decide)) ⟨vp_in_nI (by omega) (by decide), vp_in_nI (by omega) (by decide), ?_⟩
    rw [bx_uu, nI_clamp (by omega), nI_1]
    show X μ (va_up β 4 (upd (qCp (β 3) (β 4) i) i (vp_nar .short (β 3 i)))) (nI (i + 1))
    rw [qCp_up hB]
    exact ih (i + 1) (by omega)
theorem m_feed_no {post : gS → Prop} (h : μ 17 < 12 ∨ (¬ μ 19 < 0 ∧ ¬ μ 19 + 130 < μ 0)) (hp : wp_Md_fail μ β 2 (fun u => post (u.1, u.2))) : wp_Md_feed μ β post := by
  unfold wp_Md_feed wp_Md_feed_J31
  rcases h with h | ⟨h, h2⟩
  · exact br_t h hp
  · exact ⟨fun _ => hp, fun _ => br_f h (br_f h2 hp)⟩
theorem m_feed_ok {post : gS → Prop} (h : ¬ μ 17 < 12) (h2 : μ 19 < 0 ∨ μ 19 + 130 < μ 0) (hp : wp_Md_feed_L39 μ β 0 post) : wp_Md_feed μ β post := by
  unfold wp_Md_feed wp_Md_feed_J37
  refine br_f h ⟨fun _ => hp, fun z => br_t (h2.resolve_left z) hp⟩
theorem c_feed (hn : n < 2 ^ 29) (h : St n a1 a2 σ α μ β) : ∃ (σ' μ' : Nat → Int32) (α' β' : Nat → Nat → Int32), (∀ post, post (σ', α') → wp_Mc_deliver σ α 0 14 post ∧ ∀ v : Int32, wp_Mc_deliver σ α v 14 post) ∧ (∀ post, post (μ', β') → wp_Md_feed μ β post) ∧ St n a1 a2 σ' α' μ' β' := by
  have FAIL : (¬ σ 2 = 0 ∨ ¬ 12 ≤ σ 0 - σ 1) → (μ 17 < 12 ∨ (¬ μ 19 < 0 ∧ ¬ μ 19 + 130 < μ 0)) → ∃ (σ' μ' : Nat → Int32) (α' β' : Nat → Nat → Int32), (∀ post, post (σ', α') → wp_Mc_deliver σ α 0 14 post ∧ ∀ v : Int32, wp_Mc_deliver σ α v 14 post) ∧ (∀ post, post (μ', β') → wp_Md_feed μ β post) ∧ St n a1 a2 σ' α' μ' β' := by
    intro q1 q2
    obtain ⟨σ', μ', f1, f2, f3⟩ := c_fail 2 h
    have D : ∀ post, post (σ', α) → ∀ v : Int32, wp_Mc_deliver σ α v 14 post := by
      intro post hp v
      unfold wp_Mc_deliver wp_Mc_deliver_J206
      refine ⟨fun e => absurd e (by decide), fun e => absurd e (by decide), fun e => absurd e (by decide), fun e => absurd e (by decide), fun e => absurd e (by decide), fun e => absurd e (by decide), fun e => absurd e (by decide), fun e => absurd e (by decide), fun e => absurd e (by decide), fun e => absurd e (by decide), fun e => absurd e (by decide), fun e => absurd e (by decide), fun e => absurd e (by decide), fun e => absurd e (by decide), fun _ => ?_, fun e => absurd e (by decide), fun e => absurd e (by decide)⟩
      unfold wp_Rd_feed wp_Rd_feed_J16 wp_Rd_rowsLeft
      have Z : ((¬ (0 : Int32) = 0 → post (σ, α)) ∧ ((0 : Int32) = 0 → wp_Mc_stopBy σ α 2 (fun u160 => post (u160.1, u160.2)))) := bs_t rfl (f1 _ hp)
      rcases q1 with q | q
      · exact bs_f q Z
      · exact ⟨fun _ => Z, fun _ => br_f q Z⟩
    exact ⟨σ', μ', α, β, fun post hp => ⟨D post hp 0, D post hp⟩, fun post hp => m_feed_no q2 (f2 _ hp), f3⟩
  have h0 := h
  obtain ⟨⟨hN, hM, hG, hF, hL, hO, hW, hD, hP, hS, hK, hE⟩, hU, hC⟩ := h
  obtain ⟨c, t, htc, hc, e0, e1, e17, e18, hd, ha, hb, hb4⟩ := hD
  have er : σ 0 - σ 1 = nI (c - t) := by rw [e0, e1, pk_sub htc]
  have BUSY : (∃ f : Nat, μ 19 = nI f ∧ n ≤ f + 130 ∧ f ≤ n) → ¬ σ 2 = 0 → ∃ (σ' μ' : Nat → Int32) (α' β' : Nat → Nat → Int32), (∀ post, post (σ', α') → wp_Mc_deliver σ α 0 14 post ∧ ∀ v : Int32, wp_Mc_deliver σ α v 14 post) ∧ (∀ post, post (μ', β') → wp_Md_feed μ β post) ∧ St n a1 a2 σ' α' μ' β' := by
    rintro ⟨f, e, h1, h2⟩ z
    refine FAIL (Or.inl z) (Or.inr ⟨by rw [e]; exact nI_pos (by omega), ?_⟩)
    have e130 : nI f + 130 = nI (f + 130) := nI_add f 130
    rw [e, hM, e130]
    exact nI_nlt (by omega) (by omega)
  rcases hC with ⟨hq, hm0, hcase⟩ | hin
  · rcases hcase with ⟨hps, hfe⟩ | ⟨f, t', k1, k2, k3, k4, k5, -⟩
    · by_cases hl : 12 ≤ c - t
      · -- it can be fed
        obtain ⟨b3, hb3⟩ : ∃ b3, b3 = qSh (β 3) (c - t - 12) := ⟨_, rfl⟩
        obtain ⟨b4, hb4'⟩ : ∃ b4, b4 = qCp (β 3) (β 4) 12 := ⟨_, rfl⟩
        have q1 : ∀ j, j < 12 → b4 j = β 3 j := fun j hj => by rw [hb4']; exact if_pos hj
        have q2 : ∀ j, j < c - t - 12 → b3 j = β 3 (j + 12) := fun j hj => by rw [hb3]; exact if_pos hj
        have q3 : ∀ j, qS (b3 j) := by rw [hb3]; exact qSh_s hb
        have q4 : ∀ j, qS (b4 j) := by rw [hb4']; exact qCp_s hb hb4
        have hpost : ∀ post, post (va_up (va_up (va_up μ 17 (nI (c - t - 12))) 19 (μ 0)) 20 0, va_up (va_up β 4 b4) 3 b3) → wp_Md_feed_L39 μ β 0 post := by
          intro post hp
          rw [hb3, hb4'] at hp
          have tt := m_L39 (post := post) hl (by omega) e17 hb hp 12 0 (by omega)
          have e4 : va_up β 4 (qCp (β 3) (β 4) 0) = β := by rw [qCp_0]; exact q_upself β 4
          rw [e4] at tt
          exact tt
        refine ⟨va_up (va_up (va_up σ 1 (σ 1 + 12)) 2 1) 3 (σ 9), va_up (va_up (va_up μ 17 (nI (c - t - 12))) 19 (μ 0)) 20 0, α, va_up (va_up β 4 b4) 3 b3, ?_, ?_, ?_⟩
        · have D : ∀ post, post (va_up (va_up (va_up σ 1 (σ 1 + 12)) 2 1) 3 (σ 9), α) → ∀ v : Int32, wp_Mc_deliver σ α v 14 post := by
            intro post hp v
            unfold wp_Mc_deliver wp_Mc_deliver_J206
            refine ⟨fun e => absurd e (by decide), fun e => absurd e (by decide), fun e => absurd e (by decide), fun e => absurd e (by decide), fun e => absurd e (by decide), fun e => absurd e (by decide), fun e => absurd e (by decide), fun e => absurd e (by decide), fun e => absurd e (by decide), fun e => absurd e (by decide), fun e => absurd e (by decide), fun e => absurd e (by decide), fun e => absurd e (by decide), fun e => absurd e (by decide), fun _ => ?_, fun e => absurd e (by decide), fun e => absurd e (by decide)⟩
            unfold wp_Rd_feed wp_Rd_feed_J16 wp_Rd_rowsLeft
            refine bs_t hps (br_t ?_ (bs_f (by decide) hp))
            rw [er]
            exact nI_le (a := 12) hl (by omega)
          exact fun post hp => ⟨D post hp 0, D post hp⟩
        · intro post hp
          refine m_feed_ok ?_ ?_ (hpost _ hp)
          · rw [e17]
            exact nI_nlt (b := 12) hl (by omega)
          · rcases hfe with e | ⟨f, e, hf⟩
            · exact Or.inl (by rw [e]; decide)
            · have e130 : nI f + 130 = nI (f + 130) := nI_add f 130
              exact Or.inr (by rw [e, hM, e130]; exact nI_lt hf (by omega))
        · refine ⟨⟨hN, hM, hG, hF, hL, hO, hW, ⟨c, t + 12, by omega, hc, e0, ?_, ?_, e18, ?_, ha, q3, q4⟩, hP, hS, hK, hE⟩, hU, Or.inl ⟨hq, hm0, Or.inr ⟨n, t + 12, rfl, hN, hM, by omega, by omega, by omega, ?_, by omega, by omega, ?_, Or.inl rfl⟩⟩⟩
          · show σ 1 + 12 = nI (t + 12)
            rw [e1]
            exact nI_add t 12
          · show nI (c - t - 12) = nI (c - (t + 12))
            rw [show c - t - 12 = c - (t + 12) by omega]
          · intro j hj
            show b3 j = α 5 (t + 12 + j)
            rw [q2 j (by omega), hd (j + 12) (by omega)]
            congr 1
            omega
          · show σ 1 + 12 = nI (t + 12)
            rw [e1]
            exact nI_add t 12
          · intro i hi
            show b4 i = α 5 (t + 12 - 12 + i)
            rw [q1 i hi, hd i (by omega)]
            congr 1
      · refine FAIL (Or.inr ?_) (Or.inl ?_)
        · rw [er]
          exact nI_ge (b := 12) (by omega) (by decide)
        · rw [e17]
          exact nI_lt (b := 12) (by omega) (by decide)
    · exact BUSY ⟨f, k3, by omega, k4⟩ (by rw [k1]; decide)
  · obtain ⟨f, t', x, k1, k2, k3, k4, k5, -⟩ := hin
    exact BUSY ⟨f, k3, by omega, by omega⟩ (by rw [k1]; decide)

-- punching
theorem c_press {v : Int32} (hn : n < 2 ^ 29) (h : St n a1 a2 σ α μ β) : ∃ (σ' μ' : Nat → Int32) (α' β' : Nat → Nat → Int32), (∀ post, post (σ', α') → wp_Mc_deliver σ α v 15 post) ∧ (∀ post, post (μ', β') → wp_Md_press μ β v post) ∧ St n a1 a2 σ' α' μ' β' := by
  have h0 := h
  obtain ⟨⟨hN, hM, hG, hF, hL, hO, hW, hD, hP, hS, hK, hE⟩, hU, hC⟩ := h
  obtain ⟨e7, hq7, k, hk, e5, e21, hq⟩ := hP
  by_cases hok : k < 60 ∧ (k = 0 ∨ ∃ q : Nat, q + 6 ≤ n ∧ σ 6 = nI q ∧ μ 22 = nI q)
  · obtain ⟨hk60, hok⟩ := hok
    have r6 : 6 ≤ μ 0 - μ 22 := by
      rcases hq with ⟨-, e⟩ | ⟨hk0, -⟩
      · have e6 : nI n - (-6) = nI (n + 6) := by
          rw [← nI_add]
          show nI n - (-6) = nI n + 6
          grind
        rw [hM, e, e6]
        exact nI_le (a := 6) (by omega) (by omega)
      · rcases hok with z | ⟨q, hq1, -, hq2⟩
        · omega
        · rw [hM, hq2, pk_sub (by omega)]
          exact nI_le (a := 6) (by omega) (by omega)
    refine ⟨va_up (va_up σ 5 (σ 5 + 1)) 6 (σ 9), va_up (va_up μ 21 (μ 21 + 1)) 22 (μ 0), va_up α 7 (upd (α 7) (σ 5).toNatClampNeg (vp_nar .short v)), va_up β 5 (upd (β 5) (μ 21).toNatClampNeg (vp_nar .short v)), ?_, ?_, ?_⟩
    · intro post hp
      unfold wp_Mc_deliver wp_Mc_deliver_J206
      refine ⟨fun e => absurd e (by decide), fun e => absurd e (by decide), fun e => absurd e (by decide), fun e => absurd e (by decide), fun e => absurd e (by decide), fun e => absurd e (by decide), fun e => absurd e (by decide), fun e => absurd e (by decide), fun e => absurd e (by decide), fun e => absurd e (by decide), fun e => absurd e (by decide), fun e => absurd e (by decide), fun e => absurd e (by decide), fun e => absurd e (by decide), fun e => absurd e (by decide), fun _ => ?_, fun e => absurd e (by decide)⟩
      have Z : wp_Pu_take_J23 σ α v (σ 9) 0 (fun r175 u175 => (¬ r175 = 0 → post (u175.1, u175.2)) ∧ (r175 = 0 → wp_Mc_stopBy u175.1 u175.2 3 (fun u183 => post (u183.1, u183.2)))) := by
        unfold wp_Pu_take_J23 wp_Pu_take_J37
        refine bs_t rfl (br_t ?_ ⟨?_, bs_f (by decide) hp⟩)
        · rw [e5]
          exact nI_lt (b := 60) hk60 (by decide)
        · rw [e5]
          exact vp_in_nI hk60 (by decide)
      unfold wp_Pu_take wp_Pu_take_J22
      refine ⟨fun _ => Z, fun z => br_t ?_ Z⟩
      rcases hok with y | ⟨q, hq1, hq2, -⟩
      · exact absurd (by rw [e5, y]; decide) z
      · rw [hN, hq2, pk_sub (by omega)]
        exact nI_le (a := 6) (by omega) (by omega)
    · intro post hp
      unfold wp_Md_press
      refine br_f ?_ (br_t r6 ⟨?_, hp⟩)
      · rw [e21]
        intro z
        have := (nI_eq (b := 60) (by omega) (by decide)).mp z
        omega
      · rw [e21]
        exact vp_in_nI hk60 (by decide)
    · refine ⟨⟨hN, hM, hG, hF, hL, hO, hW, hD, ?_, hS, hK, hE⟩, hU, hC⟩
      show rPun n (σ 5 + 1) (σ 9) (upd (α 7) (σ 5).toNatClampNeg (vp_nar .short v)) (μ 21 + 1) (μ 0) (upd (β 5) (μ 21).toNatClampNeg (vp_nar .short v))
      rw [e5, e21, nI_1]
      exact ⟨by rw [e7], qS_upd hq7 (qS_nar _), k + 1, by omega, rfl, rfl, Or.inr ⟨by omega, n, Nat.le_refl n, hN, hM⟩⟩
  · obtain ⟨σ', μ', f1, f2, f3⟩ := c_fail 3 h0
    refine ⟨σ', μ', α, β, ?_, ?_, f3⟩
    · intro post hp
      unfold wp_Mc_deliver wp_Mc_deliver_J206
      refine ⟨fun e => absurd e (by decide), fun e => absurd e (by decide), fun e => absurd e (by decide), fun e => absurd e (by decide), fun e => absurd e (by decide), fun e => absurd e (by decide), fun e => absurd e (by decide), fun e => absurd e (by decide), fun e => absurd e (by decide), fun e => absurd e (by decide), fun e => absurd e (by decide), fun e => absurd e (by decide), fun e => absurd e (by decide), fun e => absurd e (by decide), fun e => absurd e (by decide), fun _ => ?_, fun e => absurd e (by decide)⟩
      have Z : (¬ (0 : Int32) = 0 → post (σ, α)) ∧ ((0 : Int32) = 0 → wp_Mc_stopBy σ α 3 (fun u183 => post (u183.1, u183.2))) := bs_t rfl (f1 _ hp)
      have Z1 : wp_Pu_take_J23 σ α v (σ 9) 1 (fun r175 u175 => (¬ r175 = 0 → post (u175.1, u175.2)) ∧ (r175 = 0 → wp_Mc_stopBy u175.1 u175.2 3 (fun u183 => post (u183.1, u183.2)))) := by
        unfold wp_Pu_take_J23 wp_Pu_take_J37
        exact bs_f (by decide) Z
      have Z0 : ¬ k < 60 → wp_Pu_take_J23 σ α v (σ 9) 0 (fun r175 u175 => (¬ r175 = 0 → post (u175.1, u175.2)) ∧ (r175 = 0 → wp_Mc_stopBy u175.1 u175.2 3 (fun u183 => post (u183.1, u183.2)))) := by
        intro z
        unfold wp_Pu_take_J23 wp_Pu_take_J37
        refine bs_t rfl (br_f ?_ Z)
        rw [e5]
        exact nI_nlt (b := 60) (by omega) (by omega)
      unfold wp_Pu_take wp_Pu_take_J22
      refine ⟨fun z => Z0 (fun y => hok ⟨y, Or.inl ?_⟩), fun z => ⟨fun y => Z0 (fun w => hok ⟨w, ?_⟩), fun _ => Z1⟩⟩
      · rw [e5] at z
        exact Nat.le_zero.mp ((nI_leI (b := 0) (by omega) (by decide)).mp z)
      · rcases hq with ⟨z0, -⟩ | ⟨-, q, q1, q2, q3⟩
        · exact Or.inl z0
        · rw [hN, q2, pk_sub q1] at y
          have := (nI_leI (a := 6) (by decide) (by omega)).mp y
          exact Or.inr ⟨q, by omega, q2, q3⟩
    · intro post hp
      unfold wp_Md_press wp_Md_press_J23
      refine ⟨fun _ => f2 _ hp, fun z => br_f ?_ (f2 _ hp)⟩
      intro y
      have hk60 : k < 60 := by
        have : k ≠ 60 := fun w => z (by rw [e21, w]; rfl)
        omega
      refine hok ⟨hk60, ?_⟩
      rcases hq with ⟨z0, -⟩ | ⟨-, q, q1, q2, q3⟩
      · exact Or.inl z0
      · rw [hM, q3, pk_sub q1] at y
        have := (nI_leI (a := 6) (by decide) (by omega)).mp y
        exact Or.inr ⟨q, by omega, q2, q3⟩
/-- a destination other than the two that discriminate -/
theorem c_put {v : Int32} {t : Nat} (ht : t < 16) (h11 : t ≠ 11) (h12 : t ≠ 12) (hv : qS v) (hn : n < 2 ^ 29) (h : St n a1 a2 σ α μ β) : ∃ (σ' μ' : Nat → Int32) (α' β' : Nat → Nat → Int32), (∀ post, post (σ', α') → wp_Mc_deliver σ α v (nI t) post) ∧ (∀ post, post (μ', β') → wp_Md_put μ β (nI t) v post) ∧ St n a1 a2 σ' α' μ' β' := by
  have h0 := h
  obtain ⟨⟨hN, hM, hG, hF, hL, hO, hW, hD, hP, hS, hK, hE⟩, hU, hC⟩ := h
  rcases (show t = 0 ∨ t = 1 ∨ t = 2 ∨ t = 3 ∨ t = 4 ∨ t = 5 ∨ t = 6 ∨ t = 7 ∨ t = 8 ∨ t = 9 ∨ t = 10 ∨ t = 13 ∨ t = 14 ∨ t = 15 by omega) with rfl | rfl | rfl | rfl | rfl | rfl | rfl | rfl | rfl | rfl | rfl | rfl | rfl | rfl
  · refine ⟨σ, μ, α, β, ?_, ?_, h0⟩
    · intro post hp
      unfold wp_Mc_deliver wp_Mc_deliver_J206
      exact ⟨fun _ => hp, fun e => absurd e (by decide), fun e => absurd e (by decide), fun e => absurd e (by decide), fun e => absurd e (by decide), fun e => absurd e (by decide), fun e => absurd e (by decide), fun e => absurd e (by decide), fun e => absurd e (by decide), fun e => absurd e (by decide), fun e => absurd e (by decide), fun e => absurd e (by decide), fun e => absurd e (by decide), fun e => absurd e (by decide), fun e => absurd e (by decide), fun e => absurd e (by decide), fun e => absurd e (by decide)⟩
    · intro post hp
      unfold wp_Md_put wp_Md_put_J265
      exact ⟨fun _ => hp, fun e => absurd e (by decide), fun e => absurd e (by decide), fun e => absurd e (by decide), fun e => absurd e (by decide), fun e => absurd e (by decide), fun e => absurd e (by decide), fun e => absurd e (by decide), fun e => absurd e (by decide), fun e => absurd e (by decide), fun e => absurd e (by decide), fun e => absurd e (by decide), fun e => absurd e (by decide), fun e => absurd e (by decide), fun e => absurd e (by decide), fun e => absurd e (by decide)⟩
  · refine ⟨va_up σ 7 0, va_up μ 1 0, α, β, ?_, ?_, ⟨⟨hN, hM, ⟨rfl, Or.inl rfl⟩, hF, hL, hO, hW, hD, hP, hS, hK, hE⟩, hU, hC⟩⟩
    · intro post hp
      unfold wp_Mc_deliver wp_Mc_deliver_J206
      exact ⟨fun e => absurd e (by decide), fun _ => hp, fun e => absurd e (by decide), fun e => absurd e (by decide), fun e => absurd e (by decide), fun e => absurd e (by decide), fun e => absurd e (by decide), fun e => absurd e (by decide), fun e => absurd e (by decide), fun e => absurd e (by decide), fun e => absurd e (by decide), fun e => absurd e (by decide), fun e => absurd e (by decide), fun e => absurd e (by decide), fun e => absurd e (by decide), fun e => absurd e (by decide), fun e => absurd e (by decide)⟩
    · intro post hp
      unfold wp_Md_put wp_Md_put_J265
      exact ⟨fun e => absurd e (by decide), fun _ => hp, fun e => absurd e (by decide), fun e => absurd e (by decide), fun e => absurd e (by decide), fun e => absurd e (by decide), fun e => absurd e (by decide), fun e => absurd e (by decide), fun e => absurd e (by decide), fun e => absurd e (by decide), fun e => absurd e (by decide), fun e => absurd e (by decide), fun e => absurd e (by decide), fun e => absurd e (by decide), fun e => absurd e (by decide), fun e => absurd e (by decide)⟩
  · refine ⟨σ, μ, va_up α 3 (upd (α 3) (qSp n 2) (vp_nar .short v)), va_up β 2 (upd (β 2) (qSp n 2) (vp_nar .short v)), ?_, ?_, ⟨⟨hN, hM, hG, hF, hL, hO, ⟨show upd (α 3) _ _ = upd (β 2) _ _ by rw [hW.1], qS_upd hW.2 (qS_nar _)⟩, hD, hP, hS, hK, hE⟩, hU, hC⟩⟩
    · intro post hp
      unfold wp_Mc_deliver wp_Mc_deliver_J206
      exact ⟨fun e => absurd e (by decide), fun e => absurd e (by decide), fun _ => x_J189 (by decide) (by decide) hn hN hp, fun e => absurd e (by decide), fun e => absurd e (by decide), fun e => absurd e (by decide), fun e => absurd e (by decide), fun e => absurd e (by decide), fun e => absurd e (by decide), fun e => absurd e (by decide), fun e => absurd e (by decide), fun e => absurd e (by decide), fun e => absurd e (by decide), fun e => absurd e (by decide), fun e => absurd e (by decide), fun e => absurd e (by decide), fun e => absurd e (by decide)⟩
    · intro post hp
      unfold wp_Md_put wp_Md_put_J265
      exact ⟨fun e => absurd e (by decide), fun e => absurd e (by decide), fun _ => m_J87 (by decide) (by decide) hn hM hp, fun e => absurd e (by decide), fun e => absurd e (by decide), fun e => absurd e (by decide), fun e => absurd e (by decide), fun e => absurd e (by decide), fun e => absurd e (by decide), fun e => absurd e (by decide), fun e => absurd e (by decide), fun e => absurd e (by decide), fun e => absurd e (by decide), fun e => absurd e (by decide), fun e => absurd e (by decide), fun e => absurd e (by decide)⟩
  · refine ⟨σ, μ, va_up α 3 (upd (α 3) (qSp n 3) (vp_nar .short v)), va_up β 2 (upd (β 2) (qSp n 3) (vp_nar .short v)), ?_, ?_, ⟨⟨hN, hM, hG, hF, hL, hO, ⟨show upd (α 3) _ _ = upd (β 2) _ _ by rw [hW.1], qS_upd hW.2 (qS_nar _)⟩, hD, hP, hS, hK, hE⟩, hU, hC⟩⟩
    · intro post hp
      unfold wp_Mc_deliver wp_Mc_deliver_J206
      exact ⟨fun e => absurd e (by decide), fun e => absurd e (by decide), fun e => absurd e (by decide), fun _ => x_J189 (by decide) (by decide) hn hN hp, fun e => absurd e (by decide), fun e => absurd e (by decide), fun e => absurd e (by decide), fun e => absurd e (by decide), fun e => absurd e (by decide), fun e => absurd e (by decide), fun e => absurd e (by decide), fun e => absurd e (by decide), fun e => absurd e (by decide), fun e => absurd e (by decide), fun e => absurd e (by decide), fun e => absurd e (by decide), fun e => absurd e (by decide)⟩
    · intro post hp
      unfold wp_Md_put wp_Md_put_J265
      exact ⟨fun e => absurd e (by decide), fun e => absurd e (by decide), fun e => absurd e (by decide), fun _ => m_J87 (by decide) (by decide) hn hM hp, fun e => absurd e (by decide), fun e => absurd e (by decide), fun e => absurd e (by decide), fun e => absurd e (by decide), fun e => absurd e (by decide), fun e => absurd e (by decide), fun e => absurd e (by decide), fun e => absurd e (by decide), fun e => absurd e (by decide), fun e => absurd e (by decide), fun e => absurd e (by decide), fun e => absurd e (by decide)⟩
  · refine ⟨σ, μ, va_up α 3 (upd (α 3) (qSp n 4) (vp_nar .short v)), va_up β 2 (upd (β 2) (qSp n 4) (vp_nar .short v)), ?_, ?_, ⟨⟨hN, hM, hG, hF, hL, hO, ⟨show upd (α 3) _ _ = upd (β 2) _ _ by rw [hW.1], qS_upd hW.2 (qS_nar _)⟩, hD, hP, hS, hK, hE⟩, hU, hC⟩⟩
    · intro post hp
      unfold wp_Mc_deliver wp_Mc_deliver_J206
      exact ⟨fun e => absurd e (by decide), fun e => absurd e (by decide), fun e => absurd e (by decide), fun e => absurd e (by decide), fun _ => x_J189 (by decide) (by decide) hn hN hp, fun e => absurd e (by decide), fun e => absurd e (by decide), fun e => absurd e (by decide), fun e => absurd e (by decide), fun e => absurd e (by decide), fun e => absurd e (by decide), fun e => absurd e (by decide), fun e => absurd e (by decide), fun e => absurd e (by decide), fun e => absurd e (by decide), fun e => absurd e (by decide), fun e => absurd e (by decide)⟩
    · intro post hp
      unfold wp_Md_put wp_Md_put_J265
      exact ⟨fun e => absurd e (by decide), fun e => absurd e (by decide), fun e => absurd e (by decide), fun e => absurd e (by decide), fun _ => m_J87 (by decide) (by decide) hn hM hp, fun e => absurd e (by decide), fun e => absurd e (by decide), fun e => absurd e (by decide), fun e => absurd e (by decide), fun e => absurd e (by decide), fun e => absurd e (by decide), fun e => absurd e (by decide), fun e => absurd e (by decide), fun e => absurd e (by decide), fun e => absurd e (by decide), fun e => absurd e (by decide)⟩
  · refine ⟨σ, μ, va_up α 3 (upd (α 3) (qSp n 5) (vp_nar .short v)), va_up β 2 (upd (β 2) (qSp n 5) (vp_nar .short v)), ?_, ?_, ⟨⟨hN, hM, hG, hF, hL, hO, ⟨show upd (α 3) _ _ = upd (β 2) _ _ by rw [hW.1], qS_upd hW.2 (qS_nar _)⟩, hD, hP, hS, hK, hE⟩, hU, hC⟩⟩
    · intro post hp
      unfold wp_Mc_deliver wp_Mc_deliver_J206
      exact ⟨fun e => absurd e (by decide), fun e => absurd e (by decide), fun e => absurd e (by decide), fun e => absurd e (by decide), fun e => absurd e (by decide), fun _ => x_J189 (by decide) (by decide) hn hN hp, fun e => absurd e (by decide), fun e => absurd e (by decide), fun e => absurd e (by decide), fun e => absurd e (by decide), fun e => absurd e (by decide), fun e => absurd e (by decide), fun e => absurd e (by decide), fun e => absurd e (by decide), fun e => absurd e (by decide), fun e => absurd e (by decide), fun e => absurd e (by decide)⟩
    · intro post hp
      unfold wp_Md_put wp_Md_put_J265
      exact ⟨fun e => absurd e (by decide), fun e => absurd e (by decide), fun e => absurd e (by decide), fun e => absurd e (by decide), fun e => absurd e (by decide), fun _ => m_J87 (by decide) (by decide) hn hM hp, fun e => absurd e (by decide), fun e => absurd e (by decide), fun e => absurd e (by decide), fun e => absurd e (by decide), fun e => absurd e (by decide), fun e => absurd e (by decide), fun e => absurd e (by decide), fun e => absurd e (by decide), fun e => absurd e (by decide), fun e => absurd e (by decide)⟩
  · refine ⟨σ, μ, va_up α 3 (upd (α 3) (qSp n 6) (vp_nar .short v)), va_up β 2 (upd (β 2) (qSp n 6) (vp_nar .short v)), ?_, ?_, ⟨⟨hN, hM, hG, hF, hL, hO, ⟨show upd (α 3) _ _ = upd (β 2) _ _ by rw [hW.1], qS_upd hW.2 (qS_nar _)⟩, hD, hP, hS, hK, hE⟩, hU, hC⟩⟩
    · intro post hp
      unfold wp_Mc_deliver wp_Mc_deliver_J206
      exact ⟨fun e => absurd e (by decide), fun e => absurd e (by decide), fun e => absurd e (by decide), fun e => absurd e (by decide), fun e => absurd e (by decide), fun e => absurd e (by decide), fun _ => x_J189 (by decide) (by decide) hn hN hp, fun e => absurd e (by decide), fun e => absurd e (by decide), fun e => absurd e (by decide), fun e => absurd e (by decide), fun e => absurd e (by decide), fun e => absurd e (by decide), fun e => absurd e (by decide), fun e => absurd e (by decide), fun e => absurd e (by decide), fun e => absurd e (by decide)⟩
    · intro post hp
      unfold wp_Md_put wp_Md_put_J265
      refine ⟨fun e => absurd e (by decide), fun e => absurd e (by decide), fun e => absurd e (by decide), fun e => absurd e (by decide), fun e => absurd e (by decide), fun e => absurd e (by decide), fun _ => ?_, fun e => absurd e (by decide), fun e => absurd e (by decide), fun e => absurd e (by decide), fun e => absurd e (by decide), fun e => absurd e (by decide), fun e => absurd e (by decide), fun e => absurd e (by decide), fun e => absurd e (by decide), fun e => absurd e (by decide)⟩
      unfold wp_Md_put_J110
      rw [show (128 : Int32) + nI 6 - 6 = nI 128 by decide, nI_clamp (by decide)]
      exact ⟨vp_in_nI (by decide) (by decide), hp⟩
  · refine ⟨σ, μ, va_up α 3 (upd (α 3) (qSp n 7) (vp_nar .short v)), va_up β 2 (upd (β 2) (qSp n 7) (vp_nar .short v)), ?_, ?_, ⟨⟨hN, hM, hG, hF, hL, hO, ⟨show upd (α 3) _ _ = upd (β 2) _ _ by rw [hW.1], qS_upd hW.2 (qS_nar _)⟩, hD, hP, hS, hK, hE⟩, hU, hC⟩⟩
    · intro post hp
      unfold wp_Mc_deliver wp_Mc_deliver_J206
      exact ⟨fun e => absurd e (by decide), fun e => absurd e (by decide), fun e => absurd e (by decide), fun e => absurd e (by decide), fun e => absurd e (by decide), fun e => absurd e (by decide), fun e => absurd e (by decide), fun _ => x_J189 (by decide) (by decide) hn hN hp, fun e => absurd e (by decide), fun e => absurd e (by decide), fun e => absurd e (by decide), fun e => absurd e (by decide), fun e => absurd e (by decide), fun e => absurd e (by decide), fun e => absurd e (by decide), fun e => absurd e (by decide), fun e => absurd e (by decide)⟩
    · intro post hp
      unfold wp_Md_put wp_Md_put_J265
      refine ⟨fun e => absurd e (by decide), fun e => absurd e (by decide), fun e => absurd e (by decide), fun e => absurd e (by decide), fun e => absurd e (by decide), fun e => absurd e (by decide), fun e => absurd e (by decide), fun _ => ?_, fun e => absurd e (by decide), fun e => absurd e (by decide), fun e => absurd e (by decide), fun e => absurd e (by decide), fun e => absurd e (by decide), fun e => absurd e (by decide), fun e => absurd e (by decide), fun e => absurd e (by decide)⟩
      unfold wp_Md_put_J110
      rw [show (128 : Int32) + nI 7 - 6 = nI 129 by decide, nI_clamp (by decide)]
      exact ⟨vp_in_nI (by decide) (by decide), hp⟩
  · refine ⟨σ, μ, va_up α 3 (upd (α 3) (qSp n 8) (vp_nar .short v)), va_up β 2 (upd (β 2) (qSp n 8) (vp_nar .short v)), ?_, ?_, ⟨⟨hN, hM, hG, hF, hL, hO, ⟨show upd (α 3) _ _ = upd (β 2) _ _ by rw [hW.1], qS_upd hW.2 (qS_nar _)⟩, hD, hP, hS, hK, hE⟩, hU, hC⟩⟩
    · intro post hp
      unfold wp_Mc_deliver wp_Mc_deliver_J206
      exact ⟨fun e => absurd e (by decide), fun e => absurd e (by decide), fun e => absurd e (by decide), fun e => absurd e (by decide), fun e => absurd e (by decide), fun e => absurd e (by decide), fun e => absurd e (by decide), fun e => absurd e (by decide), fun _ => x_J189 (by decide) (by decide) hn hN hp, fun e => absurd e (by decide), fun e => absurd e (by decide), fun e => absurd e (by decide), fun e => absurd e (by decide), fun e => absurd e (by decide), fun e => absurd e (by decide), fun e => absurd e (by decide), fun e => absurd e (by decide)⟩
    · intro post hp
      unfold wp_Md_put wp_Md_put_J265
      refine ⟨fun e => absurd e (by decide), fun e => absurd e (by decide), fun e => absurd e (by decide), fun e => absurd e (by decide), fun e => absurd e (by decide), fun e => absurd e (by decide), fun e => absurd e (by decide), fun e => absurd e (by decide), fun _ => ?_, fun e => absurd e (by decide), fun e => absurd e (by decide), fun e => absurd e (by decide), fun e => absurd e (by decide), fun e => absurd e (by decide), fun e => absurd e (by decide), fun e => absurd e (by decide)⟩
      have e : 130 + (μ 0 - μ 0 / 2 * 2) = nI (130 + n % 2) := by
        rw [hM, q_r2 (by omega)]
        exact nI_add 130 _
      rw [e, nI_clamp (by omega)]
      exact ⟨vp_in_nI (by omega) (by decide), hp⟩
  · refine ⟨σ, μ, va_up α 3 (upd (α 3) 128 (vp_nar .short ((α 3 128 + v).toInt16.toInt32))), va_up β 2 (upd (β 2) 128 (vp_nar .short ((β 2 128 + v).toInt16.toInt32))), ?_, ?_, ⟨⟨hN, hM, hG, hF, hL, hO, ⟨show upd (α 3) _ _ = upd (β 2) _ _ by rw [hW.1], qS_upd hW.2 (qS_nar _)⟩, hD, hP, hS, hK, hE⟩, hU, hC⟩⟩
    · intro post hp
      unfold wp_Mc_deliver wp_Mc_deliver_J206
      rw [c128]
      exact ⟨fun e => absurd e (by decide), fun e => absurd e (by decide), fun e => absurd e (by decide), fun e => absurd e (by decide), fun e => absurd e (by decide), fun e => absurd e (by decide), fun e => absurd e (by decide), fun e => absurd e (by decide), fun e => absurd e (by decide), fun _ => hp, fun e => absurd e (by decide), fun e => absurd e (by decide), fun e => absurd e (by decide), fun e => absurd e (by decide), fun e => absurd e (by decide), fun e => absurd e (by decide), fun e => absurd e (by decide)⟩
    · intro post hp
      unfold wp_Md_put wp_Md_put_J265
      unfold wp_Md_put_J146 wp_Md_put_J182 wp_Md_put_J265
      rw [c128]
      exact ⟨fun e => absurd e (by decide), fun e => absurd e (by decide), fun e => absurd e (by decide), fun e => absurd e (by decide), fun e => absurd e (by decide), fun e => absurd e (by decide), fun e => absurd e (by decide), fun e => absurd e (by decide), fun e => absurd e (by decide), fun _ => bs_t rfl ⟨vp_in_nI (n := 128) (by decide) (by decide), hp⟩, fun e => absurd e (by decide), fun e => absurd e (by decide), fun e => absurd e (by decide), fun e => absurd e (by decide), fun e => absurd e (by decide), fun e => absurd e (by decide)⟩
  · refine ⟨σ, μ, va_up α 3 (upd (α 3) 128 (vp_nar .short ((α 3 128 - v).toInt16.toInt32))), va_up β 2 (upd (β 2) 128 (vp_nar .short ((β 2 128 - v).toInt16.toInt32))), ?_, ?_, ⟨⟨hN, hM, hG, hF, hL, hO, ⟨show upd (α 3) _ _ = upd (β 2) _ _ by rw [hW.1], qS_upd hW.2 (qS_nar _)⟩, hD, hP, hS, hK, hE⟩, hU, hC⟩⟩
    · intro post hp
      unfold wp_Mc_deliver wp_Mc_deliver_J206
      rw [c128]
      exact ⟨fun e => absurd e (by decide), fun e => absurd e (by decide), fun e => absurd e (by decide), fun e => absurd e (by decide), fun e => absurd e (by decide), fun e => absurd e (by decide), fun e => absurd e (by decide), fun e => absurd e (by decide), fun e => absurd e (by decide), fun e => absurd e (by decide), fun _ => hp, fun e => absurd e (by decide), fun e => absurd e (by decide), fun e => absurd e (by decide), fun e => absurd e (by decide), fun e => absurd e (by decide), fun e => absurd e (by decide)⟩
    · intro post hp
      unfold wp_Md_put wp_Md_put_J265
      unfold wp_Md_put_J146 wp_Md_put_J182 wp_Md_put_J265
      rw [c128]
      exact ⟨fun e => absurd e (by decide), fun e => absurd e (by decide), fun e => absurd e (by decide), fun e => absurd e (by decide), fun e => absurd e (by decide), fun e => absurd e (by decide), fun e => absurd e (by decide), fun e => absurd e (by decide), fun e => absurd e (by decide), fun e => absurd e (by decide), fun _ => bs_f (by decide) ⟨vp_in_nI (n := 128) (by decide) (by decide), hp⟩, fun e => absurd e (by decide), fun e => absurd e (by decide), fun e => absurd e (by decide), fun e => absurd e (by decide), fun e => absurd e (by decide)⟩
  · refine ⟨va_up (va_up (va_up σ 15 v) 16 16) 17 1, va_up (va_up μ 15 17) 16 v, va_up α 3 (upd (upd (α 3) 130 (vp_nar .short (0 : Int32))) 131 (vp_nar .short (0 : Int32))), va_up β 2 (upd (upd (β 2) 130 (vp_nar .short (0 : Int32))) 131 (vp_nar .short (0 : Int32))), ?_, ?_, ⟨⟨hN, hM, hG, hF, hL, hO, ⟨show upd (upd (α 3) _ _) _ _ = upd (upd (β 2) _ _) _ _ by rw [hW.1], qS_upd (qS_upd hW.2 (qS_nar _)) (qS_nar _)⟩, hD, hP, hS, hK, hE⟩, Or.inr ⟨rfl, rfl, rfl, qS_16 hv, hv⟩, hC⟩⟩
    · intro post hp
      unfold wp_Mc_deliver wp_Mc_deliver_J206
      refine ⟨fun e => absurd e (by decide), fun e => absurd e (by decide), fun e => absurd e (by decide), fun e => absurd e (by decide), fun e => absurd e (by decide), fun e => absurd e (by decide), fun e => absurd e (by decide), fun e => absurd e (by decide), fun e => absurd e (by decide), fun e => absurd e (by decide), fun e => absurd e (by decide), fun e => absurd e (by decide), fun e => absurd e (by decide), fun _ => ?_, fun e => absurd e (by decide), fun e => absurd e (by decide), fun e => absurd e (by decide)⟩
      unfold wp_Mu_begin wp_St_setProduct
      rw [c130, c131, show (0 : Int32).toInt16.toInt32 = 0 by decide, show ((0 : Int32) >>> ((16 : Int32) &&& 31)).toInt16.toInt32 = 0 by decide]
      exact hp
    · intro post hp
      unfold wp_Md_put wp_Md_put_J265
      rw [c130, c131]
      exact ⟨fun e => absurd e (by decide), fun e => absurd e (by decide), fun e => absurd e (by decide), fun e => absurd e (by decide), fun e => absurd e (by decide), fun e => absurd e (by decide), fun e => absurd e (by decide), fun e => absurd e (by decide), fun e => absurd e (by decide), fun e => absurd e (by decide), fun e => absurd e (by decide), fun e => absurd e (by decide), fun e => absurd e (by decide), fun _ => hp, fun e => absurd e (by decide), fun e => absurd e (by decide)⟩
  · obtain ⟨σ', μ', α', β', f1, f2, f3⟩ := c_feed hn h0
    refine ⟨σ', μ', α', β', fun post hp => (f1 post hp).2 v, ?_, f3⟩
    intro post hp
    unfold wp_Md_put wp_Md_put_J265
    exact ⟨fun e => absurd e (by decide), fun e => absurd e (by decide), fun e => absurd e (by decide), fun e => absurd e (by decide), fun e => absurd e (by decide), fun e => absurd e (by decide), fun e => absurd e (by decide), fun e => absurd e (by decide), fun e => absurd e (by decide), fun e => absurd e (by decide), fun e => absurd e (by decide), fun e => absurd e (by decide), fun e => absurd e (by decide), fun e => absurd e (by decide), fun _ => f2 _ hp, fun e => absurd e (by decide)⟩
  · obtain ⟨σ', μ', α', β', f1, f2, f3⟩ := c_press (v := v) hn h0
    refine ⟨σ', μ', α', β', fun post hp => f1 post hp, ?_, f3⟩
    intro post hp
    unfold wp_Md_put wp_Md_put_J265
    exact ⟨fun e => absurd e (by decide), fun e => absurd e (by decide), fun e => absurd e (by decide), fun e => absurd e (by decide), fun e => absurd e (by decide), fun e => absurd e (by decide), fun e => absurd e (by decide), fun e => absurd e (by decide), fun e => absurd e (by decide), fun e => absurd e (by decide), fun e => absurd e (by decide), fun e => absurd e (by decide), fun e => absurd e (by decide), fun e => absurd e (by decide), fun e => absurd e (by decide), fun _ => f2 _ hp⟩
end PE
end
section
-- pure rows: the multiplier, the end of a cycle, a cycle, run
theorem q_of32 (x : Int32) : ∃ m : Nat, m < 2 ^ 32 ∧ x = nI m := ⟨x.toBitVec.toNat, x.toBitVec.isLt, Int32.toBitVec_inj.mp (by show _ = BitVec.ofNat 32 _; simp)⟩
theorem q_and (a b : Nat) : nI a &&& nI b = nI (a &&& b) := by
  apply Int32.toBitVec_inj.1
  show BitVec.ofNat 32 a &&& BitVec.ofNat 32 b = BitVec.ofNat 32 (a &&& b)
  apply BitVec.eq_of_getLsbD_eq
  intro i hi
  simp [hi]
theorem q_bit (m : Nat) : m &&& 2 ^ 15 = 0 ↔ m / 2 ^ 15 % 2 = 0 := by
  have h0 : m &&& 2 ^ 15 = 0 ↔ m.testBit 15 = false := by
    constructor
    · intro z
      have h := congrArg (fun q => Nat.testBit q 15) z
      simp only [Nat.testBit_and, Nat.testBit_two_pow_self, Nat.zero_testBit, Bool.and_true] at h
      exact h
    · intro z
      apply Nat.eq_of_testBit_eq
      intro i
      rw [Nat.testBit_and, Nat.zero_testBit]
      by_cases h : i = 15
      · rw [h, z]
        rfl
      · rw [Nat.testBit_two_pow_of_ne (fun y => h y.symm), Bool.and_false]
  rw [h0, Nat.testBit_eq_decide_div_mod_eq, decide_eq_false_iff_not]
  omega
theorem q_sgn (x : Int32) : (x &&& 32768) = 0 ↔ 0 ≤ x.toInt16.toInt32 := by
  obtain ⟨m, hm, rfl⟩ := q_of32 x
  have e0 : (32768 : Int32) = nI (2 ^ 15) := by decide
  have e2 : ((nI m).toInt16.toInt32).toInt = (m : Int).bmod 65536 := by
    rw [Int16.toInt_toInt32]
    show (Int32.ofNat m).toInt16.toInt = _
    rw [Int32.toInt16_ofNat', Int16.toInt_ofNat']
  have k0 : (0 : Int32).toInt = 0 := by decide
  have hle : m &&& 2 ^ 15 ≤ 2 ^ 15 := Nat.and_le_right
  have e3 : nI (m &&& 2 ^ 15) = 0 ↔ m &&& 2 ^ 15 = 0 := nI_eq (b := 0) (by omega) (by decide)
  rw [e0, q_and, Int32.le_iff_toInt_le, e2, k0, e3, q_bit]
  simp only [Int.bmod]
  constructor
  · intro z
    split <;> omega
  · intro z
    split at z <;> omega
theorem q_shl1 (x : Int32) : x <<< ((1 : Int32) &&& 31) = x + x := by
  apply Int32.toBitVec_inj.1
  apply BitVec.eq_of_toNat_eq
  rw [pk_shl x _ 1 (by decide), Int32.toBitVec_add, BitVec.toNat_add]
  congr 1
  omega
theorem q_fac (x : Int32) : (x <<< ((1 : Int32) &&& 31)).toInt16.toInt32 = (x.toInt16.toInt32 <<< ((1 : Int32) &&& 31)).toInt16.toInt32 := by
  rw [q_shl1, q_shl1, Int32.toInt16_add, Int32.toInt16_add, Int16.toInt16_toInt32]
section PF
variable {σ μ : Nat → Int32} {α β : Nat → Nat → Int32} {n : Nat} {a1 a2 : Int32}
def qPr (w : Nat → Int32) (b : Int32) : Int32 := 2 * (w 131 <<< ((16 : Int32) &&& 31) ||| w 130 &&& 65535) + b
def qW2 (w : Nat → Int32) (x : Int32) : Nat → Int32 := upd (upd w 130 (vp_nar .short x.toInt16.toInt32)) 131 (vp_nar .short ((x >>> ((16 : Int32) &&& 31)).toInt16.toInt32))
theorem qW2_s {w : Nat → Int32} {x : Int32} (h : ∀ j, qS (w j)) : ∀ j, qS (qW2 w x j) := qS_upd (qS_upd h (qS_nar _)) (qS_nar _)
theorem c_mult (h : St n a1 a2 σ α μ β) : ∃ (σ' μ' : Nat → Int32) (α' β' : Nat → Nat → Int32), (∀ post, post (σ', α') → wp_Mu_endCycle σ α post) ∧ (∀ post, post (μ', β') → wp_Md_multiply μ β post) ∧ Mid n σ' α' μ' β' ∧ rMul (σ' 16) (σ' 17) (μ' 15) ∧ rFac (μ' 15) (σ' 15) (μ' 16) ∧ rCardM n (σ' 2) (σ' 3) (σ' 4) (σ' 1) (α' 5) (μ' 19) (μ' 20) (β' 4) a1 a2 := by
  obtain ⟨⟨hN, hM, hG, hF, hL, hO, hW, hD, hP, hS, hK, hE⟩, hU, hC⟩ := h
  rcases hU with ⟨u1, ⟨k, hk, u2, u3⟩, u4⟩ | ⟨u1, u2, u3, u4, u5⟩
  · rcases Nat.eq_zero_or_pos k with hk0 | hk0
    · have e0 : μ 15 = 0 := by rw [u3, hk0]; rfl
      have e1 : σ 16 = 0 := by rw [u2, hk0]; rfl
      refine ⟨σ, μ, α, β, ?_, ?_, ⟨hN, hM, hG, hF, hL, hO, hW, hD, hP, hS, hK, hE⟩, ⟨u1, k, hk, u2, u3⟩, u4, hC⟩
      · intro post hp
        unfold wp_Mu_endCycle
        exact br_t u1 (bs_t e1 hp)
      · intro post hp
        unfold wp_Md_multiply
        exact bs_t e0 hp
    · have e0 : ¬ μ 15 = 0 := by rw [u3]; exact nI_ne0 hk0 (by omega)
      have e1 : ¬ σ 16 = 0 := by rw [u2]; exact nI_ne0 hk0 (by omega)
      have ek : nI k - 1 = nI (k - 1) := by
        have := nI_pred (k - 1)
        rw [show k - 1 + 1 = k by omega] at this
        exact this
      have e16 : ¬ μ 15 - 1 = 16 := by
        rw [u3, ek]
        intro z
        have := (nI_eq (b := 16) (by omega) (by decide)).mp z
        omega
      obtain ⟨u4, u5⟩ := u4.resolve_left e0
      have key : ∀ (b b' : Int32), b' = b → ((σ 15 &&& 32768) = 0 → b = 0) → (¬ (σ 15 &&& 32768) = 0 → b = α 3 129) → ∃ (σ' μ' : Nat → Int32) (α' β' : Nat → Nat → Int32), (∀ post, post (σ', α') → wp_Mu_endCycle σ α post) ∧ (∀ post, post (μ', β') → wp_Md_multiply μ β post) ∧ Mid n σ' α' μ' β' ∧ rMul (σ' 16) (σ' 17) (μ' 15) ∧ rFac (μ' 15) (σ' 15) (μ' 16) ∧ rCardM n (σ' 2) (σ' 3) (σ' 4) (σ' 1) (α' 5) (μ' 19) (μ' 20) (β' 4) a1 a2 := by
        intro b b' hbb h0 h1
        refine ⟨va_up (va_up σ 15 (σ 15 <<< ((1 : Int32) &&& 31))) 16 (σ 16 - 1), va_up (va_up μ 15 (μ 15 - 1)) 16 ((μ 16 <<< ((1 : Int32) &&& 31)).toInt16.toInt32), va_up α 3 (qW2 (α 3) (qPr (α 3) b)), va_up β 2 (qW2 (β 2) (qPr (β 2) b)), ?_, ?_, ⟨hN, hM, hG, hF, hL, hO, ⟨?_, qW2_s hW.2⟩, hD, hP, hS, hK, hE⟩, ⟨u1, k - 1, by omega, ?_, ?_⟩, Or.inr ⟨?_, qS_s _⟩, hC⟩
        · intro post hp
          unfold wp_Mu_endCycle wp_Mu_endCycle_J36 wp_Mu_endCycle_J60 wp_St_product wp_St_setProduct
          rw [c129, c130, c131]
          refine br_t u1 (bs_f e1 ⟨fun z => br_t rfl ?_, fun z => br_f (by decide) ?_⟩)
          · rw [h0 z] at hp
            exact hp
          · rw [h1 z] at hp
            exact hp
        · intro post hp
          unfold wp_Md_multiply wp_Md_multiply_J74
          rw [c129, c130, c131]
          have es := q_sgn (σ 15)
          rw [u4] at es
          refine bs_f e0 (bs_f e16 ⟨fun z => ?_, fun z => ?_⟩)
          · rw [h0 (es.mpr z)] at hp
            exact hp
          · have hb := h1 (fun y => z (es.mp y))
            rw [hb, hW.1] at hp
            exact hp
        · show qW2 (α 3) (qPr (α 3) b) = qW2 (β 2) (qPr (β 2) b)
          rw [hW.1]
        · show σ 16 - 1 = nI (k - 1)
          rw [u2, ek]
        · show μ 15 - 1 = nI (k - 1)
          rw [u3, ek]
        · show (σ 15 <<< ((1 : Int32) &&& 31)).toInt16.toInt32 = (μ 16 <<< ((1 : Int32) &&& 31)).toInt16.toInt32
          rw [q_fac, u4]
      by_cases z : (σ 15 &&& 32768) = 0
      · exact key 0 0 rfl (fun _ => rfl) (fun y => absurd z y)
      · exact key (α 3 129) (α 3 129) rfl (fun y => absurd y z) (fun _ => rfl)
  · refine ⟨va_up σ 17 0, va_up μ 15 (μ 15 - 1), α, β, ?_, ?_, ⟨hN, hM, hG, hF, hL, hO, hW, hD, hP, hS, hK, hE⟩, ⟨rfl, 16, Nat.le_refl 16, u2, ?_⟩, Or.inr ⟨u4, u5⟩, hC⟩
    · intro post hp
      unfold wp_Mu_endCycle
      exact br_f (by rw [u1]; decide) hp
    · intro post hp
      unfold wp_Md_multiply
      exact bs_f (by rw [u3]; decide) (bs_t (by rw [u3]; decide) hp)
    · show μ 15 - 1 = nI 16
      rw [u3]
      decide
/-- the end of a cycle -/
theorem c_end {wc wb : Nat} (hn : n < 2 ^ 29) (h : Mid n σ α μ β) (hU : rMul (σ 16) (σ 17) (μ 15)) (hF2 : rFac (μ 15) (σ 15) (μ 16)) (hC : rCardM n (σ 2) (σ 3) (σ 4) (σ 1) (α 5) (μ 19) (μ 20) (β 4) a1 a2) : ∃ σ' μ' : Nat → Int32, (∀ post : gSW → Prop, post (wc, wb, va_up σ' 9 (σ' 9 + 1), α) → wp_Rd_endCycle σ α (σ 9) (fun r81 u81 => (r81 = 0 → wp_Mc_goThroughCycle_J92 wc wb u81.1 u81.2 post) ∧ (¬ r81 = 0 → wp_Mc_stopBy u81.1 u81.2 1 (fun u89 => wp_Mc_goThroughCycle_J92 wc wb u89.1 u89.2 post)))) ∧ (∀ post : gS → Prop, post (va_up μ' 0 (μ' 0 + 1), β) → (a1 < 0 → wp_Md_cycle_J209 μ β post) ∧ (¬ a1 < 0 → (¬ a2 - a2 / 8 * 8 = 2 → wp_Md_cycle_J209 μ β post) ∧ (a2 - a2 / 8 * 8 = 2 → (¬ μ 20 = 0 → wp_Md_cycle_J209 μ β post) ∧ (μ 20 = 0 → wp_Md_fail μ β 1 (fun u206 => wp_Md_cycle_J209 u206.1 u206.2 post))))) ∧ Mid n σ' α μ' β ∧ rMul (σ' 16) (σ' 17) (μ' 15) ∧ rFac (μ' 15) (σ' 15) (μ' 16) ∧ rCard (n + 1) (σ' 2) (σ' 3) (σ' 4) (σ' 1) (α 5) (μ' 19) (μ' 20) (β 4) := by
  have h0 := h
  obtain ⟨hN, hM, hG, hF, hL, hO, hW, hD, hP, hS, hK, hE⟩ := h
  rcases hC with ⟨e1, hno⟩ | ⟨f, t, x, k1, k2, k3, k4, k5, k6, k7, k8, k9, k10, k11, k12, k13, k14⟩
  · refine ⟨σ, μ, ?_, ?_, h0, hU, hF2, ?_⟩
    · intro post hp
      unfold wp_Rd_endCycle wp_Rd_endCycle_J18
      rw [hN]
      exact x_off_no hn hno (br_t (by decide) (br_t rfl hp))
    · intro post hp
      exact br_t (by rw [e1]; decide) hp
    · obtain ⟨h4, ⟨h2, h3⟩ | ⟨f, t, q1, q2, q3, q4, q5, q6, q7, q8, q9, q10, q11⟩⟩ := hno
      · refine Or.inl ⟨h2, h4, ?_⟩
        rcases h3 with h3 | ⟨f, e, hf⟩
        · exact Or.inl h3
        · exact Or.inr ⟨f, e, by omega⟩
      · have nq : ¬ qM (n + 1) f := by
          intro z
          have z1 := z.1
          have z2 := z.2
          omega
        exact Or.inr ⟨f, t, q1, q2, q3, by omega, by omega, q7, q8, q9, q10, Or.inl h4, q11, fun z => absurd z nq, fun _ => h4⟩
  · have ha1 : ¬ a1 < 0 := by rw [k13]; exact nI_pos (by omega)
    have e8 : a2 - a2 / 8 * 8 = nI (x % 8) := by rw [k14, q_r8 (by omega)]
    have eo : n - (f + 40) = x := by omega
    by_cases hx : x % 8 = 2
    · -- the last cycle of a row
      have e82 : a2 - a2 / 8 * 8 = 2 := by rw [e8, hx]; rfl
      have ex2 : nI x - nI x / 8 * 8 = 2 := by rw [q_r8 (by omega), hx]; rfl
      obtain ⟨σ1, hσ1⟩ : ∃ σ1 : Nat → Int32, σ1 = if x = 90 then va_up (va_up σ 2 0) 4 0 else va_up σ 4 0 := ⟨_, rfl⟩
      have J32 : ∀ (t0 : Int32) (post : Int32 → gS → Prop), (t0 = 0 ∨ t0 = 1) → post t0 (σ1, α) → wp_Rd_endCycle_J32 σ α (nI x) t0 post := by
        intro t0 post ht0 hp
        have hnar : narrow .boolean (.int t0) = .int t0 := by
          rcases ht0 with e | e
          · rw [e]; rfl
          · rw [e]; rfl
        unfold wp_Rd_endCycle_J32 wp_Rd_endCycle_J49
        refine ⟨fun z => ⟨hnar, ?_⟩, fun z => ⟨hnar, ?_⟩⟩
        · rw [hσ1, if_neg (fun y => z (by rw [y]; rfl))] at hp
          exact hp
        · rw [hσ1, if_pos ((nI_eq (b := 90) (by omega) (by decide)).mp z)] at hp
          exact hp
      have E : ∀ (P : Int32 → gS → Prop), (¬ σ 4 = 0 → P 0 (σ1, α)) → (σ 4 = 0 → P 1 (σ1, α)) → wp_Rd_endCycle σ α (σ 9) P := by
        intro P p0 p1
        unfold wp_Rd_endCycle
        rw [hN]
        refine x_off_1 k1 k2 (by omega) hn (fun z => absurd z (by omega)) (fun _ => ?_)
        rw [eo]
        exact br_f (nI_pos (by omega)) (br_t ex2 ⟨fun z => J32 0 P (Or.inl rfl) (p0 z), fun z => J32 1 P (Or.inr rfl) (p1 z)⟩)
      have M1 : Mid n σ1 α μ β := by
        rw [hσ1]
        split
        · exact h0
        · exact h0
      have U1 : rMul (σ1 16) (σ1 17) (μ 15) := by
        rw [hσ1]
        split
        · exact hU
        · exact hU
      have F1 : rFac (μ 15) (σ1 15) (μ 16) := by
        rw [hσ1]
        split
        · exact hF2
        · exact hF2
      have nq : ¬ qM (n + 1) f := by
        intro z
        have z2 := z.2
        omega
      have C1 : rCard (n + 1) (σ1 2) (σ1 3) (σ1 4) (σ1 1) (α 5) (μ 19) (μ 20) (β 4) := by
        rw [hσ1]
        split
        · exact Or.inl ⟨rfl, rfl, Or.inr ⟨f, k3, by omega⟩⟩
        · exact Or.inr ⟨f, t, k1, k2, k3, by omega, by omega, k7, k8, k9, k10, Or.inl rfl, k12, fun z => absurd z nq, fun _ => rfl⟩
      by_cases hmo : μ 20 = 0
      · have h4 : σ 4 = 0 := by rw [k11]; exact hmo
        obtain ⟨N1, O1, G1, FF1, L1, R1, W1, D1, P1, S1, K1, E1⟩ := M1
        obtain ⟨s, f1, f2⟩ := c_fail0 (σ := σ1) (μ := μ) (α := α) (β := β) 1 FF1
        refine ⟨va_up (va_up σ1 7 0) 8 s, va_up (va_up μ 1 0) 2 s, ?_, ?_, ⟨N1, O1, ⟨rfl, Or.inl rfl⟩, rfl, L1, R1, W1, D1, P1, S1, K1, E1⟩, U1, F1, C1⟩
        · intro post hp
          exact E _ (fun z => absurd h4 z) (fun _ => br_f (by decide) (f1 _ hp))
        · intro post hp
          exact br_f ha1 (bs_t e82 (bs_t hmo (f2 _ hp)))
      · have h4 : ¬ σ 4 = 0 := by rw [k11]; exact hmo
        refine ⟨σ1, μ, ?_, ?_, M1, U1, F1, C1⟩
        · intro post hp
          exact E _ (fun _ => br_t rfl hp) (fun z => absurd z h4)
        · intro post hp
          exact br_f ha1 (bs_t e82 (bs_f hmo hp))
    · have n82 : ¬ a2 - a2 / 8 * 8 = 2 := by
        rw [e8]
        intro z
        exact hx ((nI_eq (b := 2) (by omega) (by decide)).mp z)
      have nx2 : ¬ nI x - nI x / 8 * 8 = 2 := by
        rw [q_r8 (by omega)]
        intro z
        exact hx ((nI_eq (b := 2) (by omega) (by decide)).mp z)
      refine ⟨σ, μ, ?_, ?_, h0, hU, hF2, ?_⟩
      · intro post hp
        unfold wp_Rd_endCycle wp_Rd_endCycle_J18
        rw [hN]
        refine x_off_1 k1 k2 (by omega) hn (fun z => absurd z (by omega)) (fun _ => ?_)
        rw [eo]
        exact br_f (nI_pos (by omega)) (br_f nx2 (br_t rfl hp))
      · intro post hp
        exact br_f ha1 (bs_f n82 hp)
      · have yq : qM (n + 1) f := ⟨by omega, by omega⟩
        refine Or.inr ⟨f, t, k1, k2, k3, by omega, by omega, k7, k8, k9, k10, ?_, k12, fun _ => k11, fun z => absurd yq z⟩
        rw [k11]
        exact k12
theorem mid_rel (h : Mid n σ α μ β) (hU : rMul (σ 16) (σ 17) (μ 15)) (hF2 : rFac (μ 15) (σ 15) (μ 16)) (hC : rCard (n + 1) (σ 2) (σ 3) (σ 4) (σ 1) (α 5) (μ 19) (μ 20) (β 4)) : Rel (n + 1) (va_up σ 9 (σ 9 + 1)) α (va_up μ 0 (μ 0 + 1)) β := by
  obtain ⟨hN, hM, hG, hF, hL, hO, hW, hD, hP, hS, hK, hE⟩ := h
  refine ⟨?_, ?_, hG, hF, hL, hO, hW, hD, ?_, hU, hS, hK, fun _ => ⟨hE, hF2, hC⟩⟩
  · show σ 9 + 1 = nI (n + 1)
    rw [hN, nI_1]
  · show μ 0 + 1 = nI (n + 1)
    rw [hM, nI_1]
  · obtain ⟨e7, q7, k, hk, e5, e21, hq⟩ := hP
    refine ⟨e7, q7, k, hk, e5, e21, ?_⟩
    rcases hq with hq | ⟨h1, q, h2, h3, h4⟩
    · exact Or.inl hq
    · exact Or.inr ⟨h1, q, by omega, h3, h4⟩
-- windows
theorem x_cov11_no {post : Int32 → gS → Prop} {x : Int32} (h : x < σ 25 ∨ σ 26 < x) (hp : post 0 (σ, α)) : wp_Wi_covers_11 σ α x post := by
  unfold wp_Wi_covers_11 wp_Wi_covers_11_J20 wp_Wi_covers_11_J21
  exact ⟨fun _ => ⟨rfl, hp⟩, fun z => br_t (h.resolve_left z) ⟨rfl, hp⟩⟩
theorem x_cov11_yes {post : Int32 → gS → Prop} {x : Int32} (h : ¬ (x < σ 25 ∨ σ 26 < x)) (hp : post 1 (σ, α)) : wp_Wi_covers_11 σ α x post := by
  unfold wp_Wi_covers_11 wp_Wi_covers_11_J20 wp_Wi_covers_11_J21
  exact br_f (fun z => h (Or.inl z)) (br_f (fun z => h (Or.inr z)) ⟨rfl, hp⟩)
theorem x_cov10_no {post : Int32 → gS → Prop} {x : Int32} (h : x < σ 20 ∨ σ 21 < x) (hp : post 0 (σ, α)) : wp_Wi_covers_10 σ α x post := by
  unfold wp_Wi_covers_10 wp_Wi_covers_10_J20 wp_Wi_covers_10_J21
  exact ⟨fun _ => ⟨rfl, hp⟩, fun z => br_t (h.resolve_left z) ⟨rfl, hp⟩⟩
theorem x_cov10_yes {post : Int32 → gS → Prop} {x : Int32} (h : ¬ (x < σ 20 ∨ σ 21 < x)) (hp : post 1 (σ, α)) : wp_Wi_covers_10 σ α x post := by
  unfold wp_Wi_covers_10 wp_Wi_covers_10_J20 wp_Wi_covers_10_J21
  exact br_f (fun z => h (Or.inl z)) (br_f (fun z => h (Or.inr z)) ⟨rfl, hp⟩)
theorem m_latest {post : gS → Prop} {t0 : Int32} (ht : t0 = 0 ∨ t0 = 1) (hn : μ 0 < μ 9 ∨ μ 10 < μ 0 → wp_Md_cycle_J87 (va_up μ 20 t0) β a1 a2 0 post) (hy : ¬ (μ 0 < μ 9 ∨ μ 10 < μ 0) → wp_Md_cycle_J87 (va_up μ 20 t0) β a1 a2 1 post) : wp_Md_cycle_J57 μ β a1 a2 t0 post := by
  have hb : narrow .boolean (.int t0) = .int t0 ∧ fits .boolean (.int t0) = true := by
    rcases ht with e | e
    · rw [e]; exact ⟨rfl, rfl⟩
    · rw [e]; exact ⟨rfl, rfl⟩
  unfold wp_Md_cycle_J57 wp_Md_cycle_J86
  exact ⟨hb, fun z => hn (Or.inl z), fun z => ⟨fun y => hn (Or.inr y), fun y => hy (fun w => w.elim z y)⟩⟩
theorem m_cur_1 {post : Int32 → gS → Prop} (h : ¬ (μ 0 < μ 9 ∨ μ 10 < μ 0)) (hp : post (μ 8) (μ, β)) : wp_Md_current μ β post := by
  unfold wp_Md_current wp_Md_current_J59
  exact br_f (fun z => h (Or.inl z)) (br_f (fun z => h (Or.inr z)) hp)
theorem m_cur_2 {post : Int32 → gS → Prop} (h : μ 0 < μ 9 ∨ μ 10 < μ 0) (h2 : ¬ (μ 0 < μ 12 ∨ μ 13 < μ 0)) (hp : post (μ 11) (μ, β)) : wp_Md_current μ β post := by
  unfold wp_Md_current wp_Md_current_J29 wp_Md_current_J58 wp_Md_current_J59
  have K : (μ 0 < μ 12 → post (-1) (μ, β)) ∧ (¬ μ 0 < μ 12 → (μ 13 < μ 0 → post (-1) (μ, β)) ∧ (¬ μ 13 < μ 0 → post (μ 11) (μ, β))) := br_f (fun z => h2 (Or.inl z)) (br_f (fun z => h2 (Or.inr z)) hp)
  exact ⟨fun _ => K, fun z => br_t (h.resolve_left z) K⟩
theorem m_cur_3 {post : Int32 → gS → Prop} (h : μ 0 < μ 9 ∨ μ 10 < μ 0) (h2 : μ 0 < μ 12 ∨ μ 13 < μ 0) (hp : post (-1) (μ, β)) : wp_Md_current μ β post := by
  unfold wp_Md_current wp_Md_current_J29 wp_Md_current_J58 wp_Md_current_J59
  have K : (μ 0 < μ 12 → post (-1) (μ, β)) ∧ (¬ μ 0 < μ 12 → (μ 13 < μ 0 → post (-1) (μ, β)) ∧ (¬ μ 13 < μ 0 → post (μ 11) (μ, β))) := ⟨fun _ => hp, fun z => br_t (h2.resolve_left z) hp⟩
  exact ⟨fun _ => K, fun z => br_t (h.resolve_left z) K⟩
/-- what the windows say in the cycle n -/
theorem c_wins {d : Nat} {s t f l v s' t' f' l' o mf ml o' mf' ml' tu : Int32} (hn : n < 2 ^ 29) (h : rWins d s t f l v s' t' f' l' o mf ml o' mf' ml' tu) :
    ((nI n < f' ∨ l' < nI n) ∧ (nI n < f ∨ l < nI n) ∧ (nI n < mf ∨ ml < nI n) ∧ (nI n < mf' ∨ ml' < nI n)) ∨
    (¬ (nI n < f' ∨ l' < nI n) ∧ (nI n < mf ∨ ml < nI n) ∧ ¬ (nI n < mf' ∨ ml' < nI n) ∧ ∃ k : Nat, k < 2097152 ∧ o' = nI k ∧ s' = nI (k % 16) ∧ t' = nI (k / 16 % 16)) ∨
    ((nI n < f' ∨ l' < nI n) ∧ ¬ (nI n < f ∨ l < nI n) ∧ ¬ (nI n < mf ∨ ml < nI n) ∧ ∃ k : Nat, k < 2097152 ∧ o = nI k ∧ s = nI (k % 16) ∧ t = nI (k / 16 % 16)) := by
  have shutX : ∀ a b c e : Int32, rShut a b c e → (nI n < a ∨ b < nI n) ∧ (nI n < c ∨ e < nI n) := by
    rintro a b c e ⟨rfl, rfl, rfl, rfl⟩
    have p := nI_pos (n := n) (by omega)
    constructor
    · rcases Nat.eq_zero_or_pos n with z | z
      · rw [z]; exact Or.inl (by decide)
      · exact Or.inr (nI_lt (a := 0) z (by omega))
    · right
      grind
  rcases h with ⟨h1, h2⟩ | ⟨F, hF, ⟨k, L, V, c1, c2, c3, c4, c5, c6, c7, c8, c9, c10, c11, c12⟩, hb⟩
  · exact Or.inl ⟨(shutX _ _ _ _ h1).1, (shutX _ _ _ _ h2).1, (shutX _ _ _ _ h2).2, (shutX _ _ _ _ h1).2⟩
  · have em : (nI n < f ∨ l < nI n) ↔ (nI n < mf ∨ ml < nI n) := by rw [c5, c6, c7, c8]
    rcases hb with hb | ⟨k', G, L', b1, b2, b3, b4, b5, b6, b7, b8, b9, b10⟩
    · by_cases hc : nI n < f ∨ l < nI n
      · exact Or.inl ⟨(shutX _ _ _ _ hb).1, hc, em.mp hc, (shutX _ _ _ _ hb).2⟩
      · exact Or.inr (Or.inr ⟨(shutX _ _ _ _ hb).1, hc, fun z => hc (em.mpr z), k, c1, c2, c3, c4⟩)
    · have eb : (nI n < f' ∨ l' < nI n) ↔ (nI n < mf' ∨ ml' < nI n) := by rw [b5, b6, b8, b9]
      by_cases hb' : nI n < f' ∨ l' < nI n
      · by_cases hc : nI n < f ∨ l < nI n
        · exact Or.inl ⟨hb', hc, em.mp hc, eb.mp hb'⟩
        · exact Or.inr (Or.inr ⟨hb', hc, fun z => hc (em.mpr z), k, c1, c2, c3, c4⟩)
      · refine Or.inr (Or.inl ⟨hb', Or.inl ?_, fun z => hb' (eb.mpr z), k', b1, b2, b3, b4⟩)
        rw [c6]
        refine nI_lt ?_ (by omega)
        have : ¬ l' < nI n := fun z => hb' (Or.inr z)
        rw [b8] at this
        have : ¬ L' < n := fun z => this (nI_lt z (by omega))
        omega
end PF
end
section
-- pure rows: a cycle whole, run
section PG
variable {σ μ : Nat → Int32} {α β : Nat → Nat → Int32} {n : Nat} {a1 a2 : Int32}
theorem c_disc {fb : Int32} (hn : n < 2 ^ 29) (h : St n a1 a2 σ α μ β) (hcov : ¬ (nI n < σ 20 ∨ σ 21 < nI n)) (hfb : fb = 0 ∨ fb = 1) : ∃ σ' μ' : Nat → Int32, (∀ post, post (σ', α) → wp_Mc_discriminate_10 σ α fb post) ∧ (∀ post, post (μ', β) → wp_Md_discriminate μ β fb post) ∧ St n a1 a2 σ' α μ' β := by
  rcases hfb with e | e
  · refine ⟨σ, μ, ?_, ?_, h⟩
    · intro post hp
      unfold wp_Mc_discriminate_10 wp_Mc_discriminate_10_J22
      exact br_t e hp
    · intro post hp
      unfold wp_Md_discriminate wp_Md_discriminate_J22
      exact br_t e hp
  · have e0 : ¬ fb = 0 := by rw [e]; decide
    obtain ⟨⟨hN, hM, hG, hF, hL, hO, hW, hD, hP, hS, hK, d, ⟨d1, d2, d3, d4, d5⟩, hw⟩, hU, hC⟩ := h
    rcases hw with ⟨-, s1, s2, -, -⟩ | ⟨F, hF2, ⟨k, L, V, c1, c2, c3, c4, c5, c6, c7, c8, c9, c10, c11, c12⟩, hb⟩
    · exfalso
      apply hcov
      rw [s1, s2]
      rcases Nat.eq_zero_or_pos n with z | z
      · rw [z]
        exact Or.inl (by decide)
      · exact Or.inr (nI_lt (a := 0) z (by omega))
    · have ev : σ 22 + 1 = nI (V + 1) := by rw [c9, nI_1]
      rcases c12 with ⟨t1, t2⟩ | ⟨t1, t2⟩
      · refine ⟨va_up σ 11 (σ 22 + 1), va_up (va_up μ 3 (μ 3 + 1)) 14 1, ?_, ?_, ⟨hN, hM, hG, hF, hL, hO, hW, hD, hP, hS, hK, V + 1, ⟨by omega, by omega, ev, ?_, d5⟩, Or.inr ⟨F, hF2, ⟨k, L, V, c1, c2, c3, c4, c5, c6, c7, c8, c9, c10, c11, Or.inr ⟨rfl, rfl⟩⟩, hb⟩⟩, hU, hC⟩
        · intro post hp
          unfold wp_Mc_discriminate_10 wp_Mc_discriminate_10_J22
          exact br_f e0 hp
        · intro post hp
          unfold wp_Md_discriminate wp_Md_discriminate_J22
          refine br_f e0 (bs_t t1 (br_t ?_ hp))
          rw [hM, d4]
          exact nI_lt (by omega) (by omega)
        · show μ 3 + 1 = nI (V + 1)
          rw [d4, t2, nI_1]
      · refine ⟨va_up σ 11 (σ 22 + 1), μ, ?_, ?_, ⟨hN, hM, hG, hF, hL, hO, hW, hD, hP, hS, hK, d, ⟨d1, d2, ?_, d4, d5⟩, Or.inr ⟨F, hF2, ⟨k, L, V, c1, c2, c3, c4, c5, c6, c7, c8, c9, c10, c11, Or.inr ⟨t1, t2⟩⟩, hb⟩⟩, hU, hC⟩
        · intro post hp
          unfold wp_Mc_discriminate_10 wp_Mc_discriminate_10_J22
          exact br_f e0 hp
        · intro post hp
          unfold wp_Md_discriminate wp_Md_discriminate_J22
          exact br_f e0 (bs_f (by rw [t1]; decide) hp)
        · show σ 22 + 1 = nI d
          rw [ev, t2]
/-- the move of a cycle -/
theorem c_move {wc wb : Nat} {t0 : Int32} (hn : n < 2 ^ 29) (hm : Mid n σ α μ β) (hU : rMul (σ 16) (σ 17) (μ 15)) (hF2 : rFac (μ 15) (σ 15) (μ 16)) (ht : t0 = 0 ∨ t0 = 1) (hC : rCardM n (σ 2) (σ 3) (σ 4) (σ 1) (α 5) (μ 19) t0 (β 4) a1 a2) : ∃ (σ' μ' : Nat → Int32) (α' β' : Nat → Nat → Int32), (∀ post, wp_Mc_goThroughCycle_J62 wc wb σ' α' post → wp_Mc_goThroughCycle_J15 wc wb σ α post) ∧ (∀ post, wp_Md_cycle_J181 μ' β' a1 a2 post → wp_Md_cycle_J57 μ β a1 a2 t0 post) ∧ St n a1 a2 σ' α' μ' β' := by
  have hN : σ 9 = nI n := hm.1
  have hM : μ 0 = nI n := hm.2.1
  have hW : rWrd (α 3) (β 2) := hm.2.2.2.2.2.2.1
  have hD : rDeck (σ 0) (σ 1) (α 5) (μ 17) (μ 18) (β 3) (β 4) := hm.2.2.2.2.2.2.2.1
  have h5 : ∀ j, qS (α 5 j) := by
    obtain ⟨c, t, -, -, -, -, -, -, -, h, -⟩ := hD
    exact h
  obtain ⟨d, hd, hw⟩ := hm.2.2.2.2.2.2.2.2.2.2.2
  have hmul : rMulM (σ 16) (σ 17) (μ 15) (σ 15) (μ 16) := Or.inl ⟨hU.1, hU.2, hF2⟩
  -- the rest of a cycle with the order k
  have GO : ∀ k : Nat, k < 2097152 → ∃ (v t1 : Int32) (σ1 : Nat → Int32), qS v ∧ (∀ P, P v (σ1, α) → wp_Mc_sourceWord σ α (nI (k % 16)) P) ∧ (∀ i, i ≠ 4 → σ1 i = σ i) ∧ St n a1 a2 σ1 α (va_up (va_up μ 20 t0) 20 t1) β ∧ ∀ (lt : Int32) (post : gS → Prop), ((¬ lt = 0 → wp_Md_put (va_up (va_up μ 20 t0) 20 t1) β (nI (k / 16 % 16)) v (fun u178 => wp_Md_cycle_J181 u178.1 u178.2 a1 a2 post)) ∧ (lt = 0 → (nI (k / 16 % 16) = 11 → wp_Md_cycle_J181 (va_up (va_up μ 20 t0) 20 t1) β a1 a2 post) ∧ (¬ nI (k / 16 % 16) = 11 → (nI (k / 16 % 16) = 12 → wp_Md_cycle_J181 (va_up (va_up μ 20 t0) 20 t1) β a1 a2 post) ∧ (¬ nI (k / 16 % 16) = 12 → wp_Md_put (va_up (va_up μ 20 t0) 20 t1) β (nI (k / 16 % 16)) v (fun u178 => wp_Md_cycle_J181 u178.1 u178.2 a1 a2 post))))) → ((nI k < 0 → wp_Md_cycle_J181 (va_up μ 20 t0) β a1 a2 post) ∧ (¬ nI k < 0 → wp_Md_get (va_up μ 20 t0) β (nI k &&& 15) (fun r105 u105 => (¬ u105.1 20 = 0 → wp_Md_cycle_J132 u105.1 u105.2 a1 a2 lt (nI k) r105 post) ∧ (u105.1 20 = 0 → (a1 < 0 → wp_Md_cycle_J136 u105.1 u105.2 a1 a2 lt (nI k) r105 post) ∧ (¬ a1 < 0 → (¬ (nI k &&& 15) = 13 → wp_Md_cycle_J136 u105.1 u105.2 a1 a2 lt (nI k) r105 post) ∧ ((nI k &&& 15) = 13 → wp_Md_cycle_J132 u105.1 u105.2 a1 a2 lt (nI k) r105 post)))))) := by
    intro k hk
    obtain ⟨v, t1, σ1, g1, g2, g3, g4, g5, g6, g7⟩ := c_src (μ := va_up μ 20 t0) (s := k % 16) (by omega) hn hN hM hW h5 ht hC
    refine ⟨v, t1, σ1, g1, g2, ?_, ?_, ?_⟩
    · intro i hi
      rcases g4 with e | e
      · rw [e]
      · rw [e]
        exact va_up_ne σ 1 hi
    · rcases g4 with e | e
      · subst e
        exact ⟨hm, hmul, g7⟩
      · subst e
        exact ⟨hm, hmul, g7⟩
    · intro lt post hp
      have hb : narrow .boolean (.int t1) = .int t1 ∧ fits .boolean (.int t1) = true := by
        rcases g5 with e | e
        · rw [e]; exact ⟨rfl, rfl⟩
        · rw [e]; exact ⟨rfl, rfl⟩
      have J : wp_Md_cycle_J137 (va_up μ 20 t0) β a1 a2 lt (nI k) v t1 post := by
        unfold wp_Md_cycle_J137 wp_Md_cycle_J168
        rw [q_dest (by omega)]
        exact ⟨hb, hp⟩
      refine br_f (nI_pos (by omega)) ?_
      rw [q_src (by omega)]
      refine g3 _ ?_
      refine g6 _ _ (fun e => ?_) (fun e => ?_)
      · rw [e] at J
        exact J
      · rw [e] at J
        exact J
  rcases c_wins hn hw with ⟨w1, w2, w3, w4⟩ | ⟨w1, w2, w3, k, hk, ko, ks, kt⟩ | ⟨w1, w2, w3, k, hk, ko, ks, kt⟩
  · refine ⟨σ, va_up μ 20 t0, α, β, ?_, ?_, hm, hmul, hC⟩
    · intro post hp
      unfold wp_Mc_goThroughCycle_J15
      rw [hN]
      refine x_cov11_no w1 (br_t rfl ?_)
      show wp_Wi_covers_10 σ α (σ 9) _
      rw [hN]
      exact x_cov10_no w2 (br_t rfl hp)
    · intro post hp
      rw [← hM] at w3 w4
      refine m_latest ht (fun _ => ?_) (fun z => absurd w3 z)
      unfold wp_Md_cycle_J87
      exact m_cur_3 w3 w4 (br_t (by decide) hp)
  · -- the order before
    obtain ⟨v, t1, σ1, g1, g2, g4, S2, g6⟩ := GO k hk
    have e24 : σ1 24 = nI (k / 16 % 16) := by rw [g4 24 (by decide)]; exact kt
    have REF : ∀ post : gS → Prop, (((nI (k / 16 % 16) = 11 → wp_Md_cycle_J181 (va_up (va_up μ 20 t0) 20 t1) β a1 a2 post) ∧ (¬ nI (k / 16 % 16) = 11 → (nI (k / 16 % 16) = 12 → wp_Md_cycle_J181 (va_up (va_up μ 20 t0) 20 t1) β a1 a2 post) ∧ (¬ nI (k / 16 % 16) = 12 → wp_Md_put (va_up (va_up μ 20 t0) 20 t1) β (nI (k / 16 % 16)) v (fun u178 => wp_Md_cycle_J181 u178.1 u178.2 a1 a2 post))))) → wp_Md_cycle_J57 μ β a1 a2 t0 post := by
      intro post hp
      rw [← hM] at w2 w3
      refine m_latest ht (fun _ => ?_) (fun z => absurd w2 z)
      unfold wp_Md_cycle_J87
      refine m_cur_2 w2 w3 ?_
      have t := g6 0 post (bs_t rfl hp)
      rw [← ko] at t
      exact t
    have CLS : ∀ (wc wb : Nat) (post : gSW → Prop), wp_Mc_move_11 σ α (fun u34 => wp_Mc_goThroughCycle_J62 wc wb u34.1 u34.2 post) → wp_Mc_goThroughCycle_J15 wc wb σ α post := by
      intro wc wb post hp
      unfold wp_Mc_goThroughCycle_J15
      rw [hN]
      exact x_cov11_yes w1 (br_f (by decide) hp)
    have MV : ∀ (P : gS → Prop), ((nI (k / 16 % 16) = 11 → P (σ1, α)) ∧ (nI (k / 16 % 16) = 12 → P (σ1, α)) ∧ (¬ nI (k / 16 % 16) = 11 ∧ ¬ nI (k / 16 % 16) = 12 → wp_Mc_deliver σ1 α v (nI (k / 16 % 16)) (fun u80 => P (u80.1, u80.2)))) → wp_Mc_move_11 σ α P := by
      intro P hp
      unfold wp_Mc_move_11 wp_Mc_move_11_J51 wp_Mc_move_11_J68 wp_Mc_move_11_J83 wp_Mc_discriminate_11 wp_Mc_discriminate_11_J22
      rw [ks]
      refine g2 _ ?_
      rw [← e24] at hp
      exact ⟨fun z => ⟨fun _ => ⟨fun _ => hp.1 z, fun _ => hp.1 z⟩, fun _ => ⟨fun _ => hp.1 z, fun _ => hp.1 z⟩⟩, fun z => ⟨fun _ => ⟨fun _ => hp.2.1 z, fun _ => hp.2.1 z⟩, fun _ => ⟨fun _ => hp.2.1 z, fun _ => hp.2.1 z⟩⟩, fun z => hp.2.2 z⟩
    by_cases z11 : k / 16 % 16 = 11
    · refine ⟨σ1, va_up (va_up μ 20 t0) 20 t1, α, β, ?_, ?_, S2⟩
      · intro post hp
        refine CLS wc wb post (MV _ ⟨fun _ => hp, fun _ => hp, fun z => absurd ?_ z.1⟩)
        rw [z11]
        rfl
      · intro post hp
        refine REF post (br_t ?_ hp)
        rw [z11]
        rfl
    · have n11 : ¬ nI (k / 16 % 16) = 11 := fun z => z11 ((nI_eq (b := 11) (by omega) (by decide)).mp z)
      by_cases z12 : k / 16 % 16 = 12
      · refine ⟨σ1, va_up (va_up μ 20 t0) 20 t1, α, β, ?_, ?_, S2⟩
        · intro post hp
          refine CLS wc wb post (MV _ ⟨fun _ => hp, fun _ => hp, fun z => absurd ?_ z.2⟩)
          rw [z12]
          rfl
        · intro post hp
          refine REF post (br_f n11 (br_t ?_ hp))
          rw [z12]
          rfl
      · have n12 : ¬ nI (k / 16 % 16) = 12 := fun z => z12 ((nI_eq (b := 12) (by omega) (by decide)).mp z)
        obtain ⟨σ', μ', α', β', f1, f2, f3⟩ := c_put (t := k / 16 % 16) (by omega) z11 z12 g1 hn S2
        refine ⟨σ', μ', α', β', ?_, ?_, f3⟩
        · intro post hp
          exact CLS wc wb post (MV _ ⟨fun z => absurd z n11, fun z => absurd z n12, fun _ => f1 _ hp⟩)
        · intro post hp
          exact REF post (br_f n11 (br_f n12 (f2 _ hp)))
  · -- the order that was read last
    obtain ⟨v, t1, σ1, g1, g2, g4, S2, g6⟩ := GO k hk
    have e19 : σ1 19 = nI (k / 16 % 16) := by rw [g4 19 (by decide)]; exact kt
    have hcov : ¬ (nI n < σ1 20 ∨ σ1 21 < nI n) := by rw [g4 20 (by decide), g4 21 (by decide)]; exact w2
    have REF : ∀ post : gS → Prop, wp_Md_put (va_up (va_up μ 20 t0) 20 t1) β (nI (k / 16 % 16)) v (fun u178 => wp_Md_cycle_J181 u178.1 u178.2 a1 a2 post) → wp_Md_cycle_J57 μ β a1 a2 t0 post := by
      intro post hp
      rw [← hM] at w3
      refine m_latest ht (fun z => absurd z w3) (fun _ => ?_)
      unfold wp_Md_cycle_J87
      refine m_cur_1 w3 ?_
      have t := g6 1 post (bs_f (by decide) hp)
      rw [← ko] at t
      exact t
    have CLS : ∀ (post : gSW → Prop), wp_Mc_move_10 σ α (fun u59 => wp_Mc_goThroughCycle_J62 wc wb u59.1 u59.2 post) → wp_Mc_goThroughCycle_J15 wc wb σ α post := by
      intro post hp
      unfold wp_Mc_goThroughCycle_J15
      rw [hN]
      refine x_cov11_no w1 (br_t rfl ?_)
      show wp_Wi_covers_10 σ α (σ 9) _
      rw [hN]
      exact x_cov10_yes w2 (br_f (by decide) hp)
    have MV : ∀ (P : gS → Prop), ((nI (k / 16 % 16) = 11 → (0 ≤ v → wp_Mc_discriminate_10 σ1 α 0 (fun u51 => P (u51.1, u51.2))) ∧ (¬ 0 ≤ v → wp_Mc_discriminate_10 σ1 α 1 (fun u51 => P (u51.1, u51.2)))) ∧ (nI (k / 16 % 16) = 12 → (v = 0 → wp_Mc_discriminate_10 σ1 α 0 (fun u51 => P (u51.1, u51.2))) ∧ (¬ v = 0 → wp_Mc_discriminate_10 σ1 α 1 (fun u51 => P (u51.1, u51.2)))) ∧ (¬ nI (k / 16 % 16) = 11 ∧ ¬ nI (k / 16 % 16) = 12 → wp_Mc_deliver σ1 α v (nI (k / 16 % 16)) (fun u80 => P (u80.1, u80.2)))) → wp_Mc_move_10 σ α P := by
      intro P hp
      unfold wp_Mc_move_10 wp_Mc_move_10_J51 wp_Mc_move_10_J68 wp_Mc_move_10_J83
      rw [ks]
      refine g2 _ ?_
      rw [← e19] at hp
      exact hp
    by_cases z11 : k / 16 % 16 = 11
    · have fb : ∃ fb : Int32, (fb = 0 ∨ fb = 1) ∧ (0 ≤ v → fb = 0) ∧ (¬ 0 ≤ v → fb = 1) := by
        by_cases z : 0 ≤ v
        · exact ⟨0, Or.inl rfl, fun _ => rfl, fun y => absurd z y⟩
        · exact ⟨1, Or.inr rfl, fun y => absurd y z, fun _ => rfl⟩
      obtain ⟨fb, hfb, fb0, fb1⟩ := fb
      obtain ⟨σ', μ', f1, f2, f3⟩ := c_disc hn S2 hcov hfb
      refine ⟨σ', μ', α, β, ?_, ?_, f3⟩
      · intro post hp
        have q := f1 (fun u51 => wp_Mc_goThroughCycle_J62 wc wb u51.1 u51.2 post) hp
        refine CLS post (MV _ ⟨fun _ => ⟨fun z => ?_, fun z => ?_⟩, fun z => absurd z ?_, fun z => absurd ?_ z.1⟩)
        · rw [fb0 z] at q
          exact q
        · rw [fb1 z] at q
          exact q
        · rw [z11]
          decide
        · rw [z11]
          rfl
      · intro post hp
        have q := f2 (fun u178 => wp_Md_cycle_J181 u178.1 u178.2 a1 a2 post) hp
        refine REF post ?_
        rw [z11]
        unfold wp_Md_put wp_Md_put_J265 wp_Md_put_J187 wp_Md_put_J215
        refine ⟨fun e => absurd e (by decide), fun e => absurd e (by decide), fun e => absurd e (by decide), fun e => absurd e (by decide), fun e => absurd e (by decide), fun e => absurd e (by decide), fun e => absurd e (by decide), fun e => absurd e (by decide), fun e => absurd e (by decide), fun e => absurd e (by decide), fun e => absurd e (by decide), fun _ => bs_t rfl ⟨fun z => ?_, fun z => ?_⟩, fun e => absurd e (by decide), fun e => absurd e (by decide), fun e => absurd e (by decide), fun e => absurd e (by decide)⟩
        · rw [fb0 z] at q
          exact q
        · rw [fb1 z] at q
          exact q
    · have n11 : ¬ nI (k / 16 % 16) = 11 := fun z => z11 ((nI_eq (b := 11) (by omega) (by decide)).mp z)
      by_cases z12 : k / 16 % 16 = 12
      · have fb : ∃ fb : Int32, (fb = 0 ∨ fb = 1) ∧ (v = 0 → fb = 0) ∧ (¬ v = 0 → fb = 1) := by
          by_cases z : v = 0
          · exact ⟨0, Or.inl rfl, fun _ => rfl, fun y => absurd z y⟩
          · exact ⟨1, Or.inr rfl, fun y => absurd y z, fun _ => rfl⟩
        obtain ⟨fb, hfb, fb0, fb1⟩ := fb
        obtain ⟨σ', μ', f1, f2, f3⟩ := c_disc hn S2 hcov hfb
        refine ⟨σ', μ', α, β, ?_, ?_, f3⟩
        · intro post hp
          have q := f1 (fun u51 => wp_Mc_goThroughCycle_J62 wc wb u51.1 u51.2 post) hp
          refine CLS post (MV _ ⟨fun z => absurd z n11, fun _ => ⟨fun z => ?_, fun z => ?_⟩, fun z => absurd ?_ z.2⟩)
          · rw [fb0 z] at q
            exact q
          · rw [fb1 z] at q
            exact q
          · rw [z12]
            rfl
        · intro post hp
          have q := f2 (fun u178 => wp_Md_cycle_J181 u178.1 u178.2 a1 a2 post) hp
          refine REF post ?_
          rw [z12]
          unfold wp_Md_put wp_Md_put_J265 wp_Md_put_J187 wp_Md_put_J215
          refine ⟨fun e => absurd e (by decide), fun e => absurd e (by decide), fun e => absurd e (by decide), fun e => absurd e (by decide), fun e => absurd e (by decide), fun e => absurd e (by decide), fun e => absurd e (by decide), fun e => absurd e (by decide), fun e => absurd e (by decide), fun e => absurd e (by decide), fun e => absurd e (by decide), fun e => absurd e (by decide), fun _ => bs_f (by decide) ⟨fun z => ?_, fun z => ?_⟩, fun e => absurd e (by decide), fun e => absurd e (by decide), fun e => absurd e (by decide)⟩
          · rw [fb0 z] at q
            exact q
          · rw [fb1 z] at q
            exact q
      · have n12 : ¬ nI (k / 16 % 16) = 12 := fun z => z12 ((nI_eq (b := 12) (by omega) (by decide)).mp z)
        obtain ⟨σ', μ', α', β', f1, f2, f3⟩ := c_put (t := k / 16 % 16) (by omega) z11 z12 g1 hn S2
        refine ⟨σ', μ', α', β', ?_, ?_, f3⟩
        · intro post hp
          exact CLS post (MV _ ⟨fun z => absurd z n11, fun z => absurd z n12, fun _ => f1 _ hp⟩)
        · intro post hp
          exact REF post (f2 _ hp)
/-- one cycle -/
theorem c_cycle {wc wb : Nat} (hn : n < 2 ^ 29) (h : Rel n σ α μ β) (g : μ 1 ≠ 0) : ∃ (wc' wb' : Nat) (σ' μ' : Nat → Int32) (α' β' : Nat → Nat → Int32), (∀ post : gSW → Prop, post (wc', wb', σ', α') → wp_Mc_goThroughCycle wc wb σ α post) ∧ (∀ post : gS → Prop, post (μ', β') → wp_Md_cycle μ β post) ∧ Rel (n + 1) σ' α' μ' β' := by
  obtain ⟨wc1, wb1, σ1, μ1, r1, r2, m1, u1, f1, k1⟩ := c_read (wc := wc) (wb := wb) hn h g
  obtain ⟨a1, a2, t0, q1, q2, q3⟩ := c_row (σ := σ1) (α := α) (β := β) hn m1.2.1 k1
  obtain ⟨σ2, μ2, α2, β2, s1, s2, s3⟩ := c_move (wc := wc1) (wb := wb1) hn m1 u1 f1 q2 q3
  obtain ⟨σ3, μ3, α3, β3, v1, v2, m3, u3, f3, k3⟩ := c_mult s3
  obtain ⟨σ4, μ4, e1, e2, m4, u4, f4, k4⟩ := c_end (wc := wc1) (wb := wb1) hn m3 u3 f3 k3
  refine ⟨wc1, wb1, va_up σ4 9 (σ4 9 + 1), va_up μ4 0 (μ4 0 + 1), α3, β3, ?_, ?_, mid_rel m4 u4 f4 k4⟩
  · intro post hp
    refine r1 post (s1 post ?_)
    unfold wp_Mc_goThroughCycle_J62
    exact v1 _ (e1 post hp)
  · intro post hp
    refine r2 post (q1 post (s2 post ?_))
    unfold wp_Md_cycle_J181
    exact v2 _ (e2 post hp)
theorem c_run {N : Nat} (hN : N ≤ 2000) : ∀ (m i : Nat), i + m = N → ∀ (n wc wb : Nat) (σ μ : Nat → Int32) (α β : Nat → Nat → Int32), n + m < 2 ^ 29 → Rel n σ α μ β → ∃ (n' wc' wb' : Nat) (r : Int32) (σ' μ' : Nat → Int32) (α' β' : Nat → Nat → Int32), (∀ post : Int32 → gSW → Prop, post r (wc', wb', σ', α') → wp_Dm_run_L15 wc wb σ α (nI N) (nI i) post) ∧ (∀ post : Int32 → gS → Prop, post r (μ', β') → wp_Md_run_L15 μ β (nI N) (nI i) post) ∧ n' ≤ n + m ∧ Rel n' σ' α' μ' β' := by
  intro m
  induction m with
  | zero =>
    intro i hi n wc wb σ μ α β hn h
    have hle : nI N ≤ nI i := nI_le (by omega) (by omega)
    have e : nI i = nI N := by rw [show i = N by omega]
    refine ⟨n, wc, wb, nI N, σ, μ, α, β, ?_, ?_, by omega, h⟩
    · intro post hp X hX
      apply hX
      unfold wp_Dm_run_B15
      exact br_t hle hp
    · intro post hp X hX
      apply hX
      unfold wp_Md_run_B15 wp_Md_run_J37
      refine br_t hle ?_
      rw [e]
      exact hp
  | succ m ih =>
    intro i hi n wc wb σ μ α β hn h
    have hnle : ¬ nI N ≤ nI i := nI_ge (by omega) (by omega)
    have eg : σ 7 = μ 1 := h.2.2.1.1
    by_cases g : μ 1 = 0
    · have g2 : σ 7 = 0 := by rw [eg]; exact g
      refine ⟨n, wc, wb, nI i, σ, μ, α, β, ?_, ?_, by omega, h⟩
      · intro post hp X hX
        apply hX
        unfold wp_Dm_run_B15
        exact br_f hnle (bs_t g2 hp)
      · intro post hp X hX
        apply hX
        unfold wp_Md_run_B15 wp_Md_run_J37
        exact br_f hnle (br_t g hp)
    · have g2 : ¬ σ 7 = 0 := by rw [eg]; exact g
      obtain ⟨wc1, wb1, σ1, μ1, α1, β1, c1, c2, c3⟩ := c_cycle (wc := wc) (wb := wb) (by omega) h g
      obtain ⟨n', wc', wb', r, σ', μ', α', β', p1, p2, p3, p4⟩ := ih (i + 1) (by omega) (n + 1) wc1 wb1 σ1 μ1 α1 β1 (by omega) c3
      refine ⟨n', wc', wb', r, σ', μ', α', β', ?_, ?_, by omega, p4⟩
      · intro post hp X hX
        apply hX
        unfold wp_Dm_run_B15
        rw [io1, nI_1]
        exact br_f hnle (bs_f g2 (c1 _ (p1 post hp X hX)))
      · intro post hp X hX
        apply hX
        unfold wp_Md_run_B15
        rw [io1, nI_1]
        exact br_f hnle (br_f g (c2 _ (p2 post hp X hX)))
theorem p_run {wc wb : Nat} {x1 : Int32} {Q : Int32 → gSW → Int32 → gS → Prop} (hQ : ∀ r u r' u', (r = r' ∧ ∃ n', n' ≤ n + 2000 ∧ Rel n' u.2.2.1 u.2.2.2 u'.1 u'.2) → Q r u r' u') (hn : n + 2000 < 2 ^ 29) (h : Rel n σ α μ β) : wp_Dm_run wc wb σ α x1 (fun r u => wp_Md_run μ β x1 (Q r u)) := by
  unfold wp_Dm_run wp_Dm_run_J11 wp_Md_run wp_Md_run_J11
  have R : Q (-1) (wc, wb, σ, α) (-1) (μ, β) := hQ _ _ _ _ ⟨rfl, n, by omega, h⟩
  refine ⟨fun z => br_t z R, fun z => ⟨fun y => ?_, fun y => br_f z (br_f y R)⟩⟩
  obtain ⟨N, hN, rfl⟩ := nI_of2 (x := x1) (M := 2000) (n := 2000) (by decide) z y
  obtain ⟨n', wc', wb', r, σ', μ', α', β', p1, p2, p3, p4⟩ := c_run hN N 0 (by omega) n wc wb σ μ α β (by omega) h
  refine p1 _ ?_
  exact br_f z (br_t y (p2 _ (hQ _ _ _ _ ⟨rfl, n', by omega, p4⟩)))
end PG
end
section
-- pure rows: the search for free spots, on both sides
theorem q_or (a b : Nat) : nI a ||| nI b = nI (a ||| b) := by
  apply Int32.toBitVec_inj.1
  show BitVec.ofNat 32 a ||| BitVec.ofNat 32 b = BitVec.ofNat 32 (a ||| b)
  apply BitVec.eq_of_getLsbD_eq
  intro i hi
  simp [hi]
/-- the first free spot, m places from the place pos on; fr q: the spot q is free -/
def qFs (fr : Nat → Bool) : Nat → Nat → Option Nat
  | 0, _ => none
  | m + 1, pos => if fr (pos % 32) then some (pos % 32) else if fr (32 + pos % 32) then some (32 + pos % 32) else qFs fr m (pos + 1)
/-- the first place of a fork -/
def qFk (fr : Nat → Bool) : Nat → Nat → Option Nat
  | 0, _ => none
  | m + 1, pos => if fr (pos % 32) && fr ((pos % 32 + 1) % 32) then some (pos % 32) else if fr (32 + pos % 32) && fr (32 + (pos % 32 + 1) % 32) then some (32 + pos % 32) else qFk fr m (pos + 1)
def qOp (x : Option Nat) : Int32 := match x with | some q => nI q | none => -1
theorem qFs_lt {fr : Nat → Bool} : ∀ (m pos q : Nat), qFs fr m pos = some q → q < 64 ∧ fr q = true := by
  intro m
  induction m with
  | zero => intro pos q h; cases h
  | succ m ih =>
    intro pos q h
    unfold qFs at h
    split at h
    · rename_i z
      cases h
      exact ⟨by omega, z⟩
    · split at h
      · rename_i z
        cases h
        exact ⟨by omega, z⟩
      · exact ih _ _ h
theorem qFk_lt {fr : Nat → Bool} : ∀ (m pos q : Nat), qFk fr m pos = some q → q < 64 ∧ fr q = true ∧ fr (q / 32 * 32 + (q % 32 + 1) % 32) = true := by
  intro m
  induction m with
  | zero => intro pos q h; cases h
  | succ m ih =>
    intro pos q h
    unfold qFk at h
    split at h
    · rename_i z
      cases h
      have z := Bool.and_eq_true_iff.mp z
      refine ⟨by omega, z.1, ?_⟩
      rw [show pos % 32 / 32 * 32 + (pos % 32 % 32 + 1) % 32 = (pos % 32 + 1) % 32 by omega]
      exact z.2
    · split at h
      · rename_i z
        cases h
        have z := Bool.and_eq_true_iff.mp z
        refine ⟨by omega, z.1, ?_⟩
        rw [show (32 + pos % 32) / 32 * 32 + ((32 + pos % 32) % 32 + 1) % 32 = 32 + (pos % 32 + 1) % 32 by omega]
        exact z.2
      · exact ih _ _ h
section PH
variable {σ μ : Nat → Int32} {α β : Nat → Nat → Int32} {fr : Nat → Bool}
theorem q_pl (a b : Nat) (ha : a + b < 2 ^ 31) : (nI a + nI b) &&& 31 = nI ((a + b) % 32) := by rw [nI_add, q_a31 ha]
theorem x_isFree {post : Int32 → gS → Prop} {l p : Nat} (hf : ∀ q, q < 64 → (α 25 q = -1 ↔ fr q = true)) (hl : l < 2) (hp : p < 32) (h1 : fr (32 * l + p) = true → post 1 (σ, α)) (h0 : ¬ fr (32 * l + p) = true → post 0 (σ, α)) : wp_Pl_isFree σ α (nI l) (nI p) post := by
  unfold wp_Pl_isFree wp_Pl_isFree_J20
  rw [q_idx, nI_clamp (by omega)]
  refine ⟨vp_in_nI (by omega) (by decide), fun z => ⟨rfl, h0 (fun y => z ((hf _ (by omega)).mpr y))⟩, fun z => ⟨rfl, h1 ((hf _ (by omega)).mp z)⟩⟩
theorem x_freeSpot {post : Int32 → gS → Prop} {f : Nat} (hf : ∀ q, q < 64 → (α 25 q = -1 ↔ fr q = true)) (e33 : σ 33 = nI f) (h33 : f < 32) (hp : post (qOp (qFs fr 32 f)) (σ, α)) : wp_Pl_freeSpot σ α post := by
  unfold wp_Pl_freeSpot
  have key : ∀ (m st : Nat), st + m = 32 → post (qOp (qFs fr m (f + st))) (σ, α) → wp_Pl_freeSpot_L2 σ α (nI st) post := by
    intro m st hst hpost X hX
    induction m generalizing st with
    | zero =>
      apply hX
      unfold wp_Pl_freeSpot_B2
      exact br_t (nI_le (a := 32) (by omega) (by omega)) hpost
    | succ m ih =>
      apply hX
      unfold wp_Pl_freeSpot_B2
      refine br_f (nI_ge (b := 32) (by omega) (by decide)) ?_
      rw [e33, q_pl f st (by omega)]
      unfold qFs at hpost
      have nxt : ¬ fr ((f + st) % 32) = true → ¬ fr (32 + (f + st) % 32) = true → X σ α (nI (st + 1)) := by
        intro z0 z1
        rw [if_neg z0, if_neg z1] at hpost
        exact ih (st + 1) (by omega) hpost
      intro Y hY
      apply hY
      unfold wp_Pl_freeSpot_B20
      rw [io1]
      refine br_f (by decide) ?_
      refine x_isFree (l := 0) hf (by decide) (by omega) (fun z => ?_) (fun z0 => ?_)
      · rw [show 32 * 0 + (f + st) % 32 = (f + st) % 32 by omega] at z
        rw [if_pos z] at hpost
        refine br_f (by decide) ?_
        show post (nI 0 * 32 + nI ((f + st) % 32)) (σ, α)
        rw [q_idx, show 32 * 0 + (f + st) % 32 = (f + st) % 32 by omega]
        exact hpost
      · rw [show 32 * 0 + (f + st) % 32 = (f + st) % 32 by omega] at z0
        refine br_t rfl ?_
        apply hY
        unfold wp_Pl_freeSpot_B20
        rw [io1]
        refine br_f (by decide) ?_
        refine x_isFree (l := 1) hf (by decide) (by omega) (fun z => ?_) (fun z1 => ?_)
        · rw [show 32 * 1 + (f + st) % 32 = 32 + (f + st) % 32 by omega] at z
          rw [if_neg z0, if_pos z] at hpost
          refine br_f (by decide) ?_
          show post (nI 1 * 32 + nI ((f + st) % 32)) (σ, α)
          rw [q_idx, show 32 * 1 + (f + st) % 32 = 32 + (f + st) % 32 by omega]
          exact hpost
        · rw [show 32 * 1 + (f + st) % 32 = 32 + (f + st) % 32 by omega] at z1
          refine br_t rfl ?_
          apply hY
          unfold wp_Pl_freeSpot_B20
          rw [io1, nI_1]
          exact br_t (by decide) (nxt z0 z1)
  exact key 32 0 (by omega) hp
theorem x_forkSpot {post : Int32 → gS → Prop} {f : Nat} (hf : ∀ q, q < 64 → (α 25 q = -1 ↔ fr q = true)) (e33 : σ 33 = nI f) (h33 : f < 32) (hp : post (qOp (qFk fr 31 (f + 1))) (σ, α)) : wp_Pl_forkSpot σ α post := by
  unfold wp_Pl_forkSpot
  have key : ∀ (m st : Nat), st + m = 32 → post (qOp (qFk fr m (f + st))) (σ, α) → wp_Pl_forkSpot_L2 σ α (nI st) post := by
    intro m st hst hpost X hX
    induction m generalizing st with
    | zero =>
      apply hX
      unfold wp_Pl_forkSpot_B2
      exact br_t (nI_le (a := 32) (by omega) (by omega)) hpost
    | succ m ih =>
      apply hX
      unfold wp_Pl_forkSpot_B2
      refine br_f (nI_ge (b := 32) (by omega) (by decide)) ?_
      rw [e33, q_pl f st (by omega)]
      unfold qFk at hpost
      obtain ⟨p, hpd⟩ : ∃ p, p = (f + st) % 32 := ⟨_, rfl⟩
      rw [← hpd] at hpost ⊢
      have hp32 : p < 32 := by omega
      have e1 : (nI p + 1) &&& 31 = nI ((p + 1) % 32) := q_pl p 1 (by omega)
      have nxt : ¬ (fr p && fr ((p + 1) % 32)) = true → ¬ (fr (32 + p) && fr (32 + (p + 1) % 32)) = true → X σ α (nI (st + 1)) := by
        intro z0 z1
        rw [if_neg z0, if_neg z1] at hpost
        exact ih (st + 1) (by omega) hpost
      intro Y hY
      -- line 0
      apply hY
      unfold wp_Pl_forkSpot_B20 wp_Pl_forkSpot_J55
      rw [io1]
      refine br_f (by decide) ?_
      have L1 : ¬ (fr p && fr ((p + 1) % 32)) = true → Y σ α (nI st) (nI p) 1 := by
        intro z0
        apply hY
        unfold wp_Pl_forkSpot_B20 wp_Pl_forkSpot_J55
        rw [io1]
        refine br_f (by decide) ?_
        have L2 : ¬ (fr (32 + p) && fr (32 + (p + 1) % 32)) = true → Y σ α (nI st) (nI p) 2 := by
          intro z1
          apply hY
          unfold wp_Pl_forkSpot_B20 wp_Pl_forkSpot_J55
          rw [io1, nI_1]
          exact br_t (by decide) (nxt z0 z1)
        refine x_isFree (l := 1) hf (by decide) hp32 (fun z => ?_) (fun z => ?_)
        · refine br_f (by decide) ?_
          rw [e1]
          refine x_isFree (l := 1) hf (by decide) (by omega) (fun y => ?_) (fun y => ?_)
          · have zz : (fr (32 + p) && fr (32 + (p + 1) % 32)) = true := Bool.and_eq_true_iff.mpr ⟨z, y⟩
            rw [if_neg z0, if_pos zz] at hpost
            refine br_f (by decide) ?_
            show post (nI 1 * 32 + nI p) (σ, α)
            rw [q_idx, show 32 * 1 + p = 32 + p by omega]
            exact hpost
          · exact br_t rfl (L2 (fun w => y (Bool.and_eq_true_iff.mp w).2))
        · exact br_t rfl (L2 (fun w => z (Bool.and_eq_true_iff.mp w).1))
      refine x_isFree (l := 0) hf (by decide) hp32 (fun z => ?_) (fun z => ?_)
      · refine br_f (by decide) ?_
        rw [e1]
        rw [show 32 * 0 + p = p by omega] at z
        refine x_isFree (l := 0) hf (by decide) (by omega) (fun y => ?_) (fun y => ?_)
        · rw [show 32 * 0 + (p + 1) % 32 = (p + 1) % 32 by omega] at y
          have zz : (fr p && fr ((p + 1) % 32)) = true := Bool.and_eq_true_iff.mpr ⟨z, y⟩
          rw [if_pos zz] at hpost
          refine br_f (by decide) ?_
          show post (nI 0 * 32 + nI p) (σ, α)
          rw [q_idx, show 32 * 0 + p = p by omega]
          exact hpost
        · rw [show 32 * 0 + (p + 1) % 32 = (p + 1) % 32 by omega] at y
          exact br_t rfl (L1 (fun w => y (Bool.and_eq_true_iff.mp w).2))
      · rw [show 32 * 0 + p = p by omega] at z
        exact br_t rfl (L1 (fun w => z (Bool.and_eq_true_iff.mp w).1))
  exact key 31 1 (by omega) hp
theorem m_free {post : Int32 → gS → Prop} {f : Nat} (hf : ∀ q, q < 64 → (β 17 q = 0 ↔ fr q = true)) (h33 : f < 2 ^ 20) (hp : post (qOp (qFs fr 32 f)) (μ, β)) : wp_Md_free μ β (nI f) 0 post := by
  unfold wp_Md_free
  have key : ∀ (m st : Nat), st + m = 32 → post (qOp (qFs fr m (f + st))) (μ, β) → wp_Md_free_L2 μ β (nI f) 0 (nI st) post := by
    intro m st hst hpost X hX
    induction m generalizing st with
    | zero =>
      apply hX
      unfold wp_Md_free_B2 wp_Md_free_J14
      exact br_t rfl (br_t (nI_le (a := 32) (by omega) (by omega)) hpost)
    | succ m ih =>
      apply hX
      unfold wp_Md_free_B2 wp_Md_free_J14
      refine br_t rfl (br_f (nI_ge (b := 32) (by omega) (by decide)) (br_t rfl ?_))
      rw [q_pl f st (by omega)]
      unfold qFs at hpost
      obtain ⟨p, hpd⟩ : ∃ p, p = (f + st) % 32 := ⟨_, rfl⟩
      rw [← hpd] at hpost ⊢
      have hp32 : p < 32 := by omega
      have e32 : 32 + nI p = nI (32 + p) := nI_add 32 p
      unfold wp_Md_free_J41 wp_Md_free_J66 wp_Md_free_J98
      rw [e32, nI_clamp (by omega), nI_clamp (by omega), io1, nI_1]
      have v0 : vp_in (nI p) 64 := vp_in_nI (by omega) (by decide)
      have v1 : vp_in (nI (32 + p)) 64 := vp_in_nI (by omega) (by decide)
      by_cases z0 : fr p = true
      · rw [if_pos z0] at hpost
        have y0 := (hf p (by omega)).mpr z0
        exact ⟨v0, bs_t y0 ⟨v0, bs_t y0 hpost⟩⟩
      · have y0 : ¬ β 17 p = 0 := fun w => z0 ((hf p (by omega)).mp w)
        refine ⟨v0, bs_f y0 ?_⟩
        rw [if_neg z0] at hpost
        by_cases z1 : fr (32 + p) = true
        · rw [if_pos z1] at hpost
          have y1 := (hf (32 + p) (by omega)).mpr z1
          exact ⟨v1, bs_t y1 ⟨v1, bs_t y1 hpost⟩⟩
        · have y1 : ¬ β 17 (32 + p) = 0 := fun w => z1 ((hf (32 + p) (by omega)).mp w)
          rw [if_neg z1] at hpost
          exact ⟨v1, bs_f y1 (ih (st + 1) (by omega) hpost)⟩
  exact key 32 0 (by omega) hp
theorem m_fork {post : Int32 → gS → Prop} {f : Nat} (hf : ∀ q, q < 64 → (β 17 q = 0 ↔ fr q = true)) (h33 : f < 2 ^ 20) (hp : post (qOp (qFk fr 31 f)) (μ, β)) : wp_Md_free μ β (nI f) 1 post := by
  unfold wp_Md_free
  have key : ∀ (m st : Nat), st + m = 31 → post (qOp (qFk fr m (f + st))) (μ, β) → wp_Md_free_L2 μ β (nI f) 1 (nI st) post := by
    intro m st hst hpost X hX
    induction m generalizing st with
    | zero =>
      apply hX
      unfold wp_Md_free_B2 wp_Md_free_J14
      exact br_f (by decide) (br_t (nI_le (a := 31) (by omega) (by omega)) hpost)
    | succ m ih =>
      apply hX
      unfold wp_Md_free_B2 wp_Md_free_J14
      refine br_f (by decide) (br_f (nI_ge (b := 31) (by omega) (by decide)) (br_f (by decide) ?_))
      rw [q_pl f st (by omega)]
      unfold qFk at hpost
      obtain ⟨p, hpd⟩ : ∃ p, p = (f + st) % 32 := ⟨_, rfl⟩
      rw [← hpd] at hpost ⊢
      have hp32 : p < 32 := by omega
      obtain ⟨q, hqd⟩ : ∃ q, q = (p + 1) % 32 := ⟨_, rfl⟩
      have e1 : (nI p + 1) &&& 31 = nI q := by rw [hqd]; exact q_pl p 1 (by omega)
      rw [← hqd] at hpost
      have hq32 : q < 32 := by omega
      have e32 : 32 + nI p = nI (32 + p) := nI_add 32 p
      have e33 : 32 + nI q = nI (32 + q) := nI_add 32 q
      unfold wp_Md_free_J41 wp_Md_free_J66 wp_Md_free_J98
      rw [e1, e32, e33, nI_clamp (by omega), nI_clamp (by omega), nI_clamp (by omega), nI_clamp (by omega), io1, nI_1]
      have v0 : vp_in (nI p) 64 := vp_in_nI (by omega) (by decide)
      have w0 : vp_in (nI q) 64 := vp_in_nI (by omega) (by decide)
      have v1 : vp_in (nI (32 + p)) 64 := vp_in_nI (by omega) (by decide)
      have w1 : vp_in (nI (32 + q)) 64 := vp_in_nI (by omega) (by decide)
      have L1 : ¬ (fr p && fr q) = true → vp_in (nI (32 + p)) 64 ∧ ((¬ β 17 (32 + p) = 0 → X μ β (nI f) 1 (nI (st + 1))) ∧ (β 17 (32 + p) = 0 → vp_in (nI (32 + q)) 64 ∧ ((¬ β 17 (32 + q) = 0 → X μ β (nI f) 1 (nI (st + 1))) ∧ (β 17 (32 + q) = 0 → post (nI (32 + p)) (μ, β))))) := by
        intro z0
        rw [if_neg z0] at hpost
        refine ⟨v1, fun z => ?_, fun z => ⟨w1, fun y => ?_, fun y => ?_⟩⟩
        · rw [if_neg (fun w => z ((hf (32 + p) (by omega)).mpr (Bool.and_eq_true_iff.mp w).1))] at hpost
          exact ih (st + 1) (by omega) hpost
        · rw [if_neg (fun w => y ((hf (32 + q) (by omega)).mpr (Bool.and_eq_true_iff.mp w).2))] at hpost
          exact ih (st + 1) (by omega) hpost
        · rw [if_pos (Bool.and_eq_true_iff.mpr ⟨(hf (32 + p) (by omega)).mp z, (hf (32 + q) (by omega)).mp y⟩)] at hpost
          exact hpost
      refine ⟨v0, fun z => L1 (fun w => z ((hf p (by omega)).mpr (Bool.and_eq_true_iff.mp w).1)), fun z => ⟨w0, fun y => L1 (fun w => y ((hf q (by omega)).mpr (Bool.and_eq_true_iff.mp w).2)), fun y => ?_⟩⟩
      rw [if_pos (Bool.and_eq_true_iff.mpr ⟨(hf p (by omega)).mp z, (hf q (by omega)).mp y⟩)] at hpost
      exact hpost
  exact key 31 0 (by omega) hp
end PH
end
section
-- pure rows: where a variable goes, on both sides
def qCt (f : Nat → Bool) : Nat → Nat
  | 0 => 0
  | m + 1 => qCt f m + (if f m then 1 else 0)
theorem qCt_le (f : Nat → Bool) : ∀ m, qCt f m ≤ m := by
  intro m
  induction m with
  | zero => exact Nat.le_refl 0
  | succ m ih =>
    unfold qCt
    split <;> omega
theorem qCt_all {f : Nat → Bool} : ∀ m, (∀ i, i < m → f i = true) → qCt f m = m := by
  intro m
  induction m with
  | zero => intro _; rfl
  | succ m ih =>
    intro h
    unfold qCt
    rw [ih (fun i hi => h i (by omega)), h m (by omega)]
    rfl
theorem qCt_out {f : Nat → Bool} {i : Nat} {b : Bool} : ∀ m, m ≤ i → qCt (va_up f i b) m = qCt f m := by
  intro m
  induction m with
  | zero => intro _; rfl
  | succ m ih =>
    intro h
    unfold qCt
    rw [ih (by omega), va_up_ne f b (by omega)]
theorem qCt_up {f : Nat → Bool} {i : Nat} : ∀ m, i < m → f i = false → qCt (va_up f i true) m = qCt f m + 1 := by
  intro m
  induction m with
  | zero => intro h; omega
  | succ m ih =>
    intro h hf
    unfold qCt
    by_cases z : i = m
    · subst z
      rw [qCt_out i (Nat.le_refl i), va_up_self, hf]
      rfl
    · rw [ih (by omega) hf, va_up_ne f true (fun y => z y.symm)]
      omega
theorem qCt_same {f : Nat → Bool} {i : Nat} (h : f i = true) : va_up f i true = f := by
  rw [← h]
  exact q_upself f i
/-- the first place from pos on that is not held -/
def qVf (hb : Nat → Bool) : Nat → Nat → Option Nat
  | 0, _ => none
  | m + 1, pos => if hb (pos % 32) then qVf hb m (pos + 1) else some (pos % 32)
theorem qVf_none {hb : Nat → Bool} : ∀ (m pos : Nat), qVf hb m pos = none → ∀ i, i < m → hb ((pos + i) % 32) = true := by
  intro m
  induction m with
  | zero => intro pos _ i hi; omega
  | succ m ih =>
    intro pos h i hi
    unfold qVf at h
    split at h
    · rename_i z
      rcases Nat.eq_zero_or_pos i with y | y
      · rw [y]
        exact z
      · have := ih (pos + 1) h (i - 1) (by omega)
        rw [show pos + 1 + (i - 1) = pos + i by omega] at this
        exact this
    · cases h
theorem qVf_lt {hb : Nat → Bool} : ∀ (m pos p : Nat), qVf hb m pos = some p → p < 32 ∧ hb p = false := by
  intro m
  induction m with
  | zero => intro pos p h; cases h
  | succ m ih =>
    intro pos p h
    unfold qVf at h
    split at h
    · exact ih _ _ h
    · rename_i z
      cases h
      refine ⟨by omega, ?_⟩
      cases y : hb (pos % 32)
      · rfl
      · exact absurd y z
theorem qVf_some {hb : Nat → Bool} (h : qCt hb 32 < 32) (pos : Nat) : ∃ p, qVf hb 32 pos = some p := by
  cases e : qVf hb 32 pos with
  | some p => exact ⟨p, rfl⟩
  | none =>
    exfalso
    have a := qVf_none 32 pos e
    have b : qCt hb 32 = 32 := by
      refine qCt_all 32 (fun p hp => ?_)
      have := a ((p + 32 - pos % 32) % 32) (by omega)
      rw [show (pos + (p + 32 - pos % 32) % 32) % 32 = p by omega] at this
      exact this
    omega
section PI
variable {σ μ : Nat → Int32} {α β : Nat → Nat → Int32} {hb : Nat → Bool}
theorem x_varOld {post : Int32 → gS → Prop} {v w : Nat} (hv : v < 16) (h : ¬ α 27 v = -1) (hp : post (α 27 v) (σ, α)) : wp_Pl_variablePlace σ α (nI v) (nI w) post := by
  unfold wp_Pl_variablePlace
  intro X hX
  apply hX
  unfold wp_Pl_variablePlace_B2 wp_Pl_variablePlace_J59
  rw [nI_clamp (by omega)]
  exact br_f (by decide) ⟨vp_in_nI (by omega) (by decide), bs_f h ⟨vp_in_nI (by omega) (by decide), hp⟩⟩
theorem x_varNew {post : Int32 → gS → Prop} {v w p : Nat} (hv : v < 16) (hw : w < 32) (hh : ∀ q, q < 32 → (α 26 q = -1 ↔ hb q = false)) (h : α 27 v = -1) (hq : qVf hb 32 w = some p) (hp : post (nI p) (σ, va_up (va_up α 26 (upd (α 26) p (nI v))) 27 (upd (α 27) v (nI p)))) : wp_Pl_variablePlace σ α (nI v) (nI w) post := by
  unfold wp_Pl_variablePlace
  have hp32 := (qVf_lt _ _ _ hq).1
  have vv : vp_in (nI v) 16 := vp_in_nI (by omega) (by decide)
  have key : ∀ (m st : Nat), st + m = 32 → qVf hb m (w + st) = some p → wp_Pl_variablePlace_L2 σ α (nI v) (nI w) (nI st) post := by
    intro m st hst hqm X hX
    induction m generalizing st with
    | zero => cases hqm
    | succ m ih =>
      apply hX
      unfold wp_Pl_variablePlace_B2 wp_Pl_variablePlace_J53
      rw [q_pl w st (by omega), nI_clamp (by omega), nI_clamp (by omega), io1, nI_1]
      have vq : vp_in (nI ((w + st) % 32)) 32 := vp_in_nI (by omega) (by decide)
      refine br_f (nI_ge (b := 32) (by omega) (by decide)) ⟨vv, bs_t h ⟨vq, fun z => ?_, fun z => ⟨vq, vv, ?_⟩⟩⟩
      · unfold qVf at hqm
        have y : hb ((w + st) % 32) = true := by
          cases e : hb ((w + st) % 32)
          · exact absurd ((hh _ (by omega)).mpr e) z
          · rfl
        rw [if_pos y] at hqm
        exact ih (st + 1) (by omega) hqm
      · unfold qVf at hqm
        have y : ¬ hb ((w + st) % 32) = true := by
          rw [(hh _ (by omega)).mp z]
          decide
        rw [if_neg y] at hqm
        have e : (w + st) % 32 = p := Option.some.inj hqm
        rw [e]
        have fin : wp_Pl_variablePlace_J59 σ (va_up (va_up α 26 (upd (α 26) p (nI v))) 27 (upd (α 27) v (nI p))) (nI v) post := by
          unfold wp_Pl_variablePlace_J59
          rw [nI_clamp (by omega)]
          refine ⟨vv, ?_⟩
          show post (upd (α 27) v (nI p) v) _
          rw [pk_us]
          exact hp
        apply hX
        unfold wp_Pl_variablePlace_B2
        refine ⟨fun _ => fin, fun _ => ⟨vv, bs_f ?_ fin⟩⟩
        rw [nI_clamp (by omega)]
        show ¬ upd (α 27) v (nI p) v = -1
        rw [pk_us]
        intro z2
        have := nI_pos (n := p) (by omega)
        rw [z2] at this
        exact this (by decide)
  exact key 32 0 (by omega) hq
theorem m_varOld {post : Int32 → gS → Prop} {v w p : Nat} (hv : v < 16) (hp32 : p < 32) (h : β 19 v = nI p) (hp : post (nI p) (μ, va_up β 18 (upd (β 18) p (vp_nar .boolean 1)))) : wp_Md_variableFrom μ β (nI v) (nI w) post := by
  unfold wp_Md_variableFrom
  intro X hX
  apply hX
  unfold wp_Md_variableFrom_B5
  have vv : vp_in (nI v) 16 := vp_in_nI (by omega) (by decide)
  rw [nI_clamp (by omega), h, nI_clamp (by omega)]
  exact ⟨vv, br_t (nI_pos' (by omega)) ⟨vv, vp_in_nI hp32 (by decide), vv, hp⟩⟩
theorem m_varNew {post : Int32 → gS → Prop} {v w p : Nat} (hv : v < 16) (hw : w < 2 ^ 20) (hh : ∀ q, q < 32 → (β 18 q = 0 ↔ hb q = false)) (h : β 19 v = -1) (hq : qVf hb 32 w = some p) (hp : post (nI p) (μ, va_up (va_up β 19 (upd (β 19) v (nI p))) 18 (upd (β 18) p (vp_nar .boolean 1)))) : wp_Md_variableFrom μ β (nI v) (nI w) post := by
  unfold wp_Md_variableFrom
  have hp32 := (qVf_lt _ _ _ hq).1
  have vv : vp_in (nI v) 16 := vp_in_nI (by omega) (by decide)
  have key : ∀ (m pos : Nat), pos + m < 2 ^ 21 → qVf hb m pos = some p → wp_Md_variableFrom_L5 μ β (nI v) (nI (pos % 32)) post := by
    intro m pos hm hqm X hX
    induction m generalizing pos with
    | zero => cases hqm
    | succ m ih =>
      apply hX
      unfold wp_Md_variableFrom_B5 wp_Md_variableFrom_J30
      have e1 : (nI (pos % 32) + 1) &&& 31 = nI ((pos + 1) % 32) := by
        have := q_pl (pos % 32) 1 (by omega)
        rw [show (pos % 32 + 1) % 32 = (pos + 1) % 32 by omega] at this
        exact this
      have vq : vp_in (nI (pos % 32)) 32 := vp_in_nI (by omega) (by decide)
      rw [e1, nI_clamp (by omega), nI_clamp (by omega), h]
      refine ⟨vv, br_f (by decide) ⟨vq, fun z => ?_, fun z => ⟨vv, ?_⟩⟩⟩
      · unfold qVf at hqm
        have y : hb (pos % 32) = true := by
          cases e : hb (pos % 32)
          · exact absurd ((hh _ (by omega)).mpr e) z
          · rfl
        rw [if_pos y] at hqm
        exact ih (pos + 1) (by omega) hqm
      · unfold qVf at hqm
        have y : ¬ hb (pos % 32) = true := by
          rw [(hh _ (by omega)).mp z]
          decide
        rw [if_neg y] at hqm
        have e : pos % 32 = p := Option.some.inj hqm
        rw [e]
        apply hX
        unfold wp_Md_variableFrom_B5
        rw [nI_clamp (by omega)]
        have eb : (va_up β 19 (upd (β 19) v (nI p))) 19 v = nI p := pk_us
        rw [eb, nI_clamp (by omega)]
        exact ⟨vv, br_t (nI_pos' (by omega)) ⟨vv, vp_in_nI hp32 (by decide), vv, hp⟩⟩
  have t := key 32 w (by omega) hq
  rw [q_a31 (by omega)]
  exact t
end PI
end
section
-- pure rows: the list of orders that the second side makes
def qLn (x : Int32) : Nat := if x = 0 ∨ x = 1 ∨ x = 4 then 3 else if x = 2 then 2 else 1
def qOff (o : Nat → Int32) : Nat → Nat
  | 0 => 0
  | j + 1 => qOff o j + qLn (o j)
theorem qLn_in (x : Int32) : 1 ≤ qLn x ∧ qLn x ≤ 3 := by
  unfold qLn
  split
  · omega
  · split <;> omega
theorem qOff_le (o : Nat → Int32) : ∀ j, qOff o j ≤ 3 * j ∧ j ≤ qOff o j := by
  intro j
  induction j with
  | zero => exact ⟨Nat.le_refl 0, Nat.le_refl 0⟩
  | succ j ih =>
    have := qLn_in (o j)
    unfold qOff
    omega
theorem qOff_mono (o : Nat → Int32) {i j : Nat} (h : i ≤ j) : qOff o i ≤ qOff o j := by
  induction h with
  | refl => exact Nat.le_refl _
  | step h ih =>
    refine Nat.le_trans ih ?_
    show _ ≤ qOff o _ + _
    exact Nat.le_add_right _ _
def qAt (es eg eo ew : Nat → Int32) (i : Nat) (s g v w : Int32) : Prop := es i = s ∧ eg i = g ∧ eo i = v ∧ ew i = w
def rLs (o a b c es eg eo ew : Nat → Int32) (j : Nat) : Prop :=
  (o j = 0 → qAt es eg eo ew (qOff o j) 2 6 (a j) (nI j) ∧ qAt es eg eo ew (qOff o j + 1) 2 9 (b j) (nI j) ∧ qAt es eg eo ew (qOff o j + 2) 6 2 (c j) (nI j)) ∧
  (o j = 1 → qAt es eg eo ew (qOff o j) 2 6 (a j) (nI j) ∧ qAt es eg eo ew (qOff o j + 1) 2 10 (b j) (nI j) ∧ qAt es eg eo ew (qOff o j + 2) 6 2 (c j) (nI j)) ∧
  (o j = 2 → qAt es eg eo ew (qOff o j) 2 6 (a j) (nI j) ∧ qAt es eg eo ew (qOff o j + 1) 6 2 (c j) (nI j)) ∧
  (o j = 3 → qAt es eg eo ew (qOff o j) 2 15 (a j) (nI j)) ∧
  (o j = 4 → qAt es eg eo ew (qOff o j) 2 11 (a j) (nI j) ∧ qAt es eg eo ew (qOff o j + 1) 0 0 (-1) (nI j) ∧ qAt es eg eo ew (qOff o j + 2) 0 0 (-1) (nI j)) ∧
  (o j = 5 → qAt es eg eo ew (qOff o j) 13 2 (c j) (nI j)) ∧
  (o j = 6 → qAt es eg eo ew (qOff o j) 0 1 (-1) (nI j))
def qB (β : Nat → Nat → Int32) (es eg eo ew : Nat → Int32) : Nat → Nat → Int32 := va_up (va_up (va_up (va_up β 11 es) 12 eg) 13 eo) 14 ew
theorem qB_up (β : Nat → Nat → Int32) (es eg eo ew es' eg' eo' ew' : Nat → Int32) : va_up (va_up (va_up (va_up (qB β es eg eo ew) 11 es') 12 eg') 13 eo') 14 ew' = qB β es' eg' eo' ew' := by
  funext k
  simp only [qB, va_up]
  repeat' split
  all_goals first | rfl | omega
theorem qB_id (β : Nat → Nat → Int32) : qB β (β 11) (β 12) (β 13) (β 14) = β := by
  funext k
  simp only [qB, va_up]
  repeat' split
  all_goals first | rfl | (rename_i h; rw [h])
theorem qAt_up {es eg eo ew : Nat → Int32} {i k : Nat} {s g v w s' g' v' w' : Int32} (h : qAt es eg eo ew i s g v w) (hi : i ≠ k) : qAt (upd es k s') (upd eg k g') (upd eo k v') (upd ew k w') i s g v w := by
  obtain ⟨h1, h2, h3, h4⟩ := h
  exact ⟨by rw [pk_un hi]; exact h1, by rw [pk_un hi]; exact h2, by rw [pk_un hi]; exact h3, by rw [pk_un hi]; exact h4⟩
theorem qAt_new (es eg eo ew : Nat → Int32) (k : Nat) (s g v w : Int32) : qAt (upd es k s) (upd eg k g) (upd eo k v) (upd ew k w) k s g v w := ⟨pk_us, pk_us, pk_us, pk_us⟩
section PJ
variable {μ : Nat → Int32} {β : Nat → Nat → Int32}
theorem m_list {post : gS → Prop} {es eg eo ew : Nat → Int32} {i : Nat} {s g v w : Int32} (hi : i < 64) (hp : post (va_up μ 24 (nI (i + 1)), qB β (upd es i s) (upd eg i g) (upd eo i v) (upd ew i w))) : wp_Md_list (va_up μ 24 (nI i)) (qB β es eg eo ew) s g v w post := by
  unfold wp_Md_list
  have vi : vp_in (nI i) 64 := vp_in_nI hi (by decide)
  refine ⟨vi, vi, vi, vi, ?_⟩
  show post (va_up (va_up μ 24 (nI i)) 24 (nI i + 1), va_up (va_up (va_up (va_up (qB β es eg eo ew) 11 (upd es (nI i).toNatClampNeg s)) 12 (upd eg (nI i).toNatClampNeg g)) 13 (upd eo (nI i).toNatClampNeg v)) 14 (upd ew (nI i).toNatClampNeg w))
  rw [bx_uu, nI_1, nI_clamp (by omega), qB_up]
  exact hp
/-- what stays when entries come behind -/
def qKeep (k : Nat) (es eg eo ew es' eg' eo' ew' : Nat → Int32) : Prop := ∀ i, i < k → ∀ s g v w, qAt es eg eo ew i s g v w → qAt es' eg' eo' ew' i s g v w
theorem rLs_keep {o a b c es eg eo ew es' eg' eo' ew' : Nat → Int32} {j k : Nat} (hk : qOff o (j + 1) ≤ k) (hq : qKeep k es eg eo ew es' eg' eo' ew') (h : rLs o a b c es eg eo ew j) : rLs o a b c es' eg' eo' ew' j := by
  have hl : ∀ x : Int32, o j = x → qOff o j + qLn x ≤ k := fun x e => by rw [← e]; exact hk
  obtain ⟨h0, h1, h2, h3, h4, h5, h6⟩ := h
  refine ⟨fun e => ?_, fun e => ?_, fun e => ?_, fun e => ?_, fun e => ?_, fun e => ?_, fun e => ?_⟩
  · have l := hl _ e
    rw [show qLn 0 = 3 by decide] at l
    obtain ⟨x, y, z⟩ := h0 e
    exact ⟨hq _ (by omega) _ _ _ _ x, hq _ (by omega) _ _ _ _ y, hq _ (by omega) _ _ _ _ z⟩
  · have l := hl _ e
    rw [show qLn 1 = 3 by decide] at l
    obtain ⟨x, y, z⟩ := h1 e
    exact ⟨hq _ (by omega) _ _ _ _ x, hq _ (by omega) _ _ _ _ y, hq _ (by omega) _ _ _ _ z⟩
  · have l := hl _ e
    rw [show qLn 2 = 2 by decide] at l
    obtain ⟨x, y⟩ := h2 e
    exact ⟨hq _ (by omega) _ _ _ _ x, hq _ (by omega) _ _ _ _ y⟩
  · have l := hl _ e
    rw [show qLn 3 = 1 by decide] at l
    exact hq _ (by omega) _ _ _ _ (h3 e)
  · have l := hl _ e
    rw [show qLn 4 = 3 by decide] at l
    obtain ⟨x, y, z⟩ := h4 e
    exact ⟨hq _ (by omega) _ _ _ _ x, hq _ (by omega) _ _ _ _ y, hq _ (by omega) _ _ _ _ z⟩
  · have l := hl _ e
    rw [show qLn 5 = 1 by decide] at l
    exact hq _ (by omega) _ _ _ _ (h5 e)
  · have l := hl _ e
    rw [show qLn 6 = 1 by decide] at l
    exact hq _ (by omega) _ _ _ _ (h6 e)
/-- one statement is listed -/
theorem m_listEx {s j : Nat} {es eg eo ew : Nat → Int32} (hs : s ≤ 12) (hj : j < s) (e23 : μ 23 = nI s) (hop : ∃ k : Nat, k < 7 ∧ β 6 j = nI k) : ∃ es1 eg1 eo1 ew1 : Nat → Int32, qKeep (qOff (β 6) j) es eg eo ew es1 eg1 eo1 ew1 ∧ rLs (β 6) (β 7) (β 8) (β 9) es1 eg1 eo1 ew1 j ∧ ∀ (XL : (Nat → Int32) → (Nat → Nat → Int32) → Int32 → Prop) (post : gS → Prop), XL (va_up μ 24 (nI (qOff (β 6) (j + 1)))) (qB β es1 eg1 eo1 ew1) (nI (j + 1)) → wp_Md_listAll_B7 XL (va_up μ 24 (nI (qOff (β 6) j))) (qB β es eg eo ew) (nI j) post := by
  obtain ⟨k, hk, ek⟩ := hop
  have ho := (qOff_le (β 6) j).1
  have vj : vp_in (nI j) 12 := vp_in_nI (by omega) (by decide)
  have hlen : qOff (β 6) (j + 1) = qOff (β 6) j + qLn (β 6 j) := rfl
  obtain ⟨i, hi⟩ : ∃ i, i = qOff (β 6) j := ⟨_, rfl⟩
  rw [← hi] at ho hlen ⊢
  have i60 : i < 60 := by omega
  have cl : (nI j).toNatClampNeg = j := nI_clamp (by omega)
  have n7 : (nI j + Int32.ofInt 1 : Int32) = nI (j + 1) := by rw [io1, nI_1]
  have H : ∀ (XL : (Nat → Int32) → (Nat → Nat → Int32) → Int32 → Prop) (post : gS → Prop), ((β 6 j = 0 → wp_Md_listAll_J80 XL (va_up μ 24 (nI i)) (qB β es eg eo ew) (nI j) (β 7 j) (β 8 j) (β 9 j) post) ∧ (β 6 j = 1 → wp_Md_listAll_J80 XL (va_up μ 24 (nI i)) (qB β es eg eo ew) (nI j) (β 7 j) (β 8 j) (β 9 j) post) ∧ (β 6 j = 2 → wp_Md_list (va_up μ 24 (nI i)) (qB β es eg eo ew) 2 6 (β 7 j) (nI j) (fun u131 => wp_Md_list u131.1 u131.2 6 2 (β 9 j) (nI j) (fun u141 => wp_Md_listAll_J208 XL u141.1 u141.2 (nI j) post))) ∧ (β 6 j = 3 → wp_Md_list (va_up μ 24 (nI i)) (qB β es eg eo ew) 2 15 (β 7 j) (nI j) (fun u153 => wp_Md_listAll_J208 XL u153.1 u153.2 (nI j) post)) ∧ (β 6 j = 4 → wp_Md_list (va_up μ 24 (nI i)) (qB β es eg eo ew) 2 11 (β 7 j) (nI j) (fun u165 => wp_Md_list u165.1 u165.2 0 0 (-1) (nI j) (fun u173 => wp_Md_list u173.1 u173.2 0 0 (-1) (nI j) (fun u181 => wp_Md_listAll_J208 XL u181.1 u181.2 (nI j) post)))) ∧ (β 6 j = 5 → wp_Md_list (va_up μ 24 (nI i)) (qB β es eg eo ew) 13 2 (β 9 j) (nI j) (fun u194 => wp_Md_listAll_J208 XL u194.1 u194.2 (nI j) post)) ∧ ((β 6 j).toInt < 0 ∨ 5 < (β 6 j).toInt → wp_Md_list (va_up μ 24 (nI i)) (qB β es eg eo ew) 0 1 (-1) (nI j) (fun u205 => wp_Md_listAll_J208 XL u205.1 u205.2 (nI j) post))) → wp_Md_listAll_B7 XL (va_up μ 24 (nI i)) (qB β es eg eo ew) (nI j) post := by
    intro XL post hp
    unfold wp_Md_listAll_B7
    rw [cl]
    refine br_f ?_ ⟨vj, vj, vj, vj, hp⟩
    show ¬ μ 23 ≤ nI j
    rw [e23]
    exact nI_ge hj (by omega)
  have no : ∀ (x y : Int32) (P : Prop), β 6 j = x → ¬ x = y → β 6 j = y → P := fun x y P h1 h2 h3 => absurd (h1.symm.trans h3) h2
  rcases (show k = 0 ∨ k = 1 ∨ k = 2 ∨ k = 3 ∨ k = 4 ∨ k = 5 ∨ k = 6 by omega) with rfl | rfl | rfl | rfl | rfl | rfl | rfl
  · have e : β 6 j = 0 := ek
    rw [e, show qLn 0 = 3 by decide] at hlen
    refine ⟨(upd (upd (upd es i 2) (i + 1) 2) (i + 2) 6), (upd (upd (upd eg i 6) (i + 1) 9) (i + 2) 2), (upd (upd (upd eo i (β 7 j)) (i + 1) (β 8 j)) (i + 2) (β 9 j)), (upd (upd (upd ew i (nI j)) (i + 1) (nI j)) (i + 2) (nI j)), fun a ha s g v w h => (qAt_up (qAt_up (qAt_up h (by omega)) (by omega)) (by omega)), ?_, ?_⟩
    · unfold rLs
      rw [← hi]
      exact ⟨fun _ => ⟨(qAt_up (qAt_up (qAt_new _ _ _ _ _ _ _ _ _) (by omega)) (by omega)), (qAt_up (qAt_new _ _ _ _ _ _ _ _ _) (by omega)), (qAt_new _ _ _ _ _ _ _ _ _)⟩, fun z => absurd (e.symm.trans z) (by decide), fun z => absurd (e.symm.trans z) (by decide), fun z => absurd (e.symm.trans z) (by decide), fun z => absurd (e.symm.trans z) (by decide), fun z => absurd (e.symm.trans z) (by decide), fun z => absurd (e.symm.trans z) (by decide)⟩
    · intro XL post K
      rw [hlen] at K
      refine H XL post ⟨fun _ => ?_, no 0 1 _ e (by decide), no 0 2 _ e (by decide), no 0 3 _ e (by decide), no 0 4 _ e (by decide), no 0 5 _ e (by decide), fun z => absurd z (by rw [e]; decide)⟩
      unfold wp_Md_listAll_J80
      refine m_list (i := i) (by omega) ?_
      refine ⟨vj, ?_⟩
      rw [cl]
      refine bs_t e ?_
      unfold wp_Md_listAll_J107
      refine m_list (i := i + 1) (by omega) ?_
      refine m_list (i := i + 2) (by omega) ?_
      unfold wp_Md_listAll_J208
      rw [n7]
      exact K
  · have e : β 6 j = 1 := ek
    rw [e, show qLn 1 = 3 by decide] at hlen
    refine ⟨(upd (upd (upd es i 2) (i + 1) 2) (i + 2) 6), (upd (upd (upd eg i 6) (i + 1) 10) (i + 2) 2), (upd (upd (upd eo i (β 7 j)) (i + 1) (β 8 j)) (i + 2) (β 9 j)), (upd (upd (upd ew i (nI j)) (i + 1) (nI j)) (i + 2) (nI j)), fun a ha s g v w h => (qAt_up (qAt_up (qAt_up h (by omega)) (by omega)) (by omega)), ?_, ?_⟩
    · unfold rLs
      rw [← hi]
      exact ⟨fun z => absurd (e.symm.trans z) (by decide), fun _ => ⟨(qAt_up (qAt_up (qAt_new _ _ _ _ _ _ _ _ _) (by omega)) (by omega)), (qAt_up (qAt_new _ _ _ _ _ _ _ _ _) (by omega)), (qAt_new _ _ _ _ _ _ _ _ _)⟩, fun z => absurd (e.symm.trans z) (by decide), fun z => absurd (e.symm.trans z) (by decide), fun z => absurd (e.symm.trans z) (by decide), fun z => absurd (e.symm.trans z) (by decide), fun z => absurd (e.symm.trans z) (by decide)⟩
    · intro XL post K
      rw [hlen] at K
      refine H XL post ⟨no 1 0 _ e (by decide), fun _ => ?_, no 1 2 _ e (by decide), no 1 3 _ e (by decide), no 1 4 _ e (by decide), no 1 5 _ e (by decide), fun z => absurd z (by rw [e]; decide)⟩
      unfold wp_Md_listAll_J80
      refine m_list (i := i) (by omega) ?_
      refine ⟨vj, ?_⟩
      rw [cl]
      refine bs_f (fun z => absurd (e.symm.trans z) (by decide)) ?_
      unfold wp_Md_listAll_J107
      refine m_list (i := i + 1) (by omega) ?_
      refine m_list (i := i + 2) (by omega) ?_
      unfold wp_Md_listAll_J208
      rw [n7]
      exact K
  · have e : β 6 j = 2 := ek
    rw [e, show qLn 2 = 2 by decide] at hlen
    refine ⟨(upd (upd es i 2) (i + 1) 6), (upd (upd eg i 6) (i + 1) 2), (upd (upd eo i (β 7 j)) (i + 1) (β 9 j)), (upd (upd ew i (nI j)) (i + 1) (nI j)), fun a ha s g v w h => (qAt_up (qAt_up h (by omega)) (by omega)), ?_, ?_⟩
    · unfold rLs
      rw [← hi]
      exact ⟨fun z => absurd (e.symm.trans z) (by decide), fun z => absurd (e.symm.trans z) (by decide), fun _ => ⟨(qAt_up (qAt_new _ _ _ _ _ _ _ _ _) (by omega)), (qAt_new _ _ _ _ _ _ _ _ _)⟩, fun z => absurd (e.symm.trans z) (by decide), fun z => absurd (e.symm.trans z) (by decide), fun z => absurd (e.symm.trans z) (by decide), fun z => absurd (e.symm.trans z) (by decide)⟩
    · intro XL post K
      rw [hlen] at K
      refine H XL post ⟨no 2 0 _ e (by decide), no 2 1 _ e (by decide), fun _ => ?_, no 2 3 _ e (by decide), no 2 4 _ e (by decide), no 2 5 _ e (by decide), fun z => absurd z (by rw [e]; decide)⟩
      refine m_list (i := i) (by omega) ?_
      refine m_list (i := i + 1) (by omega) ?_
      unfold wp_Md_listAll_J208
      rw [n7]
      exact K
  · have e : β 6 j = 3 := ek
    rw [e, show qLn 3 = 1 by decide] at hlen
    refine ⟨(upd es i 2), (upd eg i 15), (upd eo i (β 7 j)), (upd ew i (nI j)), fun a ha s g v w h => (qAt_up h (by omega)), ?_, ?_⟩
    · unfold rLs
      rw [← hi]
      exact ⟨fun z => absurd (e.symm.trans z) (by decide), fun z => absurd (e.symm.trans z) (by decide), fun z => absurd (e.symm.trans z) (by decide), fun _ => (qAt_new _ _ _ _ _ _ _ _ _), fun z => absurd (e.symm.trans z) (by decide), fun z => absurd (e.symm.trans z) (by decide), fun z => absurd (e.symm.trans z) (by decide)⟩
    · intro XL post K
      rw [hlen] at K
      refine H XL post ⟨no 3 0 _ e (by decide), no 3 1 _ e (by decide), no 3 2 _ e (by decide), fun _ => ?_, no 3 4 _ e (by decide), no 3 5 _ e (by decide), fun z => absurd z (by rw [e]; decide)⟩
      refine m_list (i := i) (by omega) ?_
      unfold wp_Md_listAll_J208
      rw [n7]
      exact K
  · have e : β 6 j = 4 := ek
    rw [e, show qLn 4 = 3 by decide] at hlen
    refine ⟨(upd (upd (upd es i 2) (i + 1) 0) (i + 2) 0), (upd (upd (upd eg i 11) (i + 1) 0) (i + 2) 0), (upd (upd (upd eo i (β 7 j)) (i + 1) (-1)) (i + 2) (-1)), (upd (upd (upd ew i (nI j)) (i + 1) (nI j)) (i + 2) (nI j)), fun a ha s g v w h => (qAt_up (qAt_up (qAt_up h (by omega)) (by omega)) (by omega)), ?_, ?_⟩
    · unfold rLs
      rw [← hi]
      exact ⟨fun z => absurd (e.symm.trans z) (by decide), fun z => absurd (e.symm.trans z) (by decide), fun z => absurd (e.symm.trans z) (by decide), fun z => absurd (e.symm.trans z) (by decide), fun _ => ⟨(qAt_up (qAt_up (qAt_new _ _ _ _ _ _ _ _ _) (by omega)) (by omega)), (qAt_up (qAt_new _ _ _ _ _ _ _ _ _) (by omega)), (qAt_new _ _ _ _ _ _ _ _ _)⟩, fun z => absurd (e.symm.trans z) (by decide), fun z => absurd (e.symm.trans z) (by decide)⟩
    · intro XL post K
      rw [hlen] at K
      refine H XL post ⟨no 4 0 _ e (by decide), no 4 1 _ e (by decide), no 4 2 _ e (by decide), no 4 3 _ e (by decide), fun _ => ?_, no 4 5 _ e (by decide), fun z => absurd z (by rw [e]; decide)⟩
      refine m_list (i := i) (by omega) ?_
      refine m_list (i := i + 1) (by omega) ?_
      refine m_list (i := i + 2) (by omega) ?_
      unfold wp_Md_listAll_J208
      rw [n7]
      exact K
  · have e : β 6 j = 5 := ek
    rw [e, show qLn 5 = 1 by decide] at hlen
    refine ⟨(upd es i 13), (upd eg i 2), (upd eo i (β 9 j)), (upd ew i (nI j)), fun a ha s g v w h => (qAt_up h (by omega)), ?_, ?_⟩
    · unfold rLs
      rw [← hi]
      exact ⟨fun z => absurd (e.symm.trans z) (by decide), fun z => absurd (e.symm.trans z) (by decide), fun z => absurd (e.symm.trans z) (by decide), fun z => absurd (e.symm.trans z) (by decide), fun z => absurd (e.symm.trans z) (by decide), fun _ => (qAt_new _ _ _ _ _ _ _ _ _), fun z => absurd (e.symm.trans z) (by decide)⟩
    · intro XL post K
      rw [hlen] at K
      refine H XL post ⟨no 5 0 _ e (by decide), no 5 1 _ e (by decide), no 5 2 _ e (by decide), no 5 3 _ e (by decide), no 5 4 _ e (by decide), fun _ => ?_, fun z => absurd z (by rw [e]; decide)⟩
      refine m_list (i := i) (by omega) ?_
      unfold wp_Md_listAll_J208
      rw [n7]
      exact K
  · have e : β 6 j = 6 := ek
    rw [e, show qLn 6 = 1 by decide] at hlen
    refine ⟨(upd es i 0), (upd eg i 1), (upd eo i (-1)), (upd ew i (nI j)), fun a ha s g v w h => (qAt_up h (by omega)), ?_, ?_⟩
    · unfold rLs
      rw [← hi]
      exact ⟨fun z => absurd (e.symm.trans z) (by decide), fun z => absurd (e.symm.trans z) (by decide), fun z => absurd (e.symm.trans z) (by decide), fun z => absurd (e.symm.trans z) (by decide), fun z => absurd (e.symm.trans z) (by decide), fun z => absurd (e.symm.trans z) (by decide), fun _ => (qAt_new _ _ _ _ _ _ _ _ _)⟩
    · intro XL post K
      rw [hlen] at K
      refine H XL post ⟨no 6 0 _ e (by decide), no 6 1 _ e (by decide), no 6 2 _ e (by decide), no 6 3 _ e (by decide), no 6 4 _ e (by decide), no 6 5 _ e (by decide), fun _ => ?_⟩
      refine m_list (i := i) (by omega) ?_
      unfold wp_Md_listAll_J208
      rw [n7]
      exact K
theorem m_listAll {s : Nat} (hs0 : 0 < s) (hs : s ≤ 12) (e23 : μ 23 = nI s) (hop : ∀ j, j < s → ∃ k : Nat, k < 7 ∧ β 6 j = nI k) : ∃ (tot : Nat) (es eg eo ew : Nat → Int32), (∀ post, post (va_up μ 24 (nI tot), qB β es eg eo ew) → wp_Md_listAll μ β post) ∧ (∀ j, j < s → rLs (β 6) (β 7) (β 8) (β 9) es eg eo ew j) ∧ ((β 6 (s - 1) = 6 ∧ tot = qOff (β 6) s) ∨ (¬ β 6 (s - 1) = 6 ∧ tot = qOff (β 6) s + 1 ∧ qAt es eg eo ew (qOff (β 6) s) 0 1 (-1) (-1))) := by
  have key : ∀ (m j : Nat) (es eg eo ew : Nat → Int32), j + m = s → (∀ j', j' < j → rLs (β 6) (β 7) (β 8) (β 9) es eg eo ew j') → ∃ (tot : Nat) (es' eg' eo' ew' : Nat → Int32), (∀ post, post (va_up μ 24 (nI tot), qB β es' eg' eo' ew') → wp_Md_listAll_L7 (va_up μ 24 (nI (qOff (β 6) j))) (qB β es eg eo ew) (nI j) post) ∧ (∀ j, j < s → rLs (β 6) (β 7) (β 8) (β 9) es' eg' eo' ew' j) ∧ ((β 6 (s - 1) = 6 ∧ tot = qOff (β 6) s) ∨ (¬ β 6 (s - 1) = 6 ∧ tot = qOff (β 6) s + 1 ∧ qAt es' eg' eo' ew' (qOff (β 6) s) 0 1 (-1) (-1))) := by
    intro m
    induction m with
    | zero =>
      intro j es eg eo ew hjs hls
      have hj : j = s := by omega
      subst hj
      have ho := (qOff_le (β 6) j).1
      have ep : nI j - 1 = nI (j - 1) := pk_sub (b := 1) hs0
      have B : ∀ (XL : (Nat → Int32) → (Nat → Nat → Int32) → Int32 → Prop) (post : gS → Prop), (β 6 (j - 1) = 6 → post (va_up μ 24 (nI (qOff (β 6) j)), qB β es eg eo ew)) → (¬ β 6 (j - 1) = 6 → wp_Md_list (va_up μ 24 (nI (qOff (β 6) j))) (qB β es eg eo ew) 0 1 (-1) (-1) (fun u235 => post (u235.1, u235.2))) → wp_Md_listAll_B7 XL (va_up μ 24 (nI (qOff (β 6) j))) (qB β es eg eo ew) (nI j) post := by
        intro XL post p1 p2
        unfold wp_Md_listAll_B7 wp_Md_listAll_J238
        refine br_t ?_ ?_
        · show μ 23 ≤ nI j
          rw [e23]
          exact nI_le (Nat.le_refl j) (by omega)
        · have e' : (va_up μ 24 (nI (qOff (β 6) j))) 23 - 1 = nI (j - 1) := by
            show μ 23 - 1 = _
            rw [e23, ep]
          rw [e', nI_clamp (by omega)]
          exact ⟨vp_in_nI (by omega) (by decide), p1, p2⟩
      by_cases z : β 6 (j - 1) = 6
      · refine ⟨qOff (β 6) j, es, eg, eo, ew, ?_, hls, Or.inl ⟨z, rfl⟩⟩
        intro post hp X hX
        exact hX _ _ _ (B X post (fun _ => hp) (fun y => absurd z y))
      · refine ⟨qOff (β 6) j + 1, upd es (qOff (β 6) j) 0, upd eg (qOff (β 6) j) 1, upd eo (qOff (β 6) j) (-1), upd ew (qOff (β 6) j) (-1), ?_, ?_, Or.inr ⟨z, rfl, qAt_new _ _ _ _ _ _ _ _ _⟩⟩
        · intro post hp X hX
          exact hX _ _ _ (B X post (fun y => absurd y z) (fun _ => m_list (by omega) hp))
        · intro j' hj'
          exact rLs_keep (qOff_mono (β 6) (show j' + 1 ≤ j by omega)) (fun a ha s g v w h => qAt_up h (by omega)) (hls j' hj')
    | succ m ih =>
      intro j es eg eo ew hjs hls
      -- the arrays behind this statement
      have ex : ∃ es1 eg1 eo1 ew1 : Nat → Int32, qKeep (qOff (β 6) j) es eg eo ew es1 eg1 eo1 ew1 ∧ rLs (β 6) (β 7) (β 8) (β 9) es1 eg1 eo1 ew1 j ∧ ∀ (XL : (Nat → Int32) → (Nat → Nat → Int32) → Int32 → Prop) (post : gS → Prop), XL (va_up μ 24 (nI (qOff (β 6) (j + 1)))) (qB β es1 eg1 eo1 ew1) (nI (j + 1)) → wp_Md_listAll_B7 XL (va_up μ 24 (nI (qOff (β 6) j))) (qB β es eg eo ew) (nI j) post := m_listEx hs (by omega) e23 (hop j (by omega))
      obtain ⟨es1, eg1, eo1, ew1, q1, q2, q3⟩ := ex
      obtain ⟨tot, es', eg', eo', ew', p1, p2, p3⟩ := ih (j + 1) es1 eg1 eo1 ew1 (by omega) (fun j' hj' => by
        by_cases z : j' = j
        · rw [z]; exact q2
        · exact rLs_keep (qOff_mono (β 6) (show j' + 1 ≤ j by omega)) q1 (hls j' (by omega)))
      refine ⟨tot, es', eg', eo', ew', ?_, p2, p3⟩
      intro post hp X hX
      exact hX _ _ _ (q3 X post (p1 post hp X hX))
  obtain ⟨tot, es, eg, eo, ew, p1, p2, p3⟩ := key s 0 (β 11) (β 12) (β 13) (β 14) (by omega) (fun j hj => absurd hj (Nat.not_lt_zero j))
  refine ⟨tot, es, eg, eo, ew, ?_, p2, p3⟩
  intro post hp
  have t := p1 post hp
  rw [qB_id] at t
  exact t
end PJ
end
section
-- pure rows: one order is placed, on both sides
def qLb (p q : Nat) : Nat := 32768 * ((q + 126 - p) % 32) + 1048576 * (q / 32)
theorem q_or15 {b t l : Nat} (hb : b < 32768) (ht : t < 32) (hl : l < 2) : b ||| (t * 32768 ||| l * 1048576) = b + 32768 * t + 1048576 * l := by
  have p15 : (2 : Nat) ^ 15 = 32768 := by decide
  have p20 : (2 : Nat) ^ 20 = 1048576 := by decide
  have h1 : t * 32768 ||| l * 1048576 = (l * 32 + t) * 32768 := by
    have h := Nat.shiftLeft_add_eq_or_of_lt (b := t * 32768) (i := 20) (by omega) l
    rw [Nat.shiftLeft_eq, p20] at h
    rw [Nat.or_comm, ← h]
    omega
  have h2 : b ||| (l * 32 + t) * 32768 = (l * 32 + t) * 32768 + b := by
    have h := Nat.shiftLeft_add_eq_or_of_lt (b := b) (i := 15) (by omega) (l * 32 + t)
    rw [Nat.shiftLeft_eq, p15] at h
    rw [Nat.or_comm, ← h]
  rw [h1, h2]
  omega
/-- (q - p - 2) round -/
theorem q_tim {p q : Nat} (hp : p < 64) (hq : q < 64) : (nI q - nI p - 2) &&& 31 = nI ((q + 126 - p) % 32) := by
  have e : nI q - nI p - 2 = nI q - nI (p + 2) := by
    have : nI (p + 2) = nI p + 2 := (nI_add p 2).symm
    rw [this]
    grind
  rw [e, q_sub31 q (p + 2) (by omega) (by omega)]
  congr 1
  omega
theorem q_lead {b p q : Nat} (hb : b < 32768) (hp : p < 64) (hq : q < 64) : nI b ||| ((((nI q - nI p) - 2) &&& 31) <<< ((15 : Int32) &&& 31) ||| (nI q / 32) <<< ((20 : Int32) &&& 31)) = nI (b + qLb p q) := by
  have e1 : nI q / 32 = nI (q / 32) := pk_div (d := 32) (by omega) (by decide) (by decide)
  have hm : (q + 126 - p) % 32 < 32 := Nat.mod_lt _ (by decide)
  have hd : q / 32 < 2 := by omega
  rw [q_tim hp hq, e1, pk_shlN _ 15 (by decide) (by omega), pk_shlN _ 20 (by decide) (by omega), q_or, q_or]
  unfold qLb
  congr 1
  have := q_or15 hb hm hd
  rw [show (2 : Nat) ^ 15 = 32768 by decide, show (2 : Nat) ^ 20 = 1048576 by decide, this]
  omega
/-- the same as the second side spells it -/
theorem q_leadM {b p q : Nat} (hb : b < 32768) (hp : p < 64) (hq : q < 64) : (nI b ||| ((((nI q - nI p) - 2) &&& 31) <<< ((15 : Int32) &&& 31))) ||| ((nI q >>> ((5 : Int32) &&& 31)) <<< ((20 : Int32) &&& 31)) = nI (b + qLb p q) := by
  have e1 : nI q >>> ((5 : Int32) &&& 31) = nI q / 32 := by
    have a : nI q / 32 = nI (q / 32) := pk_div (d := 32) (by omega) (by decide) (by decide)
    rw [a]
    exact pk_shrN (by omega) _ 5 (by decide)
  rw [e1, Int32.or_assoc]
  exact q_lead hb hp hq
theorem q_word {s g w : Nat} (hs : s < 16) (hg : g < 16) (hw : w < 32) : (nI s ||| (nI g <<< ((4 : Int32) &&& 31))) ||| (nI w <<< ((10 : Int32) &&& 31)) = nI (s + 16 * g + 1024 * w) := by
  rw [pk_shlN _ 4 (by decide) (by omega), pk_shlN _ 10 (by decide) (by omega), q_or, q_or]
  congr 1
  have h1 : s ||| g * 2 ^ 4 = g * 16 + s := by
    have := Nat.shiftLeft_add_eq_or_of_lt (a := g) (b := s) (i := 4) (by omega)
    rw [Nat.shiftLeft_eq] at this
    rw [Nat.or_comm, ← this]
  have h2 : (g * 16 + s) ||| w * 2 ^ 10 = w * 1024 + (g * 16 + s) := by
    have := Nat.shiftLeft_add_eq_or_of_lt (a := w) (b := g * 16 + s) (i := 10) (by omega)
    rw [Nat.shiftLeft_eq] at this
    rw [Nat.or_comm, ← this]
  rw [h1, h2]
  omega
def qNx (kd : Nat → Nat) (i : Nat) : Nat := if kd i = 1 then i + 2 else i + 1
def qCw (kd bb sp wt : Nat → Nat) (c i : Nat) : Int32 := if kd i = 3 then 1015824 else if kd i = 2 then 0 else nI (bb i + 1024 * wt i + (if qNx kd i < c then qLb (sp i) (sp (qNx kd i)) else 0))
def qLd (kd sp : Nat → Nat) (c : Nat) : Int32 := if c = 0 then -1 else if kd (c - 1) = 3 then -1 else if kd (c - 1) = 2 then nI (sp (c - 2)) else nI (sp (c - 1))
def rPX (fr hb : Nat → Bool) (vp : Nat → Int32) (f : Nat) (σ : Nat → Int32) (α : Nat → Nat → Int32) : Prop := σ 36 = 1 ∧ σ 33 = nI f ∧ f < 32 ∧ (∀ q, q < 64 → (α 25 q = -1 ↔ fr q = true)) ∧ (∀ p, p < 32 → (α 26 p = -1 ↔ hb p = false)) ∧ (∀ v, v < 16 → α 27 v = vp v)
def rPM (fr hb : Nat → Bool) (vp : Nat → Int32) (β : Nat → Nat → Int32) : Prop := (∀ q, q < 64 → (β 17 q = 0 ↔ fr q = true)) ∧ (∀ p, p < 32 → (β 18 p = 0 ↔ hb p = false)) ∧ (∀ v, v < 16 → β 19 v = vp v)
def rAb (hb : Nat → Bool) (vp : Nat → Int32) : Prop := (∀ v, v < 16 → vp v = -1 ∨ ∃ p : Nat, p < 32 ∧ vp v = nI p ∧ hb p = true) ∧ qCt hb 32 ≤ qCt (fun v => decide (vp v ≠ -1)) 16
def rCt (kd bb sp wt : Nat → Nat) (c : Nat) (fr : Nat → Bool) (σ : Nat → Int32) (α : Nat → Nat → Int32) : Prop := σ 34 = qLd kd sp c ∧ σ 35 = nI c ∧ (∀ i, i < c → sp i < 64 ∧ bb i + 1024 * wt i < 32768 ∧ α 25 (sp i) = qCw kd bb sp wt c i) ∧ (∀ i j, i < c → j < c → sp i = sp j → i = j) ∧ (∀ q, q < 64 → fr q = false → ∃ i, i < c ∧ q = sp i) ∧ (∀ i, i < c → fr (sp i) = false)
section PK
variable {σ μ : Nat → Int32} {α β : Nat → Nat → Int32} {fr : Nat → Bool}
-- behind a failure nothing more is placed
def rDead (σ : Nat → Int32) : Prop := σ 36 = 0 ∧ ∃ f : Nat, f < 32 ∧ σ 33 = nI f
theorem x_deadFree {P : Int32 → gS → Prop} (h : rDead σ) (hp : ∀ r, P r (σ, α)) : wp_Pl_freeSpot σ α P := by
  obtain ⟨-, f, hf, e⟩ := h
  exact x_freeSpot (fr := fun q => decide (α 25 q = -1)) (fun q _ => by simp) e hf (hp _)
theorem x_deadFork {P : Int32 → gS → Prop} (h : rDead σ) (hp : ∀ r, P r (σ, α)) : wp_Pl_forkSpot σ α P := by
  obtain ⟨-, f, hf, e⟩ := h
  exact x_forkSpot (fr := fun q => decide (α 25 q = -1)) (fun q _ => by simp) e hf (hp _)
theorem x_deadOrder {post : gS → Prop} {s g v : Int32} (h : rDead σ) (hp : post (σ, α)) : wp_Pl_placeOrder σ α s g v post := by
  unfold wp_Pl_placeOrder wp_Pl_placeOrder_J18
  refine x_deadFree h (fun r => br_t h.1 ?_)
  have e : va_up σ 36 0 = σ := by rw [← h.1]; exact q_upself σ 36
  show post (va_up σ 36 0, α)
  rw [e]
  exact hp
theorem x_deadStop {post : gS → Prop} (h : rDead σ) (hp : post (σ, α)) : wp_Pl_placeStop σ α post := by
  unfold wp_Pl_placeStop wp_Pl_placeStop_J30
  exact x_deadOrder h (br_t h.1 hp)
theorem x_deadForkP {post : gS → Prop} {j : Int32} (h : rDead σ) (hp : post (σ, α)) : wp_Pl_placeFork σ α j post := by
  unfold wp_Pl_placeFork wp_Pl_placeFork_J16
  refine x_deadFork h (fun r => br_t h.1 ?_)
  have e : va_up σ 36 0 = σ := by rw [← h.1]; exact q_upself σ 36
  show post (va_up σ 36 0, α)
  rw [e]
  exact hp
end PK
end
